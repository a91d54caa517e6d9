/-! counting edges -/
theorem sumI_z {n : Int} : sumI n (fun _ => 0) = 0 := by
  have key : ∀ n : Nat, sumN n (fun _ => 0) = 0 := by
    intro n
    induction n with
    | zero => rfl
    | succ n ih => show sumN n (fun _ => 0) + 0 = 0; rw [ih]; rfl
  exact key _
theorem sumI_ad {n : Int} {f g : Int → Int} : sumI n (fun i => f i + g i) = sumI n f + sumI n g := by
  have key : ∀ n : Nat, sumN n (fun i => f (i : Int) + g (i : Int)) = sumN n (fun i => f (i : Int)) + sumN n (fun i => g (i : Int)) := by
    intro n
    induction n with
    | zero => rfl
    | succ n ih =>
      show sumN n (fun i => f (i : Int) + g (i : Int)) + (f (n : Int) + g (n : Int)) = (sumN n (fun i => f (i : Int)) + f (n : Int)) + (sumN n (fun i => g (i : Int)) + g (n : Int))
      rw [ih]
      omega
  exact key _
theorem sumI_sw {n m : Int} {F : Int → Int → Int} : sumI n (fun a => sumI m (fun b => F a b)) = sumI m (fun b => sumI n (fun a => F a b)) := by
  have key : ∀ k : Nat, sumN k (fun a => sumI m (fun b => F (a : Int) b)) = sumI m (fun b => sumN k (fun a => F (a : Int) b)) := by
    intro k
    induction k with
    | zero => exact sumI_z.symm
    | succ k ih =>
      show sumN k (fun a => sumI m (fun b => F (a : Int) b)) + sumI m (fun b => F (k : Int) b) = sumI m (fun b => sumN k (fun a => F (a : Int) b) + F (k : Int) b)
      rw [ih, sumI_ad]
  exact key _
theorem sumI_dl {n k : Int} {g : Int → Int} (h0 : 0 ≤ k) (h1 : k < n) : sumI n (fun i => if i = k then g i else 0) = g k := by
  have := sumI_chg (N := n) (a := k) (g := fun _ => 0) (g' := fun i => if i = k then g i else 0) h0 h1 (fun i _ _ hi => if_neg hi)
  rw [this, sumI_z, if_pos rfl]
  omega
def ds (n : Int) (F : Int → Int → Int) : Int := sumI n (fun a => sumI n (fun b => F a b))
theorem ds_cg {n : Int} {F G : Int → Int → Int} (h : ∀ a b, 0 ≤ a → a < n → 0 ≤ b → b < n → F a b = G a b) : ds n F = ds n G := sumI_cg (fun a h0 h1 => sumI_cg (fun b h2 h3 => h a b h0 h1 h2 h3))
theorem ds_ad {n : Int} {F G : Int → Int → Int} : ds n (fun a b => F a b + G a b) = ds n F + ds n G := by
  unfold ds
  rw [← sumI_ad]
  exact sumI_cg (fun a _ _ => sumI_ad)
theorem ds_sw {n : Int} {F : Int → Int → Int} : ds n F = ds n (fun a b => F b a) := sumI_sw
theorem ds_dl {n i j : Int} {F : Int → Int → Int} (hi : 0 ≤ i ∧ i < n) (hj : 0 ≤ j ∧ j < n) : ds n (fun a b => if a = i ∧ b = j then F a b else 0) = F i j := by
  have e : ds n (fun a b => if a = i ∧ b = j then F a b else 0) = sumI n (fun a => if a = i then F a j else 0) := by
    refine sumI_cg (fun a _ _ => ?_)
    by_cases q : a = i
    · rw [if_pos q]
      have : sumI n (fun b => if b = j then F a b else 0) = F a j := sumI_dl hj.1 hj.2
      rw [← this]
      refine sumI_cg (fun b _ _ => ?_)
      show (if a = i ∧ b = j then F a b else 0) = if b = j then F a b else 0
      by_cases r : b = j
      · rw [if_pos ⟨q, r⟩, if_pos r]
      · rw [if_neg (fun z => r z.2), if_neg r]
    · rw [if_neg q]
      refine (sumI_cg (g := fun _ => 0) (fun b _ _ => ?_)).trans sumI_z
      show (if a = i ∧ b = j then F a b else 0) = 0
      exact if_neg (fun z => q z.1)
  rw [e]
  exact sumI_dl (g := fun a => F a j) hi.1 hi.2
theorem ds_0 {n : Int} : ds n (fun _ _ => 0) = 0 := by
  have e : ds n (fun _ _ => 0) = sumI n (fun _ => 0) := sumI_cg (fun _ _ _ => sumI_z)
  rw [e, sumI_z]
def cnt (l : List tr3) (a b : Int) : Int := lsm (fun t => b01 (edg t a b)) l
theorem ds_tri {n : Int} {F : Int → Int → Int} {t : tr3} (ht : (0 ≤ t.1 ∧ t.1 < n) ∧ (0 ≤ t.2.1 ∧ t.2.1 < n) ∧ (0 ≤ t.2.2 ∧ t.2.2 < n)) (hd : ¬ t.1 = t.2.1 ∧ ¬ t.2.1 = t.2.2 ∧ ¬ t.2.2 = t.1) : ds n (fun a b => b01 (edg t a b) * F a b) = bd F t := by
  have e : ds n (fun a b => b01 (edg t a b) * F a b) = ds n (fun a b => ((if a = t.1 ∧ b = t.2.1 then F a b else 0) + (if a = t.2.1 ∧ b = t.2.2 then F a b else 0)) + (if a = t.2.2 ∧ b = t.1 then F a b else 0)) := by
    refine ds_cg (fun a b _ _ _ _ => ?_)
    by_cases q : edg t a b
    · rw [b01_t q, Int.one_mul]
      unfold edg at q
      omega
    · rw [b01_f q, Int.zero_mul]
      unfold edg at q
      omega
  rw [e, ds_ad, ds_ad, ds_dl ht.1 ht.2.1, ds_dl ht.2.1 ht.2.2, ds_dl ht.2.2 ht.1]
  rfl
theorem ds_cnt {n : Int} {F : Int → Int → Int} : ∀ {l : List tr3}, Rt n l → Dst l → ds n (fun a b => cnt l a b * F a b) = lsm (bd F) l
  | [], _, _ => by
    have e : ds n (fun a b => cnt [] a b * F a b) = ds n (fun _ _ => 0) := ds_cg (fun a b _ _ _ _ => by
      show (0 : Int) * F a b = 0
      exact Int.zero_mul _)
    rw [e, ds_0]
    rfl
  | t :: l, hT, hD => by
    have e : ds n (fun a b => cnt (t :: l) a b * F a b) = ds n (fun a b => b01 (edg t a b) * F a b + cnt l a b * F a b) := ds_cg (fun a b _ _ _ _ => by
      show (b01 (edg t a b) + cnt l a b) * F a b = _
      rw [Int.add_mul])
    rw [e, ds_ad, ds_tri (hT t List.mem_cons_self) (hD t List.mem_cons_self), ds_cnt (fun x hx => hT x (List.mem_cons_of_mem _ hx)) (fun x hx => hD x (List.mem_cons_of_mem _ hx))]
    rfl
theorem cnt_01 {v : mz_G} {l : List tr3} {p : Nat → List Int} (hG : GP v l p) (a b : Int) : (cnt l a b = 0 ∧ ∀ t ∈ l, ¬ edg t a b) ∨ (cnt l a b = 1 ∧ ∃ t ∈ l, edg t a b) := by
  have h1 := de_one hG a b
  have h0 : 0 ≤ cnt l a b := lsm_nn (fun t _ => by rcases b01_01 (P := edg t a b) with z | z <;> omega)
  by_cases q : cnt l a b = 0
  · left
    refine ⟨q, fun t ht z => ?_⟩
    have := lsm_mem (f := fun t => b01 (edg t a b)) (fun t _ => by rcases b01_01 (P := edg t a b) with z | z <;> omega) ht
    have e : b01 (edg t a b) = 1 := b01_t z
    have : b01 (edg t a b) ≤ cnt l a b := this
    omega
  · right
    obtain ⟨t, ht, h2⟩ := lsm_ex q
    have : cnt l a b ≤ 1 := h1
    exact ⟨by omega, t, ht, b01_ne0 h2⟩
theorem cnt_apx {v : mz_G} {l : List tr3} {p : Nat → List Int} (hG : GP v l p) (a b : Int) : cnt l a b = b01 (¬ apx l a b = -1) := by
  have hs := (sid_apx (a := a) (b := b) hG.1.2.1).1
  rcases cnt_01 hG a b with ⟨h1, h2⟩ | ⟨h1, t, ht, h2⟩
  · rw [h1, b01_f]
    intro z
    apply z
    rw [← hs]
    unfold sid
    rw [fstI_nn]
    intro i h0 hl
    exact h2 _ (tg_mem h0 hl)
  · rw [h1, b01_t]
    intro z
    rw [← hs] at z
    unfold sid at z
    obtain ⟨i, i0, i1, i2⟩ := lmem_tg ht
    apply fstI_nn.mp z i i0 i1
    rw [i2]
    exact h2
/-- edges of a way -/
def pEd : Int → List Int → Int → Int → Prop
  | _, [], _, _ => False
  | a, b :: r, x, y => (a = x ∧ b = y) ∨ pEd b r x y
theorem pS_ce {f g : Int → Int → Int} : ∀ {r : List Int} {a : Int}, (∀ x y, pEd a r x y → f x y = g x y) → pS f a r = pS g a r
  | [], a, _ => rfl
  | b :: r, a, h => by
    simp only [pS]
    rw [h a b (Or.inl ⟨rfl, rfl⟩), pS_ce (fun x y z => h x y (Or.inr z))]
theorem pEd_M {c : Int → Int} {M : Int → Prop} {e x y : Int} : ∀ {r : List Int} {a : Int}, Pth c M e a r → M a → pEd a r x y → M x ∧ M y ∧ c x < c y
  | [], a, _, _, h => h.elim
  | b :: r, a, hp, ha, h => by
    obtain ⟨h1, h2, h3⟩ := hp
    rcases h with ⟨rfl, rfl⟩ | h
    · exact ⟨ha, h2, h1⟩
    · exact pEd_M h3 h2 h
theorem pS_g0 {c : Int → Int} {M : Int → Prop} {e : Int} {f : Int → Int → Int} (hf : ∀ x y, M x → M y → c x < c y → 0 ≤ f x y) : ∀ {r : List Int} {a : Int}, Pth c M e a r → M a → 0 ≤ pS f a r
  | [], a, _, _ => Int.le_refl 0
  | b :: r, a, hp, ha => by
    obtain ⟨h1, h2, h3⟩ := hp
    have := hf a b ha h2 h1
    have := pS_g0 hf h3 h2
    simp only [pS]
    omega
theorem pS_g1 {c : Int → Int} {M : Int → Prop} {e x y : Int} {f : Int → Int → Int} (hf : ∀ x y, M x → M y → c x < c y → 0 ≤ f x y) : ∀ {r : List Int} {a : Int}, Pth c M e a r → M a → pEd a r x y → f x y ≤ pS f a r
  | [], a, _, _, h => h.elim
  | b :: r, a, hp, ha, h => by
    obtain ⟨h1, h2, h3⟩ := hp
    simp only [pS]
    rcases h with ⟨rfl, rfl⟩ | h
    · have := pS_g0 hf h3 h2
      omega
    · have := hf a b ha h2 h1
      have := pS_g1 hf h3 h2 h
      omega
/-- two sides have one point in common at the most -/
theorem sM_2 {v : mz_G} {s s' : Nat} {x y : Int} (hR : Rg v) (hs : s < 4) (hs' : s' < 4) (hne : ¬ s = s') (h1 : sM v s x) (h2 : sM v s y) (h3 : sM v s' x) (h4 : sM v s' y) : gx v 0 x = gx v 0 y ∧ gy v 0 x = gy v 0 y := by
  have hW := hR.1
  have hH := hR.2.1
  have a1 := h1.2.1
  have a2 := h2.2.1
  have a3 := h3.2.1
  have a4 := h4.2.1
  rcases (show s = 0 ∨ s = 1 ∨ s = 2 ∨ s = 3 by omega) with rfl | rfl | rfl | rfl <;> rcases (show s' = 0 ∨ s' = 1 ∨ s' = 2 ∨ s' = 3 by omega) with rfl | rfl | rfl | rfl <;> first | (exact absurd rfl hne) | (simp only [cN] at a1 a2 a3 a4; omega)
theorem cT_ne {v : mz_G} {s : Nat} {x y : Int} (h : cT v 0 s x < cT v 0 s y) : ¬ (gx v 0 x = gx v 0 y ∧ gy v 0 x = gy v 0 y) := by
  intro z
  have : cT v 0 s x = cT v 0 s y := by
    unfold cT
    rw [z.1, z.2]
  omega
def dlt (x y i j : Int) : Int := b01 (i = x ∧ j = y) - b01 (i = y ∧ j = x)
theorem b01_cg {P Q : Prop} [Decidable P] [Decidable Q] (h : P ↔ Q) : b01 P = b01 Q := by
  by_cases q : P
  · rw [b01_t q, b01_t (h.mp q)]
  · rw [b01_f q, b01_f (fun z => q (h.mpr z))]
theorem dlt_An {x y : Int} : An (dlt x y) := fun a b => by
  unfold dlt
  rw [b01_cg (P := a = x ∧ b = y) (Q := b = y ∧ a = x) (by omega), b01_cg (P := a = y ∧ b = x) (Q := b = x ∧ a = y) (by omega)]
  omega
theorem b01_3 {P Q R : Prop} [Decidable P] [Decidable Q] [Decidable R] (h1 : ¬ (P ∧ Q)) (h2 : ¬ (Q ∧ R)) (h3 : ¬ (P ∧ R)) : b01 P + b01 Q + b01 R = b01 (P ∨ Q ∨ R) := by
  by_cases p : P <;> by_cases q : Q <;> by_cases r : R
  · exact absurd ⟨p, q⟩ h1
  · exact absurd ⟨p, q⟩ h1
  · exact absurd ⟨p, r⟩ h3
  · rw [b01_t p, b01_f q, b01_f r, b01_t (Or.inl p)]; rfl
  · exact absurd ⟨q, r⟩ h2
  · rw [b01_f p, b01_t q, b01_f r, b01_t (Or.inr (Or.inl q))]; rfl
  · rw [b01_f p, b01_f q, b01_t r, b01_t (Or.inr (Or.inr r))]; rfl
  · rw [b01_f p, b01_f q, b01_f r, b01_f (fun z => by rcases z with z | z | z; exact p z; exact q z; exact r z)]; rfl
theorem dlt_bd {l : List tr3} (hD : Dst l) {x y : Int} : lsm (bd (dlt x y)) l = cnt l x y - cnt l y x := by
  have e : lsm (bd (dlt x y)) l + cnt l y x = cnt l x y := by
    unfold cnt
    rw [← lsm_add]
    refine lsm_cg (fun t ht => ?_)
    have hd := hD t ht
    have a1 : b01 (t.1 = x ∧ t.2.1 = y) + b01 (t.2.1 = x ∧ t.2.2 = y) + b01 (t.2.2 = x ∧ t.1 = y) = b01 (edg t x y) := b01_3 (by omega) (by omega) (by omega)
    have a2 : b01 (t.1 = y ∧ t.2.1 = x) + b01 (t.2.1 = y ∧ t.2.2 = x) + b01 (t.2.2 = y ∧ t.1 = x) = b01 (edg t y x) := b01_3 (by omega) (by omega) (by omega)
    unfold bd dlt
    omega
  omega
/-- each edge along a side is one triangle's, and its other direction is none's -/
theorem chi_1 {v : mz_G} {l : List tr3} {p : Nat → List Int} (hG : GP v l p) {s : Nat} (hs : s < 4) {x y : Int} (h : pEd (s : Int) (p s) x y) : cnt l x y - cnt l y x = 1 := by
  obtain ⟨⟨hR, hT, hP0, -⟩, g1, g2, hC, hH⟩ := id hG
  have hm := pEd_M (g2 s hs).1 (Crn_M hR hC hs) h
  have hne := cT_ne hm.2.2
  have hxy : ¬ x = y := fun z => hne (by rw [z]; exact ⟨rfl, rfl⟩)
  have hf : ∀ s' : Nat, s' < 4 → ∀ i j, sM v s' i → sM v s' j → cT v 0 s' i < cT v 0 s' j → 0 ≤ dlt x y i j := by
    intro s' hs' i j hi hj hlt
    have : ¬ (i = y ∧ j = x) := by
      rintro ⟨rfl, rfl⟩
      by_cases q : s = s'
      · subst q
        have := hm.2.2
        omega
      · exact hne (sM_2 hR hs hs' q hm.1 hm.2.1 hj hi)
    unfold dlt
    rw [b01_f this]
    rcases b01_01 (P := i = x ∧ j = y) with z | z <;> omega
  have e1 := g1 _ (dlt_An (x := x) (y := y))
  rw [dlt_bd (Pos_Dst hP0)] at e1
  have k : ∀ s' : Nat, s' < 4 → 0 ≤ pS (dlt x y) (s' : Int) (p s') := fun s' hs' => pS_g0 (hf s' hs') (g2 s' hs').1 (Crn_M hR hC hs')
  have k0 : 0 ≤ pS (dlt x y) 0 (p 0) := k 0 (by decide)
  have k1 : 0 ≤ pS (dlt x y) 1 (p 1) := k 1 (by decide)
  have k2 : 0 ≤ pS (dlt x y) 2 (p 2) := k 2 (by decide)
  have k3 : 0 ≤ pS (dlt x y) 3 (p 3) := k 3 (by decide)
  have kk := pS_g1 (hf s hs) (g2 s hs).1 (Crn_M hR hC hs) h
  have e2 : dlt x y x y = 1 := by
    unfold dlt
    rw [b01_t ⟨rfl, rfl⟩, b01_f (fun z => hxy z.1)]
    rfl
  have c1 := cnt_01 hG x y
  have c2 := cnt_01 hG y x
  have hge : 1 ≤ pS (dlt x y) 0 (p 0) + pS (dlt x y) 1 (p 1) + pS (dlt x y) 2 (p 2) + pS (dlt x y) 3 (p 3) := by
    rw [e2] at kk
    rcases (show s = 0 ∨ s = 1 ∨ s = 2 ∨ s = 3 by omega) with rfl | rfl | rfl | rfl
    · have kk : 1 ≤ pS (dlt x y) 0 (p 0) := kk
      omega
    · have kk : 1 ≤ pS (dlt x y) 1 (p 1) := kk
      omega
    · have kk : 1 ≤ pS (dlt x y) 2 (p 2) := kk
      omega
    · have kk : 1 ≤ pS (dlt x y) 3 (p 3) := kk
      omega
  rcases c1 with ⟨c1, -⟩ | ⟨c1, -⟩ <;> rcases c2 with ⟨c2, -⟩ | ⟨c2, -⟩ <;> omega
def blen (p : Nat → List Int) : Int := ((p 0).length : Int) + ((p 1).length : Int) + ((p 2).length : Int) + ((p 3).length : Int)
theorem eu_of {v : mz_G} {l : List tr3} {p : Nat → List Int} (hG : GP v l p) (hl : (l.length : Int) = 2 * v 0 2 - 2 - blen p) : EU v l := by
  obtain ⟨⟨hR, hT, hP0, -⟩, g1, g2, hC, hH⟩ := id hG
  have hD := Pos_Dst hP0
  have c01 : ∀ a b, cnt l a b = 0 ∨ cnt l a b = 1 := fun a b => by rcases cnt_01 hG a b with ⟨z, -⟩ | ⟨z, -⟩ <;> omega
  have caa : ∀ a, cnt l a a = 0 := fun a => lsm_z (fun t ht => b01_f (fun z => by
    have := hD t ht
    unfold edg at z
    omega))
  have hh : ∀ a b, hld l a b = cnt l a b + cnt l b a := fun a b => by
    unfold hld
    rw [cnt_apx hG a b, cnt_apx hG b a]
  have hbd : ∀ s : Nat, s < 4 → pS (fun a b => cnt l a b - cnt l b a) (s : Int) (p s) = ((p s).length : Int) := by
    intro s hs
    rw [← pS_one (r := p s) (a := (s : Int))]
    exact pS_ce (fun x y z => chi_1 hG hs z)
  have b0 : pS (fun a b => cnt l a b - cnt l b a) 0 (p 0) = ((p 0).length : Int) := hbd 0 (by decide)
  have b1 : pS (fun a b => cnt l a b - cnt l b a) 1 (p 1) = ((p 1).length : Int) := hbd 1 (by decide)
  have b2 : pS (fun a b => cnt l a b - cnt l b a) 2 (p 2) = ((p 2).length : Int) := hbd 2 (by decide)
  have b3 : pS (fun a b => cnt l a b - cnt l b a) 3 (p 3) = ((p 3).length : Int) := hbd 3 (by decide)
  have s1 : ds (v 0 2) (fun a b => cnt l a b) = 3 * (l.length : Int) := by
    have e := ds_cnt (n := v 0 2) (F := fun _ _ => 1) hT hD
    have e2 : lsm (bd (fun _ _ => 1)) l = 3 * (l.length : Int) := by
      rw [← lsm_len]
      rfl
    rw [e2] at e
    rw [← e]
    exact ds_cg (fun a b _ _ _ _ => (Int.mul_one _).symm)
  have s2 : ds (v 0 2) (fun a b => cnt l a b * (cnt l a b - cnt l b a)) = blen p := by
    rw [ds_cnt (n := v 0 2) (F := fun a b => cnt l a b - cnt l b a) hT hD, g1 _ (fun a b => by omega), b0, b1, b2, b3]
    rfl
  constructor
  · have e1 : eco (v 0 2) (fun a b => 0 < hld l a b) = ds (v 0 2) (fun a b => b01 (a < b ∧ 0 < hld l a b)) := rfl
    have e2 : ds (v 0 2) (fun a b => b01 (a < b ∧ 0 < hld l a b)) = ds (v 0 2) (fun a b => b01 (b < a ∧ 0 < hld l a b)) := by
      rw [ds_sw]
      refine ds_cg (fun a b _ _ _ _ => ?_)
      rw [show hld l b a = hld l a b by rw [hh, hh]; omega]
    have e3 : ds (v 0 2) (fun a b => b01 (a < b ∧ 0 < hld l a b) + b01 (b < a ∧ 0 < hld l a b)) = ds (v 0 2) (fun a b => cnt l a b + (fun a b => cnt l b a * (cnt l b a - cnt l a b)) a b) := by
      refine ds_cg (fun a b _ _ _ _ => ?_)
      show _ = cnt l a b + cnt l b a * (cnt l b a - cnt l a b)
      rw [hh]
      rcases (show a < b ∨ a = b ∨ b < a by omega) with q | q | q
      · rw [b01_f (show ¬ (b < a ∧ 0 < cnt l a b + cnt l b a) from fun z => by omega)]
        rcases c01 a b with z1 | z1 <;> rcases c01 b a with z2 | z2 <;> rw [z1, z2]
        · rw [b01_f (by omega)]; rfl
        · rw [b01_t (by omega)]; rfl
        · rw [b01_t (by omega)]; rfl
        · rw [b01_t (by omega)]; rfl
      · rw [q, caa, b01_f (by omega)]
        rfl
      · rw [b01_f (show ¬ (a < b ∧ 0 < cnt l a b + cnt l b a) from fun z => by omega)]
        rcases c01 a b with z1 | z1 <;> rcases c01 b a with z2 | z2 <;> rw [z1, z2]
        · rw [b01_f (by omega)]; rfl
        · rw [b01_t (by omega)]; rfl
        · rw [b01_t (by omega)]; rfl
        · rw [b01_t (by omega)]; rfl
    rw [ds_ad, ds_ad, ← e2, s1, ← ds_sw (F := fun a b => cnt l a b * (cnt l a b - cnt l b a)), s2, ← e1] at e3
    omega
  · have e1 : eco (v 0 2) (fun a b => rtt v l a b = 0) = ds (v 0 2) (fun a b => trs v l a b) := rfl
    have e2 : tsum v l = lsm (bd (trs v l)) l := by
      unfold tsum
      exact lsm_sum (F := bd (trs v l))
    rw [e1, e2, ← ds_cnt (n := v 0 2) hT hD]
    refine ds_cg (fun a b _ _ _ _ => ?_)
    unfold trs
    by_cases q : a < b ∧ rtt v l a b = 0
    · rw [b01_t q, cnt_apx hG, b01_t (rtt0 q.2).2.2.1]
      rfl
    · rw [b01_f q, Int.mul_zero]
