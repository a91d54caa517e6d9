/-! the link of a knot that goes -/
theorem lk1_c {k : Int} {t : tr3} (hd : ¬ t.1 = t.2.1 ∧ ¬ t.2.1 = t.2.2 ∧ ¬ t.2.2 = t.1) : (¬ hasK t k ∧ lk1 k t = []) ∨ ∃ x y, lk1 k t = [(x, y)] ∧ hasK t k ∧ (t = (k, x, y) ∨ t = (y, k, x) ∨ t = (x, y, k)) ∧ ¬ x = k ∧ ¬ y = k ∧ ¬ x = y := by
  unfold lk1
  by_cases q1 : t.1 = k
  · right
    rw [if_pos q1]
    refine ⟨t.2.1, t.2.2, rfl, Or.inl q1, Or.inl ?_, by omega, by omega, hd.2.1⟩
    rw [← q1]
  · rw [if_neg q1]
    by_cases q2 : t.2.1 = k
    · right
      rw [if_pos q2]
      refine ⟨t.2.2, t.1, rfl, Or.inr (Or.inl q2), Or.inr (Or.inl ?_), by omega, by omega, hd.2.2⟩
      rw [← q2]
    · rw [if_neg q2]
      by_cases q3 : t.2.2 = k
      · right
        rw [if_pos q3]
        refine ⟨t.1, t.2.1, rfl, Or.inr (Or.inr q3), Or.inr (Or.inr ?_), by omega, by omega, hd.1⟩
        rw [← q3]
      · left
        rw [if_neg q3]
        exact ⟨fun z => by rcases z with z | z | z; exact q1 z; exact q2 z; exact q3 z, rfl⟩
theorem lk_S {l : List tr3} (hD : Dst l) {k : Int} {f : Int → Int → Int} : lsm (bd f) l = lsm (bd f) (l.filter (fun z => !decide (hasK z k))) + lsm (fun e => f k e.1 + f e.1 e.2 + f e.2 k) (lkOf l k) := by
  unfold lkOf
  rw [lsm_flt, lsm_fm, ← lsm_add]
  refine lsm_cg (fun t ht => ?_)
  rcases lk1_c (k := k) (hD t ht) with ⟨h1, h2⟩ | ⟨x, y, h1, h2, h3, -⟩
  · rw [if_pos (by simp [h1]), h2]
    exact (Int.add_zero _).symm
  · rw [if_neg (by simp [h2]), h1]
    show bd f t = 0 + (f k x + f x y + f y k + 0)
    unfold bd
    rcases h3 with rfl | rfl | rfl
    · show f k x + f x y + f y k = _
      omega
    · show f y k + f k x + f x y = _
      omega
    · show f x y + f y k + f k x = _
      omega
theorem lk_L {l : List tr3} (hD : Dst l) {k : Int} : (l.length : Int) = ((l.filter (fun z => !decide (hasK z k))).length : Int) + ((lkOf l k).length : Int) ∧ dgr l k = ((lkOf l k).length : Int) := by
  have l1 := lsm_len (l := l) (c := 1)
  have l2 := lsm_len (l := l.filter (fun z => !decide (hasK z k))) (c := 1)
  have l3 := lsm_len (l := lkOf l k) (c := 1)
  rw [Int.one_mul] at l1 l2 l3
  have l4 : dgr l k = lsm (fun t => b01 (hasK t k)) l := by
    unfold dgr
    exact lsm_sum (F := fun t => b01 (hasK t k))
  rw [l4, ← l1, ← l2, ← l3]
  unfold lkOf
  rw [lsm_flt, lsm_fm, ← lsm_add]
  constructor
  · refine lsm_cg (fun t ht => ?_)
    rcases lk1_c (k := k) (hD t ht) with ⟨h1, h2⟩ | ⟨x, y, h1, h2, h3, -⟩
    · rw [if_pos (by simp [h1]), h2]
      rfl
    · rw [if_neg (by simp [h2]), h1]
      rfl
  · refine lsm_cg (fun t ht => ?_)
    rcases lk1_c (k := k) (hD t ht) with ⟨h1, h2⟩ | ⟨x, y, h1, h2, h3, -⟩
    · rw [b01_f h1, h2]
      rfl
    · rw [b01_t h2, h1]
      rfl
theorem lk_C {l : List tr3} (hD : Dst l) {k w : Int} : cnt l k w = lsm (fun e => b01 (e.1 = w)) (lkOf l k) ∧ cnt l w k = lsm (fun e => b01 (e.2 = w)) (lkOf l k) := by
  unfold cnt lkOf
  rw [lsm_fm, lsm_fm]
  constructor
  · refine lsm_cg (fun t ht => ?_)
    rcases lk1_c (k := k) (hD t ht) with ⟨h1, h2⟩ | ⟨x, y, h1, h2, h3, h4, h5, h6⟩
    · rw [h2, b01_f]
      · rfl
      · intro z
        apply h1
        unfold edg at z
        unfold hasK
        omega
    · rw [h1]
      show b01 (edg t k w) = b01 (x = w) + 0
      rw [Int.add_zero]
      refine b01_cg ?_
      unfold edg
      rcases h3 with rfl | rfl | rfl
      · show (k = k ∧ x = w) ∨ (x = k ∧ y = w) ∨ (y = k ∧ k = w) ↔ x = w
        omega
      · show (y = k ∧ k = w) ∨ (k = k ∧ x = w) ∨ (x = k ∧ y = w) ↔ x = w
        omega
      · show (x = k ∧ y = w) ∨ (y = k ∧ k = w) ∨ (k = k ∧ x = w) ↔ x = w
        omega
  · refine lsm_cg (fun t ht => ?_)
    rcases lk1_c (k := k) (hD t ht) with ⟨h1, h2⟩ | ⟨x, y, h1, h2, h3, h4, h5, h6⟩
    · rw [h2, b01_f]
      · rfl
      · intro z
        apply h1
        unfold edg at z
        unfold hasK
        omega
    · rw [h1]
      show b01 (edg t w k) = b01 (y = w) + 0
      rw [Int.add_zero]
      refine b01_cg ?_
      unfold edg
      rcases h3 with rfl | rfl | rfl
      · show (k = w ∧ x = k) ∨ (x = w ∧ y = k) ∨ (y = w ∧ k = k) ↔ y = w
        omega
      · show (y = w ∧ k = k) ∨ (k = w ∧ x = k) ∨ (x = w ∧ y = k) ↔ y = w
        omega
      · show (x = w ∧ y = k) ∨ (y = w ∧ k = k) ∨ (k = w ∧ x = k) ↔ y = w
        omega
theorem lk_M {v : mz_G} {l : List tr3} (hT : Rt (v 0 2) l) (hD : Dst l) {k : Int} {e : Int × Int} (he : e ∈ lkOf l k) : isk v e.1 ∧ isk v e.2 ∧ ¬ e.1 = k ∧ ¬ e.2 = k ∧ ¬ e.1 = e.2 ∧ ∀ q, Pos v l q → 0 < tar v q (k, e.1, e.2) := by
  have hr := Lr_lk (k := k) hT e he
  obtain ⟨t, ht, h2⟩ := List.mem_flatMap.mp he
  rcases lk1_c (k := k) (hD t ht) with ⟨-, h3⟩ | ⟨x, y, h1, -, h3, h4, h5, h6⟩
  · rw [h3] at h2
    cases h2
  · rw [h1] at h2
    have e1 := List.mem_singleton.mp h2
    subst e1
    refine ⟨hr.1, hr.2, h4, h5, h6, fun q hP => ?_⟩
    have hp := hP t ht
    rcases h3 with rfl | rfl | rfl
    · exact hp
    · unfold tar at hp ⊢
      rw [ar_cyc]
      exact hp
    · unfold tar at hp ⊢
      rw [ar_cyc, ar_cyc]
      exact hp
theorem lk_T {l : List tr3} (hD : Dst l) {k j : Int} {t : tr3} (ht : t ∈ l) (hk : hasK t k) (hj : hasK t j) (hjk : ¬ j = k) : ∃ e ∈ lkOf l k, e.1 = j ∨ e.2 = j := by
  rcases lk1_c (k := k) (hD t ht) with ⟨h1, -⟩ | ⟨x, y, h1, -, h3, -⟩
  · exact absurd hk h1
  · refine ⟨(x, y), List.mem_flatMap.mpr ⟨t, ht, by rw [h1]; exact List.mem_singleton.mpr rfl⟩, ?_⟩
    unfold hasK at hj
    rcases h3 with rfl | rfl | rfl
    · have hj : k = j ∨ x = j ∨ y = j := hj
      show x = j ∨ y = j
      omega
    · have hj : y = j ∨ k = j ∨ x = j := hj
      show x = j ∨ y = j
      omega
    · have hj : x = j ∨ y = j ∨ k = j := hj
      show x = j ∨ y = j
      omega
theorem pS_nk {f : Int → Int → Int} {k : Int} (hf : ∀ i j, ¬ i = k → ¬ j = k → f i j = 0) : ∀ {r : List Int} {a : Int}, ¬ a = k → ¬ k ∈ r → pS f a r = 0
  | [], a, _, _ => rfl
  | b :: r, a, ha, hr => by
    have hb : ¬ b = k := fun z => hr (by rw [z]; exact List.mem_cons_self)
    simp only [pS]
    rw [hf a b ha hb, pS_nk hf hb (fun z => hr (List.mem_cons_of_mem _ z))]
    rfl
theorem dlt_nk {k w i j : Int} (hi : ¬ i = k) (hj : ¬ j = k) : dlt k w i j = 0 := by
  unfold dlt
  rw [b01_f (fun z => hi z.1), b01_f (fun z => hj z.2)]
  rfl
theorem dlt_1 {k w x : Int} (hx : ¬ x = k) : dlt k w k x = b01 (x = w) ∧ dlt k w x k = -b01 (x = w) := by
  unfold dlt
  constructor
  · rw [b01_cg (P := k = k ∧ x = w) (Q := x = w) (by omega), b01_f (P := k = w ∧ x = k) (fun z => hx z.2)]
    omega
  · rw [b01_cg (P := x = w ∧ k = k) (Q := x = w) (by omega), b01_f (P := x = k ∧ k = w) (fun z => hx z.1)]
    omega
theorem col3 {v : mz_G} {q s : Nat} {a b c : Int} (hs : s < 4) (ha : cN v q s a = 0) (hb : cN v q s b = 0) (hc : cN v q s c = 0) : tar v q (a, b, c) = 0 := by
  unfold tar ar
  show (gx v q b - gx v q a) * (gy v q c - gy v q a) - (gx v q c - gx v q a) * (gy v q b - gy v q a) = 0
  rcases (show s = 0 ∨ s = 1 ∨ s = 2 ∨ s = 3 by omega) with rfl | rfl | rfl | rfl
  · simp only [cN] at ha hb hc
    rw [ha, hb, hc]
    simp
  · simp only [cN] at ha hb hc
    rw [show gx v q a = v 0 0 - 1 by omega, show gx v q b = v 0 0 - 1 by omega, show gx v q c = v 0 0 - 1 by omega]
    simp
  · simp only [cN] at ha hb hc
    rw [show gy v q a = v 0 1 - 1 by omega, show gy v q b = v 0 1 - 1 by omega, show gy v q c = v 0 1 - 1 by omega]
    simp
  · simp only [cN] at ha hb hc
    rw [ha, hb, hc]
    simp
theorem tar_opp {v : mz_G} {q : Nat} {a b c : Int} : tar v q (a, b, c) + tar v q (a, c, b) = 0 := by
  unfold tar ar
  show (gx v q b - gx v q a) * (gy v q c - gy v q a) - (gx v q c - gx v q a) * (gy v q b - gy v q a) + ((gx v q c - gx v q a) * (gy v q b - gy v q a) - (gx v q b - gx v q a) * (gy v q c - gy v q a)) = 0
  omega
theorem kind_s {v : mz_G} {k : Int} (h4 : 4 ≤ k) : (kind v k = 1 ∧ ∃ s, s < 4 ∧ cN v 0 s k = 0) ∨ (kind v k = 2 ∧ ∀ s, s < 4 → ¬ cN v 0 s k = 0) := by
  unfold kind
  rw [if_neg (by omega)]
  by_cases q : gx v 0 k = 0 ∨ gx v 0 k = v 0 0 - 1 ∨ gy v 0 k = 0 ∨ gy v 0 k = v 0 1 - 1
  · rw [if_pos q]
    refine Or.inl ⟨rfl, ?_⟩
    rcases q with q | q | q | q
    · exact ⟨3, by decide, q⟩
    · refine ⟨1, by decide, ?_⟩
      show v 0 0 - 1 - gx v 0 k = 0
      omega
    · exact ⟨0, by decide, q⟩
    · refine ⟨2, by decide, ?_⟩
      show v 0 1 - 1 - gy v 0 k = 0
      omega
  · rw [if_neg q]
    refine Or.inr ⟨rfl, fun s hs z => q ?_⟩
    rcases (show s = 0 ∨ s = 1 ∨ s = 2 ∨ s = 3 by omega) with rfl | rfl | rfl | rfl <;> (simp only [cN] at z; omega)
theorem sM_one {v : mz_G} {s s' : Nat} {k : Int} (hR : Rg v) (hC : Crn v) (hH : Hd v) (h4 : 4 ≤ k) (hs : s < 4) (hs' : s' < 4) (h1 : sM v s k) (h2 : sM v s' k) : s = s' := by
  apply Decidable.not_not.mp
  intro hne
  have hW := hR.1
  have hHH := hR.2.1
  have hn := hR.2.2.1
  have c := hC 0 (by decide)
  have a1 := h1.2.1
  have a2 := h2.2.1
  have key : (gx v 0 k = 0 ∨ gx v 0 k = v 0 0 - 1) ∧ (gy v 0 k = 0 ∨ gy v 0 k = v 0 1 - 1) := by
    rcases (show s = 0 ∨ s = 1 ∨ s = 2 ∨ s = 3 by omega) with rfl | rfl | rfl | rfl <;> rcases (show s' = 0 ∨ s' = 1 ∨ s' = 2 ∨ s' = 3 by omega) with rfl | rfl | rfl | rfl <;> first | (exact absurd rfl hne) | (simp only [cN] at a1 a2; omega)
  rcases key with ⟨x | x, y | y⟩
  · have := hH k 0 h1.1 ⟨by decide, by omega⟩ (by omega) (by omega)
    omega
  · have := hH k 3 h1.1 ⟨by decide, by omega⟩ (by omega) (by omega)
    omega
  · have := hH k 1 h1.1 ⟨by decide, by omega⟩ (by omega) (by omega)
    omega
  · have := hH k 2 h1.1 ⟨by decide, by omega⟩ (by omega) (by omega)
    omega
/-- the link's shape, and the ways without the knot -/
def OD (v : mz_G) (l : List tr3) (p : Nat → List Int) (k x y z : Int) (r : Nat → List Int) : Prop := ((kind v k = 2 ∧ (lkOf l k = [(x, y), (y, z), (z, x)] ∨ lkOf l k = [(x, y), (z, x), (y, z)]) ∧ ∀ s, s < 4 → r s = p s) ∨ (kind v k = 1 ∧ (lkOf l k = [(x, y), (y, z)] ∨ lkOf l k = [(y, z), (x, y)]) ∧ ∃ s, s < 4 ∧ (∀ s', s' < 4 → ¬ s' = s → r s' = p s') ∧ (sM v s x ∧ sM v s k ∧ sM v s z) ∧ (∀ f : Int → Int → Int, pS f (s : Int) (p s) = pS f (s : Int) (r s) + f z k + f k x - f z x) ∧ (r s).length + 1 = (p s).length)) ∧ (∀ s, s < 4 → Pth (cT v 0 s) (sM v s) (sE s) (s : Int) (r s) ∧ ∀ w, w ∈ r s ↔ w ∈ p s ∧ ¬ w = k) ∧ (¬ x = y ∧ ¬ y = z ∧ ¬ z = x)
theorem lsm_b1 {m : List (Int × Int)} {e : Int × Int} (he : e ∈ m) : 1 ≤ lsm (fun d => b01 (d.1 = e.1)) m ∧ 1 ≤ lsm (fun d => b01 (d.2 = e.2)) m := by
  constructor
  · have := lsm_mem (f := fun d : Int × Int => b01 (d.1 = e.1)) (fun d _ => by rcases b01_01 (P := d.1 = e.1) with z | z <;> omega) he
    have h : b01 (e.1 = e.1) ≤ lsm (fun d => b01 (d.1 = e.1)) m := this
    rw [b01_t rfl] at h
    exact h
  · have := lsm_mem (f := fun d : Int × Int => b01 (d.2 = e.2)) (fun d _ => by rcases b01_01 (P := d.2 = e.2) with z | z <;> omega) he
    have h : b01 (e.2 = e.2) ≤ lsm (fun d => b01 (d.2 = e.2)) m := this
    rw [b01_t rfl] at h
    exact h
theorem out_dat {v : mz_G} {l : List tr3} {p : Nat → List Int} {k : Int} (hG : GP v l p) (hDg : Dg v l) (hk : isk v k) (h4 : 4 ≤ k) (hdg : dgr l k ≤ (if kind v k = 1 then 2 else 3)) : ∃ x y z r, OD v l p k x y z r := by
  obtain ⟨⟨hR, hT, hP0, hP1⟩, g1, g2, hC, hH⟩ := id hG
  have hD := Pos_Dst hP0
  rw [(lk_L hD).2] at hdg
  have hM : ∀ e ∈ lkOf l k, isk v e.1 ∧ isk v e.2 ∧ ¬ e.1 = k ∧ ¬ e.2 = k ∧ ¬ e.1 = e.2 ∧ ∀ q, Pos v l q → 0 < tar v q (k, e.1, e.2) := fun e he => lk_M hT hD he
  have hop : ∀ e ∈ lkOf l k, ∀ d ∈ lkOf l k, ¬ (e.1 = d.2 ∧ e.2 = d.1) := by
    intro e he d hd z
    have a1 := (hM e he).2.2.2.2.2 0 hP0
    have a2 := (hM d hd).2.2.2.2.2 0 hP0
    rw [← z.1, ← z.2] at a2
    have := tar_opp (v := v) (q := 0) (a := k) (b := e.1) (c := e.2)
    omega
  have hS1 : ∀ w, lsm (fun e => b01 (e.1 = w)) (lkOf l k) ≤ 1 := fun w => by rw [← (lk_C hD).1]; exact de_one hG k w
  have hE1 : ∀ w, lsm (fun e => b01 (e.2 = w)) (lkOf l k) ≤ 1 := fun w => by rw [← (lk_C hD).2]; exact de_one hG w k
  have hbal : ∀ w, lsm (fun e => b01 (e.1 = w)) (lkOf l k) - lsm (fun e => b01 (e.2 = w)) (lkOf l k) = pS (dlt k w) 0 (p 0) + pS (dlt k w) 1 (p 1) + pS (dlt k w) 2 (p 2) + pS (dlt k w) 3 (p 3) := by
    intro w
    rw [← (lk_C hD).1, ← (lk_C hD).2, ← dlt_bd hD]
    exact g1 _ dlt_An
  have hno : ∀ s : Nat, s < 4 → ¬ k ∈ p s → ∀ w, pS (dlt k w) (s : Int) (p s) = 0 := fun s hs hp w => pS_nk (fun i j hi hj => dlt_nk hi hj) (by omega) hp
  have hmem : ∀ s : Nat, s < 4 → k ∈ p s → sM v s k := fun s hs hp => ((Pth_le (g2 s hs).1).2 k hp).2.2
  rcases kind_s h4 with ⟨hk1, s0, hs0, hc0⟩ | ⟨hk2, hc⟩
  · rw [if_pos hk1] at hdg
    have hin : k ∈ p s0 := by
      rcases (g2 s0 hs0).2 k hk hc0 with z | z
      · omega
      · exact z
    have hmk := hmem s0 hs0 hin
    have hke : ¬ k = sE s0 := by
      unfold sE
      split <;> omega
    obtain ⟨z, x, r', ⟨i1, i2, i3⟩, ⟨i4, i5, i6, i7⟩, i8, -⟩ := pE_ok hke (g2 s0 hs0).1 hin
    have hMz : sM v s0 z := by
      rcases i4 with q | q
      · rw [q]; exact Crn_M hR hC hs0
      · exact ((Pth_le (g2 s0 hs0).1).2 z q).2.2
    have hMx : sM v s0 x := ((Pth_le (g2 s0 hs0).1).2 x i5).2.2
    have hzk : ¬ z = k := fun q => by rw [q] at i6; omega
    have hxk : ¬ x = k := fun q => by rw [q] at i7; omega
    have hxz : ¬ x = z := fun q => by rw [q] at i7; omega
    have hnk : ∀ s, s < 4 → ¬ s = s0 → ¬ k ∈ p s := fun s hs hne hp => hne (sM_one hR hC hH h4 hs hs0 (hmem s hs hp) hmk)
    have h00 : ∀ w, pS (dlt k w) (s0 : Int) (p s0) = b01 (x = w) - b01 (z = w) := by
      intro w
      rw [i8, pS_nk (fun i j hi hj => dlt_nk hi hj) (show ¬ (s0 : Int) = k by omega) (fun q => ((i3 k).mp q).2 rfl), (dlt_1 hzk).2, (dlt_1 hxk).1, dlt_nk hzk hxk]
      omega
    have hB : ∀ w, lsm (fun e => b01 (e.1 = w)) (lkOf l k) - lsm (fun e => b01 (e.2 = w)) (lkOf l k) = b01 (x = w) - b01 (z = w) := by
      intro w
      rw [hbal w, ← h00 w]
      have n0 : ¬ s0 = 0 → pS (dlt k w) 0 (p 0) = 0 := fun q => hno 0 (by decide) (hnk 0 (by decide) (fun r => q r.symm)) w
      have n1 : ¬ s0 = 1 → pS (dlt k w) 1 (p 1) = 0 := fun q => hno 1 (by decide) (hnk 1 (by decide) (fun r => q r.symm)) w
      have n2 : ¬ s0 = 2 → pS (dlt k w) 2 (p 2) = 0 := fun q => hno 2 (by decide) (hnk 2 (by decide) (fun r => q r.symm)) w
      have n3 : ¬ s0 = 3 → pS (dlt k w) 3 (p 3) = 0 := fun q => hno 3 (by decide) (hnk 3 (by decide) (fun r => q r.symm)) w
      rcases (show s0 = 0 ∨ s0 = 1 ∨ s0 = 2 ∨ s0 = 3 by omega) with rfl | rfl | rfl | rfl
      · rw [n1 (by decide), n2 (by decide), n3 (by decide)]
        show _ = pS (dlt k w) 0 (p 0)
        omega
      · rw [n0 (by decide), n2 (by decide), n3 (by decide)]
        show _ = pS (dlt k w) 1 (p 1)
        omega
      · rw [n0 (by decide), n1 (by decide), n3 (by decide)]
        show _ = pS (dlt k w) 2 (p 2)
        omega
      · rw [n0 (by decide), n1 (by decide), n2 (by decide)]
        show _ = pS (dlt k w) 3 (p 3)
        omega
    have hxz2 : ∀ e ∈ lkOf l k, ¬ (e.1 = x ∧ e.2 = z) := by
      intro e he q
      have a1 := (hM e he).2.2.2.2.2 0 hP0
      rw [q.1, q.2, col3 hs0 hmk.2.1 hMx.2.1 hMz.2.1] at a1
      omega
    have bx := hB x
    have bz := hB z
    have sx := hS1 x
    have ez := hE1 z
    rw [b01_t (show x = x from rfl), b01_f (fun q => hxz q.symm)] at bx
    rw [b01_t (show z = z from rfl), b01_f hxz] at bz
    have fin : ∃ y, (lkOf l k = [(x, y), (y, z)] ∨ lkOf l k = [(y, z), (x, y)]) ∧ ¬ x = y ∧ ¬ y = z := by
      match hm : lkOf l k, hdg, hM, hop, hB, hxz2, bx, bz, sx, ez with
      | [], _, _, _, _, _, bx, _, _, _ =>
        exfalso
        simp only [lsm] at bx
        omega
      | [e1], _, _, _, _, hxz2, bx, bz, sx, ez =>
        exfalso
        simp only [lsm] at bx bz sx ez
        have q1 : e1.1 = x := Decidable.not_not.mp (fun q => by rw [b01_f q] at bx; have := b01_01 (P := e1.2 = x); omega)
        have q2 : e1.2 = z := Decidable.not_not.mp (fun q => by rw [b01_f q] at bz; have := b01_01 (P := e1.1 = z); omega)
        exact hxz2 e1 (by simp) ⟨q1, q2⟩
      | [e1, e2], _, hM, hop, hB, hxz2, bx, bz, sx, ez =>
        have m1 := hM e1 (by simp)
        have m2 := hM e2 (by simp)
        have n1 := hxz2 e1 (by simp)
        have n2 := hxz2 e2 (by simp)
        have B1 := hB e1.2
        have B2 := hB e2.2
        simp only [lsm] at bx bz sx ez B1 B2
        by_cases c1 : e1.1 = x
        · have c2 : ¬ e1.2 = z := fun q => n1 ⟨c1, q⟩
          have c3 : e2.2 = z := Decidable.not_not.mp (fun q => by
            rw [b01_f c2, b01_f q] at bz
            have := b01_01 (P := e1.1 = z)
            have := b01_01 (P := e2.1 = z)
            omega)
          have c4 : ¬ x = e1.2 := fun q => m1.2.2.2.2.1 (c1.trans q)
          have c5 : e2.1 = e1.2 := Decidable.not_not.mp (fun q => by
            rw [b01_f (show ¬ e1.1 = e1.2 from m1.2.2.2.2.1), b01_f q, b01_f c4, b01_f (show ¬ z = e1.2 from fun r => c2 r.symm), b01_t trivial] at B1
            have := b01_01 (P := e2.2 = e1.2)
            omega)
          have f1 : (x, e1.2) = e1 := by rw [← c1]
          have f2 : (e1.2, z) = e2 := by rw [← c3, ← c5]
          exact ⟨e1.2, Or.inl (by rw [f1, f2]), c4, c2⟩
        · have c2 : e2.1 = x := Decidable.not_not.mp (fun q => by
            rw [b01_f c1, b01_f q] at bx
            have := b01_01 (P := e1.2 = x)
            have := b01_01 (P := e2.2 = x)
            omega)
          have c3 : ¬ e2.2 = z := fun q => n2 ⟨c2, q⟩
          have c4 : e1.2 = z := Decidable.not_not.mp (fun q => by
            rw [b01_f c3, b01_f q] at bz
            have := b01_01 (P := e1.1 = z)
            have := b01_01 (P := e2.1 = z)
            omega)
          have c5 : ¬ x = e2.2 := fun q => m2.2.2.2.2.1 (c2.trans q)
          have c6 : e1.1 = e2.2 := Decidable.not_not.mp (fun q => by
            rw [b01_f (show ¬ e2.1 = e2.2 from m2.2.2.2.2.1), b01_f q, b01_f c5, b01_f (show ¬ z = e2.2 from fun r => c3 r.symm), b01_t trivial] at B2
            have := b01_01 (P := e1.2 = e2.2)
            omega)
          have f1 : (x, e2.2) = e2 := by rw [← c2]
          have f2 : (e2.2, z) = e1 := by rw [← c4, ← c6]
          exact ⟨e2.2, Or.inr (by rw [f1, f2]), c5, c3⟩
      | e1 :: e2 :: e3 :: r, hdg, _, _, _, _, _, _, _, _ =>
        simp only [List.length_cons] at hdg
        omega
    obtain ⟨y, hy, y1, y2⟩ := fin
    refine ⟨x, y, z, fun s => if s = s0 then r' else p s, Or.inr ⟨hk1, hy, s0, hs0, fun s' hs' hne => if_neg hne, ⟨hMx, hmk, hMz⟩, ?_, ?_⟩, ?_, y1, y2, fun q => hxz q.symm⟩
    · intro f
      show _ = pS f (s0 : Int) (if s0 = s0 then r' else p s0) + f z k + f k x - f z x
      rw [if_pos rfl]
      exact i8 f
    · show (if s0 = s0 then r' else p s0).length + 1 = _
      rw [if_pos rfl]
      exact i2
    · intro s hs
      show Pth (cT v 0 s) (sM v s) (sE s) (s : Int) (if s = s0 then r' else p s) ∧ ∀ w, w ∈ (if s = s0 then r' else p s) ↔ w ∈ p s ∧ ¬ w = k
      by_cases q : s = s0
      · rw [if_pos q, q]
        exact ⟨i1, i3⟩
      · rw [if_neg q]
        refine ⟨(g2 s hs).1, fun w => ⟨fun hw => ⟨hw, fun e => hnk s hs q (by rw [← e]; exact hw)⟩, fun hw => hw.1⟩⟩
  · rw [if_neg (by omega)] at hdg
    have hnk : ∀ s, s < 4 → ¬ k ∈ p s := fun s hs hp => hc s hs (hmem s hs hp).2.1
    have hB : ∀ w, lsm (fun e => b01 (e.1 = w)) (lkOf l k) = lsm (fun e => b01 (e.2 = w)) (lkOf l k) := by
      intro w
      have := hbal w
      have n0 : pS (dlt k w) 0 (p 0) = 0 := hno 0 (by decide) (hnk 0 (by decide)) w
      have n1 : pS (dlt k w) 1 (p 1) = 0 := hno 1 (by decide) (hnk 1 (by decide)) w
      have n2 : pS (dlt k w) 2 (p 2) = 0 := hno 2 (by decide) (hnk 2 (by decide)) w
      have n3 : pS (dlt k w) 3 (p 3) = 0 := hno 3 (by decide) (hnk 3 (by decide)) w
      omega
    have hst : ∀ e ∈ lkOf l k, (∃ d ∈ lkOf l k, d.1 = e.2) ∧ ∃ d ∈ lkOf l k, d.2 = e.1 := by
      intro e he
      have b := lsm_b1 he
      constructor
      · have h1 : ¬ lsm (fun d => b01 (d.1 = e.2)) (lkOf l k) = 0 := by rw [hB]; omega
        obtain ⟨d, hd, h2⟩ := lsm_ex h1
        exact ⟨d, hd, b01_ne0 h2⟩
      · have h1 : ¬ lsm (fun d => b01 (d.2 = e.1)) (lkOf l k) = 0 := by rw [← hB]; omega
        obtain ⟨d, hd, h2⟩ := lsm_ex h1
        exact ⟨d, hd, b01_ne0 h2⟩
    have hne : ¬ lkOf l k = [] := by
      obtain ⟨t, ht, h1⟩ := hDg k hk
      rcases lk1_c (k := k) (hD t ht) with ⟨h2, -⟩ | ⟨x, y, h2, -⟩
      · exact absurd h1 h2
      · intro q
        have : (x, y) ∈ lkOf l k := List.mem_flatMap.mpr ⟨t, ht, by rw [h2]; exact List.mem_singleton.mpr rfl⟩
        rw [q] at this
        cases this
    have fin : ∃ x y z, (lkOf l k = [(x, y), (y, z), (z, x)] ∨ lkOf l k = [(x, y), (z, x), (y, z)]) ∧ ¬ x = y ∧ ¬ y = z ∧ ¬ z = x := by
      match hm : lkOf l k, hne, hdg, hM, hop, hst, hS1, hE1 with
      | [], hne, _, _, _, _, _, _ => exact absurd rfl hne
      | [e1], _, _, hM, _, hst, _, _ =>
        exfalso
        obtain ⟨⟨d, hd, h1⟩, -⟩ := hst e1 (by simp)
        rw [List.mem_singleton.mp hd] at h1
        exact (hM e1 (by simp)).2.2.2.2.1 h1
      | [e1, e2], _, _, hM, hop, hst, _, _ =>
        exfalso
        obtain ⟨⟨d, hd, h1⟩, ⟨d', hd', h2⟩⟩ := hst e1 (by simp)
        have m1 := (hM e1 (by simp)).2.2.2.2.1
        have o := hop e1 (by simp) e2 (by simp)
        simp only [List.mem_cons, List.not_mem_nil, or_false] at hd hd'
        rcases hd with rfl | rfl
        · exact m1 h1
        · rcases hd' with rfl | rfl
          · exact m1 h2.symm
          · exact o ⟨h2.symm, h1.symm⟩
      | [e1, e2, e3], _, _, hM, hop, hst, hS1, hE1 =>
        have m1 := (hM e1 (by simp)).2.2.2.2.1
        have m2 := (hM e2 (by simp)).2.2.2.2.1
        have m3 := (hM e3 (by simp)).2.2.2.2.1
        have o12 := hop e1 (by simp) e2 (by simp)
        have o13 := hop e1 (by simp) e3 (by simp)
        have o23 := hop e2 (by simp) e3 (by simp)
        have s1 := hS1 e1.1
        have s2 := hS1 e2.1
        have t1 := hE1 e1.2
        have t2 := hE1 e2.2
        simp only [lsm] at s1 s2 t1 t2
        have u12 : ¬ e2.1 = e1.1 := fun q => by
          rw [b01_t trivial, b01_t q] at s1
          have := b01_01 (P := e3.1 = e1.1)
          omega
        have u13 : ¬ e3.1 = e1.1 := fun q => by
          rw [b01_t trivial, b01_t q] at s1
          have := b01_01 (P := e2.1 = e1.1)
          omega
        have u23 : ¬ e3.1 = e2.1 := fun q => by
          rw [b01_t trivial, b01_t q] at s2
          have := b01_01 (P := e1.1 = e2.1)
          omega
        have v12 : ¬ e2.2 = e1.2 := fun q => by
          rw [b01_t trivial, b01_t q] at t1
          have := b01_01 (P := e3.2 = e1.2)
          omega
        have v13 : ¬ e3.2 = e1.2 := fun q => by
          rw [b01_t trivial, b01_t q] at t1
          have := b01_01 (P := e2.2 = e1.2)
          omega
        have v23 : ¬ e3.2 = e2.2 := fun q => by
          rw [b01_t trivial, b01_t q] at t2
          have := b01_01 (P := e1.2 = e2.2)
          omega
        have key : ∀ e ∈ [e1, e2, e3], e1.1 = e.2 ∨ e2.1 = e.2 ∨ e3.1 = e.2 := by
          intro e he
          obtain ⟨⟨d, hd, h1⟩, -⟩ := hst e he
          simp only [List.mem_cons, List.not_mem_nil, or_false] at hd
          rcases hd with rfl | rfl | rfl
          · exact Or.inl h1
          · exact Or.inr (Or.inl h1)
          · exact Or.inr (Or.inr h1)
        have k1 := key e1 (by simp)
        have k2 := key e2 (by simp)
        have k3 := key e3 (by simp)
        obtain ⟨a1, b1⟩ := e1
        obtain ⟨a2, b2⟩ := e2
        obtain ⟨a3, b3⟩ := e3
        dsimp only at *
        rcases (show (b1 = a2 ∧ b2 = a3 ∧ b3 = a1) ∨ (b1 = a3 ∧ b3 = a2 ∧ b2 = a1) by omega) with ⟨rfl, rfl, rfl⟩ | ⟨rfl, rfl, rfl⟩
        · exact ⟨b3, b1, b2, Or.inl rfl, by omega, by omega, by omega⟩
        · exact ⟨b2, b1, b3, Or.inr rfl, by omega, by omega, by omega⟩
      | e1 :: e2 :: e3 :: e4 :: r, _, hdg, _, _, _, _, _ =>
        simp only [List.length_cons] at hdg
        omega
    obtain ⟨x, y, z, h1, h2⟩ := fin
    refine ⟨x, y, z, p, Or.inl ⟨hk2, h1, fun _ _ => rfl⟩, fun s hs => ⟨(g2 s hs).1, fun w => ⟨fun hw => ⟨hw, fun e => hnk s hs (by rw [← e]; exact hw)⟩, fun hw => hw.1⟩⟩, h2⟩
