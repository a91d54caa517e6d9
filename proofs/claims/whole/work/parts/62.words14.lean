/-! words for the reference's insert: those that have the new home are gathered, dropped, made anew -/
theorem erase_perm {l : List tr3} {t : Int} (h0 : 0 ≤ t) (h1 : t < (l.length : Int)) : l.Perm (tg l t :: l.eraseIdx t.toNat) := by
  obtain ⟨a, b⟩ := rmT_cut h0 h1
  have e : l = l.take t.toNat ++ tg l t :: l.drop (t + 1).toNat := by
    conv => lhs; rw [← List.take_append_drop t.toNat l]
    rw [b]
  have e2 : l.eraseIdx t.toNat = l.take t.toNat ++ l.drop (t + 1).toNat := by
    conv => lhs; rw [e]
    rw [List.eraseIdx_append_of_length_le (by rw [List.length_take]; omega), show t.toNat - (l.take t.toNat).length = 0 by rw [List.length_take]; omega]
    rfl
  rw [e2]
  conv => lhs; rw [e]
  exact List.perm_middle
theorem rmT_gap {P : tr3 → Prop} [DecidablePred P] {l : List tr3} {a b : Int} (ha : -1 ≤ a) (hb : b < (l.length : Int)) (hab : a ≤ b) (h : ∀ i, a < i → i ≤ b → ¬ P (tg l i)) : rmT P l a = rmT P l b := by
  obtain ⟨n, hn⟩ := Int.eq_ofNat_of_zero_le (show 0 ≤ b - a by omega)
  induction n generalizing b with
  | zero => rw [show b = a by omega]
  | succ n ih =>
    have e := rmT_no (P := P) (l := l) (t := b) (by omega) hb (h b (by omega) (Int.le_refl _))
    rw [← e, show b + -1 = b - 1 by omega]
    exact ih (by omega) (by omega) (fun i q0 q1 => h i q0 (by omega)) (by omega)
/-- L is what is left of l above t, in some order; up to t it is l -/
def RX (P : tr3 → Prop) [DecidablePred P] (l L : List tr3) (t : Int) : Prop := L.Perm (rmT P l t) ∧ ∀ i : Nat, (i : Int) ≤ t → L[i]? = l[i]?
theorem RX_0 {P : tr3 → Prop} [DecidablePred P] {l : List tr3} {t : Int} (ht : -1 ≤ t) (hl : t < (l.length : Int)) (h : ∀ i, t < i → i < (l.length : Int) → ¬ P (tg l i)) : RX P l l t := by
  refine ⟨?_, fun _ _ => rfl⟩
  rw [rmT_gap (b := (l.length : Int) - 1) ht (by omega) (by omega) (fun i q0 q1 => h i q0 (by omega)), rmT_0 rfl]
theorem RX_len {P : tr3 → Prop} [DecidablePred P] {l L : List tr3} {t : Int} (h : RX P l L t) (h0 : 0 ≤ t) (h1 : t < (l.length : Int)) : t < (L.length : Int) ∧ (L.length : Int) ≤ (l.length : Int) ∧ tg L t = tg l t := by
  have e := h.1.length_eq
  have e1 := rmT_lt (P := P) h0 h1
  have e2 := rmT_len (P := P) (l := l) (t := t)
  refine ⟨by omega, by omega, ?_⟩
  have g := tg_get h0 h1
  have g2 := tg_get (l := L) h0 (by omega)
  rw [h.2 _ (by omega), g] at g2
  exact (Option.some.inj g2).symm
theorem RX_n {P : tr3 → Prop} [DecidablePred P] {l L : List tr3} {t : Int} (h : RX P l L t) (h0 : 0 ≤ t) (h1 : t < (l.length : Int)) (hp : ¬ P (tg l t)) : RX P l L (t + -1) := by
  refine ⟨?_, fun i hi => h.2 i (by omega)⟩
  rw [rmT_no h0 h1 hp]
  exact h.1
theorem RX_y {P : tr3 → Prop} [DecidablePred P] {l L : List tr3} {t : Int} (h : RX P l L t) (h0 : 0 ≤ t) (h1 : t < (l.length : Int)) (hp : P (tg l t)) : RX P l (drp L t) (t + -1) := by
  obtain ⟨k1, k2, k3⟩ := RX_len h h0 h1
  refine ⟨?_, fun i hi => by rw [drp_lo h0 k1 (by omega)]; exact h.2 i (by omega)⟩
  have p1 := drp_perm h0 k1
  have p2 := erase_perm (l := rmT P l t) h0 (rmT_lt h0 h1)
  rw [rmT_get h0 h1, rmT_yes h0 h1 hp] at p2
  rw [k3] at p1
  exact List.Perm.cons_inv (p1.symm.trans (h.1.trans p2))
theorem RX_g {P : tr3 → Prop} [DecidablePred P] {l L : List tr3} {a b : Int} (h : RX P l L b) (ha : -1 ≤ a) (hb : b < (l.length : Int)) (hab : a ≤ b) (hn : ∀ i, a < i → i ≤ b → ¬ P (tg l i)) : RX P l L a := by
  refine ⟨?_, fun i hi => h.2 i (by omega)⟩
  rw [rmT_gap ha hb hab hn]
  exact h.1
theorem RX_Rt {P : tr3 → Prop} [DecidablePred P] {n : Int} {l L : List tr3} {t : Int} (h : RX P l L t) (hT : Rt n l) : Rt n L := perm_Rt (sub_Rt hT rmT_sub) h.1
/-- the holders among the first t -/
def hlT (v : mz_G) (x y : Int) (l : List tr3) (t : Int) : List tr3 := (l.take t.toNat).filter (fun z => decide (hol v 0 z x y))
theorem hlT_n {v : mz_G} {x y : Int} {l : List tr3} {t : Int} (h0 : 0 ≤ t) (h1 : t < (l.length : Int)) (h : ¬ hol v 0 (tg l t) x y) : hlT v x y l (t + 1) = hlT v x y l t := by
  unfold hlT
  rw [(rmT_cut h0 h1).1, List.filter_append]
  simp [h]
theorem hlT_y {v : mz_G} {x y : Int} {l : List tr3} {t : Int} (h0 : 0 ≤ t) (h1 : t < (l.length : Int)) (h : hol v 0 (tg l t) x y) : hlT v x y l (t + 1) = hlT v x y l t ++ [tg l t] := by
  unfold hlT
  rw [(rmT_cut h0 h1).1, List.filter_append]
  simp [h]
theorem hlT_le {v : mz_G} {x y : Int} {l : List tr3} {t : Int} (h0 : 0 ≤ t) : ((hlT v x y l t).length : Int) ≤ t := by
  unfold hlT
  have h1 := List.length_filter_le (fun z => decide (hol v 0 z x y)) (l.take t.toNat)
  have h2 : (l.take t.toNat).length ≤ t.toNat := by rw [List.length_take]; omega
  omega
theorem tg_app {l : List tr3} {x : tr3} {j : Int} (h0 : 0 ≤ j) (h1 : j < (l.length : Int)) : tg (l ++ [x]) j = tg l j := by
  have g := tg_get (l := l ++ [x]) h0 (by rw [List.length_append]; omega)
  rw [List.getElem?_append_left (by omega), tg_get h0 h1] at g
  exact (Option.some.inj g).symm
theorem tg_end {l : List tr3} {x : tr3} {j : Int} (h1 : j = (l.length : Int)) : tg (l ++ [x]) j = x := by
  have g := tg_get (l := l ++ [x]) (t := j) (by omega) (by rw [List.length_append]; simp; omega)
  rw [List.getElem?_append_right (by omega), show j.toNat - l.length = 0 by omega] at g
  exact (Option.some.inj g).symm
def HX (v : mz_G) (x y : Int) (l : List tr3) (σ : mz_G) (t n : Int) : Prop := n = ((hlT v x y l t).length : Int) ∧ (∀ j, 0 ≤ j → j < n → (0 ≤ σ 43 j.toNat ∧ σ 43 j.toNat < t) ∧ tg l (σ 43 j.toNat) = tg (hlT v x y l t) j ∧ hol v 0 (tg l (σ 43 j.toNat)) x y) ∧ (∀ i j, 0 ≤ i → i < j → j < n → σ 43 i.toNat < σ 43 j.toNat) ∧ (∀ i, 0 ≤ i → i < t → hol v 0 (tg l i) x y → ∃ j, 0 ≤ j ∧ j < n ∧ σ 43 j.toNat = i) ∧ ∀ j e, 0 ≤ j → j < n → 0 ≤ e → e < 3 → σ 44 (3 * j + e).toNat = tk (tg (hlT v x y l t) j) e
theorem HX_0 {v : mz_G} {x y : Int} {l : List tr3} {σ : mz_G} : HX v x y l σ 0 0 := ⟨by simp [hlT], fun j a b => by omega, fun i j a b c => by omega, fun i a b => by omega, fun j e a b => by omega⟩
theorem HX_n {v : mz_G} {x y : Int} {l : List tr3} {σ : mz_G} {t n : Int} (h : HX v x y l σ t n) (h0 : 0 ≤ t) (h1 : t < (l.length : Int)) (hh : ¬ hol v 0 (tg l t) x y) : HX v x y l σ (t + 1) n := by
  obtain ⟨a, b, c, d, e⟩ := h
  unfold HX
  rw [hlT_n h0 h1 hh]
  refine ⟨a, fun j p q => ?_, c, fun i p q r => ?_, e⟩
  · have := b j p q
    exact ⟨⟨this.1.1, by omega⟩, this.2⟩
  · by_cases z : i = t
    · rw [z] at r
      exact absurd r hh
    · exact d i p (by omega) r
/-- the entries of a holder are written -/
def EX (σ σ1 : mz_G) (n t e : Int) (x : tr3) : Prop := (∀ i : Nat, σ1 43 i = if (i : Int) = n then t else σ 43 i) ∧ (∀ i : Nat, σ1 44 i = if 3 * n ≤ (i : Int) ∧ (i : Int) < 3 * n + e then tk x ((i : Int) - 3 * n) else σ 44 i) ∧ ∀ c i, ¬ c = 43 → ¬ c = 44 → σ1 c i = σ c i
theorem EX_0 {σ : mz_G} {n t : Int} {x : tr3} (hn : 0 ≤ n) : EX σ (mz_up σ 43 n.toNat t) n t 0 x := by
  refine ⟨fun i => ?_, fun i => by rw [up_ne (by decide), if_neg (by omega)], fun c i h1 h2 => up_ne h1⟩
  by_cases q : (i : Int) = n
  · rw [if_pos q, show i = n.toNat by omega, up_eq]
  · rw [if_neg q, up_ni (by omega)]
theorem EX_s {σ σ1 : mz_G} {n t e : Int} {x : tr3} (h : EX σ σ1 n t e x) (hn : 0 ≤ n) (he : 0 ≤ e) {z : Int} (hz : z = tk x e) : EX σ (mz_up σ1 44 (3 * n + e).toNat z) n t (e + 1) x := by
  obtain ⟨a, b, c⟩ := h
  refine ⟨fun i => by rw [up_ne (by decide)]; exact a i, fun i => ?_, fun c' i h1 h2 => by rw [up_ne h2]; exact c c' i h1 h2⟩
  by_cases q : i = (3 * n + e).toNat
  · rw [q, up_eq, if_pos (by omega), hz]
    congr 1
    omega
  · rw [up_ni q, b]
    by_cases r : 3 * n ≤ (i : Int) ∧ (i : Int) < 3 * n + e
    · rw [if_pos r, if_pos (by omega)]
    · rw [if_neg r, if_neg (by omega)]
theorem HX_y {v : mz_G} {x y : Int} {l : List tr3} {σ σ1 : mz_G} {t n : Int} (h : HX v x y l σ t n) (h0 : 0 ≤ t) (h1 : t < (l.length : Int)) (hh : hol v 0 (tg l t) x y) (hE : EX σ σ1 n t 3 (tg l t)) : HX v x y l σ1 (t + 1) (n + 1) := by
  obtain ⟨a, b, c, d, e⟩ := h
  obtain ⟨f1, f2, f3⟩ := hE
  unfold HX
  rw [hlT_y h0 h1 hh]
  have hn : 0 ≤ n := by omega
  have old : ∀ j, 0 ≤ j → j < n → σ1 43 j.toNat = σ 43 j.toNat := fun j p q => by rw [f1, if_neg (by omega)]
  have new : σ1 43 n.toNat = t := by rw [f1, if_pos (by omega)]
  refine ⟨by rw [List.length_append]; simp; omega, fun j p q => ?_, fun i j p q r => ?_, fun i p q r => ?_, fun j z p q r s => ?_⟩
  · by_cases w : j = n
    · rw [w, new, tg_end a]
      exact ⟨⟨h0, by omega⟩, rfl, hh⟩
    · have := b j p (by omega)
      rw [old j p (by omega), tg_app p (by omega)]
      exact ⟨⟨this.1.1, by omega⟩, this.2⟩
  · by_cases w : j = n
    · rw [w, new, old i p (by omega)]
      exact (b i p (by omega)).1.2
    · rw [old i p (by omega), old j (by omega) (by omega)]
      exact c i j p q (by omega)
  · by_cases w : i = t
    · exact ⟨n, hn, by omega, by rw [new, w]⟩
    · obtain ⟨j, j1, j2, j3⟩ := d i p (by omega) r
      exact ⟨j, j1, by omega, by rw [old j j1 j2]; exact j3⟩
  · rw [f2]
    by_cases w : j = n
    · rw [if_pos (by omega), w, tg_end a]
      congr 1
      omega
    · rw [if_neg (by omega), tg_app p (by omega)]
      exact e j z p (by omega) r s
/-- where the dropping stands -/
def cu (σ : mz_G) (j : Int) : Int := if j < 0 then -1 else σ 43 j.toNat
theorem cu_gap {v : mz_G} {x y : Int} {l : List tr3} {σ : mz_G} {t n : Int} (h : HX v x y l σ t n) {j : Int} (h0 : -1 ≤ j) (h1 : j < n) : (-1 ≤ cu σ j ∧ cu σ j < t ∨ (j = -1 ∧ cu σ j = -1)) ∧ (0 ≤ j → cu σ j = σ 43 j.toNat ∧ 0 ≤ cu σ j ∧ cu σ j < t ∧ hol v 0 (tg l (cu σ j)) x y) ∧ ∀ i, cu σ j < i → i < (if j + 1 < n then cu σ (j + 1) else t) → ¬ hol v 0 (tg l i) x y := by
  obtain ⟨a, b, c, d, e⟩ := h
  have hc : 0 ≤ j → cu σ j = σ 43 j.toNat := fun q => by unfold cu; rw [if_neg (by omega)]
  have hc2 : cu σ (j + 1) = σ 43 (j + 1).toNat := by unfold cu; rw [if_neg (by omega)]
  refine ⟨?_, fun q => ?_, fun i p q r => ?_⟩
  · by_cases q : 0 ≤ j
    · have := b j q h1
      rw [hc q]
      omega
    · right
      refine ⟨by omega, ?_⟩
      unfold cu
      rw [if_pos (by omega)]
  · have := b j q h1
    refine ⟨hc q, by rw [hc q]; exact this.1.1, by rw [hc q]; exact this.1.2, by rw [hc q]; exact this.2.2⟩
  · have hi0 : 0 ≤ i := by
      by_cases q0 : 0 ≤ j
      · have := b j q0 h1
        rw [hc q0] at p
        omega
      · have : cu σ j = -1 := by unfold cu; rw [if_pos (by omega)]
        omega
    have hit : i < t := by
      by_cases w : j + 1 < n
      · rw [if_pos w, hc2] at q
        have := b (j + 1) (by omega) w
        omega
      · rw [if_neg w] at q
        exact q
    obtain ⟨k, k0, k1, k2⟩ := d i hi0 hit r
    rcases (show k ≤ j ∨ k = j + 1 ∨ j + 1 < k by omega) with w | w | w
    · have : σ 43 k.toNat ≤ σ 43 j.toNat := by
        rcases (show k < j ∨ k = j by omega) with z | z
        · exact Int.le_of_lt (c k j k0 z h1)
        · rw [z]; exact Int.le_refl _
      rw [hc (by omega)] at p
      omega
    · rw [if_pos (by omega), hc2, ← w] at q
      omega
    · rw [if_pos (by omega), hc2] at q
      have := c (j + 1) k (by omega) w k1
      omega
theorem HX_ext {v : mz_G} {x y : Int} {l : List tr3} {σ σ1 : mz_G} {t n : Int} (h : HX v x y l σ t n) (h1 : ∀ i, σ1 43 i = σ 43 i) (h2 : ∀ i, σ1 44 i = σ 44 i) : HX v x y l σ1 t n := by
  obtain ⟨a, b, c, d, e⟩ := h
  refine ⟨a, fun j p q => by rw [h1]; exact b j p q, fun i j p q r => by rw [h1, h1]; exact c i j p q r, fun i p q r => ?_, fun j z p q r s => by rw [h2]; exact e j z p q r s⟩
  obtain ⟨j, j1, j2, j3⟩ := d i p q r
  exact ⟨j, j1, j2, by rw [h1]; exact j3⟩
/-- those made anew -/
def ek (k : Int) (e : Int × Int) : tr3 := (e.1, e.2, k)
def ph3 (v : mz_G) (x y : Int) (t : tr3) (e : Int) : List (Int × Int) := if e = 0 then [] else if e = 1 then ap1 v x y (t.1, t.2.1) else if e = 2 then ap1 v x y (t.1, t.2.1) ++ ap1 v x y (t.2.1, t.2.2) else ap1 v x y (t.1, t.2.1) ++ ap1 v x y (t.2.1, t.2.2) ++ ap1 v x y (t.2.2, t.1)
theorem ph3_s {v : mz_G} {x y : Int} {t : tr3} {e : Int} (h0 : 0 ≤ e) (h1 : e < 3) : ph3 v x y t (e + 1) = ph3 v x y t e ++ ap1 v x y (tk t e, tk t ((e + 1).tmod 3)) := by
  rcases (show e = 0 ∨ e = 1 ∨ e = 2 by omega) with rfl | rfl | rfl <;> rfl
theorem ph3_all {v : mz_G} {x y : Int} {t : tr3} (h : hol v 0 t x y) : ph3 v x y t 3 = lh1 v x y t := by
  unfold lh1
  rw [if_pos h]
  rfl
theorem ph3_len {v : mz_G} {x y : Int} {t : tr3} {e : Int} (h0 : 0 ≤ e) (h1 : e ≤ 3) (h : hol v 0 t x y) : (ph3 v x y t e).length ≤ (lh1 v x y t).length := by
  rw [← ph3_all h]
  rcases (show e = 0 ∨ e = 1 ∨ e = 2 ∨ e = 3 by omega) with rfl | rfl | rfl | rfl
  · show 0 ≤ _
    omega
  · show (ap1 v x y (t.1, t.2.1)).length ≤ (ap1 v x y (t.1, t.2.1) ++ ap1 v x y (t.2.1, t.2.2) ++ ap1 v x y (t.2.2, t.1)).length
    rw [List.length_append, List.length_append]
    omega
  · show (ap1 v x y (t.1, t.2.1) ++ ap1 v x y (t.2.1, t.2.2)).length ≤ (ap1 v x y (t.1, t.2.1) ++ ap1 v x y (t.2.1, t.2.2) ++ ap1 v x y (t.2.2, t.1)).length
    rw [List.length_append (bs := ap1 v x y (t.2.2, t.1))]
    omega
  · exact Nat.le_refl _
theorem hlT_lh {v : mz_G} {x y : Int} {l : List tr3} : (l.filter (fun z => decide (hol v 0 z x y))).flatMap (lh1 v x y) = lhOf v l x y := by
  unfold lhOf
  induction l with
  | nil => rfl
  | cons a r ih =>
    rw [List.filter_cons, List.flatMap_cons]
    by_cases q : hol v 0 a x y
    · rw [if_pos (by simp [q]), List.flatMap_cons, ih]
    · rw [if_neg (by simp [q]), ih]
      have : lh1 v x y a = [] := by unfold lh1; rw [if_neg q]
      rw [this]
      rfl
theorem hlT_all {v : mz_G} {x y : Int} {l : List tr3} {t : Int} (h : t = (l.length : Int)) : hlT v x y l t = l.filter (fun z => decide (hol v 0 z x y)) := by
  unfold hlT
  rw [List.take_of_length_le (by omega)]
/-- the list while triangles are made anew: D those that stayed -/
def AX (v : mz_G) (l : List tr3) (x y k : Int) (m : List (Int × Int)) (σ σ1 : mz_G) : Prop := ∃ L, MA σ1 v L ∧ L.Perm (l.filter (fun z => !decide (hol v 0 z x y)) ++ m.map (ek k)) ∧ ∀ c i, ¬ c = 35 → ¬ (c = 30 ∧ i = 3) → σ1 c i = σ c i
theorem AX_s {v : mz_G} {l L : List tr3} {x y k : Int} {m : List (Int × Int)} {σ σ1 σ2 : mz_G} {a b : Int} (hA : MA σ1 v L) (hp : L.Perm (l.filter (fun z => !decide (hol v 0 z x y)) ++ m.map (ek k))) (hf : ∀ c i, ¬ c = 35 → ¬ (c = 30 ∧ i = 3) → σ1 c i = σ c i) (ht : MT σ2 (L ++ [(a, b, k)])) (hf2 : Fr σ1 σ2) : AX v l x y k (m ++ [(a, b)]) σ σ2 := by
  refine ⟨L ++ [(a, b, k)], MA_Fr hA hf2 ht, ?_, fun c i p q => (hf2 c i p q).trans (hf c i p q)⟩
  rw [List.map_append, ← List.append_assoc]
  exact List.Perm.append_right _ hp
theorem ek_Rt {v : mz_G} {l L : List tr3} {x y k : Int} {m : List (Int × Int)} (hT : Rt (v 0 2) l) (hk : 0 ≤ k ∧ k < v 0 2) (hm : Lr v m) (hp : L.Perm (l.filter (fun z => !decide (hol v 0 z x y)) ++ m.map (ek k))) : Rt (v 0 2) L := by
  refine perm_Rt (fun t ht => ?_) hp
  rcases List.mem_append.mp ht with q | q
  · exact hT t (List.mem_filter.mp q).1
  · obtain ⟨e, he, rfl⟩ := List.mem_map.mp q
    have := hm e he
    exact ⟨this.1, this.2, hk⟩
theorem Lr_sub {v : mz_G} {l : List tr3} {x y : Int} {m : List (Int × Int)} (hT : Rt (v 0 2) l) (h : ∀ e ∈ m, ∃ t ∈ l, edg t e.1 e.2) : Lr v m := by
  intro e he
  obtain ⟨t, ht, h2⟩ := h e he
  have r := hT t ht
  rcases h2 with ⟨z1, z2⟩ | ⟨z1, z2⟩ | ⟨z1, z2⟩ <;> rw [← z1, ← z2]
  · exact ⟨r.1, r.2.1⟩
  · exact ⟨r.2.1, r.2.2⟩
  · exact ⟨r.2.2, r.1⟩
theorem ph3_mem {v : mz_G} {x y : Int} {t : tr3} {e : Int} {d : Int × Int} (h : d ∈ ph3 v x y t e) : edg t d.1 d.2 := by
  have key : ∀ d : Int × Int, (d ∈ ap1 v x y (t.1, t.2.1) ∨ d ∈ ap1 v x y (t.2.1, t.2.2) ∨ d ∈ ap1 v x y (t.2.2, t.1)) → edg t d.1 d.2 := by
    intro d h
    rcases h with h | h | h
    · rw [(mem_ap1.mp h).1]; exact Or.inl ⟨rfl, rfl⟩
    · rw [(mem_ap1.mp h).1]; exact Or.inr (Or.inl ⟨rfl, rfl⟩)
    · rw [(mem_ap1.mp h).1]; exact Or.inr (Or.inr ⟨rfl, rfl⟩)
  apply key
  unfold ph3 at h
  split at h
  · cases h
  · split at h
    · exact Or.inl h
    · split at h
      · rcases List.mem_append.mp h with h | h
        · exact Or.inl h
        · exact Or.inr (Or.inl h)
      · rcases List.mem_append.mp h with h | h
        · rcases List.mem_append.mp h with h | h
          · exact Or.inl h
          · exact Or.inr (Or.inl h)
        · exact Or.inr (Or.inr h)
theorem flT_mem {v : mz_G} {x y : Int} {l : List tr3} {t : Int} {d : Int × Int} (h : d ∈ flT (lh1 v x y) l t) : ∃ u ∈ l, edg u d.1 d.2 := by
  unfold flT at h
  obtain ⟨u, hu, h2⟩ := List.mem_flatMap.mp h
  refine ⟨u, List.mem_of_mem_take hu, ?_⟩
  rcases (mem_lh1.mp h2).2 with ⟨rfl, -⟩ | ⟨rfl, -⟩ | ⟨rfl, -⟩
  · exact Or.inl ⟨rfl, rfl⟩
  · exact Or.inr (Or.inl ⟨rfl, rfl⟩)
  · exact Or.inr (Or.inr ⟨rfl, rfl⟩)
