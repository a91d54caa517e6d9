/-! winding: a point beside a dot, and the triangles that have it -/
def cN (v : mz_G) (q s : Nat) (k : Int) : Int := match s with
  | 0 => gy v q k
  | 1 => v 0 0 - 1 - gx v q k
  | 2 => v 0 1 - 1 - gy v q k
  | _ => gx v q k
def cT (v : mz_G) (q s : Nat) (k : Int) : Int := match s with
  | 0 => gx v q k
  | 1 => gy v q k
  | 2 => v 0 0 - 1 - gx v q k
  | _ => v 0 1 - 1 - gy v q k
def sM (v : mz_G) (s : Nat) (k : Int) : Prop := isk v k ∧ cN v 0 s k = 0 ∧ cN v 1 s k = 0
def sE (s : Nat) : Int := if s = 3 then 0 else (s : Int) + 1
/-- the net's sums over its triangles are those along the four sides -/
def G1 (l : List tr3) (p : Nat → List Int) : Prop := ∀ f : Int → Int → Int, An f → lsm (bd f) l = pS f 0 (p 0) + pS f 1 (p 1) + pS f 2 (p 2) + pS f 3 (p 3)
def G2 (v : mz_G) (p : Nat → List Int) : Prop := ∀ s : Nat, s < 4 → Pth (cT v 0 s) (sM v s) (sE s) (s : Int) (p s) ∧ ∀ k, isk v k → cN v 0 s k = 0 → k = (s : Int) ∨ k ∈ p s
def Crn (v : mz_G) : Prop := ∀ q, q < 2 → (gx v q 0 = 0 ∧ gy v q 0 = 0) ∧ (gx v q 1 = v 0 0 - 1 ∧ gy v q 1 = 0) ∧ (gx v q 2 = v 0 0 - 1 ∧ gy v q 2 = v 0 1 - 1) ∧ (gx v q 3 = 0 ∧ gy v q 3 = v 0 1 - 1)
def Hd (v : mz_G) : Prop := ∀ a b, isk v a → isk v b → gx v 0 a = gx v 0 b → gy v 0 a = gy v 0 b → a = b
def GP (v : mz_G) (l : List tr3) (p : Nat → List Int) : Prop := (Rg v ∧ Rt (v 0 2) l ∧ Pos v l 0 ∧ Pos v l 1) ∧ G1 l p ∧ G2 v p ∧ Crn v ∧ Hd v
/-- the side of a directed edge on which the point beside X / 2, Y / 2 is -/
def Lq (v : mz_G) (q : Nat) (X Y u w a b : Int) : Int := 10000 * ar X Y (2 * gx v q a) (2 * gy v q a) (2 * gx v q b) (2 * gy v q b) + (w * (2 * gx v q b - 2 * gx v q a) - u * (2 * gy v q b - 2 * gy v q a))
def yq (v : mz_G) (q : Nat) (Y w a : Int) : Int := 10000 * (2 * gy v q a - Y) - w
def cr (v : mz_G) (q : Nat) (X Y u w a b : Int) : Int := (if yq v q Y w a < 0 ∧ ¬ yq v q Y w b < 0 ∧ 0 < Lq v q X Y u w a b then 1 else 0) - (if yq v q Y w b < 0 ∧ ¬ yq v q Y w a < 0 ∧ 0 < Lq v q X Y u w b a then 1 else 0)
theorem cr_An {v : mz_G} {q : Nat} {X Y u w : Int} : An (cr v q X Y u w) := fun a b => by
  unfold cr
  omega
theorem Lq_anti {v : mz_G} {q : Nat} {X Y u w a b : Int} : Lq v q X Y u w b a = -Lq v q X Y u w a b := by
  unfold Lq ar
  grind
theorem Lq_sum {v : mz_G} {q : Nat} {X Y u w a b c : Int} : Lq v q X Y u w b c + Lq v q X Y u w c a + Lq v q X Y u w a b = 40000 * ar (gx v q a) (gy v q a) (gx v q b) (gy v q b) (gx v q c) (gy v q c) := by
  unfold Lq ar
  grind
theorem Lq_bar {v : mz_G} {q : Nat} {X Y u w a b c : Int} : Lq v q X Y u w b c * yq v q Y w a + Lq v q X Y u w c a * yq v q Y w b + Lq v q X Y u w a b * yq v q Y w c = 0 := by
  unfold Lq yq ar
  grind
theorem sgn_mul {a y : Int} (ha : ¬ a = 0) (hy : ¬ y = 0) : (0 < a ∧ 0 < y ∧ 0 < a * y) ∨ (0 < a ∧ y < 0 ∧ a * y < 0) ∨ (a < 0 ∧ 0 < y ∧ a * y < 0) ∨ (a < 0 ∧ y < 0 ∧ 0 < a * y) := by
  rcases (show 0 < a ∨ a < 0 by omega) with p | p
  · rcases (show 0 < y ∨ y < 0 by omega) with r | r
    · exact Or.inl ⟨p, r, Int.mul_pos p r⟩
    · exact Or.inr (Or.inl ⟨p, r, Int.mul_neg_of_pos_of_neg p r⟩)
  · rcases (show 0 < y ∨ y < 0 by omega) with r | r
    · exact Or.inr (Or.inr (Or.inl ⟨p, r, Int.mul_neg_of_neg_of_pos p r⟩))
    · exact Or.inr (Or.inr (Or.inr ⟨p, r, Int.mul_pos_of_neg_of_neg p r⟩))
theorem tri_sg {A B C p r s : Int} (hA : ¬ A = 0) (hB : ¬ B = 0) (hC : ¬ C = 0) (hp : ¬ p = 0) (hr : ¬ r = 0) (hs : ¬ s = 0) (h : 0 < A + B + C) (e : A * p + B * r + C * s = 0) : ((if p < 0 ∧ ¬ r < 0 ∧ 0 < C then (1 : Int) else 0) - (if r < 0 ∧ ¬ p < 0 ∧ 0 < -C then 1 else 0)) + ((if r < 0 ∧ ¬ s < 0 ∧ 0 < A then 1 else 0) - (if s < 0 ∧ ¬ r < 0 ∧ 0 < -A then 1 else 0)) + ((if s < 0 ∧ ¬ p < 0 ∧ 0 < B then 1 else 0) - (if p < 0 ∧ ¬ s < 0 ∧ 0 < -B then 1 else 0)) = if 0 < C ∧ 0 < A ∧ 0 < B then 1 else 0 := by
  rcases sgn_mul hA hp with h1 | h1 | h1 | h1 <;> rcases sgn_mul hB hr with h2 | h2 | h2 | h2 <;> rcases sgn_mul hC hs with h3 | h3 | h3 | h3 <;> first | (exfalso; omega) | omega
/-- a triangle has the point -/
abbrev inq (v : mz_G) (q : Nat) (X Y u w : Int) (t : tr3) : Prop := 0 < Lq v q X Y u w t.1 t.2.1 ∧ 0 < Lq v q X Y u w t.2.1 t.2.2 ∧ 0 < Lq v q X Y u w t.2.2 t.1
theorem ar_ne {a b c d e f : Int} (h : 0 < ar a b c d e f) : ¬ (a = c ∧ b = d) ∧ ¬ (c = e ∧ d = f) ∧ ¬ (e = a ∧ f = b) := by
  unfold ar at h
  refine ⟨fun z => ?_, fun z => ?_, fun z => ?_⟩
  · rw [z.1, z.2] at h
    simp at h
  · rw [z.1, z.2, Int.mul_comm] at h
    simp at h
  · rw [z.1, z.2] at h
    simp at h
theorem Lq_nz {v : mz_G} {q : Nat} {X Y u w a b : Int} (hR : Rg v) (hq : q < 2) (ha : isk v a) (hb : isk v b) (hu : u = 1 ∨ u = -1) (hw : w = 80 ∨ w = -80) (h : ¬ (gx v q a = gx v q b ∧ gy v q a = gy v q b)) : ¬ Lq v q X Y u w a b = 0 := by
  have h1 := Rg_q hR hq ha.1 ha.2
  have h2 := Rg_q hR hq hb.1 hb.2
  have hW := hR.1
  have hH := hR.2.1
  unfold Lq
  generalize ar X Y (2 * gx v q a) (2 * gy v q a) (2 * gx v q b) (2 * gy v q b) = z
  rcases hu with rfl | rfl <;> rcases hw with rfl | rfl <;> omega
theorem yq_nz {v : mz_G} {q : Nat} {Y w a : Int} (hw : w = 80 ∨ w = -80) : ¬ yq v q Y w a = 0 := by
  unfold yq
  omega
theorem tri_cr {v : mz_G} {q : Nat} {X Y u w : Int} {t : tr3} (hR : Rg v) (hq : q < 2) (ht : (0 ≤ t.1 ∧ t.1 < v 0 2) ∧ (0 ≤ t.2.1 ∧ t.2.1 < v 0 2) ∧ (0 ≤ t.2.2 ∧ t.2.2 < v 0 2)) (hp : 0 < tar v q t) (hu : u = 1 ∨ u = -1) (hw : w = 80 ∨ w = -80) : bd (cr v q X Y u w) t = b01 (inq v q X Y u w t) := by
  unfold tar at hp
  have hn := ar_ne hp
  have n1 := Lq_nz (X := X) (Y := Y) hR hq ht.2.1 ht.2.2 hu hw hn.2.1
  have n2 := Lq_nz (X := X) (Y := Y) hR hq ht.2.2 ht.1 hu hw hn.2.2
  have n3 := Lq_nz (X := X) (Y := Y) hR hq ht.1 ht.2.1 hu hw hn.1
  have es := Lq_sum (v := v) (q := q) (X := X) (Y := Y) (u := u) (w := w) (a := t.1) (b := t.2.1) (c := t.2.2)
  have eb := Lq_bar (v := v) (q := q) (X := X) (Y := Y) (u := u) (w := w) (a := t.1) (b := t.2.1) (c := t.2.2)
  have key := tri_sg n1 n2 n3 (yq_nz (v := v) (q := q) (Y := Y) (a := t.1) hw) (yq_nz (v := v) (q := q) (Y := Y) (a := t.2.1) hw) (yq_nz (v := v) (q := q) (Y := Y) (a := t.2.2) hw) (by omega) eb
  unfold bd cr
  rw [Lq_anti (a := t.1) (b := t.2.1), Lq_anti (a := t.2.1) (b := t.2.2), Lq_anti (a := t.2.2) (b := t.1), key]
  unfold b01
  rfl
/-- along a side -/
theorem cr_flat {v : mz_G} {q : Nat} {X Y u w a b : Int} (h : gy v q a = gy v q b) : cr v q X Y u w a b = 0 := by
  have e : yq v q Y w a = yq v q Y w b := by unfold yq; rw [h]
  unfold cr
  rw [e]
  omega
theorem cr_side {v : mz_G} {q : Nat} {X Y u w a b x0 : Int} (ha : gx v q a = x0) (hb : gx v q b = x0) : cr v q X Y u w a b = (b01 (yq v q Y w a < 0) - b01 (yq v q Y w b < 0)) * b01 (0 < 10000 * (2 * x0 - X) - u) := by
  obtain ⟨K, hK⟩ : ∃ K : Int, K = 10000 * (2 * x0 - X) - u := ⟨_, rfl⟩
  obtain ⟨D, hD⟩ : ∃ D : Int, D = 2 * gy v q b - 2 * gy v q a := ⟨_, rfl⟩
  have e1 : Lq v q X Y u w a b = K * D := by
    unfold Lq ar
    rw [ha, hb, hK, hD]
    grind
  have e2 : yq v q Y w b = yq v q Y w a + 10000 * D := by
    unfold yq
    rw [hD]
    omega
  unfold cr
  rw [Lq_anti (a := a) (b := b), e1, e2, ← hK]
  unfold b01
  generalize yq v q Y w a = y
  rcases (show D < 0 ∨ D = 0 ∨ 0 < D by omega) with d | d | d
  · rcases (show K < 0 ∨ K = 0 ∨ 0 < K by omega) with k | k | k
    · have := Int.mul_pos_of_neg_of_neg k d
      rw [if_neg (show ¬ 0 < K by omega), Int.mul_zero]
      omega
    · rw [if_neg (show ¬ 0 < K by omega), Int.mul_zero, k, Int.zero_mul]
      omega
    · have := Int.mul_neg_of_pos_of_neg k d
      rw [if_pos k, Int.mul_one]
      omega
  · rw [d]
    simp
  · rcases (show K < 0 ∨ K = 0 ∨ 0 < K by omega) with k | k | k
    · have := Int.mul_neg_of_neg_of_pos k d
      rw [if_neg (show ¬ 0 < K by omega), Int.mul_zero]
      omega
    · rw [if_neg (show ¬ 0 < K by omega), Int.mul_zero, k, Int.zero_mul]
      omega
    · have := Int.mul_pos k d
      rw [if_pos k, Int.mul_one]
      omega
theorem sM_q {v : mz_G} {s q : Nat} {k : Int} (hq : q < 2) (h : sM v s k) : cN v q s k = 0 := by
  rcases (show q = 0 ∨ q = 1 by omega) with rfl | rfl
  · exact h.2.1
  · exact h.2.2
theorem Crn_M {v : mz_G} (hR : Rg v) (h : Crn v) {s : Nat} (hs : s < 4) : sM v s (s : Int) := by
  have h0 := h 0 (by decide)
  have h1 := h 1 (by decide)
  have hn := hR.2.2.1
  rcases (show s = 0 ∨ s = 1 ∨ s = 2 ∨ s = 3 by omega) with rfl | rfl | rfl | rfl
  · exact ⟨⟨by decide, by show (0 : Int) < _; omega⟩, h0.1.2, h1.1.2⟩
  · refine ⟨⟨by decide, by show (1 : Int) < _; omega⟩, ?_, ?_⟩
    · show v 0 0 - 1 - gx v 0 1 = 0
      omega
    · show v 0 0 - 1 - gx v 1 1 = 0
      omega
  · refine ⟨⟨by decide, by show (2 : Int) < _; omega⟩, ?_, ?_⟩
    · show v 0 1 - 1 - gy v 0 2 = 0
      omega
    · show v 0 1 - 1 - gy v 1 2 = 0
      omega
  · exact ⟨⟨by decide, by show (3 : Int) < _; omega⟩, h0.2.2.2.1, h1.2.2.2.1⟩
/-- how many triangles have a point: one within the picture, none beyond it -/
theorem wind {v : mz_G} {l : List tr3} {p : Nat → List Int} {q : Nat} (hG : GP v l p) (hq : q < 2) {X Y u w : Int} (hu : u = 1 ∨ u = -1) (hw : w = 80 ∨ w = -80) : lsm (fun t => b01 (inq v q X Y u w t)) l = (b01 (10000 * (0 - Y) - w < 0) - b01 (10000 * (2 * (v 0 1 - 1) - Y) - w < 0)) * (b01 (0 < 10000 * (2 * (v 0 0 - 1) - X) - u) - b01 (0 < 10000 * (0 - X) - u)) := by
  obtain ⟨⟨hR, hT, hP0, hP1⟩, g1, g2, hC, -⟩ := hG
  have hP : Pos v l q := by
    rcases (show q = 0 ∨ q = 1 by omega) with rfl | rfl
    · exact hP0
    · exact hP1
  have e0 : lsm (fun t => b01 (inq v q X Y u w t)) l = lsm (bd (cr v q X Y u w)) l := lsm_cg (fun t ht => (tri_cr hR hq (hT t ht) (hP t ht) hu hw).symm)
  rw [e0, g1 _ cr_An]
  have c := hC q hq
  have s0 : pS (cr v q X Y u w) 0 (p 0) = 0 := by
    have e : pS (cr v q X Y u w) 0 (p 0) = pS (fun _ _ => 0) 0 (p 0) := pS_cg (g2 0 (by decide)).1 (Crn_M hR hC (s := 0) (by decide)) (fun x y hx hy _ => cr_flat (v := v) (q := q) (X := X) (Y := Y) (u := u) (w := w) (a := x) (b := y) (by
      have a1 : gy v q x = 0 := sM_q hq hx
      have a2 : gy v q y = 0 := sM_q hq hy
      omega))
    rw [e]
    exact pS_0
  have s2 : pS (cr v q X Y u w) 2 (p 2) = 0 := by
    have e : pS (cr v q X Y u w) 2 (p 2) = pS (fun _ _ => 0) 2 (p 2) := pS_cg (g2 2 (by decide)).1 (Crn_M hR hC (s := 2) (by decide)) (fun x y hx hy _ => cr_flat (v := v) (q := q) (X := X) (Y := Y) (u := u) (w := w) (a := x) (b := y) (by
      have a1 : v 0 1 - 1 - gy v q x = 0 := sM_q hq hx
      have a2 : v 0 1 - 1 - gy v q y = 0 := sM_q hq hy
      omega))
    rw [e]
    exact pS_0
  have s1 : pS (cr v q X Y u w) 1 (p 1) = (b01 (yq v q Y w 1 < 0) - b01 (yq v q Y w 2 < 0)) * b01 (0 < 10000 * (2 * (v 0 0 - 1) - X) - u) := by
    have hp := (g2 1 (by decide)).1
    have e9 : pS (cr v q X Y u w) 1 (p 1) = pS (fun x y => (b01 (yq v q Y w x < 0) - b01 (yq v q Y w y < 0)) * b01 (0 < 10000 * (2 * (v 0 0 - 1) - X) - u)) 1 (p 1) := pS_cg hp (Crn_M hR hC (s := 1) (by decide)) (fun x y hx hy _ => by
      have a1 : v 0 0 - 1 - gx v q x = 0 := sM_q hq hx
      have a2 : v 0 0 - 1 - gx v q y = 0 := sM_q hq hy
      exact cr_side (by omega) (by omega))
    rw [e9]
    rw [pS_mul (f := fun x y => b01 (yq v q Y w x < 0) - b01 (yq v q Y w y < 0))]
    have := pS_tel (h := fun x => b01 (yq v q Y w x < 0)) hp
    have e : pS (fun x y => b01 (yq v q Y w x < 0) - b01 (yq v q Y w y < 0)) 1 (p 1) = b01 (yq v q Y w 1 < 0) - b01 (yq v q Y w 2 < 0) := this
    rw [e]
  have s3 : pS (cr v q X Y u w) 3 (p 3) = (b01 (yq v q Y w 3 < 0) - b01 (yq v q Y w 0 < 0)) * b01 (0 < 10000 * (0 - X) - u) := by
    have hp := (g2 3 (by decide)).1
    have e9 : pS (cr v q X Y u w) 3 (p 3) = pS (fun x y => (b01 (yq v q Y w x < 0) - b01 (yq v q Y w y < 0)) * b01 (0 < 10000 * (0 - X) - u)) 3 (p 3) := pS_cg hp (Crn_M hR hC (s := 3) (by decide)) (fun x y hx hy _ => by
      have a1 : gx v q x = 0 := sM_q hq hx
      have a2 : gx v q y = 0 := sM_q hq hy
      have := cr_side (X := X) (Y := Y) (u := u) (w := w) a1 a2
      rw [show (2 : Int) * 0 - X = 0 - X by omega] at this
      exact this)
    rw [e9]
    rw [pS_mul (f := fun x y => b01 (yq v q Y w x < 0) - b01 (yq v q Y w y < 0))]
    have := pS_tel (h := fun x => b01 (yq v q Y w x < 0)) hp
    have e : pS (fun x y => b01 (yq v q Y w x < 0) - b01 (yq v q Y w y < 0)) 3 (p 3) = b01 (yq v q Y w 3 < 0) - b01 (yq v q Y w 0 < 0) := this
    rw [e]
  have y0 : yq v q Y w 0 = 10000 * (0 - Y) - w := by unfold yq; rw [c.1.2]; omega
  have y1 : yq v q Y w 1 = 10000 * (0 - Y) - w := by unfold yq; rw [c.2.1.2]; omega
  have y2 : yq v q Y w 2 = 10000 * (2 * (v 0 1 - 1) - Y) - w := by unfold yq; rw [c.2.2.1.2]
  have y3 : yq v q Y w 3 = 10000 * (2 * (v 0 1 - 1) - Y) - w := by unfold yq; rw [c.2.2.2.2]
  rw [s0, s1, s2, s3, y0, y1, y2, y3]
  generalize b01 (10000 * (0 - Y) - w < 0) = A
  generalize b01 (10000 * (2 * (v 0 1 - 1) - Y) - w < 0) = B
  generalize b01 (0 < 10000 * (2 * (v 0 0 - 1) - X) - u) = C
  generalize b01 (0 < 10000 * (0 - X) - u) = D
  grind
theorem wind_le {v : mz_G} {l : List tr3} {p : Nat → List Int} {q : Nat} (hG : GP v l p) (hq : q < 2) {X Y u w : Int} (hu : u = 1 ∨ u = -1) (hw : w = 80 ∨ w = -80) : lsm (fun t => b01 (inq v q X Y u w t)) l ≤ 1 := by
  rw [wind hG hq hu hw]
  rcases b01_01 (P := 10000 * (0 - Y) - w < 0) with a | a <;> rcases b01_01 (P := 10000 * (2 * (v 0 1 - 1) - Y) - w < 0) with b | b <;> rcases b01_01 (P := 0 < 10000 * (2 * (v 0 0 - 1) - X) - u) with c | c <;> rcases b01_01 (P := 0 < 10000 * (0 - X) - u) with d | d <;> rw [a, b, c, d] <;> decide
