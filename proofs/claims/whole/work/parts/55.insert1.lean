/-! an insert keeps the net good -/
theorem ins_perm {x : tr3} {l : List tr3} : (ins x l).Perm (x :: l) := by
  induction l with
  | nil => exact List.Perm.refl _
  | cons a r ih =>
    unfold ins
    split
    · exact (List.Perm.cons a ih).trans (List.Perm.swap x a r)
    · exact List.Perm.refl _
theorem adN_perm {k : Int} {m : List (Int × Int)} {l : List tr3} : (adN k m l).Perm (l ++ m.map (fun e => nrm e.1 e.2 k)) := by
  induction m generalizing l with
  | nil => simp [adN]
  | cons e m ih =>
    show (adN k m (ins (nrm e.1 e.2 k) l)).Perm _
    refine ih.trans ((List.Perm.append_right _ ins_perm).trans ?_)
    rw [List.map_cons]
    exact List.perm_middle.symm
theorem bd_nrm {f : Int → Int → Int} {a b c : Int} : bd f (nrm a b c) = bd f (a, b, c) := by
  unfold nrm bd
  split
  · show f b c + f c a + f a b = f a b + f b c + f c a
    omega
  · split
    · show f c a + f a b + f b c = f a b + f b c + f c a
      omega
    · rfl
theorem tar_nrm {v : mz_G} {q : Nat} {a b c : Int} : tar v q (nrm a b c) = tar v q (a, b, c) := by
  unfold nrm
  split
  · unfold tar
    exact ar_cyc
  · split
    · unfold tar
      exact ar_cyc.trans ar_cyc
    · rfl
theorem hasK_nrm {a b c k : Int} : hasK (nrm a b c) k ↔ (a = k ∨ b = k ∨ c = k) := by
  unfold nrm hasK
  split
  · show b = k ∨ c = k ∨ a = k ↔ _
    omega
  · split
    · show c = k ∨ a = k ∨ b = k ↔ _
      omega
    · exact Iff.rfl
theorem sq_pos {u w : Int} (h : ¬ (u = 0 ∧ w = 0)) : 0 < u * u + w * w := by
  have key : ∀ z : Int, 0 ≤ z * z ∧ (¬ z = 0 → 0 < z * z) := by
    intro z
    by_cases q : z = 0
    · rw [q]
      exact ⟨by decide, fun r => absurd rfl r⟩
    · have := sgn_mul q q
      omega
  have k1 := key u
  have k2 := key w
  by_cases q : u = 0
  · have := k2.2 (fun z => h ⟨q, z⟩)
    omega
  · have := k1.2 q
    omega
/-- a dot that is on the line of an edge of a triangle is within the edge just if its other shares are above 0 -/
theorem wth_num {ax ay bx b_y cx cy x y : Int} (hT : 0 < ar x y bx b_y cx cy + ar x y cx cy ax ay + ar x y ax ay bx b_y) (h2 : ar x y ax ay bx b_y = 0) (hA : ¬ (ax = x ∧ ay = y)) (hB : ¬ (bx = x ∧ b_y = y)) : (ax - x) * (bx - x) + (ay - y) * (b_y - y) < 0 ↔ 0 < ar x y bx b_y cx cy ∧ 0 < ar x y cx cy ax ay := by
  have e1 : ar x y bx b_y cx cy * ((ax - x) * (bx - x) + (ay - y) * (b_y - y)) + ar x y cx cy ax ay * ((bx - x) * (bx - x) + (b_y - y) * (b_y - y)) + ar x y ax ay bx b_y * ((cx - x) * (bx - x) + (cy - y) * (b_y - y)) = 0 := by unfold ar; grind
  have e2 : ar x y bx b_y cx cy * ((ax - x) * (ax - x) + (ay - y) * (ay - y)) + ar x y cx cy ax ay * ((ax - x) * (bx - x) + (ay - y) * (b_y - y)) + ar x y ax ay bx b_y * ((cx - x) * (ax - x) + (cy - y) * (ay - y)) = 0 := by unfold ar; grind
  have pA := sq_pos (u := ax - x) (w := ay - y) (by omega)
  have pB := sq_pos (u := bx - x) (w := b_y - y) (by omega)
  rw [h2, Int.zero_mul] at e1 e2
  rw [h2] at hT
  generalize ar x y bx b_y cx cy = s0 at *
  generalize ar x y cx cy ax ay = s1 at *
  generalize (ax - x) * (bx - x) + (ay - y) * (b_y - y) = D at *
  generalize (ax - x) * (ax - x) + (ay - y) * (ay - y) = A at *
  generalize (bx - x) * (bx - x) + (b_y - y) * (b_y - y) = B at *
  have key : ∀ s z : Int, (s = 0 ∧ s * z = 0) ∨ (z = 0 ∧ s * z = 0) ∨ (¬ s = 0 ∧ ¬ z = 0 ∧ ((0 < s ∧ 0 < z ∧ 0 < s * z) ∨ (0 < s ∧ z < 0 ∧ s * z < 0) ∨ (s < 0 ∧ 0 < z ∧ s * z < 0) ∨ (s < 0 ∧ z < 0 ∧ 0 < s * z))) := by
    intro s z
    by_cases q : s = 0
    · exact Or.inl ⟨q, by rw [q, Int.zero_mul]⟩
    · by_cases r : z = 0
      · exact Or.inr (Or.inl ⟨r, by rw [r, Int.mul_zero]⟩)
      · exact Or.inr (Or.inr ⟨q, r, sgn_mul q r⟩)
  have k1 := key s0 D
  have k2 := key s1 B
  have k3 := key s0 A
  have k4 := key s1 D
  generalize s0 * D = m1 at *
  generalize s1 * B = m2 at *
  generalize s0 * A = m3 at *
  generalize s1 * D = m4 at *
  omega
abbrev wth (v : mz_G) (a b i j : Int) : Prop := fe v 0 a b (i, j) = 0 ∧ (gx v 0 i - a) * (gx v 0 j - a) + (gy v 0 i - b) * (gy v 0 j - b) < 0
theorem wth_sym {v : mz_G} {a b i j : Int} : wth v a b i j ↔ wth v a b j i := by
  have e : fe v 0 a b (j, i) = -fe v 0 a b (i, j) := by
    unfold fe ar
    grind
  unfold wth
  rw [e, Int.mul_comm (gx v 0 j - a), Int.mul_comm (gy v 0 j - b)]
  omega
theorem wth_t {v : mz_G} {t : tr3} {a b : Int} (ht : (0 ≤ t.1 ∧ t.1 < v 0 2) ∧ (0 ≤ t.2.1 ∧ t.2.1 < v 0 2) ∧ (0 ≤ t.2.2 ∧ t.2.2 < v 0 2)) (hp : 0 < tar v 0 t) (hn : ∀ k, isk v k → ¬ (gx v 0 k = a ∧ gy v 0 k = b)) : (wth v a b t.1 t.2.1 ↔ sh2 v 0 t a b = 0 ∧ 0 < sh0 v 0 t a b ∧ 0 < sh1 v 0 t a b) ∧ (wth v a b t.2.1 t.2.2 ↔ sh0 v 0 t a b = 0 ∧ 0 < sh1 v 0 t a b ∧ 0 < sh2 v 0 t a b) ∧ (wth v a b t.2.2 t.1 ↔ sh1 v 0 t a b = 0 ∧ 0 < sh2 v 0 t a b ∧ 0 < sh0 v 0 t a b) := by
  have s := sh_sum (v := v) (q := 0) (t := t) (x := a) (y := b)
  have n1 := hn _ ht.1
  have n2 := hn _ ht.2.1
  have n3 := hn _ ht.2.2
  have f1 : fe v 0 a b (t.1, t.2.1) = sh2 v 0 t a b := rfl
  have f2 : fe v 0 a b (t.2.1, t.2.2) = sh0 v 0 t a b := rfl
  have f3 : fe v 0 a b (t.2.2, t.1) = sh1 v 0 t a b := rfl
  refine ⟨?_, ?_, ?_⟩
  · unfold wth
    rw [f1]
    refine and_congr_right (fun z => ?_)
    exact wth_num (cx := gx v 0 t.2.2) (cy := gy v 0 t.2.2) (by show 0 < sh0 v 0 t a b + sh1 v 0 t a b + sh2 v 0 t a b; omega) z n1 n2
  · unfold wth
    rw [f2]
    refine and_congr_right (fun z => ?_)
    exact wth_num (cx := gx v 0 t.1) (cy := gy v 0 t.1) (by show 0 < sh1 v 0 t a b + sh2 v 0 t a b + sh0 v 0 t a b; omega) z n2 n3
  · unfold wth
    rw [f3]
    refine and_congr_right (fun z => ?_)
    exact wth_num (cx := gx v 0 t.2.1) (cy := gy v 0 t.2.1) (by show 0 < sh2 v 0 t a b + sh0 v 0 t a b + sh1 v 0 t a b; omega) z n3 n1
def fI (v : mz_G) (a b K : Int) (f : Int → Int → Int) (i j : Int) : Int := if wth v a b i j then f i K + f K j else f i j
theorem fI_An {v : mz_G} {a b K : Int} {f : Int → Int → Int} (h : An f) : An (fI v a b K f) := by
  intro i j
  unfold fI
  by_cases q : wth v a b i j
  · rw [if_pos q, if_pos (wth_sym.mp q), h i K, h K j]
    omega
  · rw [if_neg q, if_neg (fun z => q (wth_sym.mp z)), h i j]
theorem lsm_ap1 {v : mz_G} {x y : Int} {e : Int × Int} {g : Int × Int → Int} : lsm g (ap1 v x y e) = if 0 < fe v 0 x y e then g e else 0 := by
  unfold ap1
  by_cases q : 0 < fe v 0 x y e
  · rw [if_pos q, if_pos q]
    simp [lsm]
  · rw [if_neg q, if_neg q]
    rfl
theorem tri_I {v : mz_G} {t : tr3} {a b K : Int} {f : Int → Int → Int} (hf : An f) (ht : (0 ≤ t.1 ∧ t.1 < v 0 2) ∧ (0 ≤ t.2.1 ∧ t.2.1 < v 0 2) ∧ (0 ≤ t.2.2 ∧ t.2.2 < v 0 2)) (hp : 0 < tar v 0 t) (hn : ∀ k, isk v k → ¬ (gx v 0 k = a ∧ gy v 0 k = b)) : (if hol v 0 t a b then 0 else bd f t) + lsm (fun e => bd f (e.1, e.2, K)) (lh1 v a b t) = bd (fI v a b K f) t := by
  obtain ⟨w1, w2, w3⟩ := wth_t ht hp hn
  have nz := sh_nz ht hp hn
  have a1 := hf t.1 K
  have a2 := hf t.2.1 K
  have a3 := hf t.2.2 K
  have e1 : fe v 0 a b (t.1, t.2.1) = sh2 v 0 t a b := rfl
  have e2 : fe v 0 a b (t.2.1, t.2.2) = sh0 v 0 t a b := rfl
  have e3 : fe v 0 a b (t.2.2, t.1) = sh1 v 0 t a b := rfl
  unfold lh1
  by_cases q : hol v 0 t a b
  · rw [if_pos q, if_pos q, lsm_app, lsm_app, lsm_ap1, lsm_ap1, lsm_ap1, e1, e2, e3]
    unfold hol at q
    by_cases z2 : sh2 v 0 t a b = 0
    · rw [if_neg (show ¬ 0 < sh2 v 0 t a b by omega), if_pos (show 0 < sh0 v 0 t a b by omega), if_pos (show 0 < sh1 v 0 t a b by omega)]
      unfold bd fI
      rw [if_pos (w1.mpr (by omega)), if_neg (fun z => by have := w2.mp z; omega), if_neg (fun z => by have := w3.mp z; omega)]
      show 0 + (0 + (f t.2.1 t.2.2 + f t.2.2 K + f K t.2.1) + (f t.2.2 t.1 + f t.1 K + f K t.2.2)) = _
      omega
    · by_cases z0 : sh0 v 0 t a b = 0
      · rw [if_pos (show 0 < sh2 v 0 t a b by omega), if_neg (show ¬ 0 < sh0 v 0 t a b by omega), if_pos (show 0 < sh1 v 0 t a b by omega)]
        unfold bd fI
        rw [if_neg (fun z => by have := w1.mp z; omega), if_pos (w2.mpr (by omega)), if_neg (fun z => by have := w3.mp z; omega)]
        show 0 + ((f t.1 t.2.1 + f t.2.1 K + f K t.1) + 0 + (f t.2.2 t.1 + f t.1 K + f K t.2.2)) = _
        omega
      · by_cases z1 : sh1 v 0 t a b = 0
        · rw [if_pos (show 0 < sh2 v 0 t a b by omega), if_pos (show 0 < sh0 v 0 t a b by omega), if_neg (show ¬ 0 < sh1 v 0 t a b by omega)]
          unfold bd fI
          rw [if_neg (fun z => by have := w1.mp z; omega), if_neg (fun z => by have := w2.mp z; omega), if_pos (w3.mpr (by omega))]
          show 0 + ((f t.1 t.2.1 + f t.2.1 K + f K t.1) + (f t.2.1 t.2.2 + f t.2.2 K + f K t.2.1) + 0) = _
          omega
        · rw [if_pos (show 0 < sh2 v 0 t a b by omega), if_pos (show 0 < sh0 v 0 t a b by omega), if_pos (show 0 < sh1 v 0 t a b by omega)]
          unfold bd fI
          rw [if_neg (fun z => by have := w1.mp z; omega), if_neg (fun z => by have := w2.mp z; omega), if_neg (fun z => by have := w3.mp z; omega)]
          show 0 + ((f t.1 t.2.1 + f t.2.1 K + f K t.1) + (f t.2.1 t.2.2 + f t.2.2 K + f K t.2.1) + (f t.2.2 t.1 + f t.1 K + f K t.2.2)) = _
          omega
  · rw [if_neg q, if_neg q]
    unfold hol at q
    unfold bd fI
    rw [if_neg (fun z => q (by have := w1.mp z; omega)), if_neg (fun z => q (by have := w2.mp z; omega)), if_neg (fun z => q (by have := w3.mp z; omega))]
    show _ + 0 = _
    omega
theorem ins_S {v : mz_G} {l : List tr3} {a b K : Int} {f : Int → Int → Int} (hf : An f) (hT : Rt (v 0 2) l) (hP : Pos v l 0) (hn : ∀ k, isk v k → ¬ (gx v 0 k = a ∧ gy v 0 k = b)) : lsm (bd f) (adN K (lhOf v l a b) (l.filter (fun z => !decide (hol v 0 z a b)))) = lsm (bd (fI v a b K f)) l := by
  rw [lsm_perm adN_perm, lsm_app, lsm_map, lsm_flt]
  have e : lsm (fun e => bd f (nrm e.1 e.2 K)) (lhOf v l a b) = lsm (fun t => lsm (fun e => bd f (e.1, e.2, K)) (lh1 v a b t)) l := by
    unfold lhOf
    rw [lsm_fm]
    exact lsm_cg (fun t _ => lsm_cg (fun e _ => bd_nrm))
  rw [e, ← lsm_add]
  refine lsm_cg (fun t ht => ?_)
  rw [← tri_I hf (hT t ht) (hP t ht) hn]
  by_cases q : hol v 0 t a b
  · rw [if_pos q, if_neg (by simp [q])]
  · rw [if_neg q, if_pos (by simp [q])]
/-- a dot seen from a side -/
def pN (v : mz_G) (s : Nat) (a b : Int) : Int := match s with
  | 0 => b
  | 1 => v 0 0 - 1 - a
  | 2 => v 0 1 - 1 - b
  | _ => a
def pT (v : mz_G) (s : Nat) (a b : Int) : Int := match s with
  | 0 => a
  | 1 => b
  | 2 => v 0 0 - 1 - a
  | _ => v 0 1 - 1 - b
theorem num_side {N X Y : Int} (h : X < Y) : (N * (Y - X) = 0 ∧ X * Y + N * N < 0) ↔ (N = 0 ∧ X < 0 ∧ 0 < Y) := by
  constructor
  · rintro ⟨h1, h2⟩
    have hN : N = 0 := by
      rcases Int.mul_eq_zero.mp h1 with z | z
      · exact z
      · omega
    rw [hN, Int.zero_mul, Int.add_zero] at h2
    by_cases q : X = 0
    · rw [q, Int.zero_mul] at h2
      omega
    · by_cases r : Y = 0
      · rw [r, Int.mul_zero] at h2
        omega
      · have := sgn_mul q r
        omega
  · rintro ⟨h1, h2, h3⟩
    rw [h1]
    have := Int.mul_neg_of_neg_of_pos h2 h3
    exact ⟨Int.zero_mul _, by rw [Int.zero_mul, Int.add_zero]; exact this⟩
theorem side_w {v : mz_G} {s : Nat} {a b x y : Int} (hx : cN v 0 s x = 0) (hy : cN v 0 s y = 0) (h : cT v 0 s x < cT v 0 s y) (hs : s < 4) : wth v a b x y ↔ (pN v s a b = 0 ∧ cT v 0 s x < pT v s a b ∧ pT v s a b < cT v 0 s y) := by
  have key := num_side (N := pN v s a b) (X := cT v 0 s x - pT v s a b) (Y := cT v 0 s y - pT v s a b) (by omega)
  have e1 : fe v 0 a b (x, y) = pN v s a b * (cT v 0 s y - pT v s a b - (cT v 0 s x - pT v s a b)) := by
    unfold fe ar
    show (gx v 0 x - a) * (gy v 0 y - b) - (gx v 0 y - a) * (gy v 0 x - b) = _
    rcases (show s = 0 ∨ s = 1 ∨ s = 2 ∨ s = 3 by omega) with rfl | rfl | rfl | rfl
    · have hx : gy v 0 x = 0 := hx
      have hy : gy v 0 y = 0 := hy
      show _ = b * (gx v 0 y - a - (gx v 0 x - a))
      rw [hx, hy]
      grind
    · have hx : gx v 0 x = v 0 0 - 1 := by have hx : v 0 0 - 1 - gx v 0 x = 0 := hx; omega
      have hy : gx v 0 y = v 0 0 - 1 := by have hy : v 0 0 - 1 - gx v 0 y = 0 := hy; omega
      show _ = (v 0 0 - 1 - a) * (gy v 0 y - b - (gy v 0 x - b))
      rw [hx, hy]
      grind
    · have hx : gy v 0 x = v 0 1 - 1 := by have hx : v 0 1 - 1 - gy v 0 x = 0 := hx; omega
      have hy : gy v 0 y = v 0 1 - 1 := by have hy : v 0 1 - 1 - gy v 0 y = 0 := hy; omega
      show _ = (v 0 1 - 1 - b) * ((v 0 0 - 1 - gx v 0 y) - (v 0 0 - 1 - a) - ((v 0 0 - 1 - gx v 0 x) - (v 0 0 - 1 - a)))
      rw [hx, hy]
      grind
    · have hx : gx v 0 x = 0 := hx
      have hy : gx v 0 y = 0 := hy
      show _ = a * ((v 0 1 - 1 - gy v 0 y) - (v 0 1 - 1 - b) - ((v 0 1 - 1 - gy v 0 x) - (v 0 1 - 1 - b)))
      rw [hx, hy]
      grind
  have e2 : (gx v 0 x - a) * (gx v 0 y - a) + (gy v 0 x - b) * (gy v 0 y - b) = (cT v 0 s x - pT v s a b) * (cT v 0 s y - pT v s a b) + pN v s a b * pN v s a b := by
    rcases (show s = 0 ∨ s = 1 ∨ s = 2 ∨ s = 3 by omega) with rfl | rfl | rfl | rfl
    · have hx : gy v 0 x = 0 := hx
      have hy : gy v 0 y = 0 := hy
      show _ = (gx v 0 x - a) * (gx v 0 y - a) + b * b
      rw [hx, hy]
      grind
    · have hx : gx v 0 x = v 0 0 - 1 := by have hx : v 0 0 - 1 - gx v 0 x = 0 := hx; omega
      have hy : gx v 0 y = v 0 0 - 1 := by have hy : v 0 0 - 1 - gx v 0 y = 0 := hy; omega
      show _ = (gy v 0 x - b) * (gy v 0 y - b) + (v 0 0 - 1 - a) * (v 0 0 - 1 - a)
      rw [hx, hy]
      grind
    · have hx : gy v 0 x = v 0 1 - 1 := by have hx : v 0 1 - 1 - gy v 0 x = 0 := hx; omega
      have hy : gy v 0 y = v 0 1 - 1 := by have hy : v 0 1 - 1 - gy v 0 y = 0 := hy; omega
      show _ = ((v 0 0 - 1 - gx v 0 x) - (v 0 0 - 1 - a)) * ((v 0 0 - 1 - gx v 0 y) - (v 0 0 - 1 - a)) + (v 0 1 - 1 - b) * (v 0 1 - 1 - b)
      rw [hx, hy]
      grind
    · have hx : gx v 0 x = 0 := hx
      have hy : gx v 0 y = 0 := hy
      show _ = ((v 0 1 - 1 - gy v 0 x) - (v 0 1 - 1 - b)) * ((v 0 1 - 1 - gy v 0 y) - (v 0 1 - 1 - b)) + a * a
      rw [hx, hy]
      grind
  unfold wth
  rw [e1, e2, key]
  omega
/-- the state with a new knot -/
theorem vin_g {v : mz_G} {a b x y : Int} {q : Nat} (hq : q < 2) {k : Int} (hk : isk v k) : gx (vin v a b x y) q k = gx v q k ∧ gy (vin v a b x y) q k = gy v q k := by
  have e : ¬ ((k.toNat : Nat) : Int) = v 0 2 := by
    unfold isk at hk
    omega
  have w : ∀ c i : Nat, ¬ (c = 0 ∧ i = 2) → ¬ (i : Int) = v 0 2 → vin v a b x y c i = v c i := by
    intro c i h1 h2
    unfold vin
    rw [if_neg h1, if_neg (fun z => h2 z.1), if_neg (fun z => h2 z.1), if_neg (fun z => h2 z.1), if_neg (fun z => h2 z.1)]
  exact ⟨w _ _ (by omega) e, w _ _ (by omega) e⟩
theorem vin_K {v : mz_G} {a b x y : Int} (h : 0 ≤ v 0 2) : gx (vin v a b x y) 0 (v 0 2) = a ∧ gy (vin v a b x y) 0 (v 0 2) = b ∧ gx (vin v a b x y) 1 (v 0 2) = x ∧ gy (vin v a b x y) 1 (v 0 2) = y := by
  have e : (((v 0 2).toNat : Nat) : Int) = v 0 2 := Int.toNat_of_nonneg h
  unfold gx gy vin
  simp [e]
theorem vin_0 {v : mz_G} {a b x y : Int} : vin v a b x y 0 0 = v 0 0 ∧ vin v a b x y 0 1 = v 0 1 ∧ vin v a b x y 0 2 = v 0 2 + 1 ∧ ∀ d, vin v a b x y 6 d = v 6 d := by
  refine ⟨by simp [vin], by simp [vin], by simp [vin], fun d => by simp [vin]⟩
theorem mem_ap1 {v : mz_G} {x y : Int} {e d : Int × Int} : d ∈ ap1 v x y e ↔ d = e ∧ 0 < fe v 0 x y e := by
  unfold ap1
  by_cases q : 0 < fe v 0 x y e
  · rw [if_pos q, List.mem_singleton]
    exact ⟨fun z => ⟨z, q⟩, fun z => z.1⟩
  · rw [if_neg q]
    exact ⟨fun z => (List.not_mem_nil z).elim, fun z => absurd z.2 q⟩
theorem mem_lh1 {v : mz_G} {x y : Int} {t : tr3} {d : Int × Int} : d ∈ lh1 v x y t ↔ hol v 0 t x y ∧ ((d = (t.1, t.2.1) ∧ 0 < sh2 v 0 t x y) ∨ (d = (t.2.1, t.2.2) ∧ 0 < sh0 v 0 t x y) ∨ (d = (t.2.2, t.1) ∧ 0 < sh1 v 0 t x y)) := by
  unfold lh1
  by_cases q : hol v 0 t x y
  · rw [if_pos q, List.mem_append, List.mem_append, mem_ap1, mem_ap1, mem_ap1, or_assoc]
    exact ⟨fun z => ⟨q, z⟩, fun z => z.2⟩
  · rw [if_neg q]
    exact ⟨fun z => (List.not_mem_nil z).elim, fun z => absurd z.1 q⟩
theorem mem_lhOf {v : mz_G} {l : List tr3} {x y : Int} {d : Int × Int} (h : d ∈ lhOf v l x y) : 0 < fe v 0 x y d ∧ ∃ t ∈ l, edg t d.1 d.2 := by
  obtain ⟨t, ht, h2⟩ := List.mem_flatMap.mp h
  rcases (mem_lh1.mp h2).2 with ⟨rfl, z⟩ | ⟨rfl, z⟩ | ⟨rfl, z⟩
  · exact ⟨z, t, ht, Or.inl ⟨rfl, rfl⟩⟩
  · exact ⟨z, t, ht, Or.inr (Or.inl ⟨rfl, rfl⟩)⟩
  · exact ⟨z, t, ht, Or.inr (Or.inr ⟨rfl, rfl⟩)⟩
theorem mem_adN {k : Int} {m : List (Int × Int)} {l : List tr3} {t : tr3} : t ∈ adN k m l ↔ t ∈ l ∨ ∃ e ∈ m, t = nrm e.1 e.2 k := by
  rw [adN_perm.mem_iff, List.mem_append, List.mem_map]
  constructor
  · rintro (z | ⟨e, z1, z2⟩)
    · exact Or.inl z
    · exact Or.inr ⟨e, z1, z2.symm⟩
  · rintro (z | ⟨e, z1, z2⟩)
    · exact Or.inl z
    · exact Or.inr ⟨e, z1, z2.symm⟩
