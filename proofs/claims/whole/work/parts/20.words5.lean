/-! the words for dots: where they lie, shares, fractions -/
theorem CA_WY {σ : mz_G} {v : mz_G} {t j : Int} {σ' : mz_G} (h : WY σ v t j) (h2 : ∀ i, σ' 20 i = σ 20 i ∧ σ' 21 i = σ 21 i) : WY σ' v t j := fun k hk => by
  rw [(h2 k).1, (h2 k).2]
  exact h k hk
/-- in which triangle a dot lies -/
def lie (v : mz_G) (l : List tr3) (q : Nat) (x y : Int) : Int := fstI (l.length : Int) (fun i => hol v q (tg l i) x y)
/-- each dot lies in one; no triangle is folded -/
def Cov (v : mz_G) (l : List tr3) (q : Nat) : Prop := ∀ x y, dot v x y → ¬ lie v l q x y = -1
def Pos (v : mz_G) (l : List tr3) (q : Nat) : Prop := ∀ t ∈ l, 0 < tar v q t
theorem lie_at {v : mz_G} {l : List tr3} {q : Nat} {x y : Int} (h : Cov v l q) (hd : dot v x y) : 0 ≤ lie v l q x y ∧ lie v l q x y < (l.length : Int) ∧ hol v q (tg l (lie v l q x y)) x y := by
  rcases fstI_spec (l.length : Int) (fun i => hol v q (tg l i) x y) with ⟨h1, -⟩ | ⟨h1, h2, h3, -⟩
  · exact absurd h1 (h x y hd)
  · exact ⟨h1, h2, h3⟩
theorem lie_bd {v : mz_G} {l : List tr3} {q : Nat} {x y : Int} : -1 ≤ lie v l q x y ∧ lie v l q x y < (l.length : Int) ∨ lie v l q x y = -1 := by
  rcases fstI_spec (l.length : Int) (fun i => hol v q (tg l i) x y) with ⟨h1, -⟩ | ⟨h1, h2, h3, -⟩
  · exact Or.inr h1
  · left
    unfold lie
    omega
theorem sh_sum {v : mz_G} {q : Nat} {t : tr3} {x y : Int} : sh0 v q t x y + sh1 v q t x y + sh2 v q t x y = tar v q t := by
  unfold sh0 sh1 sh2 tar ar
  generalize gx v q t.1 = a
  generalize gy v q t.1 = b
  generalize gx v q t.2.1 = c
  generalize gy v q t.2.1 = d
  generalize gx v q t.2.2 = e
  generalize gy v q t.2.2 = f
  simp only [Int.sub_mul, Int.mul_sub]
  rw [Int.mul_comm x d, Int.mul_comm x f, Int.mul_comm x b, Int.mul_comm x y, Int.mul_comm c y, Int.mul_comm e y, Int.mul_comm a y]
  rw [Int.mul_comm e b, Int.mul_comm a b, Int.mul_comm a d, Int.mul_comm a f, Int.mul_comm c b, Int.mul_comm e d]
  rw [Int.mul_comm c f]
  omega
/-- numbers above, before they are made least -/
def nX (v : mz_G) (q : Nat) (t : tr3) (x y : Int) : Int := sh0 v q t x y * gx v (1 - q) t.1 + sh1 v q t x y * gx v (1 - q) t.2.1 + sh2 v q t x y * gx v (1 - q) t.2.2
def nY (v : mz_G) (q : Nat) (t : tr3) (x y : Int) : Int := sh0 v q t x y * gy v (1 - q) t.1 + sh1 v q t x y * gy v (1 - q) t.2.1 + sh2 v q t x y * gy v (1 - q) t.2.2
def fG (v : mz_G) (q : Nat) (t : tr3) (x y : Int) : Int := (Int.gcd (Int.gcd (nX v q t x y) (nY v q t x y)) (tar v q t) : Int)
def shq (n d : Int) : Int := if 1 < d then n.tdiv d else n
def fX (v : mz_G) (l : List tr3) (q : Nat) (x y : Int) : Int := shq (nX v q (tg l (lie v l q x y)) x y) (fG v q (tg l (lie v l q x y)) x y)
def fY (v : mz_G) (l : List tr3) (q : Nat) (x y : Int) : Int := shq (nY v q (tg l (lie v l q x y)) x y) (fG v q (tg l (lie v l q x y)) x y)
def fB (v : mz_G) (l : List tr3) (q : Nat) (x y : Int) : Int := shq (tar v q (tg l (lie v l q x y))) (fG v q (tg l (lie v l q x y)) x y)
def rnd (a b : Int) : Int := if b ≤ 0 then 0 else if b < 2 * a.tmod b then a.tdiv b + 1 else a.tdiv b
/-- numbers within bounds -/
theorem mix_bd {a b c s0 s1 s2 A : Int} (h0 : 0 ≤ s0) (h1 : 0 ≤ s1) (h2 : 0 ≤ s2) (hA : s0 + s1 + s2 = A) (ha : 0 ≤ a ∧ a ≤ 19) (hb : 0 ≤ b ∧ b ≤ 19) (hc : 0 ≤ c ∧ c ≤ 19) : 0 ≤ s0 * a + s1 * b + s2 * c ∧ s0 * a + s1 * b + s2 * c ≤ A * 19 := by
  have e1 : s0 * a ≤ s0 * 19 := Int.mul_le_mul_of_nonneg_left (by omega) h0
  have e2 : s1 * b ≤ s1 * 19 := Int.mul_le_mul_of_nonneg_left (by omega) h1
  have e3 : s2 * c ≤ s2 * 19 := Int.mul_le_mul_of_nonneg_left (by omega) h2
  have e4 : 0 ≤ s0 * a := Int.mul_nonneg h0 (by omega)
  have e5 : 0 ≤ s1 * b := Int.mul_nonneg h1 (by omega)
  have e6 : 0 ≤ s2 * c := Int.mul_nonneg h2 (by omega)
  omega
theorem nX_bd {v : mz_G} {q : Nat} {t : tr3} {x y : Int} (hR : Rg v) (hq : q < 2) (ht : (0 ≤ t.1 ∧ t.1 < v 0 2) ∧ (0 ≤ t.2.1 ∧ t.2.1 < v 0 2) ∧ (0 ≤ t.2.2 ∧ t.2.2 < v 0 2)) (hd : dot v x y) (hh : hol v q t x y) : (0 ≤ nX v q t x y ∧ nX v q t x y ≤ 13718) ∧ (0 ≤ nY v q t x y ∧ nY v q t x y ≤ 13718) ∧ (0 ≤ tar v q t ∧ tar v q t ≤ 722) := by
  have hs := sh_sum (v := v) (q := q) (t := t) (x := x) (y := y)
  have hb := sh_bd (l := []) hR hq ht hd
  have h1 := Rg_q hR (q := 1 - q) (by omega) ht.1.1 ht.1.2
  have h2 := Rg_q hR (q := 1 - q) (by omega) ht.2.1.1 ht.2.1.2
  have h3 := Rg_q hR (q := 1 - q) (by omega) ht.2.2.1 ht.2.2.2
  have hW := hR.1
  have hH := hR.2.1
  have m1 := mix_bd hh.1 hh.2.1 hh.2.2 hs (a := gx v (1 - q) t.1) (b := gx v (1 - q) t.2.1) (c := gx v (1 - q) t.2.2) (by omega) (by omega) (by omega)
  have m2 := mix_bd hh.1 hh.2.1 hh.2.2 hs (a := gy v (1 - q) t.1) (b := gy v (1 - q) t.2.1) (c := gy v (1 - q) t.2.2) (by omega) (by omega) (by omega)
  obtain ⟨p1, p2, p3⟩ := hh
  unfold nX nY
  omega
/-- the greatest divisor, step by step -/
theorem gcd_step {x y : Int} : Int.gcd y (x.tmod y) = Int.gcd x y := by
  unfold Int.gcd
  rw [Int.natAbs_tmod, Nat.gcd_comm x.natAbs y.natAbs, Nat.gcd_rec y.natAbs x.natAbs, Nat.gcd_comm]
def DvP (i x y : Int) : Prop := i = 0 ∨ (y ≤ x ∧ x * y < 2 ^ (64 - i).toNat)
theorem tmod_nn {x y : Int} (hx : 0 ≤ x) (hy : 0 < y) : 0 ≤ x.tmod y ∧ x.tmod y < y ∧ x.tmod y ≤ x := by
  rw [Int.tmod_eq_emod_of_nonneg hx]
  have h1 := Int.emod_nonneg x (by omega : y ≠ 0)
  have h2 := Int.emod_lt_of_pos x hy
  have h3 : 0 ≤ y * (x / y) := Int.mul_nonneg (by omega) (Int.ediv_nonneg hx (by omega))
  have h4 := Int.mul_ediv_add_emod x y
  omega
theorem DvP_s {i x y : Int} (h : DvP i x y) (hi : 0 ≤ i) (hi2 : i < 64) (hx : 0 ≤ x ∧ x ≤ 2147483647) (hy : 0 < y ∧ y ≤ 2147483647) : DvP (i + 1) y (x.tmod y) := by
  obtain ⟨t0, t1, t2⟩ := tmod_nn hx.1 hy.1
  refine Or.inr ⟨by omega, ?_⟩
  rcases h with rfl | ⟨h1, h2⟩
  · have : y * x.tmod y ≤ 2147483647 * 2147483647 := Int.mul_le_mul hy.2 (by omega) t0 (by omega)
    have e : (2 : Int) ^ (64 - (0 + 1) : Int).toNat = 9223372036854775808 := by decide
    rw [e]
    omega
  · have e : (64 - i).toNat = (64 - (i + 1)).toNat + 1 := by omega
    rw [e, Int.pow_succ] at h2
    have h3 : 2 * x.tmod y ≤ x := by
      have q := Int.tmod_add_mul_tdiv x y
      have q2 : 1 ≤ x.tdiv y := by
        rw [Int.tdiv_eq_ediv_of_nonneg hx.1]
        exact (Int.le_ediv_iff_mul_le hy.1).mpr (by omega)
      have q3 : y * 1 ≤ y * x.tdiv y := Int.mul_le_mul_of_nonneg_left q2 (by omega)
      omega
    have h4 : y * (2 * x.tmod y) ≤ y * x := Int.mul_le_mul_of_nonneg_left h3 (by omega)
    have h5 : y * (2 * x.tmod y) = 2 * (y * x.tmod y) := by rw [← Int.mul_assoc, Int.mul_comm y 2, Int.mul_assoc]
    have h6 : y * x = x * y := Int.mul_comm y x
    omega
theorem DvP_end {x y : Int} (h : DvP 64 x y) (hx : 0 ≤ x) (hy : 0 ≤ y) : y = 0 := by
  rcases h with h | ⟨h1, h2⟩
  · omega
  · have e : (2 : Int) ^ (64 - 64 : Int).toNat = 1 := by decide
    rw [e] at h2
    have h3 : x * y = 0 := by
      have := Int.mul_nonneg hx hy
      omega
    rcases Int.mul_eq_zero.mp h3 with q | q
    · omega
    · exact q
theorem gcd_x0 {x : Int} (hx : 0 ≤ x) : (Int.gcd x 0 : Int) = x := by
  unfold Int.gcd
  simp
  omega
theorem gcd_le {a b : Int} (ha : 0 ≤ a) (hb : 0 ≤ b) : (0 : Int) ≤ Int.gcd a b ∧ (Int.gcd a b : Int) ≤ max a b := by
  refine ⟨by omega, ?_⟩
  by_cases h : b = 0
  · subst h
    rw [gcd_x0 ha]
    omega
  · have : (Int.gcd a b : Int) ≤ b := by
      have := Nat.le_of_dvd (by omega) (Nat.gcd_dvd_right a.natAbs b.natAbs)
      unfold Int.gcd
      omega
    omega
/-- a dot that a triangle has lies in its box -/
theorem bary {a b c s0 s1 s2 A z : Int} (hA : 0 < A) (h0 : 0 ≤ s0) (h1 : 0 ≤ s1) (h2 : 0 ≤ s2) (hs : s0 + s1 + s2 = A) (hz : s0 * a + s1 * b + s2 * c = A * z) : min a (min b c) ≤ z ∧ z ≤ max a (max b c) := by
  constructor
  · apply Int.not_lt.mp
    intro q
    have e1 : s0 * (z + 1) ≤ s0 * a := Int.mul_le_mul_of_nonneg_left (by omega) h0
    have e2 : s1 * (z + 1) ≤ s1 * b := Int.mul_le_mul_of_nonneg_left (by omega) h1
    have e3 : s2 * (z + 1) ≤ s2 * c := Int.mul_le_mul_of_nonneg_left (by omega) h2
    have e4 : A * (z + 1) = s0 * (z + 1) + s1 * (z + 1) + s2 * (z + 1) := by rw [← hs, Int.add_mul, Int.add_mul]
    rw [Int.mul_add, Int.mul_one] at e4
    omega
  · apply Int.not_lt.mp
    intro q
    have e1 : s0 * a ≤ s0 * (z - 1) := Int.mul_le_mul_of_nonneg_left (by omega) h0
    have e2 : s1 * b ≤ s1 * (z - 1) := Int.mul_le_mul_of_nonneg_left (by omega) h1
    have e3 : s2 * c ≤ s2 * (z - 1) := Int.mul_le_mul_of_nonneg_left (by omega) h2
    have e4 : A * (z - 1) = s0 * (z - 1) + s1 * (z - 1) + s2 * (z - 1) := by rw [← hs, Int.add_mul, Int.add_mul]
    rw [Int.mul_sub, Int.mul_one] at e4
    omega
theorem bary_x {x y a b c d e f : Int} : ar x y c d e f * a + ar x y e f a b * c + ar x y a b c d * e = ar a b c d e f * x := by
  unfold ar
  simp only [Int.sub_mul, Int.mul_sub]
  simp only [Int.mul_comm, Int.mul_left_comm, Int.mul_assoc]
  omega
theorem bary_y {x y a b c d e f : Int} : ar x y c d e f * b + ar x y e f a b * d + ar x y a b c d * f = ar a b c d e f * y := by
  unfold ar
  simp only [Int.sub_mul, Int.mul_sub]
  simp only [Int.mul_comm, Int.mul_left_comm, Int.mul_assoc]
  omega
theorem hol_box {v : mz_G} {q : Nat} {t : tr3} {x y : Int} (hp : 0 < tar v q t) (h : hol v q t x y) : (min (gx v q t.1) (min (gx v q t.2.1) (gx v q t.2.2)) ≤ x ∧ x ≤ max (gx v q t.1) (max (gx v q t.2.1) (gx v q t.2.2))) ∧ (min (gy v q t.1) (min (gy v q t.2.1) (gy v q t.2.2)) ≤ y ∧ y ≤ max (gy v q t.1) (max (gy v q t.2.1) (gy v q t.2.2))) := ⟨bary hp h.1 h.2.1 h.2.2 sh_sum bary_x, bary hp h.1 h.2.1 h.2.2 sh_sum bary_y⟩
/-- the cover's cells while it is laid: the first t triangles, and t at the dots ahead of (x, y) -/
def FL (v : mz_G) (l : List tr3) (t x y : Int) : Int := fstI t (fun i => hol v 1 (tg l i) x y)
def FH (v : mz_G) (l : List tr3) (t x y : Int) : Int := sumI t (fun i => b01 (hol v 1 (tg l i) x y))
def LJ (σ v : mz_G) (l : List tr3) (t x y : Int) : Prop := ∀ a b : Int, dot v a b → σ 14 (b * v 0 0 + a).toNat = (if b < y ∨ (b = y ∧ a < x) then FL v l (t + 1) a b else FL v l t a b) ∧ σ 15 (b * v 0 0 + a).toNat = (if b < y ∨ (b = y ∧ a < x) then FH v l (t + 1) a b else FH v l t a b)
def LI (σ v : mz_G) (l : List tr3) (t : Int) : Prop := ∀ a b : Int, dot v a b → σ 14 (b * v 0 0 + a).toNat = FL v l t a b ∧ σ 15 (b * v 0 0 + a).toNat = FH v l t a b
/-- nothing but the cover has changed -/
def Fc (σ σ' : mz_G) : Prop := ∀ c i, ¬ c = 14 → ¬ c = 15 → σ' c i = σ c i
theorem Fc.rf {σ : mz_G} : Fc σ σ := fun _ _ _ _ => rfl
theorem Fc.tr {σ σ' σ'' : mz_G} (h : Fc σ σ') (h' : Fc σ' σ'') : Fc σ σ'' := fun c i a b => (h' c i a b).trans (h c i a b)
theorem CA_Fc {σ σ' v : mz_G} {l : List tr3} (h : CA σ v l) (hf : Fc σ σ') : CA σ' v l := CA_ext h (fun i hi => hf 1 i (by decide) (by decide)) (hf 11 1 (by decide) (by decide)) (fun c hc i => hf c i (by omega) (by omega))
theorem FL_no {v : mz_G} {l : List tr3} {t x y : Int} (h0 : 0 ≤ t) (h : ¬ hol v 1 (tg l t) x y) : FL v l (t + 1) x y = FL v l t x y ∧ FH v l (t + 1) x y = FH v l t x y := by
  constructor
  · unfold FL
    rcases fstI_spec t (fun i => hol v 1 (tg l i) x y) with ⟨h1, -⟩ | ⟨h1, h2, h3, h4⟩
    · rw [h1]
      exact fstI_no h0 h1 h
    · have e := fstI_yes (P := fun i => hol v 1 (tg l i) x y) (t := fstI t (fun i => hol v 1 (tg l i) x y)) (n := t + 1) h1 (by omega) ?_ h3
      · exact e
      · rcases fstI_spec (fstI t (fun i => hol v 1 (tg l i) x y)) (fun i => hol v 1 (tg l i) x y) with ⟨g1, -⟩ | ⟨g1, g2, g3, -⟩
        · exact g1
        · exact absurd g3 (h4 _ g1 g2)
  · unfold FH
    rw [sumI_s h0, b01_f h]
    omega
theorem FL_yes {v : mz_G} {l : List tr3} {t x y : Int} (h0 : 0 ≤ t) (h : hol v 1 (tg l t) x y) : FL v l (t + 1) x y = (if FL v l t x y = -1 then t else FL v l t x y) ∧ FH v l (t + 1) x y = FH v l t x y + 1 := by
  constructor
  · unfold FL
    rcases fstI_spec t (fun i => hol v 1 (tg l i) x y) with ⟨h1, -⟩ | ⟨h1, h2, h3, h4⟩
    · rw [if_pos h1]
      exact fstI_yes h0 (by omega) h1 h
    · rw [if_neg (by omega)]
      have e := fstI_yes (P := fun i => hol v 1 (tg l i) x y) (t := fstI t (fun i => hol v 1 (tg l i) x y)) (n := t + 1) h1 (by omega) ?_ h3
      · exact e
      · rcases fstI_spec (fstI t (fun i => hol v 1 (tg l i) x y)) (fun i => hol v 1 (tg l i) x y) with ⟨g1, -⟩ | ⟨g1, g2, g3, -⟩
        · exact g1
        · exact absurd g3 (h4 _ g1 g2)
  · unfold FH
    rw [sumI_s h0, b01_t h]
/-- dots and their numbers -/
theorem dn_in {v : mz_G} {x y : Int} (hR : Rg v) (h : dot v x y) : 0 ≤ y * v 0 0 + x ∧ y * v 0 0 + x < v 0 0 * v 0 1 ∧ v 0 0 * v 0 1 ≤ 400 := by
  obtain ⟨h1, h2, h3, h4⟩ := h
  have hW := hR.1
  have hH := hR.2.1
  have e1 : 0 ≤ y * v 0 0 := Int.mul_nonneg h3 (by omega)
  have e2 : (y + 1) * v 0 0 ≤ v 0 1 * v 0 0 := Int.mul_le_mul_of_nonneg_right (by omega) (by omega)
  rw [Int.add_mul, Int.one_mul] at e2
  have e3 : v 0 1 * v 0 0 = v 0 0 * v 0 1 := Int.mul_comm _ _
  have e4 : v 0 0 * v 0 1 ≤ 20 * 20 := Int.mul_le_mul hW.2 hH.2 (by omega) (by omega)
  omega
theorem dn_inj {W x y a b : Int} (h1 : 0 ≤ x ∧ x < W) (h2 : 0 ≤ a ∧ a < W) (h : y * W + x = b * W + a) : y = b ∧ x = a := by
  have hy : y = b := by
    rcases Int.lt_trichotomy y b with q | q | q
    · have : (y + 1) * W ≤ b * W := Int.mul_le_mul_of_nonneg_right (by omega) (by omega)
      rw [Int.add_mul, Int.one_mul] at this
      omega
    · exact q
    · have : (b + 1) * W ≤ y * W := Int.mul_le_mul_of_nonneg_right (by omega) (by omega)
      rw [Int.add_mul, Int.one_mul] at this
      omega
  subst hy
  exact ⟨rfl, by omega⟩
