/-! more words for the reference -/
theorem nX_sum {v : mz_G} {q : Nat} {t : tr3} {x y : Int} : sumI 3 (fun j => shk v q t j x y * gx v (1 - q) (tk t j)) = nX v q t x y := by
  show ((0 + sh0 v q t x y * gx v (1 - q) t.1) + sh1 v q t x y * gx v (1 - q) t.2.1) + sh2 v q t x y * gx v (1 - q) t.2.2 = _
  unfold nX
  omega
theorem nY_sum {v : mz_G} {q : Nat} {t : tr3} {x y : Int} : sumI 3 (fun j => shk v q t j x y * gy v (1 - q) (tk t j)) = nY v q t x y := by
  show ((0 + sh0 v q t x y * gy v (1 - q) t.1) + sh1 v q t x y * gy v (1 - q) t.2.1) + sh2 v q t x y * gy v (1 - q) t.2.2 = _
  unfold nY
  omega
/-- no triangle has a knot twice -/
def Dst (l : List tr3) : Prop := ∀ x ∈ l, ¬ x.1 = x.2.1 ∧ ¬ x.2.1 = x.2.2 ∧ ¬ x.2.2 = x.1
theorem Pos_Dst {v : mz_G} {l : List tr3} {q : Nat} (h : Pos v l q) : Dst l := by
  intro x hx
  have := h x hx
  unfold tar at this
  refine ⟨fun z => ?_, fun z => ?_, fun z => ?_⟩
  · rw [z] at this
    unfold ar at this
    simp at this
  · rw [z] at this
    unfold ar at this
    rw [Int.mul_comm] at this
    simp at this
  · rw [z] at this
    unfold ar at this
    simp at this
/-- the row of knots, three to a triangle -/
def ent (l : List tr3) (i : Int) : Int := tk (tg l (i / 3)) (i % 3)
theorem MT_ent {σ : mz_G} {l : List tr3} (h : MT σ l) {i : Int} (h0 : 0 ≤ i) (h1 : i < 3 * (l.length : Int)) : σ 35 i.toNat = ent l i := by
  have := MT_k h (t := i / 3) (k := i % 3) (by omega) (by omega) (by omega) (by omega)
  rw [show 3 * (i / 3) + i % 3 = i by omega] at this
  exact this
theorem ent_bd {n : Int} {l : List tr3} (h : Rt n l) {i : Int} (h0 : 0 ≤ i) (h1 : i < 3 * (l.length : Int)) : 0 ≤ ent l i ∧ ent l i < n := tk_bd (Rt_at h (show 0 ≤ i / 3 by omega) (show i / 3 < (l.length : Int) by omega))
theorem dgr_ent {l : List tr3} {k : Int} (h : Dst l) : sumI (3 * (l.length : Int)) (fun i => b01 (ent l i = k)) = dgr l k := by
  have key : ∀ n : Nat, n ≤ l.length → sumI (3 * (n : Int)) (fun i => b01 (ent l i = k)) = sumI (n : Int) (fun i => b01 (hasK (tg l i) k)) := by
    intro n
    induction n with
    | zero => intro _; rfl
    | succ n ih =>
      intro hn
      have hm : tg l (n : Int) ∈ l := tg_mem (by omega) (by omega)
      have hd := h _ hm
      rw [show 3 * ((n + 1 : Nat) : Int) = 3 * (n : Int) + 1 + 1 + 1 by omega, sumI_s (by omega), sumI_s (by omega), sumI_s (by omega), ih (by omega), show ((n + 1 : Nat) : Int) = (n : Int) + 1 by omega, sumI_s (by omega)]
      have e0 : ent l (3 * (n : Int)) = (tg l (n : Int)).1 := by
        unfold ent
        rw [show 3 * (n : Int) / 3 = n by omega, show 3 * (n : Int) % 3 = 0 by omega]
        rfl
      have e1 : ent l (3 * (n : Int) + 1) = (tg l (n : Int)).2.1 := by
        unfold ent
        rw [show (3 * (n : Int) + 1) / 3 = n by omega, show (3 * (n : Int) + 1) % 3 = 1 by omega]
        rfl
      have e2 : ent l (3 * (n : Int) + 1 + 1) = (tg l (n : Int)).2.2 := by
        unfold ent
        rw [show (3 * (n : Int) + 1 + 1) / 3 = n by omega, show (3 * (n : Int) + 1 + 1) % 3 = 2 by omega]
        rfl
      show _ + b01 (ent l (3 * (n : Int)) = k) + b01 (ent l (3 * (n : Int) + 1) = k) + b01 (ent l (3 * (n : Int) + 1 + 1) = k) = _ + b01 (hasK (tg l (n : Int)) k)
      rw [e0, e1, e2]
      by_cases q1 : (tg l (n : Int)).1 = k
      · rw [b01_t q1, b01_f (show ¬ (tg l (n : Int)).2.1 = k by omega), b01_f (show ¬ (tg l (n : Int)).2.2 = k by omega), b01_t (show hasK (tg l (n : Int)) k from Or.inl q1)]
        omega
      · by_cases q2 : (tg l (n : Int)).2.1 = k
        · rw [b01_f q1, b01_t q2, b01_f (show ¬ (tg l (n : Int)).2.2 = k by omega), b01_t (show hasK (tg l (n : Int)) k from Or.inr (Or.inl q2))]
          omega
        · by_cases q3 : (tg l (n : Int)).2.2 = k
          · rw [b01_f q1, b01_f q2, b01_t q3, b01_t (show hasK (tg l (n : Int)) k from Or.inr (Or.inr q3))]
            omega
          · rw [b01_f q1, b01_f q2, b01_f q3, b01_f (show ¬ hasK (tg l (n : Int)) k from fun z => by rcases z with z | z | z; exact q1 z; exact q2 z; exact q3 z)]
            omega
  exact key l.length (Nat.le_refl _)
/-- shares: what is common of them and of their sum -/
theorem shG_gcd {a b c s : Int} (h : a + b + c = s) : (Int.gcd c (Int.gcd b (Int.gcd a s : Int) : Int) : Int) = (Int.gcd (Int.gcd a b : Int) c : Int) := by
  have key : Int.gcd c (Int.gcd b (Int.gcd a s : Int) : Int) = Int.gcd (Int.gcd a b : Int) c := by
    apply Nat.dvd_antisymm
    · have d1 := Int.gcd_dvd_left (a := c) (b := (Int.gcd b (Int.gcd a s : Int) : Int))
      have d2 := Int.gcd_dvd_right (a := c) (b := (Int.gcd b (Int.gcd a s : Int) : Int))
      have d3 := Int.dvd_trans d2 (Int.gcd_dvd_left _ _)
      have d4 := Int.dvd_trans (Int.dvd_trans d2 (Int.gcd_dvd_right _ _)) (Int.gcd_dvd_left _ _)
      exact Int.dvd_gcd (Int.dvd_coe_gcd d4 d3) d1
    · have d1 := Int.gcd_dvd_left (a := (Int.gcd a b : Int)) (b := c)
      have d2 := Int.gcd_dvd_right (a := (Int.gcd a b : Int)) (b := c)
      have d3 := Int.dvd_trans d1 (Int.gcd_dvd_left _ _)
      have d4 := Int.dvd_trans d1 (Int.gcd_dvd_right _ _)
      have d5 : (Int.gcd (Int.gcd a b : Int) c : Int) ∣ s := by rw [← h]; exact Int.dvd_add (Int.dvd_add d3 d4) d2
      exact Int.dvd_gcd d2 (Int.dvd_coe_gcd d4 (Int.dvd_coe_gcd d3 d5))
  rw [key]
/-- a row of nearest dots -/
def TK (σ v : mz_G) (l : List tr3) (D : Int) : Prop := ∀ d : Int, 0 ≤ d → d < D → σ 37 d.toNat = ne v l d
/-- nothing but the row taken and the point -/
def Fy (σ σ' : mz_G) : Prop := ∀ c i, ¬ c = 37 → ¬ (c = 30 ∧ 20 ≤ i) → σ' c i = σ c i
theorem Fy.rf {σ : mz_G} : Fy σ σ := fun _ _ _ _ => rfl
theorem Fy.tr {σ σ' σ'' : mz_G} (h : Fy σ σ') (h' : Fy σ' σ'') : Fy σ σ'' := fun c i a b => (h' c i a b).trans (h c i a b)
theorem Fy_Fp {σ σ' : mz_G} (h : Fp σ σ') : Fy σ σ' := fun c i _ b => h c i b
theorem Fm_Fy {σ σ' : mz_G} (h : Fy σ σ') : Fm σ σ' := fun c i a => h c i (by omega) (by omega)
theorem MA_Fy {σ σ' v : mz_G} {l : List tr3} (h : MA σ v l) (hf : Fy σ σ') : MA σ' v l := MA_ext h (fun i hi => hf 30 i (by decide) (by omega)) (fun c hc i => hf c i (by omega) (by omega))
theorem us_0 {v : mz_G} {l : List tr3} {D e : Int} (hD : 0 ≤ D) : us v l D e = 0 ↔ fstI D (fun d => ne v l d = e) = -1 := by
  rw [fstI_nn]
  constructor
  · intro h d h0 h1 q
    have h3 := (sumI_ge (g := fun d => b01 (ne v l d = e)) h0 h1 (fun i _ _ => by rcases b01_01 (P := ne v l i = e) with r | r <;> omega)).2
    have h4 : b01 (ne v l d = e) ≤ us v l D e := h3
    rw [b01_t q] at h4
    omega
  · intro h
    apply Decidable.not_not.mp
    intro q
    obtain ⟨d, h0, h1, h2⟩ := sumI_ex q
    exact h2 (b01_f (h d h0 h1))
/-- the blend's four weights -/
def bw (x y b k : Int) : Int := (if k.tmod 2 = 0 then b - x.tmod b else x.tmod b) * (if k < 2 then b - y.tmod b else y.tmod b)
def bv (v : mz_G) (x y b k : Int) : Int := v 6 (v 0 0 * (y.tdiv b + k.tdiv 2) + x.tdiv b + k.tmod 2).toNat
def bt (v : mz_G) (x y b k : Int) : Int := if 0 < bw x y b k then bw x y b k * bv v x y b k else 0
theorem bt_in {v : mz_G} {x y b k : Int} (hR : Rg v) (hx : 0 ≤ x) (hy : 0 ≤ y) (hb : 0 < b) (h1 : x ≤ (v 0 0 - 1) * b) (h2 : y ≤ (v 0 1 - 1) * b) (k0 : 0 ≤ k) (k1 : k < 4) (hw : 0 < bw x y b k) : dot v (x.tdiv b + k.tmod 2) (y.tdiv b + k.tdiv 2) := by
  have tx := tmod_nn hx hb
  have ty := tmod_nn hy hb
  have ex := Int.tmod_add_mul_tdiv x b
  have ey := Int.tmod_add_mul_tdiv y b
  have nx : 0 ≤ x.tdiv b := Int.tdiv_nonneg hx (by omega)
  have ny : 0 ≤ y.tdiv b := Int.tdiv_nonneg hy (by omega)
  have key : ∀ {z m : Int}, z ≤ (m - 1) * b → 0 ≤ z.tmod b → z.tmod b + b * z.tdiv b = z → z.tdiv b ≤ m - 1 ∧ (0 < z.tmod b → z.tdiv b ≤ m - 2) := by
    intro z m hz ht he
    constructor
    · apply Int.not_lt.mp
      intro q
      have : b * m ≤ b * z.tdiv b := Int.mul_le_mul_of_nonneg_left (by omega) (by omega)
      rw [Int.sub_mul, Int.one_mul, Int.mul_comm m b] at hz
      omega
    · intro hp
      apply Int.not_lt.mp
      intro q
      have : b * (m - 1) ≤ b * z.tdiv b := Int.mul_le_mul_of_nonneg_left (by omega) (by omega)
      rw [Int.mul_comm b (m - 1)] at this
      omega
  have kx := key h1 tx.1 ex
  have ky := key h2 ty.1 ey
  have pos : ∀ {p q : Int}, 0 < p * q → 0 ≤ p → 0 ≤ q → 0 < p ∧ 0 < q := by
    intro p q h hp hq
    constructor
    · rcases Int.lt_or_eq_of_le hp with z | z
      · exact z
      · rw [← z, Int.zero_mul] at h; omega
    · rcases Int.lt_or_eq_of_le hq with z | z
      · exact z
      · rw [← z, Int.mul_zero] at h; omega
  unfold bw at hw
  unfold dot
  rcases (show k = 0 ∨ k = 1 ∨ k = 2 ∨ k = 3 by omega) with rfl | rfl | rfl | rfl
  · rw [show (0 : Int).tmod 2 = 0 from rfl, show (0 : Int).tdiv 2 = 0 from rfl]
    omega
  · rw [show (1 : Int).tmod 2 = 1 from rfl, show (1 : Int).tdiv 2 = 0 from rfl]
    rw [show (1 : Int).tmod 2 = 1 from rfl, if_neg (by decide), if_pos (by decide)] at hw
    have := pos hw tx.1 (by omega)
    omega
  · rw [show (2 : Int).tmod 2 = 0 from rfl, show (2 : Int).tdiv 2 = 1 from rfl]
    rw [show (2 : Int).tmod 2 = 0 from rfl, if_pos rfl, if_neg (by decide)] at hw
    have := pos hw (by omega) ty.1
    omega
  · rw [show (3 : Int).tmod 2 = 1 from rfl, show (3 : Int).tdiv 2 = 1 from rfl]
    rw [show (3 : Int).tmod 2 = 1 from rfl, if_neg (by decide), if_neg (by decide)] at hw
    have := pos hw tx.1 ty.1
    omega
theorem bw_nn {x y b k : Int} (hx : 0 ≤ x) (hy : 0 ≤ y) (hb : 0 < b) : 0 ≤ bw x y b k ∧ bw x y b k ≤ b * b := by
  have tx := tmod_nn hx hb
  have ty := tmod_nn hy hb
  unfold bw
  constructor
  · apply Int.mul_nonneg
    · split <;> omega
    · split <;> omega
  · apply Int.mul_le_mul
    · split <;> omega
    · split <;> omega
    · split <;> omega
    · omega
theorem bt_vz {v : mz_G} {x y b k : Int} (hR : Rg v) (hx : 0 ≤ x) (hy : 0 ≤ y) (hb : 0 < b) (h1 : x ≤ (v 0 0 - 1) * b) (h2 : y ≤ (v 0 1 - 1) * b) (k0 : 0 ≤ k) (k1 : k < 4) : bt v x y b k = bw x y b k * vz v (x.tdiv b + k.tmod 2) (y.tdiv b + k.tdiv 2) := by
  have hn := (bw_nn (k := k) hx hy hb).1
  unfold bt
  split
  next h =>
    have := bt_in hR hx hy hb h1 h2 k0 k1 h
    unfold vz bv
    rw [if_pos this, show v 0 0 * (y.tdiv b + k.tdiv 2) + x.tdiv b + k.tmod 2 = (y.tdiv b + k.tdiv 2) * v 0 0 + (x.tdiv b + k.tmod 2) by rw [Int.mul_comm]; omega]
  next h =>
    rw [show bw x y b k = 0 by omega, Int.zero_mul]
theorem bt_sum {v : mz_G} {x y b : Int} (hR : Rg v) (hx : 0 ≤ x) (hy : 0 ≤ y) (hb : 0 < b) (h1 : x ≤ (v 0 0 - 1) * b) (h2 : y ≤ (v 0 1 - 1) * b) : sumI 4 (bt v x y b) = blA v x y b := by
  have e : sumI 4 (bt v x y b) = 0 + bt v x y b 0 + bt v x y b 1 + bt v x y b 2 + bt v x y b 3 := rfl
  rw [e, bt_vz hR hx hy hb h1 h2 (by decide) (by decide), bt_vz hR hx hy hb h1 h2 (by decide) (by decide), bt_vz hR hx hy hb h1 h2 (by decide) (by decide), bt_vz hR hx hy hb h1 h2 (by decide) (by decide)]
  have w0 : bw x y b 0 = (b - x.tmod b) * (b - y.tmod b) := rfl
  have w1 : bw x y b 1 = x.tmod b * (b - y.tmod b) := rfl
  have w2 : bw x y b 2 = (b - x.tmod b) * y.tmod b := rfl
  have w3 : bw x y b 3 = x.tmod b * y.tmod b := rfl
  rw [w0, w1, w2, w3, show (0 : Int).tmod 2 = 0 from rfl, show (0 : Int).tdiv 2 = 0 from rfl, show (1 : Int).tmod 2 = 1 from rfl, show (1 : Int).tdiv 2 = 0 from rfl, show (2 : Int).tmod 2 = 0 from rfl, show (2 : Int).tdiv 2 = 1 from rfl, show (3 : Int).tmod 2 = 1 from rfl, show (3 : Int).tdiv 2 = 1 from rfl, Int.add_zero, Int.add_zero]
  unfold blA
  rw [Int.mul_add, Int.mul_add, ← Int.mul_assoc, ← Int.mul_assoc, ← Int.mul_assoc, ← Int.mul_assoc, Int.mul_comm (b - y.tmod b) (b - x.tmod b), Int.mul_comm (b - y.tmod b) (x.tmod b), Int.mul_comm (y.tmod b) (b - x.tmod b), Int.mul_comm (y.tmod b) (x.tmod b)]
  omega
