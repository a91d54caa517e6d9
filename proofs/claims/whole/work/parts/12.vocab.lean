/-! the words for a state: v: 0 the numbers (0 W, 1 H, 2 knots), 1 and 2 the homes' x and y, 3 and 4 the places', 6 the values; l: the triangles -/
abbrev tr3 : Type := Int × Int × Int
def tg (l : List tr3) (t : Int) : tr3 := l.getD t.toNat (0, 0, 0)
def pk (x : tr3) : Int := x.1 * 1024 + x.2.1 * 32 + x.2.2
def gx (v : mz_G) (q : Nat) (k : Int) : Int := v (1 + 2 * q) k.toNat
def gy (v : mz_G) (q : Nat) (k : Int) : Int := v (2 + 2 * q) k.toNat
/-- the numbers and the points are in their ranges -/
def Rg (v : mz_G) : Prop := (2 ≤ v 0 0 ∧ v 0 0 ≤ 20) ∧ (2 ≤ v 0 1 ∧ v 0 1 ≤ 20) ∧ (4 ≤ v 0 2 ∧ v 0 2 ≤ 31) ∧ ∀ k : Nat, (k : Int) < v 0 2 → (0 ≤ v 1 k ∧ v 1 k < v 0 0) ∧ (0 ≤ v 2 k ∧ v 2 k < v 0 1) ∧ (0 ≤ v 3 k ∧ v 3 k < v 0 0) ∧ (0 ≤ v 4 k ∧ v 4 k < v 0 1)
/-- the triangles are of knots below n -/
def Rt (n : Int) (l : List tr3) : Prop := ∀ x ∈ l, (0 ≤ x.1 ∧ x.1 < n) ∧ (0 ≤ x.2.1 ∧ x.2.1 < n) ∧ (0 ≤ x.2.2 ∧ x.2.2 < n)
/-- the class's cells hold the state -/
def CA (σ v : mz_G) (l : List tr3) : Prop := (σ 1 8 = v 0 0 ∧ σ 1 9 = v 0 1 ∧ σ 1 7 = v 0 2 ∧ σ 11 1 = (l.length : Int)) ∧ (∀ k : Nat, (k : Int) < v 0 2 → σ 16 k = v 1 k ∧ σ 17 k = v 2 k ∧ σ 18 k = v 3 k ∧ σ 19 k = v 4 k) ∧ (∀ (t : Nat) (x : tr3), l[t]? = some x → σ 22 t = pk x) ∧ ∀ d : Nat, (d : Int) < v 0 0 * v 0 1 → σ 4 d = v 6 d
theorem CA_ext {σ σ' v : mz_G} {l : List tr3} (h : CA σ v l) (h1 : ∀ i, i = 7 ∨ i = 8 ∨ i = 9 → σ' 1 i = σ 1 i) (h2 : σ' 11 1 = σ 11 1) (h3 : ∀ c, c = 4 ∨ c = 16 ∨ c = 17 ∨ c = 18 ∨ c = 19 ∨ c = 22 → ∀ i, σ' c i = σ c i) : CA σ' v l := by
  obtain ⟨⟨a1, a2, a3, a4⟩, a5, a6, a7⟩ := h
  refine ⟨⟨by rw [h1 8 (by simp)]; exact a1, by rw [h1 9 (by simp)]; exact a2, by rw [h1 7 (by simp)]; exact a3, by rw [h2]; exact a4⟩, fun k hk => ?_, fun t x hx => ?_, fun d hd => ?_⟩
  · rw [h3 16 (by simp), h3 17 (by simp), h3 18 (by simp), h3 19 (by simp)]
    exact a5 k hk
  · rw [h3 22 (by simp)]
    exact a6 t x hx
  · rw [h3 4 (by simp)]
    exact a7 d hd
theorem CA_up {σ v : mz_G} {l : List tr3} (h : CA σ v l) (c i : Nat) (z : Int) (hc : ¬ (c = 1 ∧ (i = 7 ∨ i = 8 ∨ i = 9)) ∧ ¬ (c = 11 ∧ i = 1) ∧ ¬ (c = 4 ∨ c = 16 ∨ c = 17 ∨ c = 18 ∨ c = 19 ∨ c = 22)) : CA (mz_up σ c i z) v l := by
  refine CA_ext h (fun j hj => ?_) ?_ (fun d hd j => ?_)
  · unfold mz_up; rw [if_neg]; intro q; apply hc.1; refine ⟨q.1.symm, ?_⟩; rw [← q.2]; exact hj
  · unfold mz_up; rw [if_neg]; intro q; exact hc.2.1 ⟨q.1.symm, q.2.symm⟩
  · unfold mz_up; rw [if_neg]; intro q; apply hc.2.2; rw [← q.1]; exact hd
theorem tg_get {l : List tr3} {t : Int} (h0 : 0 ≤ t) (h1 : t < l.length) : l[t.toNat]? = some (tg l t) := by
  have : t.toNat < l.length := by omega
  unfold tg
  rw [List.getD_eq_getElem?_getD, List.getElem?_eq_getElem this]
  rfl
theorem tg_mem {l : List tr3} {t : Int} (h0 : 0 ≤ t) (h1 : t < l.length) : tg l t ∈ l := List.mem_of_getElem? (tg_get h0 h1)
theorem Rt_at {n : Int} {l : List tr3} (h : Rt n l) {t : Int} (h0 : 0 ≤ t) (h1 : t < l.length) : (0 ≤ (tg l t).1 ∧ (tg l t).1 < n) ∧ (0 ≤ (tg l t).2.1 ∧ (tg l t).2.1 < n) ∧ (0 ≤ (tg l t).2.2 ∧ (tg l t).2.2 < n) := h _ (tg_mem h0 h1)
theorem CA_tri {σ v : mz_G} {l : List tr3} (h : CA σ v l) {t : Int} (h0 : 0 ≤ t) (h1 : t < l.length) : σ 22 t.toNat = pk (tg l t) := h.2.2.1 _ _ (tg_get h0 h1)
theorem CA_pt {σ v : mz_G} {l : List tr3} (h : CA σ v l) {k : Int} (h0 : 0 ≤ k) (h1 : k < v 0 2) : σ 16 k.toNat = gx v 0 k ∧ σ 17 k.toNat = gy v 0 k ∧ σ 18 k.toNat = gx v 1 k ∧ σ 19 k.toNat = gy v 1 k := h.2.1 k.toNat (by omega)
theorem Rg_pt {v : mz_G} (h : Rg v) {k : Int} (h0 : 0 ≤ k) (h1 : k < v 0 2) : (0 ≤ gx v 0 k ∧ gx v 0 k < v 0 0) ∧ (0 ≤ gy v 0 k ∧ gy v 0 k < v 0 1) ∧ (0 ≤ gx v 1 k ∧ gx v 1 k < v 0 0) ∧ (0 ≤ gy v 1 k ∧ gy v 1 k < v 0 1) := h.2.2.2 k.toNat (by omega)
theorem Rg_q {v : mz_G} (h : Rg v) {q : Nat} (hq : q < 2) {k : Int} (h0 : 0 ≤ k) (h1 : k < v 0 2) : (0 ≤ gx v q k ∧ gx v q k < v 0 0) ∧ (0 ≤ gy v q k ∧ gy v q k < v 0 1) := by
  have := Rg_pt h h0 h1
  rcases (show q = 0 ∨ q = 1 by omega) with rfl | rfl
  · exact ⟨this.1, this.2.1⟩
  · exact ⟨this.2.2.1, this.2.2.2⟩
theorem mul_bd {a b m k : Int} (ha : -m ≤ a ∧ a ≤ m) (hb : -k ≤ b ∧ b ≤ k) (hm : 0 ≤ m) (hk : 0 ≤ k) : -(m * k) ≤ a * b ∧ a * b ≤ m * k := by
  have h1 : (a * b).natAbs ≤ (m * k).natAbs := by
    rw [Int.natAbs_mul, Int.natAbs_mul]
    exact Nat.mul_le_mul (by omega) (by omega)
  have h2 : 0 ≤ m * k := Int.mul_nonneg hm hk
  omega
theorem ar_bd {x y a b c d : Int} (hx : 0 ≤ x ∧ x ≤ 19) (hy : 0 ≤ y ∧ y ≤ 19) (ha : 0 ≤ a ∧ a ≤ 19) (hb : 0 ≤ b ∧ b ≤ 19) (hc : 0 ≤ c ∧ c ≤ 19) (hd : 0 ≤ d ∧ d ≤ 19) : -722 ≤ ar x y a b c d ∧ ar x y a b c d ≤ 722 := by
  unfold ar
  have h1 := mul_bd (a := a - x) (b := d - y) (m := 19) (k := 19) (by omega) (by omega) (by omega) (by omega)
  have h2 := mul_bd (a := c - x) (b := b - y) (m := 19) (k := 19) (by omega) (by omega) (by omega) (by omega)
  omega
theorem pk_1 {x : tr3} {n : Int} (h : (0 ≤ x.1 ∧ x.1 < n) ∧ (0 ≤ x.2.1 ∧ x.2.1 < n) ∧ (0 ≤ x.2.2 ∧ x.2.2 < n)) (hn : n ≤ 31) : pk x / 1024 % 32 = x.1 ∧ pk x / 32 % 32 = x.2.1 ∧ pk x % 32 = x.2.2 ∧ 0 ≤ pk x ∧ pk x < 32768 := by
  unfold pk
  omega
/-- dots and knots -/
abbrev dot (v : mz_G) (x y : Int) : Prop := 0 ≤ x ∧ x < v 0 0 ∧ 0 ≤ y ∧ y < v 0 1
abbrev isk (v : mz_G) (k : Int) : Prop := 0 ≤ k ∧ k < v 0 2
/-- area of a triangle; a dot's shares in it; whether it has the dot -/
def tar (v : mz_G) (q : Nat) (x : tr3) : Int := ar (gx v q x.1) (gy v q x.1) (gx v q x.2.1) (gy v q x.2.1) (gx v q x.2.2) (gy v q x.2.2)
def sh0 (v : mz_G) (q : Nat) (t : tr3) (x y : Int) : Int := ar x y (gx v q t.2.1) (gy v q t.2.1) (gx v q t.2.2) (gy v q t.2.2)
def sh1 (v : mz_G) (q : Nat) (t : tr3) (x y : Int) : Int := ar x y (gx v q t.2.2) (gy v q t.2.2) (gx v q t.1) (gy v q t.1)
def sh2 (v : mz_G) (q : Nat) (t : tr3) (x y : Int) : Int := ar x y (gx v q t.1) (gy v q t.1) (gx v q t.2.1) (gy v q t.2.1)
abbrev hol (v : mz_G) (q : Nat) (t : tr3) (x y : Int) : Prop := 0 ≤ sh0 v q t x y ∧ 0 ≤ sh1 v q t x y ∧ 0 ≤ sh2 v q t x y
abbrev hasK (x : tr3) (k : Int) : Prop := x.1 = k ∨ x.2.1 = k ∨ x.2.2 = k
/-- sums, and the first one -/
def sumN (n : Nat) (f : Nat → Int) : Int := match n with
  | 0 => 0
  | n + 1 => sumN n f + f n
def sumI (t : Int) (f : Int → Int) : Int := sumN t.toNat (fun i => f (i : Int))
theorem sumI_0 (f : Int → Int) : sumI 0 f = 0 := rfl
theorem sumI_s {t : Int} {f : Int → Int} (h : 0 ≤ t) : sumI (t + 1) f = sumI t f + f t := by
  unfold sumI
  have e : (t + 1).toNat = t.toNat + 1 := by omega
  rw [e]
  show sumN t.toNat _ + f (t.toNat : Int) = _
  rw [Int.toNat_of_nonneg h]
theorem sumN_cg {n : Nat} {f g : Nat → Int} (h : ∀ i, i < n → f i = g i) : sumN n f = sumN n g := by
  induction n with
  | zero => rfl
  | succ n ih =>
    show sumN n f + f n = sumN n g + g n
    rw [ih (fun i hi => h i (by omega)), h n (by omega)]
theorem sumI_cg {t : Int} {f g : Int → Int} (h : ∀ i, 0 ≤ i → i < t → f i = g i) : sumI t f = sumI t g := sumN_cg (fun i hi => h i (by omega) (by omega))
theorem sumI_bd {t a b : Int} {f : Int → Int} (h0 : 0 ≤ t) (h : ∀ i, 0 ≤ i → i < t → a ≤ f i ∧ f i ≤ b) : a * t ≤ sumI t f ∧ sumI t f ≤ b * t := by
  obtain ⟨n, rfl⟩ := Int.eq_ofNat_of_zero_le h0
  induction n with
  | zero => simp [sumI_0]
  | succ n ih =>
    have h1 := ih (by omega) (fun i a b => h i a (by omega))
    have h2 := h n (by omega) (by omega)
    rw [show ((n + 1 : Nat) : Int) = (n : Int) + 1 by omega, sumI_s (by omega), Int.mul_add, Int.mul_add]
    omega
def fstN (n : Nat) (P : Nat → Bool) : Int := match n with
  | 0 => -1
  | n + 1 => if fstN n P = -1 then (if P n = true then (n : Int) else -1) else fstN n P
/-- the first i below t with P, or -1 -/
def fstI (t : Int) (P : Int → Prop) [DecidablePred P] : Int := fstN t.toNat (fun i => decide (P (i : Int)))
theorem fstI_0 (P : Int → Prop) [DecidablePred P] : fstI 0 P = -1 := rfl
theorem fstN_s {n : Nat} {P : Nat → Bool} (h : fstN n P = -1) : fstN (n + 1) P = if P n = true then (n : Int) else -1 := by
  show (if fstN n P = -1 then _ else _) = _
  rw [if_pos h]
theorem fstI_no {t : Int} {P : Int → Prop} [DecidablePred P] (h0 : 0 ≤ t) (h : fstI t P = -1) (hp : ¬ P t) : fstI (t + 1) P = -1 := by
  unfold fstI at h ⊢
  have e : (t + 1).toNat = t.toNat + 1 := by omega
  rw [e, fstN_s h, if_neg]
  simp only [decide_eq_true_eq, Int.toNat_of_nonneg h0]
  exact hp
theorem fstN_keep {n : Nat} {P : Nat → Bool} {r : Int} (h : fstN n P = r) (hr : ¬ r = -1) (d : Nat) : fstN (n + d) P = r := by
  induction d with
  | zero => exact h
  | succ d ih =>
    show (if fstN (n + d) P = -1 then _ else fstN (n + d) P) = r
    rw [ih, if_neg hr]
theorem fstI_yes {t n : Int} {P : Int → Prop} [DecidablePred P] (h0 : 0 ≤ t) (hn : t < n) (h : fstI t P = -1) (hp : P t) : fstI n P = t := by
  unfold fstI at h ⊢
  have e : n.toNat = (t.toNat + 1) + (n.toNat - t.toNat - 1) := by omega
  rw [e]
  refine fstN_keep ?_ (by omega) _
  rw [fstN_s h, if_pos]
  · exact Int.toNat_of_nonneg h0
  · simp only [decide_eq_true_eq, Int.toNat_of_nonneg h0]
    exact hp
theorem fstN_spec (n : Nat) (P : Nat → Bool) : (fstN n P = -1 ∧ ∀ i, i < n → P i = false) ∨ ∃ i : Nat, fstN n P = (i : Int) ∧ i < n ∧ P i = true ∧ ∀ j, j < i → P j = false := by
  induction n with
  | zero => exact Or.inl ⟨rfl, fun i h => absurd h (Nat.not_lt_zero i)⟩
  | succ n ih =>
    rcases ih with ⟨h1, h2⟩ | ⟨i, h1, h2, h3, h4⟩
    · rw [fstN_s h1]
      by_cases hp : P n = true
      · rw [if_pos hp]
        exact Or.inr ⟨n, rfl, by omega, hp, h2⟩
      · rw [if_neg hp]
        refine Or.inl ⟨rfl, fun i hi => ?_⟩
        rcases Nat.lt_or_ge i n with q | q
        · exact h2 i q
        · rw [show i = n by omega]; simpa using hp
    · refine Or.inr ⟨i, ?_, by omega, h3, h4⟩
      exact fstN_keep h1 (by omega) 1
theorem fstI_spec (t : Int) (P : Int → Prop) [DecidablePred P] : (fstI t P = -1 ∧ ∀ i, 0 ≤ i → i < t → ¬ P i) ∨ (0 ≤ fstI t P ∧ fstI t P < t ∧ P (fstI t P) ∧ ∀ j, 0 ≤ j → j < fstI t P → ¬ P j) := by
  rcases fstN_spec t.toNat (fun i => decide (P (i : Int))) with ⟨h1, h2⟩ | ⟨i, h1, h2, h3, h4⟩
  · refine Or.inl ⟨h1, fun i a b => ?_⟩
    have := h2 i.toNat (by omega)
    simpa [Int.toNat_of_nonneg a] using this
  · refine Or.inr ?_
    have e : fstI t P = (i : Int) := h1
    rw [e]
    refine ⟨by omega, by omega, by simpa using h3, fun j a b => ?_⟩
    have := h4 j.toNat (by omega)
    simpa [Int.toNat_of_nonneg a] using this
theorem fstI_cg {t : Int} {P P' : Int → Prop} [DecidablePred P] [DecidablePred P'] (h : ∀ i, 0 ≤ i → i < t → (P i ↔ P' i)) : fstI t P = fstI t P' := by
  rcases fstI_spec t P with ⟨h1, h2⟩ | ⟨h1, h2, h3, h4⟩
  · rcases fstI_spec t P' with ⟨g1, g2⟩ | ⟨g1, g2, g3, g4⟩
    · rw [h1, g1]
    · exact absurd ((h _ g1 g2).mpr g3) (h2 _ g1 g2)
  · rcases fstI_spec t P' with ⟨g1, g2⟩ | ⟨g1, g2, g3, g4⟩
    · exact absurd ((h _ h1 h2).mp h3) (g2 _ h1 h2)
    · rcases Int.lt_trichotomy (fstI t P) (fstI t P') with q | q | q
      · exact absurd ((h _ h1 h2).mp h3) (g4 _ h1 q)
      · exact q
      · exact absurd ((h _ g1 g2).mpr g3) (h4 _ g1 q)
/-- shares and areas are small -/
theorem sh_bd {v : mz_G} {l : List tr3} {q : Nat} {t : tr3} {x y : Int} (hR : Rg v) (hq : q < 2) (ht : (0 ≤ t.1 ∧ t.1 < v 0 2) ∧ (0 ≤ t.2.1 ∧ t.2.1 < v 0 2) ∧ (0 ≤ t.2.2 ∧ t.2.2 < v 0 2)) (hd : dot v x y) : (-722 ≤ sh0 v q t x y ∧ sh0 v q t x y ≤ 722) ∧ (-722 ≤ sh1 v q t x y ∧ sh1 v q t x y ≤ 722) ∧ (-722 ≤ sh2 v q t x y ∧ sh2 v q t x y ≤ 722) ∧ (-722 ≤ tar v q t ∧ tar v q t ≤ 722) := by
  have h1 := Rg_q hR hq ht.1.1 ht.1.2
  have h2 := Rg_q hR hq ht.2.1.1 ht.2.1.2
  have h3 := Rg_q hR hq ht.2.2.1 ht.2.2.2
  have hW := hR.1
  have hH := hR.2.1
  unfold dot at hd
  exact ⟨ar_bd (by omega) (by omega) (by omega) (by omega) (by omega) (by omega), ar_bd (by omega) (by omega) (by omega) (by omega) (by omega) (by omega), ar_bd (by omega) (by omega) (by omega) (by omega) (by omega) (by omega), ar_bd (by omega) (by omega) (by omega) (by omega) (by omega) (by omega)⟩
