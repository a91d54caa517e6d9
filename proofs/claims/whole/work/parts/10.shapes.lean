/-! the worlds of the class (cells 0 to 22) and of the reference (30 to 44): 0 an int, 1 a boolean, k + 2 a reference to the cell k -/
def shA : mz_S := [(0, .inl (5, [3, 4, 5, 6, 7, 8, 9, 1])), (1, .inl (1, [10, 11, 12, 13, 14, 15, 0, 0, 0, 0])), (2, .inl (0, [16, 17])), (3, .inl (3, [0, 0, 0, 0, 0, 0, 0, 0])), (4, .inr 400), (5, .inr 400), (6, .inr 400), (7, .inr 400), (8, .inl (2, [18, 19])), (9, .inl (2, [20, 21])), (10, .inl (2, [22, 23])), (11, .inl (4, [24, 0])), (12, .inr 64), (13, .inr 64), (14, .inr 400), (15, .inr 400), (16, .inr 32), (17, .inr 32), (18, .inr 32), (19, .inr 32), (20, .inr 32), (21, .inr 32), (22, .inr 64)]
def shM : mz_S := [(30, .inl (6, [0, 0, 0, 0, 33, 34, 35, 36, 37, 38, 39, 40, 41, 42, 43, 44, 0, 0, 45, 46, 0, 0, 0])), (31, .inr 31), (32, .inr 31), (33, .inr 31), (34, .inr 31), (35, .inr 180), (36, .inr 400), (37, .inr 400), (38, .inr 31), (39, .inr 31), (40, .inr 31), (41, .inr 31), (42, .inr 180), (43, .inr 60), (44, .inr 180)]
def shF : mz_S := shA ++ shM
theorem shA_ok : mz_sok shA = true := by decide +kernel
theorem shM_ok : mz_sok shM = true := by decide +kernel
theorem shF_ok : mz_sok shF = true := by decide +kernel
/-- what a boolean method answers -/
def b01 (P : Prop) [Decidable P] : Int := if P then 1 else 0
theorem b01_R {P : Prop} [Decidable P] : mz_R (b01 P) := by unfold b01; split <;> decide
theorem b01_eq0 {P : Prop} [Decidable P] (h : b01 P = 0) : ¬ P := by
  intro q
  unfold b01 at h
  rw [if_pos q] at h
  exact absurd h (by decide)
theorem b01_ne0 {P : Prop} [Decidable P] (h : ¬ b01 P = 0) : P := by
  unfold b01 at h
  split at h
  next q => exact q
  next => exact absurd rfl h
theorem b01_t {P : Prop} [Decidable P] (h : P) : b01 P = 1 := if_pos h
theorem b01_f {P : Prop} [Decidable P] (h : ¬ P) : b01 P = 0 := if_neg h
theorem b01_01 {P : Prop} [Decidable P] : b01 P = 0 ∨ b01 P = 1 := by unfold b01; split <;> simp
theorem b01_ro {P : Prop} [Decidable P] : mz_ro (some .boolean) (b01 P) = true := by unfold b01; split <;> rfl
theorem r_t {P : Prop} [Decidable P] {σ : mz_G} (h : P) : some (1 : Int) = some (b01 P) ∧ σ = σ := ⟨by rw [b01_t h], rfl⟩
theorem r_f {P : Prop} [Decidable P] {σ : mz_G} (h : ¬ P) : some (0 : Int) = some (b01 P) ∧ σ = σ := ⟨by rw [b01_f h], rfl⟩
/-- twice the area of three points -/
def ar (x y bx b_y cx cy : Int) : Int := (bx - x) * (cy - y) - (cx - x) * (b_y - y)
theorem up_ne {σ : mz_G} {c i a b : Nat} {v : Int} (h : ¬ a = c) : mz_up σ c i v a b = σ a b := by simp [mz_up, h]
theorem up_ni {σ : mz_G} {c i b : Nat} {v : Int} (h : ¬ b = i) : mz_up σ c i v c b = σ c b := by simp [mz_up, h]
theorem up_eq {σ : mz_G} {c i : Nat} {v : Int} : mz_up σ c i v c i = v := by simp [mz_up]
