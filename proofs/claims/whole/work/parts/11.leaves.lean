set_option maxRecDepth 100000 in
set_option maxHeartbeats 4000000 in
theorem sp_X2_put_8  (σ : mz_G) (k : Int) (x : Int) (y : Int) (h0 : 0 ≤ k) (h1 : k < 32) : mz_Cl shA 42 [.inr 8, .inl k, .inl x, .inl y] σ (fun r σ' => r = none ∧ σ' = (mz_up (mz_up σ 16 (k).toNat x) 17 (k).toNat y)) := by
  have hM : mz_meth[42]? = some mtX2_put := rfl
  refine mz_Cl.of hM ?_
  show mz_Wp shA none 42 (0, [some (.inr 8), some (.inl k), some (.inl x), some (.inl y)], [], σ) _
  refine wp_go 1 hM (fr' := (1, [some (.inr 8), some (.inl k), some (.inl x), some (.inl y)], [.inl k], σ)) rfl ?_
  refine wp_if (tgt := 24) hM rfl (by decide) (by omega) (fun c1 => ?_) (fun c1 => ?_)
  · replace c1 := cmp_lt_t c1
    omega
  · replace c1 := cmp_lt_f c1
    refine wp_go 2 hM (fr' := (7, [some (.inr 8), some (.inl k), some (.inl x), some (.inl y)], [.inl 32, .inl k], σ)) rfl ?_
    refine wp_ic (tgt := 24) hM rfl (by decide) (by omega) (by omega) (fun c7 => ?_) (fun c7 => ?_)
    · replace c7 := cmp_ge_t c7
      omega
    · replace c7 := cmp_ge_f c7
      refine wp_go 4 hM (fr' := (16, [some (.inr 8), some (.inl k), some (.inl x), some (.inl y)], [.inl x, .inl k, .inr 16], σ)) rfl ?_
      refine wp_as (n := 32) hM rfl rfl (by omega) (by omega) ?_
      refine wp_go 4 hM (fr' := (23, [some (.inr 8), some (.inl k), some (.inl x), some (.inl y)], [.inl y, .inl k, .inr 17], (mz_up σ 16 (k).toNat x))) rfl ?_
      refine wp_as (n := 32) hM rfl rfl (by omega) (by omega) ?_
      refine wp_retv hM rfl rfl ?_
      exact ⟨rfl, rfl⟩

set_option maxRecDepth 100000 in
set_option maxHeartbeats 4000000 in
theorem sp_X2_isAt_8  (σ : mz_G) (k : Int) (x : Int) (y : Int) (h0 : 0 ≤ k) (h1 : k < 32) (h2 : mz_R (σ 16 (k).toNat)) (h3 : mz_R (σ 17 (k).toNat)) (h4 : mz_R x) (h5 : mz_R y) : mz_Cl shA 43 [.inr 8, .inl k, .inl x, .inl y] σ (fun r σ' => r = some (b01 (σ 16 (k).toNat = x ∧ σ 17 (k).toNat = y)) ∧ σ' = σ) := by
  have hM : mz_meth[43]? = some mtX2_isAt := rfl
  refine mz_Cl.of hM ?_
  show mz_Wp shA none 43 (0, [some (.inr 8), some (.inl k), some (.inl x), some (.inl y)], [], σ) _
  refine wp_go 3 hM (fr' := (5, [some (.inr 8), some (.inl k), some (.inl x), some (.inl y)], [.inl k, .inr 16], σ)) rfl ?_
  refine wp_al (n := 32) hM rfl (by decide) rfl (by omega) (by omega) ?_
  refine wp_go 1 hM (fr' := (7, [some (.inr 8), some (.inl k), some (.inl x), some (.inl y)], [.inl x, .inl (σ 16 (k).toNat)], σ)) rfl ?_
  refine wp_ic (tgt := 24) hM rfl (by decide) (by omega) (by omega) (fun c7 => ?_) (fun c7 => ?_)
  · replace c7 := cmp_ne_t c7
    refine wp_go 1 hM (fr' := (25, [some (.inr 8), some (.inl k), some (.inl x), some (.inl y)], [.inl 0], σ)) rfl ?_
    refine wp_ret hM rfl (rfl) ?_
    first | exact r_t (by omega) | exact r_f (by omega)
  · replace c7 := cmp_ne_f c7
    refine wp_go 3 hM (fr' := (15, [some (.inr 8), some (.inl k), some (.inl x), some (.inl y)], [.inl k, .inr 17], σ)) rfl ?_
    refine wp_al (n := 32) hM rfl (by decide) rfl (by omega) (by omega) ?_
    refine wp_go 1 hM (fr' := (17, [some (.inr 8), some (.inl k), some (.inl x), some (.inl y)], [.inl y, .inl (σ 17 (k).toNat)], σ)) rfl ?_
    refine wp_ic (tgt := 24) hM rfl (by decide) (by omega) (by omega) (fun c17 => ?_) (fun c17 => ?_)
    · replace c17 := cmp_ne_t c17
      refine wp_go 1 hM (fr' := (25, [some (.inr 8), some (.inl k), some (.inl x), some (.inl y)], [.inl 0], σ)) rfl ?_
      refine wp_ret hM rfl (rfl) ?_
      first | exact r_t (by omega) | exact r_f (by omega)
    · replace c17 := cmp_ne_f c17
      refine wp_go 2 hM (fr' := (25, [some (.inr 8), some (.inl k), some (.inl x), some (.inl y)], [.inl 1], σ)) rfl ?_
      refine wp_ret hM rfl (rfl) ?_
      first | exact r_t (by omega) | exact r_f (by omega)

set_option maxRecDepth 100000 in
set_option maxHeartbeats 4000000 in
theorem sp_X2_areaWith_8  (σ : mz_G) (x : Int) (y : Int) (b : Int) (c : Int) (h0 : 0 ≤ b) (h1 : b < 32) (h2 : 0 ≤ c) (h3 : c < 32) : mz_Cl shA 45 [.inr 8, .inl x, .inl y, .inl b, .inl c] σ (fun r σ' => r = some (ar x y (σ 16 (b).toNat) (σ 17 (b).toNat) (σ 16 (c).toNat) (σ 17 (c).toNat)) ∧ σ' = σ) := by
  have hM : mz_meth[45]? = some mtX2_areaWith := rfl
  refine mz_Cl.of hM ?_
  show mz_Wp shA none 45 (0, [some (.inr 8), some (.inl x), some (.inl y), some (.inl b), some (.inl c)], [], σ) _
  refine wp_go 3 hM (fr' := (5, [some (.inr 8), some (.inl x), some (.inl y), some (.inl b), some (.inl c)], [.inl b, .inr 16], σ)) rfl ?_
  refine wp_al (n := 32) hM rfl (by decide) rfl (by omega) (by omega) ?_
  refine wp_go 5 hM (fr' := (14, [some (.inr 8), some (.inl x), some (.inl y), some (.inl b), some (.inl c)], [.inl c, .inr 17, .inl ((σ 16 (b).toNat) - x)], σ)) rfl ?_
  refine wp_al (n := 32) hM rfl (by decide) rfl (by omega) (by omega) ?_
  refine wp_go 6 hM (fr' := (24, [some (.inr 8), some (.inl x), some (.inl y), some (.inl b), some (.inl c)], [.inl c, .inr 16, .inl (((σ 16 (b).toNat) - x) * ((σ 17 (c).toNat) - y))], σ)) rfl ?_
  refine wp_al (n := 32) hM rfl (by decide) rfl (by omega) (by omega) ?_
  refine wp_go 5 hM (fr' := (32, [some (.inr 8), some (.inl x), some (.inl y), some (.inl b), some (.inl c)], [.inl b, .inr 17, .inl ((σ 16 (c).toNat) - x), .inl (((σ 16 (b).toNat) - x) * ((σ 17 (c).toNat) - y))], σ)) rfl ?_
  refine wp_al (n := 32) hM rfl (by decide) rfl (by omega) (by omega) ?_
  refine wp_go 4 hM (fr' := (37, [some (.inr 8), some (.inl x), some (.inl y), some (.inl b), some (.inl c)], [.inl ((((σ 16 (b).toNat) - x) * ((σ 17 (c).toNat) - y)) - (((σ 16 (c).toNat) - x) * ((σ 17 (b).toNat) - y)))], σ)) rfl ?_
  refine wp_ret hM rfl (rfl) ?_
  exact ⟨rfl, rfl⟩

set_option maxRecDepth 100000 in
set_option maxHeartbeats 4000000 in
theorem sp_X2_area_8  (σ : mz_G) (a : Int) (b : Int) (c : Int) (h0 : 0 ≤ a) (h1 : a < 32) (h2 : 0 ≤ b) (h3 : b < 32) (h4 : 0 ≤ c) (h5 : c < 32) : mz_Cl shA 44 [.inr 8, .inl a, .inl b, .inl c] σ (fun r σ' => r = some (ar (σ 16 (a).toNat) (σ 17 (a).toNat) (σ 16 (b).toNat) (σ 17 (b).toNat) (σ 16 (c).toNat) (σ 17 (c).toNat)) ∧ σ' = σ) := by
  have hM : mz_meth[44]? = some mtX2_area := rfl
  refine mz_Cl.of hM ?_
  show mz_Wp shA none 44 (0, [some (.inr 8), some (.inl a), some (.inl b), some (.inl c)], [], σ) _
  refine wp_go 4 hM (fr' := (6, [some (.inr 8), some (.inl a), some (.inl b), some (.inl c)], [.inl a, .inr 16, .inr 8], σ)) rfl ?_
  refine wp_al (n := 32) hM rfl (by decide) rfl (by omega) (by omega) ?_
  refine wp_go 3 hM (fr' := (12, [some (.inr 8), some (.inl a), some (.inl b), some (.inl c)], [.inl a, .inr 17, .inl (σ 16 (a).toNat), .inr 8], σ)) rfl ?_
  refine wp_al (n := 32) hM rfl (by decide) rfl (by omega) (by omega) ?_
  refine wp_go 2 hM (fr' := (15, [some (.inr 8), some (.inl a), some (.inl b), some (.inl c)], [.inl c, .inl b, .inl (σ 17 (a).toNat), .inl (σ 16 (a).toNat), .inr 8], σ)) rfl ?_
  refine wp_calld (v := 0) (idx := 18) (j := 45) (N := mtX2_areaWith) (as := [.inr 8, .inl (σ 16 (a).toNat), .inl (σ 17 (a).toNat), .inl b, .inl c]) (rest := []) hM rfl (Or.inl ⟨rfl, rfl⟩) rfl (sp_X2_areaWith_8  σ (σ 16 (a).toNat) (σ 17 (a).toNat) b c (by first | assumption | omega) (by first | assumption | omega) (by first | assumption | omega) (by first | assumption | omega)) ?_
  show mz_Wp shA none 44 (18, [some (.inr 8), some (.inl a), some (.inl b), some (.inl c)], [.inl (ar ((σ 16 (a).toNat)) ((σ 17 (a).toNat)) (σ 16 (b).toNat) (σ 17 (b).toNat) (σ 16 (c).toNat) (σ 17 (c).toNat))], σ) _
  refine wp_ret hM rfl (rfl) ?_
  exact ⟨rfl, rfl⟩

set_option maxRecDepth 100000 in
set_option maxHeartbeats 4000000 in
theorem sp_X2_squareOfLength_8  (σ : mz_G) (a : Int) (b : Int) (h0 : 0 ≤ a) (h1 : a < 32) (h2 : 0 ≤ b) (h3 : b < 32) : mz_Cl shA 46 [.inr 8, .inl a, .inl b] σ (fun r σ' => r = some ((σ 16 (b).toNat - σ 16 (a).toNat) * (σ 16 (b).toNat - σ 16 (a).toNat) + (σ 17 (b).toNat - σ 17 (a).toNat) * (σ 17 (b).toNat - σ 17 (a).toNat)) ∧ σ' = σ) := by
  have hM : mz_meth[46]? = some mtX2_squareOfLength := rfl
  refine mz_Cl.of hM ?_
  show mz_Wp shA none 46 (0, [some (.inr 8), some (.inl a), some (.inl b), none, none], [], σ) _
  refine wp_go 3 hM (fr' := (5, [some (.inr 8), some (.inl a), some (.inl b), none, none], [.inl b, .inr 16], σ)) rfl ?_
  refine wp_al (n := 32) hM rfl (by decide) rfl (by omega) (by omega) ?_
  refine wp_go 3 hM (fr' := (11, [some (.inr 8), some (.inl a), some (.inl b), none, none], [.inl a, .inr 16, .inl (σ 16 (b).toNat)], σ)) rfl ?_
  refine wp_al (n := 32) hM rfl (by decide) rfl (by omega) (by omega) ?_
  refine wp_go 5 hM (fr' := (19, [some (.inr 8), some (.inl a), some (.inl b), some (.inl ((σ 16 (b).toNat) - (σ 16 (a).toNat))), none], [.inl b, .inr 17], σ)) rfl ?_
  refine wp_al (n := 32) hM rfl (by decide) rfl (by omega) (by omega) ?_
  refine wp_go 3 hM (fr' := (25, [some (.inr 8), some (.inl a), some (.inl b), some (.inl ((σ 16 (b).toNat) - (σ 16 (a).toNat))), none], [.inl a, .inr 17, .inl (σ 17 (b).toNat)], σ)) rfl ?_
  refine wp_al (n := 32) hM rfl (by decide) rfl (by omega) (by omega) ?_
  refine wp_go 9 hM (fr' := (38, [some (.inr 8), some (.inl a), some (.inl b), some (.inl ((σ 16 (b).toNat) - (σ 16 (a).toNat))), some (.inl ((σ 17 (b).toNat) - (σ 17 (a).toNat)))], [.inl ((((σ 16 (b).toNat) - (σ 16 (a).toNat)) * ((σ 16 (b).toNat) - (σ 16 (a).toNat))) + (((σ 17 (b).toNat) - (σ 17 (a).toNat)) * ((σ 17 (b).toNat) - (σ 17 (a).toNat))))], σ)) rfl ?_
  refine wp_ret hM rfl (rfl) ?_
  exact ⟨rfl, rfl⟩

set_option maxRecDepth 100000 in
set_option maxHeartbeats 4000000 in
theorem sp_X2_put_9  (σ : mz_G) (k : Int) (x : Int) (y : Int) (h0 : 0 ≤ k) (h1 : k < 32) : mz_Cl shA 42 [.inr 9, .inl k, .inl x, .inl y] σ (fun r σ' => r = none ∧ σ' = (mz_up (mz_up σ 18 (k).toNat x) 19 (k).toNat y)) := by
  have hM : mz_meth[42]? = some mtX2_put := rfl
  refine mz_Cl.of hM ?_
  show mz_Wp shA none 42 (0, [some (.inr 9), some (.inl k), some (.inl x), some (.inl y)], [], σ) _
  refine wp_go 1 hM (fr' := (1, [some (.inr 9), some (.inl k), some (.inl x), some (.inl y)], [.inl k], σ)) rfl ?_
  refine wp_if (tgt := 24) hM rfl (by decide) (by omega) (fun c1 => ?_) (fun c1 => ?_)
  · replace c1 := cmp_lt_t c1
    omega
  · replace c1 := cmp_lt_f c1
    refine wp_go 2 hM (fr' := (7, [some (.inr 9), some (.inl k), some (.inl x), some (.inl y)], [.inl 32, .inl k], σ)) rfl ?_
    refine wp_ic (tgt := 24) hM rfl (by decide) (by omega) (by omega) (fun c7 => ?_) (fun c7 => ?_)
    · replace c7 := cmp_ge_t c7
      omega
    · replace c7 := cmp_ge_f c7
      refine wp_go 4 hM (fr' := (16, [some (.inr 9), some (.inl k), some (.inl x), some (.inl y)], [.inl x, .inl k, .inr 18], σ)) rfl ?_
      refine wp_as (n := 32) hM rfl rfl (by omega) (by omega) ?_
      refine wp_go 4 hM (fr' := (23, [some (.inr 9), some (.inl k), some (.inl x), some (.inl y)], [.inl y, .inl k, .inr 19], (mz_up σ 18 (k).toNat x))) rfl ?_
      refine wp_as (n := 32) hM rfl rfl (by omega) (by omega) ?_
      refine wp_retv hM rfl rfl ?_
      exact ⟨rfl, rfl⟩

set_option maxRecDepth 100000 in
set_option maxHeartbeats 4000000 in
theorem sp_X2_isAt_9  (σ : mz_G) (k : Int) (x : Int) (y : Int) (h0 : 0 ≤ k) (h1 : k < 32) (h2 : mz_R (σ 18 (k).toNat)) (h3 : mz_R (σ 19 (k).toNat)) (h4 : mz_R x) (h5 : mz_R y) : mz_Cl shA 43 [.inr 9, .inl k, .inl x, .inl y] σ (fun r σ' => r = some (b01 (σ 18 (k).toNat = x ∧ σ 19 (k).toNat = y)) ∧ σ' = σ) := by
  have hM : mz_meth[43]? = some mtX2_isAt := rfl
  refine mz_Cl.of hM ?_
  show mz_Wp shA none 43 (0, [some (.inr 9), some (.inl k), some (.inl x), some (.inl y)], [], σ) _
  refine wp_go 3 hM (fr' := (5, [some (.inr 9), some (.inl k), some (.inl x), some (.inl y)], [.inl k, .inr 18], σ)) rfl ?_
  refine wp_al (n := 32) hM rfl (by decide) rfl (by omega) (by omega) ?_
  refine wp_go 1 hM (fr' := (7, [some (.inr 9), some (.inl k), some (.inl x), some (.inl y)], [.inl x, .inl (σ 18 (k).toNat)], σ)) rfl ?_
  refine wp_ic (tgt := 24) hM rfl (by decide) (by omega) (by omega) (fun c7 => ?_) (fun c7 => ?_)
  · replace c7 := cmp_ne_t c7
    refine wp_go 1 hM (fr' := (25, [some (.inr 9), some (.inl k), some (.inl x), some (.inl y)], [.inl 0], σ)) rfl ?_
    refine wp_ret hM rfl (rfl) ?_
    first | exact r_t (by omega) | exact r_f (by omega)
  · replace c7 := cmp_ne_f c7
    refine wp_go 3 hM (fr' := (15, [some (.inr 9), some (.inl k), some (.inl x), some (.inl y)], [.inl k, .inr 19], σ)) rfl ?_
    refine wp_al (n := 32) hM rfl (by decide) rfl (by omega) (by omega) ?_
    refine wp_go 1 hM (fr' := (17, [some (.inr 9), some (.inl k), some (.inl x), some (.inl y)], [.inl y, .inl (σ 19 (k).toNat)], σ)) rfl ?_
    refine wp_ic (tgt := 24) hM rfl (by decide) (by omega) (by omega) (fun c17 => ?_) (fun c17 => ?_)
    · replace c17 := cmp_ne_t c17
      refine wp_go 1 hM (fr' := (25, [some (.inr 9), some (.inl k), some (.inl x), some (.inl y)], [.inl 0], σ)) rfl ?_
      refine wp_ret hM rfl (rfl) ?_
      first | exact r_t (by omega) | exact r_f (by omega)
    · replace c17 := cmp_ne_f c17
      refine wp_go 2 hM (fr' := (25, [some (.inr 9), some (.inl k), some (.inl x), some (.inl y)], [.inl 1], σ)) rfl ?_
      refine wp_ret hM rfl (rfl) ?_
      first | exact r_t (by omega) | exact r_f (by omega)

set_option maxRecDepth 100000 in
set_option maxHeartbeats 4000000 in
theorem sp_X2_areaWith_9  (σ : mz_G) (x : Int) (y : Int) (b : Int) (c : Int) (h0 : 0 ≤ b) (h1 : b < 32) (h2 : 0 ≤ c) (h3 : c < 32) : mz_Cl shA 45 [.inr 9, .inl x, .inl y, .inl b, .inl c] σ (fun r σ' => r = some (ar x y (σ 18 (b).toNat) (σ 19 (b).toNat) (σ 18 (c).toNat) (σ 19 (c).toNat)) ∧ σ' = σ) := by
  have hM : mz_meth[45]? = some mtX2_areaWith := rfl
  refine mz_Cl.of hM ?_
  show mz_Wp shA none 45 (0, [some (.inr 9), some (.inl x), some (.inl y), some (.inl b), some (.inl c)], [], σ) _
  refine wp_go 3 hM (fr' := (5, [some (.inr 9), some (.inl x), some (.inl y), some (.inl b), some (.inl c)], [.inl b, .inr 18], σ)) rfl ?_
  refine wp_al (n := 32) hM rfl (by decide) rfl (by omega) (by omega) ?_
  refine wp_go 5 hM (fr' := (14, [some (.inr 9), some (.inl x), some (.inl y), some (.inl b), some (.inl c)], [.inl c, .inr 19, .inl ((σ 18 (b).toNat) - x)], σ)) rfl ?_
  refine wp_al (n := 32) hM rfl (by decide) rfl (by omega) (by omega) ?_
  refine wp_go 6 hM (fr' := (24, [some (.inr 9), some (.inl x), some (.inl y), some (.inl b), some (.inl c)], [.inl c, .inr 18, .inl (((σ 18 (b).toNat) - x) * ((σ 19 (c).toNat) - y))], σ)) rfl ?_
  refine wp_al (n := 32) hM rfl (by decide) rfl (by omega) (by omega) ?_
  refine wp_go 5 hM (fr' := (32, [some (.inr 9), some (.inl x), some (.inl y), some (.inl b), some (.inl c)], [.inl b, .inr 19, .inl ((σ 18 (c).toNat) - x), .inl (((σ 18 (b).toNat) - x) * ((σ 19 (c).toNat) - y))], σ)) rfl ?_
  refine wp_al (n := 32) hM rfl (by decide) rfl (by omega) (by omega) ?_
  refine wp_go 4 hM (fr' := (37, [some (.inr 9), some (.inl x), some (.inl y), some (.inl b), some (.inl c)], [.inl ((((σ 18 (b).toNat) - x) * ((σ 19 (c).toNat) - y)) - (((σ 18 (c).toNat) - x) * ((σ 19 (b).toNat) - y)))], σ)) rfl ?_
  refine wp_ret hM rfl (rfl) ?_
  exact ⟨rfl, rfl⟩

set_option maxRecDepth 100000 in
set_option maxHeartbeats 4000000 in
theorem sp_X2_area_9  (σ : mz_G) (a : Int) (b : Int) (c : Int) (h0 : 0 ≤ a) (h1 : a < 32) (h2 : 0 ≤ b) (h3 : b < 32) (h4 : 0 ≤ c) (h5 : c < 32) : mz_Cl shA 44 [.inr 9, .inl a, .inl b, .inl c] σ (fun r σ' => r = some (ar (σ 18 (a).toNat) (σ 19 (a).toNat) (σ 18 (b).toNat) (σ 19 (b).toNat) (σ 18 (c).toNat) (σ 19 (c).toNat)) ∧ σ' = σ) := by
  have hM : mz_meth[44]? = some mtX2_area := rfl
  refine mz_Cl.of hM ?_
  show mz_Wp shA none 44 (0, [some (.inr 9), some (.inl a), some (.inl b), some (.inl c)], [], σ) _
  refine wp_go 4 hM (fr' := (6, [some (.inr 9), some (.inl a), some (.inl b), some (.inl c)], [.inl a, .inr 18, .inr 9], σ)) rfl ?_
  refine wp_al (n := 32) hM rfl (by decide) rfl (by omega) (by omega) ?_
  refine wp_go 3 hM (fr' := (12, [some (.inr 9), some (.inl a), some (.inl b), some (.inl c)], [.inl a, .inr 19, .inl (σ 18 (a).toNat), .inr 9], σ)) rfl ?_
  refine wp_al (n := 32) hM rfl (by decide) rfl (by omega) (by omega) ?_
  refine wp_go 2 hM (fr' := (15, [some (.inr 9), some (.inl a), some (.inl b), some (.inl c)], [.inl c, .inl b, .inl (σ 19 (a).toNat), .inl (σ 18 (a).toNat), .inr 9], σ)) rfl ?_
  refine wp_calld (v := 0) (idx := 18) (j := 45) (N := mtX2_areaWith) (as := [.inr 9, .inl (σ 18 (a).toNat), .inl (σ 19 (a).toNat), .inl b, .inl c]) (rest := []) hM rfl (Or.inl ⟨rfl, rfl⟩) rfl (sp_X2_areaWith_9  σ (σ 18 (a).toNat) (σ 19 (a).toNat) b c (by first | assumption | omega) (by first | assumption | omega) (by first | assumption | omega) (by first | assumption | omega)) ?_
  show mz_Wp shA none 44 (18, [some (.inr 9), some (.inl a), some (.inl b), some (.inl c)], [.inl (ar ((σ 18 (a).toNat)) ((σ 19 (a).toNat)) (σ 18 (b).toNat) (σ 19 (b).toNat) (σ 18 (c).toNat) (σ 19 (c).toNat))], σ) _
  refine wp_ret hM rfl (rfl) ?_
  exact ⟨rfl, rfl⟩

set_option maxRecDepth 100000 in
set_option maxHeartbeats 4000000 in
theorem sp_X2_squareOfLength_9  (σ : mz_G) (a : Int) (b : Int) (h0 : 0 ≤ a) (h1 : a < 32) (h2 : 0 ≤ b) (h3 : b < 32) : mz_Cl shA 46 [.inr 9, .inl a, .inl b] σ (fun r σ' => r = some ((σ 18 (b).toNat - σ 18 (a).toNat) * (σ 18 (b).toNat - σ 18 (a).toNat) + (σ 19 (b).toNat - σ 19 (a).toNat) * (σ 19 (b).toNat - σ 19 (a).toNat)) ∧ σ' = σ) := by
  have hM : mz_meth[46]? = some mtX2_squareOfLength := rfl
  refine mz_Cl.of hM ?_
  show mz_Wp shA none 46 (0, [some (.inr 9), some (.inl a), some (.inl b), none, none], [], σ) _
  refine wp_go 3 hM (fr' := (5, [some (.inr 9), some (.inl a), some (.inl b), none, none], [.inl b, .inr 18], σ)) rfl ?_
  refine wp_al (n := 32) hM rfl (by decide) rfl (by omega) (by omega) ?_
  refine wp_go 3 hM (fr' := (11, [some (.inr 9), some (.inl a), some (.inl b), none, none], [.inl a, .inr 18, .inl (σ 18 (b).toNat)], σ)) rfl ?_
  refine wp_al (n := 32) hM rfl (by decide) rfl (by omega) (by omega) ?_
  refine wp_go 5 hM (fr' := (19, [some (.inr 9), some (.inl a), some (.inl b), some (.inl ((σ 18 (b).toNat) - (σ 18 (a).toNat))), none], [.inl b, .inr 19], σ)) rfl ?_
  refine wp_al (n := 32) hM rfl (by decide) rfl (by omega) (by omega) ?_
  refine wp_go 3 hM (fr' := (25, [some (.inr 9), some (.inl a), some (.inl b), some (.inl ((σ 18 (b).toNat) - (σ 18 (a).toNat))), none], [.inl a, .inr 19, .inl (σ 19 (b).toNat)], σ)) rfl ?_
  refine wp_al (n := 32) hM rfl (by decide) rfl (by omega) (by omega) ?_
  refine wp_go 9 hM (fr' := (38, [some (.inr 9), some (.inl a), some (.inl b), some (.inl ((σ 18 (b).toNat) - (σ 18 (a).toNat))), some (.inl ((σ 19 (b).toNat) - (σ 19 (a).toNat)))], [.inl ((((σ 18 (b).toNat) - (σ 18 (a).toNat)) * ((σ 18 (b).toNat) - (σ 18 (a).toNat))) + (((σ 19 (b).toNat) - (σ 19 (a).toNat)) * ((σ 19 (b).toNat) - (σ 19 (a).toNat))))], σ)) rfl ?_
  refine wp_ret hM rfl (rfl) ?_
  exact ⟨rfl, rfl⟩

set_option maxRecDepth 100000 in
set_option maxHeartbeats 4000000 in
theorem sp_X2_put_10  (σ : mz_G) (k : Int) (x : Int) (y : Int) (h0 : 0 ≤ k) (h1 : k < 32) : mz_Cl shA 42 [.inr 10, .inl k, .inl x, .inl y] σ (fun r σ' => r = none ∧ σ' = (mz_up (mz_up σ 20 (k).toNat x) 21 (k).toNat y)) := by
  have hM : mz_meth[42]? = some mtX2_put := rfl
  refine mz_Cl.of hM ?_
  show mz_Wp shA none 42 (0, [some (.inr 10), some (.inl k), some (.inl x), some (.inl y)], [], σ) _
  refine wp_go 1 hM (fr' := (1, [some (.inr 10), some (.inl k), some (.inl x), some (.inl y)], [.inl k], σ)) rfl ?_
  refine wp_if (tgt := 24) hM rfl (by decide) (by omega) (fun c1 => ?_) (fun c1 => ?_)
  · replace c1 := cmp_lt_t c1
    omega
  · replace c1 := cmp_lt_f c1
    refine wp_go 2 hM (fr' := (7, [some (.inr 10), some (.inl k), some (.inl x), some (.inl y)], [.inl 32, .inl k], σ)) rfl ?_
    refine wp_ic (tgt := 24) hM rfl (by decide) (by omega) (by omega) (fun c7 => ?_) (fun c7 => ?_)
    · replace c7 := cmp_ge_t c7
      omega
    · replace c7 := cmp_ge_f c7
      refine wp_go 4 hM (fr' := (16, [some (.inr 10), some (.inl k), some (.inl x), some (.inl y)], [.inl x, .inl k, .inr 20], σ)) rfl ?_
      refine wp_as (n := 32) hM rfl rfl (by omega) (by omega) ?_
      refine wp_go 4 hM (fr' := (23, [some (.inr 10), some (.inl k), some (.inl x), some (.inl y)], [.inl y, .inl k, .inr 21], (mz_up σ 20 (k).toNat x))) rfl ?_
      refine wp_as (n := 32) hM rfl rfl (by omega) (by omega) ?_
      refine wp_retv hM rfl rfl ?_
      exact ⟨rfl, rfl⟩

set_option maxRecDepth 100000 in
set_option maxHeartbeats 4000000 in
theorem sp_X2_isAt_10  (σ : mz_G) (k : Int) (x : Int) (y : Int) (h0 : 0 ≤ k) (h1 : k < 32) (h2 : mz_R (σ 20 (k).toNat)) (h3 : mz_R (σ 21 (k).toNat)) (h4 : mz_R x) (h5 : mz_R y) : mz_Cl shA 43 [.inr 10, .inl k, .inl x, .inl y] σ (fun r σ' => r = some (b01 (σ 20 (k).toNat = x ∧ σ 21 (k).toNat = y)) ∧ σ' = σ) := by
  have hM : mz_meth[43]? = some mtX2_isAt := rfl
  refine mz_Cl.of hM ?_
  show mz_Wp shA none 43 (0, [some (.inr 10), some (.inl k), some (.inl x), some (.inl y)], [], σ) _
  refine wp_go 3 hM (fr' := (5, [some (.inr 10), some (.inl k), some (.inl x), some (.inl y)], [.inl k, .inr 20], σ)) rfl ?_
  refine wp_al (n := 32) hM rfl (by decide) rfl (by omega) (by omega) ?_
  refine wp_go 1 hM (fr' := (7, [some (.inr 10), some (.inl k), some (.inl x), some (.inl y)], [.inl x, .inl (σ 20 (k).toNat)], σ)) rfl ?_
  refine wp_ic (tgt := 24) hM rfl (by decide) (by omega) (by omega) (fun c7 => ?_) (fun c7 => ?_)
  · replace c7 := cmp_ne_t c7
    refine wp_go 1 hM (fr' := (25, [some (.inr 10), some (.inl k), some (.inl x), some (.inl y)], [.inl 0], σ)) rfl ?_
    refine wp_ret hM rfl (rfl) ?_
    first | exact r_t (by omega) | exact r_f (by omega)
  · replace c7 := cmp_ne_f c7
    refine wp_go 3 hM (fr' := (15, [some (.inr 10), some (.inl k), some (.inl x), some (.inl y)], [.inl k, .inr 21], σ)) rfl ?_
    refine wp_al (n := 32) hM rfl (by decide) rfl (by omega) (by omega) ?_
    refine wp_go 1 hM (fr' := (17, [some (.inr 10), some (.inl k), some (.inl x), some (.inl y)], [.inl y, .inl (σ 21 (k).toNat)], σ)) rfl ?_
    refine wp_ic (tgt := 24) hM rfl (by decide) (by omega) (by omega) (fun c17 => ?_) (fun c17 => ?_)
    · replace c17 := cmp_ne_t c17
      refine wp_go 1 hM (fr' := (25, [some (.inr 10), some (.inl k), some (.inl x), some (.inl y)], [.inl 0], σ)) rfl ?_
      refine wp_ret hM rfl (rfl) ?_
      first | exact r_t (by omega) | exact r_f (by omega)
    · replace c17 := cmp_ne_f c17
      refine wp_go 2 hM (fr' := (25, [some (.inr 10), some (.inl k), some (.inl x), some (.inl y)], [.inl 1], σ)) rfl ?_
      refine wp_ret hM rfl (rfl) ?_
      first | exact r_t (by omega) | exact r_f (by omega)

set_option maxRecDepth 100000 in
set_option maxHeartbeats 4000000 in
theorem sp_X2_areaWith_10  (σ : mz_G) (x : Int) (y : Int) (b : Int) (c : Int) (h0 : 0 ≤ b) (h1 : b < 32) (h2 : 0 ≤ c) (h3 : c < 32) : mz_Cl shA 45 [.inr 10, .inl x, .inl y, .inl b, .inl c] σ (fun r σ' => r = some (ar x y (σ 20 (b).toNat) (σ 21 (b).toNat) (σ 20 (c).toNat) (σ 21 (c).toNat)) ∧ σ' = σ) := by
  have hM : mz_meth[45]? = some mtX2_areaWith := rfl
  refine mz_Cl.of hM ?_
  show mz_Wp shA none 45 (0, [some (.inr 10), some (.inl x), some (.inl y), some (.inl b), some (.inl c)], [], σ) _
  refine wp_go 3 hM (fr' := (5, [some (.inr 10), some (.inl x), some (.inl y), some (.inl b), some (.inl c)], [.inl b, .inr 20], σ)) rfl ?_
  refine wp_al (n := 32) hM rfl (by decide) rfl (by omega) (by omega) ?_
  refine wp_go 5 hM (fr' := (14, [some (.inr 10), some (.inl x), some (.inl y), some (.inl b), some (.inl c)], [.inl c, .inr 21, .inl ((σ 20 (b).toNat) - x)], σ)) rfl ?_
  refine wp_al (n := 32) hM rfl (by decide) rfl (by omega) (by omega) ?_
  refine wp_go 6 hM (fr' := (24, [some (.inr 10), some (.inl x), some (.inl y), some (.inl b), some (.inl c)], [.inl c, .inr 20, .inl (((σ 20 (b).toNat) - x) * ((σ 21 (c).toNat) - y))], σ)) rfl ?_
  refine wp_al (n := 32) hM rfl (by decide) rfl (by omega) (by omega) ?_
  refine wp_go 5 hM (fr' := (32, [some (.inr 10), some (.inl x), some (.inl y), some (.inl b), some (.inl c)], [.inl b, .inr 21, .inl ((σ 20 (c).toNat) - x), .inl (((σ 20 (b).toNat) - x) * ((σ 21 (c).toNat) - y))], σ)) rfl ?_
  refine wp_al (n := 32) hM rfl (by decide) rfl (by omega) (by omega) ?_
  refine wp_go 4 hM (fr' := (37, [some (.inr 10), some (.inl x), some (.inl y), some (.inl b), some (.inl c)], [.inl ((((σ 20 (b).toNat) - x) * ((σ 21 (c).toNat) - y)) - (((σ 20 (c).toNat) - x) * ((σ 21 (b).toNat) - y)))], σ)) rfl ?_
  refine wp_ret hM rfl (rfl) ?_
  exact ⟨rfl, rfl⟩

set_option maxRecDepth 100000 in
set_option maxHeartbeats 4000000 in
theorem sp_X2_area_10  (σ : mz_G) (a : Int) (b : Int) (c : Int) (h0 : 0 ≤ a) (h1 : a < 32) (h2 : 0 ≤ b) (h3 : b < 32) (h4 : 0 ≤ c) (h5 : c < 32) : mz_Cl shA 44 [.inr 10, .inl a, .inl b, .inl c] σ (fun r σ' => r = some (ar (σ 20 (a).toNat) (σ 21 (a).toNat) (σ 20 (b).toNat) (σ 21 (b).toNat) (σ 20 (c).toNat) (σ 21 (c).toNat)) ∧ σ' = σ) := by
  have hM : mz_meth[44]? = some mtX2_area := rfl
  refine mz_Cl.of hM ?_
  show mz_Wp shA none 44 (0, [some (.inr 10), some (.inl a), some (.inl b), some (.inl c)], [], σ) _
  refine wp_go 4 hM (fr' := (6, [some (.inr 10), some (.inl a), some (.inl b), some (.inl c)], [.inl a, .inr 20, .inr 10], σ)) rfl ?_
  refine wp_al (n := 32) hM rfl (by decide) rfl (by omega) (by omega) ?_
  refine wp_go 3 hM (fr' := (12, [some (.inr 10), some (.inl a), some (.inl b), some (.inl c)], [.inl a, .inr 21, .inl (σ 20 (a).toNat), .inr 10], σ)) rfl ?_
  refine wp_al (n := 32) hM rfl (by decide) rfl (by omega) (by omega) ?_
  refine wp_go 2 hM (fr' := (15, [some (.inr 10), some (.inl a), some (.inl b), some (.inl c)], [.inl c, .inl b, .inl (σ 21 (a).toNat), .inl (σ 20 (a).toNat), .inr 10], σ)) rfl ?_
  refine wp_calld (v := 0) (idx := 18) (j := 45) (N := mtX2_areaWith) (as := [.inr 10, .inl (σ 20 (a).toNat), .inl (σ 21 (a).toNat), .inl b, .inl c]) (rest := []) hM rfl (Or.inl ⟨rfl, rfl⟩) rfl (sp_X2_areaWith_10  σ (σ 20 (a).toNat) (σ 21 (a).toNat) b c (by first | assumption | omega) (by first | assumption | omega) (by first | assumption | omega) (by first | assumption | omega)) ?_
  show mz_Wp shA none 44 (18, [some (.inr 10), some (.inl a), some (.inl b), some (.inl c)], [.inl (ar ((σ 20 (a).toNat)) ((σ 21 (a).toNat)) (σ 20 (b).toNat) (σ 21 (b).toNat) (σ 20 (c).toNat) (σ 21 (c).toNat))], σ) _
  refine wp_ret hM rfl (rfl) ?_
  exact ⟨rfl, rfl⟩

set_option maxRecDepth 100000 in
set_option maxHeartbeats 4000000 in
theorem sp_X2_squareOfLength_10  (σ : mz_G) (a : Int) (b : Int) (h0 : 0 ≤ a) (h1 : a < 32) (h2 : 0 ≤ b) (h3 : b < 32) : mz_Cl shA 46 [.inr 10, .inl a, .inl b] σ (fun r σ' => r = some ((σ 20 (b).toNat - σ 20 (a).toNat) * (σ 20 (b).toNat - σ 20 (a).toNat) + (σ 21 (b).toNat - σ 21 (a).toNat) * (σ 21 (b).toNat - σ 21 (a).toNat)) ∧ σ' = σ) := by
  have hM : mz_meth[46]? = some mtX2_squareOfLength := rfl
  refine mz_Cl.of hM ?_
  show mz_Wp shA none 46 (0, [some (.inr 10), some (.inl a), some (.inl b), none, none], [], σ) _
  refine wp_go 3 hM (fr' := (5, [some (.inr 10), some (.inl a), some (.inl b), none, none], [.inl b, .inr 20], σ)) rfl ?_
  refine wp_al (n := 32) hM rfl (by decide) rfl (by omega) (by omega) ?_
  refine wp_go 3 hM (fr' := (11, [some (.inr 10), some (.inl a), some (.inl b), none, none], [.inl a, .inr 20, .inl (σ 20 (b).toNat)], σ)) rfl ?_
  refine wp_al (n := 32) hM rfl (by decide) rfl (by omega) (by omega) ?_
  refine wp_go 5 hM (fr' := (19, [some (.inr 10), some (.inl a), some (.inl b), some (.inl ((σ 20 (b).toNat) - (σ 20 (a).toNat))), none], [.inl b, .inr 21], σ)) rfl ?_
  refine wp_al (n := 32) hM rfl (by decide) rfl (by omega) (by omega) ?_
  refine wp_go 3 hM (fr' := (25, [some (.inr 10), some (.inl a), some (.inl b), some (.inl ((σ 20 (b).toNat) - (σ 20 (a).toNat))), none], [.inl a, .inr 21, .inl (σ 21 (b).toNat)], σ)) rfl ?_
  refine wp_al (n := 32) hM rfl (by decide) rfl (by omega) (by omega) ?_
  refine wp_go 9 hM (fr' := (38, [some (.inr 10), some (.inl a), some (.inl b), some (.inl ((σ 20 (b).toNat) - (σ 20 (a).toNat))), some (.inl ((σ 21 (b).toNat) - (σ 21 (a).toNat)))], [.inl ((((σ 20 (b).toNat) - (σ 20 (a).toNat)) * ((σ 20 (b).toNat) - (σ 20 (a).toNat))) + (((σ 21 (b).toNat) - (σ 21 (a).toNat)) * ((σ 21 (b).toNat) - (σ 21 (a).toNat))))], σ)) rfl ?_
  refine wp_ret hM rfl (rfl) ?_
  exact ⟨rfl, rfl⟩

set_option maxRecDepth 100000 in
set_option maxHeartbeats 4000000 in
theorem sp_X4_pack  (σ : mz_G) (a : Int) (b : Int) (c : Int) (h0 : 0 ≤ a) (h1 : a < 32) (h2 : 0 ≤ b) (h3 : b < 32) (h4 : 0 ≤ c) (h5 : c < 32) : mz_Cl shA 52 [.inl a, .inl b, .inl c] σ (fun r σ' => r = some (a * 1024 + b * 32 + c) ∧ σ' = σ) := by
  have hM : mz_meth[52]? = some mtX4_pack := rfl
  refine mz_Cl.of hM ?_
  show mz_Wp shA none 52 (0, [some (.inl a), some (.inl b), some (.inl c)], [], σ) _
  refine wp_go 6 hM (fr' := (7, [some (.inl a), some (.inl b), some (.inl c)], [.inl (b * 32), .inl (a * 1024)], σ)) rfl ?_
  refine wp_or hM rfl (by omega) ?_
  refine wp_go 1 hM (fr' := (9, [some (.inl a), some (.inl b), some (.inl c)], [.inl c, .inl ((a * 1024) + (b * 32))], σ)) rfl ?_
  refine wp_or hM rfl (by omega) ?_
  refine wp_ret hM rfl (rfl) ?_
  exact ⟨rfl, rfl⟩

set_option maxRecDepth 100000 in
set_option maxHeartbeats 4000000 in
theorem sp_X4_isOne  (σ : mz_G) (t : Int) (h0 : mz_R t) (h1 : mz_R (σ 11 1)) : mz_Cl shA 53 [.inr 11, .inl t] σ (fun r σ' => r = some (b01 (0 ≤ t ∧ t < σ 11 1)) ∧ σ' = σ) := by
  have hM : mz_meth[53]? = some mtX4_isOne := rfl
  refine mz_Cl.of hM ?_
  show mz_Wp shA none 53 (0, [some (.inr 11), some (.inl t)], [], σ) _
  refine wp_go 1 hM (fr' := (1, [some (.inr 11), some (.inl t)], [.inl t], σ)) rfl ?_
  refine wp_if (tgt := 16) hM rfl (by decide) (by omega) (fun c1 => ?_) (fun c1 => ?_)
  · replace c1 := cmp_lt_t c1
    refine wp_go 1 hM (fr' := (17, [some (.inr 11), some (.inl t)], [.inl 0], σ)) rfl ?_
    refine wp_ret hM rfl (rfl) ?_
    first | exact r_t (by omega) | exact r_f (by omega)
  · replace c1 := cmp_lt_f c1
    refine wp_go 3 hM (fr' := (9, [some (.inr 11), some (.inl t)], [.inl (σ 11 1), .inl t], σ)) rfl ?_
    refine wp_ic (tgt := 16) hM rfl (by decide) (by omega) (by omega) (fun c9 => ?_) (fun c9 => ?_)
    · replace c9 := cmp_ge_t c9
      refine wp_go 1 hM (fr' := (17, [some (.inr 11), some (.inl t)], [.inl 0], σ)) rfl ?_
      refine wp_ret hM rfl (rfl) ?_
      first | exact r_t (by omega) | exact r_f (by omega)
    · replace c9 := cmp_ge_f c9
      refine wp_go 2 hM (fr' := (17, [some (.inr 11), some (.inl t)], [.inl 1], σ)) rfl ?_
      refine wp_ret hM rfl (rfl) ?_
      first | exact r_t (by omega) | exact r_f (by omega)

set_option maxRecDepth 100000 in
set_option maxHeartbeats 4000000 in
theorem sp_X4_first  (σ : mz_G) (t : Int) (h0 : 0 ≤ t) (h1 : t < 64) (h2 : mz_R (σ 22 (t).toNat)) : mz_Cl shA 54 [.inr 11, .inl t] σ (fun r σ' => r = some (σ 22 (t).toNat / 1024 % 32) ∧ σ' = σ) := by
  have hM : mz_meth[54]? = some mtX4_first := rfl
  refine mz_Cl.of hM ?_
  show mz_Wp shA none 54 (0, [some (.inr 11), some (.inl t)], [], σ) _
  refine wp_go 3 hM (fr' := (5, [some (.inr 11), some (.inl t)], [.inl t, .inr 22], σ)) rfl ?_
  refine wp_al (n := 64) hM rfl (by decide) rfl (by omega) (by omega) ?_
  refine wp_go 1 hM (fr' := (8, [some (.inr 11), some (.inl t)], [.inl 10, .inl (σ 22 (t).toNat)], σ)) rfl ?_
  refine wp_shr hM rfl (by omega) (Or.inr ⟨rfl, rfl⟩) ?_
  refine wp_go 2 hM (fr' := (12, [some (.inr 11), some (.inl t)], [.inl (((σ 22 (t).toNat) / 1024) % 32)], σ)) rfl ?_
  refine wp_ret hM rfl (rfl) ?_
  exact ⟨rfl, rfl⟩

set_option maxRecDepth 100000 in
set_option maxHeartbeats 4000000 in
theorem sp_X4_second  (σ : mz_G) (t : Int) (h0 : 0 ≤ t) (h1 : t < 64) (h2 : mz_R (σ 22 (t).toNat)) : mz_Cl shA 55 [.inr 11, .inl t] σ (fun r σ' => r = some (σ 22 (t).toNat / 32 % 32) ∧ σ' = σ) := by
  have hM : mz_meth[55]? = some mtX4_second := rfl
  refine mz_Cl.of hM ?_
  show mz_Wp shA none 55 (0, [some (.inr 11), some (.inl t)], [], σ) _
  refine wp_go 3 hM (fr' := (5, [some (.inr 11), some (.inl t)], [.inl t, .inr 22], σ)) rfl ?_
  refine wp_al (n := 64) hM rfl (by decide) rfl (by omega) (by omega) ?_
  refine wp_go 1 hM (fr' := (7, [some (.inr 11), some (.inl t)], [.inl 5, .inl (σ 22 (t).toNat)], σ)) rfl ?_
  refine wp_shr hM rfl (by omega) (Or.inl ⟨rfl, rfl⟩) ?_
  refine wp_go 2 hM (fr' := (11, [some (.inr 11), some (.inl t)], [.inl (((σ 22 (t).toNat) / 32) % 32)], σ)) rfl ?_
  refine wp_ret hM rfl (rfl) ?_
  exact ⟨rfl, rfl⟩

set_option maxRecDepth 100000 in
set_option maxHeartbeats 4000000 in
theorem sp_X4_third  (σ : mz_G) (t : Int) (h0 : 0 ≤ t) (h1 : t < 64) : mz_Cl shA 56 [.inr 11, .inl t] σ (fun r σ' => r = some (σ 22 (t).toNat % 32) ∧ σ' = σ) := by
  have hM : mz_meth[56]? = some mtX4_third := rfl
  refine mz_Cl.of hM ?_
  show mz_Wp shA none 56 (0, [some (.inr 11), some (.inl t)], [], σ) _
  refine wp_go 3 hM (fr' := (5, [some (.inr 11), some (.inl t)], [.inl t, .inr 22], σ)) rfl ?_
  refine wp_al (n := 64) hM rfl (by decide) rfl (by omega) (by omega) ?_
  refine wp_go 2 hM (fr' := (9, [some (.inr 11), some (.inl t)], [.inl ((σ 22 (t).toNat) % 32)], σ)) rfl ?_
  refine wp_ret hM rfl (rfl) ?_
  exact ⟨rfl, rfl⟩
