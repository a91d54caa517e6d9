set_option maxRecDepth 100000 in
set_option maxHeartbeats 4000000 in
theorem sp_J7_fill_53178_4  (σ : mz_G) (z : Int)  : mz_Cl shA 182 [.inr 4, .inl z] σ (fun r σ' => r = none ∧ σ' = (fil σ 4 400 z)) := by
  have hM : mz_meth[182]? = some mtJ7_fill_53178 := rfl
  refine mz_Cl.of hM ?_
  show mz_Wp shA none 182 (0, [some (.inr 4), some (.inl z), none, none], [], σ) _
  refine wp_go 5 hM (fr' := (5, [some (.inr 4), some (.inl z), some (.inl 0), some (.inl 400)], [], σ)) rfl ?_
  have loop5 : ∀ (fuel : Nat) (i : Int) (σ1 : mz_G), (0 ≤ i) → (i ≤ 400) → (σ1 = fil σ 4 i.toNat z) → ((400 - i : Int) < fuel) → mz_Wp shA none 182 (5, [some (.inr 4), some (.inl z), some (.inl i), some (.inl 400)], [], σ1) (fun r σ' => r = none ∧ σ' = (fil σ 4 400 z)) := by
    intro fuel
    induction fuel with
    | zero =>
      intro i σ1 hv5_0 hv5_1 hv5_2 hf5
      exfalso
      omega
    | succ fuel ih5 =>
      intro i σ1 hv5_0 hv5_1 hv5_2 hf5
      refine wp_go 2 hM (fr' := (7, [some (.inr 4), some (.inl z), some (.inl i), some (.inl 400)], [.inl 400, .inl i], σ1)) rfl ?_
      refine wp_ic (tgt := 20) hM rfl (by decide) (by omega) (by omega) (fun c7 => ?_) (fun c7 => ?_)
      · replace c7 := cmp_ge_t c7
        refine wp_retv hM rfl rfl ?_
        exact ⟨rfl, by rw [hv5_2, show i = 400 from by omega]; rfl⟩
      · replace c7 := cmp_ge_f c7
        refine wp_go 3 hM (fr' := (13, [some (.inr 4), some (.inl z), some (.inl i), some (.inl 400)], [.inl z, .inl i, .inr 4], σ1)) rfl ?_
        refine wp_as (n := 400) hM rfl rfl (by omega) (by omega) ?_
        refine wp_go 2 hM (fr' := (5, [some (.inr 4), some (.inl z), some (.inl (i + 1)), some (.inl 400)], [], (mz_up σ1 4 (i).toNat z))) rfl ?_
        exact ih5 (i + 1) (mz_up σ1 4 (i).toNat z) (by omega) (by omega) (by rw [hv5_2, fil_s hv5_0]) (by omega)
  exact loop5 402 0 σ (by omega) (by omega) (by rw [show (0 : Int).toNat = 0 from rfl, fil_0]) (by omega)

set_option maxRecDepth 100000 in
set_option maxHeartbeats 4000000 in
theorem sp_J7_fill_53178_6  (σ : mz_G) (z : Int)  : mz_Cl shA 182 [.inr 6, .inl z] σ (fun r σ' => r = none ∧ σ' = (fil σ 6 400 z)) := by
  have hM : mz_meth[182]? = some mtJ7_fill_53178 := rfl
  refine mz_Cl.of hM ?_
  show mz_Wp shA none 182 (0, [some (.inr 6), some (.inl z), none, none], [], σ) _
  refine wp_go 5 hM (fr' := (5, [some (.inr 6), some (.inl z), some (.inl 0), some (.inl 400)], [], σ)) rfl ?_
  have loop5 : ∀ (fuel : Nat) (i : Int) (σ1 : mz_G), (0 ≤ i) → (i ≤ 400) → (σ1 = fil σ 6 i.toNat z) → ((400 - i : Int) < fuel) → mz_Wp shA none 182 (5, [some (.inr 6), some (.inl z), some (.inl i), some (.inl 400)], [], σ1) (fun r σ' => r = none ∧ σ' = (fil σ 6 400 z)) := by
    intro fuel
    induction fuel with
    | zero =>
      intro i σ1 hv5_0 hv5_1 hv5_2 hf5
      exfalso
      omega
    | succ fuel ih5 =>
      intro i σ1 hv5_0 hv5_1 hv5_2 hf5
      refine wp_go 2 hM (fr' := (7, [some (.inr 6), some (.inl z), some (.inl i), some (.inl 400)], [.inl 400, .inl i], σ1)) rfl ?_
      refine wp_ic (tgt := 20) hM rfl (by decide) (by omega) (by omega) (fun c7 => ?_) (fun c7 => ?_)
      · replace c7 := cmp_ge_t c7
        refine wp_retv hM rfl rfl ?_
        exact ⟨rfl, by rw [hv5_2, show i = 400 from by omega]; rfl⟩
      · replace c7 := cmp_ge_f c7
        refine wp_go 3 hM (fr' := (13, [some (.inr 6), some (.inl z), some (.inl i), some (.inl 400)], [.inl z, .inl i, .inr 6], σ1)) rfl ?_
        refine wp_as (n := 400) hM rfl rfl (by omega) (by omega) ?_
        refine wp_go 2 hM (fr' := (5, [some (.inr 6), some (.inl z), some (.inl (i + 1)), some (.inl 400)], [], (mz_up σ1 6 (i).toNat z))) rfl ?_
        exact ih5 (i + 1) (mz_up σ1 6 (i).toNat z) (by omega) (by omega) (by rw [hv5_2, fil_s hv5_0]) (by omega)
  exact loop5 402 0 σ (by omega) (by omega) (by rw [show (0 : Int).toNat = 0 from rfl, fil_0]) (by omega)

set_option maxRecDepth 100000 in
set_option maxHeartbeats 4000000 in
theorem sp_J7_fill_53178_14  (σ : mz_G) (z : Int)  : mz_Cl shA 182 [.inr 14, .inl z] σ (fun r σ' => r = none ∧ σ' = (fil σ 14 400 z)) := by
  have hM : mz_meth[182]? = some mtJ7_fill_53178 := rfl
  refine mz_Cl.of hM ?_
  show mz_Wp shA none 182 (0, [some (.inr 14), some (.inl z), none, none], [], σ) _
  refine wp_go 5 hM (fr' := (5, [some (.inr 14), some (.inl z), some (.inl 0), some (.inl 400)], [], σ)) rfl ?_
  have loop5 : ∀ (fuel : Nat) (i : Int) (σ1 : mz_G), (0 ≤ i) → (i ≤ 400) → (σ1 = fil σ 14 i.toNat z) → ((400 - i : Int) < fuel) → mz_Wp shA none 182 (5, [some (.inr 14), some (.inl z), some (.inl i), some (.inl 400)], [], σ1) (fun r σ' => r = none ∧ σ' = (fil σ 14 400 z)) := by
    intro fuel
    induction fuel with
    | zero =>
      intro i σ1 hv5_0 hv5_1 hv5_2 hf5
      exfalso
      omega
    | succ fuel ih5 =>
      intro i σ1 hv5_0 hv5_1 hv5_2 hf5
      refine wp_go 2 hM (fr' := (7, [some (.inr 14), some (.inl z), some (.inl i), some (.inl 400)], [.inl 400, .inl i], σ1)) rfl ?_
      refine wp_ic (tgt := 20) hM rfl (by decide) (by omega) (by omega) (fun c7 => ?_) (fun c7 => ?_)
      · replace c7 := cmp_ge_t c7
        refine wp_retv hM rfl rfl ?_
        exact ⟨rfl, by rw [hv5_2, show i = 400 from by omega]; rfl⟩
      · replace c7 := cmp_ge_f c7
        refine wp_go 3 hM (fr' := (13, [some (.inr 14), some (.inl z), some (.inl i), some (.inl 400)], [.inl z, .inl i, .inr 14], σ1)) rfl ?_
        refine wp_as (n := 400) hM rfl rfl (by omega) (by omega) ?_
        refine wp_go 2 hM (fr' := (5, [some (.inr 14), some (.inl z), some (.inl (i + 1)), some (.inl 400)], [], (mz_up σ1 14 (i).toNat z))) rfl ?_
        exact ih5 (i + 1) (mz_up σ1 14 (i).toNat z) (by omega) (by omega) (by rw [hv5_2, fil_s hv5_0]) (by omega)
  exact loop5 402 0 σ (by omega) (by omega) (by rw [show (0 : Int).toNat = 0 from rfl, fil_0]) (by omega)

set_option maxRecDepth 100000 in
set_option maxHeartbeats 4000000 in
theorem sp_J7_fill_53178_15  (σ : mz_G) (z : Int)  : mz_Cl shA 182 [.inr 15, .inl z] σ (fun r σ' => r = none ∧ σ' = (fil σ 15 400 z)) := by
  have hM : mz_meth[182]? = some mtJ7_fill_53178 := rfl
  refine mz_Cl.of hM ?_
  show mz_Wp shA none 182 (0, [some (.inr 15), some (.inl z), none, none], [], σ) _
  refine wp_go 5 hM (fr' := (5, [some (.inr 15), some (.inl z), some (.inl 0), some (.inl 400)], [], σ)) rfl ?_
  have loop5 : ∀ (fuel : Nat) (i : Int) (σ1 : mz_G), (0 ≤ i) → (i ≤ 400) → (σ1 = fil σ 15 i.toNat z) → ((400 - i : Int) < fuel) → mz_Wp shA none 182 (5, [some (.inr 15), some (.inl z), some (.inl i), some (.inl 400)], [], σ1) (fun r σ' => r = none ∧ σ' = (fil σ 15 400 z)) := by
    intro fuel
    induction fuel with
    | zero =>
      intro i σ1 hv5_0 hv5_1 hv5_2 hf5
      exfalso
      omega
    | succ fuel ih5 =>
      intro i σ1 hv5_0 hv5_1 hv5_2 hf5
      refine wp_go 2 hM (fr' := (7, [some (.inr 15), some (.inl z), some (.inl i), some (.inl 400)], [.inl 400, .inl i], σ1)) rfl ?_
      refine wp_ic (tgt := 20) hM rfl (by decide) (by omega) (by omega) (fun c7 => ?_) (fun c7 => ?_)
      · replace c7 := cmp_ge_t c7
        refine wp_retv hM rfl rfl ?_
        exact ⟨rfl, by rw [hv5_2, show i = 400 from by omega]; rfl⟩
      · replace c7 := cmp_ge_f c7
        refine wp_go 3 hM (fr' := (13, [some (.inr 15), some (.inl z), some (.inl i), some (.inl 400)], [.inl z, .inl i, .inr 15], σ1)) rfl ?_
        refine wp_as (n := 400) hM rfl rfl (by omega) (by omega) ?_
        refine wp_go 2 hM (fr' := (5, [some (.inr 15), some (.inl z), some (.inl (i + 1)), some (.inl 400)], [], (mz_up σ1 15 (i).toNat z))) rfl ?_
        exact ih5 (i + 1) (mz_up σ1 15 (i).toNat z) (by omega) (by omega) (by rw [hv5_2, fil_s hv5_0]) (by omega)
  exact loop5 402 0 σ (by omega) (by omega) (by rw [show (0 : Int).toNat = 0 from rfl, fil_0]) (by omega)

set_option maxRecDepth 100000 in
set_option maxHeartbeats 4000000 in
theorem sp_J9_max_7cf53  (σ : mz_G) (a : Int) (b : Int) (h0 : mz_R a) (h1 : mz_R b) : mz_Cl shA 180 [.inl a, .inl b] σ (fun r σ' => r = some (max a b) ∧ σ' = σ) := by
  have hM : mz_meth[180]? = some mtJ9_max_7cf53 := rfl
  refine mz_Cl.of hM ?_
  show mz_Wp shA none 180 (0, [some (.inl a), some (.inl b)], [], σ) _
  refine wp_go 2 hM (fr' := (2, [some (.inl a), some (.inl b)], [.inl b, .inl a], σ)) rfl ?_
  refine wp_ic (tgt := 9) hM rfl (by decide) (by omega) (by omega) (fun c2 => ?_) (fun c2 => ?_)
  · replace c2 := cmp_lt_t c2
    refine wp_go 1 hM (fr' := (10, [some (.inl a), some (.inl b)], [.inl b], σ)) rfl ?_
    refine wp_ret hM rfl (rfl) ?_
    exact ⟨by congr 1; omega, rfl⟩
  · replace c2 := cmp_lt_f c2
    refine wp_go 2 hM (fr' := (10, [some (.inl a), some (.inl b)], [.inl a], σ)) rfl ?_
    refine wp_ret hM rfl (rfl) ?_
    exact ⟨by congr 1; omega, rfl⟩

set_option maxRecDepth 100000 in
set_option maxHeartbeats 4000000 in
theorem sp_J9_min_7cf53  (σ : mz_G) (a : Int) (b : Int) (h0 : mz_R a) (h1 : mz_R b) : mz_Cl shA 181 [.inl a, .inl b] σ (fun r σ' => r = some (min a b) ∧ σ' = σ) := by
  have hM : mz_meth[181]? = some mtJ9_min_7cf53 := rfl
  refine mz_Cl.of hM ?_
  show mz_Wp shA none 181 (0, [some (.inl a), some (.inl b)], [], σ) _
  refine wp_go 2 hM (fr' := (2, [some (.inl a), some (.inl b)], [.inl b, .inl a], σ)) rfl ?_
  refine wp_ic (tgt := 9) hM rfl (by decide) (by omega) (by omega) (fun c2 => ?_) (fun c2 => ?_)
  · replace c2 := cmp_gt_t c2
    refine wp_go 1 hM (fr' := (10, [some (.inl a), some (.inl b)], [.inl b], σ)) rfl ?_
    refine wp_ret hM rfl (rfl) ?_
    exact ⟨by congr 1; omega, rfl⟩
  · replace c2 := cmp_gt_f c2
    refine wp_go 2 hM (fr' := (10, [some (.inl a), some (.inl b)], [.inl a], σ)) rfl ?_
    refine wp_ret hM rfl (rfl) ?_
    exact ⟨by congr 1; omega, rfl⟩

set_option maxRecDepth 100000 in
set_option maxHeartbeats 4000000 in
theorem sp_X4_first_c (l : List tr3) (σ : mz_G) (t : Int) (h0 : CT σ l) (h1 : Rt 32 l) (h2 : (l.length : Int) ≤ 64) (h3 : 0 ≤ t) (h4 : t < (l.length : Int)) : mz_Cl shA 54 [.inr 11, .inl t] σ (fun r σ' => r = some ((tg l t).1) ∧ σ' = σ) := by
  have e := CT_at h0 h3 h4
  have hp := pk_32 (Rt_at h1 h3 h4)
  refine (sp_X4_first σ t h3 (by omega) (by rw [e]; constructor <;> omega)).mono (fun r σ' h => ⟨?_, h.2⟩)
  rw [h.1, e, hp.1]

set_option maxRecDepth 100000 in
set_option maxHeartbeats 4000000 in
theorem sp_X4_second_c (l : List tr3) (σ : mz_G) (t : Int) (h0 : CT σ l) (h1 : Rt 32 l) (h2 : (l.length : Int) ≤ 64) (h3 : 0 ≤ t) (h4 : t < (l.length : Int)) : mz_Cl shA 55 [.inr 11, .inl t] σ (fun r σ' => r = some ((tg l t).2.1) ∧ σ' = σ) := by
  have e := CT_at h0 h3 h4
  have hp := pk_32 (Rt_at h1 h3 h4)
  refine (sp_X4_second σ t h3 (by omega) (by rw [e]; constructor <;> omega)).mono (fun r σ' h => ⟨?_, h.2⟩)
  rw [h.1, e, hp.2.1]

set_option maxRecDepth 100000 in
set_option maxHeartbeats 4000000 in
theorem sp_X4_third_c (l : List tr3) (σ : mz_G) (t : Int) (h0 : CT σ l) (h1 : Rt 32 l) (h2 : (l.length : Int) ≤ 64) (h3 : 0 ≤ t) (h4 : t < (l.length : Int)) : mz_Cl shA 56 [.inr 11, .inl t] σ (fun r σ' => r = some ((tg l t).2.2) ∧ σ' = σ) := by
  have e := CT_at h0 h3 h4
  have hp := pk_32 (Rt_at h1 h3 h4)
  refine (sp_X4_third σ t h3 (by omega) ).mono (fun r σ' h => ⟨?_, h.2⟩)
  rw [h.1, e, hp.2.2.1]

set_option maxRecDepth 100000 in
set_option maxHeartbeats 4000000 in
theorem sp_X4_add (l : List tr3) (σ : mz_G) (a : Int) (b : Int) (c : Int) (h0 : CT σ l) (h1 : Rt 32 l) (h2 : (l.length : Int) < 64) (h3 : Sd l) (h4 : 0 ≤ a) (h5 : a < 32) (h6 : 0 ≤ b) (h7 : b < 32) (h8 : 0 ≤ c) (h9 : c < 32) : mz_Cl shA 58 [.inr 11, .inl a, .inl b, .inl c] σ (fun r σ' => r = none ∧ CT σ' (ins (nrm a b c) l) ∧ Ft σ σ') := by
  have hM : mz_meth[58]? = some mtX4_add := rfl
  have hT := h0.1
  refine mz_Cl.of hM ?_
  show mz_Wp shA none 58 (0, [some (.inr 11), some (.inl a), some (.inl b), some (.inl c), none, none], [], σ) _
  refine wp_go 3 hM (fr' := (6, [some (.inr 11), some (.inl a), some (.inl b), some (.inl c), none, none], [.inl 64, .inl (σ 11 1)], σ)) rfl ?_
  refine wp_ic (tgt := 10) hM rfl (by decide) (by omega) (by omega) (fun c6 => ?_) (fun c6 => ?_)
  · replace c6 := cmp_lt_t c6
    refine wp_go 3 hM (fr' := (13, [some (.inr 11), some (.inl a), some (.inl b), some (.inl c), none, none], [.inl c, .inl b, .inl a], σ)) rfl ?_
    refine wp_calld (v := 1) (idx := 29) (j := 52) (N := mtX4_pack) (as := [.inl a, .inl b, .inl c]) (rest := []) hM rfl (Or.inr ⟨rfl, rfl⟩) rfl (sp_X4_pack  σ a b c (by first | assumption | omega) (by first | assumption | omega) (by first | assumption | omega) (by first | assumption | omega) (by first | assumption | omega) (by first | assumption | omega)) ?_
    show mz_Wp shA none 58 (16, [some (.inr 11), some (.inl a), some (.inl b), some (.inl c), none, none], [.inl (a * 1024 + b * 32 + c)], σ) _
    refine wp_go 3 hM (fr' := (20, [some (.inr 11), some (.inl a), some (.inl b), some (.inl c), some (.inl (a * 1024 + b * 32 + c)), none], [.inl a, .inl b], σ)) rfl ?_
    refine wp_ic (tgt := 39) hM rfl (by decide) (by omega) (by omega) (fun c20 => ?_) (fun c20 => ?_)
    · replace c20 := cmp_ge_t c20
      have hz : a * 1024 + b * 32 + c = a * 1024 + b * 32 + c := rfl
      refine wp_go 2 hM (fr' := (41, [some (.inr 11), some (.inl a), some (.inl b), some (.inl c), some (.inl (a * 1024 + b * 32 + c)), none], [.inl a, .inl c], σ)) rfl ?_
      refine wp_ic (tgt := 57) hM rfl (by decide) (by omega) (by omega) (fun c41 => ?_) (fun c41 => ?_)
      · replace c41 := cmp_ge_t c41
        refine wp_go 3 hM (fr' := (63, [some (.inr 11), some (.inl a), some (.inl b), some (.inl c), some (.inl (a * 1024 + b * 32 + c)), some (.inl (σ 11 1))], [], σ)) rfl ?_
        have loop63 : ∀ (fuel : Nat) (z : Int) (t : Int) (σ1 : mz_G), (0 ≤ t) → (t ≤ (l.length : Int)) → (z = pk (nrm a b c)) → (AdI σ σ1 (l.length : Int) t z) → ((t : Int) < fuel) → mz_Wp shA none 58 (63, [some (.inr 11), some (.inl a), some (.inl b), some (.inl c), some (.inl z), some (.inl t)], [], σ1) (fun r σ' => r = none ∧ CT σ' (ins (nrm a b c) l) ∧ Ft σ σ') := by
          intro fuel
          induction fuel with
          | zero =>
            intro z t σ1 hv63_0 hv63_1 hv63_2 hv63_3 hf63
            exfalso
            omega
          | succ fuel ih63 =>
            intro z t σ1 hv63_0 hv63_1 hv63_2 hv63_3 hf63
            have hnr := pk_32 (nrm_rg (n := 32) ⟨h4, h5⟩ ⟨h6, h7⟩ ⟨h8, h9⟩)
            have hT1 : σ1 11 1 = (l.length : Int) := by rw [hv63_3.2.2.2 11 1 (by decide)]; exact hT
            refine wp_go 1 hM (fr' := (65, [some (.inr 11), some (.inl a), some (.inl b), some (.inl c), some (.inl z), some (.inl t)], [.inl t], σ1)) rfl ?_
            refine wp_if (tgt := 104) hM rfl (by decide) (by omega) (fun c65 => ?_) (fun c65 => ?_)
            · replace c65 := cmp_le_t c65
              refine wp_go 4 hM (fr' := (112, [some (.inr 11), some (.inl a), some (.inl b), some (.inl c), some (.inl z), some (.inl t)], [.inl z, .inl t, .inr 22], σ1)) rfl ?_
              refine wp_as (n := 64) hM rfl rfl (by omega) (by omega) ?_
              refine wp_go 6 hM (fr' := (123, [some (.inr 11), some (.inl a), some (.inl b), some (.inl c), some (.inl z), some (.inl t)], [], (mz_up (mz_up σ1 22 (t).toNat z) 11 1 ((σ1 11 1) + 1)))) rfl ?_
              refine wp_retv hM rfl rfl ?_
              first | exact ⟨rfl, CT_add h0 hv63_3 hv63_0 hv63_1 hv63_2 h3 (Or.inr (by omega)) _ (by omega), Ft_add hv63_3⟩ | exact ⟨rfl, CT_add h0 hv63_3 hv63_0 hv63_1 hv63_2 h3 (Or.inl (by omega)) _ (by omega), Ft_add hv63_3⟩
            · replace c65 := cmp_le_f c65
              have hrd : σ1 22 (t - 1).toNat = pk (tg l (t - 1)) := by rw [hv63_3.1 _ (by omega)]; exact CT_at h0 (by omega) (by omega)
              have hpb := pk_32 (Rt_at h1 (show 0 ≤ t - 1 by omega) (show t - 1 < (l.length : Int) by omega))
              refine wp_go 5 hM (fr' := (76, [some (.inr 11), some (.inl a), some (.inl b), some (.inl c), some (.inl z), some (.inl t)], [.inl (t - 1), .inr 22], σ1)) rfl ?_
              refine wp_al (n := 64) hM rfl (by decide) rfl (by omega) (by omega) ?_
              refine wp_go 1 hM (fr' := (79, [some (.inr 11), some (.inl a), some (.inl b), some (.inl c), some (.inl z), some (.inl t)], [.inl z, .inl (σ1 22 (t - 1).toNat)], σ1)) rfl ?_
              refine wp_ic (tgt := 104) hM rfl (by decide) (by rw [hrd]; constructor <;> omega) (by omega) (fun c79 => ?_) (fun c79 => ?_)
              · replace c79 := cmp_le_t c79
                refine wp_go 4 hM (fr' := (112, [some (.inr 11), some (.inl a), some (.inl b), some (.inl c), some (.inl z), some (.inl t)], [.inl z, .inl t, .inr 22], σ1)) rfl ?_
                refine wp_as (n := 64) hM rfl rfl (by omega) (by omega) ?_
                refine wp_go 6 hM (fr' := (123, [some (.inr 11), some (.inl a), some (.inl b), some (.inl c), some (.inl z), some (.inl t)], [], (mz_up (mz_up σ1 22 (t).toNat z) 11 1 ((σ1 11 1) + 1)))) rfl ?_
                refine wp_retv hM rfl rfl ?_
                first | exact ⟨rfl, CT_add h0 hv63_3 hv63_0 hv63_1 hv63_2 h3 (Or.inr (by omega)) _ (by omega), Ft_add hv63_3⟩ | exact ⟨rfl, CT_add h0 hv63_3 hv63_0 hv63_1 hv63_2 h3 (Or.inl (by omega)) _ (by omega), Ft_add hv63_3⟩
              · replace c79 := cmp_le_f c79
                refine wp_go 8 hM (fr' := (96, [some (.inr 11), some (.inl a), some (.inl b), some (.inl c), some (.inl z), some (.inl t)], [.inl (t - 1), .inr 22, .inl t, .inr 22], σ1)) rfl ?_
                refine wp_al (n := 64) hM rfl (by decide) rfl (by omega) (by omega) ?_
                refine wp_as (n := 64) hM rfl rfl (by omega) (by omega) ?_
                refine wp_go 2 hM (fr' := (63, [some (.inr 11), some (.inl a), some (.inl b), some (.inl c), some (.inl z), some (.inl (t + (-1)))], [], (mz_up σ1 22 (t).toNat (σ1 22 (t - 1).toNat)))) rfl ?_
                exact ih63 z (t + (-1)) (mz_up σ1 22 (t).toNat (σ1 22 (t - 1).toNat)) (by omega) (by omega) (by exact hv63_2) (by exact AdI_s hv63_3 (by omega) (by omega) (by omega)) (by omega)
        exact loop63 66 (a * 1024 + b * 32 + c) (σ 11 1) σ (by omega) (by omega) (by first | (exfalso; omega) | (unfold pk nrm; first | rw [if_pos (by omega)] | rw [if_neg (by omega), if_pos (by omega)] | rw [if_neg (by omega), if_neg (by omega)])) (by rw [hT]; exact AdI_0) (by omega)
      · replace c41 := cmp_ge_f c41
        refine wp_go 2 hM (fr' := (46, [some (.inr 11), some (.inl a), some (.inl b), some (.inl c), some (.inl (a * 1024 + b * 32 + c)), none], [.inl b, .inl c], σ)) rfl ?_
        refine wp_ic (tgt := 57) hM rfl (by decide) (by omega) (by omega) (fun c46 => ?_) (fun c46 => ?_)
        · replace c46 := cmp_ge_t c46
          refine wp_go 3 hM (fr' := (63, [some (.inr 11), some (.inl a), some (.inl b), some (.inl c), some (.inl (a * 1024 + b * 32 + c)), some (.inl (σ 11 1))], [], σ)) rfl ?_
          have loop63 : ∀ (fuel : Nat) (z : Int) (t : Int) (σ1 : mz_G), (0 ≤ t) → (t ≤ (l.length : Int)) → (z = pk (nrm a b c)) → (AdI σ σ1 (l.length : Int) t z) → ((t : Int) < fuel) → mz_Wp shA none 58 (63, [some (.inr 11), some (.inl a), some (.inl b), some (.inl c), some (.inl z), some (.inl t)], [], σ1) (fun r σ' => r = none ∧ CT σ' (ins (nrm a b c) l) ∧ Ft σ σ') := by
            intro fuel
            induction fuel with
            | zero =>
              intro z t σ1 hv63_0 hv63_1 hv63_2 hv63_3 hf63
              exfalso
              omega
            | succ fuel ih63 =>
              intro z t σ1 hv63_0 hv63_1 hv63_2 hv63_3 hf63
              have hnr := pk_32 (nrm_rg (n := 32) ⟨h4, h5⟩ ⟨h6, h7⟩ ⟨h8, h9⟩)
              have hT1 : σ1 11 1 = (l.length : Int) := by rw [hv63_3.2.2.2 11 1 (by decide)]; exact hT
              refine wp_go 1 hM (fr' := (65, [some (.inr 11), some (.inl a), some (.inl b), some (.inl c), some (.inl z), some (.inl t)], [.inl t], σ1)) rfl ?_
              refine wp_if (tgt := 104) hM rfl (by decide) (by omega) (fun c65 => ?_) (fun c65 => ?_)
              · replace c65 := cmp_le_t c65
                refine wp_go 4 hM (fr' := (112, [some (.inr 11), some (.inl a), some (.inl b), some (.inl c), some (.inl z), some (.inl t)], [.inl z, .inl t, .inr 22], σ1)) rfl ?_
                refine wp_as (n := 64) hM rfl rfl (by omega) (by omega) ?_
                refine wp_go 6 hM (fr' := (123, [some (.inr 11), some (.inl a), some (.inl b), some (.inl c), some (.inl z), some (.inl t)], [], (mz_up (mz_up σ1 22 (t).toNat z) 11 1 ((σ1 11 1) + 1)))) rfl ?_
                refine wp_retv hM rfl rfl ?_
                first | exact ⟨rfl, CT_add h0 hv63_3 hv63_0 hv63_1 hv63_2 h3 (Or.inr (by omega)) _ (by omega), Ft_add hv63_3⟩ | exact ⟨rfl, CT_add h0 hv63_3 hv63_0 hv63_1 hv63_2 h3 (Or.inl (by omega)) _ (by omega), Ft_add hv63_3⟩
              · replace c65 := cmp_le_f c65
                have hrd : σ1 22 (t - 1).toNat = pk (tg l (t - 1)) := by rw [hv63_3.1 _ (by omega)]; exact CT_at h0 (by omega) (by omega)
                have hpb := pk_32 (Rt_at h1 (show 0 ≤ t - 1 by omega) (show t - 1 < (l.length : Int) by omega))
                refine wp_go 5 hM (fr' := (76, [some (.inr 11), some (.inl a), some (.inl b), some (.inl c), some (.inl z), some (.inl t)], [.inl (t - 1), .inr 22], σ1)) rfl ?_
                refine wp_al (n := 64) hM rfl (by decide) rfl (by omega) (by omega) ?_
                refine wp_go 1 hM (fr' := (79, [some (.inr 11), some (.inl a), some (.inl b), some (.inl c), some (.inl z), some (.inl t)], [.inl z, .inl (σ1 22 (t - 1).toNat)], σ1)) rfl ?_
                refine wp_ic (tgt := 104) hM rfl (by decide) (by rw [hrd]; constructor <;> omega) (by omega) (fun c79 => ?_) (fun c79 => ?_)
                · replace c79 := cmp_le_t c79
                  refine wp_go 4 hM (fr' := (112, [some (.inr 11), some (.inl a), some (.inl b), some (.inl c), some (.inl z), some (.inl t)], [.inl z, .inl t, .inr 22], σ1)) rfl ?_
                  refine wp_as (n := 64) hM rfl rfl (by omega) (by omega) ?_
                  refine wp_go 6 hM (fr' := (123, [some (.inr 11), some (.inl a), some (.inl b), some (.inl c), some (.inl z), some (.inl t)], [], (mz_up (mz_up σ1 22 (t).toNat z) 11 1 ((σ1 11 1) + 1)))) rfl ?_
                  refine wp_retv hM rfl rfl ?_
                  first | exact ⟨rfl, CT_add h0 hv63_3 hv63_0 hv63_1 hv63_2 h3 (Or.inr (by omega)) _ (by omega), Ft_add hv63_3⟩ | exact ⟨rfl, CT_add h0 hv63_3 hv63_0 hv63_1 hv63_2 h3 (Or.inl (by omega)) _ (by omega), Ft_add hv63_3⟩
                · replace c79 := cmp_le_f c79
                  refine wp_go 8 hM (fr' := (96, [some (.inr 11), some (.inl a), some (.inl b), some (.inl c), some (.inl z), some (.inl t)], [.inl (t - 1), .inr 22, .inl t, .inr 22], σ1)) rfl ?_
                  refine wp_al (n := 64) hM rfl (by decide) rfl (by omega) (by omega) ?_
                  refine wp_as (n := 64) hM rfl rfl (by omega) (by omega) ?_
                  refine wp_go 2 hM (fr' := (63, [some (.inr 11), some (.inl a), some (.inl b), some (.inl c), some (.inl z), some (.inl (t + (-1)))], [], (mz_up σ1 22 (t).toNat (σ1 22 (t - 1).toNat)))) rfl ?_
                  exact ih63 z (t + (-1)) (mz_up σ1 22 (t).toNat (σ1 22 (t - 1).toNat)) (by omega) (by omega) (by exact hv63_2) (by exact AdI_s hv63_3 (by omega) (by omega) (by omega)) (by omega)
          exact loop63 66 (a * 1024 + b * 32 + c) (σ 11 1) σ (by omega) (by omega) (by first | (exfalso; omega) | (unfold pk nrm; first | rw [if_pos (by omega)] | rw [if_neg (by omega), if_pos (by omega)] | rw [if_neg (by omega), if_neg (by omega)])) (by rw [hT]; exact AdI_0) (by omega)
        · replace c46 := cmp_ge_f c46
          refine wp_go 3 hM (fr' := (52, [some (.inr 11), some (.inl a), some (.inl b), some (.inl c), some (.inl (a * 1024 + b * 32 + c)), none], [.inl b, .inl a, .inl c], σ)) rfl ?_
          refine wp_calld (v := 1) (idx := 29) (j := 52) (N := mtX4_pack) (as := [.inl c, .inl a, .inl b]) (rest := []) hM rfl (Or.inr ⟨rfl, rfl⟩) rfl (sp_X4_pack  σ c a b (by first | assumption | omega) (by first | assumption | omega) (by first | assumption | omega) (by first | assumption | omega) (by first | assumption | omega) (by first | assumption | omega)) ?_
          show mz_Wp shA none 58 (55, [some (.inr 11), some (.inl a), some (.inl b), some (.inl c), some (.inl (a * 1024 + b * 32 + c)), none], [.inl (c * 1024 + a * 32 + b)], σ) _
          refine wp_go 4 hM (fr' := (63, [some (.inr 11), some (.inl a), some (.inl b), some (.inl c), some (.inl (c * 1024 + a * 32 + b)), some (.inl (σ 11 1))], [], σ)) rfl ?_
          have loop63 : ∀ (fuel : Nat) (z : Int) (t : Int) (σ1 : mz_G), (0 ≤ t) → (t ≤ (l.length : Int)) → (z = pk (nrm a b c)) → (AdI σ σ1 (l.length : Int) t z) → ((t : Int) < fuel) → mz_Wp shA none 58 (63, [some (.inr 11), some (.inl a), some (.inl b), some (.inl c), some (.inl z), some (.inl t)], [], σ1) (fun r σ' => r = none ∧ CT σ' (ins (nrm a b c) l) ∧ Ft σ σ') := by
            intro fuel
            induction fuel with
            | zero =>
              intro z t σ1 hv63_0 hv63_1 hv63_2 hv63_3 hf63
              exfalso
              omega
            | succ fuel ih63 =>
              intro z t σ1 hv63_0 hv63_1 hv63_2 hv63_3 hf63
              have hnr := pk_32 (nrm_rg (n := 32) ⟨h4, h5⟩ ⟨h6, h7⟩ ⟨h8, h9⟩)
              have hT1 : σ1 11 1 = (l.length : Int) := by rw [hv63_3.2.2.2 11 1 (by decide)]; exact hT
              refine wp_go 1 hM (fr' := (65, [some (.inr 11), some (.inl a), some (.inl b), some (.inl c), some (.inl z), some (.inl t)], [.inl t], σ1)) rfl ?_
              refine wp_if (tgt := 104) hM rfl (by decide) (by omega) (fun c65 => ?_) (fun c65 => ?_)
              · replace c65 := cmp_le_t c65
                refine wp_go 4 hM (fr' := (112, [some (.inr 11), some (.inl a), some (.inl b), some (.inl c), some (.inl z), some (.inl t)], [.inl z, .inl t, .inr 22], σ1)) rfl ?_
                refine wp_as (n := 64) hM rfl rfl (by omega) (by omega) ?_
                refine wp_go 6 hM (fr' := (123, [some (.inr 11), some (.inl a), some (.inl b), some (.inl c), some (.inl z), some (.inl t)], [], (mz_up (mz_up σ1 22 (t).toNat z) 11 1 ((σ1 11 1) + 1)))) rfl ?_
                refine wp_retv hM rfl rfl ?_
                first | exact ⟨rfl, CT_add h0 hv63_3 hv63_0 hv63_1 hv63_2 h3 (Or.inr (by omega)) _ (by omega), Ft_add hv63_3⟩ | exact ⟨rfl, CT_add h0 hv63_3 hv63_0 hv63_1 hv63_2 h3 (Or.inl (by omega)) _ (by omega), Ft_add hv63_3⟩
              · replace c65 := cmp_le_f c65
                have hrd : σ1 22 (t - 1).toNat = pk (tg l (t - 1)) := by rw [hv63_3.1 _ (by omega)]; exact CT_at h0 (by omega) (by omega)
                have hpb := pk_32 (Rt_at h1 (show 0 ≤ t - 1 by omega) (show t - 1 < (l.length : Int) by omega))
                refine wp_go 5 hM (fr' := (76, [some (.inr 11), some (.inl a), some (.inl b), some (.inl c), some (.inl z), some (.inl t)], [.inl (t - 1), .inr 22], σ1)) rfl ?_
                refine wp_al (n := 64) hM rfl (by decide) rfl (by omega) (by omega) ?_
                refine wp_go 1 hM (fr' := (79, [some (.inr 11), some (.inl a), some (.inl b), some (.inl c), some (.inl z), some (.inl t)], [.inl z, .inl (σ1 22 (t - 1).toNat)], σ1)) rfl ?_
                refine wp_ic (tgt := 104) hM rfl (by decide) (by rw [hrd]; constructor <;> omega) (by omega) (fun c79 => ?_) (fun c79 => ?_)
                · replace c79 := cmp_le_t c79
                  refine wp_go 4 hM (fr' := (112, [some (.inr 11), some (.inl a), some (.inl b), some (.inl c), some (.inl z), some (.inl t)], [.inl z, .inl t, .inr 22], σ1)) rfl ?_
                  refine wp_as (n := 64) hM rfl rfl (by omega) (by omega) ?_
                  refine wp_go 6 hM (fr' := (123, [some (.inr 11), some (.inl a), some (.inl b), some (.inl c), some (.inl z), some (.inl t)], [], (mz_up (mz_up σ1 22 (t).toNat z) 11 1 ((σ1 11 1) + 1)))) rfl ?_
                  refine wp_retv hM rfl rfl ?_
                  first | exact ⟨rfl, CT_add h0 hv63_3 hv63_0 hv63_1 hv63_2 h3 (Or.inr (by omega)) _ (by omega), Ft_add hv63_3⟩ | exact ⟨rfl, CT_add h0 hv63_3 hv63_0 hv63_1 hv63_2 h3 (Or.inl (by omega)) _ (by omega), Ft_add hv63_3⟩
                · replace c79 := cmp_le_f c79
                  refine wp_go 8 hM (fr' := (96, [some (.inr 11), some (.inl a), some (.inl b), some (.inl c), some (.inl z), some (.inl t)], [.inl (t - 1), .inr 22, .inl t, .inr 22], σ1)) rfl ?_
                  refine wp_al (n := 64) hM rfl (by decide) rfl (by omega) (by omega) ?_
                  refine wp_as (n := 64) hM rfl rfl (by omega) (by omega) ?_
                  refine wp_go 2 hM (fr' := (63, [some (.inr 11), some (.inl a), some (.inl b), some (.inl c), some (.inl z), some (.inl (t + (-1)))], [], (mz_up σ1 22 (t).toNat (σ1 22 (t - 1).toNat)))) rfl ?_
                  exact ih63 z (t + (-1)) (mz_up σ1 22 (t).toNat (σ1 22 (t - 1).toNat)) (by omega) (by omega) (by exact hv63_2) (by exact AdI_s hv63_3 (by omega) (by omega) (by omega)) (by omega)
          exact loop63 66 (c * 1024 + a * 32 + b) (σ 11 1) σ (by omega) (by omega) (by first | (exfalso; omega) | (unfold pk nrm; first | rw [if_pos (by omega)] | rw [if_neg (by omega), if_pos (by omega)] | rw [if_neg (by omega), if_neg (by omega)])) (by rw [hT]; exact AdI_0) (by omega)
    · replace c20 := cmp_ge_f c20
      refine wp_go 2 hM (fr' := (25, [some (.inr 11), some (.inl a), some (.inl b), some (.inl c), some (.inl (a * 1024 + b * 32 + c)), none], [.inl c, .inl b], σ)) rfl ?_
      refine wp_ic (tgt := 39) hM rfl (by decide) (by omega) (by omega) (fun c25 => ?_) (fun c25 => ?_)
      · replace c25 := cmp_ge_t c25
        refine wp_go 2 hM (fr' := (41, [some (.inr 11), some (.inl a), some (.inl b), some (.inl c), some (.inl (a * 1024 + b * 32 + c)), none], [.inl a, .inl c], σ)) rfl ?_
        refine wp_ic (tgt := 57) hM rfl (by decide) (by omega) (by omega) (fun c41 => ?_) (fun c41 => ?_)
        · replace c41 := cmp_ge_t c41
          refine wp_go 3 hM (fr' := (63, [some (.inr 11), some (.inl a), some (.inl b), some (.inl c), some (.inl (a * 1024 + b * 32 + c)), some (.inl (σ 11 1))], [], σ)) rfl ?_
          have loop63 : ∀ (fuel : Nat) (z : Int) (t : Int) (σ1 : mz_G), (0 ≤ t) → (t ≤ (l.length : Int)) → (z = pk (nrm a b c)) → (AdI σ σ1 (l.length : Int) t z) → ((t : Int) < fuel) → mz_Wp shA none 58 (63, [some (.inr 11), some (.inl a), some (.inl b), some (.inl c), some (.inl z), some (.inl t)], [], σ1) (fun r σ' => r = none ∧ CT σ' (ins (nrm a b c) l) ∧ Ft σ σ') := by
            intro fuel
            induction fuel with
            | zero =>
              intro z t σ1 hv63_0 hv63_1 hv63_2 hv63_3 hf63
              exfalso
              omega
            | succ fuel ih63 =>
              intro z t σ1 hv63_0 hv63_1 hv63_2 hv63_3 hf63
              have hnr := pk_32 (nrm_rg (n := 32) ⟨h4, h5⟩ ⟨h6, h7⟩ ⟨h8, h9⟩)
              have hT1 : σ1 11 1 = (l.length : Int) := by rw [hv63_3.2.2.2 11 1 (by decide)]; exact hT
              refine wp_go 1 hM (fr' := (65, [some (.inr 11), some (.inl a), some (.inl b), some (.inl c), some (.inl z), some (.inl t)], [.inl t], σ1)) rfl ?_
              refine wp_if (tgt := 104) hM rfl (by decide) (by omega) (fun c65 => ?_) (fun c65 => ?_)
              · replace c65 := cmp_le_t c65
                refine wp_go 4 hM (fr' := (112, [some (.inr 11), some (.inl a), some (.inl b), some (.inl c), some (.inl z), some (.inl t)], [.inl z, .inl t, .inr 22], σ1)) rfl ?_
                refine wp_as (n := 64) hM rfl rfl (by omega) (by omega) ?_
                refine wp_go 6 hM (fr' := (123, [some (.inr 11), some (.inl a), some (.inl b), some (.inl c), some (.inl z), some (.inl t)], [], (mz_up (mz_up σ1 22 (t).toNat z) 11 1 ((σ1 11 1) + 1)))) rfl ?_
                refine wp_retv hM rfl rfl ?_
                first | exact ⟨rfl, CT_add h0 hv63_3 hv63_0 hv63_1 hv63_2 h3 (Or.inr (by omega)) _ (by omega), Ft_add hv63_3⟩ | exact ⟨rfl, CT_add h0 hv63_3 hv63_0 hv63_1 hv63_2 h3 (Or.inl (by omega)) _ (by omega), Ft_add hv63_3⟩
              · replace c65 := cmp_le_f c65
                have hrd : σ1 22 (t - 1).toNat = pk (tg l (t - 1)) := by rw [hv63_3.1 _ (by omega)]; exact CT_at h0 (by omega) (by omega)
                have hpb := pk_32 (Rt_at h1 (show 0 ≤ t - 1 by omega) (show t - 1 < (l.length : Int) by omega))
                refine wp_go 5 hM (fr' := (76, [some (.inr 11), some (.inl a), some (.inl b), some (.inl c), some (.inl z), some (.inl t)], [.inl (t - 1), .inr 22], σ1)) rfl ?_
                refine wp_al (n := 64) hM rfl (by decide) rfl (by omega) (by omega) ?_
                refine wp_go 1 hM (fr' := (79, [some (.inr 11), some (.inl a), some (.inl b), some (.inl c), some (.inl z), some (.inl t)], [.inl z, .inl (σ1 22 (t - 1).toNat)], σ1)) rfl ?_
                refine wp_ic (tgt := 104) hM rfl (by decide) (by rw [hrd]; constructor <;> omega) (by omega) (fun c79 => ?_) (fun c79 => ?_)
                · replace c79 := cmp_le_t c79
                  refine wp_go 4 hM (fr' := (112, [some (.inr 11), some (.inl a), some (.inl b), some (.inl c), some (.inl z), some (.inl t)], [.inl z, .inl t, .inr 22], σ1)) rfl ?_
                  refine wp_as (n := 64) hM rfl rfl (by omega) (by omega) ?_
                  refine wp_go 6 hM (fr' := (123, [some (.inr 11), some (.inl a), some (.inl b), some (.inl c), some (.inl z), some (.inl t)], [], (mz_up (mz_up σ1 22 (t).toNat z) 11 1 ((σ1 11 1) + 1)))) rfl ?_
                  refine wp_retv hM rfl rfl ?_
                  first | exact ⟨rfl, CT_add h0 hv63_3 hv63_0 hv63_1 hv63_2 h3 (Or.inr (by omega)) _ (by omega), Ft_add hv63_3⟩ | exact ⟨rfl, CT_add h0 hv63_3 hv63_0 hv63_1 hv63_2 h3 (Or.inl (by omega)) _ (by omega), Ft_add hv63_3⟩
                · replace c79 := cmp_le_f c79
                  refine wp_go 8 hM (fr' := (96, [some (.inr 11), some (.inl a), some (.inl b), some (.inl c), some (.inl z), some (.inl t)], [.inl (t - 1), .inr 22, .inl t, .inr 22], σ1)) rfl ?_
                  refine wp_al (n := 64) hM rfl (by decide) rfl (by omega) (by omega) ?_
                  refine wp_as (n := 64) hM rfl rfl (by omega) (by omega) ?_
                  refine wp_go 2 hM (fr' := (63, [some (.inr 11), some (.inl a), some (.inl b), some (.inl c), some (.inl z), some (.inl (t + (-1)))], [], (mz_up σ1 22 (t).toNat (σ1 22 (t - 1).toNat)))) rfl ?_
                  exact ih63 z (t + (-1)) (mz_up σ1 22 (t).toNat (σ1 22 (t - 1).toNat)) (by omega) (by omega) (by exact hv63_2) (by exact AdI_s hv63_3 (by omega) (by omega) (by omega)) (by omega)
          exact loop63 66 (a * 1024 + b * 32 + c) (σ 11 1) σ (by omega) (by omega) (by first | (exfalso; omega) | (unfold pk nrm; first | rw [if_pos (by omega)] | rw [if_neg (by omega), if_pos (by omega)] | rw [if_neg (by omega), if_neg (by omega)])) (by rw [hT]; exact AdI_0) (by omega)
        · replace c41 := cmp_ge_f c41
          refine wp_go 2 hM (fr' := (46, [some (.inr 11), some (.inl a), some (.inl b), some (.inl c), some (.inl (a * 1024 + b * 32 + c)), none], [.inl b, .inl c], σ)) rfl ?_
          refine wp_ic (tgt := 57) hM rfl (by decide) (by omega) (by omega) (fun c46 => ?_) (fun c46 => ?_)
          · replace c46 := cmp_ge_t c46
            refine wp_go 3 hM (fr' := (63, [some (.inr 11), some (.inl a), some (.inl b), some (.inl c), some (.inl (a * 1024 + b * 32 + c)), some (.inl (σ 11 1))], [], σ)) rfl ?_
            have loop63 : ∀ (fuel : Nat) (z : Int) (t : Int) (σ1 : mz_G), (0 ≤ t) → (t ≤ (l.length : Int)) → (z = pk (nrm a b c)) → (AdI σ σ1 (l.length : Int) t z) → ((t : Int) < fuel) → mz_Wp shA none 58 (63, [some (.inr 11), some (.inl a), some (.inl b), some (.inl c), some (.inl z), some (.inl t)], [], σ1) (fun r σ' => r = none ∧ CT σ' (ins (nrm a b c) l) ∧ Ft σ σ') := by
              intro fuel
              induction fuel with
              | zero =>
                intro z t σ1 hv63_0 hv63_1 hv63_2 hv63_3 hf63
                exfalso
                omega
              | succ fuel ih63 =>
                intro z t σ1 hv63_0 hv63_1 hv63_2 hv63_3 hf63
                have hnr := pk_32 (nrm_rg (n := 32) ⟨h4, h5⟩ ⟨h6, h7⟩ ⟨h8, h9⟩)
                have hT1 : σ1 11 1 = (l.length : Int) := by rw [hv63_3.2.2.2 11 1 (by decide)]; exact hT
                refine wp_go 1 hM (fr' := (65, [some (.inr 11), some (.inl a), some (.inl b), some (.inl c), some (.inl z), some (.inl t)], [.inl t], σ1)) rfl ?_
                refine wp_if (tgt := 104) hM rfl (by decide) (by omega) (fun c65 => ?_) (fun c65 => ?_)
                · replace c65 := cmp_le_t c65
                  refine wp_go 4 hM (fr' := (112, [some (.inr 11), some (.inl a), some (.inl b), some (.inl c), some (.inl z), some (.inl t)], [.inl z, .inl t, .inr 22], σ1)) rfl ?_
                  refine wp_as (n := 64) hM rfl rfl (by omega) (by omega) ?_
                  refine wp_go 6 hM (fr' := (123, [some (.inr 11), some (.inl a), some (.inl b), some (.inl c), some (.inl z), some (.inl t)], [], (mz_up (mz_up σ1 22 (t).toNat z) 11 1 ((σ1 11 1) + 1)))) rfl ?_
                  refine wp_retv hM rfl rfl ?_
                  first | exact ⟨rfl, CT_add h0 hv63_3 hv63_0 hv63_1 hv63_2 h3 (Or.inr (by omega)) _ (by omega), Ft_add hv63_3⟩ | exact ⟨rfl, CT_add h0 hv63_3 hv63_0 hv63_1 hv63_2 h3 (Or.inl (by omega)) _ (by omega), Ft_add hv63_3⟩
                · replace c65 := cmp_le_f c65
                  have hrd : σ1 22 (t - 1).toNat = pk (tg l (t - 1)) := by rw [hv63_3.1 _ (by omega)]; exact CT_at h0 (by omega) (by omega)
                  have hpb := pk_32 (Rt_at h1 (show 0 ≤ t - 1 by omega) (show t - 1 < (l.length : Int) by omega))
                  refine wp_go 5 hM (fr' := (76, [some (.inr 11), some (.inl a), some (.inl b), some (.inl c), some (.inl z), some (.inl t)], [.inl (t - 1), .inr 22], σ1)) rfl ?_
                  refine wp_al (n := 64) hM rfl (by decide) rfl (by omega) (by omega) ?_
                  refine wp_go 1 hM (fr' := (79, [some (.inr 11), some (.inl a), some (.inl b), some (.inl c), some (.inl z), some (.inl t)], [.inl z, .inl (σ1 22 (t - 1).toNat)], σ1)) rfl ?_
                  refine wp_ic (tgt := 104) hM rfl (by decide) (by rw [hrd]; constructor <;> omega) (by omega) (fun c79 => ?_) (fun c79 => ?_)
                  · replace c79 := cmp_le_t c79
                    refine wp_go 4 hM (fr' := (112, [some (.inr 11), some (.inl a), some (.inl b), some (.inl c), some (.inl z), some (.inl t)], [.inl z, .inl t, .inr 22], σ1)) rfl ?_
                    refine wp_as (n := 64) hM rfl rfl (by omega) (by omega) ?_
                    refine wp_go 6 hM (fr' := (123, [some (.inr 11), some (.inl a), some (.inl b), some (.inl c), some (.inl z), some (.inl t)], [], (mz_up (mz_up σ1 22 (t).toNat z) 11 1 ((σ1 11 1) + 1)))) rfl ?_
                    refine wp_retv hM rfl rfl ?_
                    first | exact ⟨rfl, CT_add h0 hv63_3 hv63_0 hv63_1 hv63_2 h3 (Or.inr (by omega)) _ (by omega), Ft_add hv63_3⟩ | exact ⟨rfl, CT_add h0 hv63_3 hv63_0 hv63_1 hv63_2 h3 (Or.inl (by omega)) _ (by omega), Ft_add hv63_3⟩
                  · replace c79 := cmp_le_f c79
                    refine wp_go 8 hM (fr' := (96, [some (.inr 11), some (.inl a), some (.inl b), some (.inl c), some (.inl z), some (.inl t)], [.inl (t - 1), .inr 22, .inl t, .inr 22], σ1)) rfl ?_
                    refine wp_al (n := 64) hM rfl (by decide) rfl (by omega) (by omega) ?_
                    refine wp_as (n := 64) hM rfl rfl (by omega) (by omega) ?_
                    refine wp_go 2 hM (fr' := (63, [some (.inr 11), some (.inl a), some (.inl b), some (.inl c), some (.inl z), some (.inl (t + (-1)))], [], (mz_up σ1 22 (t).toNat (σ1 22 (t - 1).toNat)))) rfl ?_
                    exact ih63 z (t + (-1)) (mz_up σ1 22 (t).toNat (σ1 22 (t - 1).toNat)) (by omega) (by omega) (by exact hv63_2) (by exact AdI_s hv63_3 (by omega) (by omega) (by omega)) (by omega)
            exact loop63 66 (a * 1024 + b * 32 + c) (σ 11 1) σ (by omega) (by omega) (by first | (exfalso; omega) | (unfold pk nrm; first | rw [if_pos (by omega)] | rw [if_neg (by omega), if_pos (by omega)] | rw [if_neg (by omega), if_neg (by omega)])) (by rw [hT]; exact AdI_0) (by omega)
          · replace c46 := cmp_ge_f c46
            refine wp_go 3 hM (fr' := (52, [some (.inr 11), some (.inl a), some (.inl b), some (.inl c), some (.inl (a * 1024 + b * 32 + c)), none], [.inl b, .inl a, .inl c], σ)) rfl ?_
            refine wp_calld (v := 1) (idx := 29) (j := 52) (N := mtX4_pack) (as := [.inl c, .inl a, .inl b]) (rest := []) hM rfl (Or.inr ⟨rfl, rfl⟩) rfl (sp_X4_pack  σ c a b (by first | assumption | omega) (by first | assumption | omega) (by first | assumption | omega) (by first | assumption | omega) (by first | assumption | omega) (by first | assumption | omega)) ?_
            show mz_Wp shA none 58 (55, [some (.inr 11), some (.inl a), some (.inl b), some (.inl c), some (.inl (a * 1024 + b * 32 + c)), none], [.inl (c * 1024 + a * 32 + b)], σ) _
            refine wp_go 4 hM (fr' := (63, [some (.inr 11), some (.inl a), some (.inl b), some (.inl c), some (.inl (c * 1024 + a * 32 + b)), some (.inl (σ 11 1))], [], σ)) rfl ?_
            have loop63 : ∀ (fuel : Nat) (z : Int) (t : Int) (σ1 : mz_G), (0 ≤ t) → (t ≤ (l.length : Int)) → (z = pk (nrm a b c)) → (AdI σ σ1 (l.length : Int) t z) → ((t : Int) < fuel) → mz_Wp shA none 58 (63, [some (.inr 11), some (.inl a), some (.inl b), some (.inl c), some (.inl z), some (.inl t)], [], σ1) (fun r σ' => r = none ∧ CT σ' (ins (nrm a b c) l) ∧ Ft σ σ') := by
              intro fuel
              induction fuel with
              | zero =>
                intro z t σ1 hv63_0 hv63_1 hv63_2 hv63_3 hf63
                exfalso
                omega
              | succ fuel ih63 =>
                intro z t σ1 hv63_0 hv63_1 hv63_2 hv63_3 hf63
                have hnr := pk_32 (nrm_rg (n := 32) ⟨h4, h5⟩ ⟨h6, h7⟩ ⟨h8, h9⟩)
                have hT1 : σ1 11 1 = (l.length : Int) := by rw [hv63_3.2.2.2 11 1 (by decide)]; exact hT
                refine wp_go 1 hM (fr' := (65, [some (.inr 11), some (.inl a), some (.inl b), some (.inl c), some (.inl z), some (.inl t)], [.inl t], σ1)) rfl ?_
                refine wp_if (tgt := 104) hM rfl (by decide) (by omega) (fun c65 => ?_) (fun c65 => ?_)
                · replace c65 := cmp_le_t c65
                  refine wp_go 4 hM (fr' := (112, [some (.inr 11), some (.inl a), some (.inl b), some (.inl c), some (.inl z), some (.inl t)], [.inl z, .inl t, .inr 22], σ1)) rfl ?_
                  refine wp_as (n := 64) hM rfl rfl (by omega) (by omega) ?_
                  refine wp_go 6 hM (fr' := (123, [some (.inr 11), some (.inl a), some (.inl b), some (.inl c), some (.inl z), some (.inl t)], [], (mz_up (mz_up σ1 22 (t).toNat z) 11 1 ((σ1 11 1) + 1)))) rfl ?_
                  refine wp_retv hM rfl rfl ?_
                  first | exact ⟨rfl, CT_add h0 hv63_3 hv63_0 hv63_1 hv63_2 h3 (Or.inr (by omega)) _ (by omega), Ft_add hv63_3⟩ | exact ⟨rfl, CT_add h0 hv63_3 hv63_0 hv63_1 hv63_2 h3 (Or.inl (by omega)) _ (by omega), Ft_add hv63_3⟩
                · replace c65 := cmp_le_f c65
                  have hrd : σ1 22 (t - 1).toNat = pk (tg l (t - 1)) := by rw [hv63_3.1 _ (by omega)]; exact CT_at h0 (by omega) (by omega)
                  have hpb := pk_32 (Rt_at h1 (show 0 ≤ t - 1 by omega) (show t - 1 < (l.length : Int) by omega))
                  refine wp_go 5 hM (fr' := (76, [some (.inr 11), some (.inl a), some (.inl b), some (.inl c), some (.inl z), some (.inl t)], [.inl (t - 1), .inr 22], σ1)) rfl ?_
                  refine wp_al (n := 64) hM rfl (by decide) rfl (by omega) (by omega) ?_
                  refine wp_go 1 hM (fr' := (79, [some (.inr 11), some (.inl a), some (.inl b), some (.inl c), some (.inl z), some (.inl t)], [.inl z, .inl (σ1 22 (t - 1).toNat)], σ1)) rfl ?_
                  refine wp_ic (tgt := 104) hM rfl (by decide) (by rw [hrd]; constructor <;> omega) (by omega) (fun c79 => ?_) (fun c79 => ?_)
                  · replace c79 := cmp_le_t c79
                    refine wp_go 4 hM (fr' := (112, [some (.inr 11), some (.inl a), some (.inl b), some (.inl c), some (.inl z), some (.inl t)], [.inl z, .inl t, .inr 22], σ1)) rfl ?_
                    refine wp_as (n := 64) hM rfl rfl (by omega) (by omega) ?_
                    refine wp_go 6 hM (fr' := (123, [some (.inr 11), some (.inl a), some (.inl b), some (.inl c), some (.inl z), some (.inl t)], [], (mz_up (mz_up σ1 22 (t).toNat z) 11 1 ((σ1 11 1) + 1)))) rfl ?_
                    refine wp_retv hM rfl rfl ?_
                    first | exact ⟨rfl, CT_add h0 hv63_3 hv63_0 hv63_1 hv63_2 h3 (Or.inr (by omega)) _ (by omega), Ft_add hv63_3⟩ | exact ⟨rfl, CT_add h0 hv63_3 hv63_0 hv63_1 hv63_2 h3 (Or.inl (by omega)) _ (by omega), Ft_add hv63_3⟩
                  · replace c79 := cmp_le_f c79
                    refine wp_go 8 hM (fr' := (96, [some (.inr 11), some (.inl a), some (.inl b), some (.inl c), some (.inl z), some (.inl t)], [.inl (t - 1), .inr 22, .inl t, .inr 22], σ1)) rfl ?_
                    refine wp_al (n := 64) hM rfl (by decide) rfl (by omega) (by omega) ?_
                    refine wp_as (n := 64) hM rfl rfl (by omega) (by omega) ?_
                    refine wp_go 2 hM (fr' := (63, [some (.inr 11), some (.inl a), some (.inl b), some (.inl c), some (.inl z), some (.inl (t + (-1)))], [], (mz_up σ1 22 (t).toNat (σ1 22 (t - 1).toNat)))) rfl ?_
                    exact ih63 z (t + (-1)) (mz_up σ1 22 (t).toNat (σ1 22 (t - 1).toNat)) (by omega) (by omega) (by exact hv63_2) (by exact AdI_s hv63_3 (by omega) (by omega) (by omega)) (by omega)
            exact loop63 66 (c * 1024 + a * 32 + b) (σ 11 1) σ (by omega) (by omega) (by first | (exfalso; omega) | (unfold pk nrm; first | rw [if_pos (by omega)] | rw [if_neg (by omega), if_pos (by omega)] | rw [if_neg (by omega), if_neg (by omega)])) (by rw [hT]; exact AdI_0) (by omega)
      · replace c25 := cmp_ge_f c25
        refine wp_go 3 hM (fr' := (31, [some (.inr 11), some (.inl a), some (.inl b), some (.inl c), some (.inl (a * 1024 + b * 32 + c)), none], [.inl a, .inl c, .inl b], σ)) rfl ?_
        refine wp_calld (v := 1) (idx := 29) (j := 52) (N := mtX4_pack) (as := [.inl b, .inl c, .inl a]) (rest := []) hM rfl (Or.inr ⟨rfl, rfl⟩) rfl (sp_X4_pack  σ b c a (by first | assumption | omega) (by first | assumption | omega) (by first | assumption | omega) (by first | assumption | omega) (by first | assumption | omega) (by first | assumption | omega)) ?_
        show mz_Wp shA none 58 (34, [some (.inr 11), some (.inl a), some (.inl b), some (.inl c), some (.inl (a * 1024 + b * 32 + c)), none], [.inl (b * 1024 + c * 32 + a)], σ) _
        refine wp_go 5 hM (fr' := (63, [some (.inr 11), some (.inl a), some (.inl b), some (.inl c), some (.inl (b * 1024 + c * 32 + a)), some (.inl (σ 11 1))], [], σ)) rfl ?_
        have loop63 : ∀ (fuel : Nat) (z : Int) (t : Int) (σ1 : mz_G), (0 ≤ t) → (t ≤ (l.length : Int)) → (z = pk (nrm a b c)) → (AdI σ σ1 (l.length : Int) t z) → ((t : Int) < fuel) → mz_Wp shA none 58 (63, [some (.inr 11), some (.inl a), some (.inl b), some (.inl c), some (.inl z), some (.inl t)], [], σ1) (fun r σ' => r = none ∧ CT σ' (ins (nrm a b c) l) ∧ Ft σ σ') := by
          intro fuel
          induction fuel with
          | zero =>
            intro z t σ1 hv63_0 hv63_1 hv63_2 hv63_3 hf63
            exfalso
            omega
          | succ fuel ih63 =>
            intro z t σ1 hv63_0 hv63_1 hv63_2 hv63_3 hf63
            have hnr := pk_32 (nrm_rg (n := 32) ⟨h4, h5⟩ ⟨h6, h7⟩ ⟨h8, h9⟩)
            have hT1 : σ1 11 1 = (l.length : Int) := by rw [hv63_3.2.2.2 11 1 (by decide)]; exact hT
            refine wp_go 1 hM (fr' := (65, [some (.inr 11), some (.inl a), some (.inl b), some (.inl c), some (.inl z), some (.inl t)], [.inl t], σ1)) rfl ?_
            refine wp_if (tgt := 104) hM rfl (by decide) (by omega) (fun c65 => ?_) (fun c65 => ?_)
            · replace c65 := cmp_le_t c65
              refine wp_go 4 hM (fr' := (112, [some (.inr 11), some (.inl a), some (.inl b), some (.inl c), some (.inl z), some (.inl t)], [.inl z, .inl t, .inr 22], σ1)) rfl ?_
              refine wp_as (n := 64) hM rfl rfl (by omega) (by omega) ?_
              refine wp_go 6 hM (fr' := (123, [some (.inr 11), some (.inl a), some (.inl b), some (.inl c), some (.inl z), some (.inl t)], [], (mz_up (mz_up σ1 22 (t).toNat z) 11 1 ((σ1 11 1) + 1)))) rfl ?_
              refine wp_retv hM rfl rfl ?_
              first | exact ⟨rfl, CT_add h0 hv63_3 hv63_0 hv63_1 hv63_2 h3 (Or.inr (by omega)) _ (by omega), Ft_add hv63_3⟩ | exact ⟨rfl, CT_add h0 hv63_3 hv63_0 hv63_1 hv63_2 h3 (Or.inl (by omega)) _ (by omega), Ft_add hv63_3⟩
            · replace c65 := cmp_le_f c65
              have hrd : σ1 22 (t - 1).toNat = pk (tg l (t - 1)) := by rw [hv63_3.1 _ (by omega)]; exact CT_at h0 (by omega) (by omega)
              have hpb := pk_32 (Rt_at h1 (show 0 ≤ t - 1 by omega) (show t - 1 < (l.length : Int) by omega))
              refine wp_go 5 hM (fr' := (76, [some (.inr 11), some (.inl a), some (.inl b), some (.inl c), some (.inl z), some (.inl t)], [.inl (t - 1), .inr 22], σ1)) rfl ?_
              refine wp_al (n := 64) hM rfl (by decide) rfl (by omega) (by omega) ?_
              refine wp_go 1 hM (fr' := (79, [some (.inr 11), some (.inl a), some (.inl b), some (.inl c), some (.inl z), some (.inl t)], [.inl z, .inl (σ1 22 (t - 1).toNat)], σ1)) rfl ?_
              refine wp_ic (tgt := 104) hM rfl (by decide) (by rw [hrd]; constructor <;> omega) (by omega) (fun c79 => ?_) (fun c79 => ?_)
              · replace c79 := cmp_le_t c79
                refine wp_go 4 hM (fr' := (112, [some (.inr 11), some (.inl a), some (.inl b), some (.inl c), some (.inl z), some (.inl t)], [.inl z, .inl t, .inr 22], σ1)) rfl ?_
                refine wp_as (n := 64) hM rfl rfl (by omega) (by omega) ?_
                refine wp_go 6 hM (fr' := (123, [some (.inr 11), some (.inl a), some (.inl b), some (.inl c), some (.inl z), some (.inl t)], [], (mz_up (mz_up σ1 22 (t).toNat z) 11 1 ((σ1 11 1) + 1)))) rfl ?_
                refine wp_retv hM rfl rfl ?_
                first | exact ⟨rfl, CT_add h0 hv63_3 hv63_0 hv63_1 hv63_2 h3 (Or.inr (by omega)) _ (by omega), Ft_add hv63_3⟩ | exact ⟨rfl, CT_add h0 hv63_3 hv63_0 hv63_1 hv63_2 h3 (Or.inl (by omega)) _ (by omega), Ft_add hv63_3⟩
              · replace c79 := cmp_le_f c79
                refine wp_go 8 hM (fr' := (96, [some (.inr 11), some (.inl a), some (.inl b), some (.inl c), some (.inl z), some (.inl t)], [.inl (t - 1), .inr 22, .inl t, .inr 22], σ1)) rfl ?_
                refine wp_al (n := 64) hM rfl (by decide) rfl (by omega) (by omega) ?_
                refine wp_as (n := 64) hM rfl rfl (by omega) (by omega) ?_
                refine wp_go 2 hM (fr' := (63, [some (.inr 11), some (.inl a), some (.inl b), some (.inl c), some (.inl z), some (.inl (t + (-1)))], [], (mz_up σ1 22 (t).toNat (σ1 22 (t - 1).toNat)))) rfl ?_
                exact ih63 z (t + (-1)) (mz_up σ1 22 (t).toNat (σ1 22 (t - 1).toNat)) (by omega) (by omega) (by exact hv63_2) (by exact AdI_s hv63_3 (by omega) (by omega) (by omega)) (by omega)
        exact loop63 66 (b * 1024 + c * 32 + a) (σ 11 1) σ (by omega) (by omega) (by first | (exfalso; omega) | (unfold pk nrm; first | rw [if_pos (by omega)] | rw [if_neg (by omega), if_pos (by omega)] | rw [if_neg (by omega), if_neg (by omega)])) (by rw [hT]; exact AdI_0) (by omega)
  · replace c6 := cmp_lt_f c6
    omega

set_option maxRecDepth 100000 in
set_option maxHeartbeats 4000000 in
theorem sp_X4_remove (l : List tr3) (σ : mz_G) (t : Int) (h0 : CT σ l) (h1 : Rt 32 l) (h2 : (l.length : Int) ≤ 64) (h3 : 0 ≤ t) (h4 : t < (l.length : Int)) : mz_Cl shA 59 [.inr 11, .inl t] σ (fun r σ' => r = none ∧ CT σ' (l.eraseIdx (t).toNat) ∧ Ft σ σ') := by
  have hM : mz_meth[59]? = some mtX4_remove := rfl
  have hT := h0.1
  refine mz_Cl.of hM ?_
  show mz_Wp shA none 59 (0, [some (.inr 11), some (.inl t), none], [], σ) _
  refine wp_go 2 hM (fr' := (2, [some (.inr 11), some (.inl t), none], [.inl t, .inr 11], σ)) rfl ?_
  refine wp_calld (v := 0) (idx := 33) (j := 53) (N := mtX4_isOne) (as := [.inr 11, .inl t]) (rest := []) hM rfl (Or.inl ⟨rfl, rfl⟩) rfl (sp_X4_isOne  σ t (by first | assumption | omega) (by first | assumption | omega)) ?_
  show mz_Wp shA none 59 (5, [some (.inr 11), some (.inl t), none], [.inl (b01 (0 ≤ t ∧ t < σ 11 1))], σ) _
  refine wp_if (tgt := 9) hM rfl (by decide) b01_R (fun c5 => ?_) (fun c5 => ?_)
  · replace c5 := b01_ne0 (cmp_ne_t c5)
    refine wp_go 2 hM (fr' := (11, [some (.inr 11), some (.inl t), some (.inl t)], [], σ)) rfl ?_
    have loop11 : ∀ (fuel : Nat) (i : Int) (σ1 : mz_G), (t ≤ i) → (i ≤ (l.length : Int) - 1) → (RmI σ σ1 t i) → (((l.length : Int) - i : Int) < fuel) → mz_Wp shA none 59 (11, [some (.inr 11), some (.inl t), some (.inl i)], [], σ1) (fun r σ' => r = none ∧ CT σ' (l.eraseIdx (t).toNat) ∧ Ft σ σ') := by
      intro fuel
      induction fuel with
      | zero =>
        intro i σ1 hv11_0 hv11_1 hv11_2 hf11
        exfalso
        omega
      | succ fuel ih11 =>
        intro i σ1 hv11_0 hv11_1 hv11_2 hf11
        have hT1 : σ1 11 1 = (l.length : Int) := by rw [hv11_2.2.2 11 1 (by decide)]; exact hT
        refine wp_go 5 hM (fr' := (18, [some (.inr 11), some (.inl t), some (.inl i)], [.inl ((σ1 11 1) - 1), .inl i], σ1)) rfl ?_
        refine wp_ic (tgt := 41) hM rfl (by decide) (by omega) (by omega) (fun c18 => ?_) (fun c18 => ?_)
        · replace c18 := cmp_ge_t c18
          refine wp_go 6 hM (fr' := (51, [some (.inr 11), some (.inl t), some (.inl i)], [], (mz_up σ1 11 1 ((σ1 11 1) - 1)))) rfl ?_
          refine wp_retv hM rfl rfl ?_
          exact ⟨rfl, CT_rem h0 hv11_2 h3 h4 (by omega) _ (by omega), Ft_rem hv11_2⟩
        · replace c18 := cmp_ge_f c18
          refine wp_go 8 hM (fr' := (33, [some (.inr 11), some (.inl t), some (.inl i)], [.inl (i + 1), .inr 22, .inl i, .inr 22], σ1)) rfl ?_
          refine wp_al (n := 64) hM rfl (by decide) rfl (by omega) (by omega) ?_
          refine wp_as (n := 64) hM rfl rfl (by omega) (by omega) ?_
          refine wp_go 2 hM (fr' := (11, [some (.inr 11), some (.inl t), some (.inl (i + 1))], [], (mz_up σ1 22 (i).toNat (σ1 22 (i + 1).toNat)))) rfl ?_
          exact ih11 (i + 1) (mz_up σ1 22 (i).toNat (σ1 22 (i + 1).toNat)) (by omega) (by omega) (by exact RmI_s hv11_2 h3 hv11_0) (by omega)
    exact loop11 66 t σ (by omega) (by omega) (by exact RmI_0) (by omega)
  · replace c5 := b01_eq0 (cmp_ne_f c5)
    omega

set_option maxRecDepth 100000 in
set_option maxHeartbeats 4000000 in
theorem sp_X4_closed  (σ : mz_G) (a : Int) (k : Int) (h0 : mz_R a) (h1 : mz_R k) : mz_Cl shA 63 [.inl a, .inl k] σ (fun r σ' => r = some (dn k a) ∧ σ' = σ) := by
  have hM : mz_meth[63]? = some mtX4_closed := rfl
  refine mz_Cl.of hM ?_
  show mz_Wp shA none 63 (0, [some (.inl a), some (.inl k)], [], σ) _
  refine wp_go 2 hM (fr' := (2, [some (.inl a), some (.inl k)], [.inl k, .inl a], σ)) rfl ?_
  refine wp_ic (tgt := 11) hM rfl (by decide) (by omega) (by omega) (fun c2 => ?_) (fun c2 => ?_)
  · replace c2 := cmp_le_t c2
    refine wp_go 1 hM (fr' := (12, [some (.inl a), some (.inl k)], [.inl a], σ)) rfl ?_
    refine wp_ret hM rfl (rfl) ?_
    exact ⟨by unfold dn; first | rw [if_pos (by omega)] | rw [if_neg (by omega)], rfl⟩
  · replace c2 := cmp_le_f c2
    refine wp_go 4 hM (fr' := (12, [some (.inl a), some (.inl k)], [.inl (a - 1)], σ)) rfl ?_
    refine wp_ret hM rfl (rfl) ?_
    exact ⟨by unfold dn; first | rw [if_pos (by omega)] | rw [if_neg (by omega)], rfl⟩

set_option maxRecDepth 100000 in
set_option maxHeartbeats 4000000 in
theorem sp_X4_close (l : List tr3) (σ : mz_G) (k : Int) (h0 : CT σ l) (h1 : Rt 32 l) (h2 : (l.length : Int) ≤ 64) (h3 : 0 ≤ k) (h4 : k < 32) : mz_Cl shA 62 [.inr 11, .inl k] σ (fun r σ' => r = none ∧ CT σ' (l.map (cl1 k)) ∧ Ft σ σ') := by
  have hM : mz_meth[62]? = some mtX4_close := rfl
  have hT := h0.1
  refine mz_Cl.of hM ?_
  show mz_Wp shA none 62 (0, [some (.inr 11), some (.inl k), none], [], σ) _
  refine wp_go 2 hM (fr' := (2, [some (.inr 11), some (.inl k), some (.inl 0)], [], σ)) rfl ?_
  have loop2 : ∀ (fuel : Nat) (t : Int) (σ1 : mz_G), (0 ≤ t) → (t ≤ (l.length : Int)) → (CT σ1 (clT k l t)) → (Ft σ σ1) → (((l.length : Int) - t : Int) < fuel) → mz_Wp shA none 62 (2, [some (.inr 11), some (.inl k), some (.inl t)], [], σ1) (fun r σ' => r = none ∧ CT σ' (l.map (cl1 k)) ∧ Ft σ σ') := by
    intro fuel
    induction fuel with
    | zero =>
      intro t σ1 hv2_0 hv2_1 hv2_2 hv2_3 hf2
      exfalso
      omega
    | succ fuel ih2 =>
      intro t σ1 hv2_0 hv2_1 hv2_2 hv2_3 hf2
      have hT1 : σ1 11 1 = (l.length : Int) := by rw [hv2_2.1, clT_len]
      have hR1 := clT_Rt (t := t) h1 h3
      have hl1 : ((clT k l t).length : Int) = (l.length : Int) := by rw [clT_len]
      refine wp_go 3 hM (fr' := (7, [some (.inr 11), some (.inl k), some (.inl t)], [.inl (σ1 11 1), .inl t], σ1)) rfl ?_
      refine wp_ic (tgt := 52) hM rfl (by decide) (by omega) (by omega) (fun c7 => ?_) (fun c7 => ?_)
      · replace c7 := cmp_ge_t c7
        refine wp_retv hM rfl rfl ?_
        exact ⟨rfl, by rw [← clT_all (t := t) (by omega)]; exact hv2_2, hv2_3⟩
      · replace c7 := cmp_ge_f c7
        have hg := clT_get (k := k) hv2_0 (show t < (l.length : Int) by omega)
        have hx := Rt_at h1 hv2_0 (show t < (l.length : Int) by omega)
        have hd1 : 0 ≤ dn k (tg l t).1 ∧ dn k (tg l t).1 < 32 := by unfold dn; split <;> omega
        have hd2 : 0 ≤ dn k (tg l t).2.1 ∧ dn k (tg l t).2.1 < 32 := by unfold dn; split <;> omega
        have hd3 : 0 ≤ dn k (tg l t).2.2 ∧ dn k (tg l t).2.2 < 32 := by unfold dn; split <;> omega
        refine wp_go 5 hM (fr' := (17, [some (.inr 11), some (.inl k), some (.inl t)], [.inl t, .inr 11, .inl t, .inr 22], σ1)) rfl ?_
        refine wp_calld (v := 0) (idx := 19) (j := 54) (N := mtX4_first) (as := [.inr 11, .inl t]) (rest := [.inl t, .inr 22]) hM rfl (Or.inl ⟨rfl, rfl⟩) rfl (sp_X4_first_c (clT k l t) σ1 t (by first | assumption | omega) (by first | assumption | omega) (by first | assumption | omega) (by first | assumption | omega) (by first | assumption | omega)) ?_
        show mz_Wp shA none 62 (20, [some (.inr 11), some (.inl k), some (.inl t)], [.inl ((tg (clT k l t) t).1), .inl t, .inr 22], σ1) _
        rw [hg]
        refine wp_go 1 hM (fr' := (21, [some (.inr 11), some (.inl k), some (.inl t)], [.inl k, .inl ((tg l t).1), .inl t, .inr 22], σ1)) rfl ?_
        refine wp_calld (v := 1) (idx := 41) (j := 63) (N := mtX4_closed) (as := [.inl ((tg l t).1), .inl k]) (rest := [.inl t, .inr 22]) hM rfl (Or.inr ⟨rfl, rfl⟩) rfl (sp_X4_closed  σ1 ((tg l t).1) k (by first | assumption | omega) (by first | assumption | omega)) ?_
        show mz_Wp shA none 62 (24, [some (.inr 11), some (.inl k), some (.inl t)], [.inl (dn k ((tg l t).1)), .inl t, .inr 22], σ1) _
        refine wp_go 2 hM (fr' := (26, [some (.inr 11), some (.inl k), some (.inl t)], [.inl t, .inr 11, .inl (dn k ((tg l t).1)), .inl t, .inr 22], σ1)) rfl ?_
        refine wp_calld (v := 0) (idx := 23) (j := 55) (N := mtX4_second) (as := [.inr 11, .inl t]) (rest := [.inl (dn k ((tg l t).1)), .inl t, .inr 22]) hM rfl (Or.inl ⟨rfl, rfl⟩) rfl (sp_X4_second_c (clT k l t) σ1 t (by first | assumption | omega) (by first | assumption | omega) (by first | assumption | omega) (by first | assumption | omega) (by first | assumption | omega)) ?_
        show mz_Wp shA none 62 (29, [some (.inr 11), some (.inl k), some (.inl t)], [.inl ((tg (clT k l t) t).2.1), .inl (dn k ((tg l t).1)), .inl t, .inr 22], σ1) _
        rw [hg]
        refine wp_go 1 hM (fr' := (30, [some (.inr 11), some (.inl k), some (.inl t)], [.inl k, .inl ((tg l t).2.1), .inl (dn k ((tg l t).1)), .inl t, .inr 22], σ1)) rfl ?_
        refine wp_calld (v := 1) (idx := 41) (j := 63) (N := mtX4_closed) (as := [.inl ((tg l t).2.1), .inl k]) (rest := [.inl (dn k ((tg l t).1)), .inl t, .inr 22]) hM rfl (Or.inr ⟨rfl, rfl⟩) rfl (sp_X4_closed  σ1 ((tg l t).2.1) k (by first | assumption | omega) (by first | assumption | omega)) ?_
        show mz_Wp shA none 62 (33, [some (.inr 11), some (.inl k), some (.inl t)], [.inl (dn k ((tg l t).2.1)), .inl (dn k ((tg l t).1)), .inl t, .inr 22], σ1) _
        refine wp_go 2 hM (fr' := (35, [some (.inr 11), some (.inl k), some (.inl t)], [.inl t, .inr 11, .inl (dn k ((tg l t).2.1)), .inl (dn k ((tg l t).1)), .inl t, .inr 22], σ1)) rfl ?_
        refine wp_calld (v := 0) (idx := 26) (j := 56) (N := mtX4_third) (as := [.inr 11, .inl t]) (rest := [.inl (dn k ((tg l t).2.1)), .inl (dn k ((tg l t).1)), .inl t, .inr 22]) hM rfl (Or.inl ⟨rfl, rfl⟩) rfl (sp_X4_third_c (clT k l t) σ1 t (by first | assumption | omega) (by first | assumption | omega) (by first | assumption | omega) (by first | assumption | omega) (by first | assumption | omega)) ?_
        show mz_Wp shA none 62 (38, [some (.inr 11), some (.inl k), some (.inl t)], [.inl ((tg (clT k l t) t).2.2), .inl (dn k ((tg l t).2.1)), .inl (dn k ((tg l t).1)), .inl t, .inr 22], σ1) _
        rw [hg]
        refine wp_go 1 hM (fr' := (39, [some (.inr 11), some (.inl k), some (.inl t)], [.inl k, .inl ((tg l t).2.2), .inl (dn k ((tg l t).2.1)), .inl (dn k ((tg l t).1)), .inl t, .inr 22], σ1)) rfl ?_
        refine wp_calld (v := 1) (idx := 41) (j := 63) (N := mtX4_closed) (as := [.inl ((tg l t).2.2), .inl k]) (rest := [.inl (dn k ((tg l t).2.1)), .inl (dn k ((tg l t).1)), .inl t, .inr 22]) hM rfl (Or.inr ⟨rfl, rfl⟩) rfl (sp_X4_closed  σ1 ((tg l t).2.2) k (by first | assumption | omega) (by first | assumption | omega)) ?_
        show mz_Wp shA none 62 (42, [some (.inr 11), some (.inl k), some (.inl t)], [.inl (dn k ((tg l t).2.2)), .inl (dn k ((tg l t).2.1)), .inl (dn k ((tg l t).1)), .inl t, .inr 22], σ1) _
        refine wp_calld (v := 1) (idx := 29) (j := 52) (N := mtX4_pack) (as := [.inl (dn k ((tg l t).1)), .inl (dn k ((tg l t).2.1)), .inl (dn k ((tg l t).2.2))]) (rest := [.inl t, .inr 22]) hM rfl (Or.inr ⟨rfl, rfl⟩) rfl (sp_X4_pack  σ1 (dn k ((tg l t).1)) (dn k ((tg l t).2.1)) (dn k ((tg l t).2.2)) (by first | assumption | omega) (by first | assumption | omega) (by first | assumption | omega) (by first | assumption | omega) (by first | assumption | omega) (by first | assumption | omega)) ?_
        show mz_Wp shA none 62 (45, [some (.inr 11), some (.inl k), some (.inl t)], [.inl ((dn k ((tg l t).1)) * 1024 + (dn k ((tg l t).2.1)) * 32 + (dn k ((tg l t).2.2))), .inl t, .inr 22], σ1) _
        refine wp_as (n := 64) hM rfl rfl (by omega) (by omega) ?_
        refine wp_go 2 hM (fr' := (2, [some (.inr 11), some (.inl k), some (.inl (t + 1))], [], (mz_up σ1 22 (t).toNat ((dn k ((tg l t).1)) * 1024 + (dn k ((tg l t).2.1)) * 32 + (dn k ((tg l t).2.2)))))) rfl ?_
        exact ih2 (t + 1) (mz_up σ1 22 (t).toNat ((dn k ((tg l t).1)) * 1024 + (dn k ((tg l t).2.1)) * 32 + (dn k ((tg l t).2.2)))) (by omega) (by omega) (by exact CT_cl hv2_2 hv2_0 (by omega) rfl) (by exact fun c i a b => by rw [up_ne a]; exact hv2_3 c i a b) (by omega)
  exact loop2 66 0 σ (by omega) (by omega) (by rw [clT_0]; exact h0) (by exact Ft.rf) (by omega)

set_option maxRecDepth 100000 in
set_option maxHeartbeats 4000000 in
theorem sp_X2_close_8  (σ : mz_G) (k : Int) (h0 : 0 ≤ k) (h1 : k ≤ 31) : mz_Cl shA 47 [.inr 8, .inl k] σ (fun r σ' => r = none ∧ PcI σ σ' 16 17 k 31) := by
  have hM : mz_meth[47]? = some mtX2_close := rfl
  refine mz_Cl.of hM ?_
  show mz_Wp shA none 47 (0, [some (.inr 8), some (.inl k), none], [], σ) _
  refine wp_go 2 hM (fr' := (2, [some (.inr 8), some (.inl k), none], [.inl 0, .inl k], σ)) rfl ?_
  refine wp_calld (v := 1) (idx := 22) (j := 180) (N := mtJ9_max_7cf53) (as := [.inl k, .inl 0]) (rest := []) hM rfl (Or.inr ⟨rfl, rfl⟩) rfl (sp_J9_max_7cf53  σ k 0 (by first | assumption | omega) (by first | assumption | omega)) ?_
  show mz_Wp shA none 47 (5, [some (.inr 8), some (.inl k), none], [.inl (max k 0)], σ) _
  rw [show max k 0 = k from by omega]
  refine wp_go 1 hM (fr' := (6, [some (.inr 8), some (.inl k), some (.inl k)], [], σ)) rfl ?_
  have loop6 : ∀ (fuel : Nat) (i : Int) (σ1 : mz_G), (k ≤ i) → (i ≤ 31) → (PcI σ σ1 16 17 k i) → ((31 - i : Int) < fuel) → mz_Wp shA none 47 (6, [some (.inr 8), some (.inl k), some (.inl i)], [], σ1) (fun r σ' => r = none ∧ PcI σ σ' 16 17 k 31) := by
    intro fuel
    induction fuel with
    | zero =>
      intro i σ1 hv6_0 hv6_1 hv6_2 hf6
      exfalso
      omega
    | succ fuel ih6 =>
      intro i σ1 hv6_0 hv6_1 hv6_2 hf6
      refine wp_go 2 hM (fr' := (9, [some (.inr 8), some (.inl k), some (.inl i)], [.inl 31, .inl i], σ1)) rfl ?_
      refine wp_ic (tgt := 46) hM rfl (by decide) (by omega) (by omega) (fun c9 => ?_) (fun c9 => ?_)
      · replace c9 := cmp_ge_t c9
        refine wp_retv hM rfl rfl ?_
        exact ⟨rfl, by rw [show i = 31 from by omega] at hv6_2; exact hv6_2⟩
      · replace c9 := cmp_ge_f c9
        refine wp_go 8 hM (fr' := (24, [some (.inr 8), some (.inl k), some (.inl i)], [.inl (i + 1), .inr 16, .inl i, .inr 16], σ1)) rfl ?_
        refine wp_al (n := 32) hM rfl (by decide) rfl (by omega) (by omega) ?_
        refine wp_as (n := 32) hM rfl rfl (by omega) (by omega) ?_
        refine wp_go 8 hM (fr' := (38, [some (.inr 8), some (.inl k), some (.inl i)], [.inl (i + 1), .inr 17, .inl i, .inr 17], (mz_up σ1 16 (i).toNat (σ1 16 (i + 1).toNat)))) rfl ?_
        refine wp_al (n := 32) hM rfl (by decide) rfl (by omega) (by omega) ?_
        show mz_Wp shA none 47 (39, [some (.inr 8), some (.inl k), some (.inl i)], [.inl (σ1 17 (i + 1).toNat), .inl i, .inr 17], (mz_up σ1 16 (i).toNat (σ1 16 (i + 1).toNat))) _
        refine wp_as (n := 32) hM rfl rfl (by omega) (by omega) ?_
        refine wp_go 2 hM (fr' := (6, [some (.inr 8), some (.inl k), some (.inl (i + 1))], [], (mz_up (mz_up σ1 16 (i).toNat (σ1 16 (i + 1).toNat)) 17 (i).toNat (σ1 17 (i + 1).toNat)))) rfl ?_
        exact ih6 (i + 1) (mz_up (mz_up σ1 16 (i).toNat (σ1 16 (i + 1).toNat)) 17 (i).toNat (σ1 17 (i + 1).toNat)) (by omega) (by omega) (by exact PcI_s (by decide) hv6_2 h0 hv6_0) (by omega)
  exact loop6 33 k σ (by omega) (by omega) (by exact PcI_0) (by omega)

set_option maxRecDepth 100000 in
set_option maxHeartbeats 4000000 in
theorem sp_X2_close_9  (σ : mz_G) (k : Int) (h0 : 0 ≤ k) (h1 : k ≤ 31) : mz_Cl shA 47 [.inr 9, .inl k] σ (fun r σ' => r = none ∧ PcI σ σ' 18 19 k 31) := by
  have hM : mz_meth[47]? = some mtX2_close := rfl
  refine mz_Cl.of hM ?_
  show mz_Wp shA none 47 (0, [some (.inr 9), some (.inl k), none], [], σ) _
  refine wp_go 2 hM (fr' := (2, [some (.inr 9), some (.inl k), none], [.inl 0, .inl k], σ)) rfl ?_
  refine wp_calld (v := 1) (idx := 22) (j := 180) (N := mtJ9_max_7cf53) (as := [.inl k, .inl 0]) (rest := []) hM rfl (Or.inr ⟨rfl, rfl⟩) rfl (sp_J9_max_7cf53  σ k 0 (by first | assumption | omega) (by first | assumption | omega)) ?_
  show mz_Wp shA none 47 (5, [some (.inr 9), some (.inl k), none], [.inl (max k 0)], σ) _
  rw [show max k 0 = k from by omega]
  refine wp_go 1 hM (fr' := (6, [some (.inr 9), some (.inl k), some (.inl k)], [], σ)) rfl ?_
  have loop6 : ∀ (fuel : Nat) (i : Int) (σ1 : mz_G), (k ≤ i) → (i ≤ 31) → (PcI σ σ1 18 19 k i) → ((31 - i : Int) < fuel) → mz_Wp shA none 47 (6, [some (.inr 9), some (.inl k), some (.inl i)], [], σ1) (fun r σ' => r = none ∧ PcI σ σ' 18 19 k 31) := by
    intro fuel
    induction fuel with
    | zero =>
      intro i σ1 hv6_0 hv6_1 hv6_2 hf6
      exfalso
      omega
    | succ fuel ih6 =>
      intro i σ1 hv6_0 hv6_1 hv6_2 hf6
      refine wp_go 2 hM (fr' := (9, [some (.inr 9), some (.inl k), some (.inl i)], [.inl 31, .inl i], σ1)) rfl ?_
      refine wp_ic (tgt := 46) hM rfl (by decide) (by omega) (by omega) (fun c9 => ?_) (fun c9 => ?_)
      · replace c9 := cmp_ge_t c9
        refine wp_retv hM rfl rfl ?_
        exact ⟨rfl, by rw [show i = 31 from by omega] at hv6_2; exact hv6_2⟩
      · replace c9 := cmp_ge_f c9
        refine wp_go 8 hM (fr' := (24, [some (.inr 9), some (.inl k), some (.inl i)], [.inl (i + 1), .inr 18, .inl i, .inr 18], σ1)) rfl ?_
        refine wp_al (n := 32) hM rfl (by decide) rfl (by omega) (by omega) ?_
        refine wp_as (n := 32) hM rfl rfl (by omega) (by omega) ?_
        refine wp_go 8 hM (fr' := (38, [some (.inr 9), some (.inl k), some (.inl i)], [.inl (i + 1), .inr 19, .inl i, .inr 19], (mz_up σ1 18 (i).toNat (σ1 18 (i + 1).toNat)))) rfl ?_
        refine wp_al (n := 32) hM rfl (by decide) rfl (by omega) (by omega) ?_
        show mz_Wp shA none 47 (39, [some (.inr 9), some (.inl k), some (.inl i)], [.inl (σ1 19 (i + 1).toNat), .inl i, .inr 19], (mz_up σ1 18 (i).toNat (σ1 18 (i + 1).toNat))) _
        refine wp_as (n := 32) hM rfl rfl (by omega) (by omega) ?_
        refine wp_go 2 hM (fr' := (6, [some (.inr 9), some (.inl k), some (.inl (i + 1))], [], (mz_up (mz_up σ1 18 (i).toNat (σ1 18 (i + 1).toNat)) 19 (i).toNat (σ1 19 (i + 1).toNat)))) rfl ?_
        exact ih6 (i + 1) (mz_up (mz_up σ1 18 (i).toNat (σ1 18 (i + 1).toNat)) 19 (i).toNat (σ1 19 (i + 1).toNat)) (by omega) (by omega) (by exact PcI_s (by decide) hv6_2 h0 hv6_0) (by omega)
  exact loop6 33 k σ (by omega) (by omega) (by exact PcI_0) (by omega)
