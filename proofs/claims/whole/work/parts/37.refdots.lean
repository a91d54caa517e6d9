set_option maxRecDepth 100000 in
set_option maxHeartbeats 4000000 in
theorem sp_X6_trianglesOf (v : mz_G) (l : List tr3) (σ : mz_G) (k : Int) (h0 : MA σ v l) (h1 : Bs v l) (h2 : mz_R k) (h3 : Dst l) : mz_Cl shM 135 [.inr 30, .inl k] σ (fun r σ' => r = some (dgr l k) ∧ σ' = σ) := by
  have hM : mz_meth[135]? = some mtX6_trianglesOf := rfl
  obtain ⟨hR, hT, hLen⟩ := id h1
  obtain ⟨⟨hW0, hW1⟩, ⟨hH0, hH1⟩, ⟨hn0, hn1⟩, hpt⟩ := id hR
  obtain ⟨⟨⟨hc1, hc2, hc3⟩, hcp, hcv⟩, hc4, hct⟩ := id h0
  have hWH := WH_bd hR
  refine mz_Cl.of hM ?_
  show mz_Wp shM none 135 (0, [some (.inr 30), some (.inl k), none, none], [], σ) _
  refine wp_go 4 hM (fr' := (4, [some (.inr 30), some (.inl k), some (.inl 0), some (.inl 0)], [], σ)) rfl ?_
  have loop4 : ∀ (fuel : Nat) (f : Int) (i : Int), (0 ≤ i) → (i ≤ 3 * (l.length : Int)) → (f = sumI i (fun i => b01 (ent l i = k))) → ((3 * (l.length : Int) - i : Int) < fuel) → mz_Wp shM none 135 (4, [some (.inr 30), some (.inl k), some (.inl f), some (.inl i)], [], σ) (fun r σ' => r = some (dgr l k) ∧ σ' = σ) := by
    intro fuel
    induction fuel with
    | zero =>
      intro f i hv4_0 hv4_1 hv4_2 hf4
      exfalso
      omega
    | succ fuel ih4 =>
      intro f i hv4_0 hv4_1 hv4_2 hf4
      have hs : sumI (i + 1) (fun i => b01 (ent l i = k)) = sumI i (fun i => b01 (ent l i = k)) + b01 (ent l i = k) := sumI_s hv4_0
      have hb := sumI_bd (a := 0) (b := 1) (f := (fun i => b01 (ent l i = k))) hv4_0 (fun i _ _ => by rcases b01_01 (P := ent l i = k) with q | q <;> omega)
      refine wp_go 5 hM (fr' := (11, [some (.inr 30), some (.inl k), some (.inl f), some (.inl i)], [.inl (3 * (σ 30 3)), .inl i], σ)) rfl ?_
      refine wp_ic (tgt := 38) hM rfl (by decide) (by omega) (by first | (rw [hc4]; omega) | fail) (fun c11 => ?_) (fun c11 => ?_)
      · replace c11 := cmp_ge_t c11
        first | (rw [hc4] at c11) | skip
        refine wp_go 1 hM (fr' := (39, [some (.inr 30), some (.inl k), some (.inl f), some (.inl i)], [.inl f], σ)) rfl ?_
        refine wp_ret hM rfl (rfl) ?_
        first | (exact ⟨by rw [hv4_2, show i = 3 * (l.length : Int) from by omega, dgr_ent h3], rfl⟩) | fail
      · replace c11 := cmp_ge_f c11
        first | (rw [hc4] at c11) | skip
        first | (have hen := ent_bd hT hv4_0 (show i < 3 * (l.length : Int) by omega)) | skip
        refine wp_go 4 hM (fr' := (20, [some (.inr 30), some (.inl k), some (.inl f), some (.inl i)], [.inl i, .inr 35, .inl f], σ)) rfl ?_
        refine wp_al (n := 180) hM rfl (by decide) rfl (by omega) (by omega) ?_
        first | (rw [MT_ent h0.2 hv4_0 (by omega)]) | skip
        refine wp_go 1 hM (fr' := (22, [some (.inr 30), some (.inl k), some (.inl f), some (.inl i)], [.inl k, .inl (ent l i), .inl f], σ)) rfl ?_
        refine wp_ic (tgt := 29) hM rfl (by decide) (by omega) (by omega) (fun c22 => ?_) (fun c22 => ?_)
        · replace c22 := cmp_ne_t c22
          refine wp_go 5 hM (fr' := (4, [some (.inr 30), some (.inl k), some (.inl (f + 0)), some (.inl (i + 1))], [], σ)) rfl ?_
          exact ih4 (f + 0) (i + 1) (by omega) (by omega) (by first | (rw [hs]; first | (rw [b01_t c22]; omega) | (rw [b01_f c22]; omega)) | fail) (by omega)
        · replace c22 := cmp_ne_f c22
          refine wp_go 6 hM (fr' := (4, [some (.inr 30), some (.inl k), some (.inl (f + 1)), some (.inl (i + 1))], [], σ)) rfl ?_
          exact ih4 (f + 1) (i + 1) (by omega) (by omega) (by first | (rw [hs]; first | (rw [b01_t c22]; omega) | (rw [b01_f c22]; omega)) | fail) (by omega)
  exact loop4 185 0 0 (by omega) (by omega) (by rfl) (by omega)

set_option maxRecDepth 100000 in
set_option maxHeartbeats 4000000 in
theorem sp_X6_kindOf (v : mz_G) (l : List tr3) (σ : mz_G) (k : Int) (h0 : MA σ v l) (h1 : Bs v l) (h2 : 0 ≤ k) (h3 : k < v 0 2) : mz_Cl shM 136 [.inr 30, .inl k] σ (fun r σ' => r = some (kind v k) ∧ σ' = σ) := by
  have hM : mz_meth[136]? = some mtX6_kindOf := rfl
  obtain ⟨hR, hT, hLen⟩ := id h1
  obtain ⟨⟨hW0, hW1⟩, ⟨hH0, hH1⟩, ⟨hn0, hn1⟩, hpt⟩ := id hR
  obtain ⟨⟨⟨hc1, hc2, hc3⟩, hcp, hcv⟩, hc4, hct⟩ := id h0
  have hWH := WH_bd hR
  have hk := MA_pt h0 h2 h3
  have hr := Rg_pt hR h2 h3
  refine mz_Cl.of hM ?_
  show mz_Wp shM none 136 (0, [some (.inr 30), some (.inl k)], [], σ) _
  refine wp_go 2 hM (fr' := (2, [some (.inr 30), some (.inl k)], [.inl 4, .inl k], σ)) rfl ?_
  refine wp_ic (tgt := 9) hM rfl (by decide) (by omega) (by omega) (fun c2 => ?_) (fun c2 => ?_)
  · replace c2 := cmp_ge_t c2
    refine wp_go 3 hM (fr' := (14, [some (.inr 30), some (.inl k)], [.inl k, .inr 31], σ)) rfl ?_
    refine wp_al (n := 31) hM rfl (by decide) rfl (by omega) (by omega) ?_
    first | (rw [hk.1]) | skip
    refine wp_if (tgt := 57) hM rfl (by decide) (by omega) (fun c15 => ?_) (fun c15 => ?_)
    · replace c15 := cmp_eq_t c15
      refine wp_go 2 hM (fr' := (62, [some (.inr 30), some (.inl k)], [.inl 1], σ)) rfl ?_
      refine wp_ret hM rfl (rfl) ?_
      first | (exact ⟨by unfold kind; first | rw [if_pos (by omega)] | rw [if_neg (by omega), if_pos (by omega)] | rw [if_neg (by omega), if_neg (by omega)], rfl⟩) | fail
    · replace c15 := cmp_eq_f c15
      refine wp_go 3 hM (fr' := (23, [some (.inr 30), some (.inl k)], [.inl k, .inr 31], σ)) rfl ?_
      refine wp_al (n := 31) hM rfl (by decide) rfl (by omega) (by omega) ?_
      first | (rw [hk.1]) | skip
      refine wp_go 4 hM (fr' := (30, [some (.inr 30), some (.inl k)], [.inl ((σ 30 0) - 1), .inl (gx v 0 k)], σ)) rfl ?_
      refine wp_ic (tgt := 57) hM rfl (by decide) (by omega) (by omega) (fun c30 => ?_) (fun c30 => ?_)
      · replace c30 := cmp_eq_t c30
        refine wp_go 2 hM (fr' := (62, [some (.inr 30), some (.inl k)], [.inl 1], σ)) rfl ?_
        refine wp_ret hM rfl (rfl) ?_
        first | (exact ⟨by unfold kind; first | rw [if_pos (by omega)] | rw [if_neg (by omega), if_pos (by omega)] | rw [if_neg (by omega), if_neg (by omega)], rfl⟩) | fail
      · replace c30 := cmp_eq_f c30
        refine wp_go 3 hM (fr' := (38, [some (.inr 30), some (.inl k)], [.inl k, .inr 32], σ)) rfl ?_
        refine wp_al (n := 31) hM rfl (by decide) rfl (by omega) (by omega) ?_
        first | (rw [hk.2.1]) | skip
        refine wp_if (tgt := 57) hM rfl (by decide) (by omega) (fun c39 => ?_) (fun c39 => ?_)
        · replace c39 := cmp_eq_t c39
          refine wp_go 2 hM (fr' := (62, [some (.inr 30), some (.inl k)], [.inl 1], σ)) rfl ?_
          refine wp_ret hM rfl (rfl) ?_
          first | (exact ⟨by unfold kind; first | rw [if_pos (by omega)] | rw [if_neg (by omega), if_pos (by omega)] | rw [if_neg (by omega), if_neg (by omega)], rfl⟩) | fail
        · replace c39 := cmp_eq_f c39
          refine wp_go 3 hM (fr' := (47, [some (.inr 30), some (.inl k)], [.inl k, .inr 32], σ)) rfl ?_
          refine wp_al (n := 31) hM rfl (by decide) rfl (by omega) (by omega) ?_
          first | (rw [hk.2.1]) | skip
          refine wp_go 4 hM (fr' := (54, [some (.inr 30), some (.inl k)], [.inl ((σ 30 1) - 1), .inl (gy v 0 k)], σ)) rfl ?_
          refine wp_ic (tgt := 61) hM rfl (by decide) (by omega) (by omega) (fun c54 => ?_) (fun c54 => ?_)
          · replace c54 := cmp_ne_t c54
            refine wp_go 1 hM (fr' := (62, [some (.inr 30), some (.inl k)], [.inl 2], σ)) rfl ?_
            refine wp_ret hM rfl (rfl) ?_
            first | (exact ⟨by unfold kind; first | rw [if_pos (by omega)] | rw [if_neg (by omega), if_pos (by omega)] | rw [if_neg (by omega), if_neg (by omega)], rfl⟩) | fail
          · replace c54 := cmp_ne_f c54
            refine wp_go 2 hM (fr' := (62, [some (.inr 30), some (.inl k)], [.inl 1], σ)) rfl ?_
            refine wp_ret hM rfl (rfl) ?_
            first | (exact ⟨by unfold kind; first | rw [if_pos (by omega)] | rw [if_neg (by omega), if_pos (by omega)] | rw [if_neg (by omega), if_neg (by omega)], rfl⟩) | fail
  · replace c2 := cmp_ge_f c2
    refine wp_go 2 hM (fr' := (62, [some (.inr 30), some (.inl k)], [.inl 0], σ)) rfl ?_
    refine wp_ret hM rfl (rfl) ?_
    first | (exact ⟨by unfold kind; first | rw [if_pos (by omega)] | rw [if_neg (by omega), if_pos (by omega)] | rw [if_neg (by omega), if_neg (by omega)], rfl⟩) | fail

set_option maxRecDepth 100000 in
set_option maxHeartbeats 4000000 in
theorem sp_X6_isMoved (v : mz_G) (l : List tr3) (σ : mz_G) (k : Int) (h0 : MA σ v l) (h1 : Bs v l) (h2 : 0 ≤ k) (h3 : k < v 0 2) : mz_Cl shM 140 [.inr 30, .inl k] σ (fun r σ' => r = some (b01 (¬ (gx v 1 k = gx v 0 k ∧ gy v 1 k = gy v 0 k))) ∧ σ' = σ) := by
  have hM : mz_meth[140]? = some mtX6_isMoved := rfl
  obtain ⟨hR, hT, hLen⟩ := id h1
  obtain ⟨⟨hW0, hW1⟩, ⟨hH0, hH1⟩, ⟨hn0, hn1⟩, hpt⟩ := id hR
  obtain ⟨⟨⟨hc1, hc2, hc3⟩, hcp, hcv⟩, hc4, hct⟩ := id h0
  have hWH := WH_bd hR
  have hk := MA_pt h0 h2 h3
  have hr := Rg_pt hR h2 h3
  refine mz_Cl.of hM ?_
  show mz_Wp shM none 140 (0, [some (.inr 30), some (.inl k)], [], σ) _
  refine wp_go 3 hM (fr' := (5, [some (.inr 30), some (.inl k)], [.inl k, .inr 33], σ)) rfl ?_
  refine wp_al (n := 31) hM rfl (by decide) rfl (by omega) (by omega) ?_
  first | (rw [hk.2.2.1]) | skip
  refine wp_go 3 hM (fr' := (11, [some (.inr 30), some (.inl k)], [.inl k, .inr 31, .inl (gx v 1 k)], σ)) rfl ?_
  refine wp_al (n := 31) hM rfl (by decide) rfl (by omega) (by omega) ?_
  first | (rw [hk.1]) | skip
  refine wp_ic (tgt := 30) hM rfl (by decide) (by omega) (by omega) (fun c12 => ?_) (fun c12 => ?_)
  · replace c12 := cmp_ne_t c12
    refine wp_go 2 hM (fr' := (35, [some (.inr 30), some (.inl k)], [.inl 1], σ)) rfl ?_
    refine wp_ret hM rfl (rfl) ?_
    first | (first | exact r_t (by omega) | exact r_f (by omega)) | fail
  · replace c12 := cmp_ne_f c12
    refine wp_go 3 hM (fr' := (20, [some (.inr 30), some (.inl k)], [.inl k, .inr 34], σ)) rfl ?_
    refine wp_al (n := 31) hM rfl (by decide) rfl (by omega) (by omega) ?_
    first | (rw [hk.2.2.2]) | skip
    refine wp_go 3 hM (fr' := (26, [some (.inr 30), some (.inl k)], [.inl k, .inr 32, .inl (gy v 1 k)], σ)) rfl ?_
    refine wp_al (n := 31) hM rfl (by decide) rfl (by omega) (by omega) ?_
    first | (rw [hk.2.1]) | skip
    refine wp_ic (tgt := 34) hM rfl (by decide) (by omega) (by omega) (fun c27 => ?_) (fun c27 => ?_)
    · replace c27 := cmp_eq_t c27
      refine wp_go 1 hM (fr' := (35, [some (.inr 30), some (.inl k)], [.inl 0], σ)) rfl ?_
      refine wp_ret hM rfl (rfl) ?_
      first | (first | exact r_t (by omega) | exact r_f (by omega)) | fail
    · replace c27 := cmp_eq_f c27
      refine wp_go 2 hM (fr' := (35, [some (.inr 30), some (.inl k)], [.inl 1], σ)) rfl ?_
      refine wp_ret hM rfl (rfl) ?_
      first | (first | exact r_t (by omega) | exact r_f (by omega)) | fail

set_option maxRecDepth 100000 in
set_option maxHeartbeats 4000000 in
theorem sp_X6_moved (v : mz_G) (l : List tr3) (σ : mz_G)  (h0 : MA σ v l) (h1 : Bs v l) : mz_Cl shM 141 [.inr 30] σ (fun r σ' => r = some (bkn v) ∧ σ' = σ) := by
  have hM : mz_meth[141]? = some mtX6_moved := rfl
  obtain ⟨hR, hT, hLen⟩ := id h1
  obtain ⟨⟨hW0, hW1⟩, ⟨hH0, hH1⟩, ⟨hn0, hn1⟩, hpt⟩ := id hR
  obtain ⟨⟨⟨hc1, hc2, hc3⟩, hcp, hcv⟩, hc4, hct⟩ := id h0
  have hWH := WH_bd hR
  refine mz_Cl.of hM ?_
  show mz_Wp shM none 141 (0, [some (.inr 30), none, none], [], σ) _
  refine wp_go 4 hM (fr' := (4, [some (.inr 30), some (.inl 0), some (.inl 0)], [], σ)) rfl ?_
  have loop4 : ∀ (fuel : Nat) (f : Int) (k : Int), (0 ≤ k) → (k ≤ v 0 2) → (f = sumI k (fun i => b01 (¬ (gx v 1 i = gx v 0 i ∧ gy v 1 i = gy v 0 i)))) → ((v 0 2 - k : Int) < fuel) → mz_Wp shM none 141 (4, [some (.inr 30), some (.inl f), some (.inl k)], [], σ) (fun r σ' => r = some (bkn v) ∧ σ' = σ) := by
    intro fuel
    induction fuel with
    | zero =>
      intro f k hv4_0 hv4_1 hv4_2 hf4
      exfalso
      omega
    | succ fuel ih4 =>
      intro f k hv4_0 hv4_1 hv4_2 hf4
      have hs : sumI (k + 1) (fun i => b01 (¬ (gx v 1 i = gx v 0 i ∧ gy v 1 i = gy v 0 i))) = sumI k (fun i => b01 (¬ (gx v 1 i = gx v 0 i ∧ gy v 1 i = gy v 0 i))) + b01 (¬ (gx v 1 k = gx v 0 k ∧ gy v 1 k = gy v 0 k)) := sumI_s hv4_0
      have hb := sumI_bd (a := 0) (b := 1) (f := (fun i => b01 (¬ (gx v 1 i = gx v 0 i ∧ gy v 1 i = gy v 0 i)))) hv4_0 (fun i _ _ => by rcases b01_01 (P := ¬ (gx v 1 i = gx v 0 i ∧ gy v 1 i = gy v 0 i)) with q | q <;> omega)
      refine wp_go 3 hM (fr' := (9, [some (.inr 30), some (.inl f), some (.inl k)], [.inl (σ 30 2), .inl k], σ)) rfl ?_
      refine wp_ic (tgt := 34) hM rfl (by decide) (by omega) (by omega) (fun c9 => ?_) (fun c9 => ?_)
      · replace c9 := cmp_ge_t c9
        refine wp_go 1 hM (fr' := (35, [some (.inr 30), some (.inl f), some (.inl k)], [.inl f], σ)) rfl ?_
        refine wp_ret hM rfl (rfl) ?_
        first | (exact ⟨by unfold bkn; rw [hv4_2, show k = v 0 2 from by omega], rfl⟩) | fail
      · replace c9 := cmp_ge_f c9
        refine wp_go 3 hM (fr' := (15, [some (.inr 30), some (.inl f), some (.inl k)], [.inl k, .inr 30, .inl f], σ)) rfl ?_
        refine wp_calld (v := 0) (idx := 182) (j := 140) (N := mtX6_isMoved) (as := [.inr 30, .inl k]) (rest := [.inl f]) hM rfl (Or.inl ⟨rfl, rfl⟩) rfl (sp_X6_isMoved v l σ k (by first | (first | assumption | omega) | fail) (by first | (first | assumption | omega) | fail) (by first | (first | assumption | omega) | fail) (by first | (first | assumption | omega) | fail)) ?_
        show mz_Wp shM none 141 (18, [some (.inr 30), some (.inl f), some (.inl k)], [.inl (b01 (¬ (gx v 1 k = gx v 0 k ∧ gy v 1 k = gy v 0 k))), .inl f], σ) _
        refine wp_if (tgt := 25) hM rfl (by decide) b01_R (fun c18 => ?_) (fun c18 => ?_)
        · replace c18 := b01_eq0 (cmp_eq_t c18)
          refine wp_go 5 hM (fr' := (4, [some (.inr 30), some (.inl (f + 0)), some (.inl (k + 1))], [], σ)) rfl ?_
          exact ih4 (f + 0) (k + 1) (by omega) (by omega) (by first | (rw [hs]; first | (rw [b01_t c18]; omega) | (rw [b01_f c18]; omega)) | fail) (by omega)
        · replace c18 := b01_ne0 (cmp_eq_f c18)
          refine wp_go 6 hM (fr' := (4, [some (.inr 30), some (.inl (f + 1)), some (.inl (k + 1))], [], σ)) rfl ?_
          exact ih4 (f + 1) (k + 1) (by omega) (by omega) (by first | (rw [hs]; first | (rw [b01_t c18]; omega) | (rw [b01_f c18]; omega)) | fail) (by omega)
  exact loop4 33 0 0 (by omega) (by omega) (by rfl) (by omega)

set_option maxRecDepth 100000 in
set_option maxHeartbeats 4000000 in
theorem sp_X6_sum (v : mz_G) (l : List tr3) (σ : mz_G)  (h0 : MA σ v l) (h1 : GO v l) : mz_Cl shM 146 [.inr 30] σ (fun r σ' => r = some (vsum v) ∧ σ' = σ) := by
  have hM : mz_meth[146]? = some mtX6_sum := rfl
  obtain ⟨hB, hSd, ⟨hP0, hP1⟩, ⟨hC0, hC1'⟩, hVr, hn30, hl2⟩ := id h1
  obtain ⟨hR, hT, hLen⟩ := id hB
  obtain ⟨⟨hW0, hW1⟩, ⟨hH0, hH1⟩, ⟨hn0, hn1⟩, hpt⟩ := id hR
  obtain ⟨⟨⟨hc1, hc2, hc3⟩, hcp, hcv⟩, hc4, hct⟩ := id h0
  have hWH := WH_bd hR
  refine mz_Cl.of hM ?_
  show mz_Wp shM none 146 (0, [some (.inr 30), none, none], [], σ) _
  refine wp_go 4 hM (fr' := (4, [some (.inr 30), some (.inl 0), some (.inl 0)], [], σ)) rfl ?_
  have loop4 : ∀ (fuel : Nat) (f : Int) (d : Int), (0 ≤ d) → (d ≤ v 0 0 * v 0 1) → (f = sumI d (fun i => v 6 i.toNat)) → ((v 0 0 * v 0 1 - d : Int) < fuel) → mz_Wp shM none 146 (4, [some (.inr 30), some (.inl f), some (.inl d)], [], σ) (fun r σ' => r = some (vsum v) ∧ σ' = σ) := by
    intro fuel
    induction fuel with
    | zero =>
      intro f d hv4_0 hv4_1 hv4_2 hf4
      exfalso
      omega
    | succ fuel ih4 =>
      intro f d hv4_0 hv4_1 hv4_2 hf4
      have hs : sumI (d + 1) (fun i => v 6 i.toNat) = sumI d (fun i => v 6 i.toNat) + v 6 d.toNat := sumI_s hv4_0
      have hb := sumI_bd (a := 0) (b := 15) (f := (fun i => v 6 i.toNat)) hv4_0 (fun i _ _ => by exact hVr i (by assumption) (by omega))
      refine wp_go 6 hM (fr' := (14, [some (.inr 30), some (.inl f), some (.inl d)], [.inl ((σ 30 0) * (σ 30 1)), .inl d], σ)) rfl ?_
      refine wp_ic (tgt := 32) hM rfl (by decide) (by omega) (by first | (rw [hc1, hc2]; omega) | fail) (fun c14 => ?_) (fun c14 => ?_)
      · replace c14 := cmp_ge_t c14
        first | (rw [hc1, hc2] at c14) | skip
        refine wp_go 1 hM (fr' := (33, [some (.inr 30), some (.inl f), some (.inl d)], [.inl f], σ)) rfl ?_
        refine wp_ret hM rfl (rfl) ?_
        first | (exact ⟨by unfold vsum; rw [hv4_2, show d = v 0 0 * v 0 1 from by omega], rfl⟩) | fail
      · replace c14 := cmp_ge_f c14
        first | (rw [hc1, hc2] at c14) | skip
        refine wp_go 4 hM (fr' := (23, [some (.inr 30), some (.inl f), some (.inl d)], [.inl d, .inr 36, .inl f], σ)) rfl ?_
        refine wp_al (n := 400) hM rfl (by decide) rfl (by omega) (by omega) ?_
        first | (rw [MA_val h0 hv4_0 (by omega)]) | skip
        refine wp_go 4 hM (fr' := (4, [some (.inr 30), some (.inl (f + (v 6 (d).toNat))), some (.inl (d + 1))], [], σ)) rfl ?_
        exact ih4 (f + (v 6 (d).toNat)) (d + 1) (by omega) (by omega) (by first | (rw [hs]; omega) | fail) (by omega)
  exact loop4 402 0 0 (by omega) (by omega) (by rfl) (by omega)

set_option maxRecDepth 100000 in
set_option maxHeartbeats 4000000 in
theorem sp_X6_common  (σ : mz_G) (a : Int) (b : Int) (h0 : 0 ≤ a) (h1 : a ≤ 2147483647) (h2 : 0 ≤ b) (h3 : b ≤ 2147483647) : mz_Cl shM 158 [.inl a, .inl b] σ (fun r σ' => r = some (Int.gcd a b : Int) ∧ σ' = σ) := by
  have hM : mz_meth[158]? = some mtX6_common := rfl
  refine mz_Cl.of hM ?_
  show mz_Wp shM none 158 (0, [some (.inl a), some (.inl b), none, none, none], [], σ) _
  refine wp_go 1 hM (fr' := (1, [some (.inl a), some (.inl b), none, none, none], [.inl a], σ)) rfl ?_
  refine wp_if (tgt := 9) hM rfl (by decide) (by omega) (fun c1 => ?_) (fun c1 => ?_)
  · replace c1 := cmp_ge_t c1
    refine wp_go 4 hM (fr' := (13, [some (.inl a), some (.inl b), some (.inl a), some (.inl b), none], [], σ)) rfl ?_
    have loop13 : ∀ (fuel : Nat) (x : Int) (y : Int) (d13_4 : Option mz_V), (0 ≤ x ∧ x ≤ 2147483647) → (0 ≤ y ∧ y ≤ 2147483647) → (Int.gcd x y = Int.gcd a b) → ((y : Int) < fuel) → mz_Wp shM none 158 (13, [some (.inl a), some (.inl b), some (.inl x), some (.inl y), d13_4], [], σ) (fun r σ' => r = some (Int.gcd a b : Int) ∧ σ' = σ) := by
      intro fuel
      induction fuel with
      | zero =>
        intro x y d13_4 hv13_0 hv13_1 hv13_2 hf13
        exfalso
        omega
      | succ fuel ih13 =>
        intro x y d13_4 hv13_0 hv13_1 hv13_2 hf13
        refine wp_go 1 hM (fr' := (14, [some (.inl a), some (.inl b), some (.inl x), some (.inl y), d13_4], [.inl y], σ)) rfl ?_
        refine wp_if (tgt := 30) hM rfl (by decide) (by omega) (fun c14 => ?_) (fun c14 => ?_)
        · replace c14 := cmp_eq_t c14
          refine wp_go 1 hM (fr' := (31, [some (.inl a), some (.inl b), some (.inl x), some (.inl y), d13_4], [.inl x], σ)) rfl ?_
          refine wp_ret hM rfl (rfl) ?_
          first | (exact ⟨by rw [← hv13_2, c14, gcd_x0 hv13_0.1], rfl⟩) | fail
        · replace c14 := cmp_eq_f c14
          first | (have htm := tmod_nn hv13_0.1 (show 0 < y by omega)) | skip
          refine wp_go 2 hM (fr' := (19, [some (.inl a), some (.inl b), some (.inl x), some (.inl y), d13_4], [.inl y, .inl x], σ)) rfl ?_
          refine wp_rem hM rfl (by omega) (by omega) (by omega) ?_
          refine wp_go 6 hM (fr' := (13, [some (.inl a), some (.inl b), some (.inl y), some (.inl (x.tmod y)), some (.inl (x.tmod y))], [], σ)) rfl ?_
          exact ih13 y (x.tmod y) (some (.inl (x.tmod y))) (by omega) (by omega) (by first | (rw [gcd_step]; exact hv13_2) | fail) (by omega)
    exact loop13 (b.toNat + 2) a b (none) (by omega) (by omega) (by rfl) (by omega)
  · replace c1 := cmp_ge_f c1
    omega

set_option maxRecDepth 100000 in
set_option maxHeartbeats 4000000 in
theorem sp_X6_finds_0 (v : mz_G) (l : List tr3) (σ : mz_G) (x : Int) (y : Int) (h0 : MA σ v l) (h1 : GO v l) (h2 : dot v x y) : mz_Cl shM 159 [.inr 30, .inl x, .inl y, .inl 0] σ (fun r σ' => r = none ∧ (σ' 30 20 = fX v l 1 x y ∧ σ' 30 21 = fY v l 1 x y ∧ σ' 30 22 = fB v l 1 x y) ∧ Fp σ σ') := by
  have hM : mz_meth[159]? = some mtX6_finds := rfl
  obtain ⟨hB, hSd, ⟨hP0, hP1⟩, ⟨hC0, hC1'⟩, hVr, hn30, hl2⟩ := id h1
  obtain ⟨hR, hT, hLen⟩ := id hB
  obtain ⟨⟨hW0, hW1⟩, ⟨hH0, hH1⟩, ⟨hn0, hn1⟩, hpt⟩ := id hR
  obtain ⟨⟨⟨hc1, hc2, hc3⟩, hcp, hcv⟩, hc4, hct⟩ := id h0
  have hWH := WH_bd hR
  have hL := lie_at hC1' h2
  have hnb := nX_bd hR (q := 1) (by decide) (Rt_at hT hL.1 hL.2.1) h2 hL.2.2
  have hpp := hP1 _ (tg_mem hL.1 hL.2.1)
  have ht := Rt_at hT hL.1 hL.2.1
  refine mz_Cl.of hM ?_
  show mz_Wp shM none 159 (0, [some (.inr 30), some (.inl x), some (.inl y), some (.inl 0), none, none, none], [], σ) _
  refine wp_go 4 hM (fr' := (4, [some (.inr 30), some (.inl x), some (.inl y), some (.inl 0), none, none, none], [.inl 0, .inl y, .inl x, .inr 30], σ)) rfl ?_
  refine wp_calld (v := 0) (idx := 195) (j := 121) (N := mtX6_lies) (as := [.inr 30, .inl x, .inl y, .inl 0]) (rest := []) hM rfl (Or.inl ⟨rfl, rfl⟩) rfl (sp_X6_lies_0 v l σ x y (by first | (first | assumption | omega) | fail) (by first | (first | assumption | omega) | fail) (by first | (first | assumption | omega) | fail) (by first | (first | assumption | omega) | fail)) ?_
  show mz_Wp shM none 159 (7, [some (.inr 30), some (.inl x), some (.inl y), some (.inl 0), none, none, none], [.inl (lie v l 1 x y)], σ) _
  refine wp_go 5 hM (fr' := (14, [some (.inr 30), some (.inl x), some (.inl y), some (.inl 0), some (.inl (lie v l 1 x y)), none, none], [.inl 0, .inl (lie v l 1 x y), .inr 30, .inr 30], σ)) rfl ?_
  refine wp_calld (v := 0) (idx := 104) (j := 114) (N := mtX6_areaOf) (as := [.inr 30, .inl (lie v l 1 x y), .inl 0]) (rest := [.inr 30]) hM rfl (Or.inl ⟨rfl, rfl⟩) rfl (sp_X6_areaOf_0 v l σ (lie v l 1 x y) (by first | (first | assumption | exact hL.1 | exact hL.2.1 | omega) | fail) (by first | (first | assumption | exact hL.1 | exact hL.2.1 | omega) | fail) (by first | (first | assumption | exact hL.1 | exact hL.2.1 | omega) | fail) (by first | (first | assumption | exact hL.1 | exact hL.2.1 | omega) | fail)) ?_
  show mz_Wp shM none 159 (17, [some (.inr 30), some (.inl x), some (.inl y), some (.inl 0), some (.inl (lie v l 1 x y)), none, none], [.inl (tar v 1 (tg l (lie v l 1 x y))), .inr 30], σ) _
  refine wp_go 9 hM (fr' := (33, [some (.inr 30), some (.inl x), some (.inl y), some (.inl 0), some (.inl (lie v l 1 x y)), some (.inl 0), none], [], (mz_up (mz_up (mz_up σ 30 22 (tar v 1 (tg l (lie v l 1 x y)))) 30 20 0) 30 21 0))) rfl ?_
  have loop33 : ∀ (fuel : Nat) (k : Int) (σ1 : mz_G) (d33_6 : Option mz_V), (0 ≤ k) → (k ≤ 3) → (σ1 30 20 = sumI k (fun j => shk v 1 (tg l (lie v l 1 x y)) j x y * gx v 0 (tk (tg l (lie v l 1 x y)) j))) → (σ1 30 21 = sumI k (fun j => shk v 1 (tg l (lie v l 1 x y)) j x y * gy v 0 (tk (tg l (lie v l 1 x y)) j))) → (σ1 30 22 = tar v 1 (tg l (lie v l 1 x y))) → (Fp σ σ1) → ((3 - k : Int) < fuel) → mz_Wp shM none 159 (33, [some (.inr 30), some (.inl x), some (.inl y), some (.inl 0), some (.inl (lie v l 1 x y)), some (.inl k), d33_6], [], σ1) (fun r σ' => r = none ∧ (σ' 30 20 = fX v l 1 x y ∧ σ' 30 21 = fY v l 1 x y ∧ σ' 30 22 = fB v l 1 x y) ∧ Fp σ σ') := by
    intro fuel
    induction fuel with
    | zero =>
      intro k σ1 d33_6 hv33_0 hv33_1 hv33_2 hv33_3 hv33_4 hv33_5 hf33
      exfalso
      omega
    | succ fuel ih33 =>
      intro k σ1 d33_6 hv33_0 hv33_1 hv33_2 hv33_3 hv33_4 hv33_5 hf33
      have hA1 := MA_Fp h0 hv33_5
      refine wp_go 2 hM (fr' := (36, [some (.inr 30), some (.inl x), some (.inl y), some (.inl 0), some (.inl (lie v l 1 x y)), some (.inl k), d33_6], [.inl 3, .inl k], σ1)) rfl ?_
      refine wp_ic (tgt := 148) hM rfl (by decide) (by omega) (by omega) (fun c36 => ?_) (fun c36 => ?_)
      · replace c36 := cmp_ge_t c36
        first | (have hX : σ1 30 20 = nX v 1 (tg l (lie v l 1 x y)) x y := by rw [hv33_2, show k = 3 by omega]; exact nX_sum) | skip
        first | (have hY : σ1 30 21 = nY v 1 (tg l (lie v l 1 x y)) x y := by rw [hv33_3, show k = 3 by omega]; exact nY_sum) | skip
        first | (have hg0 := gcd_le (show 0 ≤ σ1 30 21 by omega) (show 0 ≤ σ1 30 22 by omega)) | skip
        first | (have hg1 := gcd_pos (a := σ1 30 21) (show 0 < σ1 30 22 by omega)) | skip
        first | (have hg2 := gcd_le (show 0 ≤ σ1 30 20 by omega) (show 0 ≤ (Int.gcd (σ1 30 21) (σ1 30 22) : Int) by omega)) | skip
        first | (have hg3 := gcd_pos (a := σ1 30 20) hg1) | skip
        first | (have hgg : (Int.gcd (σ1 30 20) (Int.gcd (σ1 30 21) (σ1 30 22) : Int) : Int) = fG v 1 (tg l (lie v l 1 x y)) x y := by rw [gcd_3, hX, hY, hv33_4]; rfl) | skip
        refine wp_go 6 hM (fr' := (160, [some (.inr 30), some (.inl x), some (.inl y), some (.inl 0), some (.inl (lie v l 1 x y)), some (.inl k), d33_6], [.inl (σ1 30 22), .inl (σ1 30 21), .inl (σ1 30 20)], σ1)) rfl ?_
        refine wp_calld (v := 1) (idx := 224) (j := 158) (N := mtX6_common) (as := [.inl (σ1 30 21), .inl (σ1 30 22)]) (rest := [.inl (σ1 30 20)]) hM rfl (Or.inr ⟨rfl, rfl⟩) rfl (sp_X6_common  σ1 (σ1 30 21) (σ1 30 22) (by omega) (by omega) (by omega) (by omega)) ?_
        show mz_Wp shM none 159 (163, [some (.inr 30), some (.inl x), some (.inl y), some (.inl 0), some (.inl (lie v l 1 x y)), some (.inl k), d33_6], [.inl (Int.gcd (σ1 30 21) (σ1 30 22) : Int), .inl (σ1 30 20)], σ1) _
        refine wp_calld (v := 1) (idx := 224) (j := 158) (N := mtX6_common) (as := [.inl (σ1 30 20), .inl (Int.gcd (σ1 30 21) (σ1 30 22) : Int)]) (rest := []) hM rfl (Or.inr ⟨rfl, rfl⟩) rfl (sp_X6_common  σ1 (σ1 30 20) (Int.gcd (σ1 30 21) (σ1 30 22) : Int) (by omega) (by omega) (by omega) (by omega)) ?_
        show mz_Wp shM none 159 (166, [some (.inr 30), some (.inl x), some (.inl y), some (.inl 0), some (.inl (lie v l 1 x y)), some (.inl k), d33_6], [.inl (Int.gcd (σ1 30 20) (Int.gcd (σ1 30 21) (σ1 30 22) : Int) : Int)], σ1) _
        refine wp_go 5 hM (fr' := (175, [some (.inr 30), some (.inl x), some (.inl y), some (.inl 0), some (.inl (lie v l 1 x y)), some (.inl (Int.gcd (σ1 30 20) (Int.gcd (σ1 30 21) (σ1 30 22) : Int) : Int)), d33_6], [.inl (Int.gcd (σ1 30 20) (Int.gcd (σ1 30 21) (σ1 30 22) : Int) : Int), .inl (σ1 30 20), .inr 30], σ1)) rfl ?_
        refine wp_div hM rfl (by omega) (by omega) (by omega) ?_
        refine wp_go 5 hM (fr' := (186, [some (.inr 30), some (.inl x), some (.inl y), some (.inl 0), some (.inl (lie v l 1 x y)), some (.inl (Int.gcd (σ1 30 20) (Int.gcd (σ1 30 21) (σ1 30 22) : Int) : Int)), d33_6], [.inl (Int.gcd (σ1 30 20) (Int.gcd (σ1 30 21) (σ1 30 22) : Int) : Int), .inl (σ1 30 21), .inr 30], (mz_up σ1 30 20 ((σ1 30 20).tdiv (Int.gcd (σ1 30 20) (Int.gcd (σ1 30 21) (σ1 30 22) : Int) : Int))))) rfl ?_
        refine wp_div hM rfl (by omega) (by omega) (by omega) ?_
        refine wp_go 5 hM (fr' := (197, [some (.inr 30), some (.inl x), some (.inl y), some (.inl 0), some (.inl (lie v l 1 x y)), some (.inl (Int.gcd (σ1 30 20) (Int.gcd (σ1 30 21) (σ1 30 22) : Int) : Int)), d33_6], [.inl (Int.gcd (σ1 30 20) (Int.gcd (σ1 30 21) (σ1 30 22) : Int) : Int), .inl (σ1 30 22), .inr 30], (mz_up (mz_up σ1 30 20 ((σ1 30 20).tdiv (Int.gcd (σ1 30 20) (Int.gcd (σ1 30 21) (σ1 30 22) : Int) : Int))) 30 21 ((σ1 30 21).tdiv (Int.gcd (σ1 30 20) (Int.gcd (σ1 30 21) (σ1 30 22) : Int) : Int))))) rfl ?_
        refine wp_div hM rfl (by omega) (by omega) (by omega) ?_
        refine wp_go 1 hM (fr' := (201, [some (.inr 30), some (.inl x), some (.inl y), some (.inl 0), some (.inl (lie v l 1 x y)), some (.inl (Int.gcd (σ1 30 20) (Int.gcd (σ1 30 21) (σ1 30 22) : Int) : Int)), d33_6], [], (mz_up (mz_up (mz_up σ1 30 20 ((σ1 30 20).tdiv (Int.gcd (σ1 30 20) (Int.gcd (σ1 30 21) (σ1 30 22) : Int) : Int))) 30 21 ((σ1 30 21).tdiv (Int.gcd (σ1 30 20) (Int.gcd (σ1 30 21) (σ1 30 22) : Int) : Int))) 30 22 ((σ1 30 22).tdiv (Int.gcd (σ1 30 20) (Int.gcd (σ1 30 21) (σ1 30 22) : Int) : Int))))) rfl ?_
        refine wp_retv hM rfl rfl ?_
        refine ⟨rfl, ⟨?_, ?_, ?_⟩, hv33_5.tr (((Fp_up (by decide)).tr (Fp_up (by decide))).tr (Fp_up (by decide)))⟩
        · rw [up_ni (by decide), up_ni (by decide), up_eq, hgg, hX, ← shq_div (by omega)]
          rfl
        · rw [up_ni (by decide), up_eq, hgg, hY, ← shq_div (by omega)]
          rfl
        · rw [up_eq, hgg, hv33_4, ← shq_div (by omega)]
          rfl
      · replace c36 := cmp_ge_f c36
        first | (have hkb := tk_bd (k := k) ht) | skip
        first | (have hkp := MA_pt hA1 hkb.1 hkb.2) | skip
        refine wp_go 6 hM (fr' := (47, [some (.inr 30), some (.inl x), some (.inl y), some (.inl 0), some (.inl (lie v l 1 x y)), some (.inl k), d33_6], [.inl 0, .inl y, .inl x, .inl k, .inl (lie v l 1 x y), .inr 30], σ1)) rfl ?_
        refine wp_calld (v := 0) (idx := 108) (j := 119) (N := mtX6_shareOf) (as := [.inr 30, .inl (lie v l 1 x y), .inl k, .inl x, .inl y, .inl 0]) (rest := []) hM rfl (Or.inl ⟨rfl, rfl⟩) rfl (sp_X6_shareOf_0 v l σ1 (lie v l 1 x y) k x y (by first | (first | assumption | exact hL.1 | exact hL.2.1 | omega) | fail) (by first | (first | assumption | exact hL.1 | exact hL.2.1 | omega) | fail) (by first | (first | assumption | exact hL.1 | exact hL.2.1 | omega) | fail) (by first | (first | assumption | exact hL.1 | exact hL.2.1 | omega) | fail) (by first | (first | assumption | exact hL.1 | exact hL.2.1 | omega) | fail) (by first | (first | assumption | exact hL.1 | exact hL.2.1 | omega) | fail)) ?_
        show mz_Wp shM none 159 (50, [some (.inr 30), some (.inl x), some (.inl y), some (.inl 0), some (.inl (lie v l 1 x y)), some (.inl k), d33_6], [.inl (shk v 1 (tg l (lie v l 1 x y)) k x y)], σ1) _
        refine wp_go 6 hM (fr' := (60, [some (.inr 30), some (.inl x), some (.inl y), some (.inl 0), some (.inl (lie v l 1 x y)), some (.inl k), some (.inl (shk v 1 (tg l (lie v l 1 x y)) k x y))], [.inl 0, .inl (shk v 1 (tg l (lie v l 1 x y)) k x y), .inl (σ1 30 20), .inr 30], σ1)) rfl ?_
        refine wp_if (tgt := 79) hM rfl (by decide) (by omega) (fun c60 => ?_) (fun c60 => ?_)
        · replace c60 := cmp_eq_t c60
          refine wp_go 5 hM (fr' := (88, [some (.inr 30), some (.inl x), some (.inl y), some (.inl 0), some (.inl (lie v l 1 x y)), some (.inl k), some (.inl (shk v 1 (tg l (lie v l 1 x y)) k x y))], [.inl k, .inl (lie v l 1 x y), .inr 30, .inr 31, .inl (shk v 1 (tg l (lie v l 1 x y)) k x y), .inl (σ1 30 20), .inr 30], σ1)) rfl ?_
          refine wp_calld (v := 0) (idx := 85) (j := 111) (N := mtX6_at) (as := [.inr 30, .inl (lie v l 1 x y), .inl k]) (rest := [.inr 31, .inl (shk v 1 (tg l (lie v l 1 x y)) k x y), .inl (σ1 30 20), .inr 30]) hM rfl (Or.inl ⟨rfl, rfl⟩) rfl (sp_X6_at v l σ1 (lie v l 1 x y) k (by first | (first | assumption | exact hL.1 | exact hL.2.1 | omega) | fail) (by first | (first | assumption | exact hL.1 | exact hL.2.1 | omega) | fail) (by first | (first | assumption | exact hL.1 | exact hL.2.1 | omega) | fail) (by first | (first | assumption | exact hL.1 | exact hL.2.1 | omega) | fail) (by first | (first | assumption | exact hL.1 | exact hL.2.1 | omega) | fail) (by first | (first | assumption | exact hL.1 | exact hL.2.1 | omega) | fail)) ?_
          show mz_Wp shM none 159 (91, [some (.inr 30), some (.inl x), some (.inl y), some (.inl 0), some (.inl (lie v l 1 x y)), some (.inl k), some (.inl (shk v 1 (tg l (lie v l 1 x y)) k x y))], [.inl (tk (tg l (lie v l 1 x y)) k), .inr 31, .inl (shk v 1 (tg l (lie v l 1 x y)) k x y), .inl (σ1 30 20), .inr 30], σ1) _
          refine wp_al (n := 31) hM rfl (by decide) rfl (by omega) (by omega) ?_
          first | (rw [hkp.1]) | skip
          refine wp_go 8 hM (fr' := (105, [some (.inr 30), some (.inl x), some (.inl y), some (.inl 0), some (.inl (lie v l 1 x y)), some (.inl k), some (.inl (shk v 1 (tg l (lie v l 1 x y)) k x y))], [.inl 0, .inl (shk v 1 (tg l (lie v l 1 x y)) k x y), .inl (σ1 30 21), .inr 30], (mz_up σ1 30 20 ((σ1 30 20) + ((shk v 1 (tg l (lie v l 1 x y)) k x y) * (gx v 0 (tk (tg l (lie v l 1 x y)) k))))))) rfl ?_
          refine wp_if (tgt := 124) hM rfl (by decide) (by omega) (fun c105 => ?_) (fun c105 => ?_)
          · replace c105 := cmp_eq_t c105
            first | (have hA2 := MA_Fp hA1 (Fp_up (i := 20) (z := (σ1 30 20) + ((shk v 1 (tg l (lie v l 1 x y)) k x y) * (gx v 0 (tk (tg l (lie v l 1 x y)) k)))) (by decide))) | skip
            refine wp_go 5 hM (fr' := (133, [some (.inr 30), some (.inl x), some (.inl y), some (.inl 0), some (.inl (lie v l 1 x y)), some (.inl k), some (.inl (shk v 1 (tg l (lie v l 1 x y)) k x y))], [.inl k, .inl (lie v l 1 x y), .inr 30, .inr 32, .inl (shk v 1 (tg l (lie v l 1 x y)) k x y), .inl (σ1 30 21), .inr 30], (mz_up σ1 30 20 ((σ1 30 20) + ((shk v 1 (tg l (lie v l 1 x y)) k x y) * (gx v 0 (tk (tg l (lie v l 1 x y)) k))))))) rfl ?_
            refine wp_calld (v := 0) (idx := 85) (j := 111) (N := mtX6_at) (as := [.inr 30, .inl (lie v l 1 x y), .inl k]) (rest := [.inr 32, .inl (shk v 1 (tg l (lie v l 1 x y)) k x y), .inl (σ1 30 21), .inr 30]) hM rfl (Or.inl ⟨rfl, rfl⟩) rfl (sp_X6_at v l (mz_up σ1 30 20 ((σ1 30 20) + ((shk v 1 (tg l (lie v l 1 x y)) k x y) * (gx v 0 (tk (tg l (lie v l 1 x y)) k))))) (lie v l 1 x y) k (by first | (first | assumption | exact hL.1 | exact hL.2.1 | omega) | fail) (by first | (first | assumption | exact hL.1 | exact hL.2.1 | omega) | fail) (by first | (first | assumption | exact hL.1 | exact hL.2.1 | omega) | fail) (by first | (first | assumption | exact hL.1 | exact hL.2.1 | omega) | fail) (by first | (first | assumption | exact hL.1 | exact hL.2.1 | omega) | fail) (by first | (first | assumption | exact hL.1 | exact hL.2.1 | omega) | fail)) ?_
            show mz_Wp shM none 159 (136, [some (.inr 30), some (.inl x), some (.inl y), some (.inl 0), some (.inl (lie v l 1 x y)), some (.inl k), some (.inl (shk v 1 (tg l (lie v l 1 x y)) k x y))], [.inl (tk (tg l (lie v l 1 x y)) k), .inr 32, .inl (shk v 1 (tg l (lie v l 1 x y)) k x y), .inl (σ1 30 21), .inr 30], (mz_up σ1 30 20 ((σ1 30 20) + ((shk v 1 (tg l (lie v l 1 x y)) k x y) * (gx v 0 (tk (tg l (lie v l 1 x y)) k)))))) _
            refine wp_al (n := 31) hM rfl (by decide) rfl (by omega) (by omega) ?_
            show mz_Wp shM none 159 (137, [some (.inr 30), some (.inl x), some (.inl y), some (.inl 0), some (.inl (lie v l 1 x y)), some (.inl k), some (.inl (shk v 1 (tg l (lie v l 1 x y)) k x y))], [.inl (σ1 32 (tk (tg l (lie v l 1 x y)) k).toNat), .inl (shk v 1 (tg l (lie v l 1 x y)) k x y), .inl (σ1 30 21), .inr 30], (mz_up σ1 30 20 ((σ1 30 20) + ((shk v 1 (tg l (lie v l 1 x y)) k x y) * (gx v 0 (tk (tg l (lie v l 1 x y)) k)))))) _
            first | (rw [hkp.2.1]) | skip
            refine wp_go 5 hM (fr' := (33, [some (.inr 30), some (.inl x), some (.inl y), some (.inl 0), some (.inl (lie v l 1 x y)), some (.inl (k + 1)), some (.inl (shk v 1 (tg l (lie v l 1 x y)) k x y))], [], (mz_up (mz_up σ1 30 20 ((σ1 30 20) + ((shk v 1 (tg l (lie v l 1 x y)) k x y) * (gx v 0 (tk (tg l (lie v l 1 x y)) k))))) 30 21 ((σ1 30 21) + ((shk v 1 (tg l (lie v l 1 x y)) k x y) * (gy v 0 (tk (tg l (lie v l 1 x y)) k))))))) rfl ?_
            exact ih33 (k + 1) (mz_up (mz_up σ1 30 20 ((σ1 30 20) + ((shk v 1 (tg l (lie v l 1 x y)) k x y) * (gx v 0 (tk (tg l (lie v l 1 x y)) k))))) 30 21 ((σ1 30 21) + ((shk v 1 (tg l (lie v l 1 x y)) k x y) * (gy v 0 (tk (tg l (lie v l 1 x y)) k))))) (some (.inl (shk v 1 (tg l (lie v l 1 x y)) k x y))) (by omega) (by omega) (by first | (rw [up_ni (by decide), up_eq, sumI_s hv33_0, ← hv33_2]) | fail) (by first | (rw [up_eq, sumI_s hv33_0, ← hv33_3]) | fail) (by first | (rw [up_ni (by decide), up_ni (by decide)]; exact hv33_4) | fail) (by first | (exact hv33_5.tr ((Fp_up (by decide)).tr (Fp_up (by decide)))) | fail) (by omega)
          · replace c105 := cmp_eq_f c105
            exact absurd c105 (by decide)
        · replace c60 := cmp_eq_f c60
          exact absurd c60 (by decide)
  exact loop33 5 0 (mz_up (mz_up (mz_up σ 30 22 (tar v 1 (tg l (lie v l 1 x y)))) 30 20 0) 30 21 0) (none) (by omega) (by omega) (by first | (simp [mz_up]; rfl) | fail) (by first | (simp [mz_up]; rfl) | fail) (by first | (simp [mz_up]) | fail) (by first | (exact ((Fp_up (by decide)).tr (Fp_up (by decide))).tr (Fp_up (by decide))) | fail) (by omega)

set_option maxRecDepth 100000 in
set_option maxHeartbeats 4000000 in
theorem sp_X6_find_0 (v : mz_G) (l : List tr3) (σ : mz_G) (x : Int) (y : Int) (h0 : MA σ v l) (h1 : GO v l) (h2 : mz_R x) (h3 : mz_R y) : mz_Cl shM 161 [.inr 30, .inl x, .inl y, .inl 0] σ (fun r σ' => r = some (aFind v l x y 0) ∧ MA σ' v l ∧ Fm σ σ') := by
  have hM : mz_meth[161]? = some mtX6_find := rfl
  obtain ⟨hB, hSd, ⟨hP0, hP1⟩, ⟨hC0, hC1'⟩, hVr, hn30, hl2⟩ := id h1
  obtain ⟨hR, hT, hLen⟩ := id hB
  obtain ⟨⟨hW0, hW1⟩, ⟨hH0, hH1⟩, ⟨hn0, hn1⟩, hpt⟩ := id hR
  obtain ⟨⟨⟨hc1, hc2, hc3⟩, hcp, hcv⟩, hc4, hct⟩ := id h0
  have hWH := WH_bd hR
  refine mz_Cl.of hM ?_
  show mz_Wp shM none 161 (0, [some (.inr 30), some (.inl x), some (.inl y), some (.inl 0)], [], σ) _
  refine wp_go 3 hM (fr' := (3, [some (.inr 30), some (.inl x), some (.inl y), some (.inl 0)], [.inl y, .inl x, .inr 30], σ)) rfl ?_
  refine wp_calld (v := 0) (idx := 120) (j := 122) (N := mtX6_isDot) (as := [.inr 30, .inl x, .inl y]) (rest := []) hM rfl (Or.inl ⟨rfl, rfl⟩) rfl (sp_X6_isDot v l σ x y (by first | (first | assumption | omega) | fail) (by first | (first | assumption | omega) | fail) (by first | (first | assumption | omega) | fail) (by first | (first | assumption | omega) | fail)) ?_
  show mz_Wp shM none 161 (6, [some (.inr 30), some (.inl x), some (.inl y), some (.inl 0)], [.inl (b01 (dot v x y))], σ) _
  refine wp_if (tgt := 19) hM rfl (by decide) b01_R (fun c6 => ?_) (fun c6 => ?_)
  · replace c6 := b01_eq0 (cmp_eq_t c6)
    refine wp_go 1 hM (fr' := (20, [some (.inr 30), some (.inl x), some (.inl y), some (.inl 0)], [.inl (-1)], σ)) rfl ?_
    refine wp_ret hM rfl (rfl) ?_
    first | (exact ⟨by unfold aFind; first | rw [if_pos c6] | (rw [if_neg (fun q => q c6)]; rfl), h0, Fm.rf⟩) | fail
  · replace c6 := b01_ne0 (cmp_eq_f c6)
    refine wp_go 4 hM (fr' := (13, [some (.inr 30), some (.inl x), some (.inl y), some (.inl 0)], [.inl 0, .inl y, .inl x, .inr 30], σ)) rfl ?_
    refine wp_calld (v := 0) (idx := 195) (j := 121) (N := mtX6_lies) (as := [.inr 30, .inl x, .inl y, .inl 0]) (rest := []) hM rfl (Or.inl ⟨rfl, rfl⟩) rfl (sp_X6_lies_0 v l σ x y (by first | (first | assumption | exact hC0 | exact hC1') | fail) (by first | (first | assumption | exact hC0 | exact hC1') | fail) (by first | (first | assumption | exact hC0 | exact hC1') | fail) (by first | (first | assumption | exact hC0 | exact hC1') | fail)) ?_
    show mz_Wp shM none 161 (16, [some (.inr 30), some (.inl x), some (.inl y), some (.inl 0)], [.inl (lie v l 1 x y)], σ) _
    refine wp_go 1 hM (fr' := (20, [some (.inr 30), some (.inl x), some (.inl y), some (.inl 0)], [.inl (lie v l 1 x y)], σ)) rfl ?_
    refine wp_ret hM rfl (rfl) ?_
    first | (exact ⟨by unfold aFind; first | rw [if_pos c6] | (rw [if_neg (fun q => q c6)]; rfl), h0, Fm.rf⟩) | fail

set_option maxRecDepth 100000 in
set_option maxHeartbeats 4000000 in
theorem sp_X6_told_0 (v : mz_G) (l : List tr3) (σ : mz_G) (x : Int) (y : Int) (w : Int) (h0 : MA σ v l) (h1 : GO v l) (h2 : mz_R x) (h3 : mz_R y) (h4 : mz_R w) : mz_Cl shM 163 [.inr 30, .inl x, .inl y, .inl w, .inl 0] σ (fun r σ' => r = some (aFrom v l 1 x y w) ∧ MA σ' v l ∧ Fm σ σ') := by
  have hM : mz_meth[163]? = some mtX6_told := rfl
  obtain ⟨hB, hSd, ⟨hP0, hP1⟩, ⟨hC0, hC1'⟩, hVr, hn30, hl2⟩ := id h1
  obtain ⟨hR, hT, hLen⟩ := id hB
  obtain ⟨⟨hW0, hW1⟩, ⟨hH0, hH1⟩, ⟨hn0, hn1⟩, hpt⟩ := id hR
  obtain ⟨⟨⟨hc1, hc2, hc3⟩, hcp, hcv⟩, hc4, hct⟩ := id h0
  have hWH := WH_bd hR
  refine mz_Cl.of hM ?_
  show mz_Wp shM none 163 (0, [some (.inr 30), some (.inl x), some (.inl y), some (.inl w), some (.inl 0)], [], σ) _
  refine wp_go 3 hM (fr' := (3, [some (.inr 30), some (.inl x), some (.inl y), some (.inl w), some (.inl 0)], [.inl y, .inl x, .inr 30], σ)) rfl ?_
  refine wp_calld (v := 0) (idx := 120) (j := 122) (N := mtX6_isDot) (as := [.inr 30, .inl x, .inl y]) (rest := []) hM rfl (Or.inl ⟨rfl, rfl⟩) rfl (sp_X6_isDot v l σ x y (by first | (first | assumption | omega) | fail) (by first | (first | assumption | omega) | fail) (by first | (first | assumption | omega) | fail) (by first | (first | assumption | omega) | fail)) ?_
  show mz_Wp shM none 163 (6, [some (.inr 30), some (.inl x), some (.inl y), some (.inl w), some (.inl 0)], [.inl (b01 (dot v x y))], σ) _
  refine wp_if (tgt := 18) hM rfl (by decide) b01_R (fun c6 => ?_) (fun c6 => ?_)
  · replace c6 := b01_eq0 (cmp_eq_t c6)
    refine wp_go 1 hM (fr' := (19, [some (.inr 30), some (.inl x), some (.inl y), some (.inl w), some (.inl 0)], [.inl (-1)], σ)) rfl ?_
    refine wp_ret hM rfl (rfl) ?_
    first | (exact ⟨by unfold aFrom; first | rw [if_pos c6] | (rw [if_neg (fun q => q c6)]; repeat rw [if_neg (by omega)]), h0, Fm.rf⟩) | fail
  · replace c6 := b01_ne0 (cmp_eq_f c6)
    refine wp_go 3 hM (fr' := (12, [some (.inr 30), some (.inl x), some (.inl y), some (.inl w), some (.inl 0)], [.inl 2, .inl 0, .inl w], σ)) rfl ?_
    refine wp_calld (v := 1) (idx := 116) (j := 103) (N := mtX6_isIn) (as := [.inl w, .inl 0, .inl 2]) (rest := []) hM rfl (Or.inr ⟨rfl, rfl⟩) rfl (sp_X6_isIn  σ w 0 2 (by first | (first | assumption | omega) | fail) (by first | (first | assumption | omega) | fail) (by first | (first | assumption | omega) | fail)) ?_
    show mz_Wp shM none 163 (15, [some (.inr 30), some (.inl x), some (.inl y), some (.inl w), some (.inl 0)], [.inl (b01 (0 ≤ w ∧ w ≤ 2))], σ) _
    refine wp_if (tgt := 20) hM rfl (by decide) b01_R (fun c15 => ?_) (fun c15 => ?_)
    · replace c15 := b01_ne0 (cmp_ne_t c15)
      refine wp_go 4 hM (fr' := (25, [some (.inr 30), some (.inl x), some (.inl y), some (.inl w), some (.inl 0)], [.inl 0, .inl y, .inl x, .inr 30], σ)) rfl ?_
      refine wp_call (v := 0) (idx := 227) (j := 159) (N := mtX6_finds) (as := [.inr 30, .inl x, .inl y, .inl 0]) (rest := []) hM rfl (Or.inl ⟨rfl, rfl⟩) rfl (sp_X6_finds_0 v l σ x y (by first | (first | assumption | omega) | fail) (by first | (first | assumption | omega) | fail) (by first | (first | assumption | omega) | fail)) ?_
      rintro r0 σ_25 ⟨rfl, hx_25, hf_25⟩
      show mz_Wp shM none 163 (28, [some (.inr 30), some (.inl x), some (.inl y), some (.inl w), some (.inl 0)], [], σ_25) _
      first | (obtain ⟨e1, e2, e3⟩ := id hx_25) | skip
      refine wp_go 1 hM (fr' := (29, [some (.inr 30), some (.inl x), some (.inl y), some (.inl w), some (.inl 0)], [.inl w], σ_25)) rfl ?_
      refine wp_if (tgt := 39) hM rfl (by decide) (by omega) (fun c29 => ?_) (fun c29 => ?_)
      · replace c29 := cmp_ne_t c29
        refine wp_go 2 hM (fr' := (41, [some (.inr 30), some (.inl x), some (.inl y), some (.inl w), some (.inl 0)], [.inl 1, .inl w], σ_25)) rfl ?_
        refine wp_ic (tgt := 51) hM rfl (by decide) (by omega) (by omega) (fun c41 => ?_) (fun c41 => ?_)
        · replace c41 := cmp_ne_t c41
          refine wp_go 2 hM (fr' := (55, [some (.inr 30), some (.inl x), some (.inl y), some (.inl w), some (.inl 0)], [.inl (σ_25 30 22)], σ_25)) rfl ?_
          refine wp_ret hM rfl (rfl) ?_
          first | (exact ⟨by unfold aFrom; rw [if_neg (show ¬ ¬ dot v x y from fun q => q c6)]; (first | rw [if_pos (show w = 0 by omega), e1] | rw [if_neg (show ¬ w = 0 by omega), if_pos (show w = 1 by omega), e2] | rw [if_neg (show ¬ w = 0 by omega), if_neg (show ¬ w = 1 by omega), if_pos (show w = 2 by omega), e3]), MA_Fp h0 hf_25, Fm_Fp hf_25⟩) | fail
        · replace c41 := cmp_ne_f c41
          refine wp_go 3 hM (fr' := (55, [some (.inr 30), some (.inl x), some (.inl y), some (.inl w), some (.inl 0)], [.inl (σ_25 30 21)], σ_25)) rfl ?_
          refine wp_ret hM rfl (rfl) ?_
          first | (exact ⟨by unfold aFrom; rw [if_neg (show ¬ ¬ dot v x y from fun q => q c6)]; (first | rw [if_pos (show w = 0 by omega), e1] | rw [if_neg (show ¬ w = 0 by omega), if_pos (show w = 1 by omega), e2] | rw [if_neg (show ¬ w = 0 by omega), if_neg (show ¬ w = 1 by omega), if_pos (show w = 2 by omega), e3]), MA_Fp h0 hf_25, Fm_Fp hf_25⟩) | fail
      · replace c29 := cmp_ne_f c29
        refine wp_go 3 hM (fr' := (55, [some (.inr 30), some (.inl x), some (.inl y), some (.inl w), some (.inl 0)], [.inl (σ_25 30 20)], σ_25)) rfl ?_
        refine wp_ret hM rfl (rfl) ?_
        first | (exact ⟨by unfold aFrom; rw [if_neg (show ¬ ¬ dot v x y from fun q => q c6)]; (first | rw [if_pos (show w = 0 by omega), e1] | rw [if_neg (show ¬ w = 0 by omega), if_pos (show w = 1 by omega), e2] | rw [if_neg (show ¬ w = 0 by omega), if_neg (show ¬ w = 1 by omega), if_pos (show w = 2 by omega), e3]), MA_Fp h0 hf_25, Fm_Fp hf_25⟩) | fail
    · replace c15 := b01_eq0 (cmp_ne_f c15)
      refine wp_go 1 hM (fr' := (19, [some (.inr 30), some (.inl x), some (.inl y), some (.inl w), some (.inl 0)], [.inl (-1)], σ)) rfl ?_
      refine wp_ret hM rfl (rfl) ?_
      first | (exact ⟨by unfold aFrom; first | rw [if_pos c6] | (rw [if_neg (fun q => q c6)]; repeat rw [if_neg (by omega)]), h0, Fm.rf⟩) | fail

set_option maxRecDepth 100000 in
set_option maxHeartbeats 4000000 in
theorem sp_X6_finds_1 (v : mz_G) (l : List tr3) (σ : mz_G) (x : Int) (y : Int) (h0 : MA σ v l) (h1 : GO v l) (h2 : dot v x y) : mz_Cl shM 159 [.inr 30, .inl x, .inl y, .inl 1] σ (fun r σ' => r = none ∧ (σ' 30 20 = fX v l 0 x y ∧ σ' 30 21 = fY v l 0 x y ∧ σ' 30 22 = fB v l 0 x y) ∧ Fp σ σ') := by
  have hM : mz_meth[159]? = some mtX6_finds := rfl
  obtain ⟨hB, hSd, ⟨hP0, hP1⟩, ⟨hC0, hC1'⟩, hVr, hn30, hl2⟩ := id h1
  obtain ⟨hR, hT, hLen⟩ := id hB
  obtain ⟨⟨hW0, hW1⟩, ⟨hH0, hH1⟩, ⟨hn0, hn1⟩, hpt⟩ := id hR
  obtain ⟨⟨⟨hc1, hc2, hc3⟩, hcp, hcv⟩, hc4, hct⟩ := id h0
  have hWH := WH_bd hR
  have hL := lie_at hC0 h2
  have hnb := nX_bd hR (q := 0) (by decide) (Rt_at hT hL.1 hL.2.1) h2 hL.2.2
  have hpp := hP0 _ (tg_mem hL.1 hL.2.1)
  have ht := Rt_at hT hL.1 hL.2.1
  refine mz_Cl.of hM ?_
  show mz_Wp shM none 159 (0, [some (.inr 30), some (.inl x), some (.inl y), some (.inl 1), none, none, none], [], σ) _
  refine wp_go 4 hM (fr' := (4, [some (.inr 30), some (.inl x), some (.inl y), some (.inl 1), none, none, none], [.inl 1, .inl y, .inl x, .inr 30], σ)) rfl ?_
  refine wp_calld (v := 0) (idx := 195) (j := 121) (N := mtX6_lies) (as := [.inr 30, .inl x, .inl y, .inl 1]) (rest := []) hM rfl (Or.inl ⟨rfl, rfl⟩) rfl (sp_X6_lies_1 v l σ x y (by first | (first | assumption | omega) | fail) (by first | (first | assumption | omega) | fail) (by first | (first | assumption | omega) | fail) (by first | (first | assumption | omega) | fail)) ?_
  show mz_Wp shM none 159 (7, [some (.inr 30), some (.inl x), some (.inl y), some (.inl 1), none, none, none], [.inl (lie v l 0 x y)], σ) _
  refine wp_go 5 hM (fr' := (14, [some (.inr 30), some (.inl x), some (.inl y), some (.inl 1), some (.inl (lie v l 0 x y)), none, none], [.inl 1, .inl (lie v l 0 x y), .inr 30, .inr 30], σ)) rfl ?_
  refine wp_calld (v := 0) (idx := 104) (j := 114) (N := mtX6_areaOf) (as := [.inr 30, .inl (lie v l 0 x y), .inl 1]) (rest := [.inr 30]) hM rfl (Or.inl ⟨rfl, rfl⟩) rfl (sp_X6_areaOf_1 v l σ (lie v l 0 x y) (by first | (first | assumption | exact hL.1 | exact hL.2.1 | omega) | fail) (by first | (first | assumption | exact hL.1 | exact hL.2.1 | omega) | fail) (by first | (first | assumption | exact hL.1 | exact hL.2.1 | omega) | fail) (by first | (first | assumption | exact hL.1 | exact hL.2.1 | omega) | fail)) ?_
  show mz_Wp shM none 159 (17, [some (.inr 30), some (.inl x), some (.inl y), some (.inl 1), some (.inl (lie v l 0 x y)), none, none], [.inl (tar v 0 (tg l (lie v l 0 x y))), .inr 30], σ) _
  refine wp_go 9 hM (fr' := (33, [some (.inr 30), some (.inl x), some (.inl y), some (.inl 1), some (.inl (lie v l 0 x y)), some (.inl 0), none], [], (mz_up (mz_up (mz_up σ 30 22 (tar v 0 (tg l (lie v l 0 x y)))) 30 20 0) 30 21 0))) rfl ?_
  have loop33 : ∀ (fuel : Nat) (k : Int) (σ1 : mz_G) (d33_6 : Option mz_V), (0 ≤ k) → (k ≤ 3) → (σ1 30 20 = sumI k (fun j => shk v 0 (tg l (lie v l 0 x y)) j x y * gx v 1 (tk (tg l (lie v l 0 x y)) j))) → (σ1 30 21 = sumI k (fun j => shk v 0 (tg l (lie v l 0 x y)) j x y * gy v 1 (tk (tg l (lie v l 0 x y)) j))) → (σ1 30 22 = tar v 0 (tg l (lie v l 0 x y))) → (Fp σ σ1) → ((3 - k : Int) < fuel) → mz_Wp shM none 159 (33, [some (.inr 30), some (.inl x), some (.inl y), some (.inl 1), some (.inl (lie v l 0 x y)), some (.inl k), d33_6], [], σ1) (fun r σ' => r = none ∧ (σ' 30 20 = fX v l 0 x y ∧ σ' 30 21 = fY v l 0 x y ∧ σ' 30 22 = fB v l 0 x y) ∧ Fp σ σ') := by
    intro fuel
    induction fuel with
    | zero =>
      intro k σ1 d33_6 hv33_0 hv33_1 hv33_2 hv33_3 hv33_4 hv33_5 hf33
      exfalso
      omega
    | succ fuel ih33 =>
      intro k σ1 d33_6 hv33_0 hv33_1 hv33_2 hv33_3 hv33_4 hv33_5 hf33
      have hA1 := MA_Fp h0 hv33_5
      refine wp_go 2 hM (fr' := (36, [some (.inr 30), some (.inl x), some (.inl y), some (.inl 1), some (.inl (lie v l 0 x y)), some (.inl k), d33_6], [.inl 3, .inl k], σ1)) rfl ?_
      refine wp_ic (tgt := 148) hM rfl (by decide) (by omega) (by omega) (fun c36 => ?_) (fun c36 => ?_)
      · replace c36 := cmp_ge_t c36
        first | (have hX : σ1 30 20 = nX v 0 (tg l (lie v l 0 x y)) x y := by rw [hv33_2, show k = 3 by omega]; exact nX_sum) | skip
        first | (have hY : σ1 30 21 = nY v 0 (tg l (lie v l 0 x y)) x y := by rw [hv33_3, show k = 3 by omega]; exact nY_sum) | skip
        first | (have hg0 := gcd_le (show 0 ≤ σ1 30 21 by omega) (show 0 ≤ σ1 30 22 by omega)) | skip
        first | (have hg1 := gcd_pos (a := σ1 30 21) (show 0 < σ1 30 22 by omega)) | skip
        first | (have hg2 := gcd_le (show 0 ≤ σ1 30 20 by omega) (show 0 ≤ (Int.gcd (σ1 30 21) (σ1 30 22) : Int) by omega)) | skip
        first | (have hg3 := gcd_pos (a := σ1 30 20) hg1) | skip
        first | (have hgg : (Int.gcd (σ1 30 20) (Int.gcd (σ1 30 21) (σ1 30 22) : Int) : Int) = fG v 0 (tg l (lie v l 0 x y)) x y := by rw [gcd_3, hX, hY, hv33_4]; rfl) | skip
        refine wp_go 6 hM (fr' := (160, [some (.inr 30), some (.inl x), some (.inl y), some (.inl 1), some (.inl (lie v l 0 x y)), some (.inl k), d33_6], [.inl (σ1 30 22), .inl (σ1 30 21), .inl (σ1 30 20)], σ1)) rfl ?_
        refine wp_calld (v := 1) (idx := 224) (j := 158) (N := mtX6_common) (as := [.inl (σ1 30 21), .inl (σ1 30 22)]) (rest := [.inl (σ1 30 20)]) hM rfl (Or.inr ⟨rfl, rfl⟩) rfl (sp_X6_common  σ1 (σ1 30 21) (σ1 30 22) (by omega) (by omega) (by omega) (by omega)) ?_
        show mz_Wp shM none 159 (163, [some (.inr 30), some (.inl x), some (.inl y), some (.inl 1), some (.inl (lie v l 0 x y)), some (.inl k), d33_6], [.inl (Int.gcd (σ1 30 21) (σ1 30 22) : Int), .inl (σ1 30 20)], σ1) _
        refine wp_calld (v := 1) (idx := 224) (j := 158) (N := mtX6_common) (as := [.inl (σ1 30 20), .inl (Int.gcd (σ1 30 21) (σ1 30 22) : Int)]) (rest := []) hM rfl (Or.inr ⟨rfl, rfl⟩) rfl (sp_X6_common  σ1 (σ1 30 20) (Int.gcd (σ1 30 21) (σ1 30 22) : Int) (by omega) (by omega) (by omega) (by omega)) ?_
        show mz_Wp shM none 159 (166, [some (.inr 30), some (.inl x), some (.inl y), some (.inl 1), some (.inl (lie v l 0 x y)), some (.inl k), d33_6], [.inl (Int.gcd (σ1 30 20) (Int.gcd (σ1 30 21) (σ1 30 22) : Int) : Int)], σ1) _
        refine wp_go 5 hM (fr' := (175, [some (.inr 30), some (.inl x), some (.inl y), some (.inl 1), some (.inl (lie v l 0 x y)), some (.inl (Int.gcd (σ1 30 20) (Int.gcd (σ1 30 21) (σ1 30 22) : Int) : Int)), d33_6], [.inl (Int.gcd (σ1 30 20) (Int.gcd (σ1 30 21) (σ1 30 22) : Int) : Int), .inl (σ1 30 20), .inr 30], σ1)) rfl ?_
        refine wp_div hM rfl (by omega) (by omega) (by omega) ?_
        refine wp_go 5 hM (fr' := (186, [some (.inr 30), some (.inl x), some (.inl y), some (.inl 1), some (.inl (lie v l 0 x y)), some (.inl (Int.gcd (σ1 30 20) (Int.gcd (σ1 30 21) (σ1 30 22) : Int) : Int)), d33_6], [.inl (Int.gcd (σ1 30 20) (Int.gcd (σ1 30 21) (σ1 30 22) : Int) : Int), .inl (σ1 30 21), .inr 30], (mz_up σ1 30 20 ((σ1 30 20).tdiv (Int.gcd (σ1 30 20) (Int.gcd (σ1 30 21) (σ1 30 22) : Int) : Int))))) rfl ?_
        refine wp_div hM rfl (by omega) (by omega) (by omega) ?_
        refine wp_go 5 hM (fr' := (197, [some (.inr 30), some (.inl x), some (.inl y), some (.inl 1), some (.inl (lie v l 0 x y)), some (.inl (Int.gcd (σ1 30 20) (Int.gcd (σ1 30 21) (σ1 30 22) : Int) : Int)), d33_6], [.inl (Int.gcd (σ1 30 20) (Int.gcd (σ1 30 21) (σ1 30 22) : Int) : Int), .inl (σ1 30 22), .inr 30], (mz_up (mz_up σ1 30 20 ((σ1 30 20).tdiv (Int.gcd (σ1 30 20) (Int.gcd (σ1 30 21) (σ1 30 22) : Int) : Int))) 30 21 ((σ1 30 21).tdiv (Int.gcd (σ1 30 20) (Int.gcd (σ1 30 21) (σ1 30 22) : Int) : Int))))) rfl ?_
        refine wp_div hM rfl (by omega) (by omega) (by omega) ?_
        refine wp_go 1 hM (fr' := (201, [some (.inr 30), some (.inl x), some (.inl y), some (.inl 1), some (.inl (lie v l 0 x y)), some (.inl (Int.gcd (σ1 30 20) (Int.gcd (σ1 30 21) (σ1 30 22) : Int) : Int)), d33_6], [], (mz_up (mz_up (mz_up σ1 30 20 ((σ1 30 20).tdiv (Int.gcd (σ1 30 20) (Int.gcd (σ1 30 21) (σ1 30 22) : Int) : Int))) 30 21 ((σ1 30 21).tdiv (Int.gcd (σ1 30 20) (Int.gcd (σ1 30 21) (σ1 30 22) : Int) : Int))) 30 22 ((σ1 30 22).tdiv (Int.gcd (σ1 30 20) (Int.gcd (σ1 30 21) (σ1 30 22) : Int) : Int))))) rfl ?_
        refine wp_retv hM rfl rfl ?_
        refine ⟨rfl, ⟨?_, ?_, ?_⟩, hv33_5.tr (((Fp_up (by decide)).tr (Fp_up (by decide))).tr (Fp_up (by decide)))⟩
        · rw [up_ni (by decide), up_ni (by decide), up_eq, hgg, hX, ← shq_div (by omega)]
          rfl
        · rw [up_ni (by decide), up_eq, hgg, hY, ← shq_div (by omega)]
          rfl
        · rw [up_eq, hgg, hv33_4, ← shq_div (by omega)]
          rfl
      · replace c36 := cmp_ge_f c36
        first | (have hkb := tk_bd (k := k) ht) | skip
        first | (have hkp := MA_pt hA1 hkb.1 hkb.2) | skip
        refine wp_go 6 hM (fr' := (47, [some (.inr 30), some (.inl x), some (.inl y), some (.inl 1), some (.inl (lie v l 0 x y)), some (.inl k), d33_6], [.inl 1, .inl y, .inl x, .inl k, .inl (lie v l 0 x y), .inr 30], σ1)) rfl ?_
        refine wp_calld (v := 0) (idx := 108) (j := 119) (N := mtX6_shareOf) (as := [.inr 30, .inl (lie v l 0 x y), .inl k, .inl x, .inl y, .inl 1]) (rest := []) hM rfl (Or.inl ⟨rfl, rfl⟩) rfl (sp_X6_shareOf_1 v l σ1 (lie v l 0 x y) k x y (by first | (first | assumption | exact hL.1 | exact hL.2.1 | omega) | fail) (by first | (first | assumption | exact hL.1 | exact hL.2.1 | omega) | fail) (by first | (first | assumption | exact hL.1 | exact hL.2.1 | omega) | fail) (by first | (first | assumption | exact hL.1 | exact hL.2.1 | omega) | fail) (by first | (first | assumption | exact hL.1 | exact hL.2.1 | omega) | fail) (by first | (first | assumption | exact hL.1 | exact hL.2.1 | omega) | fail)) ?_
        show mz_Wp shM none 159 (50, [some (.inr 30), some (.inl x), some (.inl y), some (.inl 1), some (.inl (lie v l 0 x y)), some (.inl k), d33_6], [.inl (shk v 0 (tg l (lie v l 0 x y)) k x y)], σ1) _
        refine wp_go 6 hM (fr' := (60, [some (.inr 30), some (.inl x), some (.inl y), some (.inl 1), some (.inl (lie v l 0 x y)), some (.inl k), some (.inl (shk v 0 (tg l (lie v l 0 x y)) k x y))], [.inl 1, .inl (shk v 0 (tg l (lie v l 0 x y)) k x y), .inl (σ1 30 20), .inr 30], σ1)) rfl ?_
        refine wp_if (tgt := 79) hM rfl (by decide) (by omega) (fun c60 => ?_) (fun c60 => ?_)
        · replace c60 := cmp_eq_t c60
          exact absurd c60 (by decide)
        · replace c60 := cmp_eq_f c60
          refine wp_go 5 hM (fr' := (72, [some (.inr 30), some (.inl x), some (.inl y), some (.inl 1), some (.inl (lie v l 0 x y)), some (.inl k), some (.inl (shk v 0 (tg l (lie v l 0 x y)) k x y))], [.inl k, .inl (lie v l 0 x y), .inr 30, .inr 33, .inl (shk v 0 (tg l (lie v l 0 x y)) k x y), .inl (σ1 30 20), .inr 30], σ1)) rfl ?_
          refine wp_calld (v := 0) (idx := 85) (j := 111) (N := mtX6_at) (as := [.inr 30, .inl (lie v l 0 x y), .inl k]) (rest := [.inr 33, .inl (shk v 0 (tg l (lie v l 0 x y)) k x y), .inl (σ1 30 20), .inr 30]) hM rfl (Or.inl ⟨rfl, rfl⟩) rfl (sp_X6_at v l σ1 (lie v l 0 x y) k (by first | (first | assumption | exact hL.1 | exact hL.2.1 | omega) | fail) (by first | (first | assumption | exact hL.1 | exact hL.2.1 | omega) | fail) (by first | (first | assumption | exact hL.1 | exact hL.2.1 | omega) | fail) (by first | (first | assumption | exact hL.1 | exact hL.2.1 | omega) | fail) (by first | (first | assumption | exact hL.1 | exact hL.2.1 | omega) | fail) (by first | (first | assumption | exact hL.1 | exact hL.2.1 | omega) | fail)) ?_
          show mz_Wp shM none 159 (75, [some (.inr 30), some (.inl x), some (.inl y), some (.inl 1), some (.inl (lie v l 0 x y)), some (.inl k), some (.inl (shk v 0 (tg l (lie v l 0 x y)) k x y))], [.inl (tk (tg l (lie v l 0 x y)) k), .inr 33, .inl (shk v 0 (tg l (lie v l 0 x y)) k x y), .inl (σ1 30 20), .inr 30], σ1) _
          refine wp_al (n := 31) hM rfl (by decide) rfl (by omega) (by omega) ?_
          first | (rw [hkp.2.2.1]) | skip
          refine wp_go 9 hM (fr' := (105, [some (.inr 30), some (.inl x), some (.inl y), some (.inl 1), some (.inl (lie v l 0 x y)), some (.inl k), some (.inl (shk v 0 (tg l (lie v l 0 x y)) k x y))], [.inl 1, .inl (shk v 0 (tg l (lie v l 0 x y)) k x y), .inl (σ1 30 21), .inr 30], (mz_up σ1 30 20 ((σ1 30 20) + ((shk v 0 (tg l (lie v l 0 x y)) k x y) * (gx v 1 (tk (tg l (lie v l 0 x y)) k))))))) rfl ?_
          refine wp_if (tgt := 124) hM rfl (by decide) (by omega) (fun c105 => ?_) (fun c105 => ?_)
          · replace c105 := cmp_eq_t c105
            exact absurd c105 (by decide)
          · replace c105 := cmp_eq_f c105
            first | (have hA2 := MA_Fp hA1 (Fp_up (i := 20) (z := (σ1 30 20) + ((shk v 0 (tg l (lie v l 0 x y)) k x y) * (gx v 1 (tk (tg l (lie v l 0 x y)) k)))) (by decide))) | skip
            refine wp_go 5 hM (fr' := (117, [some (.inr 30), some (.inl x), some (.inl y), some (.inl 1), some (.inl (lie v l 0 x y)), some (.inl k), some (.inl (shk v 0 (tg l (lie v l 0 x y)) k x y))], [.inl k, .inl (lie v l 0 x y), .inr 30, .inr 34, .inl (shk v 0 (tg l (lie v l 0 x y)) k x y), .inl (σ1 30 21), .inr 30], (mz_up σ1 30 20 ((σ1 30 20) + ((shk v 0 (tg l (lie v l 0 x y)) k x y) * (gx v 1 (tk (tg l (lie v l 0 x y)) k))))))) rfl ?_
            refine wp_calld (v := 0) (idx := 85) (j := 111) (N := mtX6_at) (as := [.inr 30, .inl (lie v l 0 x y), .inl k]) (rest := [.inr 34, .inl (shk v 0 (tg l (lie v l 0 x y)) k x y), .inl (σ1 30 21), .inr 30]) hM rfl (Or.inl ⟨rfl, rfl⟩) rfl (sp_X6_at v l (mz_up σ1 30 20 ((σ1 30 20) + ((shk v 0 (tg l (lie v l 0 x y)) k x y) * (gx v 1 (tk (tg l (lie v l 0 x y)) k))))) (lie v l 0 x y) k (by first | (first | assumption | exact hL.1 | exact hL.2.1 | omega) | fail) (by first | (first | assumption | exact hL.1 | exact hL.2.1 | omega) | fail) (by first | (first | assumption | exact hL.1 | exact hL.2.1 | omega) | fail) (by first | (first | assumption | exact hL.1 | exact hL.2.1 | omega) | fail) (by first | (first | assumption | exact hL.1 | exact hL.2.1 | omega) | fail) (by first | (first | assumption | exact hL.1 | exact hL.2.1 | omega) | fail)) ?_
            show mz_Wp shM none 159 (120, [some (.inr 30), some (.inl x), some (.inl y), some (.inl 1), some (.inl (lie v l 0 x y)), some (.inl k), some (.inl (shk v 0 (tg l (lie v l 0 x y)) k x y))], [.inl (tk (tg l (lie v l 0 x y)) k), .inr 34, .inl (shk v 0 (tg l (lie v l 0 x y)) k x y), .inl (σ1 30 21), .inr 30], (mz_up σ1 30 20 ((σ1 30 20) + ((shk v 0 (tg l (lie v l 0 x y)) k x y) * (gx v 1 (tk (tg l (lie v l 0 x y)) k)))))) _
            refine wp_al (n := 31) hM rfl (by decide) rfl (by omega) (by omega) ?_
            show mz_Wp shM none 159 (121, [some (.inr 30), some (.inl x), some (.inl y), some (.inl 1), some (.inl (lie v l 0 x y)), some (.inl k), some (.inl (shk v 0 (tg l (lie v l 0 x y)) k x y))], [.inl (σ1 34 (tk (tg l (lie v l 0 x y)) k).toNat), .inl (shk v 0 (tg l (lie v l 0 x y)) k x y), .inl (σ1 30 21), .inr 30], (mz_up σ1 30 20 ((σ1 30 20) + ((shk v 0 (tg l (lie v l 0 x y)) k x y) * (gx v 1 (tk (tg l (lie v l 0 x y)) k)))))) _
            first | (rw [hkp.2.2.2]) | skip
            refine wp_go 6 hM (fr' := (33, [some (.inr 30), some (.inl x), some (.inl y), some (.inl 1), some (.inl (lie v l 0 x y)), some (.inl (k + 1)), some (.inl (shk v 0 (tg l (lie v l 0 x y)) k x y))], [], (mz_up (mz_up σ1 30 20 ((σ1 30 20) + ((shk v 0 (tg l (lie v l 0 x y)) k x y) * (gx v 1 (tk (tg l (lie v l 0 x y)) k))))) 30 21 ((σ1 30 21) + ((shk v 0 (tg l (lie v l 0 x y)) k x y) * (gy v 1 (tk (tg l (lie v l 0 x y)) k))))))) rfl ?_
            exact ih33 (k + 1) (mz_up (mz_up σ1 30 20 ((σ1 30 20) + ((shk v 0 (tg l (lie v l 0 x y)) k x y) * (gx v 1 (tk (tg l (lie v l 0 x y)) k))))) 30 21 ((σ1 30 21) + ((shk v 0 (tg l (lie v l 0 x y)) k x y) * (gy v 1 (tk (tg l (lie v l 0 x y)) k))))) (some (.inl (shk v 0 (tg l (lie v l 0 x y)) k x y))) (by omega) (by omega) (by first | (rw [up_ni (by decide), up_eq, sumI_s hv33_0, ← hv33_2]) | fail) (by first | (rw [up_eq, sumI_s hv33_0, ← hv33_3]) | fail) (by first | (rw [up_ni (by decide), up_ni (by decide)]; exact hv33_4) | fail) (by first | (exact hv33_5.tr ((Fp_up (by decide)).tr (Fp_up (by decide)))) | fail) (by omega)
  exact loop33 5 0 (mz_up (mz_up (mz_up σ 30 22 (tar v 0 (tg l (lie v l 0 x y)))) 30 20 0) 30 21 0) (none) (by omega) (by omega) (by first | (simp [mz_up]; rfl) | fail) (by first | (simp [mz_up]; rfl) | fail) (by first | (simp [mz_up]) | fail) (by first | (exact ((Fp_up (by decide)).tr (Fp_up (by decide))).tr (Fp_up (by decide))) | fail) (by omega)

set_option maxRecDepth 100000 in
set_option maxHeartbeats 4000000 in
theorem sp_X6_find_1 (v : mz_G) (l : List tr3) (σ : mz_G) (x : Int) (y : Int) (h0 : MA σ v l) (h1 : GO v l) (h2 : mz_R x) (h3 : mz_R y) : mz_Cl shM 161 [.inr 30, .inl x, .inl y, .inl 1] σ (fun r σ' => r = some (aFind v l x y 1) ∧ MA σ' v l ∧ Fm σ σ') := by
  have hM : mz_meth[161]? = some mtX6_find := rfl
  obtain ⟨hB, hSd, ⟨hP0, hP1⟩, ⟨hC0, hC1'⟩, hVr, hn30, hl2⟩ := id h1
  obtain ⟨hR, hT, hLen⟩ := id hB
  obtain ⟨⟨hW0, hW1⟩, ⟨hH0, hH1⟩, ⟨hn0, hn1⟩, hpt⟩ := id hR
  obtain ⟨⟨⟨hc1, hc2, hc3⟩, hcp, hcv⟩, hc4, hct⟩ := id h0
  have hWH := WH_bd hR
  refine mz_Cl.of hM ?_
  show mz_Wp shM none 161 (0, [some (.inr 30), some (.inl x), some (.inl y), some (.inl 1)], [], σ) _
  refine wp_go 3 hM (fr' := (3, [some (.inr 30), some (.inl x), some (.inl y), some (.inl 1)], [.inl y, .inl x, .inr 30], σ)) rfl ?_
  refine wp_calld (v := 0) (idx := 120) (j := 122) (N := mtX6_isDot) (as := [.inr 30, .inl x, .inl y]) (rest := []) hM rfl (Or.inl ⟨rfl, rfl⟩) rfl (sp_X6_isDot v l σ x y (by first | (first | assumption | omega) | fail) (by first | (first | assumption | omega) | fail) (by first | (first | assumption | omega) | fail) (by first | (first | assumption | omega) | fail)) ?_
  show mz_Wp shM none 161 (6, [some (.inr 30), some (.inl x), some (.inl y), some (.inl 1)], [.inl (b01 (dot v x y))], σ) _
  refine wp_if (tgt := 19) hM rfl (by decide) b01_R (fun c6 => ?_) (fun c6 => ?_)
  · replace c6 := b01_eq0 (cmp_eq_t c6)
    refine wp_go 1 hM (fr' := (20, [some (.inr 30), some (.inl x), some (.inl y), some (.inl 1)], [.inl (-1)], σ)) rfl ?_
    refine wp_ret hM rfl (rfl) ?_
    first | (exact ⟨by unfold aFind; first | rw [if_pos c6] | (rw [if_neg (fun q => q c6)]; rfl), h0, Fm.rf⟩) | fail
  · replace c6 := b01_ne0 (cmp_eq_f c6)
    refine wp_go 4 hM (fr' := (13, [some (.inr 30), some (.inl x), some (.inl y), some (.inl 1)], [.inl 1, .inl y, .inl x, .inr 30], σ)) rfl ?_
    refine wp_calld (v := 0) (idx := 195) (j := 121) (N := mtX6_lies) (as := [.inr 30, .inl x, .inl y, .inl 1]) (rest := []) hM rfl (Or.inl ⟨rfl, rfl⟩) rfl (sp_X6_lies_1 v l σ x y (by first | (first | assumption | exact hC0 | exact hC1') | fail) (by first | (first | assumption | exact hC0 | exact hC1') | fail) (by first | (first | assumption | exact hC0 | exact hC1') | fail) (by first | (first | assumption | exact hC0 | exact hC1') | fail)) ?_
    show mz_Wp shM none 161 (16, [some (.inr 30), some (.inl x), some (.inl y), some (.inl 1)], [.inl (lie v l 0 x y)], σ) _
    refine wp_go 1 hM (fr' := (20, [some (.inr 30), some (.inl x), some (.inl y), some (.inl 1)], [.inl (lie v l 0 x y)], σ)) rfl ?_
    refine wp_ret hM rfl (rfl) ?_
    first | (exact ⟨by unfold aFind; first | rw [if_pos c6] | (rw [if_neg (fun q => q c6)]; rfl), h0, Fm.rf⟩) | fail

set_option maxRecDepth 100000 in
set_option maxHeartbeats 4000000 in
theorem sp_X6_told_1 (v : mz_G) (l : List tr3) (σ : mz_G) (x : Int) (y : Int) (w : Int) (h0 : MA σ v l) (h1 : GO v l) (h2 : mz_R x) (h3 : mz_R y) (h4 : mz_R w) : mz_Cl shM 163 [.inr 30, .inl x, .inl y, .inl w, .inl 1] σ (fun r σ' => r = some (aFrom v l 0 x y w) ∧ MA σ' v l ∧ Fm σ σ') := by
  have hM : mz_meth[163]? = some mtX6_told := rfl
  obtain ⟨hB, hSd, ⟨hP0, hP1⟩, ⟨hC0, hC1'⟩, hVr, hn30, hl2⟩ := id h1
  obtain ⟨hR, hT, hLen⟩ := id hB
  obtain ⟨⟨hW0, hW1⟩, ⟨hH0, hH1⟩, ⟨hn0, hn1⟩, hpt⟩ := id hR
  obtain ⟨⟨⟨hc1, hc2, hc3⟩, hcp, hcv⟩, hc4, hct⟩ := id h0
  have hWH := WH_bd hR
  refine mz_Cl.of hM ?_
  show mz_Wp shM none 163 (0, [some (.inr 30), some (.inl x), some (.inl y), some (.inl w), some (.inl 1)], [], σ) _
  refine wp_go 3 hM (fr' := (3, [some (.inr 30), some (.inl x), some (.inl y), some (.inl w), some (.inl 1)], [.inl y, .inl x, .inr 30], σ)) rfl ?_
  refine wp_calld (v := 0) (idx := 120) (j := 122) (N := mtX6_isDot) (as := [.inr 30, .inl x, .inl y]) (rest := []) hM rfl (Or.inl ⟨rfl, rfl⟩) rfl (sp_X6_isDot v l σ x y (by first | (first | assumption | omega) | fail) (by first | (first | assumption | omega) | fail) (by first | (first | assumption | omega) | fail) (by first | (first | assumption | omega) | fail)) ?_
  show mz_Wp shM none 163 (6, [some (.inr 30), some (.inl x), some (.inl y), some (.inl w), some (.inl 1)], [.inl (b01 (dot v x y))], σ) _
  refine wp_if (tgt := 18) hM rfl (by decide) b01_R (fun c6 => ?_) (fun c6 => ?_)
  · replace c6 := b01_eq0 (cmp_eq_t c6)
    refine wp_go 1 hM (fr' := (19, [some (.inr 30), some (.inl x), some (.inl y), some (.inl w), some (.inl 1)], [.inl (-1)], σ)) rfl ?_
    refine wp_ret hM rfl (rfl) ?_
    first | (exact ⟨by unfold aFrom; first | rw [if_pos c6] | (rw [if_neg (fun q => q c6)]; repeat rw [if_neg (by omega)]), h0, Fm.rf⟩) | fail
  · replace c6 := b01_ne0 (cmp_eq_f c6)
    refine wp_go 3 hM (fr' := (12, [some (.inr 30), some (.inl x), some (.inl y), some (.inl w), some (.inl 1)], [.inl 2, .inl 0, .inl w], σ)) rfl ?_
    refine wp_calld (v := 1) (idx := 116) (j := 103) (N := mtX6_isIn) (as := [.inl w, .inl 0, .inl 2]) (rest := []) hM rfl (Or.inr ⟨rfl, rfl⟩) rfl (sp_X6_isIn  σ w 0 2 (by first | (first | assumption | omega) | fail) (by first | (first | assumption | omega) | fail) (by first | (first | assumption | omega) | fail)) ?_
    show mz_Wp shM none 163 (15, [some (.inr 30), some (.inl x), some (.inl y), some (.inl w), some (.inl 1)], [.inl (b01 (0 ≤ w ∧ w ≤ 2))], σ) _
    refine wp_if (tgt := 20) hM rfl (by decide) b01_R (fun c15 => ?_) (fun c15 => ?_)
    · replace c15 := b01_ne0 (cmp_ne_t c15)
      refine wp_go 4 hM (fr' := (25, [some (.inr 30), some (.inl x), some (.inl y), some (.inl w), some (.inl 1)], [.inl 1, .inl y, .inl x, .inr 30], σ)) rfl ?_
      refine wp_call (v := 0) (idx := 227) (j := 159) (N := mtX6_finds) (as := [.inr 30, .inl x, .inl y, .inl 1]) (rest := []) hM rfl (Or.inl ⟨rfl, rfl⟩) rfl (sp_X6_finds_1 v l σ x y (by first | (first | assumption | omega) | fail) (by first | (first | assumption | omega) | fail) (by first | (first | assumption | omega) | fail)) ?_
      rintro r0 σ_25 ⟨rfl, hx_25, hf_25⟩
      show mz_Wp shM none 163 (28, [some (.inr 30), some (.inl x), some (.inl y), some (.inl w), some (.inl 1)], [], σ_25) _
      first | (obtain ⟨e1, e2, e3⟩ := id hx_25) | skip
      refine wp_go 1 hM (fr' := (29, [some (.inr 30), some (.inl x), some (.inl y), some (.inl w), some (.inl 1)], [.inl w], σ_25)) rfl ?_
      refine wp_if (tgt := 39) hM rfl (by decide) (by omega) (fun c29 => ?_) (fun c29 => ?_)
      · replace c29 := cmp_ne_t c29
        refine wp_go 2 hM (fr' := (41, [some (.inr 30), some (.inl x), some (.inl y), some (.inl w), some (.inl 1)], [.inl 1, .inl w], σ_25)) rfl ?_
        refine wp_ic (tgt := 51) hM rfl (by decide) (by omega) (by omega) (fun c41 => ?_) (fun c41 => ?_)
        · replace c41 := cmp_ne_t c41
          refine wp_go 2 hM (fr' := (55, [some (.inr 30), some (.inl x), some (.inl y), some (.inl w), some (.inl 1)], [.inl (σ_25 30 22)], σ_25)) rfl ?_
          refine wp_ret hM rfl (rfl) ?_
          first | (exact ⟨by unfold aFrom; rw [if_neg (show ¬ ¬ dot v x y from fun q => q c6)]; (first | rw [if_pos (show w = 0 by omega), e1] | rw [if_neg (show ¬ w = 0 by omega), if_pos (show w = 1 by omega), e2] | rw [if_neg (show ¬ w = 0 by omega), if_neg (show ¬ w = 1 by omega), if_pos (show w = 2 by omega), e3]), MA_Fp h0 hf_25, Fm_Fp hf_25⟩) | fail
        · replace c41 := cmp_ne_f c41
          refine wp_go 3 hM (fr' := (55, [some (.inr 30), some (.inl x), some (.inl y), some (.inl w), some (.inl 1)], [.inl (σ_25 30 21)], σ_25)) rfl ?_
          refine wp_ret hM rfl (rfl) ?_
          first | (exact ⟨by unfold aFrom; rw [if_neg (show ¬ ¬ dot v x y from fun q => q c6)]; (first | rw [if_pos (show w = 0 by omega), e1] | rw [if_neg (show ¬ w = 0 by omega), if_pos (show w = 1 by omega), e2] | rw [if_neg (show ¬ w = 0 by omega), if_neg (show ¬ w = 1 by omega), if_pos (show w = 2 by omega), e3]), MA_Fp h0 hf_25, Fm_Fp hf_25⟩) | fail
      · replace c29 := cmp_ne_f c29
        refine wp_go 3 hM (fr' := (55, [some (.inr 30), some (.inl x), some (.inl y), some (.inl w), some (.inl 1)], [.inl (σ_25 30 20)], σ_25)) rfl ?_
        refine wp_ret hM rfl (rfl) ?_
        first | (exact ⟨by unfold aFrom; rw [if_neg (show ¬ ¬ dot v x y from fun q => q c6)]; (first | rw [if_pos (show w = 0 by omega), e1] | rw [if_neg (show ¬ w = 0 by omega), if_pos (show w = 1 by omega), e2] | rw [if_neg (show ¬ w = 0 by omega), if_neg (show ¬ w = 1 by omega), if_pos (show w = 2 by omega), e3]), MA_Fp h0 hf_25, Fm_Fp hf_25⟩) | fail
    · replace c15 := b01_eq0 (cmp_ne_f c15)
      refine wp_go 1 hM (fr' := (19, [some (.inr 30), some (.inl x), some (.inl y), some (.inl w), some (.inl 1)], [.inl (-1)], σ)) rfl ?_
      refine wp_ret hM rfl (rfl) ?_
      first | (exact ⟨by unfold aFrom; first | rw [if_pos c6] | (rw [if_neg (fun q => q c6)]; repeat rw [if_neg (by omega)]), h0, Fm.rf⟩) | fail

set_option maxRecDepth 100000 in
set_option maxHeartbeats 4000000 in
theorem sp_X6_from (v : mz_G) (l : List tr3) (σ : mz_G) (x : Int) (y : Int) (w : Int) (h0 : MA σ v l) (h1 : GO v l) (h2 : mz_R x) (h3 : mz_R y) (h4 : mz_R w) : mz_Cl shM 164 [.inr 30, .inl x, .inl y, .inl w] σ (fun r σ' => r = some (aFrom v l 1 x y w) ∧ MA σ' v l ∧ Fm σ σ') := by
  have hM : mz_meth[164]? = some mtX6_from := rfl
  obtain ⟨hB, hSd, ⟨hP0, hP1⟩, ⟨hC0, hC1'⟩, hVr, hn30, hl2⟩ := id h1
  obtain ⟨hR, hT, hLen⟩ := id hB
  obtain ⟨⟨hW0, hW1⟩, ⟨hH0, hH1⟩, ⟨hn0, hn1⟩, hpt⟩ := id hR
  obtain ⟨⟨⟨hc1, hc2, hc3⟩, hcp, hcv⟩, hc4, hct⟩ := id h0
  have hWH := WH_bd hR
  refine mz_Cl.of hM ?_
  show mz_Wp shM none 164 (0, [some (.inr 30), some (.inl x), some (.inl y), some (.inl w)], [], σ) _
  refine wp_go 5 hM (fr' := (5, [some (.inr 30), some (.inl x), some (.inl y), some (.inl w)], [.inl 0, .inl w, .inl y, .inl x, .inr 30], σ)) rfl ?_
  refine wp_call (v := 0) (idx := 231) (j := 163) (N := mtX6_told) (as := [.inr 30, .inl x, .inl y, .inl w, .inl 0]) (rest := []) hM rfl (Or.inl ⟨rfl, rfl⟩) rfl (sp_X6_told_0 v l σ x y w (by first | (first | assumption | omega) | fail) (by first | (first | assumption | omega) | fail) (by first | (first | assumption | omega) | fail) (by first | (first | assumption | omega) | fail) (by first | (first | assumption | omega) | fail)) ?_
  rintro r0 σ_5 ⟨rfl, hA_5, hf_5⟩
  show mz_Wp shM none 164 (8, [some (.inr 30), some (.inl x), some (.inl y), some (.inl w)], [.inl (aFrom v l 1 x y w)], σ_5) _
  refine wp_ret hM rfl (rfl) ?_
  first | (exact ⟨rfl, hA_5, hf_5⟩) | fail

set_option maxRecDepth 100000 in
set_option maxHeartbeats 4000000 in
theorem sp_X6_to (v : mz_G) (l : List tr3) (σ : mz_G) (x : Int) (y : Int) (w : Int) (h0 : MA σ v l) (h1 : GO v l) (h2 : mz_R x) (h3 : mz_R y) (h4 : mz_R w) : mz_Cl shM 165 [.inr 30, .inl x, .inl y, .inl w] σ (fun r σ' => r = some (aFrom v l 0 x y w) ∧ MA σ' v l ∧ Fm σ σ') := by
  have hM : mz_meth[165]? = some mtX6_to := rfl
  obtain ⟨hB, hSd, ⟨hP0, hP1⟩, ⟨hC0, hC1'⟩, hVr, hn30, hl2⟩ := id h1
  obtain ⟨hR, hT, hLen⟩ := id hB
  obtain ⟨⟨hW0, hW1⟩, ⟨hH0, hH1⟩, ⟨hn0, hn1⟩, hpt⟩ := id hR
  obtain ⟨⟨⟨hc1, hc2, hc3⟩, hcp, hcv⟩, hc4, hct⟩ := id h0
  have hWH := WH_bd hR
  refine mz_Cl.of hM ?_
  show mz_Wp shM none 165 (0, [some (.inr 30), some (.inl x), some (.inl y), some (.inl w)], [], σ) _
  refine wp_go 5 hM (fr' := (5, [some (.inr 30), some (.inl x), some (.inl y), some (.inl w)], [.inl 1, .inl w, .inl y, .inl x, .inr 30], σ)) rfl ?_
  refine wp_call (v := 0) (idx := 231) (j := 163) (N := mtX6_told) (as := [.inr 30, .inl x, .inl y, .inl w, .inl 1]) (rest := []) hM rfl (Or.inl ⟨rfl, rfl⟩) rfl (sp_X6_told_1 v l σ x y w (by first | (first | assumption | omega) | fail) (by first | (first | assumption | omega) | fail) (by first | (first | assumption | omega) | fail) (by first | (first | assumption | omega) | fail) (by first | (first | assumption | omega) | fail)) ?_
  rintro r0 σ_5 ⟨rfl, hA_5, hf_5⟩
  show mz_Wp shM none 165 (8, [some (.inr 30), some (.inl x), some (.inl y), some (.inl w)], [.inl (aFrom v l 0 x y w)], σ_5) _
  refine wp_ret hM rfl (rfl) ?_
  first | (exact ⟨rfl, hA_5, hf_5⟩) | fail

set_option maxRecDepth 100000 in
set_option maxHeartbeats 4000000 in
theorem sp_X6_nearestOf (v : mz_G) (l : List tr3) (σ : mz_G) (x : Int) (y : Int) (h0 : MA σ v l) (h1 : GO v l) (h2 : dot v x y) : mz_Cl shM 160 [.inr 30, .inl x, .inl y] σ (fun r σ' => r = some (nea v l x y) ∧ Fp σ σ') := by
  have hM : mz_meth[160]? = some mtX6_nearestOf := rfl
  obtain ⟨hB, hSd, ⟨hP0, hP1⟩, ⟨hC0, hC1'⟩, hVr, hn30, hl2⟩ := id h1
  obtain ⟨hR, hT, hLen⟩ := id hB
  obtain ⟨⟨hW0, hW1⟩, ⟨hH0, hH1⟩, ⟨hn0, hn1⟩, hpt⟩ := id hR
  obtain ⟨⟨⟨hc1, hc2, hc3⟩, hcp, hcv⟩, hc4, hct⟩ := id h0
  have hWH := WH_bd hR
  have hfb := f_bd hB (q := 1) (by decide) hP1 hC1' h2
  refine mz_Cl.of hM ?_
  show mz_Wp shM none 160 (0, [some (.inr 30), some (.inl x), some (.inl y)], [], σ) _
  refine wp_go 4 hM (fr' := (4, [some (.inr 30), some (.inl x), some (.inl y)], [.inl 0, .inl y, .inl x, .inr 30], σ)) rfl ?_
  refine wp_call (v := 0) (idx := 227) (j := 159) (N := mtX6_finds) (as := [.inr 30, .inl x, .inl y, .inl 0]) (rest := []) hM rfl (Or.inl ⟨rfl, rfl⟩) rfl (sp_X6_finds_0 v l σ x y (by first | (first | assumption | omega) | fail) (by first | (first | assumption | omega) | fail) (by first | (first | assumption | omega) | fail)) ?_
  rintro r0 σ_4 ⟨rfl, hx_4, hf_4⟩
  show mz_Wp shM none 160 (7, [some (.inr 30), some (.inl x), some (.inl y)], [], σ_4) _
  first | (obtain ⟨e1, e2, e3⟩ := id hx_4) | skip
  first | (have hw4 : σ_4 30 0 = v 0 0 := (MA_Fp h0 hf_4).1.1.1) | skip
  refine wp_go 15 hM (fr' := (30, [some (.inr 30), some (.inl x), some (.inl y)], [.inl (2 * (σ_4 30 22)), .inl (((2 * (σ_4 30 21)) + (σ_4 30 22)) - 1), .inl (σ_4 30 0)], σ_4)) rfl ?_
  refine wp_div hM rfl (by omega) (by omega) (by omega) ?_
  refine wp_go 14 hM (fr' := (51, [some (.inr 30), some (.inl x), some (.inl y)], [.inl (2 * (σ_4 30 22)), .inl (((2 * (σ_4 30 20)) + (σ_4 30 22)) - 1), .inl ((σ_4 30 0) * ((((2 * (σ_4 30 21)) + (σ_4 30 22)) - 1).tdiv (2 * (σ_4 30 22))))], σ_4)) rfl ?_
  refine wp_div hM rfl (by omega) (by omega) (by omega) ?_
  refine wp_go 1 hM (fr' := (53, [some (.inr 30), some (.inl x), some (.inl y)], [.inl (((σ_4 30 0) * ((((2 * (σ_4 30 21)) + (σ_4 30 22)) - 1).tdiv (2 * (σ_4 30 22)))) + ((((2 * (σ_4 30 20)) + (σ_4 30 22)) - 1).tdiv (2 * (σ_4 30 22))))], σ_4)) rfl ?_
  refine wp_ret hM rfl (rfl) ?_
  first | (exact ⟨by rw [e1, e2, e3, hw4, rnd_div hfb.2.1.1 hfb.2.2.1.1, rnd_div hfb.1.1 hfb.2.2.1.1, Int.mul_comm]; rfl, hf_4⟩) | fail

set_option maxRecDepth 100000 in
set_option maxHeartbeats 4000000 in
theorem sp_X6_takenSum (v : mz_G) (l : List tr3) (σ : mz_G)  (h0 : MA σ v l) (h1 : GO v l) : mz_Cl shM 156 [.inr 30] σ (fun r σ' => r = some (ksum v l) ∧ Fp σ σ') := by
  have hM : mz_meth[156]? = some mtX6_takenSum := rfl
  obtain ⟨hB, hSd, ⟨hP0, hP1⟩, ⟨hC0, hC1'⟩, hVr, hn30, hl2⟩ := id h1
  obtain ⟨hR, hT, hLen⟩ := id hB
  obtain ⟨⟨hW0, hW1⟩, ⟨hH0, hH1⟩, ⟨hn0, hn1⟩, hpt⟩ := id hR
  obtain ⟨⟨⟨hc1, hc2, hc3⟩, hcp, hcv⟩, hc4, hct⟩ := id h0
  have hWH := WH_bd hR
  refine mz_Cl.of hM ?_
  show mz_Wp shM none 156 (0, [some (.inr 30), none, none], [], σ) _
  refine wp_go 4 hM (fr' := (4, [some (.inr 30), some (.inl 0), some (.inl 0)], [], σ)) rfl ?_
  have loop4 : ∀ (fuel : Nat) (f : Int) (d : Int) (σ1 : mz_G), (0 ≤ d) → (d ≤ v 0 0 * v 0 1) → (f = sumI d (fun i => v 6 (ne v l i).toNat)) → (Fp σ σ1) → ((v 0 0 * v 0 1 - d : Int) < fuel) → mz_Wp shM none 156 (4, [some (.inr 30), some (.inl f), some (.inl d)], [], σ1) (fun r σ' => r = some (ksum v l) ∧ Fp σ σ') := by
    intro fuel
    induction fuel with
    | zero =>
      intro f d σ1 hv4_0 hv4_1 hv4_2 hv4_3 hf4
      exfalso
      omega
    | succ fuel ih4 =>
      intro f d σ1 hv4_0 hv4_1 hv4_2 hv4_3 hf4
      have hA1 := MA_Fp h0 hv4_3
      have hw1 : σ1 30 0 = v 0 0 := hA1.1.1.1
      have hh1 : σ1 30 1 = v 0 1 := hA1.1.1.2.1
      have hs : sumI (d + 1) (fun i => v 6 (ne v l i).toNat) = sumI d (fun i => v 6 (ne v l i).toNat) + v 6 (ne v l d).toNat := sumI_s hv4_0
      have hb := sumI_bd (a := 0) (b := 15) (f := (fun i => v 6 (ne v l i).toNat)) hv4_0 (fun i a b => by have := ne_in h1 (d := i) a (by omega); exact hVr _ this.1 this.2)
      refine wp_go 6 hM (fr' := (14, [some (.inr 30), some (.inl f), some (.inl d)], [.inl ((σ1 30 0) * (σ1 30 1)), .inl d], σ1)) rfl ?_
      refine wp_ic (tgt := 47) hM rfl (by decide) (by omega) (by first | (rw [hw1, hh1]; omega) | fail) (fun c14 => ?_) (fun c14 => ?_)
      · replace c14 := cmp_ge_t c14
        first | (rw [hw1, hh1] at c14) | skip
        refine wp_go 1 hM (fr' := (48, [some (.inr 30), some (.inl f), some (.inl d)], [.inl f], σ1)) rfl ?_
        refine wp_ret hM rfl (rfl) ?_
        first | (exact ⟨by unfold ksum; rw [hv4_2, show d = v 0 0 * v 0 1 from by omega], hv4_3⟩) | fail
      · replace c14 := cmp_ge_f c14
        first | (rw [hw1, hh1] at c14) | skip
        first | (have hdm := dmv hR hv4_0 (show d < v 0 0 * v 0 1 by omega)) | skip
        first | (have hdm1 := hdm.1) | skip
        first | (have hni := ne_in h1 hv4_0 (show d < v 0 0 * v 0 1 by omega)) | skip
        refine wp_go 7 hM (fr' := (28, [some (.inr 30), some (.inl f), some (.inl d)], [.inl (σ1 30 0), .inl d, .inr 30, .inr 36, .inl f], σ1)) rfl ?_
        refine wp_rem hM rfl (by omega) (by omega) (by omega) ?_
        first | (rw [hw1, (tdm hR hv4_0).1]) | skip
        refine wp_go 3 hM (fr' := (34, [some (.inr 30), some (.inl f), some (.inl d)], [.inl (σ1 30 0), .inl d, .inl (d % v 0 0), .inr 30, .inr 36, .inl f], σ1)) rfl ?_
        refine wp_div hM rfl (by omega) (by omega) (by omega) ?_
        first | (rw [hw1, (tdm hR hv4_0).2]) | skip
        refine wp_call (v := 0) (idx := 189) (j := 160) (N := mtX6_nearestOf) (as := [.inr 30, .inl (d % v 0 0), .inl (d / v 0 0)]) (rest := [.inr 36, .inl f]) hM rfl (Or.inl ⟨rfl, rfl⟩) rfl (sp_X6_nearestOf v l σ1 (d % v 0 0) (d / v 0 0) (by first | (first | assumption | omega) | fail) (by first | (first | assumption | omega) | fail) (by first | (first | assumption | omega) | fail)) ?_
        rintro r0 σ_35 ⟨rfl, hf_35⟩
        show mz_Wp shM none 156 (38, [some (.inr 30), some (.inl f), some (.inl d)], [.inl (nea v l (d % v 0 0) (d / v 0 0)), .inr 36, .inl f], σ_35) _
        first | (rw [show nea v l (d % v 0 0) (d / v 0 0) = ne v l d from rfl]) | skip
        first | (have hA2 := MA_Fp hA1 hf_35) | skip
        refine wp_al (n := 400) hM rfl (by decide) rfl (by omega) (by omega) ?_
        first | (rw [MA_val hA2 hni.1 hni.2]) | skip
        refine wp_go 4 hM (fr' := (4, [some (.inr 30), some (.inl (f + (v 6 (ne v l d).toNat))), some (.inl (d + 1))], [], σ_35)) rfl ?_
        exact ih4 (f + (v 6 (ne v l d).toNat)) (d + 1) σ_35 (by omega) (by omega) (by first | (rw [hs]; omega) | fail) (by first | (exact hv4_3.tr hf_35) | fail) (by omega)
  exact loop4 402 0 0 σ (by omega) (by omega) (by rfl) (by first | (exact Fp.rf) | fail) (by omega)

set_option maxRecDepth 100000 in
set_option maxHeartbeats 4000000 in
theorem sp_X6_dotsIn (v : mz_G) (l : List tr3) (σ : mz_G) (t : Int) (h0 : MA σ v l) (h1 : GO v l) (h2 : mz_R t) : mz_Cl shM 150 [.inr 30, .inl t] σ (fun r σ' => r = some (tin v l t) ∧ σ' = σ) := by
  have hM : mz_meth[150]? = some mtX6_dotsIn := rfl
  obtain ⟨hB, hSd, ⟨hP0, hP1⟩, ⟨hC0, hC1'⟩, hVr, hn30, hl2⟩ := id h1
  obtain ⟨hR, hT, hLen⟩ := id hB
  obtain ⟨⟨hW0, hW1⟩, ⟨hH0, hH1⟩, ⟨hn0, hn1⟩, hpt⟩ := id hR
  obtain ⟨⟨⟨hc1, hc2, hc3⟩, hcp, hcv⟩, hc4, hct⟩ := id h0
  have hWH := WH_bd hR
  refine mz_Cl.of hM ?_
  show mz_Wp shM none 150 (0, [some (.inr 30), some (.inl t), none, none], [], σ) _
  refine wp_go 4 hM (fr' := (4, [some (.inr 30), some (.inl t), some (.inl 0), some (.inl 0)], [], σ)) rfl ?_
  have loop4 : ∀ (fuel : Nat) (f : Int) (d : Int), (0 ≤ d) → (d ≤ v 0 0 * v 0 1) → (f = sumI d (fun i => b01 (lie v l 1 (i % v 0 0) (i / v 0 0) = t))) → ((v 0 0 * v 0 1 - d : Int) < fuel) → mz_Wp shM none 150 (4, [some (.inr 30), some (.inl t), some (.inl f), some (.inl d)], [], σ) (fun r σ' => r = some (tin v l t) ∧ σ' = σ) := by
    intro fuel
    induction fuel with
    | zero =>
      intro f d hv4_0 hv4_1 hv4_2 hf4
      exfalso
      omega
    | succ fuel ih4 =>
      intro f d hv4_0 hv4_1 hv4_2 hf4
      have hA1 := id h0
      have hw1 : σ 30 0 = v 0 0 := hA1.1.1.1
      have hh1 : σ 30 1 = v 0 1 := hA1.1.1.2.1
      have hs : sumI (d + 1) (fun i => b01 (lie v l 1 (i % v 0 0) (i / v 0 0) = t)) = sumI d (fun i => b01 (lie v l 1 (i % v 0 0) (i / v 0 0) = t)) + b01 (lie v l 1 (d % v 0 0) (d / v 0 0) = t) := sumI_s hv4_0
      have hb := sumI_bd (a := 0) (b := 1) (f := (fun i => b01 (lie v l 1 (i % v 0 0) (i / v 0 0) = t))) hv4_0 (fun i a b => by rcases b01_01 (P := lie v l 1 (i % v 0 0) (i / v 0 0) = t) with q | q <;> omega)
      refine wp_go 6 hM (fr' := (14, [some (.inr 30), some (.inl t), some (.inl f), some (.inl d)], [.inl ((σ 30 0) * (σ 30 1)), .inl d], σ)) rfl ?_
      refine wp_ic (tgt := 52) hM rfl (by decide) (by omega) (by first | (rw [hw1, hh1]; omega) | fail) (fun c14 => ?_) (fun c14 => ?_)
      · replace c14 := cmp_ge_t c14
        first | (rw [hw1, hh1] at c14) | skip
        refine wp_go 1 hM (fr' := (53, [some (.inr 30), some (.inl t), some (.inl f), some (.inl d)], [.inl f], σ)) rfl ?_
        refine wp_ret hM rfl (rfl) ?_
        first | (exact ⟨by unfold tin; rw [hv4_2, show d = v 0 0 * v 0 1 from by omega], rfl⟩) | fail
      · replace c14 := cmp_ge_f c14
        first | (rw [hw1, hh1] at c14) | skip
        first | (have hdm := dmv hR hv4_0 (show d < v 0 0 * v 0 1 by omega)) | skip
        first | (have hdm1 := hdm.1) | skip
        first | (have hni := ne_in h1 hv4_0 (show d < v 0 0 * v 0 1 by omega)) | skip
        refine wp_go 5 hM (fr' := (24, [some (.inr 30), some (.inl t), some (.inl f), some (.inl d)], [.inl (σ 30 0), .inl d, .inr 30, .inl f], σ)) rfl ?_
        refine wp_rem hM rfl (by omega) (by omega) (by omega) ?_
        first | (rw [hw1, (tdm hR hv4_0).1]) | skip
        refine wp_go 3 hM (fr' := (30, [some (.inr 30), some (.inl t), some (.inl f), some (.inl d)], [.inl (σ 30 0), .inl d, .inl (d % v 0 0), .inr 30, .inl f], σ)) rfl ?_
        refine wp_div hM rfl (by omega) (by omega) (by omega) ?_
        first | (rw [hw1, (tdm hR hv4_0).2]) | skip
        refine wp_go 1 hM (fr' := (32, [some (.inr 30), some (.inl t), some (.inl f), some (.inl d)], [.inl 0, .inl (d / v 0 0), .inl (d % v 0 0), .inr 30, .inl f], σ)) rfl ?_
        refine wp_calld (v := 0) (idx := 195) (j := 121) (N := mtX6_lies) (as := [.inr 30, .inl (d % v 0 0), .inl (d / v 0 0), .inl 0]) (rest := [.inl f]) hM rfl (Or.inl ⟨rfl, rfl⟩) rfl (sp_X6_lies_0 v l σ (d % v 0 0) (d / v 0 0) (by first | (first | assumption | omega) | fail) (by first | (first | assumption | omega) | fail) (by first | (first | assumption | omega) | fail) (by first | (first | assumption | omega) | fail)) ?_
        show mz_Wp shM none 150 (35, [some (.inr 30), some (.inl t), some (.inl f), some (.inl d)], [.inl (lie v l 1 (d % v 0 0) (d / v 0 0)), .inl f], σ) _
        first | (have hlb := lie_bd (v := v) (l := l) (q := 1) (x := d % v 0 0) (y := d / v 0 0)) | skip
        refine wp_go 1 hM (fr' := (36, [some (.inr 30), some (.inl t), some (.inl f), some (.inl d)], [.inl t, .inl (lie v l 1 (d % v 0 0) (d / v 0 0)), .inl f], σ)) rfl ?_
        refine wp_ic (tgt := 43) hM rfl (by decide) (by omega) (by omega) (fun c36 => ?_) (fun c36 => ?_)
        · replace c36 := cmp_ne_t c36
          refine wp_go 5 hM (fr' := (4, [some (.inr 30), some (.inl t), some (.inl (f + 0)), some (.inl (d + 1))], [], σ)) rfl ?_
          exact ih4 (f + 0) (d + 1) (by omega) (by omega) (by first | (rw [hs]; first | (rw [b01_t c36]; omega) | (rw [b01_f c36]; omega)) | fail) (by omega)
        · replace c36 := cmp_ne_f c36
          refine wp_go 6 hM (fr' := (4, [some (.inr 30), some (.inl t), some (.inl (f + 1)), some (.inl (d + 1))], [], σ)) rfl ?_
          exact ih4 (f + 1) (d + 1) (by omega) (by omega) (by first | (rw [hs]; first | (rw [b01_t c36]; omega) | (rw [b01_f c36]; omega)) | fail) (by omega)
  exact loop4 402 0 0 (by omega) (by omega) (by rfl) (by omega)

set_option maxRecDepth 100000 in
set_option maxHeartbeats 4000000 in
theorem sp_X6_triangle (v : mz_G) (l : List tr3) (σ : mz_G) (t : Int) (w : Int) (h0 : MA σ v l) (h1 : GO v l) (h2 : mz_R t) (h3 : mz_R w) : mz_Cl shM 151 [.inr 30, .inl t, .inl w] σ (fun r σ' => r = some (aTri v l t w) ∧ MA σ' v l ∧ Fm σ σ') := by
  have hM : mz_meth[151]? = some mtX6_triangle := rfl
  obtain ⟨hB, hSd, ⟨hP0, hP1⟩, ⟨hC0, hC1'⟩, hVr, hn30, hl2⟩ := id h1
  obtain ⟨hR, hT, hLen⟩ := id hB
  obtain ⟨⟨hW0, hW1⟩, ⟨hH0, hH1⟩, ⟨hn0, hn1⟩, hpt⟩ := id hR
  obtain ⟨⟨⟨hc1, hc2, hc3⟩, hcp, hcv⟩, hc4, hct⟩ := id h0
  have hWH := WH_bd hR
  refine mz_Cl.of hM ?_
  show mz_Wp shM none 151 (0, [some (.inr 30), some (.inl t), some (.inl w)], [], σ) _
  refine wp_go 6 hM (fr' := (8, [some (.inr 30), some (.inl t), some (.inl w)], [.inl ((σ 30 3) - 1), .inl 0, .inl t], σ)) rfl ?_
  refine wp_calld (v := 1) (idx := 116) (j := 103) (N := mtX6_isIn) (as := [.inl t, .inl 0, .inl ((σ 30 3) - 1)]) (rest := []) hM rfl (Or.inr ⟨rfl, rfl⟩) rfl (sp_X6_isIn  σ t 0 ((σ 30 3) - 1) (by first | (first | assumption | omega) | fail) (by first | (first | assumption | omega) | fail) (by first | (first | assumption | omega) | fail)) ?_
  show mz_Wp shM none 151 (11, [some (.inr 30), some (.inl t), some (.inl w)], [.inl (b01 (0 ≤ t ∧ t ≤ ((σ 30 3) - 1)))], σ) _
  refine wp_if (tgt := 23) hM rfl (by decide) b01_R (fun c11 => ?_) (fun c11 => ?_)
  · replace c11 := b01_eq0 (cmp_eq_t c11)
    refine wp_go 1 hM (fr' := (24, [some (.inr 30), some (.inl t), some (.inl w)], [.inl (-1)], σ)) rfl ?_
    refine wp_ret hM rfl (rfl) ?_
    refine ⟨?_, h0, Fm.rf⟩
    unfold aTri
    by_cases q : 0 ≤ t ∧ t < (l.length : Int)
    · rw [if_neg (show ¬ ¬ (0 ≤ t ∧ t < (l.length : Int)) from fun z => z q), if_neg (show ¬ w = 0 by omega), if_neg (show ¬ w = 1 by omega), if_neg (show ¬ w = 2 by omega), if_neg (show ¬ w = 3 by omega), if_neg (show ¬ w = 4 by omega), if_neg (show ¬ w = 5 by omega)]
    · rw [if_pos q]
  · replace c11 := b01_ne0 (cmp_eq_f c11)
    first | (have hti : 0 ≤ t ∧ t < (l.length : Int) := by omega) | skip
    refine wp_go 3 hM (fr' := (17, [some (.inr 30), some (.inl t), some (.inl w)], [.inl 5, .inl 0, .inl w], σ)) rfl ?_
    refine wp_calld (v := 1) (idx := 116) (j := 103) (N := mtX6_isIn) (as := [.inl w, .inl 0, .inl 5]) (rest := []) hM rfl (Or.inr ⟨rfl, rfl⟩) rfl (sp_X6_isIn  σ w 0 5 (by first | (first | assumption | omega) | fail) (by first | (first | assumption | omega) | fail) (by first | (first | assumption | omega) | fail)) ?_
    show mz_Wp shM none 151 (20, [some (.inr 30), some (.inl t), some (.inl w)], [.inl (b01 (0 ≤ w ∧ w ≤ 5))], σ) _
    refine wp_if (tgt := 25) hM rfl (by decide) b01_R (fun c20 => ?_) (fun c20 => ?_)
    · replace c20 := b01_ne0 (cmp_ne_t c20)
      refine wp_go 2 hM (fr' := (27, [some (.inr 30), some (.inl t), some (.inl w)], [.inl 3, .inl w], σ)) rfl ?_
      refine wp_ic (tgt := 37) hM rfl (by decide) (by omega) (by omega) (fun c27 => ?_) (fun c27 => ?_)
      · replace c27 := cmp_ge_t c27
        refine wp_go 2 hM (fr' := (39, [some (.inr 30), some (.inl t), some (.inl w)], [.inl 5, .inl w], σ)) rfl ?_
        refine wp_ic (tgt := 50) hM rfl (by decide) (by omega) (by omega) (fun c39 => ?_) (fun c39 => ?_)
        · replace c39 := cmp_ne_t c39
          refine wp_go 4 hM (fr' := (54, [some (.inr 30), some (.inl t), some (.inl w)], [.inl 3, .inl w, .inl t, .inr 30], σ)) rfl ?_
          refine wp_ic (tgt := 61) hM rfl (by decide) (by omega) (by omega) (fun c54 => ?_) (fun c54 => ?_)
          · replace c54 := cmp_ne_t c54
            refine wp_go 1 hM (fr' := (62, [some (.inr 30), some (.inl t), some (.inl w)], [.inl 0, .inl t, .inr 30], σ)) rfl ?_
            refine wp_calld (v := 0) (idx := 104) (j := 114) (N := mtX6_areaOf) (as := [.inr 30, .inl t, .inl 0]) (rest := []) hM rfl (Or.inl ⟨rfl, rfl⟩) rfl (sp_X6_areaOf_0 v l σ t (by first | (first | assumption | exact hti.1 | exact hti.2 | omega) | fail) (by first | (first | assumption | exact hti.1 | exact hti.2 | omega) | fail) (by first | (first | assumption | exact hti.1 | exact hti.2 | omega) | fail) (by first | (first | assumption | exact hti.1 | exact hti.2 | omega) | fail)) ?_
            show mz_Wp shM none 151 (65, [some (.inr 30), some (.inl t), some (.inl w)], [.inl (tar v 1 (tg l t))], σ) _
            refine wp_ret hM rfl (rfl) ?_
            first | (first | (exact ⟨by unfold aTri; rw [if_neg (fun q => q hti)]; rw [show w = 5 from c39]; rfl, h0, Fm.rf⟩) | (exact ⟨by unfold aTri; rw [if_neg (fun q => q hti), show w = 3 from c54]; rfl, h0, Fm.rf⟩) | (exact ⟨by unfold aTri; rw [if_neg (fun q => q hti), show w = 4 from by omega]; rfl, h0, Fm.rf⟩)) | fail
          · replace c54 := cmp_ne_f c54
            refine wp_go 2 hM (fr' := (62, [some (.inr 30), some (.inl t), some (.inl w)], [.inl 1, .inl t, .inr 30], σ)) rfl ?_
            refine wp_calld (v := 0) (idx := 104) (j := 114) (N := mtX6_areaOf) (as := [.inr 30, .inl t, .inl 1]) (rest := []) hM rfl (Or.inl ⟨rfl, rfl⟩) rfl (sp_X6_areaOf_1 v l σ t (by first | (first | assumption | exact hti.1 | exact hti.2 | omega) | fail) (by first | (first | assumption | exact hti.1 | exact hti.2 | omega) | fail) (by first | (first | assumption | exact hti.1 | exact hti.2 | omega) | fail) (by first | (first | assumption | exact hti.1 | exact hti.2 | omega) | fail)) ?_
            show mz_Wp shM none 151 (65, [some (.inr 30), some (.inl t), some (.inl w)], [.inl (tar v 0 (tg l t))], σ) _
            refine wp_ret hM rfl (rfl) ?_
            first | (first | (exact ⟨by unfold aTri; rw [if_neg (fun q => q hti)]; rw [show w = 5 from c39]; rfl, h0, Fm.rf⟩) | (exact ⟨by unfold aTri; rw [if_neg (fun q => q hti), show w = 3 from c54]; rfl, h0, Fm.rf⟩) | (exact ⟨by unfold aTri; rw [if_neg (fun q => q hti), show w = 4 from by omega]; rfl, h0, Fm.rf⟩)) | fail
        · replace c39 := cmp_ne_f c39
          refine wp_go 2 hM (fr' := (44, [some (.inr 30), some (.inl t), some (.inl w)], [.inl t, .inr 30], σ)) rfl ?_
          refine wp_calld (v := 0) (idx := 199) (j := 150) (N := mtX6_dotsIn) (as := [.inr 30, .inl t]) (rest := []) hM rfl (Or.inl ⟨rfl, rfl⟩) rfl (sp_X6_dotsIn v l σ t (by first | (first | assumption | omega) | fail) (by first | (first | assumption | omega) | fail) (by first | (first | assumption | omega) | fail)) ?_
          show mz_Wp shM none 151 (47, [some (.inr 30), some (.inl t), some (.inl w)], [.inl (tin v l t)], σ) _
          refine wp_go 1 hM (fr' := (65, [some (.inr 30), some (.inl t), some (.inl w)], [.inl (tin v l t)], σ)) rfl ?_
          refine wp_ret hM rfl (rfl) ?_
          first | (first | (exact ⟨by unfold aTri; rw [if_neg (fun q => q hti)]; rw [show w = 5 from c39]; rfl, h0, Fm.rf⟩) | (exact ⟨by unfold aTri; rw [if_neg (fun q => q hti), show w = 3 from c54]; rfl, h0, Fm.rf⟩) | (exact ⟨by unfold aTri; rw [if_neg (fun q => q hti), show w = 4 from by omega]; rfl, h0, Fm.rf⟩)) | fail
      · replace c27 := cmp_ge_f c27
        refine wp_go 3 hM (fr' := (33, [some (.inr 30), some (.inl t), some (.inl w)], [.inl w, .inl t, .inr 30], σ)) rfl ?_
        refine wp_calld (v := 0) (idx := 85) (j := 111) (N := mtX6_at) (as := [.inr 30, .inl t, .inl w]) (rest := []) hM rfl (Or.inl ⟨rfl, rfl⟩) rfl (sp_X6_at v l σ t w (by first | (first | assumption | exact hti.1 | exact hti.2 | omega) | fail) (by first | (first | assumption | exact hti.1 | exact hti.2 | omega) | fail) (by first | (first | assumption | exact hti.1 | exact hti.2 | omega) | fail) (by first | (first | assumption | exact hti.1 | exact hti.2 | omega) | fail) (by first | (first | assumption | exact hti.1 | exact hti.2 | omega) | fail) (by first | (first | assumption | exact hti.1 | exact hti.2 | omega) | fail)) ?_
        show mz_Wp shM none 151 (36, [some (.inr 30), some (.inl t), some (.inl w)], [.inl (tk (tg l t) w)], σ) _
        refine wp_ret hM rfl (rfl) ?_
        first | (exact ⟨by unfold aTri; rw [if_neg (show ¬ ¬ (0 ≤ t ∧ t < (l.length : Int)) from fun q => q hti)]; rcases (show w = 0 ∨ w = 1 ∨ w = 2 by omega) with rfl | rfl | rfl <;> rfl, h0, Fm.rf⟩) | fail
    · replace c20 := b01_eq0 (cmp_ne_f c20)
      refine wp_go 1 hM (fr' := (24, [some (.inr 30), some (.inl t), some (.inl w)], [.inl (-1)], σ)) rfl ?_
      refine wp_ret hM rfl (rfl) ?_
      refine ⟨?_, h0, Fm.rf⟩
      unfold aTri
      by_cases q : 0 ≤ t ∧ t < (l.length : Int)
      · rw [if_neg (show ¬ ¬ (0 ≤ t ∧ t < (l.length : Int)) from fun z => z q), if_neg (show ¬ w = 0 by omega), if_neg (show ¬ w = 1 by omega), if_neg (show ¬ w = 2 by omega), if_neg (show ¬ w = 3 by omega), if_neg (show ¬ w = 4 by omega), if_neg (show ¬ w = 5 by omega)]
      · rw [if_pos q]

set_option maxRecDepth 100000 in
set_option maxHeartbeats 4000000 in
theorem sp_X6_nearest (v : mz_G) (l : List tr3) (σ : mz_G) (x : Int) (y : Int) (h0 : MA σ v l) (h1 : GO v l) (h2 : mz_R x) (h3 : mz_R y) : mz_Cl shM 166 [.inr 30, .inl x, .inl y] σ (fun r σ' => r = some (aNear v l x y) ∧ MA σ' v l ∧ Fm σ σ') := by
  have hM : mz_meth[166]? = some mtX6_nearest := rfl
  obtain ⟨hB, hSd, ⟨hP0, hP1⟩, ⟨hC0, hC1'⟩, hVr, hn30, hl2⟩ := id h1
  obtain ⟨hR, hT, hLen⟩ := id hB
  obtain ⟨⟨hW0, hW1⟩, ⟨hH0, hH1⟩, ⟨hn0, hn1⟩, hpt⟩ := id hR
  obtain ⟨⟨⟨hc1, hc2, hc3⟩, hcp, hcv⟩, hc4, hct⟩ := id h0
  have hWH := WH_bd hR
  refine mz_Cl.of hM ?_
  show mz_Wp shM none 166 (0, [some (.inr 30), some (.inl x), some (.inl y)], [], σ) _
  refine wp_go 3 hM (fr' := (3, [some (.inr 30), some (.inl x), some (.inl y)], [.inl y, .inl x, .inr 30], σ)) rfl ?_
  refine wp_calld (v := 0) (idx := 120) (j := 122) (N := mtX6_isDot) (as := [.inr 30, .inl x, .inl y]) (rest := []) hM rfl (Or.inl ⟨rfl, rfl⟩) rfl (sp_X6_isDot v l σ x y (by first | (first | assumption | omega) | fail) (by first | (first | assumption | omega) | fail) (by first | (first | assumption | omega) | fail) (by first | (first | assumption | omega) | fail)) ?_
  show mz_Wp shM none 166 (6, [some (.inr 30), some (.inl x), some (.inl y)], [.inl (b01 (dot v x y))], σ) _
  refine wp_if (tgt := 18) hM rfl (by decide) b01_R (fun c6 => ?_) (fun c6 => ?_)
  · replace c6 := b01_eq0 (cmp_eq_t c6)
    refine wp_go 1 hM (fr' := (19, [some (.inr 30), some (.inl x), some (.inl y)], [.inl (-1)], σ)) rfl ?_
    refine wp_ret hM rfl (rfl) ?_
    first | (first | exact ⟨by unfold aNear; rw [if_pos c6], h0, Fm.rf⟩ | exact ⟨by unfold aNear; rw [if_neg (fun q => q c6), ne_dot hR c6], MA_Fp h0 hf_12, Fm_Fp hf_12⟩) | fail
  · replace c6 := b01_ne0 (cmp_eq_f c6)
    refine wp_go 3 hM (fr' := (12, [some (.inr 30), some (.inl x), some (.inl y)], [.inl y, .inl x, .inr 30], σ)) rfl ?_
    refine wp_call (v := 0) (idx := 189) (j := 160) (N := mtX6_nearestOf) (as := [.inr 30, .inl x, .inl y]) (rest := []) hM rfl (Or.inl ⟨rfl, rfl⟩) rfl (sp_X6_nearestOf v l σ x y (by first | (first | assumption | omega) | fail) (by first | (first | assumption | omega) | fail) (by first | (first | assumption | omega) | fail)) ?_
    rintro r0 σ_12 ⟨rfl, hf_12⟩
    show mz_Wp shM none 166 (15, [some (.inr 30), some (.inl x), some (.inl y)], [.inl (nea v l x y)], σ_12) _
    refine wp_go 1 hM (fr' := (19, [some (.inr 30), some (.inl x), some (.inl y)], [.inl (nea v l x y)], σ_12)) rfl ?_
    refine wp_ret hM rfl (rfl) ?_
    first | (first | exact ⟨by unfold aNear; rw [if_pos c6], h0, Fm.rf⟩ | exact ⟨by unfold aNear; rw [if_neg (fun q => q c6), ne_dot hR c6], MA_Fp h0 hf_12, Fm_Fp hf_12⟩) | fail
