set_option maxRecDepth 100000 in
set_option maxHeartbeats 4000000 in
theorem sp_J9_floorMod_7cf53  (σ : mz_G) (a : Int) (b : Int) (h0 : b = 16) : mz_Cl shA 179 [.inl a, .inl b] σ (fun r σ' => r = some (a % 16) ∧ σ' = σ) := by
  have hM : mz_meth[179]? = some mtJ9_floorMod_7cf53 := rfl
  have hxr := mz_R_toInt (mz_I a ^^^ mz_I b)
  have hx : 0 ≤ (mz_I a ^^^ mz_I b).toInt ↔ 0 ≤ a.bmod 4294967296 := by rw [h0]; exact xor16b a
  have hb := bmod16 a
  have ht := tmod16 (a := a.bmod 4294967296)
  have htb := tmod_bounds (a := a.bmod 4294967296) (M := 16) (by omega)
  have heb : (a.bmod 4294967296).tmod b = (a.bmod 4294967296).tmod 16 := by rw [h0]
  refine mz_Cl.of hM ?_
  show mz_Wp shA none 179 (0, [some (.inl a), some (.inl b), none], [], σ) _
  refine wp_go 2 hM (fr' := (2, [some (.inl a), some (.inl b), none], [.inl b, .inl a], σ)) rfl ?_
  refine wp_remw hM rfl (by omega) (by omega) ?_
  refine wp_go 4 hM (fr' := (7, [some (.inl a), some (.inl b), some (.inl ((a.bmod 4294967296).tmod b))], [.inl ((mz_I a ^^^ mz_I b).toInt)], σ)) rfl ?_
  refine wp_if (tgt := 18) hM rfl (by decide) (by exact hxr) (fun c7 => ?_) (fun c7 => ?_)
  · replace c7 := cmp_ge_t c7
    refine wp_go 1 hM (fr' := (19, [some (.inl a), some (.inl b), some (.inl ((a.bmod 4294967296).tmod b))], [.inl ((a.bmod 4294967296).tmod b)], σ)) rfl ?_
    refine wp_ret hM rfl (rfl) ?_
    exact ⟨by congr 1; omega, rfl⟩
  · replace c7 := cmp_ge_f c7
    refine wp_go 1 hM (fr' := (11, [some (.inl a), some (.inl b), some (.inl ((a.bmod 4294967296).tmod b))], [.inl ((a.bmod 4294967296).tmod b)], σ)) rfl ?_
    refine wp_if (tgt := 18) hM rfl (by decide) (by omega) (fun c11 => ?_) (fun c11 => ?_)
    · replace c11 := cmp_eq_t c11
      refine wp_go 1 hM (fr' := (19, [some (.inl a), some (.inl b), some (.inl ((a.bmod 4294967296).tmod b))], [.inl ((a.bmod 4294967296).tmod b)], σ)) rfl ?_
      refine wp_ret hM rfl (rfl) ?_
      exact ⟨by congr 1; omega, rfl⟩
    · replace c11 := cmp_eq_f c11
      refine wp_go 3 hM (fr' := (17, [some (.inl a), some (.inl b), some (.inl ((a.bmod 4294967296).tmod b))], [.inl (((a.bmod 4294967296).tmod b) + b)], σ)) rfl ?_
      refine wp_ret hM rfl (rfl) ?_
      exact ⟨by congr 1; omega, rfl⟩

set_option maxRecDepth 100000 in
set_option maxHeartbeats 4000000 in
theorem sp_X5_measureByPlaces (v : mz_G) (l : List tr3) (σ : mz_G) (x : Int) (y : Int) (h0 : CS σ v l) (h1 : GO v l) (h2 : dot v x y) : mz_Cl shA 93 [.inr 0, .inl x, .inl y] σ (fun r σ' => r = none ∧ CA σ' v l ∧ CC σ' v l ∧ MS σ' v l 1 (lie v l 1 x y) x y ∧ Fh σ σ') := by
  have hM : mz_meth[93]? = some mtX5_measureByPlaces := rfl
  have hA0 := h0.1
  obtain ⟨hB, hSd, ⟨hP0, hP1⟩, ⟨hC0, hC1'⟩, hVr, hn30, hl2⟩ := id h1
  obtain ⟨hR, hT, hLen⟩ := id hB
  obtain ⟨⟨hW0, hW1⟩, ⟨hH0, hH1⟩, ⟨hn0, hn1⟩, hpt⟩ := id hR
  obtain ⟨⟨hc1, hc2, hc3, hc4⟩, hcp, hct, hcv⟩ := id hA0
  have hWH := WH_bd hR
  have hdi := dn_in hR h2
  have hL := lie_at hC1' h2
  refine mz_Cl.of hM ?_
  show mz_Wp shA none 93 (0, [some (.inr 0), some (.inl x), some (.inl y)], [], σ) _
  refine wp_go 1 hM (fr' := (1, [some (.inr 0), some (.inl x), some (.inl y)], [.inr 0], σ)) rfl ?_
  refine wp_call (v := 0) (idx := 81) (j := 92) (N := mtX5_chart) (as := [.inr 0]) (rest := []) hM rfl (Or.inl ⟨rfl, rfl⟩) rfl (sp_X5_chart v l σ  (by first | assumption | omega) (by first | assumption | omega)) ?_
  rintro r0 σ_1 ⟨rfl, hA_1, hCC_1, hf_1⟩
  show mz_Wp shA none 93 (4, [some (.inr 0), some (.inl x), some (.inl y)], [], σ_1) _
  refine wp_go 14 hM (fr' := (32, [some (.inr 0), some (.inl x), some (.inl y)], [.inl y, .inl x, .inr 1, .inr 14, .inr 9, .inr 1, .inr 3], σ_1)) rfl ?_
  refine wp_calld (v := 0) (idx := 61) (j := 10) (N := mtX1_dotNumber) (as := [.inr 1, .inl x, .inl y]) (rest := [.inr 14, .inr 9, .inr 1, .inr 3]) hM rfl (Or.inl ⟨rfl, rfl⟩) rfl (sp_X1_dotNumber v l σ_1 x y (by first | assumption | omega) (by first | assumption | omega)) ?_
  show mz_Wp shA none 93 (35, [some (.inr 0), some (.inl x), some (.inl y)], [.inl (y * v 0 0 + x), .inr 14, .inr 9, .inr 1, .inr 3], σ_1) _
  refine wp_al (n := 400) hM rfl (by decide) rfl (by omega) (by omega) ?_
  rw [show σ_1 14 (y * v 0 0 + x).toNat = lie v l 1 x y from (hCC_1.2.1 x y h2).1]
  refine wp_go 2 hM (fr' := (38, [some (.inr 0), some (.inl x), some (.inl y)], [.inl y, .inl x, .inl (lie v l 1 x y), .inr 9, .inr 1, .inr 3], σ_1)) rfl ?_
  refine wp_call (v := 0) (idx := 222) (j := 48) (N := mtX3_measure) (as := [.inr 3, .inr 1, .inr 9, .inl (lie v l 1 x y), .inl x, .inl y]) (rest := []) hM rfl (Or.inl ⟨rfl, rfl⟩) rfl (sp_X3_measure_9_w v l σ_1 (lie v l 1 x y) x y (by first | assumption | exact hL.2.1 | exact hL.1) (by first | assumption | exact hL.2.1 | exact hL.1) (by first | assumption | exact hL.2.1 | exact hL.1) (by first | assumption | exact hL.2.1 | exact hL.1) (by first | assumption | exact hL.2.1 | exact hL.1)) ?_
  rintro r0 σ_38 ⟨rfl, hm_38, hf_38⟩
  show mz_Wp shA none 93 (41, [some (.inr 0), some (.inl x), some (.inl y)], [], σ_38) _
  refine wp_retv hM rfl rfl ?_
  exact ⟨rfl, CA_Fs hA_1 hf_38, CC_ext hCC_1 (hf_38 0 7 (by decide)) (fun c hc i => hf_38 c i (by omega)), hm_38, hf_1.tr (Fh_Fs hf_38)⟩

set_option maxRecDepth 100000 in
set_option maxHeartbeats 4000000 in
theorem sp_X5_sumOfValues (v : mz_G) (l : List tr3) (σ : mz_G)  (h0 : CA σ v l) (h1 : GO v l) : mz_Cl shA 95 [.inr 0] σ (fun r σ' => r = some (vsum v) ∧ σ' = σ) := by
  have hM : mz_meth[95]? = some mtX5_sumOfValues := rfl
  have hA0 := h0
  obtain ⟨hB, hSd, ⟨hP0, hP1⟩, ⟨hC0, hC1'⟩, hVr, hn30, hl2⟩ := id h1
  obtain ⟨hR, hT, hLen⟩ := id hB
  obtain ⟨⟨hW0, hW1⟩, ⟨hH0, hH1⟩, ⟨hn0, hn1⟩, hpt⟩ := id hR
  obtain ⟨⟨hc1, hc2, hc3, hc4⟩, hcp, hct, hcv⟩ := id hA0
  have hWH := WH_bd hR
  refine mz_Cl.of hM ?_
  show mz_Wp shA none 95 (0, [some (.inr 0), none, none], [], σ) _
  refine wp_go 4 hM (fr' := (4, [some (.inr 0), some (.inl 0), some (.inl 0)], [], σ)) rfl ?_
  have loop4 : ∀ (fuel : Nat) (f : Int) (d : Int), (0 ≤ d) → (d ≤ v 0 0 * v 0 1) → (f = sumI d (fun i => v 6 i.toNat)) → ((v 0 0 * v 0 1 - d : Int) < fuel) → mz_Wp shA none 95 (4, [some (.inr 0), some (.inl f), some (.inl d)], [], σ) (fun r σ' => r = some (vsum v) ∧ σ' = σ) := by
    intro fuel
    induction fuel with
    | zero =>
      intro f d hv4_0 hv4_1 hv4_2 hf4
      exfalso
      omega
    | succ fuel ih4 =>
      intro f d hv4_0 hv4_1 hv4_2 hf4
      have hs : sumI (d + 1) (fun i => v 6 i.toNat) = sumI d (fun i => v 6 i.toNat) + v 6 d.toNat := sumI_s hv4_0
      have hb := sumI_bd (a := 0) (b := 15) (f := (fun i => v 6 i.toNat)) hv4_0 (fun i _ _ => by exact hVr i (by assumption) (by omega))
      refine wp_go 3 hM (fr' := (9, [some (.inr 0), some (.inl f), some (.inl d)], [.inr 1, .inl d], σ)) rfl ?_
      refine wp_calld (v := 0) (idx := 134) (j := 11) (N := mtX1_dots) (as := [.inr 1]) (rest := [.inl d]) hM rfl (Or.inl ⟨rfl, rfl⟩) rfl (sp_X1_dots v l σ  (by first | assumption | omega) (by first | assumption | omega)) ?_
      show mz_Wp shA none 95 (12, [some (.inr 0), some (.inl f), some (.inl d)], [.inl (v 0 0 * v 0 1), .inl d], σ) _
      refine wp_ic (tgt := 30) hM rfl (by decide) (by omega) (by omega) (fun c12 => ?_) (fun c12 => ?_)
      · replace c12 := cmp_ge_t c12
        refine wp_go 1 hM (fr' := (31, [some (.inr 0), some (.inl f), some (.inl d)], [.inl f], σ)) rfl ?_
        refine wp_ret hM rfl (rfl) ?_
        exact ⟨by unfold vsum; rw [hv4_2, show d = v 0 0 * v 0 1 from by omega], rfl⟩
      · replace c12 := cmp_ge_f c12
        refine wp_go 4 hM (fr' := (21, [some (.inr 0), some (.inl f), some (.inl d)], [.inl d, .inr 4, .inl f], σ)) rfl ?_
        refine wp_al (n := 400) hM rfl (by decide) rfl (by omega) (by omega) ?_
        rw [CA_val hA0 hv4_0 (by omega)]
        refine wp_go 4 hM (fr' := (4, [some (.inr 0), some (.inl (f + (v 6 (d).toNat))), some (.inl (d + 1))], [], σ)) rfl ?_
        exact ih4 (f + (v 6 (d).toNat)) (d + 1) (by omega) (by omega) (by rw [hs]; omega) (by omega)
  exact loop4 402 0 0 (by omega) (by omega) (by rfl) (by omega)

set_option maxRecDepth 100000 in
set_option maxHeartbeats 4000000 in
theorem sp_X5_sumOfTakenValues (v : mz_G) (l : List tr3) (σ : mz_G)  (h0 : CS σ v l) (h1 : GO v l) : mz_Cl shA 96 [.inr 0] σ (fun r σ' => r = some (ksum v l) ∧ CS σ' v l ∧ Fk σ σ') := by
  have hM : mz_meth[96]? = some mtX5_sumOfTakenValues := rfl
  have hA0 := h0.1
  obtain ⟨hB, hSd, ⟨hP0, hP1⟩, ⟨hC0, hC1'⟩, hVr, hn30, hl2⟩ := id h1
  obtain ⟨hR, hT, hLen⟩ := id hB
  obtain ⟨⟨hW0, hW1⟩, ⟨hH0, hH1⟩, ⟨hn0, hn1⟩, hpt⟩ := id hR
  obtain ⟨⟨hc1, hc2, hc3, hc4⟩, hcp, hct, hcv⟩ := id hA0
  have hWH := WH_bd hR
  refine mz_Cl.of hM ?_
  show mz_Wp shA none 96 (0, [some (.inr 0), none, none], [], σ) _
  refine wp_go 1 hM (fr' := (1, [some (.inr 0), none, none], [.inr 0], σ)) rfl ?_
  refine wp_call (v := 0) (idx := 81) (j := 92) (N := mtX5_chart) (as := [.inr 0]) (rest := []) hM rfl (Or.inl ⟨rfl, rfl⟩) rfl (sp_X5_chart v l σ  (by first | assumption | omega) (by first | assumption | omega)) ?_
  rintro r0 σ_1 ⟨rfl, hA_1, hCC_1, hf_1⟩
  show mz_Wp shA none 96 (4, [some (.inr 0), none, none], [], σ_1) _
  refine wp_go 4 hM (fr' := (8, [some (.inr 0), some (.inl 0), some (.inl 0)], [], σ_1)) rfl ?_
  have loop8 : ∀ (fuel : Nat) (f : Int) (d : Int), (0 ≤ d) → (d ≤ v 0 0 * v 0 1) → (f = sumI d (fun i => v 6 (ne v l i).toNat)) → ((v 0 0 * v 0 1 - d : Int) < fuel) → mz_Wp shA none 96 (8, [some (.inr 0), some (.inl f), some (.inl d)], [], σ_1) (fun r σ' => r = some (ksum v l) ∧ CS σ' v l ∧ Fk σ σ') := by
    intro fuel
    induction fuel with
    | zero =>
      intro f d hv8_0 hv8_1 hv8_2 hf8
      exfalso
      omega
    | succ fuel ih8 =>
      intro f d hv8_0 hv8_1 hv8_2 hf8
      have hs : sumI (d + 1) (fun i => v 6 (ne v l i).toNat) = sumI d (fun i => v 6 (ne v l i).toNat) + v 6 (ne v l d).toNat := sumI_s hv8_0
      have hb := sumI_bd (a := 0) (b := 15) (f := (fun i => v 6 (ne v l i).toNat)) hv8_0 (fun i _ _ => by have := ne_in h1 (d := i) (by assumption) (by omega); exact hVr _ this.1 this.2)
      refine wp_go 3 hM (fr' := (13, [some (.inr 0), some (.inl f), some (.inl d)], [.inr 1, .inl d], σ_1)) rfl ?_
      refine wp_calld (v := 0) (idx := 134) (j := 11) (N := mtX1_dots) (as := [.inr 1]) (rest := [.inl d]) hM rfl (Or.inl ⟨rfl, rfl⟩) rfl (sp_X1_dots v l σ_1  (by first | assumption | omega) (by first | assumption | omega)) ?_
      show mz_Wp shA none 96 (16, [some (.inr 0), some (.inl f), some (.inl d)], [.inl (v 0 0 * v 0 1), .inl d], σ_1) _
      refine wp_ic (tgt := 39) hM rfl (by decide) (by omega) (by omega) (fun c16 => ?_) (fun c16 => ?_)
      · replace c16 := cmp_ge_t c16
        refine wp_go 1 hM (fr' := (40, [some (.inr 0), some (.inl f), some (.inl d)], [.inl f], σ_1)) rfl ?_
        refine wp_ret hM rfl (rfl) ?_
        exact ⟨by unfold ksum; rw [hv8_2, show d = v 0 0 * v 0 1 from by omega], CS_CC hA_1 hCC_1, Fk_Fh hf_1⟩
      · replace c16 := cmp_ge_f c16
        have hni := ne_in h1 hv8_0 (show d < v 0 0 * v 0 1 by omega)
        refine wp_go 6 hM (fr' := (29, [some (.inr 0), some (.inl f), some (.inl d)], [.inl d, .inr 5, .inr 4, .inl f], σ_1)) rfl ?_
        refine wp_al (n := 400) hM rfl (by decide) rfl (by omega) (by omega) ?_
        rw [hCC_1.2.2 d hv8_0 (by omega)]
        refine wp_al (n := 400) hM rfl (by decide) rfl (by omega) (by omega) ?_
        rw [CA_val hA_1 hni.1 hni.2]
        refine wp_go 4 hM (fr' := (8, [some (.inr 0), some (.inl (f + (v 6 (ne v l d).toNat))), some (.inl (d + 1))], [], σ_1)) rfl ?_
        exact ih8 (f + (v 6 (ne v l d).toNat)) (d + 1) (by omega) (by omega) (by rw [hs]; omega) (by omega)
  exact loop8 402 0 0 (by omega) (by omega) (by rfl) (by omega)

set_option maxRecDepth 100000 in
set_option maxHeartbeats 4000000 in
theorem sp_X5_countUses (v : mz_G) (l : List tr3) (σ : mz_G)  (h0 : CA σ v l) (h1 : GO v l) (h2 : CC σ v l) : mz_Cl shA 97 [.inr 0] σ (fun r σ' => r = none ∧ US σ' v l (v 0 0 * v 0 1) ∧ Fu σ σ') := by
  have hM : mz_meth[97]? = some mtX5_countUses := rfl
  have hA0 := h0
  obtain ⟨hB, hSd, ⟨hP0, hP1⟩, ⟨hC0, hC1'⟩, hVr, hn30, hl2⟩ := id h1
  obtain ⟨hR, hT, hLen⟩ := id hB
  obtain ⟨⟨hW0, hW1⟩, ⟨hH0, hH1⟩, ⟨hn0, hn1⟩, hpt⟩ := id hR
  obtain ⟨⟨hc1, hc2, hc3, hc4⟩, hcp, hct, hcv⟩ := id hA0
  have hWH := WH_bd hR
  refine mz_Cl.of hM ?_
  show mz_Wp shA none 97 (0, [some (.inr 0), none], [], σ) _
  refine wp_go 3 hM (fr' := (5, [some (.inr 0), none], [.inl 0, .inr 6], σ)) rfl ?_
  refine wp_calld (v := 1) (idx := 51) (j := 182) (N := mtJ7_fill_53178) (as := [.inr 6, .inl 0]) (rest := []) hM rfl (Or.inr ⟨rfl, rfl⟩) rfl (sp_J7_fill_53178_6  σ 0 ) ?_
  show mz_Wp shA none 97 (8, [some (.inr 0), none], [], (fil σ 6 400 (0))) _
  refine wp_go 2 hM (fr' := (10, [some (.inr 0), some (.inl 0)], [], (fil σ 6 400 (0)))) rfl ?_
  have loop10 : ∀ (fuel : Nat) (d : Int) (σ1 : mz_G), (0 ≤ d) → (d ≤ v 0 0 * v 0 1) → (US σ1 v l d) → (Fu σ σ1) → ((v 0 0 * v 0 1 - d : Int) < fuel) → mz_Wp shA none 97 (10, [some (.inr 0), some (.inl d)], [], σ1) (fun r σ' => r = none ∧ US σ' v l (v 0 0 * v 0 1) ∧ Fu σ σ') := by
    intro fuel
    induction fuel with
    | zero =>
      intro d σ1 hv10_0 hv10_1 hv10_2 hv10_3 hf10
      exfalso
      omega
    | succ fuel ih10 =>
      intro d σ1 hv10_0 hv10_1 hv10_2 hv10_3 hf10
      have hA1 := CA_Fu hA0 hv10_3
      have hCC1 := CC_Fu h2 hv10_3
      refine wp_go 3 hM (fr' := (15, [some (.inr 0), some (.inl d)], [.inr 1, .inl d], σ1)) rfl ?_
      refine wp_calld (v := 0) (idx := 134) (j := 11) (N := mtX1_dots) (as := [.inr 1]) (rest := [.inl d]) hM rfl (Or.inl ⟨rfl, rfl⟩) rfl (sp_X1_dots v l σ1  (by first | assumption | omega) (by first | assumption | omega)) ?_
      show mz_Wp shA none 97 (18, [some (.inr 0), some (.inl d)], [.inl (v 0 0 * v 0 1), .inl d], σ1) _
      refine wp_ic (tgt := 42) hM rfl (by decide) (by omega) (by omega) (fun c18 => ?_) (fun c18 => ?_)
      · replace c18 := cmp_ge_t c18
        refine wp_retv hM rfl rfl ?_
        exact ⟨rfl, by rw [show d = v 0 0 * v 0 1 from by omega] at hv10_2; exact hv10_2, hv10_3⟩
      · replace c18 := cmp_ge_f c18
        have hni := ne_in h1 hv10_0 (show d < v 0 0 * v 0 1 by omega)
        refine wp_go 5 hM (fr' := (30, [some (.inr 0), some (.inl d)], [.inl d, .inr 5, .inr 6], σ1)) rfl ?_
        refine wp_al (n := 400) hM rfl (by decide) rfl (by omega) (by omega) ?_
        rw [hCC1.2.2 d hv10_0 (by omega)]
        refine wp_go 1 hM (fr' := (32, [some (.inr 0), some (.inl d)], [.inl (ne v l d), .inr 6, .inl (ne v l d), .inr 6], σ1)) rfl ?_
        refine wp_al (n := 400) hM rfl (by decide) rfl (by omega) (by omega) ?_
        refine wp_go 2 hM (fr' := (35, [some (.inr 0), some (.inl d)], [.inl ((σ1 6 (ne v l d).toNat) + 1), .inl (ne v l d), .inr 6], σ1)) rfl ?_
        refine wp_as (n := 400) hM rfl rfl (by omega) (by omega) ?_
        refine wp_go 2 hM (fr' := (10, [some (.inr 0), some (.inl (d + 1))], [], (mz_up σ1 6 (ne v l d).toNat ((σ1 6 (ne v l d).toNat) + 1)))) rfl ?_
        exact ih10 (d + 1) (mz_up σ1 6 (ne v l d).toNat ((σ1 6 (ne v l d).toNat) + 1)) (by omega) (by omega) (by exact US_s hv10_2 hv10_0 hni.1 (fun j => by by_cases q : j = (ne v l d).toNat <;> simp [mz_up, q])) (by exact fun c i a => by rw [up_ne a]; exact hv10_3 c i a) (by omega)
  exact loop10 402 0 (fil σ 6 400 (0)) (by omega) (by omega) (by exact fun e a b => by show (if _ then _ else _) = _; rw [if_pos ⟨rfl, by omega⟩]; rfl) (by exact fun c i a => by show (if _ then _ else _) = _; rw [if_neg (fun q => a q.1)]) (by omega)

set_option maxRecDepth 100000 in
set_option maxHeartbeats 4000000 in
theorem sp_X5_valueOrZero (v : mz_G) (l : List tr3) (σ : mz_G) (x : Int) (y : Int) (h0 : CA σ v l) (h1 : GO v l) (h2 : mz_R x) (h3 : mz_R y) : mz_Cl shA 99 [.inr 0, .inl x, .inl y] σ (fun r σ' => r = some (vz v x y) ∧ σ' = σ) := by
  have hM : mz_meth[99]? = some mtX5_valueOrZero := rfl
  have hA0 := h0
  obtain ⟨hB, hSd, ⟨hP0, hP1⟩, ⟨hC0, hC1'⟩, hVr, hn30, hl2⟩ := id h1
  obtain ⟨hR, hT, hLen⟩ := id hB
  obtain ⟨⟨hW0, hW1⟩, ⟨hH0, hH1⟩, ⟨hn0, hn1⟩, hpt⟩ := id hR
  obtain ⟨⟨hc1, hc2, hc3, hc4⟩, hcp, hct, hcv⟩ := id hA0
  have hWH := WH_bd hR
  refine mz_Cl.of hM ?_
  show mz_Wp shA none 99 (0, [some (.inr 0), some (.inl x), some (.inl y)], [], σ) _
  refine wp_go 4 hM (fr' := (6, [some (.inr 0), some (.inl x), some (.inl y)], [.inl y, .inl x, .inr 1], σ)) rfl ?_
  refine wp_calld (v := 0) (idx := 57) (j := 9) (N := mtX1_isDot) (as := [.inr 1, .inl x, .inl y]) (rest := []) hM rfl (Or.inl ⟨rfl, rfl⟩) rfl (sp_X1_isDot v l σ x y (by first | assumption | omega) (by first | assumption | omega) (by first | assumption | omega) (by first | assumption | omega)) ?_
  show mz_Wp shA none 99 (9, [some (.inr 0), some (.inl x), some (.inl y)], [.inl (b01 (dot v x y))], σ) _
  refine wp_if (tgt := 29) hM rfl (by decide) b01_R (fun c9 => ?_) (fun c9 => ?_)
  · replace c9 := b01_eq0 (cmp_eq_t c9)
    refine wp_go 1 hM (fr' := (30, [some (.inr 0), some (.inl x), some (.inl y)], [.inl 0], σ)) rfl ?_
    refine wp_ret hM rfl (rfl) ?_
    exact ⟨by unfold vz; first | rw [if_pos c9] | rw [if_neg c9], rfl⟩
  · replace c9 := b01_ne0 (cmp_eq_f c9)
    have hdi := dn_in hR c9
    refine wp_go 6 hM (fr' := (22, [some (.inr 0), some (.inl x), some (.inl y)], [.inl y, .inl x, .inr 1, .inr 4], σ)) rfl ?_
    refine wp_calld (v := 0) (idx := 61) (j := 10) (N := mtX1_dotNumber) (as := [.inr 1, .inl x, .inl y]) (rest := [.inr 4]) hM rfl (Or.inl ⟨rfl, rfl⟩) rfl (sp_X1_dotNumber v l σ x y (by first | assumption | omega) (by first | assumption | omega)) ?_
    show mz_Wp shA none 99 (25, [some (.inr 0), some (.inl x), some (.inl y)], [.inl (y * v 0 0 + x), .inr 4], σ) _
    refine wp_al (n := 400) hM rfl (by decide) rfl (by omega) (by omega) ?_
    rw [CA_val hA0 hdi.1 hdi.2.1]
    refine wp_go 1 hM (fr' := (30, [some (.inr 0), some (.inl x), some (.inl y)], [.inl (v 6 (y * v 0 0 + x).toNat)], σ)) rfl ?_
    refine wp_ret hM rfl (rfl) ?_
    exact ⟨by unfold vz; first | rw [if_pos c9] | rw [if_neg c9], rfl⟩

set_option maxRecDepth 100000 in
set_option maxHeartbeats 4000000 in
theorem sp_X5_blendAbove (v : mz_G) (l : List tr3) (X Y B : Int) (σ : mz_G)  (h0 : CA σ v l) (h1 : GO v l) (h2 : σ 3 5 = X) (h3 : σ 3 6 = Y) (h4 : σ 3 7 = B) (h5 : 0 ≤ X ∧ X ≤ 13718) (h6 : 0 ≤ Y ∧ Y ≤ 13718) (h7 : 0 < B ∧ B ≤ 722) : mz_Cl shA 98 [.inr 0] σ (fun r σ' => r = some (blA v X Y B) ∧ σ' = σ) := by
  have hM : mz_meth[98]? = some mtX5_blendAbove := rfl
  have hA0 := h0
  obtain ⟨hB, hSd, ⟨hP0, hP1⟩, ⟨hC0, hC1'⟩, hVr, hn30, hl2⟩ := id h1
  obtain ⟨hR, hT, hLen⟩ := id hB
  obtain ⟨⟨hW0, hW1⟩, ⟨hH0, hH1⟩, ⟨hn0, hn1⟩, hpt⟩ := id hR
  obtain ⟨⟨hc1, hc2, hc3, hc4⟩, hcp, hct, hcv⟩ := id hA0
  have hWH := WH_bd hR
  have tx := tmod_nn h5.1 h7.1
  have ty := tmod_nn h6.1 h7.1
  have dx1 := Int.tdiv_nonneg h5.1 (show 0 ≤ B by omega)
  have dy1 := Int.tdiv_nonneg h6.1 (show 0 ≤ B by omega)
  have dx2 : X.tdiv B ≤ X := by rw [Int.tdiv_eq_ediv_of_nonneg h5.1]; exact Int.ediv_le_self B h5.1
  have dy2 : Y.tdiv B ≤ Y := by rw [Int.tdiv_eq_ediv_of_nonneg h6.1]; exact Int.ediv_le_self B h6.1
  subst h2 h3 h4
  refine mz_Cl.of hM ?_
  show mz_Wp shA none 98 (0, [some (.inr 0), none, none, none, none, none, none, none], [], σ) _
  refine wp_go 5 hM (fr' := (9, [some (.inr 0), some (.inl (σ 3 7)), none, none, none, none, none, none], [.inl (σ 3 7)], σ)) rfl ?_
  refine wp_if (tgt := 14) hM rfl (by decide) (by omega) (fun c9 => ?_) (fun c9 => ?_)
  · replace c9 := cmp_gt_t c9
    refine wp_go 4 hM (fr' := (22, [some (.inr 0), some (.inl (σ 3 7)), none, none, none, none, none, none], [.inl (σ 3 7), .inl (σ 3 5)], σ)) rfl ?_
    refine wp_div hM rfl (by omega) (by omega) (by omega) ?_
    refine wp_go 5 hM (fr' := (32, [some (.inr 0), some (.inl (σ 3 7)), some (.inl ((σ 3 5).tdiv (σ 3 7))), none, none, none, none, none], [.inl (σ 3 7), .inl (σ 3 6)], σ)) rfl ?_
    refine wp_div hM rfl (by omega) (by omega) (by omega) ?_
    refine wp_go 5 hM (fr' := (42, [some (.inr 0), some (.inl (σ 3 7)), some (.inl ((σ 3 5).tdiv (σ 3 7))), some (.inl ((σ 3 6).tdiv (σ 3 7))), none, none, none, none], [.inl (σ 3 7), .inl (σ 3 5)], σ)) rfl ?_
    refine wp_rem hM rfl (by omega) (by omega) (by omega) ?_
    refine wp_go 5 hM (fr' := (53, [some (.inr 0), some (.inl (σ 3 7)), some (.inl ((σ 3 5).tdiv (σ 3 7))), some (.inl ((σ 3 6).tdiv (σ 3 7))), some (.inl ((σ 3 5).tmod (σ 3 7))), none, none, none], [.inl (σ 3 7), .inl (σ 3 6)], σ)) rfl ?_
    refine wp_rem hM rfl (by omega) (by omega) (by omega) ?_
    refine wp_go 7 hM (fr' := (63, [some (.inr 0), some (.inl (σ 3 7)), some (.inl ((σ 3 5).tdiv (σ 3 7))), some (.inl ((σ 3 6).tdiv (σ 3 7))), some (.inl ((σ 3 5).tmod (σ 3 7))), some (.inl ((σ 3 6).tmod (σ 3 7))), none, none], [.inl ((σ 3 6).tdiv (σ 3 7)), .inl ((σ 3 5).tdiv (σ 3 7)), .inr 0, .inl ((σ 3 7) - ((σ 3 5).tmod (σ 3 7)))], σ)) rfl ?_
    refine wp_calld (v := 0) (idx := 273) (j := 99) (N := mtX5_valueOrZero) (as := [.inr 0, .inl ((σ 3 5).tdiv (σ 3 7)), .inl ((σ 3 6).tdiv (σ 3 7))]) (rest := [.inl ((σ 3 7) - ((σ 3 5).tmod (σ 3 7)))]) hM rfl (Or.inl ⟨rfl, rfl⟩) rfl (sp_X5_valueOrZero v l σ ((σ 3 5).tdiv (σ 3 7)) ((σ 3 6).tdiv (σ 3 7)) (by first | assumption | omega) (by first | assumption | omega) (by first | assumption | omega) (by first | assumption | omega)) ?_
    show mz_Wp shA none 98 (66, [some (.inr 0), some (.inl (σ 3 7)), some (.inl ((σ 3 5).tdiv (σ 3 7))), some (.inl ((σ 3 6).tdiv (σ 3 7))), some (.inl ((σ 3 5).tmod (σ 3 7))), some (.inl ((σ 3 6).tmod (σ 3 7))), none, none], [.inl (vz v ((σ 3 5).tdiv (σ 3 7)) ((σ 3 6).tdiv (σ 3 7))), .inl ((σ 3 7) - ((σ 3 5).tmod (σ 3 7)))], σ) _
    refine wp_go 7 hM (fr' := (74, [some (.inr 0), some (.inl (σ 3 7)), some (.inl ((σ 3 5).tdiv (σ 3 7))), some (.inl ((σ 3 6).tdiv (σ 3 7))), some (.inl ((σ 3 5).tmod (σ 3 7))), some (.inl ((σ 3 6).tmod (σ 3 7))), none, none], [.inl ((σ 3 6).tdiv (σ 3 7)), .inl (((σ 3 5).tdiv (σ 3 7)) + 1), .inr 0, .inl ((σ 3 5).tmod (σ 3 7)), .inl (((σ 3 7) - ((σ 3 5).tmod (σ 3 7))) * (vz v ((σ 3 5).tdiv (σ 3 7)) ((σ 3 6).tdiv (σ 3 7))))], σ)) rfl ?_
    refine wp_calld (v := 0) (idx := 273) (j := 99) (N := mtX5_valueOrZero) (as := [.inr 0, .inl (((σ 3 5).tdiv (σ 3 7)) + 1), .inl ((σ 3 6).tdiv (σ 3 7))]) (rest := [.inl ((σ 3 5).tmod (σ 3 7)), .inl (((σ 3 7) - ((σ 3 5).tmod (σ 3 7))) * (vz v ((σ 3 5).tdiv (σ 3 7)) ((σ 3 6).tdiv (σ 3 7))))]) hM rfl (Or.inl ⟨rfl, rfl⟩) rfl (sp_X5_valueOrZero v l σ (((σ 3 5).tdiv (σ 3 7)) + 1) ((σ 3 6).tdiv (σ 3 7)) (by first | assumption | omega) (by first | assumption | omega) (by first | assumption | omega) (by first | assumption | omega)) ?_
    show mz_Wp shA none 98 (77, [some (.inr 0), some (.inl (σ 3 7)), some (.inl ((σ 3 5).tdiv (σ 3 7))), some (.inl ((σ 3 6).tdiv (σ 3 7))), some (.inl ((σ 3 5).tmod (σ 3 7))), some (.inl ((σ 3 6).tmod (σ 3 7))), none, none], [.inl (vz v (((σ 3 5).tdiv (σ 3 7)) + 1) ((σ 3 6).tdiv (σ 3 7))), .inl ((σ 3 5).tmod (σ 3 7)), .inl (((σ 3 7) - ((σ 3 5).tmod (σ 3 7))) * (vz v ((σ 3 5).tdiv (σ 3 7)) ((σ 3 6).tdiv (σ 3 7))))], σ) _
    refine wp_go 11 hM (fr' := (90, [some (.inr 0), some (.inl (σ 3 7)), some (.inl ((σ 3 5).tdiv (σ 3 7))), some (.inl ((σ 3 6).tdiv (σ 3 7))), some (.inl ((σ 3 5).tmod (σ 3 7))), some (.inl ((σ 3 6).tmod (σ 3 7))), some (.inl ((((σ 3 7) - ((σ 3 5).tmod (σ 3 7))) * (vz v ((σ 3 5).tdiv (σ 3 7)) ((σ 3 6).tdiv (σ 3 7)))) + (((σ 3 5).tmod (σ 3 7)) * (vz v (((σ 3 5).tdiv (σ 3 7)) + 1) ((σ 3 6).tdiv (σ 3 7)))))), none], [.inl (((σ 3 6).tdiv (σ 3 7)) + 1), .inl ((σ 3 5).tdiv (σ 3 7)), .inr 0, .inl ((σ 3 7) - ((σ 3 5).tmod (σ 3 7)))], σ)) rfl ?_
    refine wp_calld (v := 0) (idx := 273) (j := 99) (N := mtX5_valueOrZero) (as := [.inr 0, .inl ((σ 3 5).tdiv (σ 3 7)), .inl (((σ 3 6).tdiv (σ 3 7)) + 1)]) (rest := [.inl ((σ 3 7) - ((σ 3 5).tmod (σ 3 7)))]) hM rfl (Or.inl ⟨rfl, rfl⟩) rfl (sp_X5_valueOrZero v l σ ((σ 3 5).tdiv (σ 3 7)) (((σ 3 6).tdiv (σ 3 7)) + 1) (by first | assumption | omega) (by first | assumption | omega) (by first | assumption | omega) (by first | assumption | omega)) ?_
    show mz_Wp shA none 98 (93, [some (.inr 0), some (.inl (σ 3 7)), some (.inl ((σ 3 5).tdiv (σ 3 7))), some (.inl ((σ 3 6).tdiv (σ 3 7))), some (.inl ((σ 3 5).tmod (σ 3 7))), some (.inl ((σ 3 6).tmod (σ 3 7))), some (.inl ((((σ 3 7) - ((σ 3 5).tmod (σ 3 7))) * (vz v ((σ 3 5).tdiv (σ 3 7)) ((σ 3 6).tdiv (σ 3 7)))) + (((σ 3 5).tmod (σ 3 7)) * (vz v (((σ 3 5).tdiv (σ 3 7)) + 1) ((σ 3 6).tdiv (σ 3 7)))))), none], [.inl (vz v ((σ 3 5).tdiv (σ 3 7)) (((σ 3 6).tdiv (σ 3 7)) + 1)), .inl ((σ 3 7) - ((σ 3 5).tmod (σ 3 7)))], σ) _
    refine wp_go 9 hM (fr' := (103, [some (.inr 0), some (.inl (σ 3 7)), some (.inl ((σ 3 5).tdiv (σ 3 7))), some (.inl ((σ 3 6).tdiv (σ 3 7))), some (.inl ((σ 3 5).tmod (σ 3 7))), some (.inl ((σ 3 6).tmod (σ 3 7))), some (.inl ((((σ 3 7) - ((σ 3 5).tmod (σ 3 7))) * (vz v ((σ 3 5).tdiv (σ 3 7)) ((σ 3 6).tdiv (σ 3 7)))) + (((σ 3 5).tmod (σ 3 7)) * (vz v (((σ 3 5).tdiv (σ 3 7)) + 1) ((σ 3 6).tdiv (σ 3 7)))))), none], [.inl (((σ 3 6).tdiv (σ 3 7)) + 1), .inl (((σ 3 5).tdiv (σ 3 7)) + 1), .inr 0, .inl ((σ 3 5).tmod (σ 3 7)), .inl (((σ 3 7) - ((σ 3 5).tmod (σ 3 7))) * (vz v ((σ 3 5).tdiv (σ 3 7)) (((σ 3 6).tdiv (σ 3 7)) + 1)))], σ)) rfl ?_
    refine wp_calld (v := 0) (idx := 273) (j := 99) (N := mtX5_valueOrZero) (as := [.inr 0, .inl (((σ 3 5).tdiv (σ 3 7)) + 1), .inl (((σ 3 6).tdiv (σ 3 7)) + 1)]) (rest := [.inl ((σ 3 5).tmod (σ 3 7)), .inl (((σ 3 7) - ((σ 3 5).tmod (σ 3 7))) * (vz v ((σ 3 5).tdiv (σ 3 7)) (((σ 3 6).tdiv (σ 3 7)) + 1)))]) hM rfl (Or.inl ⟨rfl, rfl⟩) rfl (sp_X5_valueOrZero v l σ (((σ 3 5).tdiv (σ 3 7)) + 1) (((σ 3 6).tdiv (σ 3 7)) + 1) (by first | assumption | omega) (by first | assumption | omega) (by first | assumption | omega) (by first | assumption | omega)) ?_
    show mz_Wp shA none 98 (106, [some (.inr 0), some (.inl (σ 3 7)), some (.inl ((σ 3 5).tdiv (σ 3 7))), some (.inl ((σ 3 6).tdiv (σ 3 7))), some (.inl ((σ 3 5).tmod (σ 3 7))), some (.inl ((σ 3 6).tmod (σ 3 7))), some (.inl ((((σ 3 7) - ((σ 3 5).tmod (σ 3 7))) * (vz v ((σ 3 5).tdiv (σ 3 7)) ((σ 3 6).tdiv (σ 3 7)))) + (((σ 3 5).tmod (σ 3 7)) * (vz v (((σ 3 5).tdiv (σ 3 7)) + 1) ((σ 3 6).tdiv (σ 3 7)))))), none], [.inl (vz v (((σ 3 5).tdiv (σ 3 7)) + 1) (((σ 3 6).tdiv (σ 3 7)) + 1)), .inl ((σ 3 5).tmod (σ 3 7)), .inl (((σ 3 7) - ((σ 3 5).tmod (σ 3 7))) * (vz v ((σ 3 5).tdiv (σ 3 7)) (((σ 3 6).tdiv (σ 3 7)) + 1)))], σ) _
    refine wp_go 12 hM (fr' := (123, [some (.inr 0), some (.inl (σ 3 7)), some (.inl ((σ 3 5).tdiv (σ 3 7))), some (.inl ((σ 3 6).tdiv (σ 3 7))), some (.inl ((σ 3 5).tmod (σ 3 7))), some (.inl ((σ 3 6).tmod (σ 3 7))), some (.inl ((((σ 3 7) - ((σ 3 5).tmod (σ 3 7))) * (vz v ((σ 3 5).tdiv (σ 3 7)) ((σ 3 6).tdiv (σ 3 7)))) + (((σ 3 5).tmod (σ 3 7)) * (vz v (((σ 3 5).tdiv (σ 3 7)) + 1) ((σ 3 6).tdiv (σ 3 7)))))), some (.inl ((((σ 3 7) - ((σ 3 5).tmod (σ 3 7))) * (vz v ((σ 3 5).tdiv (σ 3 7)) (((σ 3 6).tdiv (σ 3 7)) + 1))) + (((σ 3 5).tmod (σ 3 7)) * (vz v (((σ 3 5).tdiv (σ 3 7)) + 1) (((σ 3 6).tdiv (σ 3 7)) + 1)))))], [.inl ((((σ 3 7) - ((σ 3 6).tmod (σ 3 7))) * ((((σ 3 7) - ((σ 3 5).tmod (σ 3 7))) * (vz v ((σ 3 5).tdiv (σ 3 7)) ((σ 3 6).tdiv (σ 3 7)))) + (((σ 3 5).tmod (σ 3 7)) * (vz v (((σ 3 5).tdiv (σ 3 7)) + 1) ((σ 3 6).tdiv (σ 3 7)))))) + (((σ 3 6).tmod (σ 3 7)) * ((((σ 3 7) - ((σ 3 5).tmod (σ 3 7))) * (vz v ((σ 3 5).tdiv (σ 3 7)) (((σ 3 6).tdiv (σ 3 7)) + 1))) + (((σ 3 5).tmod (σ 3 7)) * (vz v (((σ 3 5).tdiv (σ 3 7)) + 1) (((σ 3 6).tdiv (σ 3 7)) + 1))))))], σ)) rfl ?_
    refine wp_ret hM rfl (rfl) ?_
    exact ⟨rfl, rfl⟩
  · replace c9 := cmp_gt_f c9
    omega

set_option maxRecDepth 100000 in
set_option maxHeartbeats 4000000 in
theorem sp_X5_value (v : mz_G) (l : List tr3) (σ : mz_G) (x : Int) (y : Int) (b : Int) (h0 : CS σ v l) (h1 : GO v l) (h2 : mz_R x) (h3 : mz_R y) (h4 : mz_R b) : mz_Cl shA 67 [.inr 0, .inl x, .inl y, .inl b] σ (fun r σ' => r = some (aVal v l x y b) ∧ CS σ' v l ∧ Fk σ σ') := by
  have hM : mz_meth[67]? = some mtX5_value := rfl
  have hA0 := h0.1
  obtain ⟨hB, hSd, ⟨hP0, hP1⟩, ⟨hC0, hC1'⟩, hVr, hn30, hl2⟩ := id h1
  obtain ⟨hR, hT, hLen⟩ := id hB
  obtain ⟨⟨hW0, hW1⟩, ⟨hH0, hH1⟩, ⟨hn0, hn1⟩, hpt⟩ := id hR
  obtain ⟨⟨hc1, hc2, hc3, hc4⟩, hcp, hct, hcv⟩ := id hA0
  have hWH := WH_bd hR
  refine mz_Cl.of hM ?_
  show mz_Wp shA none 67 (0, [some (.inr 0), some (.inl x), some (.inl y), some (.inl b), none], [], σ) _
  refine wp_go 4 hM (fr' := (6, [some (.inr 0), some (.inl x), some (.inl y), some (.inl b), none], [.inl y, .inl x, .inr 1], σ)) rfl ?_
  refine wp_calld (v := 0) (idx := 57) (j := 9) (N := mtX1_isDot) (as := [.inr 1, .inl x, .inl y]) (rest := []) hM rfl (Or.inl ⟨rfl, rfl⟩) rfl (sp_X1_isDot v l σ x y (by first | assumption | omega) (by first | assumption | omega) (by first | assumption | omega) (by first | assumption | omega)) ?_
  show mz_Wp shA none 67 (9, [some (.inr 0), some (.inl x), some (.inl y), some (.inl b), none], [.inl (b01 (dot v x y))], σ) _
  refine wp_if (tgt := 14) hM rfl (by decide) b01_R (fun c9 => ?_) (fun c9 => ?_)
  · replace c9 := b01_ne0 (cmp_ne_t c9)
    have hdi := dn_in hR c9
    have hni := ne_in h1 hdi.1 hdi.2.1
    refine wp_go 4 hM (fr' := (20, [some (.inr 0), some (.inl x), some (.inl y), some (.inl b), none], [.inl y, .inl x, .inr 1], σ)) rfl ?_
    refine wp_calld (v := 0) (idx := 61) (j := 10) (N := mtX1_dotNumber) (as := [.inr 1, .inl x, .inl y]) (rest := []) hM rfl (Or.inl ⟨rfl, rfl⟩) rfl (sp_X1_dotNumber v l σ x y (by first | assumption | omega) (by first | assumption | omega)) ?_
    show mz_Wp shA none 67 (23, [some (.inr 0), some (.inl x), some (.inl y), some (.inl b), none], [.inl (y * v 0 0 + x)], σ) _
    refine wp_go 2 hM (fr' := (26, [some (.inr 0), some (.inl x), some (.inl y), some (.inl b), some (.inl (y * v 0 0 + x))], [.inl b], σ)) rfl ?_
    refine wp_if (tgt := 37) hM rfl (by decide) (by omega) (fun c26 => ?_) (fun c26 => ?_)
    · replace c26 := cmp_ne_t c26
      refine wp_go 1 hM (fr' := (38, [some (.inr 0), some (.inl x), some (.inl y), some (.inl b), some (.inl (y * v 0 0 + x))], [.inr 0], σ)) rfl ?_
      refine wp_call (v := 0) (idx := 81) (j := 92) (N := mtX5_chart) (as := [.inr 0]) (rest := []) hM rfl (Or.inl ⟨rfl, rfl⟩) rfl (sp_X5_chart v l σ  (by first | assumption | omega) (by first | assumption | omega)) ?_
      rintro r0 σ_38 ⟨rfl, hA_38, hCC_38, hf_38⟩
      show mz_Wp shA none 67 (41, [some (.inr 0), some (.inl x), some (.inl y), some (.inl b), some (.inl (y * v 0 0 + x))], [], σ_38) _
      refine wp_go 5 hM (fr' := (51, [some (.inr 0), some (.inl x), some (.inl y), some (.inl b), some (.inl (y * v 0 0 + x))], [.inl (y * v 0 0 + x), .inr 5, .inr 4], σ_38)) rfl ?_
      refine wp_al (n := 400) hM rfl (by decide) rfl (by omega) (by omega) ?_
      rw [hCC_38.2.2 _ hdi.1 hdi.2.1]
      refine wp_al (n := 400) hM rfl (by decide) rfl (by omega) (by omega) ?_
      rw [CA_val hA_38 hni.1 hni.2]
      refine wp_ret hM rfl (rfl) ?_
      exact ⟨by unfold aVal; rw [if_neg (fun q => q c9), if_neg c26], CS_CC hA_38 hCC_38, Fk_Fh hf_38⟩
    · replace c26 := cmp_ne_f c26
      refine wp_go 3 hM (fr' := (35, [some (.inr 0), some (.inl x), some (.inl y), some (.inl b), some (.inl (y * v 0 0 + x))], [.inl (y * v 0 0 + x), .inr 4], σ)) rfl ?_
      refine wp_al (n := 400) hM rfl (by decide) rfl (by omega) (by omega) ?_
      rw [CA_val hA0 hdi.1 hdi.2.1]
      refine wp_ret hM rfl (rfl) ?_
      exact ⟨by unfold aVal; rw [if_neg (fun q => q c9), if_pos c26], h0, Fk.rf⟩
  · replace c9 := b01_eq0 (cmp_ne_f c9)
    refine wp_go 1 hM (fr' := (13, [some (.inr 0), some (.inl x), some (.inl y), some (.inl b), none], [.inl (-1)], σ)) rfl ?_
    refine wp_ret hM rfl (rfl) ?_
    exact ⟨by unfold aVal; rw [if_pos c9], h0, Fk.rf⟩

set_option maxRecDepth 100000 in
set_option maxHeartbeats 4000000 in
theorem sp_X5_knot (v : mz_G) (l : List tr3) (σ : mz_G) (k : Int) (w : Int) (h0 : CS σ v l) (h1 : GO v l) (h2 : mz_R k) (h3 : mz_R w) : mz_Cl shA 74 [.inr 0, .inl k, .inl w] σ (fun r σ' => r = some (aKnot v l k w) ∧ CS σ' v l ∧ Fk σ σ') := by
  have hM : mz_meth[74]? = some mtX5_knot := rfl
  have hA0 := h0.1
  obtain ⟨hB, hSd, ⟨hP0, hP1⟩, ⟨hC0, hC1'⟩, hVr, hn30, hl2⟩ := id h1
  obtain ⟨hR, hT, hLen⟩ := id hB
  obtain ⟨⟨hW0, hW1⟩, ⟨hH0, hH1⟩, ⟨hn0, hn1⟩, hpt⟩ := id hR
  obtain ⟨⟨hc1, hc2, hc3, hc4⟩, hcp, hct, hcv⟩ := id hA0
  have hWH := WH_bd hR
  refine mz_Cl.of hM ?_
  show mz_Wp shA none 74 (0, [some (.inr 0), some (.inl k), some (.inl w)], [], σ) _
  refine wp_go 3 hM (fr' := (5, [some (.inr 0), some (.inl k), some (.inl w)], [.inl k, .inr 1], σ)) rfl ?_
  refine wp_calld (v := 0) (idx := 137) (j := 12) (N := mtX1_isKnot) (as := [.inr 1, .inl k]) (rest := []) hM rfl (Or.inl ⟨rfl, rfl⟩) rfl (sp_X1_isKnot v l σ k (by first | assumption | omega) (by first | assumption | omega) (by first | assumption | omega)) ?_
  show mz_Wp shA none 74 (8, [some (.inr 0), some (.inl k), some (.inl w)], [.inl (b01 (isk v k))], σ) _
  refine wp_if (tgt := 13) hM rfl (by decide) b01_R (fun c8 => ?_) (fun c8 => ?_)
  · replace c8 := b01_ne0 (cmp_ne_t c8)
    have hkn := c8
    unfold isk at c8
    have hk := CA_pt hA0 c8.1 c8.2
    have hr := Rg_pt hR c8.1 c8.2
    refine wp_go 1 hM (fr' := (14, [some (.inr 0), some (.inl k), some (.inl w)], [.inl w], σ)) rfl ?_
    have hR14 : mz_R w := by omega
    rcases (show w = 0 ∨ w = 1 ∨ w = 2 ∨ w = 3 ∨ w = 4 ∨ w = 5 ∨ (w < 0 ∨ 5 < w) by omega) with c14 | c14 | c14 | c14 | c14 | c14 | c14
    · refine wp_tsi (tgt := 52) (off := 38) hM rfl hR14 (by omega) (by rw [c14]; rfl) (by decide) ?_
      refine wp_go 5 hM (fr' := (63, [some (.inr 0), some (.inl k), some (.inl w)], [.inl k, .inr 16], σ)) rfl ?_
      refine wp_al (n := 32) hM rfl (by decide) rfl (by omega) (by omega) ?_
      rw [hk.1]
      refine wp_ret hM rfl (rfl) ?_
      exact ⟨by unfold aKnot; rw [if_neg (fun q => q hkn)]; simp [c14]; try rfl, h0, Fk.rf⟩
    · refine wp_tsi (tgt := 65) (off := 51) hM rfl hR14 (by omega) (by rw [c14]; rfl) (by decide) ?_
      refine wp_go 5 hM (fr' := (76, [some (.inr 0), some (.inl k), some (.inl w)], [.inl k, .inr 17], σ)) rfl ?_
      refine wp_al (n := 32) hM rfl (by decide) rfl (by omega) (by omega) ?_
      rw [hk.2.1]
      refine wp_ret hM rfl (rfl) ?_
      exact ⟨by unfold aKnot; rw [if_neg (fun q => q hkn)]; simp [c14]; try rfl, h0, Fk.rf⟩
    · refine wp_tsi (tgt := 78) (off := 64) hM rfl hR14 (by omega) (by rw [c14]; rfl) (by decide) ?_
      refine wp_go 5 hM (fr' := (89, [some (.inr 0), some (.inl k), some (.inl w)], [.inl k, .inr 18], σ)) rfl ?_
      refine wp_al (n := 32) hM rfl (by decide) rfl (by omega) (by omega) ?_
      rw [hk.2.2.1]
      refine wp_ret hM rfl (rfl) ?_
      exact ⟨by unfold aKnot; rw [if_neg (fun q => q hkn)]; simp [c14]; try rfl, h0, Fk.rf⟩
    · refine wp_tsi (tgt := 91) (off := 77) hM rfl hR14 (by omega) (by rw [c14]; rfl) (by decide) ?_
      refine wp_go 5 hM (fr' := (102, [some (.inr 0), some (.inl k), some (.inl w)], [.inl k, .inr 19], σ)) rfl ?_
      refine wp_al (n := 32) hM rfl (by decide) rfl (by omega) (by omega) ?_
      rw [hk.2.2.2]
      refine wp_ret hM rfl (rfl) ?_
      exact ⟨by unfold aKnot; rw [if_neg (fun q => q hkn)]; simp [c14]; try rfl, h0, Fk.rf⟩
    · refine wp_tsi (tgt := 104) (off := 90) hM rfl hR14 (by omega) (by rw [c14]; rfl) (by decide) ?_
      refine wp_go 3 hM (fr' := (109, [some (.inr 0), some (.inl k), some (.inl w)], [.inl k, .inr 1], σ)) rfl ?_
      refine wp_calld (v := 0) (idx := 141) (j := 14) (N := mtX1_trianglesOf) (as := [.inr 1, .inl k]) (rest := []) hM rfl (Or.inl ⟨rfl, rfl⟩) rfl (sp_X1_trianglesOf v l σ k (by first | assumption | omega) (by first | assumption | omega) (by first | assumption | omega)) ?_
      show mz_Wp shA none 74 (112, [some (.inr 0), some (.inl k), some (.inl w)], [.inl (sumI (l.length : Int) (fun i => b01 (hasK (tg l i) k)))], σ) _
      refine wp_ret hM rfl (rfl) ?_
      exact ⟨by unfold aKnot; rw [if_neg (fun q => q hkn)]; simp [c14]; try rfl, h0, Fk.rf⟩
    · refine wp_tsi (tgt := 113) (off := 99) hM rfl hR14 (by omega) (by rw [c14]; rfl) (by decide) ?_
      refine wp_go 3 hM (fr' := (118, [some (.inr 0), some (.inl k), some (.inl w)], [.inl k, .inr 1], σ)) rfl ?_
      refine wp_calld (v := 0) (idx := 144) (j := 13) (N := mtX1_kindOf) (as := [.inr 1, .inl k]) (rest := []) hM rfl (Or.inl ⟨rfl, rfl⟩) rfl (sp_X1_kindOf v l σ k (by first | assumption | omega) (by first | assumption | omega) (by first | assumption | omega) (by first | assumption | omega)) ?_
      show mz_Wp shA none 74 (121, [some (.inr 0), some (.inl k), some (.inl w)], [.inl (kind v k)], σ) _
      refine wp_ret hM rfl (rfl) ?_
      exact ⟨by unfold aKnot; rw [if_neg (fun q => q hkn)]; simp [c14]; try rfl, h0, Fk.rf⟩
    · refine wp_tso (tgt := 122) hM rfl (by decide) hR14 c14 ?_
      refine wp_go 1 hM (fr' := (123, [some (.inr 0), some (.inl k), some (.inl w)], [.inl (-1)], σ)) rfl ?_
      refine wp_ret hM rfl (rfl) ?_
      exact ⟨by unfold aKnot; rw [if_neg (fun q => q hkn)]; repeat rw [if_neg (by omega)], h0, Fk.rf⟩
  · replace c8 := b01_eq0 (cmp_ne_f c8)
    refine wp_go 1 hM (fr' := (12, [some (.inr 0), some (.inl k), some (.inl w)], [.inl (-1)], σ)) rfl ?_
    refine wp_ret hM rfl (rfl) ?_
    exact ⟨by unfold aKnot; rw [if_pos c8], h0, Fk.rf⟩

set_option maxRecDepth 100000 in
set_option maxHeartbeats 4000000 in
theorem sp_X5_find (v : mz_G) (l : List tr3) (σ : mz_G) (x : Int) (y : Int) (b : Int) (h0 : CS σ v l) (h1 : GO v l) (h2 : mz_R x) (h3 : mz_R y) (h4 : mz_R b) : mz_Cl shA 78 [.inr 0, .inl x, .inl y, .inl b] σ (fun r σ' => r = some (aFind v l x y b) ∧ CS σ' v l ∧ Fk σ σ') := by
  have hM : mz_meth[78]? = some mtX5_find := rfl
  have hA0 := h0.1
  obtain ⟨hB, hSd, ⟨hP0, hP1⟩, ⟨hC0, hC1'⟩, hVr, hn30, hl2⟩ := id h1
  obtain ⟨hR, hT, hLen⟩ := id hB
  obtain ⟨⟨hW0, hW1⟩, ⟨hH0, hH1⟩, ⟨hn0, hn1⟩, hpt⟩ := id hR
  obtain ⟨⟨hc1, hc2, hc3, hc4⟩, hcp, hct, hcv⟩ := id hA0
  have hWH := WH_bd hR
  refine mz_Cl.of hM ?_
  show mz_Wp shA none 78 (0, [some (.inr 0), some (.inl x), some (.inl y), some (.inl b)], [], σ) _
  refine wp_go 4 hM (fr' := (6, [some (.inr 0), some (.inl x), some (.inl y), some (.inl b)], [.inl y, .inl x, .inr 1], σ)) rfl ?_
  refine wp_calld (v := 0) (idx := 57) (j := 9) (N := mtX1_isDot) (as := [.inr 1, .inl x, .inl y]) (rest := []) hM rfl (Or.inl ⟨rfl, rfl⟩) rfl (sp_X1_isDot v l σ x y (by first | assumption | omega) (by first | assumption | omega) (by first | assumption | omega) (by first | assumption | omega)) ?_
  show mz_Wp shA none 78 (9, [some (.inr 0), some (.inl x), some (.inl y), some (.inl b)], [.inl (b01 (dot v x y))], σ) _
  refine wp_if (tgt := 14) hM rfl (by decide) b01_R (fun c9 => ?_) (fun c9 => ?_)
  · replace c9 := b01_ne0 (cmp_ne_t c9)
    have hdi := dn_in hR c9
    refine wp_go 1 hM (fr' := (15, [some (.inr 0), some (.inl x), some (.inl y), some (.inl b)], [.inl b], σ)) rfl ?_
    refine wp_if (tgt := 35) hM rfl (by decide) (by omega) (fun c15 => ?_) (fun c15 => ?_)
    · replace c15 := cmp_eq_t c15
      refine wp_go 1 hM (fr' := (36, [some (.inr 0), some (.inl x), some (.inl y), some (.inl b)], [.inr 0], σ)) rfl ?_
      refine wp_call (v := 0) (idx := 81) (j := 92) (N := mtX5_chart) (as := [.inr 0]) (rest := []) hM rfl (Or.inl ⟨rfl, rfl⟩) rfl (sp_X5_chart v l σ  (by first | assumption | omega) (by first | assumption | omega)) ?_
      rintro r0 σ_36 ⟨rfl, hA_36, hCC_36, hf_36⟩
      show mz_Wp shA none 78 (39, [some (.inr 0), some (.inl x), some (.inl y), some (.inl b)], [], σ_36) _
      refine wp_go 7 hM (fr' := (52, [some (.inr 0), some (.inl x), some (.inl y), some (.inl b)], [.inl y, .inl x, .inr 1, .inr 14], σ_36)) rfl ?_
      refine wp_calld (v := 0) (idx := 61) (j := 10) (N := mtX1_dotNumber) (as := [.inr 1, .inl x, .inl y]) (rest := [.inr 14]) hM rfl (Or.inl ⟨rfl, rfl⟩) rfl (sp_X1_dotNumber v l σ_36 x y (by first | assumption | omega) (by first | assumption | omega)) ?_
      show mz_Wp shA none 78 (55, [some (.inr 0), some (.inl x), some (.inl y), some (.inl b)], [.inl (y * v 0 0 + x), .inr 14], σ_36) _
      refine wp_al (n := 400) hM rfl (by decide) rfl (by omega) (by omega) ?_
      rw [show σ_36 14 (y * v 0 0 + x).toNat = lie v l 1 x y from (hCC_36.2.1 x y c9).1]
      refine wp_ret hM rfl (rfl) ?_
      exact ⟨by unfold aFind; rw [if_neg (fun q => q c9), if_pos c15], CS_CC hA_36 hCC_36, Fk_Fh hf_36⟩
    · replace c15 := cmp_eq_f c15
      refine wp_go 7 hM (fr' := (31, [some (.inr 0), some (.inl x), some (.inl y), some (.inl b)], [.inl y, .inl x, .inr 8, .inr 1], σ)) rfl ?_
      refine wp_calld (v := 0) (idx := 193) (j := 17) (N := mtX1_leastHolder) (as := [.inr 1, .inr 8, .inl x, .inl y]) (rest := []) hM rfl (Or.inl ⟨rfl, rfl⟩) rfl (sp_X1_leastHolder_8 v l σ x y (by first | assumption | omega) (by first | assumption | omega) (by first | assumption | omega)) ?_
      show mz_Wp shA none 78 (34, [some (.inr 0), some (.inl x), some (.inl y), some (.inl b)], [.inl (fstI (l.length : Int) (fun i => hol v 0 (tg l i) x y))], σ) _
      refine wp_ret hM rfl (rfl) ?_
      exact ⟨by unfold aFind; rw [if_neg (fun q => q c9), if_neg c15]; rfl, h0, Fk.rf⟩
  · replace c9 := b01_eq0 (cmp_ne_f c9)
    refine wp_go 1 hM (fr' := (13, [some (.inr 0), some (.inl x), some (.inl y), some (.inl b)], [.inl (-1)], σ)) rfl ?_
    refine wp_ret hM rfl (rfl) ?_
    exact ⟨by unfold aFind; rw [if_pos c9], h0, Fk.rf⟩

set_option maxRecDepth 100000 in
set_option maxHeartbeats 4000000 in
theorem sp_X5_nearest (v : mz_G) (l : List tr3) (σ : mz_G) (x : Int) (y : Int) (h0 : CS σ v l) (h1 : GO v l) (h2 : mz_R x) (h3 : mz_R y) : mz_Cl shA 82 [.inr 0, .inl x, .inl y] σ (fun r σ' => r = some (aNear v l x y) ∧ CS σ' v l ∧ Fk σ σ') := by
  have hM : mz_meth[82]? = some mtX5_nearest := rfl
  have hA0 := h0.1
  obtain ⟨hB, hSd, ⟨hP0, hP1⟩, ⟨hC0, hC1'⟩, hVr, hn30, hl2⟩ := id h1
  obtain ⟨hR, hT, hLen⟩ := id hB
  obtain ⟨⟨hW0, hW1⟩, ⟨hH0, hH1⟩, ⟨hn0, hn1⟩, hpt⟩ := id hR
  obtain ⟨⟨hc1, hc2, hc3, hc4⟩, hcp, hct, hcv⟩ := id hA0
  have hWH := WH_bd hR
  refine mz_Cl.of hM ?_
  show mz_Wp shA none 82 (0, [some (.inr 0), some (.inl x), some (.inl y)], [], σ) _
  refine wp_go 4 hM (fr' := (6, [some (.inr 0), some (.inl x), some (.inl y)], [.inl y, .inl x, .inr 1], σ)) rfl ?_
  refine wp_calld (v := 0) (idx := 57) (j := 9) (N := mtX1_isDot) (as := [.inr 1, .inl x, .inl y]) (rest := []) hM rfl (Or.inl ⟨rfl, rfl⟩) rfl (sp_X1_isDot v l σ x y (by first | assumption | omega) (by first | assumption | omega) (by first | assumption | omega) (by first | assumption | omega)) ?_
  show mz_Wp shA none 82 (9, [some (.inr 0), some (.inl x), some (.inl y)], [.inl (b01 (dot v x y))], σ) _
  refine wp_if (tgt := 14) hM rfl (by decide) b01_R (fun c9 => ?_) (fun c9 => ?_)
  · replace c9 := b01_ne0 (cmp_ne_t c9)
    have hdi := dn_in hR c9
    refine wp_go 1 hM (fr' := (15, [some (.inr 0), some (.inl x), some (.inl y)], [.inr 0], σ)) rfl ?_
    refine wp_call (v := 0) (idx := 81) (j := 92) (N := mtX5_chart) (as := [.inr 0]) (rest := []) hM rfl (Or.inl ⟨rfl, rfl⟩) rfl (sp_X5_chart v l σ  (by first | assumption | omega) (by first | assumption | omega)) ?_
    rintro r0 σ_15 ⟨rfl, hA_15, hCC_15, hf_15⟩
    show mz_Wp shA none 82 (18, [some (.inr 0), some (.inl x), some (.inl y)], [], σ_15) _
    refine wp_go 6 hM (fr' := (28, [some (.inr 0), some (.inl x), some (.inl y)], [.inl y, .inl x, .inr 1, .inr 5], σ_15)) rfl ?_
    refine wp_calld (v := 0) (idx := 61) (j := 10) (N := mtX1_dotNumber) (as := [.inr 1, .inl x, .inl y]) (rest := [.inr 5]) hM rfl (Or.inl ⟨rfl, rfl⟩) rfl (sp_X1_dotNumber v l σ_15 x y (by first | assumption | omega) (by first | assumption | omega)) ?_
    show mz_Wp shA none 82 (31, [some (.inr 0), some (.inl x), some (.inl y)], [.inl (y * v 0 0 + x), .inr 5], σ_15) _
    refine wp_al (n := 400) hM rfl (by decide) rfl (by omega) (by omega) ?_
    rw [hCC_15.2.2 _ hdi.1 hdi.2.1]
    refine wp_ret hM rfl (rfl) ?_
    exact ⟨by unfold aNear; rw [if_neg (fun q => q c9)], CS_CC hA_15 hCC_15, Fk_Fh hf_15⟩
  · replace c9 := b01_eq0 (cmp_ne_f c9)
    refine wp_go 1 hM (fr' := (13, [some (.inr 0), some (.inl x), some (.inl y)], [.inl (-1)], σ)) rfl ?_
    refine wp_ret hM rfl (rfl) ?_
    exact ⟨by unfold aNear; rw [if_pos c9], h0, Fk.rf⟩

set_option maxRecDepth 100000 in
set_option maxHeartbeats 4000000 in
theorem sp_X5_uses (v : mz_G) (l : List tr3) (σ : mz_G) (x : Int) (y : Int) (h0 : CS σ v l) (h1 : GO v l) (h2 : mz_R x) (h3 : mz_R y) : mz_Cl shA 84 [.inr 0, .inl x, .inl y] σ (fun r σ' => r = some (aUses v l x y) ∧ CS σ' v l ∧ Fk σ σ') := by
  have hM : mz_meth[84]? = some mtX5_uses := rfl
  have hA0 := h0.1
  obtain ⟨hB, hSd, ⟨hP0, hP1⟩, ⟨hC0, hC1'⟩, hVr, hn30, hl2⟩ := id h1
  obtain ⟨hR, hT, hLen⟩ := id hB
  obtain ⟨⟨hW0, hW1⟩, ⟨hH0, hH1⟩, ⟨hn0, hn1⟩, hpt⟩ := id hR
  obtain ⟨⟨hc1, hc2, hc3, hc4⟩, hcp, hct, hcv⟩ := id hA0
  have hWH := WH_bd hR
  refine mz_Cl.of hM ?_
  show mz_Wp shA none 84 (0, [some (.inr 0), some (.inl x), some (.inl y)], [], σ) _
  refine wp_go 4 hM (fr' := (6, [some (.inr 0), some (.inl x), some (.inl y)], [.inl y, .inl x, .inr 1], σ)) rfl ?_
  refine wp_calld (v := 0) (idx := 57) (j := 9) (N := mtX1_isDot) (as := [.inr 1, .inl x, .inl y]) (rest := []) hM rfl (Or.inl ⟨rfl, rfl⟩) rfl (sp_X1_isDot v l σ x y (by first | assumption | omega) (by first | assumption | omega) (by first | assumption | omega) (by first | assumption | omega)) ?_
  show mz_Wp shA none 84 (9, [some (.inr 0), some (.inl x), some (.inl y)], [.inl (b01 (dot v x y))], σ) _
  refine wp_if (tgt := 14) hM rfl (by decide) b01_R (fun c9 => ?_) (fun c9 => ?_)
  · replace c9 := b01_ne0 (cmp_ne_t c9)
    have hdi := dn_in hR c9
    refine wp_go 1 hM (fr' := (15, [some (.inr 0), some (.inl x), some (.inl y)], [.inr 0], σ)) rfl ?_
    refine wp_call (v := 0) (idx := 81) (j := 92) (N := mtX5_chart) (as := [.inr 0]) (rest := []) hM rfl (Or.inl ⟨rfl, rfl⟩) rfl (sp_X5_chart v l σ  (by first | assumption | omega) (by first | assumption | omega)) ?_
    rintro r0 σ_15 ⟨rfl, hA_15, hCC_15, hf_15⟩
    show mz_Wp shA none 84 (18, [some (.inr 0), some (.inl x), some (.inl y)], [], σ_15) _
    refine wp_go 1 hM (fr' := (19, [some (.inr 0), some (.inl x), some (.inl y)], [.inr 0], σ_15)) rfl ?_
    refine wp_call (v := 0) (idx := 238) (j := 97) (N := mtX5_countUses) (as := [.inr 0]) (rest := []) hM rfl (Or.inl ⟨rfl, rfl⟩) rfl (sp_X5_countUses v l σ_15  (by first | assumption | omega) (by first | assumption | omega) (by first | assumption | omega)) ?_
    rintro r0 σ_19 ⟨rfl, hu_19, hf_19⟩
    show mz_Wp shA none 84 (22, [some (.inr 0), some (.inl x), some (.inl y)], [], σ_19) _
    have hA19 := CA_Fu hA_15 hf_19
    have hCC19 := CC_Fu hCC_15 hf_19
    refine wp_go 6 hM (fr' := (32, [some (.inr 0), some (.inl x), some (.inl y)], [.inl y, .inl x, .inr 1, .inr 6], σ_19)) rfl ?_
    refine wp_calld (v := 0) (idx := 61) (j := 10) (N := mtX1_dotNumber) (as := [.inr 1, .inl x, .inl y]) (rest := [.inr 6]) hM rfl (Or.inl ⟨rfl, rfl⟩) rfl (sp_X1_dotNumber v l σ_19 x y (by first | assumption | omega) (by first | assumption | omega)) ?_
    show mz_Wp shA none 84 (35, [some (.inr 0), some (.inl x), some (.inl y)], [.inl (y * v 0 0 + x), .inr 6], σ_19) _
    refine wp_al (n := 400) hM rfl (by decide) rfl (by omega) (by omega) ?_
    rw [hu_19 _ hdi.1 hdi.2.1]
    refine wp_ret hM rfl (rfl) ?_
    exact ⟨by unfold aUses; rw [if_neg (fun q => q c9)], CS_CC hA19 hCC19, (Fk_Fh hf_15).tr (Fk_Fu hf_19)⟩
  · replace c9 := b01_eq0 (cmp_ne_f c9)
    refine wp_go 1 hM (fr' := (13, [some (.inr 0), some (.inl x), some (.inl y)], [.inl (-1)], σ)) rfl ?_
    refine wp_ret hM rfl (rfl) ?_
    exact ⟨by unfold aUses; rw [if_pos c9], h0, Fk.rf⟩

set_option maxRecDepth 100000 in
set_option maxHeartbeats 4000000 in
theorem sp_X5_lost (v : mz_G) (l : List tr3) (σ : mz_G)  (h0 : CS σ v l) (h1 : GO v l) : mz_Cl shA 85 [.inr 0] σ (fun r σ' => r = some (aLost v l) ∧ CS σ' v l ∧ Fk σ σ') := by
  have hM : mz_meth[85]? = some mtX5_lost := rfl
  have hA0 := h0.1
  obtain ⟨hB, hSd, ⟨hP0, hP1⟩, ⟨hC0, hC1'⟩, hVr, hn30, hl2⟩ := id h1
  obtain ⟨hR, hT, hLen⟩ := id hB
  obtain ⟨⟨hW0, hW1⟩, ⟨hH0, hH1⟩, ⟨hn0, hn1⟩, hpt⟩ := id hR
  obtain ⟨⟨hc1, hc2, hc3, hc4⟩, hcp, hct, hcv⟩ := id hA0
  have hWH := WH_bd hR
  refine mz_Cl.of hM ?_
  show mz_Wp shA none 85 (0, [some (.inr 0), none, none], [], σ) _
  refine wp_go 1 hM (fr' := (1, [some (.inr 0), none, none], [.inr 0], σ)) rfl ?_
  refine wp_call (v := 0) (idx := 81) (j := 92) (N := mtX5_chart) (as := [.inr 0]) (rest := []) hM rfl (Or.inl ⟨rfl, rfl⟩) rfl (sp_X5_chart v l σ  (by first | assumption | omega) (by first | assumption | omega)) ?_
  rintro r0 σ_1 ⟨rfl, hA_1, hCC_1, hf_1⟩
  show mz_Wp shA none 85 (4, [some (.inr 0), none, none], [], σ_1) _
  refine wp_go 1 hM (fr' := (5, [some (.inr 0), none, none], [.inr 0], σ_1)) rfl ?_
  refine wp_call (v := 0) (idx := 238) (j := 97) (N := mtX5_countUses) (as := [.inr 0]) (rest := []) hM rfl (Or.inl ⟨rfl, rfl⟩) rfl (sp_X5_countUses v l σ_1  (by first | assumption | omega) (by first | assumption | omega) (by first | assumption | omega)) ?_
  rintro r0 σ_5 ⟨rfl, hu_5, hf_5⟩
  show mz_Wp shA none 85 (8, [some (.inr 0), none, none], [], σ_5) _
  have hA5 := CA_Fu hA_1 hf_5
  have hCC5 := CC_Fu hCC_1 hf_5
  refine wp_go 4 hM (fr' := (12, [some (.inr 0), some (.inl 0), some (.inl 0)], [], σ_5)) rfl ?_
  have loop12 : ∀ (fuel : Nat) (f : Int) (d : Int), (0 ≤ d) → (d ≤ v 0 0 * v 0 1) → (f = sumI d (fun i => b01 (us v l (v 0 0 * v 0 1) i = 0))) → ((v 0 0 * v 0 1 - d : Int) < fuel) → mz_Wp shA none 85 (12, [some (.inr 0), some (.inl f), some (.inl d)], [], σ_5) (fun r σ' => r = some (aLost v l) ∧ CS σ' v l ∧ Fk σ σ') := by
    intro fuel
    induction fuel with
    | zero =>
      intro f d hv12_0 hv12_1 hv12_2 hf12
      exfalso
      omega
    | succ fuel ih12 =>
      intro f d hv12_0 hv12_1 hv12_2 hf12
      have hs : sumI (d + 1) (fun i => b01 (us v l (v 0 0 * v 0 1) i = 0)) = sumI d (fun i => b01 (us v l (v 0 0 * v 0 1) i = 0)) + b01 (us v l (v 0 0 * v 0 1) d = 0) := sumI_s hv12_0
      have hb := sumI_bd (a := 0) (b := 1) (f := (fun i => b01 (us v l (v 0 0 * v 0 1) i = 0))) hv12_0 (fun i _ _ => by rcases b01_01 (P := us v l (v 0 0 * v 0 1) i = 0) with q | q <;> omega)
      refine wp_go 3 hM (fr' := (17, [some (.inr 0), some (.inl f), some (.inl d)], [.inr 1, .inl d], σ_5)) rfl ?_
      refine wp_calld (v := 0) (idx := 134) (j := 11) (N := mtX1_dots) (as := [.inr 1]) (rest := [.inl d]) hM rfl (Or.inl ⟨rfl, rfl⟩) rfl (sp_X1_dots v l σ_5  (by first | assumption | omega) (by first | assumption | omega)) ?_
      show mz_Wp shA none 85 (20, [some (.inr 0), some (.inl f), some (.inl d)], [.inl (v 0 0 * v 0 1), .inl d], σ_5) _
      refine wp_ic (tgt := 41) hM rfl (by decide) (by omega) (by omega) (fun c20 => ?_) (fun c20 => ?_)
      · replace c20 := cmp_ge_t c20
        refine wp_go 1 hM (fr' := (42, [some (.inr 0), some (.inl f), some (.inl d)], [.inl f], σ_5)) rfl ?_
        refine wp_ret hM rfl (rfl) ?_
        exact ⟨by unfold aLost; rw [hv12_2, show d = v 0 0 * v 0 1 from by omega], CS_CC hA5 hCC5, (Fk_Fh hf_1).tr (Fk_Fu hf_5)⟩
      · replace c20 := cmp_ge_f c20
        have hub := us_bd (v := v) (l := l) (D := v 0 0 * v 0 1) (e := d) (by omega)
        refine wp_go 3 hM (fr' := (28, [some (.inr 0), some (.inl f), some (.inl d)], [.inl d, .inr 6], σ_5)) rfl ?_
        refine wp_al (n := 400) hM rfl (by decide) rfl (by omega) (by omega) ?_
        rw [hu_5 d hv12_0 (by omega)]
        refine wp_if (tgt := 35) hM rfl (by decide) (by omega) (fun c29 => ?_) (fun c29 => ?_)
        · replace c29 := cmp_ne_t c29
          refine wp_go 2 hM (fr' := (12, [some (.inr 0), some (.inl f), some (.inl (d + 1))], [], σ_5)) rfl ?_
          exact ih12 f (d + 1) (by omega) (by omega) (by rw [hs]; first | (rw [b01_t c29]; omega) | (rw [b01_f c29]; omega)) (by omega)
        · replace c29 := cmp_ne_f c29
          refine wp_go 3 hM (fr' := (12, [some (.inr 0), some (.inl (f + 1)), some (.inl (d + 1))], [], σ_5)) rfl ?_
          exact ih12 (f + 1) (d + 1) (by omega) (by omega) (by rw [hs]; first | (rw [b01_t c29]; omega) | (rw [b01_f c29]; omega)) (by omega)
  exact loop12 402 0 0 (by omega) (by omega) (by rfl) (by omega)

set_option maxRecDepth 100000 in
set_option maxHeartbeats 4000000 in
theorem sp_X5_trace (v : mz_G) (l : List tr3) (σ : mz_G) (x : Int) (y : Int) (n : Int) (h0 : CS σ v l) (h1 : GO v l) (h2 : mz_R x) (h3 : mz_R y) (h4 : mz_R n) : mz_Cl shA 86 [.inr 0, .inl x, .inl y, .inl n] σ (fun r σ' => r = some (aTrace v l x y n) ∧ CS σ' v l ∧ Fk σ σ') := by
  have hM : mz_meth[86]? = some mtX5_trace := rfl
  have hA0 := h0.1
  obtain ⟨hB, hSd, ⟨hP0, hP1⟩, ⟨hC0, hC1'⟩, hVr, hn30, hl2⟩ := id h1
  obtain ⟨hR, hT, hLen⟩ := id hB
  obtain ⟨⟨hW0, hW1⟩, ⟨hH0, hH1⟩, ⟨hn0, hn1⟩, hpt⟩ := id hR
  obtain ⟨⟨hc1, hc2, hc3, hc4⟩, hcp, hct, hcv⟩ := id hA0
  have hWH := WH_bd hR
  refine mz_Cl.of hM ?_
  show mz_Wp shA none 86 (0, [some (.inr 0), some (.inl x), some (.inl y), some (.inl n), none, none], [], σ) _
  refine wp_go 4 hM (fr' := (6, [some (.inr 0), some (.inl x), some (.inl y), some (.inl n), none, none], [.inl y, .inl x, .inr 1], σ)) rfl ?_
  refine wp_calld (v := 0) (idx := 57) (j := 9) (N := mtX1_isDot) (as := [.inr 1, .inl x, .inl y]) (rest := []) hM rfl (Or.inl ⟨rfl, rfl⟩) rfl (sp_X1_isDot v l σ x y (by first | assumption | omega) (by first | assumption | omega) (by first | assumption | omega) (by first | assumption | omega)) ?_
  show mz_Wp shA none 86 (9, [some (.inr 0), some (.inl x), some (.inl y), some (.inl n), none, none], [.inl (b01 (dot v x y))], σ) _
  refine wp_if (tgt := 22) hM rfl (by decide) b01_R (fun c9 => ?_) (fun c9 => ?_)
  · replace c9 := b01_eq0 (cmp_eq_t c9)
    refine wp_go 1 hM (fr' := (23, [some (.inr 0), some (.inl x), some (.inl y), some (.inl n), none, none], [.inl (-1)], σ)) rfl ?_
    refine wp_ret hM rfl (rfl) ?_
    exact ⟨by unfold aTrace; rw [if_pos (by first | exact Or.inl c9 | exact Or.inr (by omega))], h0, Fk.rf⟩
  · replace c9 := b01_ne0 (cmp_eq_f c9)
    have hdi := dn_in hR c9
    refine wp_go 1 hM (fr' := (13, [some (.inr 0), some (.inl x), some (.inl y), some (.inl n), none, none], [.inl n], σ)) rfl ?_
    refine wp_if (tgt := 22) hM rfl (by decide) (by omega) (fun c13 => ?_) (fun c13 => ?_)
    · replace c13 := cmp_lt_t c13
      refine wp_go 1 hM (fr' := (23, [some (.inr 0), some (.inl x), some (.inl y), some (.inl n), none, none], [.inl (-1)], σ)) rfl ?_
      refine wp_ret hM rfl (rfl) ?_
      exact ⟨by unfold aTrace; rw [if_pos (by first | exact Or.inl c9 | exact Or.inr (by omega))], h0, Fk.rf⟩
    · replace c13 := cmp_lt_f c13
      refine wp_go 2 hM (fr' := (19, [some (.inr 0), some (.inl x), some (.inl y), some (.inl n), none, none], [.inl 100, .inl n], σ)) rfl ?_
      refine wp_ic (tgt := 24) hM rfl (by decide) (by omega) (by omega) (fun c19 => ?_) (fun c19 => ?_)
      · replace c19 := cmp_le_t c19
        refine wp_go 1 hM (fr' := (25, [some (.inr 0), some (.inl x), some (.inl y), some (.inl n), none, none], [.inr 0], σ)) rfl ?_
        refine wp_call (v := 0) (idx := 81) (j := 92) (N := mtX5_chart) (as := [.inr 0]) (rest := []) hM rfl (Or.inl ⟨rfl, rfl⟩) rfl (sp_X5_chart v l σ  (by first | assumption | omega) (by first | assumption | omega)) ?_
        rintro r0 σ_25 ⟨rfl, hA_25, hCC_25, hf_25⟩
        show mz_Wp shA none 86 (28, [some (.inr 0), some (.inl x), some (.inl y), some (.inl n), none, none], [], σ_25) _
        refine wp_go 4 hM (fr' := (34, [some (.inr 0), some (.inl x), some (.inl y), some (.inl n), none, none], [.inl y, .inl x, .inr 1], σ_25)) rfl ?_
        refine wp_calld (v := 0) (idx := 61) (j := 10) (N := mtX1_dotNumber) (as := [.inr 1, .inl x, .inl y]) (rest := []) hM rfl (Or.inl ⟨rfl, rfl⟩) rfl (sp_X1_dotNumber v l σ_25 x y (by first | assumption | omega) (by first | assumption | omega)) ?_
        show mz_Wp shA none 86 (37, [some (.inr 0), some (.inl x), some (.inl y), some (.inl n), none, none], [.inl (y * v 0 0 + x)], σ_25) _
        refine wp_go 3 hM (fr' := (42, [some (.inr 0), some (.inl x), some (.inl y), some (.inl n), some (.inl (y * v 0 0 + x)), some (.inl 0)], [], σ_25)) rfl ?_
        have loop42 : ∀ (fuel : Nat) (d : Int) (i : Int), (0 ≤ i) → (i ≤ n) → (0 ≤ d ∧ d < v 0 0 * v 0 1) → (d = itN v l i.toNat (y * v 0 0 + x)) → ((n - i : Int) < fuel) → mz_Wp shA none 86 (42, [some (.inr 0), some (.inl x), some (.inl y), some (.inl n), some (.inl d), some (.inl i)], [], σ_25) (fun r σ' => r = some (aTrace v l x y n) ∧ CS σ' v l ∧ Fk σ σ') := by
          intro fuel
          induction fuel with
          | zero =>
            intro d i hv42_0 hv42_1 hv42_2 hv42_3 hf42
            exfalso
            omega
          | succ fuel ih42 =>
            intro d i hv42_0 hv42_1 hv42_2 hv42_3 hf42
            refine wp_go 2 hM (fr' := (45, [some (.inr 0), some (.inl x), some (.inl y), some (.inl n), some (.inl d), some (.inl i)], [.inl n, .inl i], σ_25)) rfl ?_
            refine wp_ic (tgt := 63) hM rfl (by decide) (by omega) (by omega) (fun c45 => ?_) (fun c45 => ?_)
            · replace c45 := cmp_ge_t c45
              refine wp_go 1 hM (fr' := (65, [some (.inr 0), some (.inl x), some (.inl y), some (.inl n), some (.inl d), some (.inl i)], [.inl d], σ_25)) rfl ?_
              refine wp_ret hM rfl (rfl) ?_
              exact ⟨by unfold aTrace; rw [if_neg (by intro q; rcases q with q | q; exact q c9; omega), hv42_3, show i = n from by omega], CS_CC hA_25 hCC_25, Fk_Fh hf_25⟩
            · replace c45 := cmp_ge_f c45
              have hni := ne_in h1 hv42_2.1 hv42_2.2
              refine wp_go 3 hM (fr' := (54, [some (.inr 0), some (.inl x), some (.inl y), some (.inl n), some (.inl d), some (.inl i)], [.inl d, .inr 5], σ_25)) rfl ?_
              refine wp_al (n := 400) hM rfl (by decide) rfl (by omega) (by omega) ?_
              rw [hCC_25.2.2 d hv42_2.1 hv42_2.2]
              refine wp_go 3 hM (fr' := (42, [some (.inr 0), some (.inl x), some (.inl y), some (.inl n), some (.inl (ne v l d)), some (.inl (i + 1))], [], σ_25)) rfl ?_
              exact ih42 (ne v l d) (i + 1) (by omega) (by omega) (by exact hni) (by rw [show (i + 1).toNat = i.toNat + 1 by omega]; show _ = ne v l (itN v l i.toNat _); rw [← hv42_3]) (by omega)
        exact loop42 102 (y * v 0 0 + x) 0 (by omega) (by omega) (by omega) (by rfl) (by omega)
      · replace c19 := cmp_le_f c19
        refine wp_go 1 hM (fr' := (23, [some (.inr 0), some (.inl x), some (.inl y), some (.inl n), none, none], [.inl (-1)], σ)) rfl ?_
        refine wp_ret hM rfl (rfl) ?_
        exact ⟨by unfold aTrace; rw [if_pos (by first | exact Or.inl c9 | exact Or.inr (by omega))], h0, Fk.rf⟩
