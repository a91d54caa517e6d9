set_option maxRecDepth 100000 in
set_option maxHeartbeats 4000000 in
theorem sp_X5_triangle (v : mz_G) (l : List tr3) (σ : mz_G) (t : Int) (w : Int) (h0 : CS σ v l) (h1 : GO v l) (h2 : mz_R t) (h3 : mz_R w) : mz_Cl shA 75 [.inr 0, .inl t, .inl w] σ (fun r σ' => r = some (aTri v l t w) ∧ CS σ' v l ∧ Fk σ σ') := by
  have hM : mz_meth[75]? = some mtX5_triangle := rfl
  have hA0 := h0.1
  obtain ⟨hB, hSd, ⟨hP0, hP1⟩, ⟨hC0, hC1'⟩, hVr, hn30, hl2⟩ := id h1
  obtain ⟨hR, hT, hLen⟩ := id hB
  obtain ⟨⟨hW0, hW1⟩, ⟨hH0, hH1⟩, ⟨hn0, hn1⟩, hpt⟩ := id hR
  obtain ⟨⟨hc1, hc2, hc3, hc4⟩, hcp, hct, hcv⟩ := id hA0
  have hWH := WH_bd hR
  refine mz_Cl.of hM ?_
  show mz_Wp shA none 75 (0, [some (.inr 0), some (.inl t), some (.inl w)], [], σ) _
  refine wp_go 4 hM (fr' := (8, [some (.inr 0), some (.inl t), some (.inl w)], [.inl t, .inr 11], σ)) rfl ?_
  refine wp_calld (v := 0) (idx := 151) (j := 53) (N := mtX4_isOne) (as := [.inr 11, .inl t]) (rest := []) hM rfl (Or.inl ⟨rfl, rfl⟩) rfl (sp_X4_isOne  σ t (by first | (first | assumption | (constructor <;> omega) | omega) | fail) (by first | (first | assumption | (constructor <;> omega) | omega) | fail)) ?_
  show mz_Wp shA none 75 (11, [some (.inr 0), some (.inl t), some (.inl w)], [.inl (b01 (0 ≤ t ∧ t < σ 11 1))], σ) _
  refine wp_if (tgt := 16) hM rfl (by decide) b01_R (fun c11 => ?_) (fun c11 => ?_)
  · replace c11 := b01_ne0 (cmp_ne_t c11)
    first | (have hti : 0 ≤ t ∧ t < (l.length : Int) := by omega) | skip
    first | (have ht := Rt_at hT hti.1 hti.2) | skip
    refine wp_go 1 hM (fr' := (17, [some (.inr 0), some (.inl t), some (.inl w)], [.inl w], σ)) rfl ?_
    have hR17 : mz_R w := by omega
    rcases (show w = 0 ∨ w = 1 ∨ w = 2 ∨ w = 3 ∨ w = 4 ∨ w = 5 ∨ (w < 0 ∨ 5 < w) by omega) with c17 | c17 | c17 | c17 | c17 | c17 | c17
    · refine wp_tsi (tgt := 56) (off := 39) hM rfl hR17 (by omega) (by rw [c17]; rfl) (by decide) ?_
      refine wp_go 4 hM (fr' := (64, [some (.inr 0), some (.inl t), some (.inl w)], [.inl t, .inr 11], σ)) rfl ?_
      refine wp_calld (v := 0) (idx := 156) (j := 54) (N := mtX4_first) (as := [.inr 11, .inl t]) (rest := []) hM rfl (Or.inl ⟨rfl, rfl⟩) rfl (sp_X4_first_v v l σ t (by first | (first | assumption | omega) | fail) (by first | (first | assumption | omega) | fail) (by first | (first | assumption | omega) | fail) (by first | (first | assumption | omega) | fail)) ?_
      show mz_Wp shA none 75 (67, [some (.inr 0), some (.inl t), some (.inl w)], [.inl ((tg l t).1)], σ) _
      refine wp_ret hM rfl (rfl) ?_
      first | (exact ⟨by unfold aTri; rw [if_neg (fun q => q hti)]; simp [c17]; try rfl, h0, Fk.rf⟩) | fail
    · refine wp_tsi (tgt := 68) (off := 51) hM rfl hR17 (by omega) (by rw [c17]; rfl) (by decide) ?_
      refine wp_go 4 hM (fr' := (76, [some (.inr 0), some (.inl t), some (.inl w)], [.inl t, .inr 11], σ)) rfl ?_
      refine wp_calld (v := 0) (idx := 159) (j := 55) (N := mtX4_second) (as := [.inr 11, .inl t]) (rest := []) hM rfl (Or.inl ⟨rfl, rfl⟩) rfl (sp_X4_second_v v l σ t (by first | (first | assumption | omega) | fail) (by first | (first | assumption | omega) | fail) (by first | (first | assumption | omega) | fail) (by first | (first | assumption | omega) | fail)) ?_
      show mz_Wp shA none 75 (79, [some (.inr 0), some (.inl t), some (.inl w)], [.inl ((tg l t).2.1)], σ) _
      refine wp_ret hM rfl (rfl) ?_
      first | (exact ⟨by unfold aTri; rw [if_neg (fun q => q hti)]; simp [c17]; try rfl, h0, Fk.rf⟩) | fail
    · refine wp_tsi (tgt := 80) (off := 63) hM rfl hR17 (by omega) (by rw [c17]; rfl) (by decide) ?_
      refine wp_go 4 hM (fr' := (88, [some (.inr 0), some (.inl t), some (.inl w)], [.inl t, .inr 11], σ)) rfl ?_
      refine wp_calld (v := 0) (idx := 162) (j := 56) (N := mtX4_third) (as := [.inr 11, .inl t]) (rest := []) hM rfl (Or.inl ⟨rfl, rfl⟩) rfl (sp_X4_third_v v l σ t (by first | (first | assumption | omega) | fail) (by first | (first | assumption | omega) | fail) (by first | (first | assumption | omega) | fail) (by first | (first | assumption | omega) | fail)) ?_
      show mz_Wp shA none 75 (91, [some (.inr 0), some (.inl t), some (.inl w)], [.inl ((tg l t).2.2)], σ) _
      refine wp_ret hM rfl (rfl) ?_
      first | (exact ⟨by unfold aTri; rw [if_neg (fun q => q hti)]; simp [c17]; try rfl, h0, Fk.rf⟩) | fail
    · refine wp_tsi (tgt := 92) (off := 75) hM rfl hR17 (by omega) (by rw [c17]; rfl) (by decide) ?_
      refine wp_go 6 hM (fr' := (104, [some (.inr 0), some (.inl t), some (.inl w)], [.inl t, .inr 8, .inr 1], σ)) rfl ?_
      refine wp_calld (v := 0) (idx := 165) (j := 15) (N := mtX1_areaOf) (as := [.inr 1, .inr 8, .inl t]) (rest := []) hM rfl (Or.inl ⟨rfl, rfl⟩) rfl (sp_X1_areaOf_8 v l σ t (by first | (first | assumption | omega) | fail) (by first | (first | assumption | omega) | fail) (by first | (first | assumption | omega) | fail) (by first | (first | assumption | omega) | fail)) ?_
      show mz_Wp shA none 75 (107, [some (.inr 0), some (.inl t), some (.inl w)], [.inl (tar v 0 (tg l t))], σ) _
      refine wp_ret hM rfl (rfl) ?_
      first | (exact ⟨by unfold aTri; rw [if_neg (fun q => q hti)]; simp [c17]; try rfl, h0, Fk.rf⟩) | fail
    · refine wp_tsi (tgt := 108) (off := 91) hM rfl hR17 (by omega) (by rw [c17]; rfl) (by decide) ?_
      refine wp_go 6 hM (fr' := (120, [some (.inr 0), some (.inl t), some (.inl w)], [.inl t, .inr 9, .inr 1], σ)) rfl ?_
      refine wp_calld (v := 0) (idx := 165) (j := 15) (N := mtX1_areaOf) (as := [.inr 1, .inr 9, .inl t]) (rest := []) hM rfl (Or.inl ⟨rfl, rfl⟩) rfl (sp_X1_areaOf_9 v l σ t (by first | (first | assumption | omega) | fail) (by first | (first | assumption | omega) | fail) (by first | (first | assumption | omega) | fail) (by first | (first | assumption | omega) | fail)) ?_
      show mz_Wp shA none 75 (123, [some (.inr 0), some (.inl t), some (.inl w)], [.inl (tar v 1 (tg l t))], σ) _
      refine wp_ret hM rfl (rfl) ?_
      first | (exact ⟨by unfold aTri; rw [if_neg (fun q => q hti)]; simp [c17]; try rfl, h0, Fk.rf⟩) | fail
    · refine wp_tsi (tgt := 124) (off := 107) hM rfl hR17 (by omega) (by rw [c17]; rfl) (by decide) ?_
      refine wp_go 1 hM (fr' := (125, [some (.inr 0), some (.inl t), some (.inl w)], [.inr 0], σ)) rfl ?_
      refine wp_call (v := 0) (idx := 81) (j := 92) (N := mtX5_chart) (as := [.inr 0]) (rest := []) hM rfl (Or.inl ⟨rfl, rfl⟩) rfl (sp_X5_chart v l σ  (by first | (first | assumption | omega) | fail) (by first | (first | assumption | omega) | fail)) ?_
      rintro r0 σ_125 ⟨rfl, hA_125, hCC_125, hf_125⟩
      show mz_Wp shA none 75 (128, [some (.inr 0), some (.inl t), some (.inl w)], [], σ_125) _
      first | (have hlie : ∀ d : Int, 0 ≤ d → d < v 0 0 * v 0 1 → σ_125 14 d.toNat = lie v l 1 (d % v 0 0) (d / v 0 0) := fun d a b => by have q := dmv hR a b; have := (hCC_125.2.1 _ _ q.1).1; rw [q.2] at this; exact this) | skip
      refine wp_go 5 hM (fr' := (137, [some (.inr 0), some (.inl t), some (.inl w)], [.inr 1, .inl t, .inr 2], σ_125)) rfl ?_
      refine wp_calld (v := 0) (idx := 134) (j := 11) (N := mtX1_dots) (as := [.inr 1]) (rest := [.inl t, .inr 2]) hM rfl (Or.inl ⟨rfl, rfl⟩) rfl (sp_X1_dots v l σ_125  (by first | (first | assumption | omega) | fail) (by first | (first | assumption | omega) | fail)) ?_
      show mz_Wp shA none 75 (140, [some (.inr 0), some (.inl t), some (.inl w)], [.inl (v 0 0 * v 0 1), .inl t, .inr 2], σ_125) _
      refine wp_calld (v := 0) (idx := 169) (j := 5) (N := mtX0_dotsIn) (as := [.inr 2, .inl t, .inl (v 0 0 * v 0 1)]) (rest := []) hM rfl (Or.inl ⟨rfl, rfl⟩) rfl (sp_X0_dotsIn  σ_125 t (v 0 0 * v 0 1) (by first | (first | assumption | omega) | fail) (by first | (first | assumption | omega) | fail) (by first | (first | assumption | omega) | fail) (by first | (exact fun d a b => by rw [hlie d a b]; rcases lie_bd (v := v) (l := l) (q := 1) (x := d % v 0 0) (y := d / v 0 0) with z | z <;> constructor <;> omega) | fail)) ?_
      show mz_Wp shA none 75 (143, [some (.inr 0), some (.inl t), some (.inl w)], [.inl (sumI (v 0 0 * v 0 1) (fun d => b01 (σ_125 14 d.toNat = t)))], σ_125) _
      refine wp_ret hM rfl (rfl) ?_
      first | (exact ⟨by unfold aTri; rw [if_neg (fun q => q hti)]; simp [c17]; unfold tin; exact sumI_cg (fun d a b => by rw [hlie d a b]), CS_CC hA_125 hCC_125, Fk_Fh hf_125⟩) | fail
    · refine wp_tso (tgt := 144) hM rfl (by decide) hR17 c17 ?_
      refine wp_go 1 hM (fr' := (145, [some (.inr 0), some (.inl t), some (.inl w)], [.inl (-1)], σ)) rfl ?_
      refine wp_ret hM rfl (rfl) ?_
      first | (exact ⟨by unfold aTri; rw [if_neg (fun q => q hti)]; repeat rw [if_neg (by omega)], h0, Fk.rf⟩) | fail
  · replace c11 := b01_eq0 (cmp_ne_f c11)
    refine wp_go 1 hM (fr' := (15, [some (.inr 0), some (.inl t), some (.inl w)], [.inl (-1)], σ)) rfl ?_
    refine wp_ret hM rfl (rfl) ?_
    first | (exact ⟨by unfold aTri; rw [if_pos (by omega)], h0, Fk.rf⟩) | fail

set_option maxRecDepth 100000 in
set_option maxHeartbeats 4000000 in
theorem sp_X5_edge (v : mz_G) (l : List tr3) (σ : mz_G) (a : Int) (b : Int) (w : Int) (h0 : CS σ v l) (h1 : GO v l) (h2 : mz_R a) (h3 : mz_R b) (h4 : mz_R w) : mz_Cl shA 76 [.inr 0, .inl a, .inl b, .inl w] σ (fun r σ' => r = some (aEdge v l a b w) ∧ CS σ' v l ∧ Fk σ σ') := by
  have hM : mz_meth[76]? = some mtX5_edge := rfl
  have hA0 := h0.1
  obtain ⟨hB, hSd, ⟨hP0, hP1⟩, ⟨hC0, hC1'⟩, hVr, hn30, hl2⟩ := id h1
  obtain ⟨hR, hT, hLen⟩ := id hB
  obtain ⟨⟨hW0, hW1⟩, ⟨hH0, hH1⟩, ⟨hn0, hn1⟩, hpt⟩ := id hR
  obtain ⟨⟨hc1, hc2, hc3, hc4⟩, hcp, hct, hcv⟩ := id hA0
  have hWH := WH_bd hR
  refine mz_Cl.of hM ?_
  show mz_Wp shA none 76 (0, [some (.inr 0), some (.inl a), some (.inl b), some (.inl w), none], [], σ) _
  refine wp_go 3 hM (fr' := (5, [some (.inr 0), some (.inl a), some (.inl b), some (.inl w), none], [.inl a, .inr 1], σ)) rfl ?_
  refine wp_calld (v := 0) (idx := 137) (j := 12) (N := mtX1_isKnot) (as := [.inr 1, .inl a]) (rest := []) hM rfl (Or.inl ⟨rfl, rfl⟩) rfl (sp_X1_isKnot v l σ a (by first | (first | assumption | omega) | fail) (by first | (first | assumption | omega) | fail) (by first | (first | assumption | omega) | fail)) ?_
  show mz_Wp shA none 76 (8, [some (.inr 0), some (.inl a), some (.inl b), some (.inl w), none], [.inl (b01 (isk v a))], σ) _
  refine wp_if (tgt := 22) hM rfl (by decide) b01_R (fun c8 => ?_) (fun c8 => ?_)
  · replace c8 := b01_eq0 (cmp_eq_t c8)
    refine wp_go 1 hM (fr' := (23, [some (.inr 0), some (.inl a), some (.inl b), some (.inl w), none], [.inl (-1)], σ)) rfl ?_
    refine wp_ret hM rfl (rfl) ?_
    first | (exact ⟨by unfold aEdge; rw [if_pos (by first | exact Or.inl c8 | exact Or.inr c19)], h0, Fk.rf⟩) | fail
  · replace c8 := b01_ne0 (cmp_eq_f c8)
    refine wp_go 3 hM (fr' := (16, [some (.inr 0), some (.inl a), some (.inl b), some (.inl w), none], [.inl b, .inr 1], σ)) rfl ?_
    refine wp_calld (v := 0) (idx := 137) (j := 12) (N := mtX1_isKnot) (as := [.inr 1, .inl b]) (rest := []) hM rfl (Or.inl ⟨rfl, rfl⟩) rfl (sp_X1_isKnot v l σ b (by first | (first | assumption | omega) | fail) (by first | (first | assumption | omega) | fail) (by first | (first | assumption | omega) | fail)) ?_
    show mz_Wp shA none 76 (19, [some (.inr 0), some (.inl a), some (.inl b), some (.inl w), none], [.inl (b01 (isk v b))], σ) _
    refine wp_if (tgt := 24) hM rfl (by decide) b01_R (fun c19 => ?_) (fun c19 => ?_)
    · replace c19 := b01_ne0 (cmp_ne_t c19)
      first | (have hia := c8) | skip
      first | (have hib := c19) | skip
      first | (unfold isk at c8 c19) | skip
      first | (have hhl : hld l a b = b01 (¬ apx l a b = -1) + b01 (¬ apx l b a = -1) := rfl) | skip
      first | (have hb1 := b01_01 (P := ¬ apx l a b = -1)) | skip
      first | (have hb2 := b01_01 (P := ¬ apx l b a = -1)) | skip
      first | (have hrb := rtt_bd (v := v) (l := l) (a := a) (b := b)) | skip
      refine wp_go 5 hM (fr' := (33, [some (.inr 0), some (.inl a), some (.inl b), some (.inl w), none], [.inl b, .inl a, .inr 11], σ)) rfl ?_
      refine wp_calld (v := 0) (idx := 172) (j := 61) (N := mtX4_holdersOf) (as := [.inr 11, .inl a, .inl b]) (rest := []) hM rfl (Or.inl ⟨rfl, rfl⟩) rfl (sp_X4_holdersOf v l σ a b (by first | (first | assumption | omega) | fail) (by first | (first | assumption | omega) | fail) (by first | (first | assumption | omega) | fail) (by first | (first | assumption | omega) | fail)) ?_
      show mz_Wp shA none 76 (36, [some (.inr 0), some (.inl a), some (.inl b), some (.inl w), none], [.inl (b01 (¬ apx l a b = -1) + b01 (¬ apx l b a = -1))], σ) _
      refine wp_go 2 hM (fr' := (40, [some (.inr 0), some (.inl a), some (.inl b), some (.inl w), some (.inl (b01 (¬ apx l a b = -1) + b01 (¬ apx l b a = -1)))], [.inl (b01 (¬ apx l a b = -1) + b01 (¬ apx l b a = -1))], σ)) rfl ?_
      refine wp_if (tgt := 45) hM rfl (by decide) (by omega) (fun c40 => ?_) (fun c40 => ?_)
      · replace c40 := cmp_ne_t c40
        refine wp_go 1 hM (fr' := (46, [some (.inr 0), some (.inl a), some (.inl b), some (.inl w), some (.inl (b01 (¬ apx l a b = -1) + b01 (¬ apx l b a = -1)))], [.inl w], σ)) rfl ?_
        have hR46 : mz_R w := by omega
        rcases (show w = 0 ∨ w = 1 ∨ w = 2 ∨ w = 3 ∨ (w < 0 ∨ 3 < w) by omega) with c46 | c46 | c46 | c46 | c46
        · refine wp_tsi (tgt := 76) (off := 30) hM rfl hR46 (by omega) (by rw [c46]; rfl) (by decide) ?_
          refine wp_go 1 hM (fr' := (78, [some (.inr 0), some (.inl a), some (.inl b), some (.inl w), some (.inl (b01 (¬ apx l a b = -1) + b01 (¬ apx l b a = -1)))], [.inl (b01 (¬ apx l a b = -1) + b01 (¬ apx l b a = -1))], σ)) rfl ?_
          refine wp_ret hM rfl (rfl) ?_
          first | (exact ⟨by unfold aEdge; rw [if_neg (fun q => q.elim (fun z => z hia) (fun z => z hib)), if_neg (by omega), if_pos c46]; rfl, h0, Fk.rf⟩) | fail
        · refine wp_tsi (tgt := 79) (off := 33) hM rfl hR46 (by omega) (by rw [c46]; rfl) (by decide) ?_
          refine wp_go 5 hM (fr' := (88, [some (.inr 0), some (.inl a), some (.inl b), some (.inl w), some (.inl (b01 (¬ apx l a b = -1) + b01 (¬ apx l b a = -1)))], [.inl b, .inl a, .inr 8], σ)) rfl ?_
          refine wp_calld (v := 0) (idx := 175) (j := 46) (N := mtX2_squareOfLength) (as := [.inr 8, .inl a, .inl b]) (rest := []) hM rfl (Or.inl ⟨rfl, rfl⟩) rfl (sp_X2_sq_8_v v l σ a b (by first | (first | assumption | omega) | fail) (by first | (first | assumption | omega) | fail) (by first | (first | assumption | omega) | fail) (by first | (first | assumption | omega) | fail) (by first | (first | assumption | omega) | fail) (by first | (first | assumption | omega) | fail)) ?_
          show mz_Wp shA none 76 (91, [some (.inr 0), some (.inl a), some (.inl b), some (.inl w), some (.inl (b01 (¬ apx l a b = -1) + b01 (¬ apx l b a = -1)))], [.inl ((gx v 0 b - gx v 0 a) * (gx v 0 b - gx v 0 a) + (gy v 0 b - gy v 0 a) * (gy v 0 b - gy v 0 a))], σ) _
          refine wp_ret hM rfl (rfl) ?_
          first | (exact ⟨by unfold aEdge; rw [if_neg (fun q => q.elim (fun z => z hia) (fun z => z hib)), if_neg (by omega), if_neg (by omega), if_pos c46]; rfl, h0, Fk.rf⟩) | fail
        · refine wp_tsi (tgt := 92) (off := 46) hM rfl hR46 (by omega) (by rw [c46]; rfl) (by decide) ?_
          refine wp_go 5 hM (fr' := (101, [some (.inr 0), some (.inl a), some (.inl b), some (.inl w), some (.inl (b01 (¬ apx l a b = -1) + b01 (¬ apx l b a = -1)))], [.inl b, .inl a, .inr 9], σ)) rfl ?_
          refine wp_calld (v := 0) (idx := 175) (j := 46) (N := mtX2_squareOfLength) (as := [.inr 9, .inl a, .inl b]) (rest := []) hM rfl (Or.inl ⟨rfl, rfl⟩) rfl (sp_X2_sq_9_v v l σ a b (by first | (first | assumption | omega) | fail) (by first | (first | assumption | omega) | fail) (by first | (first | assumption | omega) | fail) (by first | (first | assumption | omega) | fail) (by first | (first | assumption | omega) | fail) (by first | (first | assumption | omega) | fail)) ?_
          show mz_Wp shA none 76 (104, [some (.inr 0), some (.inl a), some (.inl b), some (.inl w), some (.inl (b01 (¬ apx l a b = -1) + b01 (¬ apx l b a = -1)))], [.inl ((gx v 1 b - gx v 1 a) * (gx v 1 b - gx v 1 a) + (gy v 1 b - gy v 1 a) * (gy v 1 b - gy v 1 a))], σ) _
          refine wp_ret hM rfl (rfl) ?_
          first | (exact ⟨by unfold aEdge; rw [if_neg (fun q => q.elim (fun z => z hia) (fun z => z hib)), if_neg (by omega), if_neg (by omega), if_neg (by omega), if_pos c46]; rfl, h0, Fk.rf⟩) | fail
        · refine wp_tsi (tgt := 105) (off := 59) hM rfl hR46 (by omega) (by rw [c46]; rfl) (by decide) ?_
          refine wp_go 4 hM (fr' := (111, [some (.inr 0), some (.inl a), some (.inl b), some (.inl w), some (.inl (b01 (¬ apx l a b = -1) + b01 (¬ apx l b a = -1)))], [.inl b, .inl a, .inr 1], σ)) rfl ?_
          refine wp_calld (v := 0) (idx := 105) (j := 36) (N := mtX1_reasonToTurn) (as := [.inr 1, .inl a, .inl b]) (rest := []) hM rfl (Or.inl ⟨rfl, rfl⟩) rfl (sp_X1_reasonToTurn v l σ a b (by first | (first | assumption | omega) | fail) (by first | (first | assumption | omega) | fail) (by first | (first | assumption | omega) | fail) (by first | (first | assumption | omega) | fail)) ?_
          show mz_Wp shA none 76 (114, [some (.inr 0), some (.inl a), some (.inl b), some (.inl w), some (.inl (b01 (¬ apx l a b = -1) + b01 (¬ apx l b a = -1)))], [.inl (rtt v l a b)], σ) _
          refine wp_if (tgt := 121) hM rfl (by decide) (by omega) (fun c114 => ?_) (fun c114 => ?_)
          · replace c114 := cmp_ne_t c114
            refine wp_go 1 hM (fr' := (122, [some (.inr 0), some (.inl a), some (.inl b), some (.inl w), some (.inl (b01 (¬ apx l a b = -1) + b01 (¬ apx l b a = -1)))], [.inl 0], σ)) rfl ?_
            refine wp_ret hM rfl (rfl) ?_
            first | (exact ⟨by unfold aEdge; rw [if_neg (fun q => q.elim (fun z => z hia) (fun z => z hib)), if_neg (by omega), if_neg (by omega), if_neg (by omega), if_neg (by omega), if_pos c46]; first | rw [b01_t c114] | rw [b01_f c114], h0, Fk.rf⟩) | fail
          · replace c114 := cmp_ne_f c114
            refine wp_go 2 hM (fr' := (122, [some (.inr 0), some (.inl a), some (.inl b), some (.inl w), some (.inl (b01 (¬ apx l a b = -1) + b01 (¬ apx l b a = -1)))], [.inl 1], σ)) rfl ?_
            refine wp_ret hM rfl (rfl) ?_
            first | (exact ⟨by unfold aEdge; rw [if_neg (fun q => q.elim (fun z => z hia) (fun z => z hib)), if_neg (by omega), if_neg (by omega), if_neg (by omega), if_neg (by omega), if_pos c46]; first | rw [b01_t c114] | rw [b01_f c114], h0, Fk.rf⟩) | fail
        · refine wp_tso (tgt := 123) hM rfl (by decide) hR46 c46 ?_
          refine wp_go 1 hM (fr' := (124, [some (.inr 0), some (.inl a), some (.inl b), some (.inl w), some (.inl (b01 (¬ apx l a b = -1) + b01 (¬ apx l b a = -1)))], [.inl (-1)], σ)) rfl ?_
          refine wp_ret hM rfl (rfl) ?_
          first | (exact ⟨by unfold aEdge; rw [if_neg (fun q => q.elim (fun z => z hia) (fun z => z hib)), if_neg (by omega)]; repeat rw [if_neg (by omega)], h0, Fk.rf⟩) | fail
      · replace c40 := cmp_ne_f c40
        refine wp_go 1 hM (fr' := (44, [some (.inr 0), some (.inl a), some (.inl b), some (.inl w), some (.inl (b01 (¬ apx l a b = -1) + b01 (¬ apx l b a = -1)))], [.inl (-1)], σ)) rfl ?_
        refine wp_ret hM rfl (rfl) ?_
        first | (exact ⟨by unfold aEdge; rw [if_neg (fun q => q.elim (fun z => z hia) (fun z => z hib)), if_pos (by omega)], h0, Fk.rf⟩) | fail
    · replace c19 := b01_eq0 (cmp_ne_f c19)
      refine wp_go 1 hM (fr' := (23, [some (.inr 0), some (.inl a), some (.inl b), some (.inl w), none], [.inl (-1)], σ)) rfl ?_
      refine wp_ret hM rfl (rfl) ?_
      first | (exact ⟨by unfold aEdge; rw [if_pos (by first | exact Or.inl c8 | exact Or.inr c19)], h0, Fk.rf⟩) | fail

set_option maxRecDepth 100000 in
set_option maxHeartbeats 4000000 in
theorem sp_X5_count (v : mz_G) (l : List tr3) (σ : mz_G) (w : Int) (h0 : CS σ v l) (h1 : GO v l) (h2 : mz_R w) : mz_Cl shA 77 [.inr 0, .inl w] σ (fun r σ' => r = some (aCount v l w) ∧ CS σ' v l ∧ Fk σ σ') := by
  have hM : mz_meth[77]? = some mtX5_count := rfl
  have hA0 := h0.1
  obtain ⟨hB, hSd, ⟨hP0, hP1⟩, ⟨hC0, hC1'⟩, hVr, hn30, hl2⟩ := id h1
  obtain ⟨hR, hT, hLen⟩ := id hB
  obtain ⟨⟨hW0, hW1⟩, ⟨hH0, hH1⟩, ⟨hn0, hn1⟩, hpt⟩ := id hR
  obtain ⟨⟨hc1, hc2, hc3, hc4⟩, hcp, hct, hcv⟩ := id hA0
  have hWH := WH_bd hR
  refine mz_Cl.of hM ?_
  show mz_Wp shA none 77 (0, [some (.inr 0), some (.inl w)], [], σ) _
  refine wp_go 1 hM (fr' := (1, [some (.inr 0), some (.inl w)], [.inl w], σ)) rfl ?_
  have hR1 : mz_R w := by omega
  rcases (show w = 0 ∨ w = 1 ∨ w = 2 ∨ w = 3 ∨ w = 4 ∨ w = 5 ∨ w = 6 ∨ w = 7 ∨ w = 8 ∨ w = 9 ∨ (w < 0 ∨ 9 < w) by omega) with c1 | c1 | c1 | c1 | c1 | c1 | c1 | c1 | c1 | c1 | c1
  · refine wp_tsi (tgt := 56) (off := 55) hM rfl hR1 (by omega) (by rw [c1]; rfl) (by decide) ?_
    refine wp_go 3 hM (fr' := (63, [some (.inr 0), some (.inl w)], [.inl (σ 1 8)], σ)) rfl ?_
    refine wp_ret hM rfl (rfl) ?_
    first | (exact ⟨by subst c1; show _ = some (v 0 0); rw [hc1], h0, Fk.rf⟩) | fail
  · refine wp_tsi (tgt := 64) (off := 63) hM rfl hR1 (by omega) (by rw [c1]; rfl) (by decide) ?_
    refine wp_go 3 hM (fr' := (71, [some (.inr 0), some (.inl w)], [.inl (σ 1 9)], σ)) rfl ?_
    refine wp_ret hM rfl (rfl) ?_
    first | (exact ⟨by subst c1; show _ = some (v 0 1); rw [hc2], h0, Fk.rf⟩) | fail
  · refine wp_tsi (tgt := 72) (off := 71) hM rfl hR1 (by omega) (by rw [c1]; rfl) (by decide) ?_
    refine wp_go 3 hM (fr' := (79, [some (.inr 0), some (.inl w)], [.inl (σ 1 7)], σ)) rfl ?_
    refine wp_ret hM rfl (rfl) ?_
    first | (exact ⟨by subst c1; show _ = some (v 0 2); rw [hc3], h0, Fk.rf⟩) | fail
  · refine wp_tsi (tgt := 80) (off := 79) hM rfl hR1 (by omega) (by rw [c1]; rfl) (by decide) ?_
    refine wp_go 4 hM (fr' := (90, [some (.inr 0), some (.inl w)], [.inl (σ 11 1)], σ)) rfl ?_
    refine wp_ret hM rfl (rfl) ?_
    first | (exact ⟨by subst c1; show _ = some (l.length : Int); rw [hc4], h0, Fk.rf⟩) | fail
  · refine wp_tsi (tgt := 91) (off := 90) hM rfl hR1 (by omega) (by rw [c1]; rfl) (by decide) ?_
    refine wp_go 2 hM (fr' := (95, [some (.inr 0), some (.inl w)], [.inr 1], σ)) rfl ?_
    refine wp_calld (v := 0) (idx := 181) (j := 18) (N := mtX1_edges) (as := [.inr 1]) (rest := []) hM rfl (Or.inl ⟨rfl, rfl⟩) rfl (sp_X1_edges v l σ  (by first | (first | assumption | omega) | fail) (by first | (first | assumption | omega) | fail)) ?_
    show mz_Wp shA none 77 (98, [some (.inr 0), some (.inl w)], [.inl (v 0 2 + (l.length : Int) - 1)], σ) _
    refine wp_ret hM rfl (rfl) ?_
    first | (exact ⟨by subst c1; rfl, h0, Fk.rf⟩) | fail
  · refine wp_tsi (tgt := 99) (off := 98) hM rfl hR1 (by omega) (by rw [c1]; rfl) (by decide) ?_
    refine wp_go 2 hM (fr' := (103, [some (.inr 0), some (.inl w)], [.inr 1], σ)) rfl ?_
    refine wp_calld (v := 0) (idx := 184) (j := 19) (N := mtX1_edgesToTurn) (as := [.inr 1]) (rest := []) hM rfl (Or.inl ⟨rfl, rfl⟩) rfl (sp_X1_edgesToTurn v l σ  (by first | (first | assumption | omega) | fail) (by first | (first | assumption | omega) | fail)) ?_
    show mz_Wp shA none 77 (106, [some (.inr 0), some (.inl w)], [.inl (sumI (l.length : Int) (fun i => (trs v l (tg l i).1 (tg l i).2.1 + trs v l (tg l i).2.1 (tg l i).2.2 + trs v l (tg l i).2.2 (tg l i).1)))], σ) _
    refine wp_ret hM rfl (rfl) ?_
    first | (exact ⟨by subst c1; rfl, h0, Fk.rf⟩) | fail
  · refine wp_tsi (tgt := 107) (off := 106) hM rfl hR1 (by omega) (by rw [c1]; rfl) (by decide) ?_
    refine wp_go 2 hM (fr' := (111, [some (.inr 0), some (.inl w)], [.inr 1], σ)) rfl ?_
    refine wp_calld (v := 0) (idx := 119) (j := 21) (N := mtX1_bentKnots) (as := [.inr 1]) (rest := []) hM rfl (Or.inl ⟨rfl, rfl⟩) rfl (sp_X1_bentKnots v l σ  (by first | (first | assumption | omega) | fail) (by first | (first | assumption | omega) | fail)) ?_
    show mz_Wp shA none 77 (114, [some (.inr 0), some (.inl w)], [.inl (sumI (v 0 2) (fun i => b01 (¬ (gx v 1 i = gx v 0 i ∧ gy v 1 i = gy v 0 i))))], σ) _
    refine wp_ret hM rfl (rfl) ?_
    first | (exact ⟨by subst c1; rfl, h0, Fk.rf⟩) | fail
  · refine wp_tsi (tgt := 115) (off := 114) hM rfl hR1 (by omega) (by rw [c1]; rfl) (by decide) ?_
    refine wp_go 1 hM (fr' := (116, [some (.inr 0), some (.inl w)], [.inr 0], σ)) rfl ?_
    refine wp_calld (v := 0) (idx := 77) (j := 95) (N := mtX5_sumOfValues) (as := [.inr 0]) (rest := []) hM rfl (Or.inl ⟨rfl, rfl⟩) rfl (sp_X5_sumOfValues v l σ  (by first | (first | assumption | omega) | fail) (by first | (first | assumption | omega) | fail)) ?_
    show mz_Wp shA none 77 (119, [some (.inr 0), some (.inl w)], [.inl (vsum v)], σ) _
    refine wp_ret hM rfl (rfl) ?_
    first | (exact ⟨by subst c1; rfl, h0, Fk.rf⟩) | fail
  · refine wp_tsi (tgt := 120) (off := 119) hM rfl hR1 (by omega) (by rw [c1]; rfl) (by decide) ?_
    refine wp_go 1 hM (fr' := (121, [some (.inr 0), some (.inl w)], [.inr 0], σ)) rfl ?_
    refine wp_call (v := 0) (idx := 187) (j := 96) (N := mtX5_sumOfTakenValues) (as := [.inr 0]) (rest := []) hM rfl (Or.inl ⟨rfl, rfl⟩) rfl (sp_X5_sumOfTakenValues v l σ  (by first | (first | assumption | omega) | fail) (by first | (first | assumption | omega) | fail)) ?_
    rintro r0 σ_121 ⟨rfl, hS_121, hk_121⟩
    show mz_Wp shA none 77 (124, [some (.inr 0), some (.inl w)], [.inl (ksum v l)], σ_121) _
    refine wp_ret hM rfl (rfl) ?_
    first | (exact ⟨by subst c1; rfl, hS_121, hk_121⟩) | fail
  · refine wp_tsi (tgt := 125) (off := 124) hM rfl hR1 (by omega) (by rw [c1]; rfl) (by decide) ?_
    refine wp_go 1 hM (fr' := (126, [some (.inr 0), some (.inl w)], [.inr 0], σ)) rfl ?_
    refine wp_call (v := 0) (idx := 81) (j := 92) (N := mtX5_chart) (as := [.inr 0]) (rest := []) hM rfl (Or.inl ⟨rfl, rfl⟩) rfl (sp_X5_chart v l σ  (by first | (first | assumption | omega) | fail) (by first | (first | assumption | omega) | fail)) ?_
    rintro r0 σ_126 ⟨rfl, hA_126, hCC_126, hf_126⟩
    show mz_Wp shA none 77 (129, [some (.inr 0), some (.inl w)], [], σ_126) _
    first | (have hFH : ∀ d : Int, 0 ≤ d → d < v 0 0 * v 0 1 → σ_126 15 d.toNat = FH v l (l.length : Int) (d % v 0 0) (d / v 0 0) := fun d a b => by have q := dmv hR a b; have := (hCC_126.2.1 _ _ q.1).2; rw [q.2] at this; exact this) | skip
    first | (have hFb : ∀ x y : Int, 0 ≤ FH v l (l.length : Int) x y ∧ FH v l (l.length : Int) x y ≤ (l.length : Int) := fun x y => by have := sumI_bd (t := (l.length : Int)) (a := 0) (b := 1) (f := fun i => b01 (hol v 1 (tg l i) x y)) (by omega) (fun i _ _ => by rcases b01_01 (P := hol v 1 (tg l i) x y) with q | q <;> omega); unfold FH; omega) | skip
    refine wp_go 4 hM (fr' := (137, [some (.inr 0), some (.inl w)], [.inr 1, .inr 2], σ_126)) rfl ?_
    refine wp_calld (v := 0) (idx := 134) (j := 11) (N := mtX1_dots) (as := [.inr 1]) (rest := [.inr 2]) hM rfl (Or.inl ⟨rfl, rfl⟩) rfl (sp_X1_dots v l σ_126  (by first | (first | assumption | omega) | fail) (by first | (first | assumption | omega) | fail)) ?_
    show mz_Wp shA none 77 (140, [some (.inr 0), some (.inl w)], [.inl (v 0 0 * v 0 1), .inr 2], σ_126) _
    refine wp_calld (v := 0) (idx := 190) (j := 6) (N := mtX0_dotsOfMany) (as := [.inr 2, .inl (v 0 0 * v 0 1)]) (rest := []) hM rfl (Or.inl ⟨rfl, rfl⟩) rfl (sp_X0_dotsOfMany  σ_126 (v 0 0 * v 0 1) (by first | (first | assumption | omega) | fail) (by first | (first | assumption | omega) | fail) (by first | (exact fun d a b => by rw [hFH d a b]; have := hFb (d % v 0 0) (d / v 0 0); constructor <;> omega) | fail)) ?_
    show mz_Wp shA none 77 (143, [some (.inr 0), some (.inl w)], [.inl (sumI (v 0 0 * v 0 1) (fun d => b01 (1 < σ_126 15 d.toNat)))], σ_126) _
    refine wp_ret hM rfl (rfl) ?_
    first | (exact ⟨by subst c1; show _ = some (many v l); unfold many; congr 1; exact sumI_cg (fun d a b => by rw [hFH d a b]), CS_CC hA_126 hCC_126, Fk_Fh hf_126⟩) | fail
  · refine wp_tso (tgt := 144) hM rfl (by decide) hR1 c1 ?_
    refine wp_go 1 hM (fr' := (145, [some (.inr 0), some (.inl w)], [.inl (-1)], σ)) rfl ?_
    refine wp_ret hM rfl (rfl) ?_
    first | (exact ⟨by unfold aCount; repeat rw [if_neg (by omega)], h0, Fk.rf⟩) | fail

set_option maxRecDepth 100000 in
set_option maxHeartbeats 4000000 in
theorem sp_X5_from (v : mz_G) (l : List tr3) (σ : mz_G) (x : Int) (y : Int) (w : Int) (h0 : CS σ v l) (h1 : GO v l) (h2 : mz_R x) (h3 : mz_R y) (h4 : mz_R w) : mz_Cl shA 80 [.inr 0, .inl x, .inl y, .inl w] σ (fun r σ' => r = some (aFrom v l 1 x y w) ∧ CS σ' v l ∧ Fk σ σ') := by
  have hM : mz_meth[80]? = some mtX5_from := rfl
  have hA0 := h0.1
  obtain ⟨hB, hSd, ⟨hP0, hP1⟩, ⟨hC0, hC1'⟩, hVr, hn30, hl2⟩ := id h1
  obtain ⟨hR, hT, hLen⟩ := id hB
  obtain ⟨⟨hW0, hW1⟩, ⟨hH0, hH1⟩, ⟨hn0, hn1⟩, hpt⟩ := id hR
  obtain ⟨⟨hc1, hc2, hc3, hc4⟩, hcp, hct, hcv⟩ := id hA0
  have hWH := WH_bd hR
  refine mz_Cl.of hM ?_
  show mz_Wp shA none 80 (0, [some (.inr 0), some (.inl x), some (.inl y), some (.inl w)], [], σ) _
  refine wp_go 4 hM (fr' := (6, [some (.inr 0), some (.inl x), some (.inl y), some (.inl w)], [.inl y, .inl x, .inr 1], σ)) rfl ?_
  refine wp_calld (v := 0) (idx := 57) (j := 9) (N := mtX1_isDot) (as := [.inr 1, .inl x, .inl y]) (rest := []) hM rfl (Or.inl ⟨rfl, rfl⟩) rfl (sp_X1_isDot v l σ x y (by first | (first | assumption | omega) | fail) (by first | (first | assumption | omega) | fail) (by first | (first | assumption | omega) | fail) (by first | (first | assumption | omega) | fail)) ?_
  show mz_Wp shA none 80 (9, [some (.inr 0), some (.inl x), some (.inl y), some (.inl w)], [.inl (b01 (dot v x y))], σ) _
  refine wp_if (tgt := 14) hM rfl (by decide) b01_R (fun c9 => ?_) (fun c9 => ?_)
  · replace c9 := b01_ne0 (cmp_ne_t c9)
    first | (have hL := lie_at hC1' c9) | skip
    refine wp_go 3 hM (fr' := (17, [some (.inr 0), some (.inl x), some (.inl y), some (.inl w)], [.inl y, .inl x, .inr 0], σ)) rfl ?_
    refine wp_call (v := 0) (idx := 200) (j := 93) (N := mtX5_measureByPlaces) (as := [.inr 0, .inl x, .inl y]) (rest := []) hM rfl (Or.inl ⟨rfl, rfl⟩) rfl (sp_X5_measureByPlaces v l σ x y (by first | (first | assumption | omega) | fail) (by first | (first | assumption | omega) | fail) (by first | (first | assumption | omega) | fail)) ?_
    rintro r0 σ_17 ⟨rfl, hA_17, hCC_17, hm_17, hf_17⟩
    show mz_Wp shA none 80 (20, [some (.inr 0), some (.inl x), some (.inl y), some (.inl w)], [], σ_17) _
    refine wp_go 7 hM (fr' := (35, [some (.inr 0), some (.inl x), some (.inl y), some (.inl w)], [.inr 8, .inr 1, .inr 3], σ_17)) rfl ?_
    refine wp_call (v := 0) (idx := 215) (j := 50) (N := mtX3_mix) (as := [.inr 3, .inr 1, .inr 8]) (rest := []) hM rfl (Or.inl ⟨rfl, rfl⟩) rfl (sp_X3_mix_8_w v l (lie v l 1 x y) x y σ_17  (by first | (first | assumption | exact hL.2.2 | exact hL.2.1 | exact hL.1) | fail) (by first | (first | assumption | exact hL.2.2 | exact hL.2.1 | exact hL.1) | fail) (by first | (first | assumption | exact hL.2.2 | exact hL.2.1 | exact hL.1) | fail) (by first | (first | assumption | exact hL.2.2 | exact hL.2.1 | exact hL.1) | fail) (by first | (first | assumption | exact hL.2.2 | exact hL.2.1 | exact hL.1) | fail) (by first | (first | assumption | exact hL.2.2 | exact hL.2.1 | exact hL.1) | fail) (by first | (first | assumption | exact hL.2.2 | exact hL.2.1 | exact hL.1) | fail)) ?_
    rintro r0 σ_35 ⟨rfl, hx_35, hm_35, hf_35⟩
    show mz_Wp shA none 80 (38, [some (.inr 0), some (.inl x), some (.inl y), some (.inl w)], [], σ_35) _
    first | (have hS35 : CS σ_35 v l := CS_Fs (CS_CC hA_17 hCC_17) hf_35) | skip
    first | (have e1 : σ_35 3 5 = fX v l 1 x y := hx_35.1) | skip
    first | (have e2 : σ_35 3 6 = fY v l 1 x y := hx_35.2.1) | skip
    first | (have e3 : σ_35 3 7 = fB v l 1 x y := hx_35.2.2) | skip
    refine wp_go 3 hM (fr' := (43, [some (.inr 0), some (.inl x), some (.inl y), some (.inl w)], [.inl w, .inr 3], σ_35)) rfl ?_
    refine wp_calld (v := 0) (idx := 219) (j := 51) (N := mtX3_told) (as := [.inr 3, .inl w]) (rest := []) hM rfl (Or.inl ⟨rfl, rfl⟩) rfl (sp_X3_told  σ_35 w (by first | (first | assumption | omega) | fail)) ?_
    show mz_Wp shA none 80 (46, [some (.inr 0), some (.inl x), some (.inl y), some (.inl w)], [.inl (if w = 0 then σ_35 3 5 else if w = 1 then σ_35 3 6 else if w = 2 then σ_35 3 7 else -1)], σ_35) _
    refine wp_ret hM rfl (rfl) ?_
    first | (exact ⟨by unfold aFrom; rw [if_neg (show ¬ ¬ dot v x y from fun q => q c9), e1, e2, e3], hS35, (Fk_Fh hf_17).tr (Fk_Fs hf_35)⟩) | fail
  · replace c9 := b01_eq0 (cmp_ne_f c9)
    refine wp_go 1 hM (fr' := (13, [some (.inr 0), some (.inl x), some (.inl y), some (.inl w)], [.inl (-1)], σ)) rfl ?_
    refine wp_ret hM rfl (rfl) ?_
    first | (exact ⟨by unfold aFrom; rw [if_pos c9], h0, Fk.rf⟩) | fail

set_option maxRecDepth 100000 in
set_option maxHeartbeats 4000000 in
theorem sp_X5_to (v : mz_G) (l : List tr3) (σ : mz_G) (x : Int) (y : Int) (w : Int) (h0 : CS σ v l) (h1 : GO v l) (h2 : mz_R x) (h3 : mz_R y) (h4 : mz_R w) : mz_Cl shA 81 [.inr 0, .inl x, .inl y, .inl w] σ (fun r σ' => r = some (aFrom v l 0 x y w) ∧ CS σ' v l ∧ Fk σ σ') := by
  have hM : mz_meth[81]? = some mtX5_to := rfl
  have hA0 := h0.1
  obtain ⟨hB, hSd, ⟨hP0, hP1⟩, ⟨hC0, hC1'⟩, hVr, hn30, hl2⟩ := id h1
  obtain ⟨hR, hT, hLen⟩ := id hB
  obtain ⟨⟨hW0, hW1⟩, ⟨hH0, hH1⟩, ⟨hn0, hn1⟩, hpt⟩ := id hR
  obtain ⟨⟨hc1, hc2, hc3, hc4⟩, hcp, hct, hcv⟩ := id hA0
  have hWH := WH_bd hR
  refine mz_Cl.of hM ?_
  show mz_Wp shA none 81 (0, [some (.inr 0), some (.inl x), some (.inl y), some (.inl w)], [], σ) _
  refine wp_go 4 hM (fr' := (6, [some (.inr 0), some (.inl x), some (.inl y), some (.inl w)], [.inl y, .inl x, .inr 1], σ)) rfl ?_
  refine wp_calld (v := 0) (idx := 57) (j := 9) (N := mtX1_isDot) (as := [.inr 1, .inl x, .inl y]) (rest := []) hM rfl (Or.inl ⟨rfl, rfl⟩) rfl (sp_X1_isDot v l σ x y (by first | (first | assumption | omega) | fail) (by first | (first | assumption | omega) | fail) (by first | (first | assumption | omega) | fail) (by first | (first | assumption | omega) | fail)) ?_
  show mz_Wp shA none 81 (9, [some (.inr 0), some (.inl x), some (.inl y), some (.inl w)], [.inl (b01 (dot v x y))], σ) _
  refine wp_if (tgt := 14) hM rfl (by decide) b01_R (fun c9 => ?_) (fun c9 => ?_)
  · replace c9 := b01_ne0 (cmp_ne_t c9)
    first | (have hL := lie_at hC0 c9) | skip
    refine wp_go 14 hM (fr' := (42, [some (.inr 0), some (.inl x), some (.inl y), some (.inl w)], [.inl y, .inl x, .inr 8, .inr 1, .inr 8, .inr 1, .inr 3], σ)) rfl ?_
    refine wp_calld (v := 0) (idx := 193) (j := 17) (N := mtX1_leastHolder) (as := [.inr 1, .inr 8, .inl x, .inl y]) (rest := [.inr 8, .inr 1, .inr 3]) hM rfl (Or.inl ⟨rfl, rfl⟩) rfl (sp_X1_leastHolder_8 v l σ x y (by first | (first | assumption | omega) | fail) (by first | (first | assumption | omega) | fail) (by first | (first | assumption | omega) | fail)) ?_
    show mz_Wp shA none 81 (45, [some (.inr 0), some (.inl x), some (.inl y), some (.inl w)], [.inl (fstI (l.length : Int) (fun i => hol v 0 (tg l i) x y)), .inr 8, .inr 1, .inr 3], σ) _
    refine wp_go 2 hM (fr' := (47, [some (.inr 0), some (.inl x), some (.inl y), some (.inl w)], [.inl y, .inl x, .inl (lie v l 0 x y), .inr 8, .inr 1, .inr 3], σ)) rfl ?_
    refine wp_call (v := 0) (idx := 222) (j := 48) (N := mtX3_measure) (as := [.inr 3, .inr 1, .inr 8, .inl (lie v l 0 x y), .inl x, .inl y]) (rest := []) hM rfl (Or.inl ⟨rfl, rfl⟩) rfl (sp_X3_measure_8_w v l σ (lie v l 0 x y) x y (by first | (first | assumption | exact hL.2.1 | exact hL.1) | fail) (by first | (first | assumption | exact hL.2.1 | exact hL.1) | fail) (by first | (first | assumption | exact hL.2.1 | exact hL.1) | fail) (by first | (first | assumption | exact hL.2.1 | exact hL.1) | fail) (by first | (first | assumption | exact hL.2.1 | exact hL.1) | fail)) ?_
    rintro r0 σ_47 ⟨rfl, hm_47, hf_47⟩
    show mz_Wp shA none 81 (50, [some (.inr 0), some (.inl x), some (.inl y), some (.inl w)], [], σ_47) _
    first | (have hA47 := CA_Fs hA0 hf_47) | skip
    refine wp_go 7 hM (fr' := (65, [some (.inr 0), some (.inl x), some (.inl y), some (.inl w)], [.inr 9, .inr 1, .inr 3], σ_47)) rfl ?_
    refine wp_call (v := 0) (idx := 215) (j := 50) (N := mtX3_mix) (as := [.inr 3, .inr 1, .inr 9]) (rest := []) hM rfl (Or.inl ⟨rfl, rfl⟩) rfl (sp_X3_mix_9_w v l (lie v l 0 x y) x y σ_47  (by first | (first | assumption | exact hL.2.2 | exact hL.2.1 | exact hL.1) | fail) (by first | (first | assumption | exact hL.2.2 | exact hL.2.1 | exact hL.1) | fail) (by first | (first | assumption | exact hL.2.2 | exact hL.2.1 | exact hL.1) | fail) (by first | (first | assumption | exact hL.2.2 | exact hL.2.1 | exact hL.1) | fail) (by first | (first | assumption | exact hL.2.2 | exact hL.2.1 | exact hL.1) | fail) (by first | (first | assumption | exact hL.2.2 | exact hL.2.1 | exact hL.1) | fail) (by first | (first | assumption | exact hL.2.2 | exact hL.2.1 | exact hL.1) | fail)) ?_
    rintro r0 σ_65 ⟨rfl, hx_65, hm_65, hf_65⟩
    show mz_Wp shA none 81 (68, [some (.inr 0), some (.inl x), some (.inl y), some (.inl w)], [], σ_65) _
    first | (have hS65 : CS σ_65 v l := CS_Fs (CS_Fs h0 hf_47) hf_65) | skip
    first | (have e1 : σ_65 3 5 = fX v l 0 x y := hx_65.1) | skip
    first | (have e2 : σ_65 3 6 = fY v l 0 x y := hx_65.2.1) | skip
    first | (have e3 : σ_65 3 7 = fB v l 0 x y := hx_65.2.2) | skip
    refine wp_go 3 hM (fr' := (73, [some (.inr 0), some (.inl x), some (.inl y), some (.inl w)], [.inl w, .inr 3], σ_65)) rfl ?_
    refine wp_calld (v := 0) (idx := 219) (j := 51) (N := mtX3_told) (as := [.inr 3, .inl w]) (rest := []) hM rfl (Or.inl ⟨rfl, rfl⟩) rfl (sp_X3_told  σ_65 w (by first | (first | assumption | omega) | fail)) ?_
    show mz_Wp shA none 81 (76, [some (.inr 0), some (.inl x), some (.inl y), some (.inl w)], [.inl (if w = 0 then σ_65 3 5 else if w = 1 then σ_65 3 6 else if w = 2 then σ_65 3 7 else -1)], σ_65) _
    refine wp_ret hM rfl (rfl) ?_
    first | (exact ⟨by unfold aFrom; rw [if_neg (show ¬ ¬ dot v x y from fun q => q c9), e1, e2, e3], hS65, (Fk_Fs hf_47).tr (Fk_Fs hf_65)⟩) | fail
  · replace c9 := b01_eq0 (cmp_ne_f c9)
    refine wp_go 1 hM (fr' := (13, [some (.inr 0), some (.inl x), some (.inl y), some (.inl w)], [.inl (-1)], σ)) rfl ?_
    refine wp_ret hM rfl (rfl) ?_
    first | (exact ⟨by unfold aFrom; rw [if_pos c9], h0, Fk.rf⟩) | fail

set_option maxRecDepth 100000 in
set_option maxHeartbeats 4000000 in
theorem sp_X5_share (v : mz_G) (l : List tr3) (σ : mz_G) (x : Int) (y : Int) (w : Int) (h0 : CS σ v l) (h1 : GO v l) (h2 : mz_R x) (h3 : mz_R y) (h4 : mz_R w) : mz_Cl shA 79 [.inr 0, .inl x, .inl y, .inl w] σ (fun r σ' => r = some (aShare v l x y w) ∧ CS σ' v l ∧ Fk σ σ') := by
  have hM : mz_meth[79]? = some mtX5_share := rfl
  have hA0 := h0.1
  obtain ⟨hB, hSd, ⟨hP0, hP1⟩, ⟨hC0, hC1'⟩, hVr, hn30, hl2⟩ := id h1
  obtain ⟨hR, hT, hLen⟩ := id hB
  obtain ⟨⟨hW0, hW1⟩, ⟨hH0, hH1⟩, ⟨hn0, hn1⟩, hpt⟩ := id hR
  obtain ⟨⟨hc1, hc2, hc3, hc4⟩, hcp, hct, hcv⟩ := id hA0
  have hWH := WH_bd hR
  refine mz_Cl.of hM ?_
  show mz_Wp shA none 79 (0, [some (.inr 0), some (.inl x), some (.inl y), some (.inl w)], [], σ) _
  refine wp_go 4 hM (fr' := (6, [some (.inr 0), some (.inl x), some (.inl y), some (.inl w)], [.inl y, .inl x, .inr 1], σ)) rfl ?_
  refine wp_calld (v := 0) (idx := 57) (j := 9) (N := mtX1_isDot) (as := [.inr 1, .inl x, .inl y]) (rest := []) hM rfl (Or.inl ⟨rfl, rfl⟩) rfl (sp_X1_isDot v l σ x y (by first | (first | assumption | omega) | fail) (by first | (first | assumption | omega) | fail) (by first | (first | assumption | omega) | fail) (by first | (first | assumption | omega) | fail)) ?_
  show mz_Wp shA none 79 (9, [some (.inr 0), some (.inl x), some (.inl y), some (.inl w)], [.inl (b01 (dot v x y))], σ) _
  refine wp_if (tgt := 14) hM rfl (by decide) b01_R (fun c9 => ?_) (fun c9 => ?_)
  · replace c9 := b01_ne0 (cmp_ne_t c9)
    first | (have hL := lie_at hC1' c9) | skip
    first | (have hsb := sh_bd (l := l) hR (q := 1) (by decide) (Rt_at hT hL.1 hL.2.1) c9) | skip
    first | (have hpp := hP1 _ (tg_mem hL.1 hL.2.1)) | skip
    refine wp_go 3 hM (fr' := (17, [some (.inr 0), some (.inl x), some (.inl y), some (.inl w)], [.inl y, .inl x, .inr 0], σ)) rfl ?_
    refine wp_call (v := 0) (idx := 200) (j := 93) (N := mtX5_measureByPlaces) (as := [.inr 0, .inl x, .inl y]) (rest := []) hM rfl (Or.inl ⟨rfl, rfl⟩) rfl (sp_X5_measureByPlaces v l σ x y (by first | (first | assumption | omega) | fail) (by first | (first | assumption | omega) | fail) (by first | (first | assumption | omega) | fail)) ?_
    rintro r0 σ_17 ⟨rfl, hA_17, hCC_17, hm_17, hf_17⟩
    show mz_Wp shA none 79 (20, [some (.inr 0), some (.inl x), some (.inl y), some (.inl w)], [], σ_17) _
    first | (obtain ⟨m0, m1, m2, m3, m4⟩ := id hm_17) | skip
    first | (obtain ⟨p1, p2, p3⟩ := id hL.2.2) | skip
    refine wp_go 2 hM (fr' := (24, [some (.inr 0), some (.inl x), some (.inl y), some (.inl w)], [.inr 3], σ_17)) rfl ?_
    refine wp_calld (v := 0) (idx := 203) (j := 49) (N := mtX3_shortenShares) (as := [.inr 3]) (rest := []) hM rfl (Or.inl ⟨rfl, rfl⟩) rfl (sp_X3_shortenShares  σ_17  (by first | (first | assumption | omega) | fail) (by first | (first | assumption | omega) | fail) (by first | (first | assumption | omega) | fail) (by first | (first | assumption | omega) | fail) (by first | (first | assumption | omega) | fail) (by first | (first | assumption | omega) | fail) (by first | (first | assumption | omega) | fail) (by first | (first | assumption | omega) | fail)) ?_
    show mz_Wp shA none 79 (27, [some (.inr 0), some (.inl x), some (.inl y), some (.inl w)], [], (mz_up (mz_up (mz_up (mz_up σ_17 3 1 (shq (σ_17 3 1) (Int.gcd (Int.gcd (σ_17 3 1) (σ_17 3 2)) (σ_17 3 3) : Int))) 3 2 (shq (σ_17 3 2) (Int.gcd (Int.gcd (σ_17 3 1) (σ_17 3 2)) (σ_17 3 3) : Int))) 3 3 (shq (σ_17 3 3) (Int.gcd (Int.gcd (σ_17 3 1) (σ_17 3 2)) (σ_17 3 3) : Int))) 3 4 (shq (σ_17 3 4) (Int.gcd (Int.gcd (σ_17 3 1) (σ_17 3 2)) (σ_17 3 3) : Int)))) _
    refine wp_go 1 hM (fr' := (28, [some (.inr 0), some (.inl x), some (.inl y), some (.inl w)], [.inl w], (mz_up (mz_up (mz_up (mz_up σ_17 3 1 (shq (σ_17 3 1) (Int.gcd (Int.gcd (σ_17 3 1) (σ_17 3 2)) (σ_17 3 3) : Int))) 3 2 (shq (σ_17 3 2) (Int.gcd (Int.gcd (σ_17 3 1) (σ_17 3 2)) (σ_17 3 3) : Int))) 3 3 (shq (σ_17 3 3) (Int.gcd (Int.gcd (σ_17 3 1) (σ_17 3 2)) (σ_17 3 3) : Int))) 3 4 (shq (σ_17 3 4) (Int.gcd (Int.gcd (σ_17 3 1) (σ_17 3 2)) (σ_17 3 3) : Int))))) rfl ?_
    have hR28 : mz_R w := by omega
    rcases (show w = 0 ∨ w = 1 ∨ w = 2 ∨ w = 3 ∨ (w < 0 ∨ 3 < w) by omega) with c28 | c28 | c28 | c28 | c28
    · refine wp_tsi (tgt := 60) (off := 32) hM rfl hR28 (by omega) (by rw [c28]; rfl) (by decide) ?_
      refine wp_go 3 hM (fr' := (67, [some (.inr 0), some (.inl x), some (.inl y), some (.inl w)], [.inl ((mz_up (mz_up (mz_up (mz_up σ_17 3 1 (shq (σ_17 3 1) (Int.gcd (Int.gcd (σ_17 3 1) (σ_17 3 2)) (σ_17 3 3) : Int))) 3 2 (shq (σ_17 3 2) (Int.gcd (Int.gcd (σ_17 3 1) (σ_17 3 2)) (σ_17 3 3) : Int))) 3 3 (shq (σ_17 3 3) (Int.gcd (Int.gcd (σ_17 3 1) (σ_17 3 2)) (σ_17 3 3) : Int))) 3 4 (shq (σ_17 3 4) (Int.gcd (Int.gcd (σ_17 3 1) (σ_17 3 2)) (σ_17 3 3) : Int))) 3 1)], (mz_up (mz_up (mz_up (mz_up σ_17 3 1 (shq (σ_17 3 1) (Int.gcd (Int.gcd (σ_17 3 1) (σ_17 3 2)) (σ_17 3 3) : Int))) 3 2 (shq (σ_17 3 2) (Int.gcd (Int.gcd (σ_17 3 1) (σ_17 3 2)) (σ_17 3 3) : Int))) 3 3 (shq (σ_17 3 3) (Int.gcd (Int.gcd (σ_17 3 1) (σ_17 3 2)) (σ_17 3 3) : Int))) 3 4 (shq (σ_17 3 4) (Int.gcd (Int.gcd (σ_17 3 1) (σ_17 3 2)) (σ_17 3 3) : Int))))) rfl ?_
      refine wp_ret hM rfl (rfl) ?_
      first | (exact ⟨by unfold aShare; rw [if_neg (fun q => q c9)]; subst c28; simp [mz_up, m1, m2, m3, m4, shG], CS_Fs (CS_CC hA_17 hCC_17) (((Fs_up.tr Fs_up).tr Fs_up).tr Fs_up), (Fk_Fh hf_17).tr (Fk_Fs (((Fs_up.tr Fs_up).tr Fs_up).tr Fs_up))⟩) | fail
    · refine wp_tsi (tgt := 68) (off := 40) hM rfl hR28 (by omega) (by rw [c28]; rfl) (by decide) ?_
      refine wp_go 3 hM (fr' := (75, [some (.inr 0), some (.inl x), some (.inl y), some (.inl w)], [.inl ((mz_up (mz_up (mz_up (mz_up σ_17 3 1 (shq (σ_17 3 1) (Int.gcd (Int.gcd (σ_17 3 1) (σ_17 3 2)) (σ_17 3 3) : Int))) 3 2 (shq (σ_17 3 2) (Int.gcd (Int.gcd (σ_17 3 1) (σ_17 3 2)) (σ_17 3 3) : Int))) 3 3 (shq (σ_17 3 3) (Int.gcd (Int.gcd (σ_17 3 1) (σ_17 3 2)) (σ_17 3 3) : Int))) 3 4 (shq (σ_17 3 4) (Int.gcd (Int.gcd (σ_17 3 1) (σ_17 3 2)) (σ_17 3 3) : Int))) 3 2)], (mz_up (mz_up (mz_up (mz_up σ_17 3 1 (shq (σ_17 3 1) (Int.gcd (Int.gcd (σ_17 3 1) (σ_17 3 2)) (σ_17 3 3) : Int))) 3 2 (shq (σ_17 3 2) (Int.gcd (Int.gcd (σ_17 3 1) (σ_17 3 2)) (σ_17 3 3) : Int))) 3 3 (shq (σ_17 3 3) (Int.gcd (Int.gcd (σ_17 3 1) (σ_17 3 2)) (σ_17 3 3) : Int))) 3 4 (shq (σ_17 3 4) (Int.gcd (Int.gcd (σ_17 3 1) (σ_17 3 2)) (σ_17 3 3) : Int))))) rfl ?_
      refine wp_ret hM rfl (rfl) ?_
      first | (exact ⟨by unfold aShare; rw [if_neg (fun q => q c9)]; subst c28; simp [mz_up, m1, m2, m3, m4, shG], CS_Fs (CS_CC hA_17 hCC_17) (((Fs_up.tr Fs_up).tr Fs_up).tr Fs_up), (Fk_Fh hf_17).tr (Fk_Fs (((Fs_up.tr Fs_up).tr Fs_up).tr Fs_up))⟩) | fail
    · refine wp_tsi (tgt := 76) (off := 48) hM rfl hR28 (by omega) (by rw [c28]; rfl) (by decide) ?_
      refine wp_go 3 hM (fr' := (83, [some (.inr 0), some (.inl x), some (.inl y), some (.inl w)], [.inl ((mz_up (mz_up (mz_up (mz_up σ_17 3 1 (shq (σ_17 3 1) (Int.gcd (Int.gcd (σ_17 3 1) (σ_17 3 2)) (σ_17 3 3) : Int))) 3 2 (shq (σ_17 3 2) (Int.gcd (Int.gcd (σ_17 3 1) (σ_17 3 2)) (σ_17 3 3) : Int))) 3 3 (shq (σ_17 3 3) (Int.gcd (Int.gcd (σ_17 3 1) (σ_17 3 2)) (σ_17 3 3) : Int))) 3 4 (shq (σ_17 3 4) (Int.gcd (Int.gcd (σ_17 3 1) (σ_17 3 2)) (σ_17 3 3) : Int))) 3 3)], (mz_up (mz_up (mz_up (mz_up σ_17 3 1 (shq (σ_17 3 1) (Int.gcd (Int.gcd (σ_17 3 1) (σ_17 3 2)) (σ_17 3 3) : Int))) 3 2 (shq (σ_17 3 2) (Int.gcd (Int.gcd (σ_17 3 1) (σ_17 3 2)) (σ_17 3 3) : Int))) 3 3 (shq (σ_17 3 3) (Int.gcd (Int.gcd (σ_17 3 1) (σ_17 3 2)) (σ_17 3 3) : Int))) 3 4 (shq (σ_17 3 4) (Int.gcd (Int.gcd (σ_17 3 1) (σ_17 3 2)) (σ_17 3 3) : Int))))) rfl ?_
      refine wp_ret hM rfl (rfl) ?_
      first | (exact ⟨by unfold aShare; rw [if_neg (fun q => q c9)]; subst c28; simp [mz_up, m1, m2, m3, m4, shG], CS_Fs (CS_CC hA_17 hCC_17) (((Fs_up.tr Fs_up).tr Fs_up).tr Fs_up), (Fk_Fh hf_17).tr (Fk_Fs (((Fs_up.tr Fs_up).tr Fs_up).tr Fs_up))⟩) | fail
    · refine wp_tsi (tgt := 84) (off := 56) hM rfl hR28 (by omega) (by rw [c28]; rfl) (by decide) ?_
      refine wp_go 3 hM (fr' := (91, [some (.inr 0), some (.inl x), some (.inl y), some (.inl w)], [.inl ((mz_up (mz_up (mz_up (mz_up σ_17 3 1 (shq (σ_17 3 1) (Int.gcd (Int.gcd (σ_17 3 1) (σ_17 3 2)) (σ_17 3 3) : Int))) 3 2 (shq (σ_17 3 2) (Int.gcd (Int.gcd (σ_17 3 1) (σ_17 3 2)) (σ_17 3 3) : Int))) 3 3 (shq (σ_17 3 3) (Int.gcd (Int.gcd (σ_17 3 1) (σ_17 3 2)) (σ_17 3 3) : Int))) 3 4 (shq (σ_17 3 4) (Int.gcd (Int.gcd (σ_17 3 1) (σ_17 3 2)) (σ_17 3 3) : Int))) 3 4)], (mz_up (mz_up (mz_up (mz_up σ_17 3 1 (shq (σ_17 3 1) (Int.gcd (Int.gcd (σ_17 3 1) (σ_17 3 2)) (σ_17 3 3) : Int))) 3 2 (shq (σ_17 3 2) (Int.gcd (Int.gcd (σ_17 3 1) (σ_17 3 2)) (σ_17 3 3) : Int))) 3 3 (shq (σ_17 3 3) (Int.gcd (Int.gcd (σ_17 3 1) (σ_17 3 2)) (σ_17 3 3) : Int))) 3 4 (shq (σ_17 3 4) (Int.gcd (Int.gcd (σ_17 3 1) (σ_17 3 2)) (σ_17 3 3) : Int))))) rfl ?_
      refine wp_ret hM rfl (rfl) ?_
      first | (exact ⟨by unfold aShare; rw [if_neg (fun q => q c9)]; subst c28; simp [mz_up, m1, m2, m3, m4, shG], CS_Fs (CS_CC hA_17 hCC_17) (((Fs_up.tr Fs_up).tr Fs_up).tr Fs_up), (Fk_Fh hf_17).tr (Fk_Fs (((Fs_up.tr Fs_up).tr Fs_up).tr Fs_up))⟩) | fail
    · refine wp_tso (tgt := 92) hM rfl (by decide) hR28 c28 ?_
      refine wp_go 1 hM (fr' := (93, [some (.inr 0), some (.inl x), some (.inl y), some (.inl w)], [.inl (-1)], (mz_up (mz_up (mz_up (mz_up σ_17 3 1 (shq (σ_17 3 1) (Int.gcd (Int.gcd (σ_17 3 1) (σ_17 3 2)) (σ_17 3 3) : Int))) 3 2 (shq (σ_17 3 2) (Int.gcd (Int.gcd (σ_17 3 1) (σ_17 3 2)) (σ_17 3 3) : Int))) 3 3 (shq (σ_17 3 3) (Int.gcd (Int.gcd (σ_17 3 1) (σ_17 3 2)) (σ_17 3 3) : Int))) 3 4 (shq (σ_17 3 4) (Int.gcd (Int.gcd (σ_17 3 1) (σ_17 3 2)) (σ_17 3 3) : Int))))) rfl ?_
      refine wp_ret hM rfl (rfl) ?_
      first | (exact ⟨by unfold aShare; rw [if_neg (fun q => q c9)]; repeat rw [if_neg (by omega)], CS_Fs (CS_CC hA_17 hCC_17) (((Fs_up.tr Fs_up).tr Fs_up).tr Fs_up), (Fk_Fh hf_17).tr (Fk_Fs (((Fs_up.tr Fs_up).tr Fs_up).tr Fs_up))⟩) | fail
  · replace c9 := b01_eq0 (cmp_ne_f c9)
    refine wp_go 1 hM (fr' := (13, [some (.inr 0), some (.inl x), some (.inl y), some (.inl w)], [.inl (-1)], σ)) rfl ?_
    refine wp_ret hM rfl (rfl) ?_
    first | (exact ⟨by unfold aShare; rw [if_pos c9], h0, Fk.rf⟩) | fail

set_option maxRecDepth 100000 in
set_option maxHeartbeats 4000000 in
theorem sp_X5_blend (v : mz_G) (l : List tr3) (σ : mz_G) (x : Int) (y : Int) (w : Int) (h0 : CS σ v l) (h1 : GO v l) (h2 : mz_R x) (h3 : mz_R y) (h4 : mz_R w) : mz_Cl shA 83 [.inr 0, .inl x, .inl y, .inl w] σ (fun r σ' => r = some (aBlend v l x y w) ∧ CS σ' v l ∧ Fk σ σ') := by
  have hM : mz_meth[83]? = some mtX5_blend := rfl
  have hA0 := h0.1
  obtain ⟨hB, hSd, ⟨hP0, hP1⟩, ⟨hC0, hC1'⟩, hVr, hn30, hl2⟩ := id h1
  obtain ⟨hR, hT, hLen⟩ := id hB
  obtain ⟨⟨hW0, hW1⟩, ⟨hH0, hH1⟩, ⟨hn0, hn1⟩, hpt⟩ := id hR
  obtain ⟨⟨hc1, hc2, hc3, hc4⟩, hcp, hct, hcv⟩ := id hA0
  have hWH := WH_bd hR
  refine mz_Cl.of hM ?_
  show mz_Wp shA none 83 (0, [some (.inr 0), some (.inl x), some (.inl y), some (.inl w), none, none], [], σ) _
  refine wp_go 4 hM (fr' := (6, [some (.inr 0), some (.inl x), some (.inl y), some (.inl w), none, none], [.inl y, .inl x, .inr 1], σ)) rfl ?_
  refine wp_calld (v := 0) (idx := 57) (j := 9) (N := mtX1_isDot) (as := [.inr 1, .inl x, .inl y]) (rest := []) hM rfl (Or.inl ⟨rfl, rfl⟩) rfl (sp_X1_isDot v l σ x y (by first | (first | assumption | omega) | fail) (by first | (first | assumption | omega) | fail) (by first | (first | assumption | omega) | fail) (by first | (first | assumption | omega) | fail)) ?_
  show mz_Wp shA none 83 (9, [some (.inr 0), some (.inl x), some (.inl y), some (.inl w), none, none], [.inl (b01 (dot v x y))], σ) _
  refine wp_if (tgt := 21) hM rfl (by decide) b01_R (fun c9 => ?_) (fun c9 => ?_)
  · replace c9 := b01_eq0 (cmp_eq_t c9)
    refine wp_go 1 hM (fr' := (22, [some (.inr 0), some (.inl x), some (.inl y), some (.inl w), none, none], [.inl (-1)], σ)) rfl ?_
    refine wp_ret hM rfl (rfl) ?_
    first | (exact ⟨by unfold aBlend; rw [if_pos (by first | exact Or.inl c9 | exact Or.inr (by omega))], h0, Fk.rf⟩) | fail
  · replace c9 := b01_ne0 (cmp_eq_f c9)
    first | (have hL := lie_at hC1' c9) | skip
    first | (have hfb := f_bd hB (q := 1) (by decide) hP1 hC1' c9) | skip
    first | (have hba := blA_bd (x := fX v l 1 x y) (y := fY v l 1 x y) hR hVr hfb.1.1 hfb.2.1.1 ⟨hfb.2.2.1.1, hfb.2.2.1.2⟩) | skip
    first | (have hbb : fB v l 1 x y * fB v l 1 x y ≤ 722 * 722 := Int.mul_le_mul hfb.2.2.1.2 hfb.2.2.1.2 (by omega) (by omega)) | skip
    first | (have hbs : blS v l x y = blA v (fX v l 1 x y) (fY v l 1 x y) (fB v l 1 x y) := rfl) | skip
    first | (have hb0 : 0 ≤ fB v l 1 x y * fB v l 1 x y := Int.mul_nonneg (by omega) (by omega)) | skip
    first | (have hgg := gcd_le (show 0 ≤ blS v l x y by omega) hb0) | skip
    refine wp_go 1 hM (fr' := (13, [some (.inr 0), some (.inl x), some (.inl y), some (.inl w), none, none], [.inl w], σ)) rfl ?_
    refine wp_if (tgt := 21) hM rfl (by decide) (by omega) (fun c13 => ?_) (fun c13 => ?_)
    · replace c13 := cmp_lt_t c13
      refine wp_go 1 hM (fr' := (22, [some (.inr 0), some (.inl x), some (.inl y), some (.inl w), none, none], [.inl (-1)], σ)) rfl ?_
      refine wp_ret hM rfl (rfl) ?_
      first | (exact ⟨by unfold aBlend; rw [if_pos (by first | exact Or.inl c9 | exact Or.inr (by omega))], h0, Fk.rf⟩) | fail
    · replace c13 := cmp_lt_f c13
      refine wp_go 2 hM (fr' := (18, [some (.inr 0), some (.inl x), some (.inl y), some (.inl w), none, none], [.inl 1, .inl w], σ)) rfl ?_
      refine wp_ic (tgt := 23) hM rfl (by decide) (by omega) (by omega) (fun c18 => ?_) (fun c18 => ?_)
      · replace c18 := cmp_le_t c18
        refine wp_go 3 hM (fr' := (26, [some (.inr 0), some (.inl x), some (.inl y), some (.inl w), none, none], [.inl y, .inl x, .inr 0], σ)) rfl ?_
        refine wp_call (v := 0) (idx := 200) (j := 93) (N := mtX5_measureByPlaces) (as := [.inr 0, .inl x, .inl y]) (rest := []) hM rfl (Or.inl ⟨rfl, rfl⟩) rfl (sp_X5_measureByPlaces v l σ x y (by first | (first | assumption | omega) | fail) (by first | (first | assumption | omega) | fail) (by first | (first | assumption | omega) | fail)) ?_
        rintro r0 σ_26 ⟨rfl, hA_26, hCC_26, hm_26, hf_26⟩
        show mz_Wp shA none 83 (29, [some (.inr 0), some (.inl x), some (.inl y), some (.inl w), none, none], [], σ_26) _
        refine wp_go 7 hM (fr' := (44, [some (.inr 0), some (.inl x), some (.inl y), some (.inl w), none, none], [.inr 8, .inr 1, .inr 3], σ_26)) rfl ?_
        refine wp_call (v := 0) (idx := 215) (j := 50) (N := mtX3_mix) (as := [.inr 3, .inr 1, .inr 8]) (rest := []) hM rfl (Or.inl ⟨rfl, rfl⟩) rfl (sp_X3_mix_8_w v l (lie v l 1 x y) x y σ_26  (by first | (first | assumption | exact hL.2.2 | exact hL.2.1 | exact hL.1) | fail) (by first | (first | assumption | exact hL.2.2 | exact hL.2.1 | exact hL.1) | fail) (by first | (first | assumption | exact hL.2.2 | exact hL.2.1 | exact hL.1) | fail) (by first | (first | assumption | exact hL.2.2 | exact hL.2.1 | exact hL.1) | fail) (by first | (first | assumption | exact hL.2.2 | exact hL.2.1 | exact hL.1) | fail) (by first | (first | assumption | exact hL.2.2 | exact hL.2.1 | exact hL.1) | fail) (by first | (first | assumption | exact hL.2.2 | exact hL.2.1 | exact hL.1) | fail)) ?_
        rintro r0 σ_44 ⟨rfl, hx_44, hm_44, hf_44⟩
        show mz_Wp shA none 83 (47, [some (.inr 0), some (.inl x), some (.inl y), some (.inl w), none, none], [], σ_44) _
        first | (have hS44 : CS σ_44 v l := CS_Fs (CS_CC hA_26 hCC_26) hf_44) | skip
        first | (have hA44 := hS44.1) | skip
        first | (have e1 : σ_44 3 5 = fX v l 1 x y := hx_44.1) | skip
        first | (have e2 : σ_44 3 6 = fY v l 1 x y := hx_44.2.1) | skip
        first | (have e3 : σ_44 3 7 = fB v l 1 x y := hx_44.2.2) | skip
        refine wp_go 1 hM (fr' := (48, [some (.inr 0), some (.inl x), some (.inl y), some (.inl w), none, none], [.inr 0], σ_44)) rfl ?_
        refine wp_calld (v := 0) (idx := 226) (j := 98) (N := mtX5_blendAbove) (as := [.inr 0]) (rest := []) hM rfl (Or.inl ⟨rfl, rfl⟩) rfl (sp_X5_blendAbove v l (fX v l 1 x y) (fY v l 1 x y) (fB v l 1 x y) σ_44  (by first | (first | assumption | omega) | fail) (by first | (first | assumption | omega) | fail) (by first | (first | assumption | omega) | fail) (by first | (first | assumption | omega) | fail) (by first | (first | assumption | omega) | fail) (by first | (first | assumption | omega) | fail) (by first | (first | assumption | omega) | fail) (by first | (first | assumption | omega) | fail)) ?_
        show mz_Wp shA none 83 (51, [some (.inr 0), some (.inl x), some (.inl y), some (.inl w), none, none], [.inl (blA v (fX v l 1 x y) (fY v l 1 x y) (fB v l 1 x y))], σ_44) _
        refine wp_go 10 hM (fr' := (71, [some (.inr 0), some (.inl x), some (.inl y), some (.inl w), some (.inl (blS v l x y)), some (.inl ((σ_44 3 7) * (σ_44 3 7)))], [.inl w], σ_44)) rfl ?_
        refine wp_if (tgt := 79) hM rfl (by decide) (by omega) (fun c71 => ?_) (fun c71 => ?_)
        · replace c71 := cmp_ne_t c71
          refine wp_go 3 hM (fr' := (85, [some (.inr 0), some (.inl x), some (.inl y), some (.inl w), some (.inl (blS v l x y)), some (.inl ((σ_44 3 7) * (σ_44 3 7)))], [.inl ((σ_44 3 7) * (σ_44 3 7)), .inl (blS v l x y), .inl ((σ_44 3 7) * (σ_44 3 7))], σ_44)) rfl ?_
          refine wp_calld (v := 1) (idx := 232) (j := 101) (N := mtX5_divisorOf) (as := [.inl (blS v l x y), .inl ((σ_44 3 7) * (σ_44 3 7))]) (rest := [.inl ((σ_44 3 7) * (σ_44 3 7))]) hM rfl (Or.inr ⟨rfl, rfl⟩) rfl (sp_X5_divisorOf  σ_44 (blS v l x y) ((σ_44 3 7) * (σ_44 3 7)) (by first | (first | omega | (rw [e3]; omega) | (unfold blS at *; omega)) | fail) (by first | (first | omega | (rw [e3]; omega) | (unfold blS at *; omega)) | fail) (by first | (first | omega | (rw [e3]; omega) | (unfold blS at *; omega)) | fail) (by first | (first | omega | (rw [e3]; omega) | (unfold blS at *; omega)) | fail)) ?_
          show mz_Wp shA none 83 (88, [some (.inr 0), some (.inl x), some (.inl y), some (.inl w), some (.inl (blS v l x y)), some (.inl ((σ_44 3 7) * (σ_44 3 7)))], [.inl (Int.gcd (blS v l x y) ((σ_44 3 7) * (σ_44 3 7)) : Int), .inl ((σ_44 3 7) * (σ_44 3 7))], σ_44) _
          refine wp_calld (v := 1) (idx := 235) (j := 102) (N := mtX5_shortened) (as := [.inl ((σ_44 3 7) * (σ_44 3 7)), .inl (Int.gcd (blS v l x y) ((σ_44 3 7) * (σ_44 3 7)) : Int)]) (rest := []) hM rfl (Or.inr ⟨rfl, rfl⟩) rfl (sp_X5_shortened  σ_44 ((σ_44 3 7) * (σ_44 3 7)) (Int.gcd (blS v l x y) ((σ_44 3 7) * (σ_44 3 7)) : Int) (by first | (first | omega | (rw [e3]; constructor <;> omega) | (rw [e3]; omega)) | fail) (by first | (first | omega | (rw [e3]; constructor <;> omega) | (rw [e3]; omega)) | fail)) ?_
          show mz_Wp shA none 83 (91, [some (.inr 0), some (.inl x), some (.inl y), some (.inl w), some (.inl (blS v l x y)), some (.inl ((σ_44 3 7) * (σ_44 3 7)))], [.inl (shq ((σ_44 3 7) * (σ_44 3 7)) (Int.gcd (blS v l x y) ((σ_44 3 7) * (σ_44 3 7)) : Int))], σ_44) _
          refine wp_ret hM rfl (rfl) ?_
          first | (exact ⟨by unfold aBlend; rw [if_neg (by intro q; rcases q with q | q; exact q c9; omega)]; first | rw [if_neg c71, e3] | rw [if_pos c71, e3], hS44, (Fk_Fh hf_26).tr (Fk_Fs hf_44)⟩) | fail
        · replace c71 := cmp_ne_f c71
          refine wp_go 4 hM (fr' := (85, [some (.inr 0), some (.inl x), some (.inl y), some (.inl w), some (.inl (blS v l x y)), some (.inl ((σ_44 3 7) * (σ_44 3 7)))], [.inl ((σ_44 3 7) * (σ_44 3 7)), .inl (blS v l x y), .inl (blS v l x y)], σ_44)) rfl ?_
          refine wp_calld (v := 1) (idx := 232) (j := 101) (N := mtX5_divisorOf) (as := [.inl (blS v l x y), .inl ((σ_44 3 7) * (σ_44 3 7))]) (rest := [.inl (blS v l x y)]) hM rfl (Or.inr ⟨rfl, rfl⟩) rfl (sp_X5_divisorOf  σ_44 (blS v l x y) ((σ_44 3 7) * (σ_44 3 7)) (by first | (first | omega | (rw [e3]; omega) | (unfold blS at *; omega)) | fail) (by first | (first | omega | (rw [e3]; omega) | (unfold blS at *; omega)) | fail) (by first | (first | omega | (rw [e3]; omega) | (unfold blS at *; omega)) | fail) (by first | (first | omega | (rw [e3]; omega) | (unfold blS at *; omega)) | fail)) ?_
          show mz_Wp shA none 83 (88, [some (.inr 0), some (.inl x), some (.inl y), some (.inl w), some (.inl (blS v l x y)), some (.inl ((σ_44 3 7) * (σ_44 3 7)))], [.inl (Int.gcd (blS v l x y) ((σ_44 3 7) * (σ_44 3 7)) : Int), .inl (blS v l x y)], σ_44) _
          refine wp_calld (v := 1) (idx := 235) (j := 102) (N := mtX5_shortened) (as := [.inl (blS v l x y), .inl (Int.gcd (blS v l x y) ((σ_44 3 7) * (σ_44 3 7)) : Int)]) (rest := []) hM rfl (Or.inr ⟨rfl, rfl⟩) rfl (sp_X5_shortened  σ_44 (blS v l x y) (Int.gcd (blS v l x y) ((σ_44 3 7) * (σ_44 3 7)) : Int) (by first | (first | omega | (rw [e3]; constructor <;> omega) | (rw [e3]; omega)) | fail) (by first | (first | omega | (rw [e3]; constructor <;> omega) | (rw [e3]; omega)) | fail)) ?_
          show mz_Wp shA none 83 (91, [some (.inr 0), some (.inl x), some (.inl y), some (.inl w), some (.inl (blS v l x y)), some (.inl ((σ_44 3 7) * (σ_44 3 7)))], [.inl (shq (blS v l x y) (Int.gcd (blS v l x y) ((σ_44 3 7) * (σ_44 3 7)) : Int))], σ_44) _
          refine wp_ret hM rfl (rfl) ?_
          first | (exact ⟨by unfold aBlend; rw [if_neg (by intro q; rcases q with q | q; exact q c9; omega)]; first | rw [if_neg c71, e3] | rw [if_pos c71, e3], hS44, (Fk_Fh hf_26).tr (Fk_Fs hf_44)⟩) | fail
      · replace c18 := cmp_le_f c18
        refine wp_go 1 hM (fr' := (22, [some (.inr 0), some (.inl x), some (.inl y), some (.inl w), none, none], [.inl (-1)], σ)) rfl ?_
        refine wp_ret hM rfl (rfl) ?_
        first | (exact ⟨by unfold aBlend; rw [if_pos (by first | exact Or.inl c9 | exact Or.inr (by omega))], h0, Fk.rf⟩) | fail

set_option maxRecDepth 100000 in
set_option maxHeartbeats 4000000 in
theorem sp_X5_bent (v : mz_G) (l : List tr3) (σ : mz_G) (t : Int) (h0 : CS σ v l) (h1 : GO v l) (h2 : mz_R t) : mz_Cl shA 90 [.inr 0, .inl t] σ (fun r σ' => r = some (aBent v l t) ∧ CS σ' v l ∧ Fk σ σ') := by
  have hM : mz_meth[90]? = some mtX5_bent := rfl
  have hA0 := h0.1
  obtain ⟨hB, hSd, ⟨hP0, hP1⟩, ⟨hC0, hC1'⟩, hVr, hn30, hl2⟩ := id h1
  obtain ⟨hR, hT, hLen⟩ := id hB
  obtain ⟨⟨hW0, hW1⟩, ⟨hH0, hH1⟩, ⟨hn0, hn1⟩, hpt⟩ := id hR
  obtain ⟨⟨hc1, hc2, hc3, hc4⟩, hcp, hct, hcv⟩ := id hA0
  have hWH := WH_bd hR
  refine mz_Cl.of hM ?_
  show mz_Wp shA none 90 (0, [some (.inr 0), some (.inl t)], [], σ) _
  refine wp_go 1 hM (fr' := (1, [some (.inr 0), some (.inl t)], [.inl t], σ)) rfl ?_
  refine wp_if (tgt := 10) hM rfl (by decide) (by omega) (fun c1 => ?_) (fun c1 => ?_)
  · replace c1 := cmp_lt_t c1
    refine wp_go 2 hM (fr' := (22, [some (.inr 0), some (.inl t)], [.inl (-1)], σ)) rfl ?_
    refine wp_ret hM rfl (rfl) ?_
    first | (first | exact ⟨by unfold aBent; rw [if_neg (by omega)], CS_Fw h0 hf_19, Fk_Fw hf_19⟩ | exact ⟨by unfold aBent; rw [if_pos (by omega)], h0, Fk.rf⟩) | fail
  · replace c1 := cmp_lt_f c1
    refine wp_go 2 hM (fr' := (7, [some (.inr 0), some (.inl t)], [.inl 8, .inl t], σ)) rfl ?_
    refine wp_ic (tgt := 14) hM rfl (by decide) (by omega) (by omega) (fun c7 => ?_) (fun c7 => ?_)
    · replace c7 := cmp_le_t c7
      refine wp_go 3 hM (fr' := (19, [some (.inr 0), some (.inl t)], [.inl t, .inr 1], σ)) rfl ?_
      refine wp_call (v := 0) (idx := 251) (j := 22) (N := mtX1_bentTriangles) (as := [.inr 1, .inl t]) (rest := []) hM rfl (Or.inl ⟨rfl, rfl⟩) rfl (sp_X1_bentTriangles v l σ t (by first | (first | assumption | omega) | fail) (by first | (first | assumption | omega) | fail) (by first | (first | assumption | omega) | fail) (by first | (first | assumption | omega) | fail)) ?_
      rintro r0 σ_19 ⟨rfl, hf_19⟩
      show mz_Wp shA none 90 (22, [some (.inr 0), some (.inl t)], [.inl (sumI (l.length : Int) (fun i => b01 (war v t (tg l i) ≤ 0)))], σ_19) _
      refine wp_ret hM rfl (rfl) ?_
      first | (first | exact ⟨by unfold aBent; rw [if_neg (by omega)], CS_Fw h0 hf_19, Fk_Fw hf_19⟩ | exact ⟨by unfold aBent; rw [if_pos (by omega)], h0, Fk.rf⟩) | fail
    · replace c7 := cmp_le_f c7
      refine wp_go 2 hM (fr' := (22, [some (.inr 0), some (.inl t)], [.inl (-1)], σ)) rfl ?_
      refine wp_ret hM rfl (rfl) ?_
      first | (first | exact ⟨by unfold aBent; rw [if_neg (by omega)], CS_Fw h0 hf_19, Fk_Fw hf_19⟩ | exact ⟨by unfold aBent; rw [if_pos (by omega)], h0, Fk.rf⟩) | fail
