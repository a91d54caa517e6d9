set_option maxRecDepth 100000 in
set_option maxHeartbeats 4000000 in
theorem sp_X1_link (m : List (Int × Int)) (σ : mz_G) (a : Int) (b : Int) (h0 : LK σ m) (h1 : (m.length : Int) < 64) : mz_Cl shA 30 [.inr 1, .inl a, .inl b] σ (fun r σ' => r = none ∧ LK σ' (m ++ [(a, b)]) ∧ Fl σ σ') := by
  have hM : mz_meth[30]? = some mtX1_link := rfl
  have hL := h0.1
  refine mz_Cl.of hM ?_
  show mz_Wp shA none 30 (0, [some (.inr 1), some (.inl a), some (.inl b)], [], σ) _
  refine wp_go 3 hM (fr' := (6, [some (.inr 1), some (.inl a), some (.inl b)], [.inl 64, .inl (σ 1 6)], σ)) rfl ?_
  refine wp_ic (tgt := 39) hM rfl (by decide) (by omega) (by omega) (fun c6 => ?_) (fun c6 => ?_)
  · replace c6 := cmp_ge_t c6
    omega
  · replace c6 := cmp_ge_f c6
    refine wp_go 5 hM (fr' := (18, [some (.inr 1), some (.inl a), some (.inl b)], [.inl a, .inl (σ 1 6), .inr 12], σ)) rfl ?_
    refine wp_as (n := 64) hM rfl rfl (by omega) (by omega) ?_
    refine wp_go 5 hM (fr' := (28, [some (.inr 1), some (.inl a), some (.inl b)], [.inl b, .inl (σ 1 6), .inr 13], (mz_up σ 12 (σ 1 6).toNat a))) rfl ?_
    refine wp_as (n := 64) hM rfl rfl (by omega) (by omega) ?_
    refine wp_go 6 hM (fr' := (39, [some (.inr 1), some (.inl a), some (.inl b)], [], (mz_up (mz_up (mz_up σ 12 (σ 1 6).toNat a) 13 (σ 1 6).toNat b) 1 6 ((σ 1 6) + 1)))) rfl ?_
    refine wp_retv hM rfl rfl ?_
    exact ⟨rfl, LK_push h0, Fl_push⟩

set_option maxRecDepth 100000 in
set_option maxHeartbeats 4000000 in
theorem sp_X1_linkIfApart (v : mz_G) (l : List tr3) (m : List (Int × Int)) (σ : mz_G) (x : Int) (y : Int) (a : Int) (b : Int) (h0 : CA σ v l) (h1 : Bs v l) (h2 : LK σ m) (h3 : (m.length : Int) < 64) (h4 : dot v x y) (h5 : 0 ≤ a) (h6 : a < v 0 2) (h7 : 0 ≤ b) (h8 : b < v 0 2) : mz_Cl shA 29 [.inr 1, .inl x, .inl y, .inl a, .inl b] σ (fun r σ' => r = none ∧ LK σ' (m ++ ap1 v x y (a, b)) ∧ Fl σ σ') := by
  have hM : mz_meth[29]? = some mtX1_linkIfApart := rfl
  obtain ⟨hR, hT, hLen⟩ := id h1
  obtain ⟨⟨hW0, hW1⟩, ⟨hH0, hH1⟩, ⟨hn0, hn1⟩, hpt⟩ := id hR
  obtain ⟨⟨hc1, hc2, hc3, hc4⟩, hcp, hct, hcv⟩ := id h0
  have hfe := fe_bd (e := (a, b)) hR (q := 0) (by decide) ⟨⟨h5, h6⟩, ⟨h7, h8⟩⟩ h4
  unfold fe at hfe
  dsimp only at hfe
  refine mz_Cl.of hM ?_
  show mz_Wp shA none 29 (0, [some (.inr 1), some (.inl x), some (.inl y), some (.inl a), some (.inl b)], [], σ) _
  refine wp_go 6 hM (fr' := (9, [some (.inr 1), some (.inl x), some (.inl y), some (.inl a), some (.inl b)], [.inl b, .inl a, .inl y, .inl x, .inr 8], σ)) rfl ?_
  refine wp_calld (v := 0) (idx := 88) (j := 45) (N := mtX2_areaWith) (as := [.inr 8, .inl x, .inl y, .inl a, .inl b]) (rest := []) hM rfl (Or.inl ⟨rfl, rfl⟩) rfl (sp_X2_areaWith_8_v v l σ x y a b (by first | assumption | omega) (by first | assumption | omega) (by first | assumption | omega) (by first | assumption | omega) (by first | assumption | omega) (by first | assumption | omega)) ?_
  show mz_Wp shA none 29 (12, [some (.inr 1), some (.inl x), some (.inl y), some (.inl a), some (.inl b)], [.inl (ar (x) (y) (gx v 0 (a)) (gy v 0 (a)) (gx v 0 (b)) (gy v 0 (b)))], σ) _
  refine wp_if (tgt := 22) hM rfl (by decide) (by omega) (fun c12 => ?_) (fun c12 => ?_)
  · replace c12 := cmp_le_t c12
    refine wp_retv hM rfl rfl ?_
    first | exact ⟨rfl, by unfold ap1 fe; dsimp only; rw [if_pos (by omega)]; exact hk_19, hf_19⟩ | exact ⟨rfl, by unfold ap1 fe; dsimp only; rw [if_neg (by omega), List.append_nil]; exact h2, Fl.rf⟩
  · replace c12 := cmp_le_f c12
    refine wp_go 3 hM (fr' := (19, [some (.inr 1), some (.inl x), some (.inl y), some (.inl a), some (.inl b)], [.inl b, .inl a, .inr 1], σ)) rfl ?_
    refine wp_call (v := 0) (idx := 136) (j := 30) (N := mtX1_link) (as := [.inr 1, .inl a, .inl b]) (rest := []) hM rfl (Or.inl ⟨rfl, rfl⟩) rfl (sp_X1_link m σ a b (by first | assumption | omega) (by first | assumption | omega)) ?_
    rintro r0 σ_19 ⟨rfl, hk_19, hf_19⟩
    show mz_Wp shA none 29 (22, [some (.inr 1), some (.inl x), some (.inl y), some (.inl a), some (.inl b)], [], σ_19) _
    refine wp_retv hM rfl rfl ?_
    first | exact ⟨rfl, by unfold ap1 fe; dsimp only; rw [if_pos (by omega)]; exact hk_19, hf_19⟩ | exact ⟨rfl, by unfold ap1 fe; dsimp only; rw [if_neg (by omega), List.append_nil]; exact h2, Fl.rf⟩

set_option maxRecDepth 100000 in
set_option maxHeartbeats 4000000 in
theorem sp_X1_linkOfHome (v : mz_G) (l : List tr3) (σ : mz_G) (x : Int) (y : Int) (h0 : CA σ v l) (h1 : Bs v l) (h2 : dot v x y) (h3 : ((lhOf v l x y).length : Int) ≤ 60) : mz_Cl shA 28 [.inr 1, .inl x, .inl y] σ (fun r σ' => r = none ∧ LK σ' (lhOf v l x y) ∧ Fl σ σ') := by
  have hM : mz_meth[28]? = some mtX1_linkOfHome := rfl
  obtain ⟨hR, hT, hLen⟩ := id h1
  obtain ⟨⟨hW0, hW1⟩, ⟨hH0, hH1⟩, ⟨hn0, hn1⟩, hpt⟩ := id hR
  obtain ⟨⟨hc1, hc2, hc3, hc4⟩, hcp, hct, hcv⟩ := id h0
  refine mz_Cl.of hM ?_
  show mz_Wp shA none 28 (0, [some (.inr 1), some (.inl x), some (.inl y), none, none, none, none], [], σ) _
  refine wp_go 5 hM (fr' := (7, [some (.inr 1), some (.inl x), some (.inl y), some (.inl 0), none, none, none], [], (mz_up σ 1 6 0))) rfl ?_
  have loop7 : ∀ (fuel : Nat) (t : Int) (σ1 : mz_G) (d7_4 d7_5 d7_6 : Option mz_V), (0 ≤ t) → (t ≤ (l.length : Int)) → (LK σ1 (flT (lh1 v x y) l t)) → (Fl σ σ1) → (((l.length : Int) - t : Int) < fuel) → mz_Wp shA none 28 (7, [some (.inr 1), some (.inl x), some (.inl y), some (.inl t), d7_4, d7_5, d7_6], [], σ1) (fun r σ' => r = none ∧ LK σ' (lhOf v l x y) ∧ Fl σ σ') := by
    intro fuel
    induction fuel with
    | zero =>
      intro t σ1 d7_4 d7_5 d7_6 hv7_0 hv7_1 hv7_2 hv7_3 hf7
      exfalso
      omega
    | succ fuel ih7 =>
      intro t σ1 d7_4 d7_5 d7_6 hv7_0 hv7_1 hv7_2 hv7_3 hf7
      have hC1 := CA_Fl h0 hv7_3
      have hT1 : σ1 11 1 = (l.length : Int) := hC1.1.2.2.2
      have hle := flT_le (f := lh1 v x y) (l := l) (t := t)
      have hle2 : (lhOf v l x y).length = (l.flatMap (lh1 v x y)).length := rfl
      refine wp_go 4 hM (fr' := (15, [some (.inr 1), some (.inl x), some (.inl y), some (.inl t), d7_4, d7_5, d7_6], [.inl (σ1 11 1), .inl t], σ1)) rfl ?_
      refine wp_ic (tgt := 98) hM rfl (by decide) (by omega) (by omega) (fun c15 => ?_) (fun c15 => ?_)
      · replace c15 := cmp_ge_t c15
        refine wp_retv hM rfl rfl ?_
        exact ⟨rfl, by rw [lhOf, ← flT_all (t := t) (by omega)]; exact hv7_2, hv7_3⟩
      · replace c15 := cmp_ge_f c15
        have ht := Rt_at hT hv7_0 (show t < (l.length : Int) by omega)
        have hs := flT_s (f := lh1 v x y) (l := l) hv7_0 (by omega)
        refine wp_go 6 hM (fr' := (26, [some (.inr 1), some (.inl x), some (.inl y), some (.inl t), d7_4, d7_5, d7_6], [.inl y, .inl x, .inl t, .inr 8, .inr 1], σ1)) rfl ?_
        refine wp_calld (v := 0) (idx := 92) (j := 16) (N := mtX1_holds) (as := [.inr 1, .inr 8, .inl t, .inl x, .inl y]) (rest := []) hM rfl (Or.inl ⟨rfl, rfl⟩) rfl (sp_X1_holds_8 v l σ1 t x y (by first | assumption | omega) (by first | assumption | omega) (by first | assumption | omega) (by first | assumption | omega) (by first | assumption | omega)) ?_
        show mz_Wp shA none 28 (29, [some (.inr 1), some (.inl x), some (.inl y), some (.inl t), d7_4, d7_5, d7_6], [.inl (b01 (hol v 0 (tg l t) x y))], σ1) _
        refine wp_if (tgt := 92) hM rfl (by decide) b01_R (fun c29 => ?_) (fun c29 => ?_)
        · replace c29 := b01_eq0 (cmp_eq_t c29)
          refine wp_go 2 hM (fr' := (7, [some (.inr 1), some (.inl x), some (.inl y), some (.inl (t + 1)), d7_4, d7_5, d7_6], [], σ1)) rfl ?_
          exact ih7 (t + 1) σ1 (d7_4) (d7_5) (d7_6) (by omega) (by omega) (by rw [hs]; unfold lh1; first | (rw [if_pos c29, ← List.append_assoc, ← List.append_assoc]; exact hk_89) | (rw [if_neg c29, List.append_nil]; exact hv7_2)) (by first | exact ((hv7_3.tr hf_69).tr hf_79).tr hf_89 | exact hv7_3) (by omega)
        · replace c29 := b01_ne0 (cmp_eq_f c29)
          refine wp_go 3 hM (fr' := (37, [some (.inr 1), some (.inl x), some (.inl y), some (.inl t), d7_4, d7_5, d7_6], [.inl t, .inr 11], σ1)) rfl ?_
          refine wp_calld (v := 0) (idx := 74) (j := 54) (N := mtX4_first) (as := [.inr 11, .inl t]) (rest := []) hM rfl (Or.inl ⟨rfl, rfl⟩) rfl (sp_X4_first_v v l σ1 t (by first | assumption | omega) (by first | assumption | omega) (by first | assumption | omega) (by first | assumption | omega)) ?_
          show mz_Wp shA none 28 (40, [some (.inr 1), some (.inl x), some (.inl y), some (.inl t), d7_4, d7_5, d7_6], [.inl ((tg l t).1)], σ1) _
          refine wp_go 4 hM (fr' := (47, [some (.inr 1), some (.inl x), some (.inl y), some (.inl t), some (.inl ((tg l t).1)), d7_5, d7_6], [.inl t, .inr 11], σ1)) rfl ?_
          refine wp_calld (v := 0) (idx := 78) (j := 55) (N := mtX4_second) (as := [.inr 11, .inl t]) (rest := []) hM rfl (Or.inl ⟨rfl, rfl⟩) rfl (sp_X4_second_v v l σ1 t (by first | assumption | omega) (by first | assumption | omega) (by first | assumption | omega) (by first | assumption | omega)) ?_
          show mz_Wp shA none 28 (50, [some (.inr 1), some (.inl x), some (.inl y), some (.inl t), some (.inl ((tg l t).1)), d7_5, d7_6], [.inl ((tg l t).2.1)], σ1) _
          refine wp_go 4 hM (fr' := (57, [some (.inr 1), some (.inl x), some (.inl y), some (.inl t), some (.inl ((tg l t).1)), some (.inl ((tg l t).2.1)), d7_6], [.inl t, .inr 11], σ1)) rfl ?_
          refine wp_calld (v := 0) (idx := 81) (j := 56) (N := mtX4_third) (as := [.inr 11, .inl t]) (rest := []) hM rfl (Or.inl ⟨rfl, rfl⟩) rfl (sp_X4_third_v v l σ1 t (by first | assumption | omega) (by first | assumption | omega) (by first | assumption | omega) (by first | assumption | omega)) ?_
          show mz_Wp shA none 28 (60, [some (.inr 1), some (.inl x), some (.inl y), some (.inl t), some (.inl ((tg l t).1)), some (.inl ((tg l t).2.1)), d7_6], [.inl ((tg l t).2.2)], σ1) _
          refine wp_go 6 hM (fr' := (69, [some (.inr 1), some (.inl x), some (.inl y), some (.inl t), some (.inl ((tg l t).1)), some (.inl ((tg l t).2.1)), some (.inl ((tg l t).2.2))], [.inl ((tg l t).2.1), .inl ((tg l t).1), .inl y, .inl x, .inr 1], σ1)) rfl ?_
          refine wp_call (v := 0) (idx := 132) (j := 29) (N := mtX1_linkIfApart) (as := [.inr 1, .inl x, .inl y, .inl ((tg l t).1), .inl ((tg l t).2.1)]) (rest := []) hM rfl (Or.inl ⟨rfl, rfl⟩) rfl (sp_X1_linkIfApart v l (flT (lh1 v x y) l t) σ1 x y ((tg l t).1) ((tg l t).2.1) (by first | assumption | omega) (by first | assumption | omega) (by first | assumption | omega) (by first | assumption | omega) (by first | assumption | omega) (by first | assumption | omega) (by first | assumption | omega) (by first | assumption | omega) (by first | assumption | omega)) ?_
          rintro r0 σ_69 ⟨rfl, hk_69, hf_69⟩
          show mz_Wp shA none 28 (72, [some (.inr 1), some (.inl x), some (.inl y), some (.inl t), some (.inl ((tg l t).1)), some (.inl ((tg l t).2.1)), some (.inl ((tg l t).2.2))], [], σ_69) _
          have hC_69 := CA_Fl hC1 hf_69
          have ha69 := ap1_le (v := v) (x := x) (y := y) (e := ((tg l t).1, (tg l t).2.1))
          have hl69 : ((flT (lh1 v x y) l t ++ ap1 v x y ((tg l t).1, (tg l t).2.1)).length : Int) ≤ 61 := by rw [List.length_append]; omega
          refine wp_go 5 hM (fr' := (79, [some (.inr 1), some (.inl x), some (.inl y), some (.inl t), some (.inl ((tg l t).1)), some (.inl ((tg l t).2.1)), some (.inl ((tg l t).2.2))], [.inl ((tg l t).2.2), .inl ((tg l t).2.1), .inl y, .inl x, .inr 1], σ_69)) rfl ?_
          refine wp_call (v := 0) (idx := 132) (j := 29) (N := mtX1_linkIfApart) (as := [.inr 1, .inl x, .inl y, .inl ((tg l t).2.1), .inl ((tg l t).2.2)]) (rest := []) hM rfl (Or.inl ⟨rfl, rfl⟩) rfl (sp_X1_linkIfApart v l (flT (lh1 v x y) l t ++ ap1 v x y ((tg l t).1, (tg l t).2.1)) σ_69 x y ((tg l t).2.1) ((tg l t).2.2) (by first | assumption | omega) (by first | assumption | omega) (by first | assumption | omega) (by first | assumption | omega) (by first | assumption | omega) (by first | assumption | omega) (by first | assumption | omega) (by first | assumption | omega) (by first | assumption | omega)) ?_
          rintro r0 σ_79 ⟨rfl, hk_79, hf_79⟩
          show mz_Wp shA none 28 (82, [some (.inr 1), some (.inl x), some (.inl y), some (.inl t), some (.inl ((tg l t).1)), some (.inl ((tg l t).2.1)), some (.inl ((tg l t).2.2))], [], σ_79) _
          have hC_79 := CA_Fl hC_69 hf_79
          have ha79 := ap1_le (v := v) (x := x) (y := y) (e := ((tg l t).2.1, (tg l t).2.2))
          have hl79 : ((flT (lh1 v x y) l t ++ ap1 v x y ((tg l t).1, (tg l t).2.1) ++ ap1 v x y ((tg l t).2.1, (tg l t).2.2)).length : Int) ≤ 62 := by rw [List.length_append]; omega
          refine wp_go 5 hM (fr' := (89, [some (.inr 1), some (.inl x), some (.inl y), some (.inl t), some (.inl ((tg l t).1)), some (.inl ((tg l t).2.1)), some (.inl ((tg l t).2.2))], [.inl ((tg l t).1), .inl ((tg l t).2.2), .inl y, .inl x, .inr 1], σ_79)) rfl ?_
          refine wp_call (v := 0) (idx := 132) (j := 29) (N := mtX1_linkIfApart) (as := [.inr 1, .inl x, .inl y, .inl ((tg l t).2.2), .inl ((tg l t).1)]) (rest := []) hM rfl (Or.inl ⟨rfl, rfl⟩) rfl (sp_X1_linkIfApart v l (flT (lh1 v x y) l t ++ ap1 v x y ((tg l t).1, (tg l t).2.1) ++ ap1 v x y ((tg l t).2.1, (tg l t).2.2)) σ_79 x y ((tg l t).2.2) ((tg l t).1) (by first | assumption | omega) (by first | assumption | omega) (by first | assumption | omega) (by first | assumption | omega) (by first | assumption | omega) (by first | assumption | omega) (by first | assumption | omega) (by first | assumption | omega) (by first | assumption | omega)) ?_
          rintro r0 σ_89 ⟨rfl, hk_89, hf_89⟩
          show mz_Wp shA none 28 (92, [some (.inr 1), some (.inl x), some (.inl y), some (.inl t), some (.inl ((tg l t).1)), some (.inl ((tg l t).2.1)), some (.inl ((tg l t).2.2))], [], σ_89) _
          refine wp_go 2 hM (fr' := (7, [some (.inr 1), some (.inl x), some (.inl y), some (.inl (t + 1)), some (.inl ((tg l t).1)), some (.inl ((tg l t).2.1)), some (.inl ((tg l t).2.2))], [], σ_89)) rfl ?_
          exact ih7 (t + 1) σ_89 (some (.inl ((tg l t).1))) (some (.inl ((tg l t).2.1))) (some (.inl ((tg l t).2.2))) (by omega) (by omega) (by rw [hs]; unfold lh1; first | (rw [if_pos c29, ← List.append_assoc, ← List.append_assoc]; exact hk_89) | (rw [if_neg c29, List.append_nil]; exact hv7_2)) (by first | exact ((hv7_3.tr hf_69).tr hf_79).tr hf_89 | exact hv7_3) (by omega)
  exact loop7 65 0 (mz_up σ 1 6 0) (none) (none) (none) (by omega) (by omega) (by rw [flT_0]; exact LK_nil) (by exact Fl_16) (by omega)

set_option maxRecDepth 100000 in
set_option maxHeartbeats 4000000 in
theorem sp_X1_foldsAt (v : mz_G) (l : List tr3) (m : List (Int × Int)) (σ : mz_G) (x : Int) (y : Int) (h0 : CA σ v l) (h1 : Bs v l) (h2 : LK σ m) (h3 : Lr v m) (h4 : (m.length : Int) ≤ 64) (h5 : dot v x y) : mz_Cl shA 31 [.inr 1, .inl x, .inl y] σ (fun r σ' => r = some (b01 (fol v m x y)) ∧ σ' = σ) := by
  have hM : mz_meth[31]? = some mtX1_foldsAt := rfl
  obtain ⟨hR, hT, hLen⟩ := id h1
  obtain ⟨⟨hW0, hW1⟩, ⟨hH0, hH1⟩, ⟨hn0, hn1⟩, hpt⟩ := id hR
  obtain ⟨⟨hc1, hc2, hc3, hc4⟩, hcp, hct, hcv⟩ := id h0
  have hLK := h2.1
  refine mz_Cl.of hM ?_
  show mz_Wp shA none 31 (0, [some (.inr 1), some (.inl x), some (.inl y), none], [], σ) _
  refine wp_go 2 hM (fr' := (2, [some (.inr 1), some (.inl x), some (.inl y), some (.inl 0)], [], σ)) rfl ?_
  have loop2 : ∀ (fuel : Nat) (i : Int), (0 ≤ i) → (i ≤ (m.length : Int)) → (fstI i (fun i => fe v 1 x y (mg m i) ≤ 0) = -1) → (((m.length : Int) - i : Int) < fuel) → mz_Wp shA none 31 (2, [some (.inr 1), some (.inl x), some (.inl y), some (.inl i)], [], σ) (fun r σ' => r = some (b01 (fol v m x y)) ∧ σ' = σ) := by
    intro fuel
    induction fuel with
    | zero =>
      intro i hv2_0 hv2_1 hv2_2 hf2
      exfalso
      omega
    | succ fuel ih2 =>
      intro i hv2_0 hv2_1 hv2_2 hf2
      refine wp_go 3 hM (fr' := (7, [some (.inr 1), some (.inl x), some (.inl y), some (.inl i)], [.inl (σ 1 6), .inl i], σ)) rfl ?_
      refine wp_ic (tgt := 42) hM rfl (by decide) (by omega) (by omega) (fun c7 => ?_) (fun c7 => ?_)
      · replace c7 := cmp_ge_t c7
        refine wp_go 1 hM (fr' := (43, [some (.inr 1), some (.inl x), some (.inl y), some (.inl i)], [.inl 0], σ)) rfl ?_
        refine wp_ret hM rfl (rfl) ?_
        exact r_f (by unfold fol; rw [show (m.length : Int) = i from by omega, hv2_2]; omega)
      · replace c7 := cmp_ge_f c7
        have hli := LK_at h2 hv2_0 (show i < (m.length : Int) by omega)
        have hri := Lr_at h3 hv2_0 (show i < (m.length : Int) by omega)
        have hfe := fe_bd (x := x) (y := y) hR (q := 1) (by decide) hri h5
        unfold fe at hfe
        refine wp_go 7 hM (fr' := (21, [some (.inr 1), some (.inl x), some (.inl y), some (.inl i)], [.inl i, .inr 12, .inl y, .inl x, .inr 9], σ)) rfl ?_
        refine wp_al (n := 64) hM rfl (by decide) rfl (by omega) (by omega) ?_
        rw [hli.1]
        refine wp_go 3 hM (fr' := (27, [some (.inr 1), some (.inl x), some (.inl y), some (.inl i)], [.inl i, .inr 13, .inl ((mg m i).1), .inl y, .inl x, .inr 9], σ)) rfl ?_
        refine wp_al (n := 64) hM rfl (by decide) rfl (by omega) (by omega) ?_
        rw [hli.2]
        refine wp_calld (v := 0) (idx := 88) (j := 45) (N := mtX2_areaWith) (as := [.inr 9, .inl x, .inl y, .inl ((mg m i).1), .inl ((mg m i).2)]) (rest := []) hM rfl (Or.inl ⟨rfl, rfl⟩) rfl (sp_X2_areaWith_9_v v l σ x y ((mg m i).1) ((mg m i).2) (by first | assumption | omega) (by first | assumption | omega) (by first | assumption | omega) (by first | assumption | omega) (by first | assumption | omega) (by first | assumption | omega)) ?_
        show mz_Wp shA none 31 (31, [some (.inr 1), some (.inl x), some (.inl y), some (.inl i)], [.inl (ar (x) (y) (gx v 1 (((mg m i).1))) (gy v 1 (((mg m i).1))) (gx v 1 (((mg m i).2))) (gy v 1 (((mg m i).2))))], σ) _
        refine wp_if (tgt := 36) hM rfl (by decide) (by omega) (fun c31 => ?_) (fun c31 => ?_)
        · replace c31 := cmp_gt_t c31
          refine wp_go 2 hM (fr' := (2, [some (.inr 1), some (.inl x), some (.inl y), some (.inl (i + 1))], [], σ)) rfl ?_
          exact ih2 (i + 1) (by omega) (by omega) (by refine fstI_no hv2_0 hv2_2 ?_; unfold fe; omega) (by omega)
        · replace c31 := cmp_gt_f c31
          refine wp_go 1 hM (fr' := (35, [some (.inr 1), some (.inl x), some (.inl y), some (.inl i)], [.inl 1], σ)) rfl ?_
          refine wp_ret hM rfl (rfl) ?_
          exact r_t (by unfold fol; rw [fstI_yes (P := fun i => fe v 1 x y (mg m i) ≤ 0) (t := i) hv2_0 (by omega) hv2_2 (by unfold fe; omega)]; omega)
  exact loop2 66 0 (by omega) (by omega) (by rfl) (by omega)

set_option maxRecDepth 100000 in
set_option maxHeartbeats 4000000 in
theorem sp_X1_linkOf (v : mz_G) (l : List tr3) (σ : mz_G) (k : Int) (h0 : CA σ v l) (h1 : Bs v l) (h2 : mz_R k) : mz_Cl shA 33 [.inr 1, .inl k] σ (fun r σ' => r = none ∧ LK σ' (lkOf l k) ∧ Fl σ σ') := by
  have hM : mz_meth[33]? = some mtX1_linkOf := rfl
  obtain ⟨hR, hT, hLen⟩ := id h1
  obtain ⟨⟨hW0, hW1⟩, ⟨hH0, hH1⟩, ⟨hn0, hn1⟩, hpt⟩ := id hR
  obtain ⟨⟨hc1, hc2, hc3, hc4⟩, hcp, hct, hcv⟩ := id h0
  refine mz_Cl.of hM ?_
  show mz_Wp shA none 33 (0, [some (.inr 1), some (.inl k), none, none, none, none], [], σ) _
  refine wp_go 5 hM (fr' := (7, [some (.inr 1), some (.inl k), some (.inl 0), none, none, none], [], (mz_up σ 1 6 0))) rfl ?_
  have loop7 : ∀ (fuel : Nat) (t : Int) (σ1 : mz_G) (d7_3 d7_4 d7_5 : Option mz_V), (0 ≤ t) → (t ≤ (l.length : Int)) → (LK σ1 (flT (lk1 k) l t)) → (Fl σ σ1) → (((l.length : Int) - t : Int) < fuel) → mz_Wp shA none 33 (7, [some (.inr 1), some (.inl k), some (.inl t), d7_3, d7_4, d7_5], [], σ1) (fun r σ' => r = none ∧ LK σ' (lkOf l k) ∧ Fl σ σ') := by
    intro fuel
    induction fuel with
    | zero =>
      intro t σ1 d7_3 d7_4 d7_5 hv7_0 hv7_1 hv7_2 hv7_3 hf7
      exfalso
      omega
    | succ fuel ih7 =>
      intro t σ1 d7_3 d7_4 d7_5 hv7_0 hv7_1 hv7_2 hv7_3 hf7
      have hC1 := CA_Fl h0 hv7_3
      have hT1 : σ1 11 1 = (l.length : Int) := hC1.1.2.2.2
      have hle := flT_len (f := lk1 k) (l := l) (t := t) (c := 1) (fun x => lk1_le) hv7_0
      refine wp_go 4 hM (fr' := (15, [some (.inr 1), some (.inl k), some (.inl t), d7_3, d7_4, d7_5], [.inl (σ1 11 1), .inl t], σ1)) rfl ?_
      refine wp_ic (tgt := 98) hM rfl (by decide) (by omega) (by omega) (fun c15 => ?_) (fun c15 => ?_)
      · replace c15 := cmp_ge_t c15
        refine wp_retv hM rfl rfl ?_
        exact ⟨rfl, by rw [lkOf, ← flT_all (t := t) (by omega)]; exact hv7_2, hv7_3⟩
      · replace c15 := cmp_ge_f c15
        have ht := Rt_at hT hv7_0 (show t < (l.length : Int) by omega)
        have hs := flT_s (f := lk1 k) (l := l) hv7_0 (by omega)
        refine wp_go 3 hM (fr' := (23, [some (.inr 1), some (.inl k), some (.inl t), d7_3, d7_4, d7_5], [.inl t, .inr 11], σ1)) rfl ?_
        refine wp_calld (v := 0) (idx := 74) (j := 54) (N := mtX4_first) (as := [.inr 11, .inl t]) (rest := []) hM rfl (Or.inl ⟨rfl, rfl⟩) rfl (sp_X4_first_v v l σ1 t (by first | assumption | omega) (by first | assumption | omega) (by first | assumption | omega) (by first | assumption | omega)) ?_
        show mz_Wp shA none 33 (26, [some (.inr 1), some (.inl k), some (.inl t), d7_3, d7_4, d7_5], [.inl ((tg l t).1)], σ1) _
        refine wp_go 4 hM (fr' := (32, [some (.inr 1), some (.inl k), some (.inl t), some (.inl ((tg l t).1)), d7_4, d7_5], [.inl t, .inr 11], σ1)) rfl ?_
        refine wp_calld (v := 0) (idx := 78) (j := 55) (N := mtX4_second) (as := [.inr 11, .inl t]) (rest := []) hM rfl (Or.inl ⟨rfl, rfl⟩) rfl (sp_X4_second_v v l σ1 t (by first | assumption | omega) (by first | assumption | omega) (by first | assumption | omega) (by first | assumption | omega)) ?_
        show mz_Wp shA none 33 (35, [some (.inr 1), some (.inl k), some (.inl t), some (.inl ((tg l t).1)), d7_4, d7_5], [.inl ((tg l t).2.1)], σ1) _
        refine wp_go 4 hM (fr' := (42, [some (.inr 1), some (.inl k), some (.inl t), some (.inl ((tg l t).1)), some (.inl ((tg l t).2.1)), d7_5], [.inl t, .inr 11], σ1)) rfl ?_
        refine wp_calld (v := 0) (idx := 81) (j := 56) (N := mtX4_third) (as := [.inr 11, .inl t]) (rest := []) hM rfl (Or.inl ⟨rfl, rfl⟩) rfl (sp_X4_third_v v l σ1 t (by first | assumption | omega) (by first | assumption | omega) (by first | assumption | omega) (by first | assumption | omega)) ?_
        show mz_Wp shA none 33 (45, [some (.inr 1), some (.inl k), some (.inl t), some (.inl ((tg l t).1)), some (.inl ((tg l t).2.1)), d7_5], [.inl ((tg l t).2.2)], σ1) _
        refine wp_go 3 hM (fr' := (49, [some (.inr 1), some (.inl k), some (.inl t), some (.inl ((tg l t).1)), some (.inl ((tg l t).2.1)), some (.inl ((tg l t).2.2))], [.inl k, .inl ((tg l t).1)], σ1)) rfl ?_
        refine wp_ic (tgt := 63) hM rfl (by decide) (by omega) (by omega) (fun c49 => ?_) (fun c49 => ?_)
        · replace c49 := cmp_ne_t c49
          refine wp_go 2 hM (fr' := (66, [some (.inr 1), some (.inl k), some (.inl t), some (.inl ((tg l t).1)), some (.inl ((tg l t).2.1)), some (.inl ((tg l t).2.2))], [.inl k, .inl ((tg l t).2.1)], σ1)) rfl ?_
          refine wp_ic (tgt := 79) hM rfl (by decide) (by omega) (by omega) (fun c66 => ?_) (fun c66 => ?_)
          · replace c66 := cmp_ne_t c66
            refine wp_go 2 hM (fr' := (82, [some (.inr 1), some (.inl k), some (.inl t), some (.inl ((tg l t).1)), some (.inl ((tg l t).2.1)), some (.inl ((tg l t).2.2))], [.inl k, .inl ((tg l t).2.2)], σ1)) rfl ?_
            refine wp_ic (tgt := 92) hM rfl (by decide) (by omega) (by omega) (fun c82 => ?_) (fun c82 => ?_)
            · replace c82 := cmp_ne_t c82
              refine wp_go 2 hM (fr' := (7, [some (.inr 1), some (.inl k), some (.inl (t + 1)), some (.inl ((tg l t).1)), some (.inl ((tg l t).2.1)), some (.inl ((tg l t).2.2))], [], σ1)) rfl ?_
              exact ih7 (t + 1) σ1 (some (.inl ((tg l t).1))) (some (.inl ((tg l t).2.1))) (some (.inl ((tg l t).2.2))) (by omega) (by omega) (by rw [hs]; unfold lk1; first | (rw [if_pos c49]; exact hk_57) | (rw [if_neg c49, if_pos c66]; exact hk_73) | (rw [if_neg c49, if_neg c66, if_pos c82]; exact hk_89) | (rw [if_neg c49, if_neg c66, if_neg c82, List.append_nil]; exact hv7_2)) (by first | exact hv7_3.tr hf_57 | exact hv7_3.tr hf_73 | exact hv7_3.tr hf_89 | exact hv7_3) (by omega)
            · replace c82 := cmp_ne_f c82
              refine wp_go 3 hM (fr' := (89, [some (.inr 1), some (.inl k), some (.inl t), some (.inl ((tg l t).1)), some (.inl ((tg l t).2.1)), some (.inl ((tg l t).2.2))], [.inl ((tg l t).2.1), .inl ((tg l t).1), .inr 1], σ1)) rfl ?_
              refine wp_call (v := 0) (idx := 136) (j := 30) (N := mtX1_link) (as := [.inr 1, .inl ((tg l t).1), .inl ((tg l t).2.1)]) (rest := []) hM rfl (Or.inl ⟨rfl, rfl⟩) rfl (sp_X1_link (flT (lk1 k) l t) σ1 ((tg l t).1) ((tg l t).2.1) (by first | assumption | omega) (by first | assumption | omega)) ?_
              rintro r0 σ_89 ⟨rfl, hk_89, hf_89⟩
              show mz_Wp shA none 33 (92, [some (.inr 1), some (.inl k), some (.inl t), some (.inl ((tg l t).1)), some (.inl ((tg l t).2.1)), some (.inl ((tg l t).2.2))], [], σ_89) _
              refine wp_go 2 hM (fr' := (7, [some (.inr 1), some (.inl k), some (.inl (t + 1)), some (.inl ((tg l t).1)), some (.inl ((tg l t).2.1)), some (.inl ((tg l t).2.2))], [], σ_89)) rfl ?_
              exact ih7 (t + 1) σ_89 (some (.inl ((tg l t).1))) (some (.inl ((tg l t).2.1))) (some (.inl ((tg l t).2.2))) (by omega) (by omega) (by rw [hs]; unfold lk1; first | (rw [if_pos c49]; exact hk_57) | (rw [if_neg c49, if_pos c66]; exact hk_73) | (rw [if_neg c49, if_neg c66, if_pos c82]; exact hk_89) | (rw [if_neg c49, if_neg c66, if_neg c82, List.append_nil]; exact hv7_2)) (by first | exact hv7_3.tr hf_57 | exact hv7_3.tr hf_73 | exact hv7_3.tr hf_89 | exact hv7_3) (by omega)
          · replace c66 := cmp_ne_f c66
            refine wp_go 3 hM (fr' := (73, [some (.inr 1), some (.inl k), some (.inl t), some (.inl ((tg l t).1)), some (.inl ((tg l t).2.1)), some (.inl ((tg l t).2.2))], [.inl ((tg l t).1), .inl ((tg l t).2.2), .inr 1], σ1)) rfl ?_
            refine wp_call (v := 0) (idx := 136) (j := 30) (N := mtX1_link) (as := [.inr 1, .inl ((tg l t).2.2), .inl ((tg l t).1)]) (rest := []) hM rfl (Or.inl ⟨rfl, rfl⟩) rfl (sp_X1_link (flT (lk1 k) l t) σ1 ((tg l t).2.2) ((tg l t).1) (by first | assumption | omega) (by first | assumption | omega)) ?_
            rintro r0 σ_73 ⟨rfl, hk_73, hf_73⟩
            show mz_Wp shA none 33 (76, [some (.inr 1), some (.inl k), some (.inl t), some (.inl ((tg l t).1)), some (.inl ((tg l t).2.1)), some (.inl ((tg l t).2.2))], [], σ_73) _
            refine wp_go 3 hM (fr' := (7, [some (.inr 1), some (.inl k), some (.inl (t + 1)), some (.inl ((tg l t).1)), some (.inl ((tg l t).2.1)), some (.inl ((tg l t).2.2))], [], σ_73)) rfl ?_
            exact ih7 (t + 1) σ_73 (some (.inl ((tg l t).1))) (some (.inl ((tg l t).2.1))) (some (.inl ((tg l t).2.2))) (by omega) (by omega) (by rw [hs]; unfold lk1; first | (rw [if_pos c49]; exact hk_57) | (rw [if_neg c49, if_pos c66]; exact hk_73) | (rw [if_neg c49, if_neg c66, if_pos c82]; exact hk_89) | (rw [if_neg c49, if_neg c66, if_neg c82, List.append_nil]; exact hv7_2)) (by first | exact hv7_3.tr hf_57 | exact hv7_3.tr hf_73 | exact hv7_3.tr hf_89 | exact hv7_3) (by omega)
        · replace c49 := cmp_ne_f c49
          refine wp_go 3 hM (fr' := (57, [some (.inr 1), some (.inl k), some (.inl t), some (.inl ((tg l t).1)), some (.inl ((tg l t).2.1)), some (.inl ((tg l t).2.2))], [.inl ((tg l t).2.2), .inl ((tg l t).2.1), .inr 1], σ1)) rfl ?_
          refine wp_call (v := 0) (idx := 136) (j := 30) (N := mtX1_link) (as := [.inr 1, .inl ((tg l t).2.1), .inl ((tg l t).2.2)]) (rest := []) hM rfl (Or.inl ⟨rfl, rfl⟩) rfl (sp_X1_link (flT (lk1 k) l t) σ1 ((tg l t).2.1) ((tg l t).2.2) (by first | assumption | omega) (by first | assumption | omega)) ?_
          rintro r0 σ_57 ⟨rfl, hk_57, hf_57⟩
          show mz_Wp shA none 33 (60, [some (.inr 1), some (.inl k), some (.inl t), some (.inl ((tg l t).1)), some (.inl ((tg l t).2.1)), some (.inl ((tg l t).2.2))], [], σ_57) _
          refine wp_go 3 hM (fr' := (7, [some (.inr 1), some (.inl k), some (.inl (t + 1)), some (.inl ((tg l t).1)), some (.inl ((tg l t).2.1)), some (.inl ((tg l t).2.2))], [], σ_57)) rfl ?_
          exact ih7 (t + 1) σ_57 (some (.inl ((tg l t).1))) (some (.inl ((tg l t).2.1))) (some (.inl ((tg l t).2.2))) (by omega) (by omega) (by rw [hs]; unfold lk1; first | (rw [if_pos c49]; exact hk_57) | (rw [if_neg c49, if_pos c66]; exact hk_73) | (rw [if_neg c49, if_neg c66, if_pos c82]; exact hk_89) | (rw [if_neg c49, if_neg c66, if_neg c82, List.append_nil]; exact hv7_2)) (by first | exact hv7_3.tr hf_57 | exact hv7_3.tr hf_73 | exact hv7_3.tr hf_89 | exact hv7_3) (by omega)
  exact loop7 65 0 (mz_up σ 1 6 0) (none) (none) (none) (by omega) (by omega) (by rw [flT_0]; exact LK_nil) (by exact Fl_16) (by omega)

set_option maxRecDepth 100000 in
set_option maxHeartbeats 4000000 in
theorem sp_X1_reasonByLink (v : mz_G) (l : List tr3) (m : List (Int × Int)) (σ : mz_G) (k : Int) (x : Int) (y : Int) (h0 : CA σ v l) (h1 : Bs v l) (h2 : LK σ m) (h3 : Lr v m) (h4 : (m.length : Int) ≤ 64) (h5 : 0 ≤ k) (h6 : k < v 0 2) (h7 : mz_R x) (h8 : mz_R y) : mz_Cl shA 34 [.inr 1, .inl k, .inl x, .inl y] σ (fun r σ' => r = some (rbl v m k x y) ∧ σ' = σ) := by
  have hM : mz_meth[34]? = some mtX1_reasonByLink := rfl
  obtain ⟨hR, hT, hLen⟩ := id h1
  obtain ⟨⟨hW0, hW1⟩, ⟨hH0, hH1⟩, ⟨hn0, hn1⟩, hpt⟩ := id hR
  obtain ⟨⟨hc1, hc2, hc3, hc4⟩, hcp, hct, hcv⟩ := id h0
  have hLK := h2.1
  have hk := CA_pt h0 h5 h6
  have hr := Rg_pt hR h5 h6
  refine mz_Cl.of hM ?_
  show mz_Wp shA none 34 (0, [some (.inr 1), some (.inl k), some (.inl x), some (.inl y)], [], σ) _
  refine wp_go 3 hM (fr' := (3, [some (.inr 1), some (.inl k), some (.inl x), some (.inl y)], [.inl y, .inl x, .inr 1], σ)) rfl ?_
  refine wp_calld (v := 0) (idx := 111) (j := 9) (N := mtX1_isDot) (as := [.inr 1, .inl x, .inl y]) (rest := []) hM rfl (Or.inl ⟨rfl, rfl⟩) rfl (sp_X1_isDot v l σ x y (by first | assumption | omega) (by first | assumption | omega) (by first | assumption | omega) (by first | assumption | omega)) ?_
  show mz_Wp shA none 34 (6, [some (.inr 1), some (.inl k), some (.inl x), some (.inl y)], [.inl (b01 (dot v x y))], σ) _
  refine wp_if (tgt := 11) hM rfl (by decide) b01_R (fun c6 => ?_) (fun c6 => ?_)
  · replace c6 := b01_ne0 (cmp_ne_t c6)
    refine wp_go 5 hM (fr' := (18, [some (.inr 1), some (.inl k), some (.inl x), some (.inl y)], [.inl y, .inl x, .inl k, .inr 9], σ)) rfl ?_
    refine wp_calld (v := 0) (idx := 103) (j := 43) (N := mtX2_isAt) (as := [.inr 9, .inl k, .inl x, .inl y]) (rest := []) hM rfl (Or.inl ⟨rfl, rfl⟩) rfl (sp_X2_isAt_9_v v l σ k x y (by first | assumption | omega) (by first | assumption | omega) (by first | assumption | omega) (by first | assumption | omega) (by first | assumption | omega) (by first | assumption | omega)) ?_
    show mz_Wp shA none 34 (21, [some (.inr 1), some (.inl k), some (.inl x), some (.inl y)], [.inl (b01 (gx v 1 k = x ∧ gy v 1 k = y))], σ) _
    refine wp_if (tgt := 26) hM rfl (by decide) b01_R (fun c21 => ?_) (fun c21 => ?_)
    · replace c21 := b01_eq0 (cmp_eq_t c21)
      refine wp_go 2 hM (fr' := (28, [some (.inr 1), some (.inl k), some (.inl x), some (.inl y)], [.inl 4, .inl k], σ)) rfl ?_
      refine wp_ic (tgt := 58) hM rfl (by decide) (by omega) (by omega) (fun c28 => ?_) (fun c28 => ?_)
      · replace c28 := cmp_lt_t c28
        refine wp_go 1 hM (fr' := (59, [some (.inr 1), some (.inl k), some (.inl x), some (.inl y)], [.inl 3], σ)) rfl ?_
        refine wp_ret hM rfl (rfl) ?_
        exact ⟨by unfold rbl; repeat (first | rw [if_pos (by first | assumption | omega | exact Or.inl (by first | assumption | omega) | exact Or.inr (by first | assumption | omega))] | rw [if_neg (by first | assumption | omega | exact fun q => q (by assumption) | exact fun q => q.elim (fun q => by first | contradiction | omega | exact absurd (by assumption) q) (fun q => by first | contradiction | omega | exact absurd (by assumption) q))]), rfl⟩
      · replace c28 := cmp_lt_f c28
        refine wp_go 5 hM (fr' := (40, [some (.inr 1), some (.inl k), some (.inl x), some (.inl y)], [.inl k, .inr 16, .inr 1], σ)) rfl ?_
        refine wp_al (n := 32) hM rfl (by decide) rfl (by omega) (by omega) ?_
        rw [hk.1]
        refine wp_go 4 hM (fr' := (49, [some (.inr 1), some (.inl k), some (.inl x), some (.inl y)], [.inl k, .inr 17, .inl (gx v 0 k), .inr 1], σ)) rfl ?_
        refine wp_al (n := 32) hM rfl (by decide) rfl (by omega) (by omega) ?_
        rw [hk.2.1]
        refine wp_go 2 hM (fr' := (52, [some (.inr 1), some (.inl k), some (.inl x), some (.inl y)], [.inl y, .inl x, .inl (gy v 0 k), .inl (gx v 0 k), .inr 1], σ)) rfl ?_
        refine wp_calld (v := 0) (idx := 117) (j := 26) (N := mtX1_keepsSide) (as := [.inr 1, .inl (gx v 0 k), .inl (gy v 0 k), .inl x, .inl y]) (rest := []) hM rfl (Or.inl ⟨rfl, rfl⟩) rfl (sp_X1_keepsSide v l σ (gx v 0 k) (gy v 0 k) x y (by first | assumption | omega) (by first | assumption | omega) (by first | assumption | omega) (by first | assumption | omega) (by first | assumption | omega) (by first | assumption | omega)) ?_
        show mz_Wp shA none 34 (55, [some (.inr 1), some (.inl k), some (.inl x), some (.inl y)], [.inl (b01 (keeps v (gx v 0 k) (gy v 0 k) x y))], σ) _
        refine wp_if (tgt := 60) hM rfl (by decide) b01_R (fun c55 => ?_) (fun c55 => ?_)
        · replace c55 := b01_ne0 (cmp_ne_t c55)
          refine wp_go 3 hM (fr' := (63, [some (.inr 1), some (.inl k), some (.inl x), some (.inl y)], [.inl y, .inl x, .inr 1], σ)) rfl ?_
          refine wp_calld (v := 0) (idx := 125) (j := 31) (N := mtX1_foldsAt) (as := [.inr 1, .inl x, .inl y]) (rest := []) hM rfl (Or.inl ⟨rfl, rfl⟩) rfl (sp_X1_foldsAt v l m σ x y (by first | assumption | omega) (by first | assumption | omega) (by first | assumption | omega) (by first | assumption | omega) (by first | assumption | omega) (by first | assumption | omega)) ?_
          show mz_Wp shA none 34 (66, [some (.inr 1), some (.inl k), some (.inl x), some (.inl y)], [.inl (b01 (fol v m x y))], σ) _
          refine wp_if (tgt := 73) hM rfl (by decide) b01_R (fun c66 => ?_) (fun c66 => ?_)
          · replace c66 := b01_eq0 (cmp_eq_t c66)
            refine wp_go 1 hM (fr' := (74, [some (.inr 1), some (.inl k), some (.inl x), some (.inl y)], [.inl 0], σ)) rfl ?_
            refine wp_ret hM rfl (rfl) ?_
            exact ⟨by unfold rbl; repeat (first | rw [if_pos (by first | assumption | omega | exact Or.inl (by first | assumption | omega) | exact Or.inr (by first | assumption | omega))] | rw [if_neg (by first | assumption | omega | exact fun q => q (by assumption) | exact fun q => q.elim (fun q => by first | contradiction | omega | exact absurd (by assumption) q) (fun q => by first | contradiction | omega | exact absurd (by assumption) q))]), rfl⟩
          · replace c66 := b01_ne0 (cmp_eq_f c66)
            refine wp_go 2 hM (fr' := (74, [some (.inr 1), some (.inl k), some (.inl x), some (.inl y)], [.inl 4], σ)) rfl ?_
            refine wp_ret hM rfl (rfl) ?_
            exact ⟨by unfold rbl; repeat (first | rw [if_pos (by first | assumption | omega | exact Or.inl (by first | assumption | omega) | exact Or.inr (by first | assumption | omega))] | rw [if_neg (by first | assumption | omega | exact fun q => q (by assumption) | exact fun q => q.elim (fun q => by first | contradiction | omega | exact absurd (by assumption) q) (fun q => by first | contradiction | omega | exact absurd (by assumption) q))]), rfl⟩
        · replace c55 := b01_eq0 (cmp_ne_f c55)
          refine wp_go 1 hM (fr' := (59, [some (.inr 1), some (.inl k), some (.inl x), some (.inl y)], [.inl 3], σ)) rfl ?_
          refine wp_ret hM rfl (rfl) ?_
          exact ⟨by unfold rbl; repeat (first | rw [if_pos (by first | assumption | omega | exact Or.inl (by first | assumption | omega) | exact Or.inr (by first | assumption | omega))] | rw [if_neg (by first | assumption | omega | exact fun q => q (by assumption) | exact fun q => q.elim (fun q => by first | contradiction | omega | exact absurd (by assumption) q) (fun q => by first | contradiction | omega | exact absurd (by assumption) q))]), rfl⟩
    · replace c21 := b01_ne0 (cmp_eq_f c21)
      refine wp_go 1 hM (fr' := (25, [some (.inr 1), some (.inl k), some (.inl x), some (.inl y)], [.inl 2], σ)) rfl ?_
      refine wp_ret hM rfl (rfl) ?_
      exact ⟨by unfold rbl; repeat (first | rw [if_pos (by first | assumption | omega | exact Or.inl (by first | assumption | omega) | exact Or.inr (by first | assumption | omega))] | rw [if_neg (by first | assumption | omega | exact fun q => q (by assumption) | exact fun q => q.elim (fun q => by first | contradiction | omega | exact absurd (by assumption) q) (fun q => by first | contradiction | omega | exact absurd (by assumption) q))]), rfl⟩
  · replace c6 := b01_eq0 (cmp_ne_f c6)
    refine wp_go 1 hM (fr' := (10, [some (.inr 1), some (.inl k), some (.inl x), some (.inl y)], [.inl 1], σ)) rfl ?_
    refine wp_ret hM rfl (rfl) ?_
    exact ⟨by unfold rbl; repeat (first | rw [if_pos (by first | assumption | omega | exact Or.inl (by first | assumption | omega) | exact Or.inr (by first | assumption | omega))] | rw [if_neg (by first | assumption | omega | exact fun q => q (by assumption) | exact fun q => q.elim (fun q => by first | contradiction | omega | exact absurd (by assumption) q) (fun q => by first | contradiction | omega | exact absurd (by assumption) q))]), rfl⟩

set_option maxRecDepth 100000 in
set_option maxHeartbeats 4000000 in
theorem sp_X1_reasonToMove (v : mz_G) (l : List tr3) (σ : mz_G) (k : Int) (x : Int) (y : Int) (h0 : CA σ v l) (h1 : Bs v l) (h2 : mz_R k) (h3 : mz_R x) (h4 : mz_R y) : mz_Cl shA 32 [.inr 1, .inl k, .inl x, .inl y] σ (fun r σ' => r = some (rtm v l k x y) ∧ Fl σ σ') := by
  have hM : mz_meth[32]? = some mtX1_reasonToMove := rfl
  obtain ⟨hR, hT, hLen⟩ := id h1
  obtain ⟨⟨hW0, hW1⟩, ⟨hH0, hH1⟩, ⟨hn0, hn1⟩, hpt⟩ := id hR
  obtain ⟨⟨hc1, hc2, hc3, hc4⟩, hcp, hct, hcv⟩ := id h0
  refine mz_Cl.of hM ?_
  show mz_Wp shA none 32 (0, [some (.inr 1), some (.inl k), some (.inl x), some (.inl y)], [], σ) _
  refine wp_go 2 hM (fr' := (2, [some (.inr 1), some (.inl k), some (.inl x), some (.inl y)], [.inl k, .inr 1], σ)) rfl ?_
  refine wp_calld (v := 0) (idx := 139) (j := 12) (N := mtX1_isKnot) (as := [.inr 1, .inl k]) (rest := []) hM rfl (Or.inl ⟨rfl, rfl⟩) rfl (sp_X1_isKnot v l σ k (by first | assumption | omega) (by first | assumption | omega) (by first | assumption | omega)) ?_
  show mz_Wp shA none 32 (5, [some (.inr 1), some (.inl k), some (.inl x), some (.inl y)], [.inl (b01 (isk v k))], σ) _
  refine wp_if (tgt := 10) hM rfl (by decide) b01_R (fun c5 => ?_) (fun c5 => ?_)
  · replace c5 := b01_ne0 (cmp_ne_t c5)
    unfold isk at c5
    refine wp_go 2 hM (fr' := (12, [some (.inr 1), some (.inl k), some (.inl x), some (.inl y)], [.inl k, .inr 1], σ)) rfl ?_
    refine wp_call (v := 0) (idx := 143) (j := 33) (N := mtX1_linkOf) (as := [.inr 1, .inl k]) (rest := []) hM rfl (Or.inl ⟨rfl, rfl⟩) rfl (sp_X1_linkOf v l σ k (by first | assumption | omega) (by first | assumption | omega) (by first | assumption | omega)) ?_
    rintro r0 σ_12 ⟨rfl, hk_12, hf_12⟩
    show mz_Wp shA none 32 (15, [some (.inr 1), some (.inl k), some (.inl x), some (.inl y)], [], σ_12) _
    have hC_12 := CA_Fl h0 hf_12
    have hLr := Lr_lk (k := k) hT
    have hlen := flT_len (f := lk1 k) (l := l) (t := (l.length : Int)) (c := 1) (fun x => lk1_le) (by omega)
    rw [flT_all rfl] at hlen
    have hlen2 : ((lkOf l k).length : Int) ≤ 64 := by unfold lkOf; omega
    refine wp_go 4 hM (fr' := (19, [some (.inr 1), some (.inl k), some (.inl x), some (.inl y)], [.inl y, .inl x, .inl k, .inr 1], σ_12)) rfl ?_
    refine wp_calld (v := 0) (idx := 146) (j := 34) (N := mtX1_reasonByLink) (as := [.inr 1, .inl k, .inl x, .inl y]) (rest := []) hM rfl (Or.inl ⟨rfl, rfl⟩) rfl (sp_X1_reasonByLink v l (lkOf l k) σ_12 k x y (by first | assumption | omega) (by first | assumption | omega) (by first | assumption | omega) (by first | assumption | omega) (by first | assumption | omega) (by first | assumption | omega) (by first | assumption | omega) (by first | assumption | omega) (by first | assumption | omega)) ?_
    show mz_Wp shA none 32 (22, [some (.inr 1), some (.inl k), some (.inl x), some (.inl y)], [.inl (rbl v (lkOf l k) k x y)], σ_12) _
    refine wp_ret hM rfl (rfl) ?_
    exact ⟨by unfold rtm; rw [if_neg (by unfold isk; omega)], hf_12⟩
  · replace c5 := b01_eq0 (cmp_ne_f c5)
    refine wp_go 1 hM (fr' := (9, [some (.inr 1), some (.inl k), some (.inl x), some (.inl y)], [.inl 1], σ)) rfl ?_
    refine wp_ret hM rfl (rfl) ?_
    exact ⟨by unfold rtm; rw [if_pos c5], Fl.rf⟩

set_option maxRecDepth 100000 in
set_option maxHeartbeats 4000000 in
theorem sp_X1_isRoom (v : mz_G) (l : List tr3) (m : List (Int × Int)) (σ : mz_G) (k : Int) (x : Int) (y : Int) (h0 : CA σ v l) (h1 : Bs v l) (h2 : LK σ m) (h3 : Lr v m) (h4 : (m.length : Int) ≤ 64) (h5 : 0 ≤ k) (h6 : k < v 0 2) (h7 : mz_R x) (h8 : mz_R y) : mz_Cl shA 35 [.inr 1, .inl k, .inl x, .inl y] σ (fun r σ' => r = some (b01 (rbl v m k x y = 0 ∨ rbl v m k x y = 2)) ∧ σ' = σ) := by
  have hM : mz_meth[35]? = some mtX1_isRoom := rfl
  obtain ⟨hR, hT, hLen⟩ := id h1
  obtain ⟨⟨hW0, hW1⟩, ⟨hH0, hH1⟩, ⟨hn0, hn1⟩, hpt⟩ := id hR
  obtain ⟨⟨hc1, hc2, hc3, hc4⟩, hcp, hct, hcv⟩ := id h0
  have hLK := h2.1
  refine mz_Cl.of hM ?_
  show mz_Wp shA none 35 (0, [some (.inr 1), some (.inl k), some (.inl x), some (.inl y), none], [], σ) _
  refine wp_go 4 hM (fr' := (4, [some (.inr 1), some (.inl k), some (.inl x), some (.inl y), none], [.inl y, .inl x, .inl k, .inr 1], σ)) rfl ?_
  refine wp_calld (v := 0) (idx := 146) (j := 34) (N := mtX1_reasonByLink) (as := [.inr 1, .inl k, .inl x, .inl y]) (rest := []) hM rfl (Or.inl ⟨rfl, rfl⟩) rfl (sp_X1_reasonByLink v l m σ k x y (by first | assumption | omega) (by first | assumption | omega) (by first | assumption | omega) (by first | assumption | omega) (by first | assumption | omega) (by first | assumption | omega) (by first | assumption | omega) (by first | assumption | omega) (by first | assumption | omega)) ?_
  show mz_Wp shA none 35 (7, [some (.inr 1), some (.inl k), some (.inl x), some (.inl y), none], [.inl (rbl v m k x y)], σ) _
  have hrb := rbl_bd (v := v) (m := m) (k := k) (x := x) (y := y)
  refine wp_go 2 hM (fr' := (11, [some (.inr 1), some (.inl k), some (.inl x), some (.inl y), some (.inl (rbl v m k x y))], [.inl (rbl v m k x y)], σ)) rfl ?_
  refine wp_if (tgt := 20) hM rfl (by decide) (by omega) (fun c11 => ?_) (fun c11 => ?_)
  · replace c11 := cmp_eq_t c11
    refine wp_go 2 hM (fr' := (25, [some (.inr 1), some (.inl k), some (.inl x), some (.inl y), some (.inl (rbl v m k x y))], [.inl 1], σ)) rfl ?_
    refine wp_ret hM rfl (rfl) ?_
    first | exact r_t (by omega) | exact r_f (by omega)
  · replace c11 := cmp_eq_f c11
    refine wp_go 2 hM (fr' := (17, [some (.inr 1), some (.inl k), some (.inl x), some (.inl y), some (.inl (rbl v m k x y))], [.inl 2, .inl (rbl v m k x y)], σ)) rfl ?_
    refine wp_ic (tgt := 24) hM rfl (by decide) (by omega) (by omega) (fun c17 => ?_) (fun c17 => ?_)
    · replace c17 := cmp_ne_t c17
      refine wp_go 1 hM (fr' := (25, [some (.inr 1), some (.inl k), some (.inl x), some (.inl y), some (.inl (rbl v m k x y))], [.inl 0], σ)) rfl ?_
      refine wp_ret hM rfl (rfl) ?_
      first | exact r_t (by omega) | exact r_f (by omega)
    · replace c17 := cmp_ne_f c17
      refine wp_go 2 hM (fr' := (25, [some (.inr 1), some (.inl k), some (.inl x), some (.inl y), some (.inl (rbl v m k x y))], [.inl 1], σ)) rfl ?_
      refine wp_ret hM rfl (rfl) ?_
      first | exact r_t (by omega) | exact r_f (by omega)

set_option maxRecDepth 100000 in
set_option maxHeartbeats 4000000 in
theorem sp_X4_apex (v : mz_G) (l : List tr3) (σ : mz_G) (a : Int) (b : Int) (h0 : CA σ v l) (h1 : Bs v l) (h2 : mz_R a) (h3 : mz_R b) : mz_Cl shA 60 [.inr 11, .inl a, .inl b] σ (fun r σ' => r = some (apx l a b) ∧ σ' = σ) := by
  have hM : mz_meth[60]? = some mtX4_apex := rfl
  obtain ⟨hR, hT, hLen⟩ := id h1
  obtain ⟨⟨hW0, hW1⟩, ⟨hH0, hH1⟩, ⟨hn0, hn1⟩, hpt⟩ := id hR
  obtain ⟨⟨hc1, hc2, hc3, hc4⟩, hcp, hct, hcv⟩ := id h0
  refine mz_Cl.of hM ?_
  show mz_Wp shA none 60 (0, [some (.inr 11), some (.inl a), some (.inl b), none, none, none, none], [], σ) _
  refine wp_go 2 hM (fr' := (2, [some (.inr 11), some (.inl a), some (.inl b), some (.inl 0), none, none, none], [], σ)) rfl ?_
  have loop2 : ∀ (fuel : Nat) (t : Int) (d2_4 d2_5 d2_6 : Option mz_V), (0 ≤ t) → (t ≤ (l.length : Int)) → (fstI t (fun i => edg (tg l i) a b) = -1) → (((l.length : Int) - t : Int) < fuel) → mz_Wp shA none 60 (2, [some (.inr 11), some (.inl a), some (.inl b), some (.inl t), d2_4, d2_5, d2_6], [], σ) (fun r σ' => r = some (apx l a b) ∧ σ' = σ) := by
    intro fuel
    induction fuel with
    | zero =>
      intro t d2_4 d2_5 d2_6 hv2_0 hv2_1 hv2_2 hf2
      exfalso
      omega
    | succ fuel ih2 =>
      intro t d2_4 d2_5 d2_6 hv2_0 hv2_1 hv2_2 hf2
      refine wp_go 3 hM (fr' := (7, [some (.inr 11), some (.inl a), some (.inl b), some (.inl t), d2_4, d2_5, d2_6], [.inl (σ 11 1), .inl t], σ)) rfl ?_
      refine wp_ic (tgt := 82) hM rfl (by decide) (by omega) (by omega) (fun c7 => ?_) (fun c7 => ?_)
      · replace c7 := cmp_ge_t c7
        refine wp_go 1 hM (fr' := (83, [some (.inr 11), some (.inl a), some (.inl b), some (.inl t), d2_4, d2_5, d2_6], [.inl (-1)], σ)) rfl ?_
        refine wp_ret hM rfl (rfl) ?_
        exact ⟨by unfold apx sid; rw [show (l.length : Int) = t from by omega, hv2_2, if_pos rfl], rfl⟩
      · replace c7 := cmp_ge_f c7
        have ht := Rt_at hT hv2_0 (show t < (l.length : Int) by omega)
        refine wp_go 2 hM (fr' := (12, [some (.inr 11), some (.inl a), some (.inl b), some (.inl t), d2_4, d2_5, d2_6], [.inl t, .inr 11], σ)) rfl ?_
        refine wp_calld (v := 0) (idx := 19) (j := 54) (N := mtX4_first) (as := [.inr 11, .inl t]) (rest := []) hM rfl (Or.inl ⟨rfl, rfl⟩) rfl (sp_X4_first_v v l σ t (by first | assumption | omega) (by first | assumption | omega) (by first | assumption | omega) (by first | assumption | omega)) ?_
        show mz_Wp shA none 60 (15, [some (.inr 11), some (.inl a), some (.inl b), some (.inl t), d2_4, d2_5, d2_6], [.inl ((tg l t).1)], σ) _
        refine wp_go 3 hM (fr' := (19, [some (.inr 11), some (.inl a), some (.inl b), some (.inl t), some (.inl ((tg l t).1)), d2_5, d2_6], [.inl t, .inr 11], σ)) rfl ?_
        refine wp_calld (v := 0) (idx := 23) (j := 55) (N := mtX4_second) (as := [.inr 11, .inl t]) (rest := []) hM rfl (Or.inl ⟨rfl, rfl⟩) rfl (sp_X4_second_v v l σ t (by first | assumption | omega) (by first | assumption | omega) (by first | assumption | omega) (by first | assumption | omega)) ?_
        show mz_Wp shA none 60 (22, [some (.inr 11), some (.inl a), some (.inl b), some (.inl t), some (.inl ((tg l t).1)), d2_5, d2_6], [.inl ((tg l t).2.1)], σ) _
        refine wp_go 3 hM (fr' := (26, [some (.inr 11), some (.inl a), some (.inl b), some (.inl t), some (.inl ((tg l t).1)), some (.inl ((tg l t).2.1)), d2_6], [.inl t, .inr 11], σ)) rfl ?_
        refine wp_calld (v := 0) (idx := 26) (j := 56) (N := mtX4_third) (as := [.inr 11, .inl t]) (rest := []) hM rfl (Or.inl ⟨rfl, rfl⟩) rfl (sp_X4_third_v v l σ t (by first | assumption | omega) (by first | assumption | omega) (by first | assumption | omega) (by first | assumption | omega)) ?_
        show mz_Wp shA none 60 (29, [some (.inr 11), some (.inl a), some (.inl b), some (.inl t), some (.inl ((tg l t).1)), some (.inl ((tg l t).2.1)), d2_6], [.inl ((tg l t).2.2)], σ) _
        refine wp_go 3 hM (fr' := (34, [some (.inr 11), some (.inl a), some (.inl b), some (.inl t), some (.inl ((tg l t).1)), some (.inl ((tg l t).2.1)), some (.inl ((tg l t).2.2))], [.inl a, .inl ((tg l t).1)], σ)) rfl ?_
        refine wp_ic (tgt := 46) hM rfl (by decide) (by omega) (by omega) (fun c34 => ?_) (fun c34 => ?_)
        · replace c34 := cmp_ne_t c34
          refine wp_go 2 hM (fr' := (49, [some (.inr 11), some (.inl a), some (.inl b), some (.inl t), some (.inl ((tg l t).1)), some (.inl ((tg l t).2.1)), some (.inl ((tg l t).2.2))], [.inl a, .inl ((tg l t).2.1)], σ)) rfl ?_
          refine wp_ic (tgt := 61) hM rfl (by decide) (by omega) (by omega) (fun c49 => ?_) (fun c49 => ?_)
          · replace c49 := cmp_ne_t c49
            refine wp_go 2 hM (fr' := (64, [some (.inr 11), some (.inl a), some (.inl b), some (.inl t), some (.inl ((tg l t).1)), some (.inl ((tg l t).2.1)), some (.inl ((tg l t).2.2))], [.inl a, .inl ((tg l t).2.2)], σ)) rfl ?_
            refine wp_ic (tgt := 76) hM rfl (by decide) (by omega) (by omega) (fun c64 => ?_) (fun c64 => ?_)
            · replace c64 := cmp_ne_t c64
              refine wp_go 2 hM (fr' := (2, [some (.inr 11), some (.inl a), some (.inl b), some (.inl (t + 1)), some (.inl ((tg l t).1)), some (.inl ((tg l t).2.1)), some (.inl ((tg l t).2.2))], [], σ)) rfl ?_
              exact ih2 (t + 1) (some (.inl ((tg l t).1))) (some (.inl ((tg l t).2.1))) (some (.inl ((tg l t).2.2))) (by omega) (by omega) (by refine fstI_no hv2_0 hv2_2 ?_; unfold edg; omega) (by omega)
            · replace c64 := cmp_ne_f c64
              refine wp_go 2 hM (fr' := (70, [some (.inr 11), some (.inl a), some (.inl b), some (.inl t), some (.inl ((tg l t).1)), some (.inl ((tg l t).2.1)), some (.inl ((tg l t).2.2))], [.inl b, .inl ((tg l t).1)], σ)) rfl ?_
              refine wp_ic (tgt := 76) hM rfl (by decide) (by omega) (by omega) (fun c70 => ?_) (fun c70 => ?_)
              · replace c70 := cmp_ne_t c70
                refine wp_go 2 hM (fr' := (2, [some (.inr 11), some (.inl a), some (.inl b), some (.inl (t + 1)), some (.inl ((tg l t).1)), some (.inl ((tg l t).2.1)), some (.inl ((tg l t).2.2))], [], σ)) rfl ?_
                exact ih2 (t + 1) (some (.inl ((tg l t).1))) (some (.inl ((tg l t).2.1))) (some (.inl ((tg l t).2.2))) (by omega) (by omega) (by refine fstI_no hv2_0 hv2_2 ?_; unfold edg; omega) (by omega)
              · replace c70 := cmp_ne_f c70
                refine wp_go 1 hM (fr' := (75, [some (.inr 11), some (.inl a), some (.inl b), some (.inl t), some (.inl ((tg l t).1)), some (.inl ((tg l t).2.1)), some (.inl ((tg l t).2.2))], [.inl ((tg l t).2.1)], σ)) rfl ?_
                refine wp_ret hM rfl (rfl) ?_
                first | (exfalso; omega) | exact ⟨by unfold apx sid; rw [fstI_yes (P := fun i => edg (tg l i) a b) (t := t) hv2_0 (by omega) hv2_2 (by unfold edg; omega), if_neg (by omega)]; unfold opp; first | rw [if_pos (by omega)] | rw [if_neg (by omega), if_pos (by omega)] | rw [if_neg (by omega), if_neg (by omega)], rfl⟩
          · replace c49 := cmp_ne_f c49
            refine wp_go 2 hM (fr' := (55, [some (.inr 11), some (.inl a), some (.inl b), some (.inl t), some (.inl ((tg l t).1)), some (.inl ((tg l t).2.1)), some (.inl ((tg l t).2.2))], [.inl b, .inl ((tg l t).2.2)], σ)) rfl ?_
            refine wp_ic (tgt := 61) hM rfl (by decide) (by omega) (by omega) (fun c55 => ?_) (fun c55 => ?_)
            · replace c55 := cmp_ne_t c55
              refine wp_go 2 hM (fr' := (64, [some (.inr 11), some (.inl a), some (.inl b), some (.inl t), some (.inl ((tg l t).1)), some (.inl ((tg l t).2.1)), some (.inl ((tg l t).2.2))], [.inl a, .inl ((tg l t).2.2)], σ)) rfl ?_
              refine wp_ic (tgt := 76) hM rfl (by decide) (by omega) (by omega) (fun c64 => ?_) (fun c64 => ?_)
              · replace c64 := cmp_ne_t c64
                refine wp_go 2 hM (fr' := (2, [some (.inr 11), some (.inl a), some (.inl b), some (.inl (t + 1)), some (.inl ((tg l t).1)), some (.inl ((tg l t).2.1)), some (.inl ((tg l t).2.2))], [], σ)) rfl ?_
                exact ih2 (t + 1) (some (.inl ((tg l t).1))) (some (.inl ((tg l t).2.1))) (some (.inl ((tg l t).2.2))) (by omega) (by omega) (by refine fstI_no hv2_0 hv2_2 ?_; unfold edg; omega) (by omega)
              · replace c64 := cmp_ne_f c64
                refine wp_go 2 hM (fr' := (70, [some (.inr 11), some (.inl a), some (.inl b), some (.inl t), some (.inl ((tg l t).1)), some (.inl ((tg l t).2.1)), some (.inl ((tg l t).2.2))], [.inl b, .inl ((tg l t).1)], σ)) rfl ?_
                refine wp_ic (tgt := 76) hM rfl (by decide) (by omega) (by omega) (fun c70 => ?_) (fun c70 => ?_)
                · replace c70 := cmp_ne_t c70
                  refine wp_go 2 hM (fr' := (2, [some (.inr 11), some (.inl a), some (.inl b), some (.inl (t + 1)), some (.inl ((tg l t).1)), some (.inl ((tg l t).2.1)), some (.inl ((tg l t).2.2))], [], σ)) rfl ?_
                  exact ih2 (t + 1) (some (.inl ((tg l t).1))) (some (.inl ((tg l t).2.1))) (some (.inl ((tg l t).2.2))) (by omega) (by omega) (by refine fstI_no hv2_0 hv2_2 ?_; unfold edg; omega) (by omega)
                · replace c70 := cmp_ne_f c70
                  refine wp_go 1 hM (fr' := (75, [some (.inr 11), some (.inl a), some (.inl b), some (.inl t), some (.inl ((tg l t).1)), some (.inl ((tg l t).2.1)), some (.inl ((tg l t).2.2))], [.inl ((tg l t).2.1)], σ)) rfl ?_
                  refine wp_ret hM rfl (rfl) ?_
                  first | (exfalso; omega) | exact ⟨by unfold apx sid; rw [fstI_yes (P := fun i => edg (tg l i) a b) (t := t) hv2_0 (by omega) hv2_2 (by unfold edg; omega), if_neg (by omega)]; unfold opp; first | rw [if_pos (by omega)] | rw [if_neg (by omega), if_pos (by omega)] | rw [if_neg (by omega), if_neg (by omega)], rfl⟩
            · replace c55 := cmp_ne_f c55
              refine wp_go 1 hM (fr' := (60, [some (.inr 11), some (.inl a), some (.inl b), some (.inl t), some (.inl ((tg l t).1)), some (.inl ((tg l t).2.1)), some (.inl ((tg l t).2.2))], [.inl ((tg l t).1)], σ)) rfl ?_
              refine wp_ret hM rfl (rfl) ?_
              first | (exfalso; omega) | exact ⟨by unfold apx sid; rw [fstI_yes (P := fun i => edg (tg l i) a b) (t := t) hv2_0 (by omega) hv2_2 (by unfold edg; omega), if_neg (by omega)]; unfold opp; first | rw [if_pos (by omega)] | rw [if_neg (by omega), if_pos (by omega)] | rw [if_neg (by omega), if_neg (by omega)], rfl⟩
        · replace c34 := cmp_ne_f c34
          refine wp_go 2 hM (fr' := (40, [some (.inr 11), some (.inl a), some (.inl b), some (.inl t), some (.inl ((tg l t).1)), some (.inl ((tg l t).2.1)), some (.inl ((tg l t).2.2))], [.inl b, .inl ((tg l t).2.1)], σ)) rfl ?_
          refine wp_ic (tgt := 46) hM rfl (by decide) (by omega) (by omega) (fun c40 => ?_) (fun c40 => ?_)
          · replace c40 := cmp_ne_t c40
            refine wp_go 2 hM (fr' := (49, [some (.inr 11), some (.inl a), some (.inl b), some (.inl t), some (.inl ((tg l t).1)), some (.inl ((tg l t).2.1)), some (.inl ((tg l t).2.2))], [.inl a, .inl ((tg l t).2.1)], σ)) rfl ?_
            refine wp_ic (tgt := 61) hM rfl (by decide) (by omega) (by omega) (fun c49 => ?_) (fun c49 => ?_)
            · replace c49 := cmp_ne_t c49
              refine wp_go 2 hM (fr' := (64, [some (.inr 11), some (.inl a), some (.inl b), some (.inl t), some (.inl ((tg l t).1)), some (.inl ((tg l t).2.1)), some (.inl ((tg l t).2.2))], [.inl a, .inl ((tg l t).2.2)], σ)) rfl ?_
              refine wp_ic (tgt := 76) hM rfl (by decide) (by omega) (by omega) (fun c64 => ?_) (fun c64 => ?_)
              · replace c64 := cmp_ne_t c64
                refine wp_go 2 hM (fr' := (2, [some (.inr 11), some (.inl a), some (.inl b), some (.inl (t + 1)), some (.inl ((tg l t).1)), some (.inl ((tg l t).2.1)), some (.inl ((tg l t).2.2))], [], σ)) rfl ?_
                exact ih2 (t + 1) (some (.inl ((tg l t).1))) (some (.inl ((tg l t).2.1))) (some (.inl ((tg l t).2.2))) (by omega) (by omega) (by refine fstI_no hv2_0 hv2_2 ?_; unfold edg; omega) (by omega)
              · replace c64 := cmp_ne_f c64
                refine wp_go 2 hM (fr' := (70, [some (.inr 11), some (.inl a), some (.inl b), some (.inl t), some (.inl ((tg l t).1)), some (.inl ((tg l t).2.1)), some (.inl ((tg l t).2.2))], [.inl b, .inl ((tg l t).1)], σ)) rfl ?_
                refine wp_ic (tgt := 76) hM rfl (by decide) (by omega) (by omega) (fun c70 => ?_) (fun c70 => ?_)
                · replace c70 := cmp_ne_t c70
                  refine wp_go 2 hM (fr' := (2, [some (.inr 11), some (.inl a), some (.inl b), some (.inl (t + 1)), some (.inl ((tg l t).1)), some (.inl ((tg l t).2.1)), some (.inl ((tg l t).2.2))], [], σ)) rfl ?_
                  exact ih2 (t + 1) (some (.inl ((tg l t).1))) (some (.inl ((tg l t).2.1))) (some (.inl ((tg l t).2.2))) (by omega) (by omega) (by refine fstI_no hv2_0 hv2_2 ?_; unfold edg; omega) (by omega)
                · replace c70 := cmp_ne_f c70
                  refine wp_go 1 hM (fr' := (75, [some (.inr 11), some (.inl a), some (.inl b), some (.inl t), some (.inl ((tg l t).1)), some (.inl ((tg l t).2.1)), some (.inl ((tg l t).2.2))], [.inl ((tg l t).2.1)], σ)) rfl ?_
                  refine wp_ret hM rfl (rfl) ?_
                  first | (exfalso; omega) | exact ⟨by unfold apx sid; rw [fstI_yes (P := fun i => edg (tg l i) a b) (t := t) hv2_0 (by omega) hv2_2 (by unfold edg; omega), if_neg (by omega)]; unfold opp; first | rw [if_pos (by omega)] | rw [if_neg (by omega), if_pos (by omega)] | rw [if_neg (by omega), if_neg (by omega)], rfl⟩
            · replace c49 := cmp_ne_f c49
              refine wp_go 2 hM (fr' := (55, [some (.inr 11), some (.inl a), some (.inl b), some (.inl t), some (.inl ((tg l t).1)), some (.inl ((tg l t).2.1)), some (.inl ((tg l t).2.2))], [.inl b, .inl ((tg l t).2.2)], σ)) rfl ?_
              refine wp_ic (tgt := 61) hM rfl (by decide) (by omega) (by omega) (fun c55 => ?_) (fun c55 => ?_)
              · replace c55 := cmp_ne_t c55
                refine wp_go 2 hM (fr' := (64, [some (.inr 11), some (.inl a), some (.inl b), some (.inl t), some (.inl ((tg l t).1)), some (.inl ((tg l t).2.1)), some (.inl ((tg l t).2.2))], [.inl a, .inl ((tg l t).2.2)], σ)) rfl ?_
                refine wp_ic (tgt := 76) hM rfl (by decide) (by omega) (by omega) (fun c64 => ?_) (fun c64 => ?_)
                · replace c64 := cmp_ne_t c64
                  refine wp_go 2 hM (fr' := (2, [some (.inr 11), some (.inl a), some (.inl b), some (.inl (t + 1)), some (.inl ((tg l t).1)), some (.inl ((tg l t).2.1)), some (.inl ((tg l t).2.2))], [], σ)) rfl ?_
                  exact ih2 (t + 1) (some (.inl ((tg l t).1))) (some (.inl ((tg l t).2.1))) (some (.inl ((tg l t).2.2))) (by omega) (by omega) (by refine fstI_no hv2_0 hv2_2 ?_; unfold edg; omega) (by omega)
                · replace c64 := cmp_ne_f c64
                  refine wp_go 2 hM (fr' := (70, [some (.inr 11), some (.inl a), some (.inl b), some (.inl t), some (.inl ((tg l t).1)), some (.inl ((tg l t).2.1)), some (.inl ((tg l t).2.2))], [.inl b, .inl ((tg l t).1)], σ)) rfl ?_
                  refine wp_ic (tgt := 76) hM rfl (by decide) (by omega) (by omega) (fun c70 => ?_) (fun c70 => ?_)
                  · replace c70 := cmp_ne_t c70
                    refine wp_go 2 hM (fr' := (2, [some (.inr 11), some (.inl a), some (.inl b), some (.inl (t + 1)), some (.inl ((tg l t).1)), some (.inl ((tg l t).2.1)), some (.inl ((tg l t).2.2))], [], σ)) rfl ?_
                    exact ih2 (t + 1) (some (.inl ((tg l t).1))) (some (.inl ((tg l t).2.1))) (some (.inl ((tg l t).2.2))) (by omega) (by omega) (by refine fstI_no hv2_0 hv2_2 ?_; unfold edg; omega) (by omega)
                  · replace c70 := cmp_ne_f c70
                    refine wp_go 1 hM (fr' := (75, [some (.inr 11), some (.inl a), some (.inl b), some (.inl t), some (.inl ((tg l t).1)), some (.inl ((tg l t).2.1)), some (.inl ((tg l t).2.2))], [.inl ((tg l t).2.1)], σ)) rfl ?_
                    refine wp_ret hM rfl (rfl) ?_
                    first | (exfalso; omega) | exact ⟨by unfold apx sid; rw [fstI_yes (P := fun i => edg (tg l i) a b) (t := t) hv2_0 (by omega) hv2_2 (by unfold edg; omega), if_neg (by omega)]; unfold opp; first | rw [if_pos (by omega)] | rw [if_neg (by omega), if_pos (by omega)] | rw [if_neg (by omega), if_neg (by omega)], rfl⟩
              · replace c55 := cmp_ne_f c55
                refine wp_go 1 hM (fr' := (60, [some (.inr 11), some (.inl a), some (.inl b), some (.inl t), some (.inl ((tg l t).1)), some (.inl ((tg l t).2.1)), some (.inl ((tg l t).2.2))], [.inl ((tg l t).1)], σ)) rfl ?_
                refine wp_ret hM rfl (rfl) ?_
                first | (exfalso; omega) | exact ⟨by unfold apx sid; rw [fstI_yes (P := fun i => edg (tg l i) a b) (t := t) hv2_0 (by omega) hv2_2 (by unfold edg; omega), if_neg (by omega)]; unfold opp; first | rw [if_pos (by omega)] | rw [if_neg (by omega), if_pos (by omega)] | rw [if_neg (by omega), if_neg (by omega)], rfl⟩
          · replace c40 := cmp_ne_f c40
            refine wp_go 1 hM (fr' := (45, [some (.inr 11), some (.inl a), some (.inl b), some (.inl t), some (.inl ((tg l t).1)), some (.inl ((tg l t).2.1)), some (.inl ((tg l t).2.2))], [.inl ((tg l t).2.2)], σ)) rfl ?_
            refine wp_ret hM rfl (rfl) ?_
            first | (exfalso; omega) | exact ⟨by unfold apx sid; rw [fstI_yes (P := fun i => edg (tg l i) a b) (t := t) hv2_0 (by omega) hv2_2 (by unfold edg; omega), if_neg (by omega)]; unfold opp; first | rw [if_pos (by omega)] | rw [if_neg (by omega), if_pos (by omega)] | rw [if_neg (by omega), if_neg (by omega)], rfl⟩
  exact loop2 65 0 (none) (none) (none) (by omega) (by omega) (by rfl) (by omega)

set_option maxRecDepth 100000 in
set_option maxHeartbeats 4000000 in
theorem sp_X4_holdersOf (v : mz_G) (l : List tr3) (σ : mz_G) (a : Int) (b : Int) (h0 : CA σ v l) (h1 : Bs v l) (h2 : mz_R a) (h3 : mz_R b) : mz_Cl shA 61 [.inr 11, .inl a, .inl b] σ (fun r σ' => r = some (b01 (¬ apx l a b = -1) + b01 (¬ apx l b a = -1)) ∧ σ' = σ) := by
  have hM : mz_meth[61]? = some mtX4_holdersOf := rfl
  obtain ⟨hR, hT, hLen⟩ := id h1
  obtain ⟨⟨hW0, hW1⟩, ⟨hH0, hH1⟩, ⟨hn0, hn1⟩, hpt⟩ := id hR
  obtain ⟨⟨hc1, hc2, hc3, hc4⟩, hcp, hct, hcv⟩ := id h0
  have ha1 := apx_bd (a := a) (b := b) hT hn1
  have ha2 := apx_bd (a := b) (b := a) hT hn1
  refine mz_Cl.of hM ?_
  show mz_Wp shA none 61 (0, [some (.inr 11), some (.inl a), some (.inl b)], [], σ) _
  refine wp_go 3 hM (fr' := (3, [some (.inr 11), some (.inl a), some (.inl b)], [.inl b, .inl a, .inr 11], σ)) rfl ?_
  refine wp_calld (v := 0) (idx := 37) (j := 60) (N := mtX4_apex) (as := [.inr 11, .inl a, .inl b]) (rest := []) hM rfl (Or.inl ⟨rfl, rfl⟩) rfl (sp_X4_apex v l σ a b (by first | assumption | omega) (by first | assumption | omega) (by first | assumption | omega) (by first | assumption | omega)) ?_
  show mz_Wp shA none 61 (6, [some (.inr 11), some (.inl a), some (.inl b)], [.inl (apx l a b)], σ) _
  refine wp_go 1 hM (fr' := (7, [some (.inr 11), some (.inl a), some (.inl b)], [.inl (-1), .inl (apx l a b)], σ)) rfl ?_
  refine wp_ic (tgt := 14) hM rfl (by decide) (by omega) (by omega) (fun c7 => ?_) (fun c7 => ?_)
  · replace c7 := cmp_ne_t c7
    refine wp_go 4 hM (fr' := (18, [some (.inr 11), some (.inl a), some (.inl b)], [.inl a, .inl b, .inr 11, .inl 1], σ)) rfl ?_
    refine wp_calld (v := 0) (idx := 37) (j := 60) (N := mtX4_apex) (as := [.inr 11, .inl b, .inl a]) (rest := [.inl 1]) hM rfl (Or.inl ⟨rfl, rfl⟩) rfl (sp_X4_apex v l σ b a (by first | assumption | omega) (by first | assumption | omega) (by first | assumption | omega) (by first | assumption | omega)) ?_
    show mz_Wp shA none 61 (21, [some (.inr 11), some (.inl a), some (.inl b)], [.inl (apx l b a), .inl 1], σ) _
    refine wp_go 1 hM (fr' := (22, [some (.inr 11), some (.inl a), some (.inl b)], [.inl (-1), .inl (apx l b a), .inl 1], σ)) rfl ?_
    refine wp_ic (tgt := 29) hM rfl (by decide) (by omega) (by omega) (fun c22 => ?_) (fun c22 => ?_)
    · replace c22 := cmp_ne_t c22
      refine wp_go 2 hM (fr' := (31, [some (.inr 11), some (.inl a), some (.inl b)], [.inl (1 + 1)], σ)) rfl ?_
      refine wp_ret hM rfl (rfl) ?_
      exact ⟨by first | rw [b01_t c7, b01_t c22] | rw [b01_t c7, b01_f (fun q => q c22)] | rw [b01_f (fun q => q c7), b01_t c22] | rw [b01_f (fun q => q c7), b01_f (fun q => q c22)], rfl⟩
    · replace c22 := cmp_ne_f c22
      refine wp_go 3 hM (fr' := (31, [some (.inr 11), some (.inl a), some (.inl b)], [.inl (1 + 0)], σ)) rfl ?_
      refine wp_ret hM rfl (rfl) ?_
      exact ⟨by first | rw [b01_t c7, b01_t c22] | rw [b01_t c7, b01_f (fun q => q c22)] | rw [b01_f (fun q => q c7), b01_t c22] | rw [b01_f (fun q => q c7), b01_f (fun q => q c22)], rfl⟩
  · replace c7 := cmp_ne_f c7
    refine wp_go 5 hM (fr' := (18, [some (.inr 11), some (.inl a), some (.inl b)], [.inl a, .inl b, .inr 11, .inl 0], σ)) rfl ?_
    refine wp_calld (v := 0) (idx := 37) (j := 60) (N := mtX4_apex) (as := [.inr 11, .inl b, .inl a]) (rest := [.inl 0]) hM rfl (Or.inl ⟨rfl, rfl⟩) rfl (sp_X4_apex v l σ b a (by first | assumption | omega) (by first | assumption | omega) (by first | assumption | omega) (by first | assumption | omega)) ?_
    show mz_Wp shA none 61 (21, [some (.inr 11), some (.inl a), some (.inl b)], [.inl (apx l b a), .inl 0], σ) _
    refine wp_go 1 hM (fr' := (22, [some (.inr 11), some (.inl a), some (.inl b)], [.inl (-1), .inl (apx l b a), .inl 0], σ)) rfl ?_
    refine wp_ic (tgt := 29) hM rfl (by decide) (by omega) (by omega) (fun c22 => ?_) (fun c22 => ?_)
    · replace c22 := cmp_ne_t c22
      refine wp_go 2 hM (fr' := (31, [some (.inr 11), some (.inl a), some (.inl b)], [.inl (0 + 1)], σ)) rfl ?_
      refine wp_ret hM rfl (rfl) ?_
      exact ⟨by first | rw [b01_t c7, b01_t c22] | rw [b01_t c7, b01_f (fun q => q c22)] | rw [b01_f (fun q => q c7), b01_t c22] | rw [b01_f (fun q => q c7), b01_f (fun q => q c22)], rfl⟩
    · replace c22 := cmp_ne_f c22
      refine wp_go 3 hM (fr' := (31, [some (.inr 11), some (.inl a), some (.inl b)], [.inl (0 + 0)], σ)) rfl ?_
      refine wp_ret hM rfl (rfl) ?_
      exact ⟨by first | rw [b01_t c7, b01_t c22] | rw [b01_t c7, b01_f (fun q => q c22)] | rw [b01_f (fun q => q c7), b01_t c22] | rw [b01_f (fun q => q c7), b01_f (fun q => q c22)], rfl⟩

set_option maxRecDepth 100000 in
set_option maxHeartbeats 4000000 in
theorem sp_X1_isFlat (v : mz_G) (l : List tr3) (σ : mz_G) (a : Int) (b : Int) (c : Int) (h0 : CA σ v l) (h1 : Bs v l) (h2 : 0 ≤ a) (h3 : a < v 0 2) (h4 : 0 ≤ b) (h5 : b < v 0 2) (h6 : 0 ≤ c) (h7 : c < v 0 2) : mz_Cl shA 37 [.inr 1, .inl a, .inl b, .inl c] σ (fun r σ' => r = some (b01 (flb v a b c = 1)) ∧ σ' = σ) := by
  have hM : mz_meth[37]? = some mtX1_isFlat := rfl
  obtain ⟨hR, hT, hLen⟩ := id h1
  obtain ⟨⟨hW0, hW1⟩, ⟨hH0, hH1⟩, ⟨hn0, hn1⟩, hpt⟩ := id hR
  obtain ⟨⟨hc1, hc2, hc3, hc4⟩, hcp, hct, hcv⟩ := id h0
  have t1 := tar_bd (l := l) (q := 0) (t := (a, b, c)) hR (by decide) ⟨⟨h2, h3⟩, ⟨h4, h5⟩, ⟨h6, h7⟩⟩
  have t2 := tar_bd (l := l) (q := 1) (t := (a, b, c)) hR (by decide) ⟨⟨h2, h3⟩, ⟨h4, h5⟩, ⟨h6, h7⟩⟩
  unfold tar at t1 t2
  dsimp only at t1 t2
  refine mz_Cl.of hM ?_
  show mz_Wp shA none 37 (0, [some (.inr 1), some (.inl a), some (.inl b), some (.inl c)], [], σ) _
  refine wp_go 5 hM (fr' := (7, [some (.inr 1), some (.inl a), some (.inl b), some (.inl c)], [.inl c, .inl b, .inl a, .inr 8], σ)) rfl ?_
  refine wp_calld (v := 0) (idx := 84) (j := 44) (N := mtX2_area) (as := [.inr 8, .inl a, .inl b, .inl c]) (rest := []) hM rfl (Or.inl ⟨rfl, rfl⟩) rfl (sp_X2_area_8_v v l σ a b c (by first | assumption | omega) (by first | assumption | omega) (by first | assumption | omega) (by first | assumption | omega) (by first | assumption | omega) (by first | assumption | omega) (by first | assumption | omega) (by first | assumption | omega)) ?_
  show mz_Wp shA none 37 (10, [some (.inr 1), some (.inl a), some (.inl b), some (.inl c)], [.inl (ar (gx v 0 (a)) (gy v 0 (a)) (gx v 0 (b)) (gy v 0 (b)) (gx v 0 (c)) (gy v 0 (c)))], σ) _
  refine wp_if (tgt := 26) hM rfl (by decide) (by omega) (fun c10 => ?_) (fun c10 => ?_)
  · replace c10 := cmp_le_t c10
    refine wp_go 2 hM (fr' := (31, [some (.inr 1), some (.inl a), some (.inl b), some (.inl c)], [.inl 1], σ)) rfl ?_
    refine wp_ret hM rfl (rfl) ?_
    first | exact r_t (by unfold flb; rw [if_pos (by omega)]) | exact r_f (by unfold flb; rw [if_neg (by omega)]; omega)
  · replace c10 := cmp_le_f c10
    refine wp_go 5 hM (fr' := (20, [some (.inr 1), some (.inl a), some (.inl b), some (.inl c)], [.inl c, .inl b, .inl a, .inr 9], σ)) rfl ?_
    refine wp_calld (v := 0) (idx := 84) (j := 44) (N := mtX2_area) (as := [.inr 9, .inl a, .inl b, .inl c]) (rest := []) hM rfl (Or.inl ⟨rfl, rfl⟩) rfl (sp_X2_area_9_v v l σ a b c (by first | assumption | omega) (by first | assumption | omega) (by first | assumption | omega) (by first | assumption | omega) (by first | assumption | omega) (by first | assumption | omega) (by first | assumption | omega) (by first | assumption | omega)) ?_
    show mz_Wp shA none 37 (23, [some (.inr 1), some (.inl a), some (.inl b), some (.inl c)], [.inl (ar (gx v 1 (a)) (gy v 1 (a)) (gx v 1 (b)) (gy v 1 (b)) (gx v 1 (c)) (gy v 1 (c)))], σ) _
    refine wp_if (tgt := 30) hM rfl (by decide) (by omega) (fun c23 => ?_) (fun c23 => ?_)
    · replace c23 := cmp_gt_t c23
      refine wp_go 1 hM (fr' := (31, [some (.inr 1), some (.inl a), some (.inl b), some (.inl c)], [.inl 0], σ)) rfl ?_
      refine wp_ret hM rfl (rfl) ?_
      first | exact r_t (by unfold flb; rw [if_pos (by omega)]) | exact r_f (by unfold flb; rw [if_neg (by omega)]; omega)
    · replace c23 := cmp_gt_f c23
      refine wp_go 2 hM (fr' := (31, [some (.inr 1), some (.inl a), some (.inl b), some (.inl c)], [.inl 1], σ)) rfl ?_
      refine wp_ret hM rfl (rfl) ?_
      first | exact r_t (by unfold flb; rw [if_pos (by omega)]) | exact r_f (by unfold flb; rw [if_neg (by omega)]; omega)

set_option maxRecDepth 100000 in
set_option maxHeartbeats 4000000 in
theorem sp_X1_reasonToTurn (v : mz_G) (l : List tr3) (σ : mz_G) (a : Int) (b : Int) (h0 : CA σ v l) (h1 : Bs v l) (h2 : mz_R a) (h3 : mz_R b) : mz_Cl shA 36 [.inr 1, .inl a, .inl b] σ (fun r σ' => r = some (rtt v l a b) ∧ σ' = σ) := by
  have hM : mz_meth[36]? = some mtX1_reasonToTurn := rfl
  obtain ⟨hR, hT, hLen⟩ := id h1
  obtain ⟨⟨hW0, hW1⟩, ⟨hH0, hH1⟩, ⟨hn0, hn1⟩, hpt⟩ := id hR
  obtain ⟨⟨hc1, hc2, hc3, hc4⟩, hcp, hct, hcv⟩ := id h0
  have ha1 := apx_bd (a := a) (b := b) hT hn1
  have ha2 := apx_bd (a := b) (b := a) hT hn1
  refine mz_Cl.of hM ?_
  show mz_Wp shA none 36 (0, [some (.inr 1), some (.inl a), some (.inl b), none, none], [], σ) _
  refine wp_go 2 hM (fr' := (2, [some (.inr 1), some (.inl a), some (.inl b), none, none], [.inl a, .inr 1], σ)) rfl ?_
  refine wp_calld (v := 0) (idx := 139) (j := 12) (N := mtX1_isKnot) (as := [.inr 1, .inl a]) (rest := []) hM rfl (Or.inl ⟨rfl, rfl⟩) rfl (sp_X1_isKnot v l σ a (by first | assumption | omega) (by first | assumption | omega) (by first | assumption | omega)) ?_
  show mz_Wp shA none 36 (5, [some (.inr 1), some (.inl a), some (.inl b), none, none], [.inl (b01 (isk v a))], σ) _
  refine wp_if (tgt := 16) hM rfl (by decide) b01_R (fun c5 => ?_) (fun c5 => ?_)
  · replace c5 := b01_eq0 (cmp_eq_t c5)
    refine wp_go 1 hM (fr' := (17, [some (.inr 1), some (.inl a), some (.inl b), none, none], [.inl 1], σ)) rfl ?_
    refine wp_ret hM rfl (rfl) ?_
    unfold isk at *
    exact ⟨by unfold rtt; repeat (first | rw [if_pos (by first | assumption | omega | exact Or.inl (by first | assumption | omega) | exact Or.inr (by first | assumption | omega))] | rw [if_neg (by first | assumption | omega | exact fun q => q (by assumption) | exact fun q => q.elim (fun q => by first | contradiction | omega | exact absurd (by assumption) q) (fun q => by first | contradiction | omega | exact absurd (by assumption) q))]), rfl⟩
  · replace c5 := b01_ne0 (cmp_eq_f c5)
    refine wp_go 2 hM (fr' := (10, [some (.inr 1), some (.inl a), some (.inl b), none, none], [.inl b, .inr 1], σ)) rfl ?_
    refine wp_calld (v := 0) (idx := 139) (j := 12) (N := mtX1_isKnot) (as := [.inr 1, .inl b]) (rest := []) hM rfl (Or.inl ⟨rfl, rfl⟩) rfl (sp_X1_isKnot v l σ b (by first | assumption | omega) (by first | assumption | omega) (by first | assumption | omega)) ?_
    show mz_Wp shA none 36 (13, [some (.inr 1), some (.inl a), some (.inl b), none, none], [.inl (b01 (isk v b))], σ) _
    refine wp_if (tgt := 18) hM rfl (by decide) b01_R (fun c13 => ?_) (fun c13 => ?_)
    · replace c13 := b01_ne0 (cmp_ne_t c13)
      unfold isk at c5 c13
      refine wp_go 4 hM (fr' := (24, [some (.inr 1), some (.inl a), some (.inl b), none, none], [.inl b, .inl a, .inr 11], σ)) rfl ?_
      refine wp_calld (v := 0) (idx := 149) (j := 60) (N := mtX4_apex) (as := [.inr 11, .inl a, .inl b]) (rest := []) hM rfl (Or.inl ⟨rfl, rfl⟩) rfl (sp_X4_apex v l σ a b (by first | assumption | omega) (by first | assumption | omega) (by first | assumption | omega) (by first | assumption | omega)) ?_
      show mz_Wp shA none 36 (27, [some (.inr 1), some (.inl a), some (.inl b), none, none], [.inl (apx l a b)], σ) _
      refine wp_go 5 hM (fr' := (34, [some (.inr 1), some (.inl a), some (.inl b), some (.inl (apx l a b)), none], [.inl a, .inl b, .inr 11], σ)) rfl ?_
      refine wp_calld (v := 0) (idx := 149) (j := 60) (N := mtX4_apex) (as := [.inr 11, .inl b, .inl a]) (rest := []) hM rfl (Or.inl ⟨rfl, rfl⟩) rfl (sp_X4_apex v l σ b a (by first | assumption | omega) (by first | assumption | omega) (by first | assumption | omega) (by first | assumption | omega)) ?_
      show mz_Wp shA none 36 (37, [some (.inr 1), some (.inl a), some (.inl b), some (.inl (apx l a b)), none], [.inl (apx l b a)], σ) _
      refine wp_go 3 hM (fr' := (41, [some (.inr 1), some (.inl a), some (.inl b), some (.inl (apx l a b)), some (.inl (apx l b a))], [.inl (-1), .inl (apx l a b)], σ)) rfl ?_
      refine wp_ic (tgt := 50) hM rfl (by decide) (by omega) (by omega) (fun c41 => ?_) (fun c41 => ?_)
      · replace c41 := cmp_eq_t c41
        refine wp_go 1 hM (fr' := (51, [some (.inr 1), some (.inl a), some (.inl b), some (.inl (apx l a b)), some (.inl (apx l b a))], [.inl 2], σ)) rfl ?_
        refine wp_ret hM rfl (rfl) ?_
        unfold isk at *
        exact ⟨by unfold rtt; repeat (first | rw [if_pos (by first | assumption | omega | exact Or.inl (by first | assumption | omega) | exact Or.inr (by first | assumption | omega))] | rw [if_neg (by first | assumption | omega | exact fun q => q (by assumption) | exact fun q => q.elim (fun q => by first | contradiction | omega | exact absurd (by assumption) q) (fun q => by first | contradiction | omega | exact absurd (by assumption) q))]), rfl⟩
      · replace c41 := cmp_eq_f c41
        refine wp_go 2 hM (fr' := (47, [some (.inr 1), some (.inl a), some (.inl b), some (.inl (apx l a b)), some (.inl (apx l b a))], [.inl (-1), .inl (apx l b a)], σ)) rfl ?_
        refine wp_ic (tgt := 52) hM rfl (by decide) (by omega) (by omega) (fun c47 => ?_) (fun c47 => ?_)
        · replace c47 := cmp_ne_t c47
          refine wp_go 4 hM (fr' := (57, [some (.inr 1), some (.inl a), some (.inl b), some (.inl (apx l a b)), some (.inl (apx l b a))], [.inl (apx l a b), .inl (apx l b a), .inl a, .inr 1], σ)) rfl ?_
          refine wp_calld (v := 0) (idx := 152) (j := 37) (N := mtX1_isFlat) (as := [.inr 1, .inl a, .inl (apx l b a), .inl (apx l a b)]) (rest := []) hM rfl (Or.inl ⟨rfl, rfl⟩) rfl (sp_X1_isFlat v l σ a (apx l b a) (apx l a b) (by first | assumption | omega) (by first | assumption | omega) (by first | assumption | omega) (by first | assumption | omega) (by first | assumption | omega) (by first | assumption | omega) (by first | assumption | omega) (by first | assumption | omega)) ?_
          show mz_Wp shA none 36 (60, [some (.inr 1), some (.inl a), some (.inl b), some (.inl (apx l a b)), some (.inl (apx l b a))], [.inl (b01 (flb v a (apx l b a) (apx l a b) = 1))], σ) _
          refine wp_if (tgt := 74) hM rfl (by decide) b01_R (fun c60 => ?_) (fun c60 => ?_)
          · replace c60 := b01_ne0 (cmp_ne_t c60)
            refine wp_go 2 hM (fr' := (79, [some (.inr 1), some (.inl a), some (.inl b), some (.inl (apx l a b)), some (.inl (apx l b a))], [.inl 4], σ)) rfl ?_
            refine wp_ret hM rfl (rfl) ?_
            unfold isk at *
            exact ⟨by unfold rtt; repeat (first | rw [if_pos (by first | assumption | omega | exact Or.inl (by first | assumption | omega) | exact Or.inr (by first | assumption | omega))] | rw [if_neg (by first | assumption | omega | exact fun q => q (by assumption) | exact fun q => q.elim (fun q => by first | contradiction | omega | exact absurd (by assumption) q) (fun q => by first | contradiction | omega | exact absurd (by assumption) q))]), rfl⟩
          · replace c60 := b01_eq0 (cmp_ne_f c60)
            refine wp_go 4 hM (fr' := (68, [some (.inr 1), some (.inl a), some (.inl b), some (.inl (apx l a b)), some (.inl (apx l b a))], [.inl (apx l a b), .inl b, .inl (apx l b a), .inr 1], σ)) rfl ?_
            refine wp_calld (v := 0) (idx := 152) (j := 37) (N := mtX1_isFlat) (as := [.inr 1, .inl (apx l b a), .inl b, .inl (apx l a b)]) (rest := []) hM rfl (Or.inl ⟨rfl, rfl⟩) rfl (sp_X1_isFlat v l σ (apx l b a) b (apx l a b) (by first | assumption | omega) (by first | assumption | omega) (by first | assumption | omega) (by first | assumption | omega) (by first | assumption | omega) (by first | assumption | omega) (by first | assumption | omega) (by first | assumption | omega)) ?_
            show mz_Wp shA none 36 (71, [some (.inr 1), some (.inl a), some (.inl b), some (.inl (apx l a b)), some (.inl (apx l b a))], [.inl (b01 (flb v (apx l b a) b (apx l a b) = 1))], σ) _
            refine wp_if (tgt := 78) hM rfl (by decide) b01_R (fun c71 => ?_) (fun c71 => ?_)
            · replace c71 := b01_eq0 (cmp_eq_t c71)
              refine wp_go 1 hM (fr' := (79, [some (.inr 1), some (.inl a), some (.inl b), some (.inl (apx l a b)), some (.inl (apx l b a))], [.inl 0], σ)) rfl ?_
              refine wp_ret hM rfl (rfl) ?_
              unfold isk at *
              exact ⟨by unfold rtt; repeat (first | rw [if_pos (by first | assumption | omega | exact Or.inl (by first | assumption | omega) | exact Or.inr (by first | assumption | omega))] | rw [if_neg (by first | assumption | omega | exact fun q => q (by assumption) | exact fun q => q.elim (fun q => by first | contradiction | omega | exact absurd (by assumption) q) (fun q => by first | contradiction | omega | exact absurd (by assumption) q))]), rfl⟩
            · replace c71 := b01_ne0 (cmp_eq_f c71)
              refine wp_go 2 hM (fr' := (79, [some (.inr 1), some (.inl a), some (.inl b), some (.inl (apx l a b)), some (.inl (apx l b a))], [.inl 4], σ)) rfl ?_
              refine wp_ret hM rfl (rfl) ?_
              unfold isk at *
              exact ⟨by unfold rtt; repeat (first | rw [if_pos (by first | assumption | omega | exact Or.inl (by first | assumption | omega) | exact Or.inr (by first | assumption | omega))] | rw [if_neg (by first | assumption | omega | exact fun q => q (by assumption) | exact fun q => q.elim (fun q => by first | contradiction | omega | exact absurd (by assumption) q) (fun q => by first | contradiction | omega | exact absurd (by assumption) q))]), rfl⟩
        · replace c47 := cmp_ne_f c47
          refine wp_go 1 hM (fr' := (51, [some (.inr 1), some (.inl a), some (.inl b), some (.inl (apx l a b)), some (.inl (apx l b a))], [.inl 2], σ)) rfl ?_
          refine wp_ret hM rfl (rfl) ?_
          unfold isk at *
          exact ⟨by unfold rtt; repeat (first | rw [if_pos (by first | assumption | omega | exact Or.inl (by first | assumption | omega) | exact Or.inr (by first | assumption | omega))] | rw [if_neg (by first | assumption | omega | exact fun q => q (by assumption) | exact fun q => q.elim (fun q => by first | contradiction | omega | exact absurd (by assumption) q) (fun q => by first | contradiction | omega | exact absurd (by assumption) q))]), rfl⟩
    · replace c13 := b01_eq0 (cmp_ne_f c13)
      refine wp_go 1 hM (fr' := (17, [some (.inr 1), some (.inl a), some (.inl b), none, none], [.inl 1], σ)) rfl ?_
      refine wp_ret hM rfl (rfl) ?_
      unfold isk at *
      exact ⟨by unfold rtt; repeat (first | rw [if_pos (by first | assumption | omega | exact Or.inl (by first | assumption | omega) | exact Or.inr (by first | assumption | omega))] | rw [if_neg (by first | assumption | omega | exact fun q => q (by assumption) | exact fun q => q.elim (fun q => by first | contradiction | omega | exact absurd (by assumption) q) (fun q => by first | contradiction | omega | exact absurd (by assumption) q))]), rfl⟩

set_option maxRecDepth 100000 in
set_option maxHeartbeats 4000000 in
theorem sp_X1_turnsRising (v : mz_G) (l : List tr3) (σ : mz_G) (a : Int) (b : Int) (h0 : CA σ v l) (h1 : Bs v l) (h2 : mz_R a) (h3 : mz_R b) : mz_Cl shA 20 [.inr 1, .inl a, .inl b] σ (fun r σ' => r = some (trs v l a b) ∧ σ' = σ) := by
  have hM : mz_meth[20]? = some mtX1_turnsRising := rfl
  obtain ⟨hR, hT, hLen⟩ := id h1
  obtain ⟨⟨hW0, hW1⟩, ⟨hH0, hH1⟩, ⟨hn0, hn1⟩, hpt⟩ := id hR
  obtain ⟨⟨hc1, hc2, hc3, hc4⟩, hcp, hct, hcv⟩ := id h0
  have hb := rtt_bd (v := v) (l := l) (a := a) (b := b)
  refine mz_Cl.of hM ?_
  show mz_Wp shA none 20 (0, [some (.inr 1), some (.inl a), some (.inl b)], [], σ) _
  refine wp_go 2 hM (fr' := (2, [some (.inr 1), some (.inl a), some (.inl b)], [.inl b, .inl a], σ)) rfl ?_
  refine wp_ic (tgt := 18) hM rfl (by decide) (by omega) (by omega) (fun c2 => ?_) (fun c2 => ?_)
  · replace c2 := cmp_ge_t c2
    refine wp_go 1 hM (fr' := (19, [some (.inr 1), some (.inl a), some (.inl b)], [.inl 0], σ)) rfl ?_
    refine wp_ret hM rfl (rfl) ?_
    exact ⟨by unfold trs; first | rw [b01_t (by omega)] | rw [b01_f (by omega)], rfl⟩
  · replace c2 := cmp_ge_f c2
    refine wp_go 3 hM (fr' := (8, [some (.inr 1), some (.inl a), some (.inl b)], [.inl b, .inl a, .inr 1], σ)) rfl ?_
    refine wp_calld (v := 0) (idx := 100) (j := 36) (N := mtX1_reasonToTurn) (as := [.inr 1, .inl a, .inl b]) (rest := []) hM rfl (Or.inl ⟨rfl, rfl⟩) rfl (sp_X1_reasonToTurn v l σ a b (by first | assumption | omega) (by first | assumption | omega) (by first | assumption | omega) (by first | assumption | omega)) ?_
    show mz_Wp shA none 20 (11, [some (.inr 1), some (.inl a), some (.inl b)], [.inl (rtt v l a b)], σ) _
    refine wp_if (tgt := 18) hM rfl (by decide) (by omega) (fun c11 => ?_) (fun c11 => ?_)
    · replace c11 := cmp_ne_t c11
      refine wp_go 1 hM (fr' := (19, [some (.inr 1), some (.inl a), some (.inl b)], [.inl 0], σ)) rfl ?_
      refine wp_ret hM rfl (rfl) ?_
      exact ⟨by unfold trs; first | rw [b01_t (by omega)] | rw [b01_f (by omega)], rfl⟩
    · replace c11 := cmp_ne_f c11
      refine wp_go 2 hM (fr' := (19, [some (.inr 1), some (.inl a), some (.inl b)], [.inl 1], σ)) rfl ?_
      refine wp_ret hM rfl (rfl) ?_
      exact ⟨by unfold trs; first | rw [b01_t (by omega)] | rw [b01_f (by omega)], rfl⟩

set_option maxRecDepth 100000 in
set_option maxHeartbeats 4000000 in
theorem sp_X1_edgesToTurn (v : mz_G) (l : List tr3) (σ : mz_G)  (h0 : CA σ v l) (h1 : Bs v l) : mz_Cl shA 19 [.inr 1] σ (fun r σ' => r = some (sumI (l.length : Int) (fun i => (trs v l (tg l i).1 (tg l i).2.1 + trs v l (tg l i).2.1 (tg l i).2.2 + trs v l (tg l i).2.2 (tg l i).1))) ∧ σ' = σ) := by
  have hM : mz_meth[19]? = some mtX1_edgesToTurn := rfl
  obtain ⟨hR, hT, hLen⟩ := id h1
  obtain ⟨⟨hW0, hW1⟩, ⟨hH0, hH1⟩, ⟨hn0, hn1⟩, hpt⟩ := id hR
  obtain ⟨⟨hc1, hc2, hc3, hc4⟩, hcp, hct, hcv⟩ := id h0
  refine mz_Cl.of hM ?_
  show mz_Wp shA none 19 (0, [some (.inr 1), none, none, none, none, none], [], σ) _
  refine wp_go 4 hM (fr' := (4, [some (.inr 1), some (.inl 0), some (.inl 0), none, none, none], [], σ)) rfl ?_
  have loop4 : ∀ (fuel : Nat) (f : Int) (t : Int) (d4_3 d4_4 d4_5 : Option mz_V), (0 ≤ t) → (t ≤ (l.length : Int)) → (f = sumI t (fun i => (trs v l (tg l i).1 (tg l i).2.1 + trs v l (tg l i).2.1 (tg l i).2.2 + trs v l (tg l i).2.2 (tg l i).1))) → (((l.length : Int) - t : Int) < fuel) → mz_Wp shA none 19 (4, [some (.inr 1), some (.inl f), some (.inl t), d4_3, d4_4, d4_5], [], σ) (fun r σ' => r = some (sumI (l.length : Int) (fun i => (trs v l (tg l i).1 (tg l i).2.1 + trs v l (tg l i).2.1 (tg l i).2.2 + trs v l (tg l i).2.2 (tg l i).1))) ∧ σ' = σ) := by
    intro fuel
    induction fuel with
    | zero =>
      intro f t d4_3 d4_4 d4_5 hv4_0 hv4_1 hv4_2 hf4
      exfalso
      omega
    | succ fuel ih4 =>
      intro f t d4_3 d4_4 d4_5 hv4_0 hv4_1 hv4_2 hf4
      have hs : sumI (t + 1) (fun i => (trs v l (tg l i).1 (tg l i).2.1 + trs v l (tg l i).2.1 (tg l i).2.2 + trs v l (tg l i).2.2 (tg l i).1)) = sumI t (fun i => (trs v l (tg l i).1 (tg l i).2.1 + trs v l (tg l i).2.1 (tg l i).2.2 + trs v l (tg l i).2.2 (tg l i).1)) + (trs v l (tg l t).1 (tg l t).2.1 + trs v l (tg l t).2.1 (tg l t).2.2 + trs v l (tg l t).2.2 (tg l t).1) := sumI_s hv4_0
      have hb := sumI_bd (a := 0) (b := 3) (f := (fun i => (trs v l (tg l i).1 (tg l i).2.1 + trs v l (tg l i).2.1 (tg l i).2.2 + trs v l (tg l i).2.2 (tg l i).1))) hv4_0 (fun i _ _ => by have := trs_bd (v := v) (l := l) (a := (tg l i).1) (b := (tg l i).2.1); have := trs_bd (v := v) (l := l) (a := (tg l i).2.1) (b := (tg l i).2.2); have := trs_bd (v := v) (l := l) (a := (tg l i).2.2) (b := (tg l i).1); omega)
      refine wp_go 4 hM (fr' := (12, [some (.inr 1), some (.inl f), some (.inl t), d4_3, d4_4, d4_5], [.inl (σ 11 1), .inl t], σ)) rfl ?_
      refine wp_ic (tgt := 77) hM rfl (by decide) (by omega) (by omega) (fun c12 => ?_) (fun c12 => ?_)
      · replace c12 := cmp_ge_t c12
        refine wp_go 1 hM (fr' := (78, [some (.inr 1), some (.inl f), some (.inl t), d4_3, d4_4, d4_5], [.inl f], σ)) rfl ?_
        refine wp_ret hM rfl (rfl) ?_
        exact ⟨by rw [hv4_2, show t = (l.length : Int) from by omega], rfl⟩
      · replace c12 := cmp_ge_f c12
        have ht := Rt_at hT hv4_0 (show t < (l.length : Int) by omega)
        refine wp_go 3 hM (fr' := (20, [some (.inr 1), some (.inl f), some (.inl t), d4_3, d4_4, d4_5], [.inl t, .inr 11], σ)) rfl ?_
        refine wp_calld (v := 0) (idx := 74) (j := 54) (N := mtX4_first) (as := [.inr 11, .inl t]) (rest := []) hM rfl (Or.inl ⟨rfl, rfl⟩) rfl (sp_X4_first_v v l σ t (by first | assumption | omega) (by first | assumption | omega) (by first | assumption | omega) (by first | assumption | omega)) ?_
        show mz_Wp shA none 19 (23, [some (.inr 1), some (.inl f), some (.inl t), d4_3, d4_4, d4_5], [.inl ((tg l t).1)], σ) _
        refine wp_go 4 hM (fr' := (29, [some (.inr 1), some (.inl f), some (.inl t), some (.inl ((tg l t).1)), d4_4, d4_5], [.inl t, .inr 11], σ)) rfl ?_
        refine wp_calld (v := 0) (idx := 78) (j := 55) (N := mtX4_second) (as := [.inr 11, .inl t]) (rest := []) hM rfl (Or.inl ⟨rfl, rfl⟩) rfl (sp_X4_second_v v l σ t (by first | assumption | omega) (by first | assumption | omega) (by first | assumption | omega) (by first | assumption | omega)) ?_
        show mz_Wp shA none 19 (32, [some (.inr 1), some (.inl f), some (.inl t), some (.inl ((tg l t).1)), d4_4, d4_5], [.inl ((tg l t).2.1)], σ) _
        refine wp_go 4 hM (fr' := (39, [some (.inr 1), some (.inl f), some (.inl t), some (.inl ((tg l t).1)), some (.inl ((tg l t).2.1)), d4_5], [.inl t, .inr 11], σ)) rfl ?_
        refine wp_calld (v := 0) (idx := 81) (j := 56) (N := mtX4_third) (as := [.inr 11, .inl t]) (rest := []) hM rfl (Or.inl ⟨rfl, rfl⟩) rfl (sp_X4_third_v v l σ t (by first | assumption | omega) (by first | assumption | omega) (by first | assumption | omega) (by first | assumption | omega)) ?_
        show mz_Wp shA none 19 (42, [some (.inr 1), some (.inl f), some (.inl t), some (.inl ((tg l t).1)), some (.inl ((tg l t).2.1)), d4_5], [.inl ((tg l t).2.2)], σ) _
        refine wp_go 5 hM (fr' := (49, [some (.inr 1), some (.inl f), some (.inl t), some (.inl ((tg l t).1)), some (.inl ((tg l t).2.1)), some (.inl ((tg l t).2.2))], [.inl ((tg l t).2.1), .inl ((tg l t).1), .inr 1, .inl f], σ)) rfl ?_
        refine wp_calld (v := 0) (idx := 96) (j := 20) (N := mtX1_turnsRising) (as := [.inr 1, .inl ((tg l t).1), .inl ((tg l t).2.1)]) (rest := [.inl f]) hM rfl (Or.inl ⟨rfl, rfl⟩) rfl (sp_X1_turnsRising v l σ ((tg l t).1) ((tg l t).2.1) (by first | assumption | omega) (by first | assumption | omega) (by first | assumption | omega) (by first | assumption | omega)) ?_
        show mz_Wp shA none 19 (52, [some (.inr 1), some (.inl f), some (.inl t), some (.inl ((tg l t).1)), some (.inl ((tg l t).2.1)), some (.inl ((tg l t).2.2))], [.inl (trs v l ((tg l t).1) ((tg l t).2.1)), .inl f], σ) _
        refine wp_go 3 hM (fr' := (57, [some (.inr 1), some (.inl f), some (.inl t), some (.inl ((tg l t).1)), some (.inl ((tg l t).2.1)), some (.inl ((tg l t).2.2))], [.inl ((tg l t).2.2), .inl ((tg l t).2.1), .inr 1, .inl (trs v l ((tg l t).1) ((tg l t).2.1)), .inl f], σ)) rfl ?_
        refine wp_calld (v := 0) (idx := 96) (j := 20) (N := mtX1_turnsRising) (as := [.inr 1, .inl ((tg l t).2.1), .inl ((tg l t).2.2)]) (rest := [.inl (trs v l ((tg l t).1) ((tg l t).2.1)), .inl f]) hM rfl (Or.inl ⟨rfl, rfl⟩) rfl (sp_X1_turnsRising v l σ ((tg l t).2.1) ((tg l t).2.2) (by first | assumption | omega) (by first | assumption | omega) (by first | assumption | omega) (by first | assumption | omega)) ?_
        show mz_Wp shA none 19 (60, [some (.inr 1), some (.inl f), some (.inl t), some (.inl ((tg l t).1)), some (.inl ((tg l t).2.1)), some (.inl ((tg l t).2.2))], [.inl (trs v l ((tg l t).2.1) ((tg l t).2.2)), .inl (trs v l ((tg l t).1) ((tg l t).2.1)), .inl f], σ) _
        refine wp_go 4 hM (fr' := (65, [some (.inr 1), some (.inl f), some (.inl t), some (.inl ((tg l t).1)), some (.inl ((tg l t).2.1)), some (.inl ((tg l t).2.2))], [.inl ((tg l t).1), .inl ((tg l t).2.2), .inr 1, .inl ((trs v l ((tg l t).1) ((tg l t).2.1)) + (trs v l ((tg l t).2.1) ((tg l t).2.2))), .inl f], σ)) rfl ?_
        refine wp_calld (v := 0) (idx := 96) (j := 20) (N := mtX1_turnsRising) (as := [.inr 1, .inl ((tg l t).2.2), .inl ((tg l t).1)]) (rest := [.inl ((trs v l ((tg l t).1) ((tg l t).2.1)) + (trs v l ((tg l t).2.1) ((tg l t).2.2))), .inl f]) hM rfl (Or.inl ⟨rfl, rfl⟩) rfl (sp_X1_turnsRising v l σ ((tg l t).2.2) ((tg l t).1) (by first | assumption | omega) (by first | assumption | omega) (by first | assumption | omega) (by first | assumption | omega)) ?_
        show mz_Wp shA none 19 (68, [some (.inr 1), some (.inl f), some (.inl t), some (.inl ((tg l t).1)), some (.inl ((tg l t).2.1)), some (.inl ((tg l t).2.2))], [.inl (trs v l ((tg l t).2.2) ((tg l t).1)), .inl ((trs v l ((tg l t).1) ((tg l t).2.1)) + (trs v l ((tg l t).2.1) ((tg l t).2.2))), .inl f], σ) _
        refine wp_go 5 hM (fr' := (4, [some (.inr 1), some (.inl (f + (((trs v l ((tg l t).1) ((tg l t).2.1)) + (trs v l ((tg l t).2.1) ((tg l t).2.2))) + (trs v l ((tg l t).2.2) ((tg l t).1))))), some (.inl (t + 1)), some (.inl ((tg l t).1)), some (.inl ((tg l t).2.1)), some (.inl ((tg l t).2.2))], [], σ)) rfl ?_
        exact ih4 (f + (((trs v l ((tg l t).1) ((tg l t).2.1)) + (trs v l ((tg l t).2.1) ((tg l t).2.2))) + (trs v l ((tg l t).2.2) ((tg l t).1)))) (t + 1) (some (.inl ((tg l t).1))) (some (.inl ((tg l t).2.1))) (some (.inl ((tg l t).2.2))) (by omega) (by omega) (by rw [hs]; omega) (by omega)
  exact loop4 65 0 0 (none) (none) (none) (by omega) (by omega) (by rfl) (by omega)

set_option maxRecDepth 100000 in
set_option maxHeartbeats 4000000 in
theorem sp_X1_bentKnots (v : mz_G) (l : List tr3) (σ : mz_G)  (h0 : CA σ v l) (h1 : Bs v l) : mz_Cl shA 21 [.inr 1] σ (fun r σ' => r = some (sumI (v 0 2) (fun i => b01 (¬ (gx v 1 i = gx v 0 i ∧ gy v 1 i = gy v 0 i)))) ∧ σ' = σ) := by
  have hM : mz_meth[21]? = some mtX1_bentKnots := rfl
  obtain ⟨hR, hT, hLen⟩ := id h1
  obtain ⟨⟨hW0, hW1⟩, ⟨hH0, hH1⟩, ⟨hn0, hn1⟩, hpt⟩ := id hR
  obtain ⟨⟨hc1, hc2, hc3, hc4⟩, hcp, hct, hcv⟩ := id h0
  refine mz_Cl.of hM ?_
  show mz_Wp shA none 21 (0, [some (.inr 1), none, none], [], σ) _
  refine wp_go 4 hM (fr' := (4, [some (.inr 1), some (.inl 0), some (.inl 0)], [], σ)) rfl ?_
  have loop4 : ∀ (fuel : Nat) (f : Int) (t : Int), (0 ≤ t) → (t ≤ v 0 2) → (f = sumI t (fun i => b01 (¬ (gx v 1 i = gx v 0 i ∧ gy v 1 i = gy v 0 i)))) → ((v 0 2 - t : Int) < fuel) → mz_Wp shA none 21 (4, [some (.inr 1), some (.inl f), some (.inl t)], [], σ) (fun r σ' => r = some (sumI (v 0 2) (fun i => b01 (¬ (gx v 1 i = gx v 0 i ∧ gy v 1 i = gy v 0 i)))) ∧ σ' = σ) := by
    intro fuel
    induction fuel with
    | zero =>
      intro f t hv4_0 hv4_1 hv4_2 hf4
      exfalso
      omega
    | succ fuel ih4 =>
      intro f t hv4_0 hv4_1 hv4_2 hf4
      have hs : sumI (t + 1) (fun i => b01 (¬ (gx v 1 i = gx v 0 i ∧ gy v 1 i = gy v 0 i))) = sumI t (fun i => b01 (¬ (gx v 1 i = gx v 0 i ∧ gy v 1 i = gy v 0 i))) + b01 (¬ (gx v 1 t = gx v 0 t ∧ gy v 1 t = gy v 0 t)) := sumI_s hv4_0
      have hb := sumI_bd (a := 0) (b := 1) (f := (fun i => b01 (¬ (gx v 1 i = gx v 0 i ∧ gy v 1 i = gy v 0 i)))) hv4_0 (fun i _ _ => by rcases b01_01 (P := ¬ (gx v 1 i = gx v 0 i ∧ gy v 1 i = gy v 0 i)) with q | q <;> omega)
      refine wp_go 3 hM (fr' := (9, [some (.inr 1), some (.inl f), some (.inl t)], [.inl (σ 1 7), .inl t], σ)) rfl ?_
      refine wp_ic (tgt := 50) hM rfl (by decide) (by omega) (by omega) (fun c9 => ?_) (fun c9 => ?_)
      · replace c9 := cmp_ge_t c9
        refine wp_go 1 hM (fr' := (51, [some (.inr 1), some (.inl f), some (.inl t)], [.inl f], σ)) rfl ?_
        refine wp_ret hM rfl (rfl) ?_
        exact ⟨by rw [hv4_2, show t = v 0 2 from by omega], rfl⟩
      · replace c9 := cmp_ge_f c9
        have hk := CA_pt h0 hv4_0 (show t < v 0 2 by omega)
        have hr := Rg_pt hR hv4_0 (show t < v 0 2 by omega)
        refine wp_go 7 hM (fr' := (25, [some (.inr 1), some (.inl f), some (.inl t)], [.inl t, .inr 16, .inl t, .inr 9], σ)) rfl ?_
        refine wp_al (n := 32) hM rfl (by decide) rfl (by omega) (by omega) ?_
        rw [hk.1]
        refine wp_go 4 hM (fr' := (34, [some (.inr 1), some (.inl f), some (.inl t)], [.inl t, .inr 17, .inl (gx v 0 t), .inl t, .inr 9], σ)) rfl ?_
        refine wp_al (n := 32) hM rfl (by decide) rfl (by omega) (by omega) ?_
        rw [hk.2.1]
        refine wp_calld (v := 0) (idx := 103) (j := 43) (N := mtX2_isAt) (as := [.inr 9, .inl t, .inl (gx v 0 t), .inl (gy v 0 t)]) (rest := []) hM rfl (Or.inl ⟨rfl, rfl⟩) rfl (sp_X2_isAt_9_v v l σ t (gx v 0 t) (gy v 0 t) (by first | assumption | omega) (by first | assumption | omega) (by first | assumption | omega) (by first | assumption | omega) (by first | assumption | omega) (by first | assumption | omega)) ?_
        show mz_Wp shA none 21 (38, [some (.inr 1), some (.inl f), some (.inl t)], [.inl (b01 (gx v 1 t = (gx v 0 t) ∧ gy v 1 t = (gy v 0 t)))], σ) _
        refine wp_if (tgt := 44) hM rfl (by decide) b01_R (fun c38 => ?_) (fun c38 => ?_)
        · replace c38 := b01_ne0 (cmp_ne_t c38)
          refine wp_go 2 hM (fr' := (4, [some (.inr 1), some (.inl f), some (.inl (t + 1))], [], σ)) rfl ?_
          exact ih4 f (t + 1) (by omega) (by omega) (by rw [hs]; first | (rw [b01_t c38]; omega) | (rw [b01_f (fun q => q c38)]; omega)) (by omega)
        · replace c38 := b01_eq0 (cmp_ne_f c38)
          refine wp_go 3 hM (fr' := (4, [some (.inr 1), some (.inl (f + 1)), some (.inl (t + 1))], [], σ)) rfl ?_
          exact ih4 (f + 1) (t + 1) (by omega) (by omega) (by rw [hs]; first | (rw [b01_t c38]; omega) | (rw [b01_f (fun q => q c38)]; omega)) (by omega)
  exact loop4 33 0 0 (by omega) (by omega) (by rfl) (by omega)

set_option maxRecDepth 100000 in
set_option maxHeartbeats 4000000 in
theorem sp_X1_isHome (v : mz_G) (l : List tr3) (σ : mz_G) (x : Int) (y : Int) (h0 : CA σ v l) (h1 : Bs v l) (h2 : mz_R x) (h3 : mz_R y) : mz_Cl shA 25 [.inr 1, .inl x, .inl y] σ (fun r σ' => r = some (b01 (ish v x y)) ∧ σ' = σ) := by
  have hM : mz_meth[25]? = some mtX1_isHome := rfl
  obtain ⟨hR, hT, hLen⟩ := id h1
  obtain ⟨⟨hW0, hW1⟩, ⟨hH0, hH1⟩, ⟨hn0, hn1⟩, hpt⟩ := id hR
  obtain ⟨⟨hc1, hc2, hc3, hc4⟩, hcp, hct, hcv⟩ := id h0
  refine mz_Cl.of hM ?_
  show mz_Wp shA none 25 (0, [some (.inr 1), some (.inl x), some (.inl y), none], [], σ) _
  refine wp_go 2 hM (fr' := (2, [some (.inr 1), some (.inl x), some (.inl y), some (.inl 0)], [], σ)) rfl ?_
  have loop2 : ∀ (fuel : Nat) (k : Int), (0 ≤ k) → (k ≤ v 0 2) → (fstI k (fun k => gx v 0 k = x ∧ gy v 0 k = y) = -1) → ((v 0 2 - k : Int) < fuel) → mz_Wp shA none 25 (2, [some (.inr 1), some (.inl x), some (.inl y), some (.inl k)], [], σ) (fun r σ' => r = some (b01 (ish v x y)) ∧ σ' = σ) := by
    intro fuel
    induction fuel with
    | zero =>
      intro k hv2_0 hv2_1 hv2_2 hf2
      exfalso
      omega
    | succ fuel ih2 =>
      intro k hv2_0 hv2_1 hv2_2 hf2
      refine wp_go 3 hM (fr' := (7, [some (.inr 1), some (.inl x), some (.inl y), some (.inl k)], [.inl (σ 1 7), .inl k], σ)) rfl ?_
      refine wp_ic (tgt := 31) hM rfl (by decide) (by omega) (by omega) (fun c7 => ?_) (fun c7 => ?_)
      · replace c7 := cmp_ge_t c7
        refine wp_go 1 hM (fr' := (32, [some (.inr 1), some (.inl x), some (.inl y), some (.inl k)], [.inl 0], σ)) rfl ?_
        refine wp_ret hM rfl (rfl) ?_
        exact r_f (by unfold ish; rw [show v 0 2 = k from by omega, hv2_2]; omega)
      · replace c7 := cmp_ge_f c7
        refine wp_go 5 hM (fr' := (17, [some (.inr 1), some (.inl x), some (.inl y), some (.inl k)], [.inl y, .inl x, .inl k, .inr 8], σ)) rfl ?_
        refine wp_calld (v := 0) (idx := 103) (j := 43) (N := mtX2_isAt) (as := [.inr 8, .inl k, .inl x, .inl y]) (rest := []) hM rfl (Or.inl ⟨rfl, rfl⟩) rfl (sp_X2_isAt_8_v v l σ k x y (by first | assumption | omega) (by first | assumption | omega) (by first | assumption | omega) (by first | assumption | omega) (by first | assumption | omega) (by first | assumption | omega)) ?_
        show mz_Wp shA none 25 (20, [some (.inr 1), some (.inl x), some (.inl y), some (.inl k)], [.inl (b01 (gx v 0 k = x ∧ gy v 0 k = y))], σ) _
        refine wp_if (tgt := 25) hM rfl (by decide) b01_R (fun c20 => ?_) (fun c20 => ?_)
        · replace c20 := b01_eq0 (cmp_eq_t c20)
          refine wp_go 2 hM (fr' := (2, [some (.inr 1), some (.inl x), some (.inl y), some (.inl (k + 1))], [], σ)) rfl ?_
          exact ih2 (k + 1) (by omega) (by omega) (by exact fstI_no hv2_0 hv2_2 c20) (by omega)
        · replace c20 := b01_ne0 (cmp_eq_f c20)
          refine wp_go 1 hM (fr' := (24, [some (.inr 1), some (.inl x), some (.inl y), some (.inl k)], [.inl 1], σ)) rfl ?_
          refine wp_ret hM rfl (rfl) ?_
          exact r_t (by unfold ish; rw [fstI_yes (P := fun k => gx v 0 k = x ∧ gy v 0 k = y) (t := k) hv2_0 (by omega) hv2_2 c20]; omega)
  exact loop2 33 0 (by omega) (by omega) (by rfl) (by omega)

set_option maxRecDepth 100000 in
set_option maxHeartbeats 4000000 in
theorem sp_X1_reasonToInsert (v : mz_G) (l : List tr3) (σ : mz_G) (a : Int) (b : Int) (x : Int) (y : Int) (h0 : CA σ v l) (h1 : Bs v l) (h2 : mz_R a) (h3 : mz_R b) (h4 : mz_R x) (h5 : mz_R y) (h6 : dot v a b → ¬ ish v a b → ((lhOf v l a b).length : Int) ≤ 60) : mz_Cl shA 24 [.inr 1, .inl a, .inl b, .inl x, .inl y] σ (fun r σ' => r = some (rti v l a b x y) ∧ Fl σ σ') := by
  have hM : mz_meth[24]? = some mtX1_reasonToInsert := rfl
  obtain ⟨hR, hT, hLen⟩ := id h1
  obtain ⟨⟨hW0, hW1⟩, ⟨hH0, hH1⟩, ⟨hn0, hn1⟩, hpt⟩ := id hR
  obtain ⟨⟨hc1, hc2, hc3, hc4⟩, hcp, hct, hcv⟩ := id h0
  refine mz_Cl.of hM ?_
  show mz_Wp shA none 24 (0, [some (.inr 1), some (.inl a), some (.inl b), some (.inl x), some (.inl y)], [], σ) _
  refine wp_go 3 hM (fr' := (3, [some (.inr 1), some (.inl a), some (.inl b), some (.inl x), some (.inl y)], [.inl b, .inl a, .inr 1], σ)) rfl ?_
  refine wp_calld (v := 0) (idx := 111) (j := 9) (N := mtX1_isDot) (as := [.inr 1, .inl a, .inl b]) (rest := []) hM rfl (Or.inl ⟨rfl, rfl⟩) rfl (sp_X1_isDot v l σ a b (by first | assumption | omega) (by first | assumption | omega) (by first | assumption | omega) (by first | assumption | omega)) ?_
  show mz_Wp shA none 24 (6, [some (.inr 1), some (.inl a), some (.inl b), some (.inl x), some (.inl y)], [.inl (b01 (dot v a b))], σ) _
  refine wp_if (tgt := 19) hM rfl (by decide) b01_R (fun c6 => ?_) (fun c6 => ?_)
  · replace c6 := b01_eq0 (cmp_eq_t c6)
    refine wp_go 1 hM (fr' := (20, [some (.inr 1), some (.inl a), some (.inl b), some (.inl x), some (.inl y)], [.inl 1], σ)) rfl ?_
    refine wp_ret hM rfl (rfl) ?_
    exact ⟨by unfold rti; repeat (first | rw [if_pos (by first | assumption | omega | exact Or.inl (by first | assumption | omega) | exact Or.inr (by first | assumption | omega))] | rw [if_neg (by first | assumption | omega | exact fun q => q (by assumption) | exact fun q => q.elim (fun q => by first | contradiction | omega | exact absurd (by assumption) q) (fun q => by first | contradiction | omega | exact absurd (by assumption) q))]), by first | exact hf_49 | exact Fl.rf⟩
  · replace c6 := b01_ne0 (cmp_eq_f c6)
    refine wp_go 3 hM (fr' := (13, [some (.inr 1), some (.inl a), some (.inl b), some (.inl x), some (.inl y)], [.inl y, .inl x, .inr 1], σ)) rfl ?_
    refine wp_calld (v := 0) (idx := 111) (j := 9) (N := mtX1_isDot) (as := [.inr 1, .inl x, .inl y]) (rest := []) hM rfl (Or.inl ⟨rfl, rfl⟩) rfl (sp_X1_isDot v l σ x y (by first | assumption | omega) (by first | assumption | omega) (by first | assumption | omega) (by first | assumption | omega)) ?_
    show mz_Wp shA none 24 (16, [some (.inr 1), some (.inl a), some (.inl b), some (.inl x), some (.inl y)], [.inl (b01 (dot v x y))], σ) _
    refine wp_if (tgt := 21) hM rfl (by decide) b01_R (fun c16 => ?_) (fun c16 => ?_)
    · replace c16 := b01_ne0 (cmp_ne_t c16)
      refine wp_go 3 hM (fr' := (24, [some (.inr 1), some (.inl a), some (.inl b), some (.inl x), some (.inl y)], [.inl b, .inl a, .inr 1], σ)) rfl ?_
      refine wp_calld (v := 0) (idx := 114) (j := 25) (N := mtX1_isHome) (as := [.inr 1, .inl a, .inl b]) (rest := []) hM rfl (Or.inl ⟨rfl, rfl⟩) rfl (sp_X1_isHome v l σ a b (by first | assumption | omega) (by first | assumption | omega) (by first | assumption | omega) (by first | assumption | omega)) ?_
      show mz_Wp shA none 24 (27, [some (.inr 1), some (.inl a), some (.inl b), some (.inl x), some (.inl y)], [.inl (b01 (ish v a b))], σ) _
      refine wp_if (tgt := 32) hM rfl (by decide) b01_R (fun c27 => ?_) (fun c27 => ?_)
      · replace c27 := b01_eq0 (cmp_eq_t c27)
        have hlh := h6 c6 c27
        refine wp_go 5 hM (fr' := (38, [some (.inr 1), some (.inl a), some (.inl b), some (.inl x), some (.inl y)], [.inl y, .inl x, .inl b, .inl a, .inr 1], σ)) rfl ?_
        refine wp_calld (v := 0) (idx := 117) (j := 26) (N := mtX1_keepsSide) (as := [.inr 1, .inl a, .inl b, .inl x, .inl y]) (rest := []) hM rfl (Or.inl ⟨rfl, rfl⟩) rfl (sp_X1_keepsSide v l σ a b x y (by first | assumption | omega) (by first | assumption | omega) (by first | assumption | omega) (by first | assumption | omega) (by first | assumption | omega) (by first | assumption | omega)) ?_
        show mz_Wp shA none 24 (41, [some (.inr 1), some (.inl a), some (.inl b), some (.inl x), some (.inl y)], [.inl (b01 (keeps v a b x y))], σ) _
        refine wp_if (tgt := 46) hM rfl (by decide) b01_R (fun c41 => ?_) (fun c41 => ?_)
        · replace c41 := b01_ne0 (cmp_ne_t c41)
          refine wp_go 3 hM (fr' := (49, [some (.inr 1), some (.inl a), some (.inl b), some (.inl x), some (.inl y)], [.inl b, .inl a, .inr 1], σ)) rfl ?_
          refine wp_call (v := 0) (idx := 121) (j := 28) (N := mtX1_linkOfHome) (as := [.inr 1, .inl a, .inl b]) (rest := []) hM rfl (Or.inl ⟨rfl, rfl⟩) rfl (sp_X1_linkOfHome v l σ a b (by first | assumption | omega) (by first | assumption | omega) (by first | assumption | omega) (by exact hlh)) ?_
          rintro r0 σ_49 ⟨rfl, hk_49, hf_49⟩
          show mz_Wp shA none 24 (52, [some (.inr 1), some (.inl a), some (.inl b), some (.inl x), some (.inl y)], [], σ_49) _
          have hC_49 := CA_Fl h0 hf_49
          have hLr := Lr_lh (x := a) (y := b) hT
          have hc3b : σ_49 1 7 = v 0 2 := hC_49.1.2.2.1
          refine wp_go 3 hM (fr' := (56, [some (.inr 1), some (.inl a), some (.inl b), some (.inl x), some (.inl y)], [.inl y, .inl x, .inr 1], σ_49)) rfl ?_
          refine wp_calld (v := 0) (idx := 125) (j := 31) (N := mtX1_foldsAt) (as := [.inr 1, .inl x, .inl y]) (rest := []) hM rfl (Or.inl ⟨rfl, rfl⟩) rfl (sp_X1_foldsAt v l (lhOf v l a b) σ_49 x y (by first | assumption | omega) (by first | assumption | omega) (by first | assumption | omega) (by first | assumption | omega) (by first | assumption | omega) (by first | assumption | omega)) ?_
          show mz_Wp shA none 24 (59, [some (.inr 1), some (.inl a), some (.inl b), some (.inl x), some (.inl y)], [.inl (b01 (fol v (lhOf v l a b) x y))], σ_49) _
          refine wp_if (tgt := 64) hM rfl (by decide) b01_R (fun c59 => ?_) (fun c59 => ?_)
          · replace c59 := b01_eq0 (cmp_eq_t c59)
            refine wp_go 3 hM (fr' := (70, [some (.inr 1), some (.inl a), some (.inl b), some (.inl x), some (.inl y)], [.inl 30, .inl (σ_49 1 7)], σ_49)) rfl ?_
            refine wp_ic (tgt := 77) hM rfl (by decide) (by omega) (by omega) (fun c70 => ?_) (fun c70 => ?_)
            · replace c70 := cmp_lt_t c70
              refine wp_go 1 hM (fr' := (78, [some (.inr 1), some (.inl a), some (.inl b), some (.inl x), some (.inl y)], [.inl 0], σ_49)) rfl ?_
              refine wp_ret hM rfl (rfl) ?_
              exact ⟨by unfold rti; repeat (first | rw [if_pos (by first | assumption | omega | exact Or.inl (by first | assumption | omega) | exact Or.inr (by first | assumption | omega))] | rw [if_neg (by first | assumption | omega | exact fun q => q (by assumption) | exact fun q => q.elim (fun q => by first | contradiction | omega | exact absurd (by assumption) q) (fun q => by first | contradiction | omega | exact absurd (by assumption) q))]), by first | exact hf_49 | exact Fl.rf⟩
            · replace c70 := cmp_lt_f c70
              refine wp_go 2 hM (fr' := (78, [some (.inr 1), some (.inl a), some (.inl b), some (.inl x), some (.inl y)], [.inl 5], σ_49)) rfl ?_
              refine wp_ret hM rfl (rfl) ?_
              exact ⟨by unfold rti; repeat (first | rw [if_pos (by first | assumption | omega | exact Or.inl (by first | assumption | omega) | exact Or.inr (by first | assumption | omega))] | rw [if_neg (by first | assumption | omega | exact fun q => q (by assumption) | exact fun q => q.elim (fun q => by first | contradiction | omega | exact absurd (by assumption) q) (fun q => by first | contradiction | omega | exact absurd (by assumption) q))]), by first | exact hf_49 | exact Fl.rf⟩
          · replace c59 := b01_ne0 (cmp_eq_f c59)
            refine wp_go 1 hM (fr' := (63, [some (.inr 1), some (.inl a), some (.inl b), some (.inl x), some (.inl y)], [.inl 4], σ_49)) rfl ?_
            refine wp_ret hM rfl (rfl) ?_
            exact ⟨by unfold rti; repeat (first | rw [if_pos (by first | assumption | omega | exact Or.inl (by first | assumption | omega) | exact Or.inr (by first | assumption | omega))] | rw [if_neg (by first | assumption | omega | exact fun q => q (by assumption) | exact fun q => q.elim (fun q => by first | contradiction | omega | exact absurd (by assumption) q) (fun q => by first | contradiction | omega | exact absurd (by assumption) q))]), by first | exact hf_49 | exact Fl.rf⟩
        · replace c41 := b01_eq0 (cmp_ne_f c41)
          refine wp_go 1 hM (fr' := (45, [some (.inr 1), some (.inl a), some (.inl b), some (.inl x), some (.inl y)], [.inl 3], σ)) rfl ?_
          refine wp_ret hM rfl (rfl) ?_
          exact ⟨by unfold rti; repeat (first | rw [if_pos (by first | assumption | omega | exact Or.inl (by first | assumption | omega) | exact Or.inr (by first | assumption | omega))] | rw [if_neg (by first | assumption | omega | exact fun q => q (by assumption) | exact fun q => q.elim (fun q => by first | contradiction | omega | exact absurd (by assumption) q) (fun q => by first | contradiction | omega | exact absurd (by assumption) q))]), by first | exact hf_49 | exact Fl.rf⟩
      · replace c27 := b01_ne0 (cmp_eq_f c27)
        refine wp_go 1 hM (fr' := (31, [some (.inr 1), some (.inl a), some (.inl b), some (.inl x), some (.inl y)], [.inl 2], σ)) rfl ?_
        refine wp_ret hM rfl (rfl) ?_
        exact ⟨by unfold rti; repeat (first | rw [if_pos (by first | assumption | omega | exact Or.inl (by first | assumption | omega) | exact Or.inr (by first | assumption | omega))] | rw [if_neg (by first | assumption | omega | exact fun q => q (by assumption) | exact fun q => q.elim (fun q => by first | contradiction | omega | exact absurd (by assumption) q) (fun q => by first | contradiction | omega | exact absurd (by assumption) q))]), by first | exact hf_49 | exact Fl.rf⟩
    · replace c16 := b01_eq0 (cmp_ne_f c16)
      refine wp_go 1 hM (fr' := (20, [some (.inr 1), some (.inl a), some (.inl b), some (.inl x), some (.inl y)], [.inl 1], σ)) rfl ?_
      refine wp_ret hM rfl (rfl) ?_
      exact ⟨by unfold rti; repeat (first | rw [if_pos (by first | assumption | omega | exact Or.inl (by first | assumption | omega) | exact Or.inr (by first | assumption | omega))] | rw [if_neg (by first | assumption | omega | exact fun q => q (by assumption) | exact fun q => q.elim (fun q => by first | contradiction | omega | exact absurd (by assumption) q) (fun q => by first | contradiction | omega | exact absurd (by assumption) q))]), by first | exact hf_49 | exact Fl.rf⟩

set_option maxRecDepth 100000 in
set_option maxHeartbeats 4000000 in
theorem sp_X1_reasonToTakeOut (v : mz_G) (l : List tr3) (σ : mz_G) (k : Int) (h0 : CA σ v l) (h1 : Bs v l) (h2 : mz_R k) : mz_Cl shA 39 [.inr 1, .inl k] σ (fun r σ' => r = some (rto v l k) ∧ σ' = σ) := by
  have hM : mz_meth[39]? = some mtX1_reasonToTakeOut := rfl
  obtain ⟨hR, hT, hLen⟩ := id h1
  obtain ⟨⟨hW0, hW1⟩, ⟨hH0, hH1⟩, ⟨hn0, hn1⟩, hpt⟩ := id hR
  obtain ⟨⟨hc1, hc2, hc3, hc4⟩, hcp, hct, hcv⟩ := id h0
  have hkb := kind_bd (v := v) (k := k)
  have hdg := dgr_bd (l := l) (k := k)
  unfold dgr at hdg
  refine mz_Cl.of hM ?_
  show mz_Wp shA none 39 (0, [some (.inr 1), some (.inl k), none, none], [], σ) _
  refine wp_go 2 hM (fr' := (2, [some (.inr 1), some (.inl k), none, none], [.inl k, .inr 1], σ)) rfl ?_
  refine wp_calld (v := 0) (idx := 139) (j := 12) (N := mtX1_isKnot) (as := [.inr 1, .inl k]) (rest := []) hM rfl (Or.inl ⟨rfl, rfl⟩) rfl (sp_X1_isKnot v l σ k (by first | assumption | omega) (by first | assumption | omega) (by first | assumption | omega)) ?_
  show mz_Wp shA none 39 (5, [some (.inr 1), some (.inl k), none, none], [.inl (b01 (isk v k))], σ) _
  refine wp_if (tgt := 10) hM rfl (by decide) b01_R (fun c5 => ?_) (fun c5 => ?_)
  · replace c5 := b01_ne0 (cmp_ne_t c5)
    unfold isk at c5
    refine wp_go 2 hM (fr' := (12, [some (.inr 1), some (.inl k), none, none], [.inl k, .inr 1], σ)) rfl ?_
    refine wp_calld (v := 0) (idx := 155) (j := 13) (N := mtX1_kindOf) (as := [.inr 1, .inl k]) (rest := []) hM rfl (Or.inl ⟨rfl, rfl⟩) rfl (sp_X1_kindOf v l σ k (by first | assumption | omega) (by first | assumption | omega) (by first | assumption | omega) (by first | assumption | omega)) ?_
    show mz_Wp shA none 39 (15, [some (.inr 1), some (.inl k), none, none], [.inl (kind v k)], σ) _
    refine wp_go 3 hM (fr' := (18, [some (.inr 1), some (.inl k), some (.inl (kind v k)), none], [.inl 1, .inl (kind v k)], σ)) rfl ?_
    refine wp_ic (tgt := 25) hM rfl (by decide) (by omega) (by omega) (fun c18 => ?_) (fun c18 => ?_)
    · replace c18 := cmp_ne_t c18
      refine wp_go 3 hM (fr' := (28, [some (.inr 1), some (.inl k), some (.inl (kind v k)), some (.inl 3)], [.inl (kind v k)], σ)) rfl ?_
      refine wp_if (tgt := 40) hM rfl (by decide) (by omega) (fun c28 => ?_) (fun c28 => ?_)
      · replace c28 := cmp_eq_t c28
        refine wp_go 2 hM (fr' := (45, [some (.inr 1), some (.inl k), some (.inl (kind v k)), some (.inl 3)], [.inl 2], σ)) rfl ?_
        refine wp_ret hM rfl (rfl) ?_
        exact ⟨by unfold rto dgr; rw [if_neg (by unfold isk; omega)]; first | (rw [if_pos (Or.inl c28)]) | (first | rw [if_pos c18] | rw [if_neg c18]); first | rw [if_pos (Or.inr (by omega))] | rw [if_neg (by omega)], rfl⟩
      · replace c28 := cmp_eq_f c28
        refine wp_go 2 hM (fr' := (33, [some (.inr 1), some (.inl k), some (.inl (kind v k)), some (.inl 3)], [.inl k, .inr 1], σ)) rfl ?_
        refine wp_calld (v := 0) (idx := 158) (j := 14) (N := mtX1_trianglesOf) (as := [.inr 1, .inl k]) (rest := []) hM rfl (Or.inl ⟨rfl, rfl⟩) rfl (sp_X1_trianglesOf v l σ k (by first | assumption | omega) (by first | assumption | omega) (by first | assumption | omega)) ?_
        show mz_Wp shA none 39 (36, [some (.inr 1), some (.inl k), some (.inl (kind v k)), some (.inl 3)], [.inl (sumI (l.length : Int) (fun i => b01 (hasK (tg l i) k)))], σ) _
        refine wp_go 1 hM (fr' := (37, [some (.inr 1), some (.inl k), some (.inl (kind v k)), some (.inl 3)], [.inl 3, .inl (sumI (l.length : Int) (fun i => b01 (hasK (tg l i) k)))], σ)) rfl ?_
        refine wp_ic (tgt := 44) hM rfl (by decide) (by omega) (by omega) (fun c37 => ?_) (fun c37 => ?_)
        · replace c37 := cmp_le_t c37
          refine wp_go 1 hM (fr' := (45, [some (.inr 1), some (.inl k), some (.inl (kind v k)), some (.inl 3)], [.inl 0], σ)) rfl ?_
          refine wp_ret hM rfl (rfl) ?_
          exact ⟨by unfold rto dgr; rw [if_neg (by unfold isk; omega)]; first | (rw [if_pos (Or.inl c28)]) | (first | rw [if_pos c18] | rw [if_neg c18]); first | rw [if_pos (Or.inr (by omega))] | rw [if_neg (by omega)], rfl⟩
        · replace c37 := cmp_le_f c37
          refine wp_go 2 hM (fr' := (45, [some (.inr 1), some (.inl k), some (.inl (kind v k)), some (.inl 3)], [.inl 2], σ)) rfl ?_
          refine wp_ret hM rfl (rfl) ?_
          exact ⟨by unfold rto dgr; rw [if_neg (by unfold isk; omega)]; first | (rw [if_pos (Or.inl c28)]) | (first | rw [if_pos c18] | rw [if_neg c18]); first | rw [if_pos (Or.inr (by omega))] | rw [if_neg (by omega)], rfl⟩
    · replace c18 := cmp_ne_f c18
      refine wp_go 4 hM (fr' := (28, [some (.inr 1), some (.inl k), some (.inl (kind v k)), some (.inl 2)], [.inl (kind v k)], σ)) rfl ?_
      refine wp_if (tgt := 40) hM rfl (by decide) (by omega) (fun c28 => ?_) (fun c28 => ?_)
      · replace c28 := cmp_eq_t c28
        refine wp_go 2 hM (fr' := (45, [some (.inr 1), some (.inl k), some (.inl (kind v k)), some (.inl 2)], [.inl 2], σ)) rfl ?_
        refine wp_ret hM rfl (rfl) ?_
        exact ⟨by unfold rto dgr; rw [if_neg (by unfold isk; omega)]; first | (rw [if_pos (Or.inl c28)]) | (first | rw [if_pos c18] | rw [if_neg c18]); first | rw [if_pos (Or.inr (by omega))] | rw [if_neg (by omega)], rfl⟩
      · replace c28 := cmp_eq_f c28
        refine wp_go 2 hM (fr' := (33, [some (.inr 1), some (.inl k), some (.inl (kind v k)), some (.inl 2)], [.inl k, .inr 1], σ)) rfl ?_
        refine wp_calld (v := 0) (idx := 158) (j := 14) (N := mtX1_trianglesOf) (as := [.inr 1, .inl k]) (rest := []) hM rfl (Or.inl ⟨rfl, rfl⟩) rfl (sp_X1_trianglesOf v l σ k (by first | assumption | omega) (by first | assumption | omega) (by first | assumption | omega)) ?_
        show mz_Wp shA none 39 (36, [some (.inr 1), some (.inl k), some (.inl (kind v k)), some (.inl 2)], [.inl (sumI (l.length : Int) (fun i => b01 (hasK (tg l i) k)))], σ) _
        refine wp_go 1 hM (fr' := (37, [some (.inr 1), some (.inl k), some (.inl (kind v k)), some (.inl 2)], [.inl 2, .inl (sumI (l.length : Int) (fun i => b01 (hasK (tg l i) k)))], σ)) rfl ?_
        refine wp_ic (tgt := 44) hM rfl (by decide) (by omega) (by omega) (fun c37 => ?_) (fun c37 => ?_)
        · replace c37 := cmp_le_t c37
          refine wp_go 1 hM (fr' := (45, [some (.inr 1), some (.inl k), some (.inl (kind v k)), some (.inl 2)], [.inl 0], σ)) rfl ?_
          refine wp_ret hM rfl (rfl) ?_
          exact ⟨by unfold rto dgr; rw [if_neg (by unfold isk; omega)]; first | (rw [if_pos (Or.inl c28)]) | (first | rw [if_pos c18] | rw [if_neg c18]); first | rw [if_pos (Or.inr (by omega))] | rw [if_neg (by omega)], rfl⟩
        · replace c37 := cmp_le_f c37
          refine wp_go 2 hM (fr' := (45, [some (.inr 1), some (.inl k), some (.inl (kind v k)), some (.inl 2)], [.inl 2], σ)) rfl ?_
          refine wp_ret hM rfl (rfl) ?_
          exact ⟨by unfold rto dgr; rw [if_neg (by unfold isk; omega)]; first | (rw [if_pos (Or.inl c28)]) | (first | rw [if_pos c18] | rw [if_neg c18]); first | rw [if_pos (Or.inr (by omega))] | rw [if_neg (by omega)], rfl⟩
  · replace c5 := b01_eq0 (cmp_ne_f c5)
    refine wp_go 1 hM (fr' := (9, [some (.inr 1), some (.inl k), none, none], [.inl 1], σ)) rfl ?_
    refine wp_ret hM rfl (rfl) ?_
    exact ⟨by unfold rto; rw [if_pos c5], rfl⟩

set_option maxRecDepth 100000 in
set_option maxHeartbeats 4000000 in
theorem sp_X1_extremeTriangle (v : mz_G) (l : List tr3) (σ : mz_G) (b : Int) (h0 : CA σ v l) (h1 : Bs v l) (h2 : mz_R b) (h3 : 1 ≤ (l.length : Int)) : mz_Cl shA 23 [.inr 1, .inl b] σ (fun r σ' => r = some (exI v l b (l.length : Int)) ∧ σ' = σ) := by
  have hM : mz_meth[23]? = some mtX1_extremeTriangle := rfl
  obtain ⟨hR, hT, hLen⟩ := id h1
  obtain ⟨⟨hW0, hW1⟩, ⟨hH0, hH1⟩, ⟨hn0, hn1⟩, hpt⟩ := id hR
  obtain ⟨⟨hc1, hc2, hc3, hc4⟩, hcp, hct, hcv⟩ := id h0
  refine mz_Cl.of hM ?_
  show mz_Wp shA none 23 (0, [some (.inr 1), some (.inl b), none, none, none], [], σ) _
  refine wp_go 4 hM (fr' := (4, [some (.inr 1), some (.inl b), some (.inl 0), some (.inl 1), none], [], σ)) rfl ?_
  have loop4 : ∀ (fuel : Nat) (o : Int) (t : Int) (d4_4 : Option mz_V), (1 ≤ t) → (t ≤ (l.length : Int)) → (0 ≤ o) → (o < t) → (o = exI v l b t) → (((l.length : Int) - t : Int) < fuel) → mz_Wp shA none 23 (4, [some (.inr 1), some (.inl b), some (.inl o), some (.inl t), d4_4], [], σ) (fun r σ' => r = some (exI v l b (l.length : Int)) ∧ σ' = σ) := by
    intro fuel
    induction fuel with
    | zero =>
      intro o t d4_4 hv4_0 hv4_1 hv4_2 hv4_3 hv4_4 hf4
      exfalso
      omega
    | succ fuel ih4 =>
      intro o t d4_4 hv4_0 hv4_1 hv4_2 hv4_3 hv4_4 hf4
      have hs := exI_s (v := v) (l := l) (b := b) hv4_0
      refine wp_go 4 hM (fr' := (12, [some (.inr 1), some (.inl b), some (.inl o), some (.inl t), d4_4], [.inl (σ 11 1), .inl t], σ)) rfl ?_
      refine wp_ic (tgt := 81) hM rfl (by decide) (by omega) (by omega) (fun c12 => ?_) (fun c12 => ?_)
      · replace c12 := cmp_ge_t c12
        refine wp_go 1 hM (fr' := (82, [some (.inr 1), some (.inl b), some (.inl o), some (.inl t), d4_4], [.inl o], σ)) rfl ?_
        refine wp_ret hM rfl (rfl) ?_
        exact ⟨by rw [hv4_4, show t = (l.length : Int) from by omega], rfl⟩
      · replace c12 := cmp_ge_f c12
        have q1 := tar_bd (l := l) (q := 1) hR (by decide) (Rt_at hT (show 0 ≤ t by omega) (show t < (l.length : Int) by omega))
        have q2 := tar_bd (l := l) (q := 0) hR (by decide) (Rt_at hT (show 0 ≤ t by omega) (show t < (l.length : Int) by omega))
        have q3 := tar_bd (l := l) (q := 1) hR (by decide) (Rt_at hT hv4_2 (show o < (l.length : Int) by omega))
        have q4 := tar_bd (l := l) (q := 0) hR (by decide) (Rt_at hT hv4_2 (show o < (l.length : Int) by omega))
        have p1 := mul_bd q1 q4 (by omega) (by omega)
        have p2 := mul_bd q3 q2 (by omega) (by omega)
        refine wp_go 4 hM (fr' := (21, [some (.inr 1), some (.inl b), some (.inl o), some (.inl t), d4_4], [.inl t, .inr 9, .inr 1], σ)) rfl ?_
        refine wp_calld (v := 0) (idx := 107) (j := 15) (N := mtX1_areaOf) (as := [.inr 1, .inr 9, .inl t]) (rest := []) hM rfl (Or.inl ⟨rfl, rfl⟩) rfl (sp_X1_areaOf_9 v l σ t (by first | assumption | omega) (by first | assumption | omega) (by first | assumption | omega) (by first | assumption | omega)) ?_
        show mz_Wp shA none 23 (24, [some (.inr 1), some (.inl b), some (.inl o), some (.inl t), d4_4], [.inl (tar v 1 (tg l t))], σ) _
        refine wp_go 4 hM (fr' := (30, [some (.inr 1), some (.inl b), some (.inl o), some (.inl t), d4_4], [.inl o, .inr 8, .inr 1, .inl (tar v 1 (tg l t))], σ)) rfl ?_
        refine wp_calld (v := 0) (idx := 107) (j := 15) (N := mtX1_areaOf) (as := [.inr 1, .inr 8, .inl o]) (rest := [.inl (tar v 1 (tg l t))]) hM rfl (Or.inl ⟨rfl, rfl⟩) rfl (sp_X1_areaOf_8 v l σ o (by first | assumption | omega) (by first | assumption | omega) (by first | assumption | omega) (by first | assumption | omega)) ?_
        show mz_Wp shA none 23 (33, [some (.inr 1), some (.inl b), some (.inl o), some (.inl t), d4_4], [.inl (tar v 0 (tg l o)), .inl (tar v 1 (tg l t))], σ) _
        refine wp_go 5 hM (fr' := (40, [some (.inr 1), some (.inl b), some (.inl o), some (.inl t), d4_4], [.inl o, .inr 9, .inr 1, .inl ((tar v 1 (tg l t)) * (tar v 0 (tg l o)))], σ)) rfl ?_
        refine wp_calld (v := 0) (idx := 107) (j := 15) (N := mtX1_areaOf) (as := [.inr 1, .inr 9, .inl o]) (rest := [.inl ((tar v 1 (tg l t)) * (tar v 0 (tg l o)))]) hM rfl (Or.inl ⟨rfl, rfl⟩) rfl (sp_X1_areaOf_9 v l σ o (by first | assumption | omega) (by first | assumption | omega) (by first | assumption | omega) (by first | assumption | omega)) ?_
        show mz_Wp shA none 23 (43, [some (.inr 1), some (.inl b), some (.inl o), some (.inl t), d4_4], [.inl (tar v 1 (tg l o)), .inl ((tar v 1 (tg l t)) * (tar v 0 (tg l o)))], σ) _
        refine wp_go 4 hM (fr' := (49, [some (.inr 1), some (.inl b), some (.inl o), some (.inl t), d4_4], [.inl t, .inr 8, .inr 1, .inl (tar v 1 (tg l o)), .inl ((tar v 1 (tg l t)) * (tar v 0 (tg l o)))], σ)) rfl ?_
        refine wp_calld (v := 0) (idx := 107) (j := 15) (N := mtX1_areaOf) (as := [.inr 1, .inr 8, .inl t]) (rest := [.inl (tar v 1 (tg l o)), .inl ((tar v 1 (tg l t)) * (tar v 0 (tg l o)))]) hM rfl (Or.inl ⟨rfl, rfl⟩) rfl (sp_X1_areaOf_8 v l σ t (by first | assumption | omega) (by first | assumption | omega) (by first | assumption | omega) (by first | assumption | omega)) ?_
        show mz_Wp shA none 23 (52, [some (.inr 1), some (.inl b), some (.inl o), some (.inl t), d4_4], [.inl (tar v 0 (tg l t)), .inl (tar v 1 (tg l o)), .inl ((tar v 1 (tg l t)) * (tar v 0 (tg l o)))], σ) _
        refine wp_go 4 hM (fr' := (57, [some (.inr 1), some (.inl b), some (.inl o), some (.inl t), some (.inl (((tar v 1 (tg l t)) * (tar v 0 (tg l o))) - ((tar v 1 (tg l o)) * (tar v 0 (tg l t)))))], [.inl b], σ)) rfl ?_
        refine wp_if (tgt := 68) hM rfl (by decide) (by omega) (fun c57 => ?_) (fun c57 => ?_)
        · replace c57 := cmp_eq_t c57
          refine wp_go 1 hM (fr' := (70, [some (.inr 1), some (.inl b), some (.inl o), some (.inl t), some (.inl (((tar v 1 (tg l t)) * (tar v 0 (tg l o))) - ((tar v 1 (tg l o)) * (tar v 0 (tg l t)))))], [.inl (((tar v 1 (tg l t)) * (tar v 0 (tg l o))) - ((tar v 1 (tg l o)) * (tar v 0 (tg l t))))], σ)) rfl ?_
          refine wp_if (tgt := 75) hM rfl (by decide) (by omega) (fun c70 => ?_) (fun c70 => ?_)
          · replace c70 := cmp_le_t c70
            refine wp_go 2 hM (fr' := (4, [some (.inr 1), some (.inl b), some (.inl o), some (.inl (t + 1)), some (.inl (((tar v 1 (tg l t)) * (tar v 0 (tg l o))) - ((tar v 1 (tg l o)) * (tar v 0 (tg l t)))))], [], σ)) rfl ?_
            exact ih4 o (t + 1) (some (.inl (((tar v 1 (tg l t)) * (tar v 0 (tg l o))) - ((tar v 1 (tg l o)) * (tar v 0 (tg l t)))))) (by omega) (by omega) (by omega) (by omega) (by rw [hs, ← hv4_4]; unfold exv; (first | rw [if_pos c57] | rw [if_neg c57]); (first | rw [if_pos (by omega)] | rw [if_neg (by omega)])) (by omega)
          · replace c70 := cmp_le_f c70
            refine wp_go 4 hM (fr' := (4, [some (.inr 1), some (.inl b), some (.inl t), some (.inl (t + 1)), some (.inl (((tar v 1 (tg l t)) * (tar v 0 (tg l o))) - ((tar v 1 (tg l o)) * (tar v 0 (tg l t)))))], [], σ)) rfl ?_
            exact ih4 t (t + 1) (some (.inl (((tar v 1 (tg l t)) * (tar v 0 (tg l o))) - ((tar v 1 (tg l o)) * (tar v 0 (tg l t)))))) (by omega) (by omega) (by omega) (by omega) (by rw [hs, ← hv4_4]; unfold exv; (first | rw [if_pos c57] | rw [if_neg c57]); (first | rw [if_pos (by omega)] | rw [if_neg (by omega)])) (by omega)
        · replace c57 := cmp_eq_f c57
          refine wp_go 1 hM (fr' := (62, [some (.inr 1), some (.inl b), some (.inl o), some (.inl t), some (.inl (((tar v 1 (tg l t)) * (tar v 0 (tg l o))) - ((tar v 1 (tg l o)) * (tar v 0 (tg l t)))))], [.inl (((tar v 1 (tg l t)) * (tar v 0 (tg l o))) - ((tar v 1 (tg l o)) * (tar v 0 (tg l t))))], σ)) rfl ?_
          refine wp_if (tgt := 75) hM rfl (by decide) (by omega) (fun c62 => ?_) (fun c62 => ?_)
          · replace c62 := cmp_ge_t c62
            refine wp_go 2 hM (fr' := (4, [some (.inr 1), some (.inl b), some (.inl o), some (.inl (t + 1)), some (.inl (((tar v 1 (tg l t)) * (tar v 0 (tg l o))) - ((tar v 1 (tg l o)) * (tar v 0 (tg l t)))))], [], σ)) rfl ?_
            exact ih4 o (t + 1) (some (.inl (((tar v 1 (tg l t)) * (tar v 0 (tg l o))) - ((tar v 1 (tg l o)) * (tar v 0 (tg l t)))))) (by omega) (by omega) (by omega) (by omega) (by rw [hs, ← hv4_4]; unfold exv; (first | rw [if_pos c57] | rw [if_neg c57]); (first | rw [if_pos (by omega)] | rw [if_neg (by omega)])) (by omega)
          · replace c62 := cmp_ge_f c62
            refine wp_go 5 hM (fr' := (4, [some (.inr 1), some (.inl b), some (.inl t), some (.inl (t + 1)), some (.inl (((tar v 1 (tg l t)) * (tar v 0 (tg l o))) - ((tar v 1 (tg l o)) * (tar v 0 (tg l t)))))], [], σ)) rfl ?_
            exact ih4 t (t + 1) (some (.inl (((tar v 1 (tg l t)) * (tar v 0 (tg l o))) - ((tar v 1 (tg l o)) * (tar v 0 (tg l t)))))) (by omega) (by omega) (by omega) (by omega) (by rw [hs, ← hv4_4]; unfold exv; (first | rw [if_pos c57] | rw [if_neg c57]); (first | rw [if_pos (by omega)] | rw [if_neg (by omega)])) (by omega)
  exact loop4 65 0 1 (none) (by omega) (by omega) (by omega) (by omega) (by rfl) (by omega)
