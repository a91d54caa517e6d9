/-- the state is in its ranges -/
def Bs (v : mz_G) (l : List tr3) : Prop := Rg v ∧ Rt (v 0 2) l ∧ (l.length : Int) ≤ 60
/-- 0 a corner, 1 on a side, 2 within -/
def kind (v : mz_G) (k : Int) : Int := if k < 4 then 0 else if gx v 0 k = 0 ∨ gx v 0 k = v 0 0 - 1 ∨ gy v 0 k = 0 ∨ gy v 0 k = v 0 1 - 1 then 1 else 2
/-- a place is on each side on which the home is -/
abbrev keeps (v : mz_G) (a b x y : Int) : Prop := (a = 0 → x = 0) ∧ (a = v 0 0 - 1 → x = v 0 0 - 1) ∧ (b = 0 → y = 0) ∧ (b = v 0 1 - 1 → y = v 0 1 - 1)
set_option maxRecDepth 100000 in
set_option maxHeartbeats 4000000 in
theorem sp_X4_first_v (v : mz_G) (l : List tr3) (σ : mz_G) (t : Int) (h0 : CA σ v l) (h1 : Bs v l) (h2 : 0 ≤ t) (h3 : t < (l.length : Int)) : mz_Cl shA 54 [.inr 11, .inl t] σ (fun r σ' => r = some ((tg l t).1) ∧ σ' = σ) := by
  have e := CA_tri h0 h2 h3
  have hp := pk_1 (Rt_at h1.2.1 h2 h3) h1.1.2.2.1.2
  have hl := h1.2.2
  refine (sp_X4_first σ t h2 (by omega) (by rw [e]; constructor <;> omega)).mono (fun r σ' h => ⟨?_, h.2⟩)
  rw [h.1, e, hp.1]

set_option maxRecDepth 100000 in
set_option maxHeartbeats 4000000 in
theorem sp_X4_second_v (v : mz_G) (l : List tr3) (σ : mz_G) (t : Int) (h0 : CA σ v l) (h1 : Bs v l) (h2 : 0 ≤ t) (h3 : t < (l.length : Int)) : mz_Cl shA 55 [.inr 11, .inl t] σ (fun r σ' => r = some ((tg l t).2.1) ∧ σ' = σ) := by
  have e := CA_tri h0 h2 h3
  have hp := pk_1 (Rt_at h1.2.1 h2 h3) h1.1.2.2.1.2
  have hl := h1.2.2
  refine (sp_X4_second σ t h2 (by omega) (by rw [e]; constructor <;> omega)).mono (fun r σ' h => ⟨?_, h.2⟩)
  rw [h.1, e, hp.2.1]

set_option maxRecDepth 100000 in
set_option maxHeartbeats 4000000 in
theorem sp_X4_third_v (v : mz_G) (l : List tr3) (σ : mz_G) (t : Int) (h0 : CA σ v l) (h1 : Bs v l) (h2 : 0 ≤ t) (h3 : t < (l.length : Int)) : mz_Cl shA 56 [.inr 11, .inl t] σ (fun r σ' => r = some ((tg l t).2.2) ∧ σ' = σ) := by
  have e := CA_tri h0 h2 h3
  have hp := pk_1 (Rt_at h1.2.1 h2 h3) h1.1.2.2.1.2
  have hl := h1.2.2
  refine (sp_X4_third σ t h2 (by omega) ).mono (fun r σ' h => ⟨?_, h.2⟩)
  rw [h.1, e, hp.2.2.1]

set_option maxRecDepth 100000 in
set_option maxHeartbeats 4000000 in
theorem sp_X4_has (v : mz_G) (l : List tr3) (σ : mz_G) (t : Int) (k : Int) (h0 : CA σ v l) (h1 : Bs v l) (h2 : 0 ≤ t) (h3 : t < (l.length : Int)) (h4 : mz_R k) : mz_Cl shA 57 [.inr 11, .inl t, .inl k] σ (fun r σ' => r = some (b01 (hasK (tg l t) k)) ∧ σ' = σ) := by
  have hM : mz_meth[57]? = some mtX4_has := rfl
  obtain ⟨hR, hT, hLen⟩ := id h1
  obtain ⟨⟨hW0, hW1⟩, ⟨hH0, hH1⟩, ⟨hn0, hn1⟩, hpt⟩ := id hR
  obtain ⟨⟨hc1, hc2, hc3, hc4⟩, hcp, hct, hcv⟩ := id h0
  have ht := Rt_at hT h2 h3
  refine mz_Cl.of hM ?_
  show mz_Wp shA none 57 (0, [some (.inr 11), some (.inl t), some (.inl k)], [], σ) _
  refine wp_go 2 hM (fr' := (2, [some (.inr 11), some (.inl t), some (.inl k)], [.inl t, .inr 11], σ)) rfl ?_
  refine wp_calld (v := 0) (idx := 19) (j := 54) (N := mtX4_first) (as := [.inr 11, .inl t]) (rest := []) hM rfl (Or.inl ⟨rfl, rfl⟩) rfl (sp_X4_first_v v l σ t (by first | assumption | omega) (by first | assumption | omega) (by first | assumption | omega) (by first | assumption | omega)) ?_
  show mz_Wp shA none 57 (5, [some (.inr 11), some (.inl t), some (.inl k)], [.inl ((tg l t).1)], σ) _
  refine wp_go 1 hM (fr' := (6, [some (.inr 11), some (.inl t), some (.inl k)], [.inl k, .inl ((tg l t).1)], σ)) rfl ?_
  refine wp_ic (tgt := 27) hM rfl (by decide) (by omega) (by omega) (fun c6 => ?_) (fun c6 => ?_)
  · replace c6 := cmp_eq_t c6
    refine wp_go 2 hM (fr' := (32, [some (.inr 11), some (.inl t), some (.inl k)], [.inl 1], σ)) rfl ?_
    refine wp_ret hM rfl (rfl) ?_
    first | exact r_t (by unfold hasK; omega) | exact r_f (by unfold hasK; omega)
  · replace c6 := cmp_eq_f c6
    refine wp_go 2 hM (fr' := (11, [some (.inr 11), some (.inl t), some (.inl k)], [.inl t, .inr 11], σ)) rfl ?_
    refine wp_calld (v := 0) (idx := 23) (j := 55) (N := mtX4_second) (as := [.inr 11, .inl t]) (rest := []) hM rfl (Or.inl ⟨rfl, rfl⟩) rfl (sp_X4_second_v v l σ t (by first | assumption | omega) (by first | assumption | omega) (by first | assumption | omega) (by first | assumption | omega)) ?_
    show mz_Wp shA none 57 (14, [some (.inr 11), some (.inl t), some (.inl k)], [.inl ((tg l t).2.1)], σ) _
    refine wp_go 1 hM (fr' := (15, [some (.inr 11), some (.inl t), some (.inl k)], [.inl k, .inl ((tg l t).2.1)], σ)) rfl ?_
    refine wp_ic (tgt := 27) hM rfl (by decide) (by omega) (by omega) (fun c15 => ?_) (fun c15 => ?_)
    · replace c15 := cmp_eq_t c15
      refine wp_go 2 hM (fr' := (32, [some (.inr 11), some (.inl t), some (.inl k)], [.inl 1], σ)) rfl ?_
      refine wp_ret hM rfl (rfl) ?_
      first | exact r_t (by unfold hasK; omega) | exact r_f (by unfold hasK; omega)
    · replace c15 := cmp_eq_f c15
      refine wp_go 2 hM (fr' := (20, [some (.inr 11), some (.inl t), some (.inl k)], [.inl t, .inr 11], σ)) rfl ?_
      refine wp_calld (v := 0) (idx := 26) (j := 56) (N := mtX4_third) (as := [.inr 11, .inl t]) (rest := []) hM rfl (Or.inl ⟨rfl, rfl⟩) rfl (sp_X4_third_v v l σ t (by first | assumption | omega) (by first | assumption | omega) (by first | assumption | omega) (by first | assumption | omega)) ?_
      show mz_Wp shA none 57 (23, [some (.inr 11), some (.inl t), some (.inl k)], [.inl ((tg l t).2.2)], σ) _
      refine wp_go 1 hM (fr' := (24, [some (.inr 11), some (.inl t), some (.inl k)], [.inl k, .inl ((tg l t).2.2)], σ)) rfl ?_
      refine wp_ic (tgt := 31) hM rfl (by decide) (by omega) (by omega) (fun c24 => ?_) (fun c24 => ?_)
      · replace c24 := cmp_ne_t c24
        refine wp_go 1 hM (fr' := (32, [some (.inr 11), some (.inl t), some (.inl k)], [.inl 0], σ)) rfl ?_
        refine wp_ret hM rfl (rfl) ?_
        first | exact r_t (by unfold hasK; omega) | exact r_f (by unfold hasK; omega)
      · replace c24 := cmp_ne_f c24
        refine wp_go 2 hM (fr' := (32, [some (.inr 11), some (.inl t), some (.inl k)], [.inl 1], σ)) rfl ?_
        refine wp_ret hM rfl (rfl) ?_
        first | exact r_t (by unfold hasK; omega) | exact r_f (by unfold hasK; omega)

set_option maxRecDepth 100000 in
set_option maxHeartbeats 4000000 in
theorem sp_X2_areaWith_8_v (v : mz_G) (l : List tr3) (σ : mz_G) (x : Int) (y : Int) (b : Int) (c : Int) (h0 : CA σ v l) (h1 : Bs v l) (h2 : 0 ≤ b) (h3 : b < v 0 2) (h4 : 0 ≤ c) (h5 : c < v 0 2) : mz_Cl shA 45 [.inr 8, .inl x, .inl y, .inl b, .inl c] σ (fun r σ' => r = some (ar x y (gx v 0 b) (gy v 0 b) (gx v 0 c) (gy v 0 c)) ∧ σ' = σ) := by
  have hb := CA_pt h0 h2 h3
  have hc := CA_pt h0 h4 h5
  have hn := h1.1.2.2.1.2
  refine (sp_X2_areaWith_8 σ x y b c h2 (by omega) h4 (by omega)).mono (fun r σ' h => ⟨?_, h.2⟩)
  rw [h.1, hb.1, hb.2.1, hc.1, hc.2.1]

set_option maxRecDepth 100000 in
set_option maxHeartbeats 4000000 in
theorem sp_X2_area_8_v (v : mz_G) (l : List tr3) (σ : mz_G) (a : Int) (b : Int) (c : Int) (h0 : CA σ v l) (h1 : Bs v l) (h2 : 0 ≤ a) (h3 : a < v 0 2) (h4 : 0 ≤ b) (h5 : b < v 0 2) (h6 : 0 ≤ c) (h7 : c < v 0 2) : mz_Cl shA 44 [.inr 8, .inl a, .inl b, .inl c] σ (fun r σ' => r = some (ar (gx v 0 a) (gy v 0 a) (gx v 0 b) (gy v 0 b) (gx v 0 c) (gy v 0 c)) ∧ σ' = σ) := by
  have ha := CA_pt h0 h2 h3
  have hb := CA_pt h0 h4 h5
  have hc := CA_pt h0 h6 h7
  have hn := h1.1.2.2.1.2
  refine (sp_X2_area_8 σ a b c h2 (by omega) h4 (by omega) h6 (by omega)).mono (fun r σ' h => ⟨?_, h.2⟩)
  rw [h.1, ha.1, ha.2.1, hb.1, hb.2.1, hc.1, hc.2.1]

set_option maxRecDepth 100000 in
set_option maxHeartbeats 4000000 in
theorem sp_X2_isAt_8_v (v : mz_G) (l : List tr3) (σ : mz_G) (k : Int) (x : Int) (y : Int) (h0 : CA σ v l) (h1 : Bs v l) (h2 : 0 ≤ k) (h3 : k < v 0 2) (h4 : mz_R x) (h5 : mz_R y) : mz_Cl shA 43 [.inr 8, .inl k, .inl x, .inl y] σ (fun r σ' => r = some (b01 (gx v 0 k = x ∧ gy v 0 k = y)) ∧ σ' = σ) := by
  have ha := CA_pt h0 h2 h3
  have hr := Rg_pt h1.1 h2 h3
  have hn := h1.1.2.2.1.2
  have hW := h1.1.1
  have hH := h1.1.2.1
  have hx := h1.1.2.1
  refine (sp_X2_isAt_8 σ k x y h2 (by omega) (by rw [ha.1]; constructor <;> omega) (by rw [ha.2.1]; constructor <;> omega) h4 h5).mono (fun r σ' h => ⟨?_, h.2⟩)
  rw [h.1, ha.1, ha.2.1]

set_option maxRecDepth 100000 in
set_option maxHeartbeats 4000000 in
theorem sp_X2_sq_8_v (v : mz_G) (l : List tr3) (σ : mz_G) (a : Int) (b : Int) (h0 : CA σ v l) (h1 : Bs v l) (h2 : 0 ≤ a) (h3 : a < v 0 2) (h4 : 0 ≤ b) (h5 : b < v 0 2) : mz_Cl shA 46 [.inr 8, .inl a, .inl b] σ (fun r σ' => r = some ((gx v 0 b - gx v 0 a) * (gx v 0 b - gx v 0 a) + (gy v 0 b - gy v 0 a) * (gy v 0 b - gy v 0 a)) ∧ σ' = σ) := by
  have ha := CA_pt h0 h2 h3
  have hb := CA_pt h0 h4 h5
  have hn := h1.1.2.2.1.2
  refine (sp_X2_squareOfLength_8 σ a b h2 (by omega) h4 (by omega)).mono (fun r σ' h => ⟨?_, h.2⟩)
  rw [h.1, ha.1, ha.2.1, hb.1, hb.2.1]

set_option maxRecDepth 100000 in
set_option maxHeartbeats 4000000 in
theorem sp_X2_areaWith_9_v (v : mz_G) (l : List tr3) (σ : mz_G) (x : Int) (y : Int) (b : Int) (c : Int) (h0 : CA σ v l) (h1 : Bs v l) (h2 : 0 ≤ b) (h3 : b < v 0 2) (h4 : 0 ≤ c) (h5 : c < v 0 2) : mz_Cl shA 45 [.inr 9, .inl x, .inl y, .inl b, .inl c] σ (fun r σ' => r = some (ar x y (gx v 1 b) (gy v 1 b) (gx v 1 c) (gy v 1 c)) ∧ σ' = σ) := by
  have hb := CA_pt h0 h2 h3
  have hc := CA_pt h0 h4 h5
  have hn := h1.1.2.2.1.2
  refine (sp_X2_areaWith_9 σ x y b c h2 (by omega) h4 (by omega)).mono (fun r σ' h => ⟨?_, h.2⟩)
  rw [h.1, hb.2.2.1, hb.2.2.2, hc.2.2.1, hc.2.2.2]

set_option maxRecDepth 100000 in
set_option maxHeartbeats 4000000 in
theorem sp_X2_area_9_v (v : mz_G) (l : List tr3) (σ : mz_G) (a : Int) (b : Int) (c : Int) (h0 : CA σ v l) (h1 : Bs v l) (h2 : 0 ≤ a) (h3 : a < v 0 2) (h4 : 0 ≤ b) (h5 : b < v 0 2) (h6 : 0 ≤ c) (h7 : c < v 0 2) : mz_Cl shA 44 [.inr 9, .inl a, .inl b, .inl c] σ (fun r σ' => r = some (ar (gx v 1 a) (gy v 1 a) (gx v 1 b) (gy v 1 b) (gx v 1 c) (gy v 1 c)) ∧ σ' = σ) := by
  have ha := CA_pt h0 h2 h3
  have hb := CA_pt h0 h4 h5
  have hc := CA_pt h0 h6 h7
  have hn := h1.1.2.2.1.2
  refine (sp_X2_area_9 σ a b c h2 (by omega) h4 (by omega) h6 (by omega)).mono (fun r σ' h => ⟨?_, h.2⟩)
  rw [h.1, ha.2.2.1, ha.2.2.2, hb.2.2.1, hb.2.2.2, hc.2.2.1, hc.2.2.2]

set_option maxRecDepth 100000 in
set_option maxHeartbeats 4000000 in
theorem sp_X2_isAt_9_v (v : mz_G) (l : List tr3) (σ : mz_G) (k : Int) (x : Int) (y : Int) (h0 : CA σ v l) (h1 : Bs v l) (h2 : 0 ≤ k) (h3 : k < v 0 2) (h4 : mz_R x) (h5 : mz_R y) : mz_Cl shA 43 [.inr 9, .inl k, .inl x, .inl y] σ (fun r σ' => r = some (b01 (gx v 1 k = x ∧ gy v 1 k = y)) ∧ σ' = σ) := by
  have ha := CA_pt h0 h2 h3
  have hr := Rg_pt h1.1 h2 h3
  have hn := h1.1.2.2.1.2
  have hW := h1.1.1
  have hH := h1.1.2.1
  have hx := h1.1.2.1
  refine (sp_X2_isAt_9 σ k x y h2 (by omega) (by rw [ha.2.2.1]; constructor <;> omega) (by rw [ha.2.2.2]; constructor <;> omega) h4 h5).mono (fun r σ' h => ⟨?_, h.2⟩)
  rw [h.1, ha.2.2.1, ha.2.2.2]

set_option maxRecDepth 100000 in
set_option maxHeartbeats 4000000 in
theorem sp_X2_sq_9_v (v : mz_G) (l : List tr3) (σ : mz_G) (a : Int) (b : Int) (h0 : CA σ v l) (h1 : Bs v l) (h2 : 0 ≤ a) (h3 : a < v 0 2) (h4 : 0 ≤ b) (h5 : b < v 0 2) : mz_Cl shA 46 [.inr 9, .inl a, .inl b] σ (fun r σ' => r = some ((gx v 1 b - gx v 1 a) * (gx v 1 b - gx v 1 a) + (gy v 1 b - gy v 1 a) * (gy v 1 b - gy v 1 a)) ∧ σ' = σ) := by
  have ha := CA_pt h0 h2 h3
  have hb := CA_pt h0 h4 h5
  have hn := h1.1.2.2.1.2
  refine (sp_X2_squareOfLength_9 σ a b h2 (by omega) h4 (by omega)).mono (fun r σ' h => ⟨?_, h.2⟩)
  rw [h.1, ha.2.2.1, ha.2.2.2, hb.2.2.1, hb.2.2.2]

set_option maxRecDepth 100000 in
set_option maxHeartbeats 4000000 in
theorem sp_X1_isDot (v : mz_G) (l : List tr3) (σ : mz_G) (x : Int) (y : Int) (h0 : CA σ v l) (h1 : Bs v l) (h2 : mz_R x) (h3 : mz_R y) : mz_Cl shA 9 [.inr 1, .inl x, .inl y] σ (fun r σ' => r = some (b01 (dot v x y)) ∧ σ' = σ) := by
  have hM : mz_meth[9]? = some mtX1_isDot := rfl
  obtain ⟨hR, hT, hLen⟩ := id h1
  obtain ⟨⟨hW0, hW1⟩, ⟨hH0, hH1⟩, ⟨hn0, hn1⟩, hpt⟩ := id hR
  obtain ⟨⟨hc1, hc2, hc3, hc4⟩, hcp, hct, hcv⟩ := id h0
  refine mz_Cl.of hM ?_
  show mz_Wp shA none 9 (0, [some (.inr 1), some (.inl x), some (.inl y)], [], σ) _
  refine wp_go 1 hM (fr' := (1, [some (.inr 1), some (.inl x), some (.inl y)], [.inl x], σ)) rfl ?_
  refine wp_if (tgt := 28) hM rfl (by decide) (by omega) (fun c1 => ?_) (fun c1 => ?_)
  · replace c1 := cmp_lt_t c1
    refine wp_go 1 hM (fr' := (29, [some (.inr 1), some (.inl x), some (.inl y)], [.inl 0], σ)) rfl ?_
    refine wp_ret hM rfl (rfl) ?_
    first | exact r_t (by unfold dot; omega) | exact r_f (by unfold dot; omega)
  · replace c1 := cmp_lt_f c1
    refine wp_go 3 hM (fr' := (9, [some (.inr 1), some (.inl x), some (.inl y)], [.inl (σ 1 8), .inl x], σ)) rfl ?_
    refine wp_ic (tgt := 28) hM rfl (by decide) (by omega) (by omega) (fun c9 => ?_) (fun c9 => ?_)
    · replace c9 := cmp_ge_t c9
      refine wp_go 1 hM (fr' := (29, [some (.inr 1), some (.inl x), some (.inl y)], [.inl 0], σ)) rfl ?_
      refine wp_ret hM rfl (rfl) ?_
      first | exact r_t (by unfold dot; omega) | exact r_f (by unfold dot; omega)
    · replace c9 := cmp_ge_f c9
      refine wp_go 1 hM (fr' := (13, [some (.inr 1), some (.inl x), some (.inl y)], [.inl y], σ)) rfl ?_
      refine wp_if (tgt := 28) hM rfl (by decide) (by omega) (fun c13 => ?_) (fun c13 => ?_)
      · replace c13 := cmp_lt_t c13
        refine wp_go 1 hM (fr' := (29, [some (.inr 1), some (.inl x), some (.inl y)], [.inl 0], σ)) rfl ?_
        refine wp_ret hM rfl (rfl) ?_
        first | exact r_t (by unfold dot; omega) | exact r_f (by unfold dot; omega)
      · replace c13 := cmp_lt_f c13
        refine wp_go 3 hM (fr' := (21, [some (.inr 1), some (.inl x), some (.inl y)], [.inl (σ 1 9), .inl y], σ)) rfl ?_
        refine wp_ic (tgt := 28) hM rfl (by decide) (by omega) (by omega) (fun c21 => ?_) (fun c21 => ?_)
        · replace c21 := cmp_ge_t c21
          refine wp_go 1 hM (fr' := (29, [some (.inr 1), some (.inl x), some (.inl y)], [.inl 0], σ)) rfl ?_
          refine wp_ret hM rfl (rfl) ?_
          first | exact r_t (by unfold dot; omega) | exact r_f (by unfold dot; omega)
        · replace c21 := cmp_ge_f c21
          refine wp_go 2 hM (fr' := (29, [some (.inr 1), some (.inl x), some (.inl y)], [.inl 1], σ)) rfl ?_
          refine wp_ret hM rfl (rfl) ?_
          first | exact r_t (by unfold dot; omega) | exact r_f (by unfold dot; omega)

set_option maxRecDepth 100000 in
set_option maxHeartbeats 4000000 in
theorem sp_X1_dotNumber (v : mz_G) (l : List tr3) (σ : mz_G) (x : Int) (y : Int) (h0 : CA σ v l) (h1 : Bs v l) : mz_Cl shA 10 [.inr 1, .inl x, .inl y] σ (fun r σ' => r = some (y * v 0 0 + x) ∧ σ' = σ) := by
  have hM : mz_meth[10]? = some mtX1_dotNumber := rfl
  obtain ⟨hR, hT, hLen⟩ := id h1
  obtain ⟨⟨hW0, hW1⟩, ⟨hH0, hH1⟩, ⟨hn0, hn1⟩, hpt⟩ := id hR
  obtain ⟨⟨hc1, hc2, hc3, hc4⟩, hcp, hct, hcv⟩ := id h0
  refine mz_Cl.of hM ?_
  show mz_Wp shA none 10 (0, [some (.inr 1), some (.inl x), some (.inl y)], [], σ) _
  refine wp_go 6 hM (fr' := (8, [some (.inr 1), some (.inl x), some (.inl y)], [.inl ((y * (σ 1 8)) + x)], σ)) rfl ?_
  refine wp_ret hM rfl (rfl) ?_
  exact ⟨by rw [hc1], rfl⟩

set_option maxRecDepth 100000 in
set_option maxHeartbeats 4000000 in
theorem sp_X1_dots (v : mz_G) (l : List tr3) (σ : mz_G)  (h0 : CA σ v l) (h1 : Bs v l) : mz_Cl shA 11 [.inr 1] σ (fun r σ' => r = some (v 0 0 * v 0 1) ∧ σ' = σ) := by
  have hM : mz_meth[11]? = some mtX1_dots := rfl
  obtain ⟨hR, hT, hLen⟩ := id h1
  obtain ⟨⟨hW0, hW1⟩, ⟨hH0, hH1⟩, ⟨hn0, hn1⟩, hpt⟩ := id hR
  obtain ⟨⟨hc1, hc2, hc3, hc4⟩, hcp, hct, hcv⟩ := id h0
  refine mz_Cl.of hM ?_
  show mz_Wp shA none 11 (0, [some (.inr 1)], [], σ) _
  refine wp_go 5 hM (fr' := (9, [some (.inr 1)], [.inl ((σ 1 8) * (σ 1 9))], σ)) rfl ?_
  refine wp_ret hM rfl (rfl) ?_
  exact ⟨by rw [hc1, hc2], rfl⟩

set_option maxRecDepth 100000 in
set_option maxHeartbeats 4000000 in
theorem sp_X1_isKnot (v : mz_G) (l : List tr3) (σ : mz_G) (k : Int) (h0 : CA σ v l) (h1 : Bs v l) (h2 : mz_R k) : mz_Cl shA 12 [.inr 1, .inl k] σ (fun r σ' => r = some (b01 (isk v k)) ∧ σ' = σ) := by
  have hM : mz_meth[12]? = some mtX1_isKnot := rfl
  obtain ⟨hR, hT, hLen⟩ := id h1
  obtain ⟨⟨hW0, hW1⟩, ⟨hH0, hH1⟩, ⟨hn0, hn1⟩, hpt⟩ := id hR
  obtain ⟨⟨hc1, hc2, hc3, hc4⟩, hcp, hct, hcv⟩ := id h0
  refine mz_Cl.of hM ?_
  show mz_Wp shA none 12 (0, [some (.inr 1), some (.inl k)], [], σ) _
  refine wp_go 1 hM (fr' := (1, [some (.inr 1), some (.inl k)], [.inl k], σ)) rfl ?_
  refine wp_if (tgt := 16) hM rfl (by decide) (by omega) (fun c1 => ?_) (fun c1 => ?_)
  · replace c1 := cmp_lt_t c1
    refine wp_go 1 hM (fr' := (17, [some (.inr 1), some (.inl k)], [.inl 0], σ)) rfl ?_
    refine wp_ret hM rfl (rfl) ?_
    first | exact r_t (by unfold isk; omega) | exact r_f (by unfold isk; omega)
  · replace c1 := cmp_lt_f c1
    refine wp_go 3 hM (fr' := (9, [some (.inr 1), some (.inl k)], [.inl (σ 1 7), .inl k], σ)) rfl ?_
    refine wp_ic (tgt := 16) hM rfl (by decide) (by omega) (by omega) (fun c9 => ?_) (fun c9 => ?_)
    · replace c9 := cmp_ge_t c9
      refine wp_go 1 hM (fr' := (17, [some (.inr 1), some (.inl k)], [.inl 0], σ)) rfl ?_
      refine wp_ret hM rfl (rfl) ?_
      first | exact r_t (by unfold isk; omega) | exact r_f (by unfold isk; omega)
    · replace c9 := cmp_ge_f c9
      refine wp_go 2 hM (fr' := (17, [some (.inr 1), some (.inl k)], [.inl 1], σ)) rfl ?_
      refine wp_ret hM rfl (rfl) ?_
      first | exact r_t (by unfold isk; omega) | exact r_f (by unfold isk; omega)

set_option maxRecDepth 100000 in
set_option maxHeartbeats 4000000 in
theorem sp_X1_edges (v : mz_G) (l : List tr3) (σ : mz_G)  (h0 : CA σ v l) (h1 : Bs v l) : mz_Cl shA 18 [.inr 1] σ (fun r σ' => r = some (v 0 2 + (l.length : Int) - 1) ∧ σ' = σ) := by
  have hM : mz_meth[18]? = some mtX1_edges := rfl
  obtain ⟨hR, hT, hLen⟩ := id h1
  obtain ⟨⟨hW0, hW1⟩, ⟨hH0, hH1⟩, ⟨hn0, hn1⟩, hpt⟩ := id hR
  obtain ⟨⟨hc1, hc2, hc3, hc4⟩, hcp, hct, hcv⟩ := id h0
  refine mz_Cl.of hM ?_
  show mz_Wp shA none 18 (0, [some (.inr 1)], [], σ) _
  refine wp_go 8 hM (fr' := (14, [some (.inr 1)], [.inl (((σ 1 7) + (σ 11 1)) - 1)], σ)) rfl ?_
  refine wp_ret hM rfl (rfl) ?_
  exact ⟨by rw [hc3, hc4], rfl⟩

set_option maxRecDepth 100000 in
set_option maxHeartbeats 4000000 in
theorem sp_X1_kindOf (v : mz_G) (l : List tr3) (σ : mz_G) (k : Int) (h0 : CA σ v l) (h1 : Bs v l) (h2 : 0 ≤ k) (h3 : k < v 0 2) : mz_Cl shA 13 [.inr 1, .inl k] σ (fun r σ' => r = some (kind v k) ∧ σ' = σ) := by
  have hM : mz_meth[13]? = some mtX1_kindOf := rfl
  obtain ⟨hR, hT, hLen⟩ := id h1
  obtain ⟨⟨hW0, hW1⟩, ⟨hH0, hH1⟩, ⟨hn0, hn1⟩, hpt⟩ := id hR
  obtain ⟨⟨hc1, hc2, hc3, hc4⟩, hcp, hct, hcv⟩ := id h0
  have hk := CA_pt h0 h2 h3
  have hr := Rg_pt hR h2 h3
  refine mz_Cl.of hM ?_
  show mz_Wp shA none 13 (0, [some (.inr 1), some (.inl k), none, none], [], σ) _
  refine wp_go 2 hM (fr' := (2, [some (.inr 1), some (.inl k), none, none], [.inl 4, .inl k], σ)) rfl ?_
  refine wp_ic (tgt := 7) hM rfl (by decide) (by omega) (by omega) (fun c2 => ?_) (fun c2 => ?_)
  · replace c2 := cmp_ge_t c2
    refine wp_go 4 hM (fr' := (15, [some (.inr 1), some (.inl k), none, none], [.inl k, .inr 16], σ)) rfl ?_
    refine wp_al (n := 32) hM rfl (by decide) rfl (by omega) (by omega) ?_
    refine wp_go 5 hM (fr' := (25, [some (.inr 1), some (.inl k), some (.inl (σ 16 (k).toNat)), none], [.inl k, .inr 17], σ)) rfl ?_
    refine wp_al (n := 32) hM rfl (by decide) rfl (by omega) (by omega) ?_
    refine wp_go 2 hM (fr' := (28, [some (.inr 1), some (.inl k), some (.inl (σ 16 (k).toNat)), some (.inl (σ 17 (k).toNat))], [.inl (σ 16 (k).toNat)], σ)) rfl ?_
    refine wp_if (tgt := 55) hM rfl (by decide) (by omega) (fun c28 => ?_) (fun c28 => ?_)
    · replace c28 := cmp_eq_t c28
      refine wp_go 2 hM (fr' := (60, [some (.inr 1), some (.inl k), some (.inl (σ 16 (k).toNat)), some (.inl (σ 17 (k).toNat))], [.inl 1], σ)) rfl ?_
      refine wp_ret hM rfl (rfl) ?_
      exact ⟨by unfold kind; first | rw [if_pos (by omega)] | (rw [if_neg (by omega)]; first | rw [if_pos (by omega)] | rw [if_neg (by omega)]), rfl⟩
    · replace c28 := cmp_eq_f c28
      refine wp_go 5 hM (fr' := (38, [some (.inr 1), some (.inl k), some (.inl (σ 16 (k).toNat)), some (.inl (σ 17 (k).toNat))], [.inl ((σ 1 8) - 1), .inl (σ 16 (k).toNat)], σ)) rfl ?_
      refine wp_ic (tgt := 55) hM rfl (by decide) (by omega) (by omega) (fun c38 => ?_) (fun c38 => ?_)
      · replace c38 := cmp_eq_t c38
        refine wp_go 2 hM (fr' := (60, [some (.inr 1), some (.inl k), some (.inl (σ 16 (k).toNat)), some (.inl (σ 17 (k).toNat))], [.inl 1], σ)) rfl ?_
        refine wp_ret hM rfl (rfl) ?_
        exact ⟨by unfold kind; first | rw [if_pos (by omega)] | (rw [if_neg (by omega)]; first | rw [if_pos (by omega)] | rw [if_neg (by omega)]), rfl⟩
      · replace c38 := cmp_eq_f c38
        refine wp_go 1 hM (fr' := (42, [some (.inr 1), some (.inl k), some (.inl (σ 16 (k).toNat)), some (.inl (σ 17 (k).toNat))], [.inl (σ 17 (k).toNat)], σ)) rfl ?_
        refine wp_if (tgt := 55) hM rfl (by decide) (by omega) (fun c42 => ?_) (fun c42 => ?_)
        · replace c42 := cmp_eq_t c42
          refine wp_go 2 hM (fr' := (60, [some (.inr 1), some (.inl k), some (.inl (σ 16 (k).toNat)), some (.inl (σ 17 (k).toNat))], [.inl 1], σ)) rfl ?_
          refine wp_ret hM rfl (rfl) ?_
          exact ⟨by unfold kind; first | rw [if_pos (by omega)] | (rw [if_neg (by omega)]; first | rw [if_pos (by omega)] | rw [if_neg (by omega)]), rfl⟩
        · replace c42 := cmp_eq_f c42
          refine wp_go 5 hM (fr' := (52, [some (.inr 1), some (.inl k), some (.inl (σ 16 (k).toNat)), some (.inl (σ 17 (k).toNat))], [.inl ((σ 1 9) - 1), .inl (σ 17 (k).toNat)], σ)) rfl ?_
          refine wp_ic (tgt := 59) hM rfl (by decide) (by omega) (by omega) (fun c52 => ?_) (fun c52 => ?_)
          · replace c52 := cmp_ne_t c52
            refine wp_go 1 hM (fr' := (60, [some (.inr 1), some (.inl k), some (.inl (σ 16 (k).toNat)), some (.inl (σ 17 (k).toNat))], [.inl 2], σ)) rfl ?_
            refine wp_ret hM rfl (rfl) ?_
            exact ⟨by unfold kind; first | rw [if_pos (by omega)] | (rw [if_neg (by omega)]; first | rw [if_pos (by omega)] | rw [if_neg (by omega)]), rfl⟩
          · replace c52 := cmp_ne_f c52
            refine wp_go 2 hM (fr' := (60, [some (.inr 1), some (.inl k), some (.inl (σ 16 (k).toNat)), some (.inl (σ 17 (k).toNat))], [.inl 1], σ)) rfl ?_
            refine wp_ret hM rfl (rfl) ?_
            exact ⟨by unfold kind; first | rw [if_pos (by omega)] | (rw [if_neg (by omega)]; first | rw [if_pos (by omega)] | rw [if_neg (by omega)]), rfl⟩
  · replace c2 := cmp_ge_f c2
    refine wp_go 1 hM (fr' := (6, [some (.inr 1), some (.inl k), none, none], [.inl 0], σ)) rfl ?_
    refine wp_ret hM rfl (rfl) ?_
    exact ⟨by unfold kind; first | rw [if_pos (by omega)] | (rw [if_neg (by omega)]; first | rw [if_pos (by omega)] | rw [if_neg (by omega)]), rfl⟩

set_option maxRecDepth 100000 in
set_option maxHeartbeats 4000000 in
theorem sp_X1_keepsSide (v : mz_G) (l : List tr3) (σ : mz_G) (a : Int) (b : Int) (x : Int) (y : Int) (h0 : CA σ v l) (h1 : Bs v l) (h2 : mz_R a) (h3 : mz_R b) (h4 : mz_R x) (h5 : mz_R y) : mz_Cl shA 26 [.inr 1, .inl a, .inl b, .inl x, .inl y] σ (fun r σ' => r = some (b01 (keeps v a b x y)) ∧ σ' = σ) := by
  have hM : mz_meth[26]? = some mtX1_keepsSide := rfl
  obtain ⟨hR, hT, hLen⟩ := id h1
  obtain ⟨⟨hW0, hW1⟩, ⟨hH0, hH1⟩, ⟨hn0, hn1⟩, hpt⟩ := id hR
  obtain ⟨⟨hc1, hc2, hc3, hc4⟩, hcp, hct, hcv⟩ := id h0
  refine mz_Cl.of hM ?_
  show mz_Wp shA none 26 (0, [some (.inr 1), some (.inl a), some (.inl b), some (.inl x), some (.inl y)], [], σ) _
  refine wp_go 1 hM (fr' := (1, [some (.inr 1), some (.inl a), some (.inl b), some (.inl x), some (.inl y)], [.inl a], σ)) rfl ?_
  refine wp_if (tgt := 8) hM rfl (by decide) (by omega) (fun c1 => ?_) (fun c1 => ?_)
  · replace c1 := cmp_ne_t c1
    refine wp_go 5 hM (fr' := (15, [some (.inr 1), some (.inl a), some (.inl b), some (.inl x), some (.inl y)], [.inl ((σ 1 8) - 1), .inl a], σ)) rfl ?_
    refine wp_ic (tgt := 28) hM rfl (by decide) (by omega) (by omega) (fun c15 => ?_) (fun c15 => ?_)
    · replace c15 := cmp_ne_t c15
      refine wp_go 1 hM (fr' := (29, [some (.inr 1), some (.inl a), some (.inl b), some (.inl x), some (.inl y)], [.inl b], σ)) rfl ?_
      refine wp_if (tgt := 37) hM rfl (by decide) (by omega) (fun c29 => ?_) (fun c29 => ?_)
      · replace c29 := cmp_ne_t c29
        refine wp_go 5 hM (fr' := (44, [some (.inr 1), some (.inl a), some (.inl b), some (.inl x), some (.inl y)], [.inl ((σ 1 9) - 1), .inl b], σ)) rfl ?_
        refine wp_ic (tgt := 58) hM rfl (by decide) (by omega) (by omega) (fun c44 => ?_) (fun c44 => ?_)
        · replace c44 := cmp_ne_t c44
          refine wp_go 2 hM (fr' := (63, [some (.inr 1), some (.inl a), some (.inl b), some (.inl x), some (.inl y)], [.inl 1], σ)) rfl ?_
          refine wp_ret hM rfl (rfl) ?_
          first | exact r_t (by unfold keeps; omega) | exact r_f (by unfold keeps; omega)
        · replace c44 := cmp_ne_f c44
          refine wp_go 5 hM (fr' := (55, [some (.inr 1), some (.inl a), some (.inl b), some (.inl x), some (.inl y)], [.inl ((σ 1 9) - 1), .inl y], σ)) rfl ?_
          refine wp_ic (tgt := 62) hM rfl (by decide) (by omega) (by omega) (fun c55 => ?_) (fun c55 => ?_)
          · replace c55 := cmp_ne_t c55
            refine wp_go 1 hM (fr' := (63, [some (.inr 1), some (.inl a), some (.inl b), some (.inl x), some (.inl y)], [.inl 0], σ)) rfl ?_
            refine wp_ret hM rfl (rfl) ?_
            first | exact r_t (by unfold keeps; omega) | exact r_f (by unfold keeps; omega)
          · replace c55 := cmp_ne_f c55
            refine wp_go 2 hM (fr' := (63, [some (.inr 1), some (.inl a), some (.inl b), some (.inl x), some (.inl y)], [.inl 1], σ)) rfl ?_
            refine wp_ret hM rfl (rfl) ?_
            first | exact r_t (by unfold keeps; omega) | exact r_f (by unfold keeps; omega)
      · replace c29 := cmp_ne_f c29
        refine wp_go 1 hM (fr' := (34, [some (.inr 1), some (.inl a), some (.inl b), some (.inl x), some (.inl y)], [.inl y], σ)) rfl ?_
        refine wp_if (tgt := 62) hM rfl (by decide) (by omega) (fun c34 => ?_) (fun c34 => ?_)
        · replace c34 := cmp_ne_t c34
          refine wp_go 1 hM (fr' := (63, [some (.inr 1), some (.inl a), some (.inl b), some (.inl x), some (.inl y)], [.inl 0], σ)) rfl ?_
          refine wp_ret hM rfl (rfl) ?_
          first | exact r_t (by unfold keeps; omega) | exact r_f (by unfold keeps; omega)
        · replace c34 := cmp_ne_f c34
          refine wp_go 5 hM (fr' := (44, [some (.inr 1), some (.inl a), some (.inl b), some (.inl x), some (.inl y)], [.inl ((σ 1 9) - 1), .inl b], σ)) rfl ?_
          refine wp_ic (tgt := 58) hM rfl (by decide) (by omega) (by omega) (fun c44 => ?_) (fun c44 => ?_)
          · replace c44 := cmp_ne_t c44
            refine wp_go 2 hM (fr' := (63, [some (.inr 1), some (.inl a), some (.inl b), some (.inl x), some (.inl y)], [.inl 1], σ)) rfl ?_
            refine wp_ret hM rfl (rfl) ?_
            first | exact r_t (by unfold keeps; omega) | exact r_f (by unfold keeps; omega)
          · replace c44 := cmp_ne_f c44
            refine wp_go 5 hM (fr' := (55, [some (.inr 1), some (.inl a), some (.inl b), some (.inl x), some (.inl y)], [.inl ((σ 1 9) - 1), .inl y], σ)) rfl ?_
            refine wp_ic (tgt := 62) hM rfl (by decide) (by omega) (by omega) (fun c55 => ?_) (fun c55 => ?_)
            · replace c55 := cmp_ne_t c55
              refine wp_go 1 hM (fr' := (63, [some (.inr 1), some (.inl a), some (.inl b), some (.inl x), some (.inl y)], [.inl 0], σ)) rfl ?_
              refine wp_ret hM rfl (rfl) ?_
              first | exact r_t (by unfold keeps; omega) | exact r_f (by unfold keeps; omega)
            · replace c55 := cmp_ne_f c55
              refine wp_go 2 hM (fr' := (63, [some (.inr 1), some (.inl a), some (.inl b), some (.inl x), some (.inl y)], [.inl 1], σ)) rfl ?_
              refine wp_ret hM rfl (rfl) ?_
              first | exact r_t (by unfold keeps; omega) | exact r_f (by unfold keeps; omega)
    · replace c15 := cmp_ne_f c15
      refine wp_go 5 hM (fr' := (25, [some (.inr 1), some (.inl a), some (.inl b), some (.inl x), some (.inl y)], [.inl ((σ 1 8) - 1), .inl x], σ)) rfl ?_
      refine wp_ic (tgt := 62) hM rfl (by decide) (by omega) (by omega) (fun c25 => ?_) (fun c25 => ?_)
      · replace c25 := cmp_ne_t c25
        refine wp_go 1 hM (fr' := (63, [some (.inr 1), some (.inl a), some (.inl b), some (.inl x), some (.inl y)], [.inl 0], σ)) rfl ?_
        refine wp_ret hM rfl (rfl) ?_
        first | exact r_t (by unfold keeps; omega) | exact r_f (by unfold keeps; omega)
      · replace c25 := cmp_ne_f c25
        refine wp_go 1 hM (fr' := (29, [some (.inr 1), some (.inl a), some (.inl b), some (.inl x), some (.inl y)], [.inl b], σ)) rfl ?_
        refine wp_if (tgt := 37) hM rfl (by decide) (by omega) (fun c29 => ?_) (fun c29 => ?_)
        · replace c29 := cmp_ne_t c29
          refine wp_go 5 hM (fr' := (44, [some (.inr 1), some (.inl a), some (.inl b), some (.inl x), some (.inl y)], [.inl ((σ 1 9) - 1), .inl b], σ)) rfl ?_
          refine wp_ic (tgt := 58) hM rfl (by decide) (by omega) (by omega) (fun c44 => ?_) (fun c44 => ?_)
          · replace c44 := cmp_ne_t c44
            refine wp_go 2 hM (fr' := (63, [some (.inr 1), some (.inl a), some (.inl b), some (.inl x), some (.inl y)], [.inl 1], σ)) rfl ?_
            refine wp_ret hM rfl (rfl) ?_
            first | exact r_t (by unfold keeps; omega) | exact r_f (by unfold keeps; omega)
          · replace c44 := cmp_ne_f c44
            refine wp_go 5 hM (fr' := (55, [some (.inr 1), some (.inl a), some (.inl b), some (.inl x), some (.inl y)], [.inl ((σ 1 9) - 1), .inl y], σ)) rfl ?_
            refine wp_ic (tgt := 62) hM rfl (by decide) (by omega) (by omega) (fun c55 => ?_) (fun c55 => ?_)
            · replace c55 := cmp_ne_t c55
              refine wp_go 1 hM (fr' := (63, [some (.inr 1), some (.inl a), some (.inl b), some (.inl x), some (.inl y)], [.inl 0], σ)) rfl ?_
              refine wp_ret hM rfl (rfl) ?_
              first | exact r_t (by unfold keeps; omega) | exact r_f (by unfold keeps; omega)
            · replace c55 := cmp_ne_f c55
              refine wp_go 2 hM (fr' := (63, [some (.inr 1), some (.inl a), some (.inl b), some (.inl x), some (.inl y)], [.inl 1], σ)) rfl ?_
              refine wp_ret hM rfl (rfl) ?_
              first | exact r_t (by unfold keeps; omega) | exact r_f (by unfold keeps; omega)
        · replace c29 := cmp_ne_f c29
          refine wp_go 1 hM (fr' := (34, [some (.inr 1), some (.inl a), some (.inl b), some (.inl x), some (.inl y)], [.inl y], σ)) rfl ?_
          refine wp_if (tgt := 62) hM rfl (by decide) (by omega) (fun c34 => ?_) (fun c34 => ?_)
          · replace c34 := cmp_ne_t c34
            refine wp_go 1 hM (fr' := (63, [some (.inr 1), some (.inl a), some (.inl b), some (.inl x), some (.inl y)], [.inl 0], σ)) rfl ?_
            refine wp_ret hM rfl (rfl) ?_
            first | exact r_t (by unfold keeps; omega) | exact r_f (by unfold keeps; omega)
          · replace c34 := cmp_ne_f c34
            refine wp_go 5 hM (fr' := (44, [some (.inr 1), some (.inl a), some (.inl b), some (.inl x), some (.inl y)], [.inl ((σ 1 9) - 1), .inl b], σ)) rfl ?_
            refine wp_ic (tgt := 58) hM rfl (by decide) (by omega) (by omega) (fun c44 => ?_) (fun c44 => ?_)
            · replace c44 := cmp_ne_t c44
              refine wp_go 2 hM (fr' := (63, [some (.inr 1), some (.inl a), some (.inl b), some (.inl x), some (.inl y)], [.inl 1], σ)) rfl ?_
              refine wp_ret hM rfl (rfl) ?_
              first | exact r_t (by unfold keeps; omega) | exact r_f (by unfold keeps; omega)
            · replace c44 := cmp_ne_f c44
              refine wp_go 5 hM (fr' := (55, [some (.inr 1), some (.inl a), some (.inl b), some (.inl x), some (.inl y)], [.inl ((σ 1 9) - 1), .inl y], σ)) rfl ?_
              refine wp_ic (tgt := 62) hM rfl (by decide) (by omega) (by omega) (fun c55 => ?_) (fun c55 => ?_)
              · replace c55 := cmp_ne_t c55
                refine wp_go 1 hM (fr' := (63, [some (.inr 1), some (.inl a), some (.inl b), some (.inl x), some (.inl y)], [.inl 0], σ)) rfl ?_
                refine wp_ret hM rfl (rfl) ?_
                first | exact r_t (by unfold keeps; omega) | exact r_f (by unfold keeps; omega)
              · replace c55 := cmp_ne_f c55
                refine wp_go 2 hM (fr' := (63, [some (.inr 1), some (.inl a), some (.inl b), some (.inl x), some (.inl y)], [.inl 1], σ)) rfl ?_
                refine wp_ret hM rfl (rfl) ?_
                first | exact r_t (by unfold keeps; omega) | exact r_f (by unfold keeps; omega)
  · replace c1 := cmp_ne_f c1
    refine wp_go 1 hM (fr' := (5, [some (.inr 1), some (.inl a), some (.inl b), some (.inl x), some (.inl y)], [.inl x], σ)) rfl ?_
    refine wp_if (tgt := 62) hM rfl (by decide) (by omega) (fun c5 => ?_) (fun c5 => ?_)
    · replace c5 := cmp_ne_t c5
      refine wp_go 1 hM (fr' := (63, [some (.inr 1), some (.inl a), some (.inl b), some (.inl x), some (.inl y)], [.inl 0], σ)) rfl ?_
      refine wp_ret hM rfl (rfl) ?_
      first | exact r_t (by unfold keeps; omega) | exact r_f (by unfold keeps; omega)
    · replace c5 := cmp_ne_f c5
      refine wp_go 5 hM (fr' := (15, [some (.inr 1), some (.inl a), some (.inl b), some (.inl x), some (.inl y)], [.inl ((σ 1 8) - 1), .inl a], σ)) rfl ?_
      refine wp_ic (tgt := 28) hM rfl (by decide) (by omega) (by omega) (fun c15 => ?_) (fun c15 => ?_)
      · replace c15 := cmp_ne_t c15
        refine wp_go 1 hM (fr' := (29, [some (.inr 1), some (.inl a), some (.inl b), some (.inl x), some (.inl y)], [.inl b], σ)) rfl ?_
        refine wp_if (tgt := 37) hM rfl (by decide) (by omega) (fun c29 => ?_) (fun c29 => ?_)
        · replace c29 := cmp_ne_t c29
          refine wp_go 5 hM (fr' := (44, [some (.inr 1), some (.inl a), some (.inl b), some (.inl x), some (.inl y)], [.inl ((σ 1 9) - 1), .inl b], σ)) rfl ?_
          refine wp_ic (tgt := 58) hM rfl (by decide) (by omega) (by omega) (fun c44 => ?_) (fun c44 => ?_)
          · replace c44 := cmp_ne_t c44
            refine wp_go 2 hM (fr' := (63, [some (.inr 1), some (.inl a), some (.inl b), some (.inl x), some (.inl y)], [.inl 1], σ)) rfl ?_
            refine wp_ret hM rfl (rfl) ?_
            first | exact r_t (by unfold keeps; omega) | exact r_f (by unfold keeps; omega)
          · replace c44 := cmp_ne_f c44
            refine wp_go 5 hM (fr' := (55, [some (.inr 1), some (.inl a), some (.inl b), some (.inl x), some (.inl y)], [.inl ((σ 1 9) - 1), .inl y], σ)) rfl ?_
            refine wp_ic (tgt := 62) hM rfl (by decide) (by omega) (by omega) (fun c55 => ?_) (fun c55 => ?_)
            · replace c55 := cmp_ne_t c55
              refine wp_go 1 hM (fr' := (63, [some (.inr 1), some (.inl a), some (.inl b), some (.inl x), some (.inl y)], [.inl 0], σ)) rfl ?_
              refine wp_ret hM rfl (rfl) ?_
              first | exact r_t (by unfold keeps; omega) | exact r_f (by unfold keeps; omega)
            · replace c55 := cmp_ne_f c55
              refine wp_go 2 hM (fr' := (63, [some (.inr 1), some (.inl a), some (.inl b), some (.inl x), some (.inl y)], [.inl 1], σ)) rfl ?_
              refine wp_ret hM rfl (rfl) ?_
              first | exact r_t (by unfold keeps; omega) | exact r_f (by unfold keeps; omega)
        · replace c29 := cmp_ne_f c29
          refine wp_go 1 hM (fr' := (34, [some (.inr 1), some (.inl a), some (.inl b), some (.inl x), some (.inl y)], [.inl y], σ)) rfl ?_
          refine wp_if (tgt := 62) hM rfl (by decide) (by omega) (fun c34 => ?_) (fun c34 => ?_)
          · replace c34 := cmp_ne_t c34
            refine wp_go 1 hM (fr' := (63, [some (.inr 1), some (.inl a), some (.inl b), some (.inl x), some (.inl y)], [.inl 0], σ)) rfl ?_
            refine wp_ret hM rfl (rfl) ?_
            first | exact r_t (by unfold keeps; omega) | exact r_f (by unfold keeps; omega)
          · replace c34 := cmp_ne_f c34
            refine wp_go 5 hM (fr' := (44, [some (.inr 1), some (.inl a), some (.inl b), some (.inl x), some (.inl y)], [.inl ((σ 1 9) - 1), .inl b], σ)) rfl ?_
            refine wp_ic (tgt := 58) hM rfl (by decide) (by omega) (by omega) (fun c44 => ?_) (fun c44 => ?_)
            · replace c44 := cmp_ne_t c44
              refine wp_go 2 hM (fr' := (63, [some (.inr 1), some (.inl a), some (.inl b), some (.inl x), some (.inl y)], [.inl 1], σ)) rfl ?_
              refine wp_ret hM rfl (rfl) ?_
              first | exact r_t (by unfold keeps; omega) | exact r_f (by unfold keeps; omega)
            · replace c44 := cmp_ne_f c44
              refine wp_go 5 hM (fr' := (55, [some (.inr 1), some (.inl a), some (.inl b), some (.inl x), some (.inl y)], [.inl ((σ 1 9) - 1), .inl y], σ)) rfl ?_
              refine wp_ic (tgt := 62) hM rfl (by decide) (by omega) (by omega) (fun c55 => ?_) (fun c55 => ?_)
              · replace c55 := cmp_ne_t c55
                refine wp_go 1 hM (fr' := (63, [some (.inr 1), some (.inl a), some (.inl b), some (.inl x), some (.inl y)], [.inl 0], σ)) rfl ?_
                refine wp_ret hM rfl (rfl) ?_
                first | exact r_t (by unfold keeps; omega) | exact r_f (by unfold keeps; omega)
              · replace c55 := cmp_ne_f c55
                refine wp_go 2 hM (fr' := (63, [some (.inr 1), some (.inl a), some (.inl b), some (.inl x), some (.inl y)], [.inl 1], σ)) rfl ?_
                refine wp_ret hM rfl (rfl) ?_
                first | exact r_t (by unfold keeps; omega) | exact r_f (by unfold keeps; omega)
      · replace c15 := cmp_ne_f c15
        refine wp_go 5 hM (fr' := (25, [some (.inr 1), some (.inl a), some (.inl b), some (.inl x), some (.inl y)], [.inl ((σ 1 8) - 1), .inl x], σ)) rfl ?_
        refine wp_ic (tgt := 62) hM rfl (by decide) (by omega) (by omega) (fun c25 => ?_) (fun c25 => ?_)
        · replace c25 := cmp_ne_t c25
          refine wp_go 1 hM (fr' := (63, [some (.inr 1), some (.inl a), some (.inl b), some (.inl x), some (.inl y)], [.inl 0], σ)) rfl ?_
          refine wp_ret hM rfl (rfl) ?_
          first | exact r_t (by unfold keeps; omega) | exact r_f (by unfold keeps; omega)
        · replace c25 := cmp_ne_f c25
          refine wp_go 1 hM (fr' := (29, [some (.inr 1), some (.inl a), some (.inl b), some (.inl x), some (.inl y)], [.inl b], σ)) rfl ?_
          refine wp_if (tgt := 37) hM rfl (by decide) (by omega) (fun c29 => ?_) (fun c29 => ?_)
          · replace c29 := cmp_ne_t c29
            refine wp_go 5 hM (fr' := (44, [some (.inr 1), some (.inl a), some (.inl b), some (.inl x), some (.inl y)], [.inl ((σ 1 9) - 1), .inl b], σ)) rfl ?_
            refine wp_ic (tgt := 58) hM rfl (by decide) (by omega) (by omega) (fun c44 => ?_) (fun c44 => ?_)
            · replace c44 := cmp_ne_t c44
              refine wp_go 2 hM (fr' := (63, [some (.inr 1), some (.inl a), some (.inl b), some (.inl x), some (.inl y)], [.inl 1], σ)) rfl ?_
              refine wp_ret hM rfl (rfl) ?_
              first | exact r_t (by unfold keeps; omega) | exact r_f (by unfold keeps; omega)
            · replace c44 := cmp_ne_f c44
              refine wp_go 5 hM (fr' := (55, [some (.inr 1), some (.inl a), some (.inl b), some (.inl x), some (.inl y)], [.inl ((σ 1 9) - 1), .inl y], σ)) rfl ?_
              refine wp_ic (tgt := 62) hM rfl (by decide) (by omega) (by omega) (fun c55 => ?_) (fun c55 => ?_)
              · replace c55 := cmp_ne_t c55
                refine wp_go 1 hM (fr' := (63, [some (.inr 1), some (.inl a), some (.inl b), some (.inl x), some (.inl y)], [.inl 0], σ)) rfl ?_
                refine wp_ret hM rfl (rfl) ?_
                first | exact r_t (by unfold keeps; omega) | exact r_f (by unfold keeps; omega)
              · replace c55 := cmp_ne_f c55
                refine wp_go 2 hM (fr' := (63, [some (.inr 1), some (.inl a), some (.inl b), some (.inl x), some (.inl y)], [.inl 1], σ)) rfl ?_
                refine wp_ret hM rfl (rfl) ?_
                first | exact r_t (by unfold keeps; omega) | exact r_f (by unfold keeps; omega)
          · replace c29 := cmp_ne_f c29
            refine wp_go 1 hM (fr' := (34, [some (.inr 1), some (.inl a), some (.inl b), some (.inl x), some (.inl y)], [.inl y], σ)) rfl ?_
            refine wp_if (tgt := 62) hM rfl (by decide) (by omega) (fun c34 => ?_) (fun c34 => ?_)
            · replace c34 := cmp_ne_t c34
              refine wp_go 1 hM (fr' := (63, [some (.inr 1), some (.inl a), some (.inl b), some (.inl x), some (.inl y)], [.inl 0], σ)) rfl ?_
              refine wp_ret hM rfl (rfl) ?_
              first | exact r_t (by unfold keeps; omega) | exact r_f (by unfold keeps; omega)
            · replace c34 := cmp_ne_f c34
              refine wp_go 5 hM (fr' := (44, [some (.inr 1), some (.inl a), some (.inl b), some (.inl x), some (.inl y)], [.inl ((σ 1 9) - 1), .inl b], σ)) rfl ?_
              refine wp_ic (tgt := 58) hM rfl (by decide) (by omega) (by omega) (fun c44 => ?_) (fun c44 => ?_)
              · replace c44 := cmp_ne_t c44
                refine wp_go 2 hM (fr' := (63, [some (.inr 1), some (.inl a), some (.inl b), some (.inl x), some (.inl y)], [.inl 1], σ)) rfl ?_
                refine wp_ret hM rfl (rfl) ?_
                first | exact r_t (by unfold keeps; omega) | exact r_f (by unfold keeps; omega)
              · replace c44 := cmp_ne_f c44
                refine wp_go 5 hM (fr' := (55, [some (.inr 1), some (.inl a), some (.inl b), some (.inl x), some (.inl y)], [.inl ((σ 1 9) - 1), .inl y], σ)) rfl ?_
                refine wp_ic (tgt := 62) hM rfl (by decide) (by omega) (by omega) (fun c55 => ?_) (fun c55 => ?_)
                · replace c55 := cmp_ne_t c55
                  refine wp_go 1 hM (fr' := (63, [some (.inr 1), some (.inl a), some (.inl b), some (.inl x), some (.inl y)], [.inl 0], σ)) rfl ?_
                  refine wp_ret hM rfl (rfl) ?_
                  first | exact r_t (by unfold keeps; omega) | exact r_f (by unfold keeps; omega)
                · replace c55 := cmp_ne_f c55
                  refine wp_go 2 hM (fr' := (63, [some (.inr 1), some (.inl a), some (.inl b), some (.inl x), some (.inl y)], [.inl 1], σ)) rfl ?_
                  refine wp_ret hM rfl (rfl) ?_
                  first | exact r_t (by unfold keeps; omega) | exact r_f (by unfold keeps; omega)

set_option maxRecDepth 100000 in
set_option maxHeartbeats 4000000 in
theorem sp_X1_trianglesOf (v : mz_G) (l : List tr3) (σ : mz_G) (k : Int) (h0 : CA σ v l) (h1 : Bs v l) (h2 : mz_R k) : mz_Cl shA 14 [.inr 1, .inl k] σ (fun r σ' => r = some (sumI (l.length : Int) (fun i => b01 (hasK (tg l i) k))) ∧ σ' = σ) := by
  have hM : mz_meth[14]? = some mtX1_trianglesOf := rfl
  obtain ⟨hR, hT, hLen⟩ := id h1
  obtain ⟨⟨hW0, hW1⟩, ⟨hH0, hH1⟩, ⟨hn0, hn1⟩, hpt⟩ := id hR
  obtain ⟨⟨hc1, hc2, hc3, hc4⟩, hcp, hct, hcv⟩ := id h0
  refine mz_Cl.of hM ?_
  show mz_Wp shA none 14 (0, [some (.inr 1), some (.inl k), none, none], [], σ) _
  refine wp_go 4 hM (fr' := (4, [some (.inr 1), some (.inl k), some (.inl 0), some (.inl 0)], [], σ)) rfl ?_
  have loop4 : ∀ (fuel : Nat) (f : Int) (t : Int), (0 ≤ t) → (t ≤ (l.length : Int)) → (f = sumI t (fun i => b01 (hasK (tg l i) k))) → (((l.length : Int) - t : Int) < fuel) → mz_Wp shA none 14 (4, [some (.inr 1), some (.inl k), some (.inl f), some (.inl t)], [], σ) (fun r σ' => r = some (sumI (l.length : Int) (fun i => b01 (hasK (tg l i) k))) ∧ σ' = σ) := by
    intro fuel
    induction fuel with
    | zero =>
      intro f t hv4_0 hv4_1 hv4_2 hf4
      exfalso
      omega
    | succ fuel ih4 =>
      intro f t hv4_0 hv4_1 hv4_2 hf4
      have hs : sumI (t + 1) (fun i => b01 (hasK (tg l i) k)) = sumI t (fun i => b01 (hasK (tg l i) k)) + b01 (hasK (tg l t) k) := sumI_s hv4_0
      have hb := sumI_bd (a := 0) (b := 1) (f := (fun i => b01 (hasK (tg l i) k))) hv4_0 (fun i _ _ => by rcases b01_01 (P := hasK (tg l i) k) with q | q <;> omega)
      refine wp_go 4 hM (fr' := (12, [some (.inr 1), some (.inl k), some (.inl f), some (.inl t)], [.inl (σ 11 1), .inl t], σ)) rfl ?_
      refine wp_ic (tgt := 36) hM rfl (by decide) (by omega) (by omega) (fun c12 => ?_) (fun c12 => ?_)
      · replace c12 := cmp_ge_t c12
        refine wp_go 1 hM (fr' := (37, [some (.inr 1), some (.inl k), some (.inl f), some (.inl t)], [.inl f], σ)) rfl ?_
        refine wp_ret hM rfl (rfl) ?_
        exact ⟨by rw [hv4_2, show t = (l.length : Int) from by omega], rfl⟩
      · replace c12 := cmp_ge_f c12
        refine wp_go 4 hM (fr' := (21, [some (.inr 1), some (.inl k), some (.inl f), some (.inl t)], [.inl k, .inl t, .inr 11], σ)) rfl ?_
        refine wp_calld (v := 0) (idx := 70) (j := 57) (N := mtX4_has) (as := [.inr 11, .inl t, .inl k]) (rest := []) hM rfl (Or.inl ⟨rfl, rfl⟩) rfl (sp_X4_has v l σ t k (by first | assumption | omega) (by first | assumption | omega) (by first | assumption | omega) (by first | assumption | omega) (by first | assumption | omega)) ?_
        show mz_Wp shA none 14 (24, [some (.inr 1), some (.inl k), some (.inl f), some (.inl t)], [.inl (b01 (hasK (tg l t) k))], σ) _
        refine wp_if (tgt := 30) hM rfl (by decide) b01_R (fun c24 => ?_) (fun c24 => ?_)
        · replace c24 := b01_eq0 (cmp_eq_t c24)
          refine wp_go 2 hM (fr' := (4, [some (.inr 1), some (.inl k), some (.inl f), some (.inl (t + 1))], [], σ)) rfl ?_
          exact ih4 f (t + 1) (by omega) (by omega) (by rw [hs]; first | (rw [b01_t c24]; omega) | (rw [b01_f c24]; omega)) (by omega)
        · replace c24 := b01_ne0 (cmp_eq_f c24)
          refine wp_go 3 hM (fr' := (4, [some (.inr 1), some (.inl k), some (.inl (f + 1)), some (.inl (t + 1))], [], σ)) rfl ?_
          exact ih4 (f + 1) (t + 1) (by omega) (by omega) (by rw [hs]; first | (rw [b01_t c24]; omega) | (rw [b01_f c24]; omega)) (by omega)
  exact loop4 65 0 0 (by first | omega | rfl) (by first | omega | rfl) (by first | omega | rfl) (by first | omega | rfl)

set_option maxRecDepth 100000 in
set_option maxHeartbeats 4000000 in
theorem sp_X1_areaOf_8 (v : mz_G) (l : List tr3) (σ : mz_G) (t : Int) (h0 : CA σ v l) (h1 : Bs v l) (h2 : 0 ≤ t) (h3 : t < (l.length : Int)) : mz_Cl shA 15 [.inr 1, .inr 8, .inl t] σ (fun r σ' => r = some (tar v 0 (tg l t)) ∧ σ' = σ) := by
  have hM : mz_meth[15]? = some mtX1_areaOf := rfl
  obtain ⟨hR, hT, hLen⟩ := id h1
  obtain ⟨⟨hW0, hW1⟩, ⟨hH0, hH1⟩, ⟨hn0, hn1⟩, hpt⟩ := id hR
  obtain ⟨⟨hc1, hc2, hc3, hc4⟩, hcp, hct, hcv⟩ := id h0
  have ht := Rt_at hT h2 h3
  refine mz_Cl.of hM ?_
  show mz_Wp shA none 15 (0, [some (.inr 1), some (.inr 8), some (.inl t)], [], σ) _
  refine wp_go 4 hM (fr' := (6, [some (.inr 1), some (.inr 8), some (.inl t)], [.inl t, .inr 11, .inr 8], σ)) rfl ?_
  refine wp_calld (v := 0) (idx := 74) (j := 54) (N := mtX4_first) (as := [.inr 11, .inl t]) (rest := [.inr 8]) hM rfl (Or.inl ⟨rfl, rfl⟩) rfl (sp_X4_first_v v l σ t (by first | assumption | omega) (by first | assumption | omega) (by first | assumption | omega) (by first | assumption | omega)) ?_
  show mz_Wp shA none 15 (9, [some (.inr 1), some (.inr 8), some (.inl t)], [.inl ((tg l t).1), .inr 8], σ) _
  refine wp_go 3 hM (fr' := (14, [some (.inr 1), some (.inr 8), some (.inl t)], [.inl t, .inr 11, .inl ((tg l t).1), .inr 8], σ)) rfl ?_
  refine wp_calld (v := 0) (idx := 78) (j := 55) (N := mtX4_second) (as := [.inr 11, .inl t]) (rest := [.inl ((tg l t).1), .inr 8]) hM rfl (Or.inl ⟨rfl, rfl⟩) rfl (sp_X4_second_v v l σ t (by first | assumption | omega) (by first | assumption | omega) (by first | assumption | omega) (by first | assumption | omega)) ?_
  show mz_Wp shA none 15 (17, [some (.inr 1), some (.inr 8), some (.inl t)], [.inl ((tg l t).2.1), .inl ((tg l t).1), .inr 8], σ) _
  refine wp_go 3 hM (fr' := (22, [some (.inr 1), some (.inr 8), some (.inl t)], [.inl t, .inr 11, .inl ((tg l t).2.1), .inl ((tg l t).1), .inr 8], σ)) rfl ?_
  refine wp_calld (v := 0) (idx := 81) (j := 56) (N := mtX4_third) (as := [.inr 11, .inl t]) (rest := [.inl ((tg l t).2.1), .inl ((tg l t).1), .inr 8]) hM rfl (Or.inl ⟨rfl, rfl⟩) rfl (sp_X4_third_v v l σ t (by first | assumption | omega) (by first | assumption | omega) (by first | assumption | omega) (by first | assumption | omega)) ?_
  show mz_Wp shA none 15 (25, [some (.inr 1), some (.inr 8), some (.inl t)], [.inl ((tg l t).2.2), .inl ((tg l t).2.1), .inl ((tg l t).1), .inr 8], σ) _
  refine wp_calld (v := 0) (idx := 84) (j := 44) (N := mtX2_area) (as := [.inr 8, .inl ((tg l t).1), .inl ((tg l t).2.1), .inl ((tg l t).2.2)]) (rest := []) hM rfl (Or.inl ⟨rfl, rfl⟩) rfl (sp_X2_area_8_v v l σ ((tg l t).1) ((tg l t).2.1) ((tg l t).2.2) (by first | assumption | omega) (by first | assumption | omega) (by first | assumption | omega) (by first | assumption | omega) (by first | assumption | omega) (by first | assumption | omega) (by first | assumption | omega) (by first | assumption | omega)) ?_
  show mz_Wp shA none 15 (28, [some (.inr 1), some (.inr 8), some (.inl t)], [.inl (ar (gx v 0 (((tg l t).1))) (gy v 0 (((tg l t).1))) (gx v 0 (((tg l t).2.1))) (gy v 0 (((tg l t).2.1))) (gx v 0 (((tg l t).2.2))) (gy v 0 (((tg l t).2.2))))], σ) _
  refine wp_ret hM rfl (rfl) ?_
  exact ⟨rfl, rfl⟩

set_option maxRecDepth 100000 in
set_option maxHeartbeats 4000000 in
theorem sp_X1_holds_8 (v : mz_G) (l : List tr3) (σ : mz_G) (t : Int) (x : Int) (y : Int) (h0 : CA σ v l) (h1 : Bs v l) (h2 : 0 ≤ t) (h3 : t < (l.length : Int)) (h4 : dot v x y) : mz_Cl shA 16 [.inr 1, .inr 8, .inl t, .inl x, .inl y] σ (fun r σ' => r = some (b01 (hol v 0 (tg l t) x y)) ∧ σ' = σ) := by
  have hM : mz_meth[16]? = some mtX1_holds := rfl
  obtain ⟨hR, hT, hLen⟩ := id h1
  obtain ⟨⟨hW0, hW1⟩, ⟨hH0, hH1⟩, ⟨hn0, hn1⟩, hpt⟩ := id hR
  obtain ⟨⟨hc1, hc2, hc3, hc4⟩, hcp, hct, hcv⟩ := id h0
  have ht := Rt_at hT h2 h3
  have hsb := sh_bd (q := 0) (l := l) hR (by decide) ht h4
  unfold sh0 sh1 sh2 at hsb
  refine mz_Cl.of hM ?_
  show mz_Wp shA none 16 (0, [some (.inr 1), some (.inr 8), some (.inl t), some (.inl x), some (.inl y), none, none, none], [], σ) _
  refine wp_go 3 hM (fr' := (5, [some (.inr 1), some (.inr 8), some (.inl t), some (.inl x), some (.inl y), none, none, none], [.inl t, .inr 11], σ)) rfl ?_
  refine wp_calld (v := 0) (idx := 74) (j := 54) (N := mtX4_first) (as := [.inr 11, .inl t]) (rest := []) hM rfl (Or.inl ⟨rfl, rfl⟩) rfl (sp_X4_first_v v l σ t (by first | assumption | omega) (by first | assumption | omega) (by first | assumption | omega) (by first | assumption | omega)) ?_
  show mz_Wp shA none 16 (8, [some (.inr 1), some (.inr 8), some (.inl t), some (.inl x), some (.inl y), none, none, none], [.inl ((tg l t).1)], σ) _
  refine wp_go 4 hM (fr' := (15, [some (.inr 1), some (.inr 8), some (.inl t), some (.inl x), some (.inl y), some (.inl ((tg l t).1)), none, none], [.inl t, .inr 11], σ)) rfl ?_
  refine wp_calld (v := 0) (idx := 78) (j := 55) (N := mtX4_second) (as := [.inr 11, .inl t]) (rest := []) hM rfl (Or.inl ⟨rfl, rfl⟩) rfl (sp_X4_second_v v l σ t (by first | assumption | omega) (by first | assumption | omega) (by first | assumption | omega) (by first | assumption | omega)) ?_
  show mz_Wp shA none 16 (18, [some (.inr 1), some (.inr 8), some (.inl t), some (.inl x), some (.inl y), some (.inl ((tg l t).1)), none, none], [.inl ((tg l t).2.1)], σ) _
  refine wp_go 4 hM (fr' := (25, [some (.inr 1), some (.inr 8), some (.inl t), some (.inl x), some (.inl y), some (.inl ((tg l t).1)), some (.inl ((tg l t).2.1)), none], [.inl t, .inr 11], σ)) rfl ?_
  refine wp_calld (v := 0) (idx := 81) (j := 56) (N := mtX4_third) (as := [.inr 11, .inl t]) (rest := []) hM rfl (Or.inl ⟨rfl, rfl⟩) rfl (sp_X4_third_v v l σ t (by first | assumption | omega) (by first | assumption | omega) (by first | assumption | omega) (by first | assumption | omega)) ?_
  show mz_Wp shA none 16 (28, [some (.inr 1), some (.inr 8), some (.inl t), some (.inl x), some (.inl y), some (.inl ((tg l t).1)), some (.inl ((tg l t).2.1)), none], [.inl ((tg l t).2.2)], σ) _
  refine wp_go 6 hM (fr' := (38, [some (.inr 1), some (.inr 8), some (.inl t), some (.inl x), some (.inl y), some (.inl ((tg l t).1)), some (.inl ((tg l t).2.1)), some (.inl ((tg l t).2.2))], [.inl ((tg l t).2.2), .inl ((tg l t).2.1), .inl y, .inl x, .inr 8], σ)) rfl ?_
  refine wp_calld (v := 0) (idx := 88) (j := 45) (N := mtX2_areaWith) (as := [.inr 8, .inl x, .inl y, .inl ((tg l t).2.1), .inl ((tg l t).2.2)]) (rest := []) hM rfl (Or.inl ⟨rfl, rfl⟩) rfl (sp_X2_areaWith_8_v v l σ x y ((tg l t).2.1) ((tg l t).2.2) (by first | assumption | omega) (by first | assumption | omega) (by first | assumption | omega) (by first | assumption | omega) (by first | assumption | omega) (by first | assumption | omega)) ?_
  show mz_Wp shA none 16 (41, [some (.inr 1), some (.inr 8), some (.inl t), some (.inl x), some (.inl y), some (.inl ((tg l t).1)), some (.inl ((tg l t).2.1)), some (.inl ((tg l t).2.2))], [.inl (ar (x) (y) (gx v 0 (((tg l t).2.1))) (gy v 0 (((tg l t).2.1))) (gx v 0 (((tg l t).2.2))) (gy v 0 (((tg l t).2.2))))], σ) _
  refine wp_if (tgt := 76) hM rfl (by decide) (by omega) (fun c41 => ?_) (fun c41 => ?_)
  · replace c41 := cmp_lt_t c41
    refine wp_go 1 hM (fr' := (77, [some (.inr 1), some (.inr 8), some (.inl t), some (.inl x), some (.inl y), some (.inl ((tg l t).1)), some (.inl ((tg l t).2.1)), some (.inl ((tg l t).2.2))], [.inl 0], σ)) rfl ?_
    refine wp_ret hM rfl (rfl) ?_
    first | exact r_t (by unfold hol sh0 sh1 sh2; omega) | exact r_f (by unfold hol sh0 sh1 sh2; omega)
  · replace c41 := cmp_lt_f c41
    refine wp_go 5 hM (fr' := (52, [some (.inr 1), some (.inr 8), some (.inl t), some (.inl x), some (.inl y), some (.inl ((tg l t).1)), some (.inl ((tg l t).2.1)), some (.inl ((tg l t).2.2))], [.inl ((tg l t).1), .inl ((tg l t).2.2), .inl y, .inl x, .inr 8], σ)) rfl ?_
    refine wp_calld (v := 0) (idx := 88) (j := 45) (N := mtX2_areaWith) (as := [.inr 8, .inl x, .inl y, .inl ((tg l t).2.2), .inl ((tg l t).1)]) (rest := []) hM rfl (Or.inl ⟨rfl, rfl⟩) rfl (sp_X2_areaWith_8_v v l σ x y ((tg l t).2.2) ((tg l t).1) (by first | assumption | omega) (by first | assumption | omega) (by first | assumption | omega) (by first | assumption | omega) (by first | assumption | omega) (by first | assumption | omega)) ?_
    show mz_Wp shA none 16 (55, [some (.inr 1), some (.inr 8), some (.inl t), some (.inl x), some (.inl y), some (.inl ((tg l t).1)), some (.inl ((tg l t).2.1)), some (.inl ((tg l t).2.2))], [.inl (ar (x) (y) (gx v 0 (((tg l t).2.2))) (gy v 0 (((tg l t).2.2))) (gx v 0 (((tg l t).1))) (gy v 0 (((tg l t).1))))], σ) _
    refine wp_if (tgt := 76) hM rfl (by decide) (by omega) (fun c55 => ?_) (fun c55 => ?_)
    · replace c55 := cmp_lt_t c55
      refine wp_go 1 hM (fr' := (77, [some (.inr 1), some (.inr 8), some (.inl t), some (.inl x), some (.inl y), some (.inl ((tg l t).1)), some (.inl ((tg l t).2.1)), some (.inl ((tg l t).2.2))], [.inl 0], σ)) rfl ?_
      refine wp_ret hM rfl (rfl) ?_
      first | exact r_t (by unfold hol sh0 sh1 sh2; omega) | exact r_f (by unfold hol sh0 sh1 sh2; omega)
    · replace c55 := cmp_lt_f c55
      refine wp_go 5 hM (fr' := (66, [some (.inr 1), some (.inr 8), some (.inl t), some (.inl x), some (.inl y), some (.inl ((tg l t).1)), some (.inl ((tg l t).2.1)), some (.inl ((tg l t).2.2))], [.inl ((tg l t).2.1), .inl ((tg l t).1), .inl y, .inl x, .inr 8], σ)) rfl ?_
      refine wp_calld (v := 0) (idx := 88) (j := 45) (N := mtX2_areaWith) (as := [.inr 8, .inl x, .inl y, .inl ((tg l t).1), .inl ((tg l t).2.1)]) (rest := []) hM rfl (Or.inl ⟨rfl, rfl⟩) rfl (sp_X2_areaWith_8_v v l σ x y ((tg l t).1) ((tg l t).2.1) (by first | assumption | omega) (by first | assumption | omega) (by first | assumption | omega) (by first | assumption | omega) (by first | assumption | omega) (by first | assumption | omega)) ?_
      show mz_Wp shA none 16 (69, [some (.inr 1), some (.inr 8), some (.inl t), some (.inl x), some (.inl y), some (.inl ((tg l t).1)), some (.inl ((tg l t).2.1)), some (.inl ((tg l t).2.2))], [.inl (ar (x) (y) (gx v 0 (((tg l t).1))) (gy v 0 (((tg l t).1))) (gx v 0 (((tg l t).2.1))) (gy v 0 (((tg l t).2.1))))], σ) _
      refine wp_if (tgt := 76) hM rfl (by decide) (by omega) (fun c69 => ?_) (fun c69 => ?_)
      · replace c69 := cmp_lt_t c69
        refine wp_go 1 hM (fr' := (77, [some (.inr 1), some (.inr 8), some (.inl t), some (.inl x), some (.inl y), some (.inl ((tg l t).1)), some (.inl ((tg l t).2.1)), some (.inl ((tg l t).2.2))], [.inl 0], σ)) rfl ?_
        refine wp_ret hM rfl (rfl) ?_
        first | exact r_t (by unfold hol sh0 sh1 sh2; omega) | exact r_f (by unfold hol sh0 sh1 sh2; omega)
      · replace c69 := cmp_lt_f c69
        refine wp_go 2 hM (fr' := (77, [some (.inr 1), some (.inr 8), some (.inl t), some (.inl x), some (.inl y), some (.inl ((tg l t).1)), some (.inl ((tg l t).2.1)), some (.inl ((tg l t).2.2))], [.inl 1], σ)) rfl ?_
        refine wp_ret hM rfl (rfl) ?_
        first | exact r_t (by unfold hol sh0 sh1 sh2; omega) | exact r_f (by unfold hol sh0 sh1 sh2; omega)

set_option maxRecDepth 100000 in
set_option maxHeartbeats 4000000 in
theorem sp_X1_leastHolder_8 (v : mz_G) (l : List tr3) (σ : mz_G) (x : Int) (y : Int) (h0 : CA σ v l) (h1 : Bs v l) (h2 : dot v x y) : mz_Cl shA 17 [.inr 1, .inr 8, .inl x, .inl y] σ (fun r σ' => r = some (fstI (l.length : Int) (fun i => hol v 0 (tg l i) x y)) ∧ σ' = σ) := by
  have hM : mz_meth[17]? = some mtX1_leastHolder := rfl
  obtain ⟨hR, hT, hLen⟩ := id h1
  obtain ⟨⟨hW0, hW1⟩, ⟨hH0, hH1⟩, ⟨hn0, hn1⟩, hpt⟩ := id hR
  obtain ⟨⟨hc1, hc2, hc3, hc4⟩, hcp, hct, hcv⟩ := id h0
  refine mz_Cl.of hM ?_
  show mz_Wp shA none 17 (0, [some (.inr 1), some (.inr 8), some (.inl x), some (.inl y), none], [], σ) _
  refine wp_go 2 hM (fr' := (3, [some (.inr 1), some (.inr 8), some (.inl x), some (.inl y), some (.inl 0)], [], σ)) rfl ?_
  have loop3 : ∀ (fuel : Nat) (t : Int), (0 ≤ t) → (t ≤ (l.length : Int)) → (fstI t (fun i => hol v 0 (tg l i) x y) = -1) → (((l.length : Int) - t : Int) < fuel) → mz_Wp shA none 17 (3, [some (.inr 1), some (.inr 8), some (.inl x), some (.inl y), some (.inl t)], [], σ) (fun r σ' => r = some (fstI (l.length : Int) (fun i => hol v 0 (tg l i) x y)) ∧ σ' = σ) := by
    intro fuel
    induction fuel with
    | zero =>
      intro t hv3_0 hv3_1 hv3_2 hf3
      exfalso
      omega
    | succ fuel ih3 =>
      intro t hv3_0 hv3_1 hv3_2 hf3
      refine wp_go 4 hM (fr' := (12, [some (.inr 1), some (.inr 8), some (.inl x), some (.inl y), some (.inl t)], [.inl (σ 11 1), .inl t], σ)) rfl ?_
      refine wp_ic (tgt := 36) hM rfl (by decide) (by omega) (by omega) (fun c12 => ?_) (fun c12 => ?_)
      · replace c12 := cmp_ge_t c12
        refine wp_go 1 hM (fr' := (37, [some (.inr 1), some (.inr 8), some (.inl x), some (.inl y), some (.inl t)], [.inl (-1)], σ)) rfl ?_
        refine wp_ret hM rfl (rfl) ?_
        exact ⟨by rw [show (l.length : Int) = t from by omega, hv3_2], rfl⟩
      · replace c12 := cmp_ge_f c12
        refine wp_go 5 hM (fr' := (21, [some (.inr 1), some (.inr 8), some (.inl x), some (.inl y), some (.inl t)], [.inl y, .inl x, .inl t, .inr 8, .inr 1], σ)) rfl ?_
        refine wp_calld (v := 0) (idx := 92) (j := 16) (N := mtX1_holds) (as := [.inr 1, .inr 8, .inl t, .inl x, .inl y]) (rest := []) hM rfl (Or.inl ⟨rfl, rfl⟩) rfl (sp_X1_holds_8 v l σ t x y (by first | assumption | omega) (by first | assumption | omega) (by first | assumption | omega) (by first | assumption | omega) (by first | assumption | omega)) ?_
        show mz_Wp shA none 17 (24, [some (.inr 1), some (.inr 8), some (.inl x), some (.inl y), some (.inl t)], [.inl (b01 (hol v 0 (tg l t) x y))], σ) _
        refine wp_if (tgt := 30) hM rfl (by decide) b01_R (fun c24 => ?_) (fun c24 => ?_)
        · replace c24 := b01_eq0 (cmp_eq_t c24)
          refine wp_go 2 hM (fr' := (3, [some (.inr 1), some (.inr 8), some (.inl x), some (.inl y), some (.inl (t + 1))], [], σ)) rfl ?_
          exact ih3 (t + 1) (by omega) (by omega) (by exact fstI_no hv3_0 hv3_2 c24) (by omega)
        · replace c24 := b01_ne0 (cmp_eq_f c24)
          refine wp_go 1 hM (fr' := (29, [some (.inr 1), some (.inr 8), some (.inl x), some (.inl y), some (.inl t)], [.inl t], σ)) rfl ?_
          refine wp_ret hM rfl (rfl) ?_
          exact ⟨by rw [fstI_yes (P := fun i => hol v 0 (tg l i) x y) hv3_0 (by omega) hv3_2 c24], rfl⟩
  exact loop3 65 0 (by first | omega | rfl) (by first | omega | rfl) (by first | omega | rfl) (by first | omega | rfl)

set_option maxRecDepth 100000 in
set_option maxHeartbeats 4000000 in
theorem sp_X1_areaOf_9 (v : mz_G) (l : List tr3) (σ : mz_G) (t : Int) (h0 : CA σ v l) (h1 : Bs v l) (h2 : 0 ≤ t) (h3 : t < (l.length : Int)) : mz_Cl shA 15 [.inr 1, .inr 9, .inl t] σ (fun r σ' => r = some (tar v 1 (tg l t)) ∧ σ' = σ) := by
  have hM : mz_meth[15]? = some mtX1_areaOf := rfl
  obtain ⟨hR, hT, hLen⟩ := id h1
  obtain ⟨⟨hW0, hW1⟩, ⟨hH0, hH1⟩, ⟨hn0, hn1⟩, hpt⟩ := id hR
  obtain ⟨⟨hc1, hc2, hc3, hc4⟩, hcp, hct, hcv⟩ := id h0
  have ht := Rt_at hT h2 h3
  refine mz_Cl.of hM ?_
  show mz_Wp shA none 15 (0, [some (.inr 1), some (.inr 9), some (.inl t)], [], σ) _
  refine wp_go 4 hM (fr' := (6, [some (.inr 1), some (.inr 9), some (.inl t)], [.inl t, .inr 11, .inr 9], σ)) rfl ?_
  refine wp_calld (v := 0) (idx := 74) (j := 54) (N := mtX4_first) (as := [.inr 11, .inl t]) (rest := [.inr 9]) hM rfl (Or.inl ⟨rfl, rfl⟩) rfl (sp_X4_first_v v l σ t (by first | assumption | omega) (by first | assumption | omega) (by first | assumption | omega) (by first | assumption | omega)) ?_
  show mz_Wp shA none 15 (9, [some (.inr 1), some (.inr 9), some (.inl t)], [.inl ((tg l t).1), .inr 9], σ) _
  refine wp_go 3 hM (fr' := (14, [some (.inr 1), some (.inr 9), some (.inl t)], [.inl t, .inr 11, .inl ((tg l t).1), .inr 9], σ)) rfl ?_
  refine wp_calld (v := 0) (idx := 78) (j := 55) (N := mtX4_second) (as := [.inr 11, .inl t]) (rest := [.inl ((tg l t).1), .inr 9]) hM rfl (Or.inl ⟨rfl, rfl⟩) rfl (sp_X4_second_v v l σ t (by first | assumption | omega) (by first | assumption | omega) (by first | assumption | omega) (by first | assumption | omega)) ?_
  show mz_Wp shA none 15 (17, [some (.inr 1), some (.inr 9), some (.inl t)], [.inl ((tg l t).2.1), .inl ((tg l t).1), .inr 9], σ) _
  refine wp_go 3 hM (fr' := (22, [some (.inr 1), some (.inr 9), some (.inl t)], [.inl t, .inr 11, .inl ((tg l t).2.1), .inl ((tg l t).1), .inr 9], σ)) rfl ?_
  refine wp_calld (v := 0) (idx := 81) (j := 56) (N := mtX4_third) (as := [.inr 11, .inl t]) (rest := [.inl ((tg l t).2.1), .inl ((tg l t).1), .inr 9]) hM rfl (Or.inl ⟨rfl, rfl⟩) rfl (sp_X4_third_v v l σ t (by first | assumption | omega) (by first | assumption | omega) (by first | assumption | omega) (by first | assumption | omega)) ?_
  show mz_Wp shA none 15 (25, [some (.inr 1), some (.inr 9), some (.inl t)], [.inl ((tg l t).2.2), .inl ((tg l t).2.1), .inl ((tg l t).1), .inr 9], σ) _
  refine wp_calld (v := 0) (idx := 84) (j := 44) (N := mtX2_area) (as := [.inr 9, .inl ((tg l t).1), .inl ((tg l t).2.1), .inl ((tg l t).2.2)]) (rest := []) hM rfl (Or.inl ⟨rfl, rfl⟩) rfl (sp_X2_area_9_v v l σ ((tg l t).1) ((tg l t).2.1) ((tg l t).2.2) (by first | assumption | omega) (by first | assumption | omega) (by first | assumption | omega) (by first | assumption | omega) (by first | assumption | omega) (by first | assumption | omega) (by first | assumption | omega) (by first | assumption | omega)) ?_
  show mz_Wp shA none 15 (28, [some (.inr 1), some (.inr 9), some (.inl t)], [.inl (ar (gx v 1 (((tg l t).1))) (gy v 1 (((tg l t).1))) (gx v 1 (((tg l t).2.1))) (gy v 1 (((tg l t).2.1))) (gx v 1 (((tg l t).2.2))) (gy v 1 (((tg l t).2.2))))], σ) _
  refine wp_ret hM rfl (rfl) ?_
  exact ⟨rfl, rfl⟩

set_option maxRecDepth 100000 in
set_option maxHeartbeats 4000000 in
theorem sp_X1_holds_9 (v : mz_G) (l : List tr3) (σ : mz_G) (t : Int) (x : Int) (y : Int) (h0 : CA σ v l) (h1 : Bs v l) (h2 : 0 ≤ t) (h3 : t < (l.length : Int)) (h4 : dot v x y) : mz_Cl shA 16 [.inr 1, .inr 9, .inl t, .inl x, .inl y] σ (fun r σ' => r = some (b01 (hol v 1 (tg l t) x y)) ∧ σ' = σ) := by
  have hM : mz_meth[16]? = some mtX1_holds := rfl
  obtain ⟨hR, hT, hLen⟩ := id h1
  obtain ⟨⟨hW0, hW1⟩, ⟨hH0, hH1⟩, ⟨hn0, hn1⟩, hpt⟩ := id hR
  obtain ⟨⟨hc1, hc2, hc3, hc4⟩, hcp, hct, hcv⟩ := id h0
  have ht := Rt_at hT h2 h3
  have hsb := sh_bd (q := 1) (l := l) hR (by decide) ht h4
  unfold sh0 sh1 sh2 at hsb
  refine mz_Cl.of hM ?_
  show mz_Wp shA none 16 (0, [some (.inr 1), some (.inr 9), some (.inl t), some (.inl x), some (.inl y), none, none, none], [], σ) _
  refine wp_go 3 hM (fr' := (5, [some (.inr 1), some (.inr 9), some (.inl t), some (.inl x), some (.inl y), none, none, none], [.inl t, .inr 11], σ)) rfl ?_
  refine wp_calld (v := 0) (idx := 74) (j := 54) (N := mtX4_first) (as := [.inr 11, .inl t]) (rest := []) hM rfl (Or.inl ⟨rfl, rfl⟩) rfl (sp_X4_first_v v l σ t (by first | assumption | omega) (by first | assumption | omega) (by first | assumption | omega) (by first | assumption | omega)) ?_
  show mz_Wp shA none 16 (8, [some (.inr 1), some (.inr 9), some (.inl t), some (.inl x), some (.inl y), none, none, none], [.inl ((tg l t).1)], σ) _
  refine wp_go 4 hM (fr' := (15, [some (.inr 1), some (.inr 9), some (.inl t), some (.inl x), some (.inl y), some (.inl ((tg l t).1)), none, none], [.inl t, .inr 11], σ)) rfl ?_
  refine wp_calld (v := 0) (idx := 78) (j := 55) (N := mtX4_second) (as := [.inr 11, .inl t]) (rest := []) hM rfl (Or.inl ⟨rfl, rfl⟩) rfl (sp_X4_second_v v l σ t (by first | assumption | omega) (by first | assumption | omega) (by first | assumption | omega) (by first | assumption | omega)) ?_
  show mz_Wp shA none 16 (18, [some (.inr 1), some (.inr 9), some (.inl t), some (.inl x), some (.inl y), some (.inl ((tg l t).1)), none, none], [.inl ((tg l t).2.1)], σ) _
  refine wp_go 4 hM (fr' := (25, [some (.inr 1), some (.inr 9), some (.inl t), some (.inl x), some (.inl y), some (.inl ((tg l t).1)), some (.inl ((tg l t).2.1)), none], [.inl t, .inr 11], σ)) rfl ?_
  refine wp_calld (v := 0) (idx := 81) (j := 56) (N := mtX4_third) (as := [.inr 11, .inl t]) (rest := []) hM rfl (Or.inl ⟨rfl, rfl⟩) rfl (sp_X4_third_v v l σ t (by first | assumption | omega) (by first | assumption | omega) (by first | assumption | omega) (by first | assumption | omega)) ?_
  show mz_Wp shA none 16 (28, [some (.inr 1), some (.inr 9), some (.inl t), some (.inl x), some (.inl y), some (.inl ((tg l t).1)), some (.inl ((tg l t).2.1)), none], [.inl ((tg l t).2.2)], σ) _
  refine wp_go 6 hM (fr' := (38, [some (.inr 1), some (.inr 9), some (.inl t), some (.inl x), some (.inl y), some (.inl ((tg l t).1)), some (.inl ((tg l t).2.1)), some (.inl ((tg l t).2.2))], [.inl ((tg l t).2.2), .inl ((tg l t).2.1), .inl y, .inl x, .inr 9], σ)) rfl ?_
  refine wp_calld (v := 0) (idx := 88) (j := 45) (N := mtX2_areaWith) (as := [.inr 9, .inl x, .inl y, .inl ((tg l t).2.1), .inl ((tg l t).2.2)]) (rest := []) hM rfl (Or.inl ⟨rfl, rfl⟩) rfl (sp_X2_areaWith_9_v v l σ x y ((tg l t).2.1) ((tg l t).2.2) (by first | assumption | omega) (by first | assumption | omega) (by first | assumption | omega) (by first | assumption | omega) (by first | assumption | omega) (by first | assumption | omega)) ?_
  show mz_Wp shA none 16 (41, [some (.inr 1), some (.inr 9), some (.inl t), some (.inl x), some (.inl y), some (.inl ((tg l t).1)), some (.inl ((tg l t).2.1)), some (.inl ((tg l t).2.2))], [.inl (ar (x) (y) (gx v 1 (((tg l t).2.1))) (gy v 1 (((tg l t).2.1))) (gx v 1 (((tg l t).2.2))) (gy v 1 (((tg l t).2.2))))], σ) _
  refine wp_if (tgt := 76) hM rfl (by decide) (by omega) (fun c41 => ?_) (fun c41 => ?_)
  · replace c41 := cmp_lt_t c41
    refine wp_go 1 hM (fr' := (77, [some (.inr 1), some (.inr 9), some (.inl t), some (.inl x), some (.inl y), some (.inl ((tg l t).1)), some (.inl ((tg l t).2.1)), some (.inl ((tg l t).2.2))], [.inl 0], σ)) rfl ?_
    refine wp_ret hM rfl (rfl) ?_
    first | exact r_t (by unfold hol sh0 sh1 sh2; omega) | exact r_f (by unfold hol sh0 sh1 sh2; omega)
  · replace c41 := cmp_lt_f c41
    refine wp_go 5 hM (fr' := (52, [some (.inr 1), some (.inr 9), some (.inl t), some (.inl x), some (.inl y), some (.inl ((tg l t).1)), some (.inl ((tg l t).2.1)), some (.inl ((tg l t).2.2))], [.inl ((tg l t).1), .inl ((tg l t).2.2), .inl y, .inl x, .inr 9], σ)) rfl ?_
    refine wp_calld (v := 0) (idx := 88) (j := 45) (N := mtX2_areaWith) (as := [.inr 9, .inl x, .inl y, .inl ((tg l t).2.2), .inl ((tg l t).1)]) (rest := []) hM rfl (Or.inl ⟨rfl, rfl⟩) rfl (sp_X2_areaWith_9_v v l σ x y ((tg l t).2.2) ((tg l t).1) (by first | assumption | omega) (by first | assumption | omega) (by first | assumption | omega) (by first | assumption | omega) (by first | assumption | omega) (by first | assumption | omega)) ?_
    show mz_Wp shA none 16 (55, [some (.inr 1), some (.inr 9), some (.inl t), some (.inl x), some (.inl y), some (.inl ((tg l t).1)), some (.inl ((tg l t).2.1)), some (.inl ((tg l t).2.2))], [.inl (ar (x) (y) (gx v 1 (((tg l t).2.2))) (gy v 1 (((tg l t).2.2))) (gx v 1 (((tg l t).1))) (gy v 1 (((tg l t).1))))], σ) _
    refine wp_if (tgt := 76) hM rfl (by decide) (by omega) (fun c55 => ?_) (fun c55 => ?_)
    · replace c55 := cmp_lt_t c55
      refine wp_go 1 hM (fr' := (77, [some (.inr 1), some (.inr 9), some (.inl t), some (.inl x), some (.inl y), some (.inl ((tg l t).1)), some (.inl ((tg l t).2.1)), some (.inl ((tg l t).2.2))], [.inl 0], σ)) rfl ?_
      refine wp_ret hM rfl (rfl) ?_
      first | exact r_t (by unfold hol sh0 sh1 sh2; omega) | exact r_f (by unfold hol sh0 sh1 sh2; omega)
    · replace c55 := cmp_lt_f c55
      refine wp_go 5 hM (fr' := (66, [some (.inr 1), some (.inr 9), some (.inl t), some (.inl x), some (.inl y), some (.inl ((tg l t).1)), some (.inl ((tg l t).2.1)), some (.inl ((tg l t).2.2))], [.inl ((tg l t).2.1), .inl ((tg l t).1), .inl y, .inl x, .inr 9], σ)) rfl ?_
      refine wp_calld (v := 0) (idx := 88) (j := 45) (N := mtX2_areaWith) (as := [.inr 9, .inl x, .inl y, .inl ((tg l t).1), .inl ((tg l t).2.1)]) (rest := []) hM rfl (Or.inl ⟨rfl, rfl⟩) rfl (sp_X2_areaWith_9_v v l σ x y ((tg l t).1) ((tg l t).2.1) (by first | assumption | omega) (by first | assumption | omega) (by first | assumption | omega) (by first | assumption | omega) (by first | assumption | omega) (by first | assumption | omega)) ?_
      show mz_Wp shA none 16 (69, [some (.inr 1), some (.inr 9), some (.inl t), some (.inl x), some (.inl y), some (.inl ((tg l t).1)), some (.inl ((tg l t).2.1)), some (.inl ((tg l t).2.2))], [.inl (ar (x) (y) (gx v 1 (((tg l t).1))) (gy v 1 (((tg l t).1))) (gx v 1 (((tg l t).2.1))) (gy v 1 (((tg l t).2.1))))], σ) _
      refine wp_if (tgt := 76) hM rfl (by decide) (by omega) (fun c69 => ?_) (fun c69 => ?_)
      · replace c69 := cmp_lt_t c69
        refine wp_go 1 hM (fr' := (77, [some (.inr 1), some (.inr 9), some (.inl t), some (.inl x), some (.inl y), some (.inl ((tg l t).1)), some (.inl ((tg l t).2.1)), some (.inl ((tg l t).2.2))], [.inl 0], σ)) rfl ?_
        refine wp_ret hM rfl (rfl) ?_
        first | exact r_t (by unfold hol sh0 sh1 sh2; omega) | exact r_f (by unfold hol sh0 sh1 sh2; omega)
      · replace c69 := cmp_lt_f c69
        refine wp_go 2 hM (fr' := (77, [some (.inr 1), some (.inr 9), some (.inl t), some (.inl x), some (.inl y), some (.inl ((tg l t).1)), some (.inl ((tg l t).2.1)), some (.inl ((tg l t).2.2))], [.inl 1], σ)) rfl ?_
        refine wp_ret hM rfl (rfl) ?_
        first | exact r_t (by unfold hol sh0 sh1 sh2; omega) | exact r_f (by unfold hol sh0 sh1 sh2; omega)

set_option maxRecDepth 100000 in
set_option maxHeartbeats 4000000 in
theorem sp_X1_leastHolder_9 (v : mz_G) (l : List tr3) (σ : mz_G) (x : Int) (y : Int) (h0 : CA σ v l) (h1 : Bs v l) (h2 : dot v x y) : mz_Cl shA 17 [.inr 1, .inr 9, .inl x, .inl y] σ (fun r σ' => r = some (fstI (l.length : Int) (fun i => hol v 1 (tg l i) x y)) ∧ σ' = σ) := by
  have hM : mz_meth[17]? = some mtX1_leastHolder := rfl
  obtain ⟨hR, hT, hLen⟩ := id h1
  obtain ⟨⟨hW0, hW1⟩, ⟨hH0, hH1⟩, ⟨hn0, hn1⟩, hpt⟩ := id hR
  obtain ⟨⟨hc1, hc2, hc3, hc4⟩, hcp, hct, hcv⟩ := id h0
  refine mz_Cl.of hM ?_
  show mz_Wp shA none 17 (0, [some (.inr 1), some (.inr 9), some (.inl x), some (.inl y), none], [], σ) _
  refine wp_go 2 hM (fr' := (3, [some (.inr 1), some (.inr 9), some (.inl x), some (.inl y), some (.inl 0)], [], σ)) rfl ?_
  have loop3 : ∀ (fuel : Nat) (t : Int), (0 ≤ t) → (t ≤ (l.length : Int)) → (fstI t (fun i => hol v 1 (tg l i) x y) = -1) → (((l.length : Int) - t : Int) < fuel) → mz_Wp shA none 17 (3, [some (.inr 1), some (.inr 9), some (.inl x), some (.inl y), some (.inl t)], [], σ) (fun r σ' => r = some (fstI (l.length : Int) (fun i => hol v 1 (tg l i) x y)) ∧ σ' = σ) := by
    intro fuel
    induction fuel with
    | zero =>
      intro t hv3_0 hv3_1 hv3_2 hf3
      exfalso
      omega
    | succ fuel ih3 =>
      intro t hv3_0 hv3_1 hv3_2 hf3
      refine wp_go 4 hM (fr' := (12, [some (.inr 1), some (.inr 9), some (.inl x), some (.inl y), some (.inl t)], [.inl (σ 11 1), .inl t], σ)) rfl ?_
      refine wp_ic (tgt := 36) hM rfl (by decide) (by omega) (by omega) (fun c12 => ?_) (fun c12 => ?_)
      · replace c12 := cmp_ge_t c12
        refine wp_go 1 hM (fr' := (37, [some (.inr 1), some (.inr 9), some (.inl x), some (.inl y), some (.inl t)], [.inl (-1)], σ)) rfl ?_
        refine wp_ret hM rfl (rfl) ?_
        exact ⟨by rw [show (l.length : Int) = t from by omega, hv3_2], rfl⟩
      · replace c12 := cmp_ge_f c12
        refine wp_go 5 hM (fr' := (21, [some (.inr 1), some (.inr 9), some (.inl x), some (.inl y), some (.inl t)], [.inl y, .inl x, .inl t, .inr 9, .inr 1], σ)) rfl ?_
        refine wp_calld (v := 0) (idx := 92) (j := 16) (N := mtX1_holds) (as := [.inr 1, .inr 9, .inl t, .inl x, .inl y]) (rest := []) hM rfl (Or.inl ⟨rfl, rfl⟩) rfl (sp_X1_holds_9 v l σ t x y (by first | assumption | omega) (by first | assumption | omega) (by first | assumption | omega) (by first | assumption | omega) (by first | assumption | omega)) ?_
        show mz_Wp shA none 17 (24, [some (.inr 1), some (.inr 9), some (.inl x), some (.inl y), some (.inl t)], [.inl (b01 (hol v 1 (tg l t) x y))], σ) _
        refine wp_if (tgt := 30) hM rfl (by decide) b01_R (fun c24 => ?_) (fun c24 => ?_)
        · replace c24 := b01_eq0 (cmp_eq_t c24)
          refine wp_go 2 hM (fr' := (3, [some (.inr 1), some (.inr 9), some (.inl x), some (.inl y), some (.inl (t + 1))], [], σ)) rfl ?_
          exact ih3 (t + 1) (by omega) (by omega) (by exact fstI_no hv3_0 hv3_2 c24) (by omega)
        · replace c24 := b01_ne0 (cmp_eq_f c24)
          refine wp_go 1 hM (fr' := (29, [some (.inr 1), some (.inr 9), some (.inl x), some (.inl y), some (.inl t)], [.inl t], σ)) rfl ?_
          refine wp_ret hM rfl (rfl) ?_
          exact ⟨by rw [fstI_yes (P := fun i => hol v 1 (tg l i) x y) hv3_0 (by omega) hv3_2 c24], rfl⟩
  exact loop3 65 0 (by first | omega | rfl) (by first | omega | rfl) (by first | omega | rfl) (by first | omega | rfl)
