theorem ar_bd2 {v : mz_G} {q : Nat} {a b c : Int} (hR : Rg v) (hq : q < 2) (ha : isk v a) (hb : isk v b) (hc : isk v c) : -722 ≤ ar (gx v q a) (gy v q a) (gx v q b) (gy v q b) (gx v q c) (gy v q c) ∧ ar (gx v q a) (gy v q a) (gx v q b) (gy v q b) (gx v q c) (gy v q c) ≤ 722 := tar_bd (l := []) (t := (a, b, c)) hR hq ⟨ha, hb, hc⟩
set_option maxRecDepth 100000 in
set_option maxHeartbeats 4000000 in
theorem sp_X6_isIn  (σ : mz_G) (x : Int) (a : Int) (b : Int) (h0 : mz_R x) (h1 : mz_R a) (h2 : mz_R b) : mz_Cl shM 103 [.inl x, .inl a, .inl b] σ (fun r σ' => r = some (b01 (a ≤ x ∧ x ≤ b)) ∧ σ' = σ) := by
  have hM : mz_meth[103]? = some mtX6_isIn := rfl
  refine mz_Cl.of hM ?_
  show mz_Wp shM none 103 (0, [some (.inl x), some (.inl a), some (.inl b)], [], σ) _
  refine wp_go 2 hM (fr' := (2, [some (.inl x), some (.inl a), some (.inl b)], [.inl a, .inl x], σ)) rfl ?_
  refine wp_ic (tgt := 14) hM rfl (by decide) (by omega) (by omega) (fun c2 => ?_) (fun c2 => ?_)
  · replace c2 := cmp_lt_t c2
    refine wp_go 1 hM (fr' := (15, [some (.inl x), some (.inl a), some (.inl b)], [.inl 0], σ)) rfl ?_
    refine wp_ret hM rfl (rfl) ?_
    first | (first | exact r_t (by omega) | exact r_f (by omega)) | fail
  · replace c2 := cmp_lt_f c2
    refine wp_go 2 hM (fr' := (7, [some (.inl x), some (.inl a), some (.inl b)], [.inl b, .inl x], σ)) rfl ?_
    refine wp_ic (tgt := 14) hM rfl (by decide) (by omega) (by omega) (fun c7 => ?_) (fun c7 => ?_)
    · replace c7 := cmp_gt_t c7
      refine wp_go 1 hM (fr' := (15, [some (.inl x), some (.inl a), some (.inl b)], [.inl 0], σ)) rfl ?_
      refine wp_ret hM rfl (rfl) ?_
      first | (first | exact r_t (by omega) | exact r_f (by omega)) | fail
    · replace c7 := cmp_gt_f c7
      refine wp_go 2 hM (fr' := (15, [some (.inl x), some (.inl a), some (.inl b)], [.inl 1], σ)) rfl ?_
      refine wp_ret hM rfl (rfl) ?_
      first | (first | exact r_t (by omega) | exact r_f (by omega)) | fail

set_option maxRecDepth 100000 in
set_option maxHeartbeats 4000000 in
theorem sp_X6_area  (σ : mz_G) (a : Int) (b : Int) (c : Int) (d : Int) (e : Int) (f : Int)  : mz_Cl shM 110 [.inl a, .inl b, .inl c, .inl d, .inl e, .inl f] σ (fun r σ' => r = some (ar a b c d e f) ∧ σ' = σ) := by
  have hM : mz_meth[110]? = some mtX6_area := rfl
  refine mz_Cl.of hM ?_
  show mz_Wp shM none 110 (0, [some (.inl a), some (.inl b), some (.inl c), some (.inl d), some (.inl e), some (.inl f)], [], σ) _
  refine wp_go 15 hM (fr' := (17, [some (.inl a), some (.inl b), some (.inl c), some (.inl d), some (.inl e), some (.inl f)], [.inl (((c - a) * (f - b)) - ((e - a) * (d - b)))], σ)) rfl ?_
  refine wp_ret hM rfl (rfl) ?_
  first | (exact ⟨rfl, rfl⟩) | fail

set_option maxRecDepth 100000 in
set_option maxHeartbeats 4000000 in
theorem sp_X6_at (v : mz_G) (l : List tr3) (σ : mz_G) (t : Int) (k : Int) (h0 : MA σ v l) (h1 : Bs v l) (h2 : 0 ≤ t) (h3 : t < (l.length : Int)) (h4 : 0 ≤ k) (h5 : k < 3) : mz_Cl shM 111 [.inr 30, .inl t, .inl k] σ (fun r σ' => r = some (tk (tg l t) k) ∧ σ' = σ) := by
  have hM : mz_meth[111]? = some mtX6_at := rfl
  obtain ⟨hR, hT, hLen⟩ := id h1
  obtain ⟨⟨hW0, hW1⟩, ⟨hH0, hH1⟩, ⟨hn0, hn1⟩, hpt⟩ := id hR
  obtain ⟨⟨⟨hc1, hc2, hc3⟩, hcp, hcv⟩, hc4, hct⟩ := id h0
  have hWH := WH_bd hR
  refine mz_Cl.of hM ?_
  show mz_Wp shM none 111 (0, [some (.inr 30), some (.inl t), some (.inl k)], [], σ) _
  refine wp_go 7 hM (fr' := (9, [some (.inr 30), some (.inl t), some (.inl k)], [.inl ((3 * t) + k), .inr 35], σ)) rfl ?_
  refine wp_al (n := 180) hM rfl (by decide) rfl (by omega) (by omega) ?_
  refine wp_ret hM rfl (rfl) ?_
  first | (exact ⟨by rw [MT_k h0.2 h2 h3 h4 h5], rfl⟩) | fail

set_option maxRecDepth 100000 in
set_option maxHeartbeats 4000000 in
theorem sp_X6_at_0 (v : mz_G) (l : List tr3) (σ : mz_G) (t : Int) (h0 : MA σ v l) (h1 : Bs v l) (h2 : 0 ≤ t) (h3 : t < (l.length : Int)) : mz_Cl shM 111 [.inr 30, .inl t, .inl 0] σ (fun r σ' => r = some ((tg l t).1) ∧ σ' = σ) := by
  exact sp_X6_at v l σ t 0 h0 h1 h2 h3 (by decide) (by decide)

set_option maxRecDepth 100000 in
set_option maxHeartbeats 4000000 in
theorem sp_X6_at_1 (v : mz_G) (l : List tr3) (σ : mz_G) (t : Int) (h0 : MA σ v l) (h1 : Bs v l) (h2 : 0 ≤ t) (h3 : t < (l.length : Int)) : mz_Cl shM 111 [.inr 30, .inl t, .inl 1] σ (fun r σ' => r = some ((tg l t).2.1) ∧ σ' = σ) := by
  exact sp_X6_at v l σ t 1 h0 h1 h2 h3 (by decide) (by decide)

set_option maxRecDepth 100000 in
set_option maxHeartbeats 4000000 in
theorem sp_X6_at_2 (v : mz_G) (l : List tr3) (σ : mz_G) (t : Int) (h0 : MA σ v l) (h1 : Bs v l) (h2 : 0 ≤ t) (h3 : t < (l.length : Int)) : mz_Cl shM 111 [.inr 30, .inl t, .inl 2] σ (fun r σ' => r = some ((tg l t).2.2) ∧ σ' = σ) := by
  exact sp_X6_at v l σ t 2 h0 h1 h2 h3 (by decide) (by decide)

set_option maxRecDepth 100000 in
set_option maxHeartbeats 4000000 in
theorem sp_X6_homeArea (v : mz_G) (l : List tr3) (σ : mz_G) (a : Int) (b : Int) (c : Int) (h0 : MA σ v l) (h1 : Bs v l) (h2 : 0 ≤ a) (h3 : a < v 0 2) (h4 : 0 ≤ b) (h5 : b < v 0 2) (h6 : 0 ≤ c) (h7 : c < v 0 2) : mz_Cl shM 112 [.inr 30, .inl a, .inl b, .inl c] σ (fun r σ' => r = some (ar (gx v 0 a) (gy v 0 a) (gx v 0 b) (gy v 0 b) (gx v 0 c) (gy v 0 c)) ∧ σ' = σ) := by
  have hM : mz_meth[112]? = some mtX6_homeArea := rfl
  obtain ⟨hR, hT, hLen⟩ := id h1
  obtain ⟨⟨hW0, hW1⟩, ⟨hH0, hH1⟩, ⟨hn0, hn1⟩, hpt⟩ := id hR
  obtain ⟨⟨⟨hc1, hc2, hc3⟩, hcp, hcv⟩, hc4, hct⟩ := id h0
  have hWH := WH_bd hR
  have ha := MA_pt h0 h2 h3
  have hb := MA_pt h0 h4 h5
  have hc := MA_pt h0 h6 h7
  refine mz_Cl.of hM ?_
  show mz_Wp shM none 112 (0, [some (.inr 30), some (.inl a), some (.inl b), some (.inl c)], [], σ) _
  refine wp_go 3 hM (fr' := (5, [some (.inr 30), some (.inl a), some (.inl b), some (.inl c)], [.inl a, .inr 31], σ)) rfl ?_
  refine wp_al (n := 31) hM rfl (by decide) rfl (by omega) (by omega) ?_
  first | (rw [ha.1]) | skip
  refine wp_go 3 hM (fr' := (11, [some (.inr 30), some (.inl a), some (.inl b), some (.inl c)], [.inl a, .inr 32, .inl (gx v 0 a)], σ)) rfl ?_
  refine wp_al (n := 31) hM rfl (by decide) rfl (by omega) (by omega) ?_
  first | (rw [ha.2.1]) | skip
  refine wp_go 3 hM (fr' := (17, [some (.inr 30), some (.inl a), some (.inl b), some (.inl c)], [.inl b, .inr 31, .inl (gy v 0 a), .inl (gx v 0 a)], σ)) rfl ?_
  refine wp_al (n := 31) hM rfl (by decide) rfl (by omega) (by omega) ?_
  first | (rw [hb.1]) | skip
  refine wp_go 3 hM (fr' := (23, [some (.inr 30), some (.inl a), some (.inl b), some (.inl c)], [.inl b, .inr 32, .inl (gx v 0 b), .inl (gy v 0 a), .inl (gx v 0 a)], σ)) rfl ?_
  refine wp_al (n := 31) hM rfl (by decide) rfl (by omega) (by omega) ?_
  first | (rw [hb.2.1]) | skip
  refine wp_go 3 hM (fr' := (29, [some (.inr 30), some (.inl a), some (.inl b), some (.inl c)], [.inl c, .inr 31, .inl (gy v 0 b), .inl (gx v 0 b), .inl (gy v 0 a), .inl (gx v 0 a)], σ)) rfl ?_
  refine wp_al (n := 31) hM rfl (by decide) rfl (by omega) (by omega) ?_
  first | (rw [hc.1]) | skip
  refine wp_go 3 hM (fr' := (35, [some (.inr 30), some (.inl a), some (.inl b), some (.inl c)], [.inl c, .inr 32, .inl (gx v 0 c), .inl (gy v 0 b), .inl (gx v 0 b), .inl (gy v 0 a), .inl (gx v 0 a)], σ)) rfl ?_
  refine wp_al (n := 31) hM rfl (by decide) rfl (by omega) (by omega) ?_
  first | (rw [hc.2.1]) | skip
  refine wp_calld (v := 1) (idx := 81) (j := 110) (N := mtX6_area) (as := [.inl (gx v 0 a), .inl (gy v 0 a), .inl (gx v 0 b), .inl (gy v 0 b), .inl (gx v 0 c), .inl (gy v 0 c)]) (rest := []) hM rfl (Or.inr ⟨rfl, rfl⟩) rfl (sp_X6_area  σ (gx v 0 a) (gy v 0 a) (gx v 0 b) (gy v 0 b) (gx v 0 c) (gy v 0 c) ) ?_
  show mz_Wp shM none 112 (39, [some (.inr 30), some (.inl a), some (.inl b), some (.inl c)], [.inl (ar (gx v 0 a) (gy v 0 a) (gx v 0 b) (gy v 0 b) (gx v 0 c) (gy v 0 c))], σ) _
  refine wp_ret hM rfl (rfl) ?_
  first | (exact ⟨rfl, rfl⟩) | fail

set_option maxRecDepth 100000 in
set_option maxHeartbeats 4000000 in
theorem sp_X6_placeArea (v : mz_G) (l : List tr3) (σ : mz_G) (a : Int) (b : Int) (c : Int) (h0 : MA σ v l) (h1 : Bs v l) (h2 : 0 ≤ a) (h3 : a < v 0 2) (h4 : 0 ≤ b) (h5 : b < v 0 2) (h6 : 0 ≤ c) (h7 : c < v 0 2) : mz_Cl shM 113 [.inr 30, .inl a, .inl b, .inl c] σ (fun r σ' => r = some (ar (gx v 1 a) (gy v 1 a) (gx v 1 b) (gy v 1 b) (gx v 1 c) (gy v 1 c)) ∧ σ' = σ) := by
  have hM : mz_meth[113]? = some mtX6_placeArea := rfl
  obtain ⟨hR, hT, hLen⟩ := id h1
  obtain ⟨⟨hW0, hW1⟩, ⟨hH0, hH1⟩, ⟨hn0, hn1⟩, hpt⟩ := id hR
  obtain ⟨⟨⟨hc1, hc2, hc3⟩, hcp, hcv⟩, hc4, hct⟩ := id h0
  have hWH := WH_bd hR
  have ha := MA_pt h0 h2 h3
  have hb := MA_pt h0 h4 h5
  have hc := MA_pt h0 h6 h7
  refine mz_Cl.of hM ?_
  show mz_Wp shM none 113 (0, [some (.inr 30), some (.inl a), some (.inl b), some (.inl c)], [], σ) _
  refine wp_go 3 hM (fr' := (5, [some (.inr 30), some (.inl a), some (.inl b), some (.inl c)], [.inl a, .inr 33], σ)) rfl ?_
  refine wp_al (n := 31) hM rfl (by decide) rfl (by omega) (by omega) ?_
  first | (rw [ha.2.2.1]) | skip
  refine wp_go 3 hM (fr' := (11, [some (.inr 30), some (.inl a), some (.inl b), some (.inl c)], [.inl a, .inr 34, .inl (gx v 1 a)], σ)) rfl ?_
  refine wp_al (n := 31) hM rfl (by decide) rfl (by omega) (by omega) ?_
  first | (rw [ha.2.2.2]) | skip
  refine wp_go 3 hM (fr' := (17, [some (.inr 30), some (.inl a), some (.inl b), some (.inl c)], [.inl b, .inr 33, .inl (gy v 1 a), .inl (gx v 1 a)], σ)) rfl ?_
  refine wp_al (n := 31) hM rfl (by decide) rfl (by omega) (by omega) ?_
  first | (rw [hb.2.2.1]) | skip
  refine wp_go 3 hM (fr' := (23, [some (.inr 30), some (.inl a), some (.inl b), some (.inl c)], [.inl b, .inr 34, .inl (gx v 1 b), .inl (gy v 1 a), .inl (gx v 1 a)], σ)) rfl ?_
  refine wp_al (n := 31) hM rfl (by decide) rfl (by omega) (by omega) ?_
  first | (rw [hb.2.2.2]) | skip
  refine wp_go 3 hM (fr' := (29, [some (.inr 30), some (.inl a), some (.inl b), some (.inl c)], [.inl c, .inr 33, .inl (gy v 1 b), .inl (gx v 1 b), .inl (gy v 1 a), .inl (gx v 1 a)], σ)) rfl ?_
  refine wp_al (n := 31) hM rfl (by decide) rfl (by omega) (by omega) ?_
  first | (rw [hc.2.2.1]) | skip
  refine wp_go 3 hM (fr' := (35, [some (.inr 30), some (.inl a), some (.inl b), some (.inl c)], [.inl c, .inr 34, .inl (gx v 1 c), .inl (gy v 1 b), .inl (gx v 1 b), .inl (gy v 1 a), .inl (gx v 1 a)], σ)) rfl ?_
  refine wp_al (n := 31) hM rfl (by decide) rfl (by omega) (by omega) ?_
  first | (rw [hc.2.2.2]) | skip
  refine wp_calld (v := 1) (idx := 81) (j := 110) (N := mtX6_area) (as := [.inl (gx v 1 a), .inl (gy v 1 a), .inl (gx v 1 b), .inl (gy v 1 b), .inl (gx v 1 c), .inl (gy v 1 c)]) (rest := []) hM rfl (Or.inr ⟨rfl, rfl⟩) rfl (sp_X6_area  σ (gx v 1 a) (gy v 1 a) (gx v 1 b) (gy v 1 b) (gx v 1 c) (gy v 1 c) ) ?_
  show mz_Wp shM none 113 (39, [some (.inr 30), some (.inl a), some (.inl b), some (.inl c)], [.inl (ar (gx v 1 a) (gy v 1 a) (gx v 1 b) (gy v 1 b) (gx v 1 c) (gy v 1 c))], σ) _
  refine wp_ret hM rfl (rfl) ?_
  first | (exact ⟨rfl, rfl⟩) | fail

set_option maxRecDepth 100000 in
set_option maxHeartbeats 4000000 in
theorem sp_X6_areaOf_0 (v : mz_G) (l : List tr3) (σ : mz_G) (t : Int) (h0 : MA σ v l) (h1 : Bs v l) (h2 : 0 ≤ t) (h3 : t < (l.length : Int)) : mz_Cl shM 114 [.inr 30, .inl t, .inl 0] σ (fun r σ' => r = some (tar v 1 (tg l t)) ∧ σ' = σ) := by
  have hM : mz_meth[114]? = some mtX6_areaOf := rfl
  obtain ⟨hR, hT, hLen⟩ := id h1
  obtain ⟨⟨hW0, hW1⟩, ⟨hH0, hH1⟩, ⟨hn0, hn1⟩, hpt⟩ := id hR
  obtain ⟨⟨⟨hc1, hc2, hc3⟩, hcp, hcv⟩, hc4, hct⟩ := id h0
  have hWH := WH_bd hR
  have ht := Rt_at hT h2 h3
  refine mz_Cl.of hM ?_
  show mz_Wp shM none 114 (0, [some (.inr 30), some (.inl t), some (.inl 0)], [], σ) _
  refine wp_go 1 hM (fr' := (1, [some (.inr 30), some (.inl t), some (.inl 0)], [.inl 0], σ)) rfl ?_
  refine wp_if (tgt := 29) hM rfl (by decide) (by omega) (fun c1 => ?_) (fun c1 => ?_)
  · replace c1 := cmp_eq_t c1
    refine wp_go 4 hM (fr' := (33, [some (.inr 30), some (.inl t), some (.inl 0)], [.inl 0, .inl t, .inr 30, .inr 30], σ)) rfl ?_
    refine wp_calld (v := 0) (idx := 85) (j := 111) (N := mtX6_at) (as := [.inr 30, .inl t, .inl 0]) (rest := [.inr 30]) hM rfl (Or.inl ⟨rfl, rfl⟩) rfl (sp_X6_at_0 v l σ t (by first | (first | assumption | omega) | fail) (by first | (first | assumption | omega) | fail) (by first | (first | assumption | omega) | fail) (by first | (first | assumption | omega) | fail)) ?_
    show mz_Wp shM none 114 (36, [some (.inr 30), some (.inl t), some (.inl 0)], [.inl ((tg l t).1), .inr 30], σ) _
    refine wp_go 3 hM (fr' := (39, [some (.inr 30), some (.inl t), some (.inl 0)], [.inl 1, .inl t, .inr 30, .inl ((tg l t).1), .inr 30], σ)) rfl ?_
    refine wp_calld (v := 0) (idx := 85) (j := 111) (N := mtX6_at) (as := [.inr 30, .inl t, .inl 1]) (rest := [.inl ((tg l t).1), .inr 30]) hM rfl (Or.inl ⟨rfl, rfl⟩) rfl (sp_X6_at_1 v l σ t (by first | (first | assumption | omega) | fail) (by first | (first | assumption | omega) | fail) (by first | (first | assumption | omega) | fail) (by first | (first | assumption | omega) | fail)) ?_
    show mz_Wp shM none 114 (42, [some (.inr 30), some (.inl t), some (.inl 0)], [.inl ((tg l t).2.1), .inl ((tg l t).1), .inr 30], σ) _
    refine wp_go 3 hM (fr' := (45, [some (.inr 30), some (.inl t), some (.inl 0)], [.inl 2, .inl t, .inr 30, .inl ((tg l t).2.1), .inl ((tg l t).1), .inr 30], σ)) rfl ?_
    refine wp_calld (v := 0) (idx := 85) (j := 111) (N := mtX6_at) (as := [.inr 30, .inl t, .inl 2]) (rest := [.inl ((tg l t).2.1), .inl ((tg l t).1), .inr 30]) hM rfl (Or.inl ⟨rfl, rfl⟩) rfl (sp_X6_at_2 v l σ t (by first | (first | assumption | omega) | fail) (by first | (first | assumption | omega) | fail) (by first | (first | assumption | omega) | fail) (by first | (first | assumption | omega) | fail)) ?_
    show mz_Wp shM none 114 (48, [some (.inr 30), some (.inl t), some (.inl 0)], [.inl ((tg l t).2.2), .inl ((tg l t).2.1), .inl ((tg l t).1), .inr 30], σ) _
    refine wp_calld (v := 0) (idx := 93) (j := 113) (N := mtX6_placeArea) (as := [.inr 30, .inl ((tg l t).1), .inl ((tg l t).2.1), .inl ((tg l t).2.2)]) (rest := []) hM rfl (Or.inl ⟨rfl, rfl⟩) rfl (sp_X6_placeArea v l σ ((tg l t).1) ((tg l t).2.1) ((tg l t).2.2) (by first | (first | assumption | omega) | fail) (by first | (first | assumption | omega) | fail) (by first | (first | assumption | omega) | fail) (by first | (first | assumption | omega) | fail) (by first | (first | assumption | omega) | fail) (by first | (first | assumption | omega) | fail) (by first | (first | assumption | omega) | fail) (by first | (first | assumption | omega) | fail)) ?_
    show mz_Wp shM none 114 (51, [some (.inr 30), some (.inl t), some (.inl 0)], [.inl (ar (gx v 1 (((tg l t).1))) (gy v 1 (((tg l t).1))) (gx v 1 (((tg l t).2.1))) (gy v 1 (((tg l t).2.1))) (gx v 1 (((tg l t).2.2))) (gy v 1 (((tg l t).2.2))))], σ) _
    refine wp_ret hM rfl (rfl) ?_
    first | (exact ⟨rfl, rfl⟩) | fail
  · replace c1 := cmp_eq_f c1
    exact absurd c1 (by decide)

set_option maxRecDepth 100000 in
set_option maxHeartbeats 4000000 in
theorem sp_X6_areaOf_1 (v : mz_G) (l : List tr3) (σ : mz_G) (t : Int) (h0 : MA σ v l) (h1 : Bs v l) (h2 : 0 ≤ t) (h3 : t < (l.length : Int)) : mz_Cl shM 114 [.inr 30, .inl t, .inl 1] σ (fun r σ' => r = some (tar v 0 (tg l t)) ∧ σ' = σ) := by
  have hM : mz_meth[114]? = some mtX6_areaOf := rfl
  obtain ⟨hR, hT, hLen⟩ := id h1
  obtain ⟨⟨hW0, hW1⟩, ⟨hH0, hH1⟩, ⟨hn0, hn1⟩, hpt⟩ := id hR
  obtain ⟨⟨⟨hc1, hc2, hc3⟩, hcp, hcv⟩, hc4, hct⟩ := id h0
  have hWH := WH_bd hR
  have ht := Rt_at hT h2 h3
  refine mz_Cl.of hM ?_
  show mz_Wp shM none 114 (0, [some (.inr 30), some (.inl t), some (.inl 1)], [], σ) _
  refine wp_go 1 hM (fr' := (1, [some (.inr 30), some (.inl t), some (.inl 1)], [.inl 1], σ)) rfl ?_
  refine wp_if (tgt := 29) hM rfl (by decide) (by omega) (fun c1 => ?_) (fun c1 => ?_)
  · replace c1 := cmp_eq_t c1
    exact absurd c1 (by decide)
  · replace c1 := cmp_eq_f c1
    refine wp_go 4 hM (fr' := (8, [some (.inr 30), some (.inl t), some (.inl 1)], [.inl 0, .inl t, .inr 30, .inr 30], σ)) rfl ?_
    refine wp_calld (v := 0) (idx := 85) (j := 111) (N := mtX6_at) (as := [.inr 30, .inl t, .inl 0]) (rest := [.inr 30]) hM rfl (Or.inl ⟨rfl, rfl⟩) rfl (sp_X6_at_0 v l σ t (by first | (first | assumption | omega) | fail) (by first | (first | assumption | omega) | fail) (by first | (first | assumption | omega) | fail) (by first | (first | assumption | omega) | fail)) ?_
    show mz_Wp shM none 114 (11, [some (.inr 30), some (.inl t), some (.inl 1)], [.inl ((tg l t).1), .inr 30], σ) _
    refine wp_go 3 hM (fr' := (14, [some (.inr 30), some (.inl t), some (.inl 1)], [.inl 1, .inl t, .inr 30, .inl ((tg l t).1), .inr 30], σ)) rfl ?_
    refine wp_calld (v := 0) (idx := 85) (j := 111) (N := mtX6_at) (as := [.inr 30, .inl t, .inl 1]) (rest := [.inl ((tg l t).1), .inr 30]) hM rfl (Or.inl ⟨rfl, rfl⟩) rfl (sp_X6_at_1 v l σ t (by first | (first | assumption | omega) | fail) (by first | (first | assumption | omega) | fail) (by first | (first | assumption | omega) | fail) (by first | (first | assumption | omega) | fail)) ?_
    show mz_Wp shM none 114 (17, [some (.inr 30), some (.inl t), some (.inl 1)], [.inl ((tg l t).2.1), .inl ((tg l t).1), .inr 30], σ) _
    refine wp_go 3 hM (fr' := (20, [some (.inr 30), some (.inl t), some (.inl 1)], [.inl 2, .inl t, .inr 30, .inl ((tg l t).2.1), .inl ((tg l t).1), .inr 30], σ)) rfl ?_
    refine wp_calld (v := 0) (idx := 85) (j := 111) (N := mtX6_at) (as := [.inr 30, .inl t, .inl 2]) (rest := [.inl ((tg l t).2.1), .inl ((tg l t).1), .inr 30]) hM rfl (Or.inl ⟨rfl, rfl⟩) rfl (sp_X6_at_2 v l σ t (by first | (first | assumption | omega) | fail) (by first | (first | assumption | omega) | fail) (by first | (first | assumption | omega) | fail) (by first | (first | assumption | omega) | fail)) ?_
    show mz_Wp shM none 114 (23, [some (.inr 30), some (.inl t), some (.inl 1)], [.inl ((tg l t).2.2), .inl ((tg l t).2.1), .inl ((tg l t).1), .inr 30], σ) _
    refine wp_calld (v := 0) (idx := 89) (j := 112) (N := mtX6_homeArea) (as := [.inr 30, .inl ((tg l t).1), .inl ((tg l t).2.1), .inl ((tg l t).2.2)]) (rest := []) hM rfl (Or.inl ⟨rfl, rfl⟩) rfl (sp_X6_homeArea v l σ ((tg l t).1) ((tg l t).2.1) ((tg l t).2.2) (by first | (first | assumption | omega) | fail) (by first | (first | assumption | omega) | fail) (by first | (first | assumption | omega) | fail) (by first | (first | assumption | omega) | fail) (by first | (first | assumption | omega) | fail) (by first | (first | assumption | omega) | fail) (by first | (first | assumption | omega) | fail) (by first | (first | assumption | omega) | fail)) ?_
    show mz_Wp shM none 114 (26, [some (.inr 30), some (.inl t), some (.inl 1)], [.inl (ar (gx v 0 (((tg l t).1))) (gy v 0 (((tg l t).1))) (gx v 0 (((tg l t).2.1))) (gy v 0 (((tg l t).2.1))) (gx v 0 (((tg l t).2.2))) (gy v 0 (((tg l t).2.2))))], σ) _
    refine wp_go 1 hM (fr' := (51, [some (.inr 30), some (.inl t), some (.inl 1)], [.inl (ar (gx v 0 (((tg l t).1))) (gy v 0 (((tg l t).1))) (gx v 0 (((tg l t).2.1))) (gy v 0 (((tg l t).2.1))) (gx v 0 (((tg l t).2.2))) (gy v 0 (((tg l t).2.2))))], σ)) rfl ?_
    refine wp_ret hM rfl (rfl) ?_
    first | (exact ⟨rfl, rfl⟩) | fail

set_option maxRecDepth 100000 in
set_option maxHeartbeats 4000000 in
theorem sp_X6_isFolded (v : mz_G) (l : List tr3) (σ : mz_G)  (h0 : MA σ v l) (h1 : Bs v l) : mz_Cl shM 118 [.inr 30] σ (fun r σ' => r = some (b01 (fdd v l)) ∧ σ' = σ) := by
  have hM : mz_meth[118]? = some mtX6_isFolded := rfl
  obtain ⟨hR, hT, hLen⟩ := id h1
  obtain ⟨⟨hW0, hW1⟩, ⟨hH0, hH1⟩, ⟨hn0, hn1⟩, hpt⟩ := id hR
  obtain ⟨⟨⟨hc1, hc2, hc3⟩, hcp, hcv⟩, hc4, hct⟩ := id h0
  have hWH := WH_bd hR
  refine mz_Cl.of hM ?_
  show mz_Wp shM none 118 (0, [some (.inr 30), none], [], σ) _
  refine wp_go 2 hM (fr' := (2, [some (.inr 30), some (.inl 0)], [], σ)) rfl ?_
  have loop2 : ∀ (fuel : Nat) (t : Int), (0 ≤ t) → (t ≤ (l.length : Int)) → (fstI t (fun t => tar v 1 (tg l t) ≤ 0 ∨ tar v 0 (tg l t) ≤ 0) = -1) → (((l.length : Int) - t : Int) < fuel) → mz_Wp shM none 118 (2, [some (.inr 30), some (.inl t)], [], σ) (fun r σ' => r = some (b01 (fdd v l)) ∧ σ' = σ) := by
    intro fuel
    induction fuel with
    | zero =>
      intro t hv2_0 hv2_1 hv2_2 hf2
      exfalso
      omega
    | succ fuel ih2 =>
      intro t hv2_0 hv2_1 hv2_2 hf2
      refine wp_go 3 hM (fr' := (7, [some (.inr 30), some (.inl t)], [.inl (σ 30 3), .inl t], σ)) rfl ?_
      refine wp_ic (tgt := 36) hM rfl (by decide) (by omega) (by omega) (fun c7 => ?_) (fun c7 => ?_)
      · replace c7 := cmp_ge_t c7
        refine wp_go 1 hM (fr' := (37, [some (.inr 30), some (.inl t)], [.inl 0], σ)) rfl ?_
        refine wp_ret hM rfl (rfl) ?_
        first | (exact r_f (fun q => q (by rw [show (l.length : Int) = t from by omega]; exact hv2_2))) | fail
      · replace c7 := cmp_ge_f c7
        first | (have hb0 := tar_bd (l := l) (q := 0) hR (by decide) (Rt_at hT (show 0 ≤ t by omega) (show t < (l.length : Int) by omega))) | skip
        first | (have hb1 := tar_bd (l := l) (q := 1) hR (by decide) (Rt_at hT (show 0 ≤ t by omega) (show t < (l.length : Int) by omega))) | skip
        refine wp_go 3 hM (fr' := (13, [some (.inr 30), some (.inl t)], [.inl 0, .inl t, .inr 30], σ)) rfl ?_
        refine wp_calld (v := 0) (idx := 104) (j := 114) (N := mtX6_areaOf) (as := [.inr 30, .inl t, .inl 0]) (rest := []) hM rfl (Or.inl ⟨rfl, rfl⟩) rfl (sp_X6_areaOf_0 v l σ t (by first | (first | assumption | omega) | fail) (by first | (first | assumption | omega) | fail) (by first | (first | assumption | omega) | fail) (by first | (first | assumption | omega) | fail)) ?_
        show mz_Wp shM none 118 (16, [some (.inr 30), some (.inl t)], [.inl (tar v 1 (tg l t))], σ) _
        refine wp_if (tgt := 28) hM rfl (by decide) (by omega) (fun c16 => ?_) (fun c16 => ?_)
        · replace c16 := cmp_le_t c16
          refine wp_go 1 hM (fr' := (29, [some (.inr 30), some (.inl t)], [.inl 1], σ)) rfl ?_
          refine wp_ret hM rfl (rfl) ?_
          first | (exact r_t (by unfold fdd; rw [fstI_yes (t := t) (P := fun t => tar v 1 (tg l t) ≤ 0 ∨ tar v 0 (tg l t) ≤ 0) hv2_0 (by omega) hv2_2 (by first | exact Or.inl c16 | exact Or.inr (by omega))]; omega)) | fail
        · replace c16 := cmp_le_f c16
          refine wp_go 3 hM (fr' := (22, [some (.inr 30), some (.inl t)], [.inl 1, .inl t, .inr 30], σ)) rfl ?_
          refine wp_calld (v := 0) (idx := 104) (j := 114) (N := mtX6_areaOf) (as := [.inr 30, .inl t, .inl 1]) (rest := []) hM rfl (Or.inl ⟨rfl, rfl⟩) rfl (sp_X6_areaOf_1 v l σ t (by first | (first | assumption | omega) | fail) (by first | (first | assumption | omega) | fail) (by first | (first | assumption | omega) | fail) (by first | (first | assumption | omega) | fail)) ?_
          show mz_Wp shM none 118 (25, [some (.inr 30), some (.inl t)], [.inl (tar v 0 (tg l t))], σ) _
          refine wp_if (tgt := 30) hM rfl (by decide) (by omega) (fun c25 => ?_) (fun c25 => ?_)
          · replace c25 := cmp_gt_t c25
            refine wp_go 2 hM (fr' := (2, [some (.inr 30), some (.inl (t + 1))], [], σ)) rfl ?_
            exact ih2 (t + 1) (by omega) (by omega) (by first | (exact fstI_no hv2_0 hv2_2 (by omega)) | fail) (by omega)
          · replace c25 := cmp_gt_f c25
            refine wp_go 1 hM (fr' := (29, [some (.inr 30), some (.inl t)], [.inl 1], σ)) rfl ?_
            refine wp_ret hM rfl (rfl) ?_
            first | (exact r_t (by unfold fdd; rw [fstI_yes (t := t) (P := fun t => tar v 1 (tg l t) ≤ 0 ∨ tar v 0 (tg l t) ≤ 0) hv2_0 (by omega) hv2_2 (by first | exact Or.inl c16 | exact Or.inr (by omega))]; omega)) | fail
  exact loop2 65 0 (by omega) (by omega) (by rfl) (by omega)

set_option maxRecDepth 100000 in
set_option maxHeartbeats 4000000 in
theorem sp_X6_shareOf_1 (v : mz_G) (l : List tr3) (σ : mz_G) (t : Int) (k : Int) (x : Int) (y : Int) (h0 : MA σ v l) (h1 : Bs v l) (h2 : 0 ≤ t) (h3 : t < (l.length : Int)) (h4 : 0 ≤ k) (h5 : k < 3) : mz_Cl shM 119 [.inr 30, .inl t, .inl k, .inl x, .inl y, .inl 1] σ (fun r σ' => r = some (shk v 0 (tg l t) k x y) ∧ σ' = σ) := by
  have hM : mz_meth[119]? = some mtX6_shareOf := rfl
  obtain ⟨hR, hT, hLen⟩ := id h1
  obtain ⟨⟨hW0, hW1⟩, ⟨hH0, hH1⟩, ⟨hn0, hn1⟩, hpt⟩ := id hR
  obtain ⟨⟨⟨hc1, hc2, hc3⟩, hcp, hcv⟩, hc4, hct⟩ := id h0
  have hWH := WH_bd hR
  have ht := Rt_at hT h2 h3
  have hcs := tk_cs (tg l t) h4 h5
  have hb1 := tk_bd (k := (k + 1).tmod 3) ht
  have hb2 := tk_bd (k := (k + 2).tmod 3) ht
  have hp1 := MA_pt h0 hb1.1 hb1.2
  have hp2 := MA_pt h0 hb2.1 hb2.2
  refine mz_Cl.of hM ?_
  show mz_Wp shM none 119 (0, [some (.inr 30), some (.inl t), some (.inl k), some (.inl x), some (.inl y), some (.inl 1), none, none], [], σ) _
  refine wp_go 6 hM (fr' := (6, [some (.inr 30), some (.inl t), some (.inl k), some (.inl x), some (.inl y), some (.inl 1), none, none], [.inl 3, .inl (k + 1), .inl t, .inr 30], σ)) rfl ?_
  refine wp_rem hM rfl (by omega) (by omega) (by omega) ?_
  refine wp_calld (v := 0) (idx := 85) (j := 111) (N := mtX6_at) (as := [.inr 30, .inl t, .inl ((k + 1).tmod 3)]) (rest := []) hM rfl (Or.inl ⟨rfl, rfl⟩) rfl (sp_X6_at v l σ t ((k + 1).tmod 3) (by first | (first | assumption | omega) | fail) (by first | (first | assumption | omega) | fail) (by first | (first | assumption | omega) | fail) (by first | (first | assumption | omega) | fail) (by first | (first | assumption | omega) | fail) (by first | (first | assumption | omega) | fail)) ?_
  show mz_Wp shM none 119 (10, [some (.inr 30), some (.inl t), some (.inl k), some (.inl x), some (.inl y), some (.inl 1), none, none], [.inl (tk (tg l t) ((k + 1).tmod 3))], σ) _
  refine wp_go 7 hM (fr' := (18, [some (.inr 30), some (.inl t), some (.inl k), some (.inl x), some (.inl y), some (.inl 1), some (.inl (tk (tg l t) ((k + 1).tmod 3))), none], [.inl 3, .inl (k + 2), .inl t, .inr 30], σ)) rfl ?_
  refine wp_rem hM rfl (by omega) (by omega) (by omega) ?_
  refine wp_calld (v := 0) (idx := 85) (j := 111) (N := mtX6_at) (as := [.inr 30, .inl t, .inl ((k + 2).tmod 3)]) (rest := []) hM rfl (Or.inl ⟨rfl, rfl⟩) rfl (sp_X6_at v l σ t ((k + 2).tmod 3) (by first | (first | assumption | omega) | fail) (by first | (first | assumption | omega) | fail) (by first | (first | assumption | omega) | fail) (by first | (first | assumption | omega) | fail) (by first | (first | assumption | omega) | fail) (by first | (first | assumption | omega) | fail)) ?_
  show mz_Wp shM none 119 (22, [some (.inr 30), some (.inl t), some (.inl k), some (.inl x), some (.inl y), some (.inl 1), some (.inl (tk (tg l t) ((k + 1).tmod 3))), none], [.inl (tk (tg l t) ((k + 2).tmod 3))], σ) _
  refine wp_go 2 hM (fr' := (26, [some (.inr 30), some (.inl t), some (.inl k), some (.inl x), some (.inl y), some (.inl 1), some (.inl (tk (tg l t) ((k + 1).tmod 3))), some (.inl (tk (tg l t) ((k + 2).tmod 3)))], [.inl 1], σ)) rfl ?_
  refine wp_if (tgt := 66) hM rfl (by decide) (by omega) (fun c26 => ?_) (fun c26 => ?_)
  · replace c26 := cmp_eq_t c26
    exact absurd c26 (by decide)
  · replace c26 := cmp_eq_f c26
    refine wp_go 5 hM (fr' := (38, [some (.inr 30), some (.inl t), some (.inl k), some (.inl x), some (.inl y), some (.inl 1), some (.inl (tk (tg l t) ((k + 1).tmod 3))), some (.inl (tk (tg l t) ((k + 2).tmod 3)))], [.inl (tk (tg l t) ((k + 1).tmod 3)), .inr 31, .inl y, .inl x], σ)) rfl ?_
    refine wp_al (n := 31) hM rfl (by decide) rfl (by omega) (by omega) ?_
    first | (rw [hp1.1]) | skip
    refine wp_go 3 hM (fr' := (45, [some (.inr 30), some (.inl t), some (.inl k), some (.inl x), some (.inl y), some (.inl 1), some (.inl (tk (tg l t) ((k + 1).tmod 3))), some (.inl (tk (tg l t) ((k + 2).tmod 3)))], [.inl (tk (tg l t) ((k + 1).tmod 3)), .inr 32, .inl (gx v 0 (tk (tg l t) ((k + 1).tmod 3))), .inl y, .inl x], σ)) rfl ?_
    refine wp_al (n := 31) hM rfl (by decide) rfl (by omega) (by omega) ?_
    first | (rw [hp1.2.1]) | skip
    refine wp_go 3 hM (fr' := (52, [some (.inr 30), some (.inl t), some (.inl k), some (.inl x), some (.inl y), some (.inl 1), some (.inl (tk (tg l t) ((k + 1).tmod 3))), some (.inl (tk (tg l t) ((k + 2).tmod 3)))], [.inl (tk (tg l t) ((k + 2).tmod 3)), .inr 31, .inl (gy v 0 (tk (tg l t) ((k + 1).tmod 3))), .inl (gx v 0 (tk (tg l t) ((k + 1).tmod 3))), .inl y, .inl x], σ)) rfl ?_
    refine wp_al (n := 31) hM rfl (by decide) rfl (by omega) (by omega) ?_
    first | (rw [hp2.1]) | skip
    refine wp_go 3 hM (fr' := (59, [some (.inr 30), some (.inl t), some (.inl k), some (.inl x), some (.inl y), some (.inl 1), some (.inl (tk (tg l t) ((k + 1).tmod 3))), some (.inl (tk (tg l t) ((k + 2).tmod 3)))], [.inl (tk (tg l t) ((k + 2).tmod 3)), .inr 32, .inl (gx v 0 (tk (tg l t) ((k + 2).tmod 3))), .inl (gy v 0 (tk (tg l t) ((k + 1).tmod 3))), .inl (gx v 0 (tk (tg l t) ((k + 1).tmod 3))), .inl y, .inl x], σ)) rfl ?_
    refine wp_al (n := 31) hM rfl (by decide) rfl (by omega) (by omega) ?_
    first | (rw [hp2.2.1]) | skip
    refine wp_calld (v := 1) (idx := 81) (j := 110) (N := mtX6_area) (as := [.inl x, .inl y, .inl (gx v 0 (tk (tg l t) ((k + 1).tmod 3))), .inl (gy v 0 (tk (tg l t) ((k + 1).tmod 3))), .inl (gx v 0 (tk (tg l t) ((k + 2).tmod 3))), .inl (gy v 0 (tk (tg l t) ((k + 2).tmod 3)))]) (rest := []) hM rfl (Or.inr ⟨rfl, rfl⟩) rfl (sp_X6_area  σ x y (gx v 0 (tk (tg l t) ((k + 1).tmod 3))) (gy v 0 (tk (tg l t) ((k + 1).tmod 3))) (gx v 0 (tk (tg l t) ((k + 2).tmod 3))) (gy v 0 (tk (tg l t) ((k + 2).tmod 3))) ) ?_
    show mz_Wp shM none 119 (63, [some (.inr 30), some (.inl t), some (.inl k), some (.inl x), some (.inl y), some (.inl 1), some (.inl (tk (tg l t) ((k + 1).tmod 3))), some (.inl (tk (tg l t) ((k + 2).tmod 3)))], [.inl (ar x y (gx v 0 (tk (tg l t) ((k + 1).tmod 3))) (gy v 0 (tk (tg l t) ((k + 1).tmod 3))) (gx v 0 (tk (tg l t) ((k + 2).tmod 3))) (gy v 0 (tk (tg l t) ((k + 2).tmod 3))))], σ) _
    refine wp_go 1 hM (fr' := (100, [some (.inr 30), some (.inl t), some (.inl k), some (.inl x), some (.inl y), some (.inl 1), some (.inl (tk (tg l t) ((k + 1).tmod 3))), some (.inl (tk (tg l t) ((k + 2).tmod 3)))], [.inl (ar x y (gx v 0 (tk (tg l t) ((k + 1).tmod 3))) (gy v 0 (tk (tg l t) ((k + 1).tmod 3))) (gx v 0 (tk (tg l t) ((k + 2).tmod 3))) (gy v 0 (tk (tg l t) ((k + 2).tmod 3))))], σ)) rfl ?_
    refine wp_ret hM rfl (rfl) ?_
    rcases (show k = 0 ∨ k = 1 ∨ k = 2 by omega) with rfl | rfl | rfl
    · exact ⟨rfl, rfl⟩
    · exact ⟨rfl, rfl⟩
    · exact ⟨rfl, rfl⟩

set_option maxRecDepth 100000 in
set_option maxHeartbeats 4000000 in
theorem sp_X6_has_1 (v : mz_G) (l : List tr3) (σ : mz_G) (t : Int) (x : Int) (y : Int) (h0 : MA σ v l) (h1 : Bs v l) (h2 : 0 ≤ t) (h3 : t < (l.length : Int)) (h4 : dot v x y) : mz_Cl shM 120 [.inr 30, .inl t, .inl x, .inl y, .inl 1] σ (fun r σ' => r = some (b01 (hol v 0 (tg l t) x y)) ∧ σ' = σ) := by
  have hM : mz_meth[120]? = some mtX6_has := rfl
  obtain ⟨hR, hT, hLen⟩ := id h1
  obtain ⟨⟨hW0, hW1⟩, ⟨hH0, hH1⟩, ⟨hn0, hn1⟩, hpt⟩ := id hR
  obtain ⟨⟨⟨hc1, hc2, hc3⟩, hcp, hcv⟩, hc4, hct⟩ := id h0
  have hWH := WH_bd hR
  have hsb := sh_bd (l := l) hR (q := 0) (by decide) (Rt_at hT h2 h3) h4
  have e0 : shk v 0 (tg l t) 0 x y = sh0 v 0 (tg l t) x y := rfl
  have e1 : shk v 0 (tg l t) 1 x y = sh1 v 0 (tg l t) x y := rfl
  have e2 : shk v 0 (tg l t) 2 x y = sh2 v 0 (tg l t) x y := rfl
  refine mz_Cl.of hM ?_
  show mz_Wp shM none 120 (0, [some (.inr 30), some (.inl t), some (.inl x), some (.inl y), some (.inl 1)], [], σ) _
  refine wp_go 6 hM (fr' := (7, [some (.inr 30), some (.inl t), some (.inl x), some (.inl y), some (.inl 1)], [.inl 1, .inl y, .inl x, .inl 0, .inl t, .inr 30], σ)) rfl ?_
  refine wp_calld (v := 0) (idx := 108) (j := 119) (N := mtX6_shareOf) (as := [.inr 30, .inl t, .inl 0, .inl x, .inl y, .inl 1]) (rest := []) hM rfl (Or.inl ⟨rfl, rfl⟩) rfl (sp_X6_shareOf_1 v l σ t 0 x y (by first | (first | assumption | omega) | fail) (by first | (first | assumption | omega) | fail) (by first | (first | assumption | omega) | fail) (by first | (first | assumption | omega) | fail) (by first | (first | assumption | omega) | fail) (by first | (first | assumption | omega) | fail)) ?_
  show mz_Wp shM none 120 (10, [some (.inr 30), some (.inl t), some (.inl x), some (.inl y), some (.inl 1)], [.inl (shk v 0 (tg l t) 0 x y)], σ) _
  refine wp_if (tgt := 43) hM rfl (by decide) (by first | (rw [e0]; omega) | fail) (fun c10 => ?_) (fun c10 => ?_)
  · replace c10 := cmp_lt_t c10
    refine wp_go 1 hM (fr' := (44, [some (.inr 30), some (.inl t), some (.inl x), some (.inl y), some (.inl 1)], [.inl 0], σ)) rfl ?_
    refine wp_ret hM rfl (rfl) ?_
    first | (first | exact r_t (by unfold hol; omega) | exact r_f (by unfold hol; omega)) | fail
  · replace c10 := cmp_lt_f c10
    refine wp_go 6 hM (fr' := (20, [some (.inr 30), some (.inl t), some (.inl x), some (.inl y), some (.inl 1)], [.inl 1, .inl y, .inl x, .inl 1, .inl t, .inr 30], σ)) rfl ?_
    refine wp_calld (v := 0) (idx := 108) (j := 119) (N := mtX6_shareOf) (as := [.inr 30, .inl t, .inl 1, .inl x, .inl y, .inl 1]) (rest := []) hM rfl (Or.inl ⟨rfl, rfl⟩) rfl (sp_X6_shareOf_1 v l σ t 1 x y (by first | (first | assumption | omega) | fail) (by first | (first | assumption | omega) | fail) (by first | (first | assumption | omega) | fail) (by first | (first | assumption | omega) | fail) (by first | (first | assumption | omega) | fail) (by first | (first | assumption | omega) | fail)) ?_
    show mz_Wp shM none 120 (23, [some (.inr 30), some (.inl t), some (.inl x), some (.inl y), some (.inl 1)], [.inl (shk v 0 (tg l t) 1 x y)], σ) _
    refine wp_if (tgt := 43) hM rfl (by decide) (by first | (rw [e1]; omega) | fail) (fun c23 => ?_) (fun c23 => ?_)
    · replace c23 := cmp_lt_t c23
      refine wp_go 1 hM (fr' := (44, [some (.inr 30), some (.inl t), some (.inl x), some (.inl y), some (.inl 1)], [.inl 0], σ)) rfl ?_
      refine wp_ret hM rfl (rfl) ?_
      first | (first | exact r_t (by unfold hol; omega) | exact r_f (by unfold hol; omega)) | fail
    · replace c23 := cmp_lt_f c23
      refine wp_go 6 hM (fr' := (33, [some (.inr 30), some (.inl t), some (.inl x), some (.inl y), some (.inl 1)], [.inl 1, .inl y, .inl x, .inl 2, .inl t, .inr 30], σ)) rfl ?_
      refine wp_calld (v := 0) (idx := 108) (j := 119) (N := mtX6_shareOf) (as := [.inr 30, .inl t, .inl 2, .inl x, .inl y, .inl 1]) (rest := []) hM rfl (Or.inl ⟨rfl, rfl⟩) rfl (sp_X6_shareOf_1 v l σ t 2 x y (by first | (first | assumption | omega) | fail) (by first | (first | assumption | omega) | fail) (by first | (first | assumption | omega) | fail) (by first | (first | assumption | omega) | fail) (by first | (first | assumption | omega) | fail) (by first | (first | assumption | omega) | fail)) ?_
      show mz_Wp shM none 120 (36, [some (.inr 30), some (.inl t), some (.inl x), some (.inl y), some (.inl 1)], [.inl (shk v 0 (tg l t) 2 x y)], σ) _
      refine wp_if (tgt := 43) hM rfl (by decide) (by first | (rw [e2]; omega) | fail) (fun c36 => ?_) (fun c36 => ?_)
      · replace c36 := cmp_lt_t c36
        refine wp_go 1 hM (fr' := (44, [some (.inr 30), some (.inl t), some (.inl x), some (.inl y), some (.inl 1)], [.inl 0], σ)) rfl ?_
        refine wp_ret hM rfl (rfl) ?_
        first | (first | exact r_t (by unfold hol; omega) | exact r_f (by unfold hol; omega)) | fail
      · replace c36 := cmp_lt_f c36
        refine wp_go 2 hM (fr' := (44, [some (.inr 30), some (.inl t), some (.inl x), some (.inl y), some (.inl 1)], [.inl 1], σ)) rfl ?_
        refine wp_ret hM rfl (rfl) ?_
        first | (first | exact r_t (by unfold hol; omega) | exact r_f (by unfold hol; omega)) | fail

set_option maxRecDepth 100000 in
set_option maxHeartbeats 4000000 in
theorem sp_X6_lies_1 (v : mz_G) (l : List tr3) (σ : mz_G) (x : Int) (y : Int) (h0 : MA σ v l) (h1 : Bs v l) (h2 : dot v x y) (h3 : Cov v l 0) : mz_Cl shM 121 [.inr 30, .inl x, .inl y, .inl 1] σ (fun r σ' => r = some (lie v l 0 x y) ∧ σ' = σ) := by
  have hM : mz_meth[121]? = some mtX6_lies := rfl
  obtain ⟨hR, hT, hLen⟩ := id h1
  obtain ⟨⟨hW0, hW1⟩, ⟨hH0, hH1⟩, ⟨hn0, hn1⟩, hpt⟩ := id hR
  obtain ⟨⟨⟨hc1, hc2, hc3⟩, hcp, hcv⟩, hc4, hct⟩ := id h0
  have hWH := WH_bd hR
  have hL := lie_at h3 h2
  refine mz_Cl.of hM ?_
  show mz_Wp shM none 121 (0, [some (.inr 30), some (.inl x), some (.inl y), some (.inl 1), none], [], σ) _
  refine wp_go 2 hM (fr' := (3, [some (.inr 30), some (.inl x), some (.inl y), some (.inl 1), some (.inl 0)], [], σ)) rfl ?_
  have loop3 : ∀ (fuel : Nat) (t : Int), (0 ≤ t) → (t ≤ lie v l 0 x y) → (fstI t (fun i => hol v 0 (tg l i) x y) = -1) → ((lie v l 0 x y - t : Int) < fuel) → mz_Wp shM none 121 (3, [some (.inr 30), some (.inl x), some (.inl y), some (.inl 1), some (.inl t)], [], σ) (fun r σ' => r = some (lie v l 0 x y) ∧ σ' = σ) := by
    intro fuel
    induction fuel with
    | zero =>
      intro t hv3_0 hv3_1 hv3_2 hf3
      exfalso
      omega
    | succ fuel ih3 =>
      intro t hv3_0 hv3_1 hv3_2 hf3
      refine wp_go 5 hM (fr' := (9, [some (.inr 30), some (.inl x), some (.inl y), some (.inl 1), some (.inl t)], [.inl 1, .inl y, .inl x, .inl t, .inr 30], σ)) rfl ?_
      refine wp_calld (v := 0) (idx := 112) (j := 120) (N := mtX6_has) (as := [.inr 30, .inl t, .inl x, .inl y, .inl 1]) (rest := []) hM rfl (Or.inl ⟨rfl, rfl⟩) rfl (sp_X6_has_1 v l σ t x y (by first | (first | assumption | omega) | fail) (by first | (first | assumption | omega) | fail) (by first | (first | assumption | omega) | fail) (by first | (first | assumption | omega) | fail) (by first | (first | assumption | omega) | fail)) ?_
      show mz_Wp shM none 121 (12, [some (.inr 30), some (.inl x), some (.inl y), some (.inl 1), some (.inl t)], [.inl (b01 (hol v 0 (tg l t) x y))], σ) _
      refine wp_if (tgt := 21) hM rfl (by decide) b01_R (fun c12 => ?_) (fun c12 => ?_)
      · replace c12 := b01_ne0 (cmp_ne_t c12)
        refine wp_go 1 hM (fr' := (23, [some (.inr 30), some (.inl x), some (.inl y), some (.inl 1), some (.inl t)], [.inl t], σ)) rfl ?_
        refine wp_ret hM rfl (rfl) ?_
        first | (exact ⟨by unfold lie; rw [fstI_yes (t := t) (P := fun i => hol v 0 (tg l i) x y) hv3_0 (by omega) hv3_2 c12], rfl⟩) | fail
      · replace c12 := b01_eq0 (cmp_ne_f c12)
        refine wp_go 2 hM (fr' := (3, [some (.inr 30), some (.inl x), some (.inl y), some (.inl 1), some (.inl (t + 1))], [], σ)) rfl ?_
        exact ih3 (t + 1) (by omega) (by first | (rcases (show t < lie v l 0 x y ∨ t = lie v l 0 x y by omega) with z | z; omega; exact absurd (by rw [z]; exact hL.2.2) c12) | fail) (by first | (exact fstI_no hv3_0 hv3_2 c12) | fail) (by first | (rcases (show t < lie v l 0 x y ∨ t = lie v l 0 x y by omega) with z | z; omega; exact absurd (by rw [z]; exact hL.2.2) c12) | fail)
  exact loop3 65 0 (by omega) (by omega) (by rfl) (by omega)

set_option maxRecDepth 100000 in
set_option maxHeartbeats 4000000 in
theorem sp_X6_shareOf_0 (v : mz_G) (l : List tr3) (σ : mz_G) (t : Int) (k : Int) (x : Int) (y : Int) (h0 : MA σ v l) (h1 : Bs v l) (h2 : 0 ≤ t) (h3 : t < (l.length : Int)) (h4 : 0 ≤ k) (h5 : k < 3) : mz_Cl shM 119 [.inr 30, .inl t, .inl k, .inl x, .inl y, .inl 0] σ (fun r σ' => r = some (shk v 1 (tg l t) k x y) ∧ σ' = σ) := by
  have hM : mz_meth[119]? = some mtX6_shareOf := rfl
  obtain ⟨hR, hT, hLen⟩ := id h1
  obtain ⟨⟨hW0, hW1⟩, ⟨hH0, hH1⟩, ⟨hn0, hn1⟩, hpt⟩ := id hR
  obtain ⟨⟨⟨hc1, hc2, hc3⟩, hcp, hcv⟩, hc4, hct⟩ := id h0
  have hWH := WH_bd hR
  have ht := Rt_at hT h2 h3
  have hcs := tk_cs (tg l t) h4 h5
  have hb1 := tk_bd (k := (k + 1).tmod 3) ht
  have hb2 := tk_bd (k := (k + 2).tmod 3) ht
  have hp1 := MA_pt h0 hb1.1 hb1.2
  have hp2 := MA_pt h0 hb2.1 hb2.2
  refine mz_Cl.of hM ?_
  show mz_Wp shM none 119 (0, [some (.inr 30), some (.inl t), some (.inl k), some (.inl x), some (.inl y), some (.inl 0), none, none], [], σ) _
  refine wp_go 6 hM (fr' := (6, [some (.inr 30), some (.inl t), some (.inl k), some (.inl x), some (.inl y), some (.inl 0), none, none], [.inl 3, .inl (k + 1), .inl t, .inr 30], σ)) rfl ?_
  refine wp_rem hM rfl (by omega) (by omega) (by omega) ?_
  refine wp_calld (v := 0) (idx := 85) (j := 111) (N := mtX6_at) (as := [.inr 30, .inl t, .inl ((k + 1).tmod 3)]) (rest := []) hM rfl (Or.inl ⟨rfl, rfl⟩) rfl (sp_X6_at v l σ t ((k + 1).tmod 3) (by first | (first | assumption | omega) | fail) (by first | (first | assumption | omega) | fail) (by first | (first | assumption | omega) | fail) (by first | (first | assumption | omega) | fail) (by first | (first | assumption | omega) | fail) (by first | (first | assumption | omega) | fail)) ?_
  show mz_Wp shM none 119 (10, [some (.inr 30), some (.inl t), some (.inl k), some (.inl x), some (.inl y), some (.inl 0), none, none], [.inl (tk (tg l t) ((k + 1).tmod 3))], σ) _
  refine wp_go 7 hM (fr' := (18, [some (.inr 30), some (.inl t), some (.inl k), some (.inl x), some (.inl y), some (.inl 0), some (.inl (tk (tg l t) ((k + 1).tmod 3))), none], [.inl 3, .inl (k + 2), .inl t, .inr 30], σ)) rfl ?_
  refine wp_rem hM rfl (by omega) (by omega) (by omega) ?_
  refine wp_calld (v := 0) (idx := 85) (j := 111) (N := mtX6_at) (as := [.inr 30, .inl t, .inl ((k + 2).tmod 3)]) (rest := []) hM rfl (Or.inl ⟨rfl, rfl⟩) rfl (sp_X6_at v l σ t ((k + 2).tmod 3) (by first | (first | assumption | omega) | fail) (by first | (first | assumption | omega) | fail) (by first | (first | assumption | omega) | fail) (by first | (first | assumption | omega) | fail) (by first | (first | assumption | omega) | fail) (by first | (first | assumption | omega) | fail)) ?_
  show mz_Wp shM none 119 (22, [some (.inr 30), some (.inl t), some (.inl k), some (.inl x), some (.inl y), some (.inl 0), some (.inl (tk (tg l t) ((k + 1).tmod 3))), none], [.inl (tk (tg l t) ((k + 2).tmod 3))], σ) _
  refine wp_go 2 hM (fr' := (26, [some (.inr 30), some (.inl t), some (.inl k), some (.inl x), some (.inl y), some (.inl 0), some (.inl (tk (tg l t) ((k + 1).tmod 3))), some (.inl (tk (tg l t) ((k + 2).tmod 3)))], [.inl 0], σ)) rfl ?_
  refine wp_if (tgt := 66) hM rfl (by decide) (by omega) (fun c26 => ?_) (fun c26 => ?_)
  · replace c26 := cmp_eq_t c26
    refine wp_go 5 hM (fr' := (75, [some (.inr 30), some (.inl t), some (.inl k), some (.inl x), some (.inl y), some (.inl 0), some (.inl (tk (tg l t) ((k + 1).tmod 3))), some (.inl (tk (tg l t) ((k + 2).tmod 3)))], [.inl (tk (tg l t) ((k + 1).tmod 3)), .inr 33, .inl y, .inl x], σ)) rfl ?_
    refine wp_al (n := 31) hM rfl (by decide) rfl (by omega) (by omega) ?_
    first | (rw [hp1.2.2.1]) | skip
    refine wp_go 3 hM (fr' := (82, [some (.inr 30), some (.inl t), some (.inl k), some (.inl x), some (.inl y), some (.inl 0), some (.inl (tk (tg l t) ((k + 1).tmod 3))), some (.inl (tk (tg l t) ((k + 2).tmod 3)))], [.inl (tk (tg l t) ((k + 1).tmod 3)), .inr 34, .inl (gx v 1 (tk (tg l t) ((k + 1).tmod 3))), .inl y, .inl x], σ)) rfl ?_
    refine wp_al (n := 31) hM rfl (by decide) rfl (by omega) (by omega) ?_
    first | (rw [hp1.2.2.2]) | skip
    refine wp_go 3 hM (fr' := (89, [some (.inr 30), some (.inl t), some (.inl k), some (.inl x), some (.inl y), some (.inl 0), some (.inl (tk (tg l t) ((k + 1).tmod 3))), some (.inl (tk (tg l t) ((k + 2).tmod 3)))], [.inl (tk (tg l t) ((k + 2).tmod 3)), .inr 33, .inl (gy v 1 (tk (tg l t) ((k + 1).tmod 3))), .inl (gx v 1 (tk (tg l t) ((k + 1).tmod 3))), .inl y, .inl x], σ)) rfl ?_
    refine wp_al (n := 31) hM rfl (by decide) rfl (by omega) (by omega) ?_
    first | (rw [hp2.2.2.1]) | skip
    refine wp_go 3 hM (fr' := (96, [some (.inr 30), some (.inl t), some (.inl k), some (.inl x), some (.inl y), some (.inl 0), some (.inl (tk (tg l t) ((k + 1).tmod 3))), some (.inl (tk (tg l t) ((k + 2).tmod 3)))], [.inl (tk (tg l t) ((k + 2).tmod 3)), .inr 34, .inl (gx v 1 (tk (tg l t) ((k + 2).tmod 3))), .inl (gy v 1 (tk (tg l t) ((k + 1).tmod 3))), .inl (gx v 1 (tk (tg l t) ((k + 1).tmod 3))), .inl y, .inl x], σ)) rfl ?_
    refine wp_al (n := 31) hM rfl (by decide) rfl (by omega) (by omega) ?_
    first | (rw [hp2.2.2.2]) | skip
    refine wp_calld (v := 1) (idx := 81) (j := 110) (N := mtX6_area) (as := [.inl x, .inl y, .inl (gx v 1 (tk (tg l t) ((k + 1).tmod 3))), .inl (gy v 1 (tk (tg l t) ((k + 1).tmod 3))), .inl (gx v 1 (tk (tg l t) ((k + 2).tmod 3))), .inl (gy v 1 (tk (tg l t) ((k + 2).tmod 3)))]) (rest := []) hM rfl (Or.inr ⟨rfl, rfl⟩) rfl (sp_X6_area  σ x y (gx v 1 (tk (tg l t) ((k + 1).tmod 3))) (gy v 1 (tk (tg l t) ((k + 1).tmod 3))) (gx v 1 (tk (tg l t) ((k + 2).tmod 3))) (gy v 1 (tk (tg l t) ((k + 2).tmod 3))) ) ?_
    show mz_Wp shM none 119 (100, [some (.inr 30), some (.inl t), some (.inl k), some (.inl x), some (.inl y), some (.inl 0), some (.inl (tk (tg l t) ((k + 1).tmod 3))), some (.inl (tk (tg l t) ((k + 2).tmod 3)))], [.inl (ar x y (gx v 1 (tk (tg l t) ((k + 1).tmod 3))) (gy v 1 (tk (tg l t) ((k + 1).tmod 3))) (gx v 1 (tk (tg l t) ((k + 2).tmod 3))) (gy v 1 (tk (tg l t) ((k + 2).tmod 3))))], σ) _
    refine wp_ret hM rfl (rfl) ?_
    rcases (show k = 0 ∨ k = 1 ∨ k = 2 by omega) with rfl | rfl | rfl
    · exact ⟨rfl, rfl⟩
    · exact ⟨rfl, rfl⟩
    · exact ⟨rfl, rfl⟩
  · replace c26 := cmp_eq_f c26
    exact absurd c26 (by decide)

set_option maxRecDepth 100000 in
set_option maxHeartbeats 4000000 in
theorem sp_X6_has_0 (v : mz_G) (l : List tr3) (σ : mz_G) (t : Int) (x : Int) (y : Int) (h0 : MA σ v l) (h1 : Bs v l) (h2 : 0 ≤ t) (h3 : t < (l.length : Int)) (h4 : dot v x y) : mz_Cl shM 120 [.inr 30, .inl t, .inl x, .inl y, .inl 0] σ (fun r σ' => r = some (b01 (hol v 1 (tg l t) x y)) ∧ σ' = σ) := by
  have hM : mz_meth[120]? = some mtX6_has := rfl
  obtain ⟨hR, hT, hLen⟩ := id h1
  obtain ⟨⟨hW0, hW1⟩, ⟨hH0, hH1⟩, ⟨hn0, hn1⟩, hpt⟩ := id hR
  obtain ⟨⟨⟨hc1, hc2, hc3⟩, hcp, hcv⟩, hc4, hct⟩ := id h0
  have hWH := WH_bd hR
  have hsb := sh_bd (l := l) hR (q := 1) (by decide) (Rt_at hT h2 h3) h4
  have e0 : shk v 1 (tg l t) 0 x y = sh0 v 1 (tg l t) x y := rfl
  have e1 : shk v 1 (tg l t) 1 x y = sh1 v 1 (tg l t) x y := rfl
  have e2 : shk v 1 (tg l t) 2 x y = sh2 v 1 (tg l t) x y := rfl
  refine mz_Cl.of hM ?_
  show mz_Wp shM none 120 (0, [some (.inr 30), some (.inl t), some (.inl x), some (.inl y), some (.inl 0)], [], σ) _
  refine wp_go 6 hM (fr' := (7, [some (.inr 30), some (.inl t), some (.inl x), some (.inl y), some (.inl 0)], [.inl 0, .inl y, .inl x, .inl 0, .inl t, .inr 30], σ)) rfl ?_
  refine wp_calld (v := 0) (idx := 108) (j := 119) (N := mtX6_shareOf) (as := [.inr 30, .inl t, .inl 0, .inl x, .inl y, .inl 0]) (rest := []) hM rfl (Or.inl ⟨rfl, rfl⟩) rfl (sp_X6_shareOf_0 v l σ t 0 x y (by first | (first | assumption | omega) | fail) (by first | (first | assumption | omega) | fail) (by first | (first | assumption | omega) | fail) (by first | (first | assumption | omega) | fail) (by first | (first | assumption | omega) | fail) (by first | (first | assumption | omega) | fail)) ?_
  show mz_Wp shM none 120 (10, [some (.inr 30), some (.inl t), some (.inl x), some (.inl y), some (.inl 0)], [.inl (shk v 1 (tg l t) 0 x y)], σ) _
  refine wp_if (tgt := 43) hM rfl (by decide) (by first | (rw [e0]; omega) | fail) (fun c10 => ?_) (fun c10 => ?_)
  · replace c10 := cmp_lt_t c10
    refine wp_go 1 hM (fr' := (44, [some (.inr 30), some (.inl t), some (.inl x), some (.inl y), some (.inl 0)], [.inl 0], σ)) rfl ?_
    refine wp_ret hM rfl (rfl) ?_
    first | (first | exact r_t (by unfold hol; omega) | exact r_f (by unfold hol; omega)) | fail
  · replace c10 := cmp_lt_f c10
    refine wp_go 6 hM (fr' := (20, [some (.inr 30), some (.inl t), some (.inl x), some (.inl y), some (.inl 0)], [.inl 0, .inl y, .inl x, .inl 1, .inl t, .inr 30], σ)) rfl ?_
    refine wp_calld (v := 0) (idx := 108) (j := 119) (N := mtX6_shareOf) (as := [.inr 30, .inl t, .inl 1, .inl x, .inl y, .inl 0]) (rest := []) hM rfl (Or.inl ⟨rfl, rfl⟩) rfl (sp_X6_shareOf_0 v l σ t 1 x y (by first | (first | assumption | omega) | fail) (by first | (first | assumption | omega) | fail) (by first | (first | assumption | omega) | fail) (by first | (first | assumption | omega) | fail) (by first | (first | assumption | omega) | fail) (by first | (first | assumption | omega) | fail)) ?_
    show mz_Wp shM none 120 (23, [some (.inr 30), some (.inl t), some (.inl x), some (.inl y), some (.inl 0)], [.inl (shk v 1 (tg l t) 1 x y)], σ) _
    refine wp_if (tgt := 43) hM rfl (by decide) (by first | (rw [e1]; omega) | fail) (fun c23 => ?_) (fun c23 => ?_)
    · replace c23 := cmp_lt_t c23
      refine wp_go 1 hM (fr' := (44, [some (.inr 30), some (.inl t), some (.inl x), some (.inl y), some (.inl 0)], [.inl 0], σ)) rfl ?_
      refine wp_ret hM rfl (rfl) ?_
      first | (first | exact r_t (by unfold hol; omega) | exact r_f (by unfold hol; omega)) | fail
    · replace c23 := cmp_lt_f c23
      refine wp_go 6 hM (fr' := (33, [some (.inr 30), some (.inl t), some (.inl x), some (.inl y), some (.inl 0)], [.inl 0, .inl y, .inl x, .inl 2, .inl t, .inr 30], σ)) rfl ?_
      refine wp_calld (v := 0) (idx := 108) (j := 119) (N := mtX6_shareOf) (as := [.inr 30, .inl t, .inl 2, .inl x, .inl y, .inl 0]) (rest := []) hM rfl (Or.inl ⟨rfl, rfl⟩) rfl (sp_X6_shareOf_0 v l σ t 2 x y (by first | (first | assumption | omega) | fail) (by first | (first | assumption | omega) | fail) (by first | (first | assumption | omega) | fail) (by first | (first | assumption | omega) | fail) (by first | (first | assumption | omega) | fail) (by first | (first | assumption | omega) | fail)) ?_
      show mz_Wp shM none 120 (36, [some (.inr 30), some (.inl t), some (.inl x), some (.inl y), some (.inl 0)], [.inl (shk v 1 (tg l t) 2 x y)], σ) _
      refine wp_if (tgt := 43) hM rfl (by decide) (by first | (rw [e2]; omega) | fail) (fun c36 => ?_) (fun c36 => ?_)
      · replace c36 := cmp_lt_t c36
        refine wp_go 1 hM (fr' := (44, [some (.inr 30), some (.inl t), some (.inl x), some (.inl y), some (.inl 0)], [.inl 0], σ)) rfl ?_
        refine wp_ret hM rfl (rfl) ?_
        first | (first | exact r_t (by unfold hol; omega) | exact r_f (by unfold hol; omega)) | fail
      · replace c36 := cmp_lt_f c36
        refine wp_go 2 hM (fr' := (44, [some (.inr 30), some (.inl t), some (.inl x), some (.inl y), some (.inl 0)], [.inl 1], σ)) rfl ?_
        refine wp_ret hM rfl (rfl) ?_
        first | (first | exact r_t (by unfold hol; omega) | exact r_f (by unfold hol; omega)) | fail

set_option maxRecDepth 100000 in
set_option maxHeartbeats 4000000 in
theorem sp_X6_lies_0 (v : mz_G) (l : List tr3) (σ : mz_G) (x : Int) (y : Int) (h0 : MA σ v l) (h1 : Bs v l) (h2 : dot v x y) (h3 : Cov v l 1) : mz_Cl shM 121 [.inr 30, .inl x, .inl y, .inl 0] σ (fun r σ' => r = some (lie v l 1 x y) ∧ σ' = σ) := by
  have hM : mz_meth[121]? = some mtX6_lies := rfl
  obtain ⟨hR, hT, hLen⟩ := id h1
  obtain ⟨⟨hW0, hW1⟩, ⟨hH0, hH1⟩, ⟨hn0, hn1⟩, hpt⟩ := id hR
  obtain ⟨⟨⟨hc1, hc2, hc3⟩, hcp, hcv⟩, hc4, hct⟩ := id h0
  have hWH := WH_bd hR
  have hL := lie_at h3 h2
  refine mz_Cl.of hM ?_
  show mz_Wp shM none 121 (0, [some (.inr 30), some (.inl x), some (.inl y), some (.inl 0), none], [], σ) _
  refine wp_go 2 hM (fr' := (3, [some (.inr 30), some (.inl x), some (.inl y), some (.inl 0), some (.inl 0)], [], σ)) rfl ?_
  have loop3 : ∀ (fuel : Nat) (t : Int), (0 ≤ t) → (t ≤ lie v l 1 x y) → (fstI t (fun i => hol v 1 (tg l i) x y) = -1) → ((lie v l 1 x y - t : Int) < fuel) → mz_Wp shM none 121 (3, [some (.inr 30), some (.inl x), some (.inl y), some (.inl 0), some (.inl t)], [], σ) (fun r σ' => r = some (lie v l 1 x y) ∧ σ' = σ) := by
    intro fuel
    induction fuel with
    | zero =>
      intro t hv3_0 hv3_1 hv3_2 hf3
      exfalso
      omega
    | succ fuel ih3 =>
      intro t hv3_0 hv3_1 hv3_2 hf3
      refine wp_go 5 hM (fr' := (9, [some (.inr 30), some (.inl x), some (.inl y), some (.inl 0), some (.inl t)], [.inl 0, .inl y, .inl x, .inl t, .inr 30], σ)) rfl ?_
      refine wp_calld (v := 0) (idx := 112) (j := 120) (N := mtX6_has) (as := [.inr 30, .inl t, .inl x, .inl y, .inl 0]) (rest := []) hM rfl (Or.inl ⟨rfl, rfl⟩) rfl (sp_X6_has_0 v l σ t x y (by first | (first | assumption | omega) | fail) (by first | (first | assumption | omega) | fail) (by first | (first | assumption | omega) | fail) (by first | (first | assumption | omega) | fail) (by first | (first | assumption | omega) | fail)) ?_
      show mz_Wp shM none 121 (12, [some (.inr 30), some (.inl x), some (.inl y), some (.inl 0), some (.inl t)], [.inl (b01 (hol v 1 (tg l t) x y))], σ) _
      refine wp_if (tgt := 21) hM rfl (by decide) b01_R (fun c12 => ?_) (fun c12 => ?_)
      · replace c12 := b01_ne0 (cmp_ne_t c12)
        refine wp_go 1 hM (fr' := (23, [some (.inr 30), some (.inl x), some (.inl y), some (.inl 0), some (.inl t)], [.inl t], σ)) rfl ?_
        refine wp_ret hM rfl (rfl) ?_
        first | (exact ⟨by unfold lie; rw [fstI_yes (t := t) (P := fun i => hol v 1 (tg l i) x y) hv3_0 (by omega) hv3_2 c12], rfl⟩) | fail
      · replace c12 := b01_eq0 (cmp_ne_f c12)
        refine wp_go 2 hM (fr' := (3, [some (.inr 30), some (.inl x), some (.inl y), some (.inl 0), some (.inl (t + 1))], [], σ)) rfl ?_
        exact ih3 (t + 1) (by omega) (by first | (rcases (show t < lie v l 1 x y ∨ t = lie v l 1 x y by omega) with z | z; omega; exact absurd (by rw [z]; exact hL.2.2) c12) | fail) (by first | (exact fstI_no hv3_0 hv3_2 c12) | fail) (by first | (rcases (show t < lie v l 1 x y ∨ t = lie v l 1 x y by omega) with z | z; omega; exact absurd (by rw [z]; exact hL.2.2) c12) | fail)
  exact loop3 65 0 (by omega) (by omega) (by rfl) (by omega)

set_option maxRecDepth 100000 in
set_option maxHeartbeats 4000000 in
theorem sp_X6_isDot (v : mz_G) (l : List tr3) (σ : mz_G) (x : Int) (y : Int) (h0 : MA σ v l) (h1 : Bs v l) (h2 : mz_R x) (h3 : mz_R y) : mz_Cl shM 122 [.inr 30, .inl x, .inl y] σ (fun r σ' => r = some (b01 (dot v x y)) ∧ σ' = σ) := by
  have hM : mz_meth[122]? = some mtX6_isDot := rfl
  obtain ⟨hR, hT, hLen⟩ := id h1
  obtain ⟨⟨hW0, hW1⟩, ⟨hH0, hH1⟩, ⟨hn0, hn1⟩, hpt⟩ := id hR
  obtain ⟨⟨⟨hc1, hc2, hc3⟩, hcp, hcv⟩, hc4, hct⟩ := id h0
  have hWH := WH_bd hR
  refine mz_Cl.of hM ?_
  show mz_Wp shM none 122 (0, [some (.inr 30), some (.inl x), some (.inl y)], [], σ) _
  refine wp_go 6 hM (fr' := (8, [some (.inr 30), some (.inl x), some (.inl y)], [.inl ((σ 30 0) - 1), .inl 0, .inl x], σ)) rfl ?_
  refine wp_calld (v := 1) (idx := 116) (j := 103) (N := mtX6_isIn) (as := [.inl x, .inl 0, .inl ((σ 30 0) - 1)]) (rest := []) hM rfl (Or.inr ⟨rfl, rfl⟩) rfl (sp_X6_isIn  σ x 0 ((σ 30 0) - 1) (by first | (first | assumption | omega) | fail) (by first | (first | assumption | omega) | fail) (by first | (first | assumption | omega) | fail)) ?_
  show mz_Wp shM none 122 (11, [some (.inr 30), some (.inl x), some (.inl y)], [.inl (b01 (0 ≤ x ∧ x ≤ ((σ 30 0) - 1)))], σ) _
  refine wp_if (tgt := 32) hM rfl (by decide) b01_R (fun c11 => ?_) (fun c11 => ?_)
  · replace c11 := b01_eq0 (cmp_eq_t c11)
    refine wp_go 1 hM (fr' := (33, [some (.inr 30), some (.inl x), some (.inl y)], [.inl 0], σ)) rfl ?_
    refine wp_ret hM rfl (rfl) ?_
    first | (first | exact r_t (by unfold dot; omega) | exact r_f (by unfold dot; omega)) | fail
  · replace c11 := b01_ne0 (cmp_eq_f c11)
    refine wp_go 6 hM (fr' := (22, [some (.inr 30), some (.inl x), some (.inl y)], [.inl ((σ 30 1) - 1), .inl 0, .inl y], σ)) rfl ?_
    refine wp_calld (v := 1) (idx := 116) (j := 103) (N := mtX6_isIn) (as := [.inl y, .inl 0, .inl ((σ 30 1) - 1)]) (rest := []) hM rfl (Or.inr ⟨rfl, rfl⟩) rfl (sp_X6_isIn  σ y 0 ((σ 30 1) - 1) (by first | (first | assumption | omega) | fail) (by first | (first | assumption | omega) | fail) (by first | (first | assumption | omega) | fail)) ?_
    show mz_Wp shM none 122 (25, [some (.inr 30), some (.inl x), some (.inl y)], [.inl (b01 (0 ≤ y ∧ y ≤ ((σ 30 1) - 1)))], σ) _
    refine wp_if (tgt := 32) hM rfl (by decide) b01_R (fun c25 => ?_) (fun c25 => ?_)
    · replace c25 := b01_eq0 (cmp_eq_t c25)
      refine wp_go 1 hM (fr' := (33, [some (.inr 30), some (.inl x), some (.inl y)], [.inl 0], σ)) rfl ?_
      refine wp_ret hM rfl (rfl) ?_
      first | (first | exact r_t (by unfold dot; omega) | exact r_f (by unfold dot; omega)) | fail
    · replace c25 := b01_ne0 (cmp_eq_f c25)
      refine wp_go 2 hM (fr' := (33, [some (.inr 30), some (.inl x), some (.inl y)], [.inl 1], σ)) rfl ?_
      refine wp_ret hM rfl (rfl) ?_
      first | (first | exact r_t (by unfold dot; omega) | exact r_f (by unfold dot; omega)) | fail

set_option maxRecDepth 100000 in
set_option maxHeartbeats 4000000 in
theorem sp_X6_isKnot (v : mz_G) (l : List tr3) (σ : mz_G) (k : Int) (h0 : MA σ v l) (h1 : Bs v l) (h2 : mz_R k) : mz_Cl shM 123 [.inr 30, .inl k] σ (fun r σ' => r = some (b01 (isk v k)) ∧ σ' = σ) := by
  have hM : mz_meth[123]? = some mtX6_isKnot := rfl
  obtain ⟨hR, hT, hLen⟩ := id h1
  obtain ⟨⟨hW0, hW1⟩, ⟨hH0, hH1⟩, ⟨hn0, hn1⟩, hpt⟩ := id hR
  obtain ⟨⟨⟨hc1, hc2, hc3⟩, hcp, hcv⟩, hc4, hct⟩ := id h0
  have hWH := WH_bd hR
  refine mz_Cl.of hM ?_
  show mz_Wp shM none 123 (0, [some (.inr 30), some (.inl k)], [], σ) _
  refine wp_go 6 hM (fr' := (8, [some (.inr 30), some (.inl k)], [.inl ((σ 30 2) - 1), .inl 0, .inl k], σ)) rfl ?_
  refine wp_calld (v := 1) (idx := 116) (j := 103) (N := mtX6_isIn) (as := [.inl k, .inl 0, .inl ((σ 30 2) - 1)]) (rest := []) hM rfl (Or.inr ⟨rfl, rfl⟩) rfl (sp_X6_isIn  σ k 0 ((σ 30 2) - 1) (by first | (first | assumption | omega) | fail) (by first | (first | assumption | omega) | fail) (by first | (first | assumption | omega) | fail)) ?_
  show mz_Wp shM none 123 (11, [some (.inr 30), some (.inl k)], [.inl (b01 (0 ≤ k ∧ k ≤ ((σ 30 2) - 1)))], σ) _
  refine wp_ret hM rfl (b01_ro) ?_
  first | (exact ⟨by rw [hc3]; by_cases q : isk v k; (rw [b01_t q, b01_t (by unfold isk at q; omega)]); (rw [b01_f q, b01_f (by unfold isk at q; omega)]), rfl⟩) | fail

set_option maxRecDepth 100000 in
set_option maxHeartbeats 4000000 in
theorem sp_X6_stays (v : mz_G) (l : List tr3) (σ : mz_G) (a : Int) (b : Int) (x : Int) (y : Int) (h0 : MA σ v l) (h1 : Bs v l) (h2 : mz_R a) (h3 : mz_R b) (h4 : mz_R x) (h5 : mz_R y) : mz_Cl shM 124 [.inr 30, .inl a, .inl b, .inl x, .inl y] σ (fun r σ' => r = some (b01 (keeps v a b x y)) ∧ σ' = σ) := by
  have hM : mz_meth[124]? = some mtX6_stays := rfl
  obtain ⟨hR, hT, hLen⟩ := id h1
  obtain ⟨⟨hW0, hW1⟩, ⟨hH0, hH1⟩, ⟨hn0, hn1⟩, hpt⟩ := id hR
  obtain ⟨⟨⟨hc1, hc2, hc3⟩, hcp, hcv⟩, hc4, hct⟩ := id h0
  have hWH := WH_bd hR
  refine mz_Cl.of hM ?_
  show mz_Wp shM none 124 (0, [some (.inr 30), some (.inl a), some (.inl b), some (.inl x), some (.inl y)], [], σ) _
  refine wp_go 1 hM (fr' := (1, [some (.inr 30), some (.inl a), some (.inl b), some (.inl x), some (.inl y)], [.inl a], σ)) rfl ?_
  refine wp_if (tgt := 14) hM rfl (by decide) (by omega) (fun c1 => ?_) (fun c1 => ?_)
  · replace c1 := cmp_eq_t c1
    refine wp_go 2 hM (fr' := (16, [some (.inr 30), some (.inl a), some (.inl b), some (.inl x), some (.inl y)], [.inl a, .inl x], σ)) rfl ?_
    refine wp_ic (tgt := 43) hM rfl (by decide) (by omega) (by omega) (fun c16 => ?_) (fun c16 => ?_)
    · replace c16 := cmp_ne_t c16
      refine wp_go 1 hM (fr' := (44, [some (.inr 30), some (.inl a), some (.inl b), some (.inl x), some (.inl y)], [.inl 0], σ)) rfl ?_
      refine wp_ret hM rfl (rfl) ?_
      first | (first | exact r_t (by unfold keeps; omega) | exact r_f (by unfold keeps; omega)) | fail
    · replace c16 := cmp_ne_f c16
      refine wp_go 1 hM (fr' := (20, [some (.inr 30), some (.inl a), some (.inl b), some (.inl x), some (.inl y)], [.inl b], σ)) rfl ?_
      refine wp_if (tgt := 33) hM rfl (by decide) (by omega) (fun c20 => ?_) (fun c20 => ?_)
      · replace c20 := cmp_eq_t c20
        refine wp_go 2 hM (fr' := (36, [some (.inr 30), some (.inl a), some (.inl b), some (.inl x), some (.inl y)], [.inl b, .inl y], σ)) rfl ?_
        refine wp_ic (tgt := 43) hM rfl (by decide) (by omega) (by omega) (fun c36 => ?_) (fun c36 => ?_)
        · replace c36 := cmp_ne_t c36
          refine wp_go 1 hM (fr' := (44, [some (.inr 30), some (.inl a), some (.inl b), some (.inl x), some (.inl y)], [.inl 0], σ)) rfl ?_
          refine wp_ret hM rfl (rfl) ?_
          first | (first | exact r_t (by unfold keeps; omega) | exact r_f (by unfold keeps; omega)) | fail
        · replace c36 := cmp_ne_f c36
          refine wp_go 2 hM (fr' := (44, [some (.inr 30), some (.inl a), some (.inl b), some (.inl x), some (.inl y)], [.inl 1], σ)) rfl ?_
          refine wp_ret hM rfl (rfl) ?_
          first | (first | exact r_t (by unfold keeps; omega) | exact r_f (by unfold keeps; omega)) | fail
      · replace c20 := cmp_eq_f c20
        refine wp_go 5 hM (fr' := (30, [some (.inr 30), some (.inl a), some (.inl b), some (.inl x), some (.inl y)], [.inl ((σ 30 1) - 1), .inl b], σ)) rfl ?_
        refine wp_ic (tgt := 39) hM rfl (by decide) (by omega) (by omega) (fun c30 => ?_) (fun c30 => ?_)
        · replace c30 := cmp_ne_t c30
          refine wp_go 2 hM (fr' := (44, [some (.inr 30), some (.inl a), some (.inl b), some (.inl x), some (.inl y)], [.inl 1], σ)) rfl ?_
          refine wp_ret hM rfl (rfl) ?_
          first | (first | exact r_t (by unfold keeps; omega) | exact r_f (by unfold keeps; omega)) | fail
        · replace c30 := cmp_ne_f c30
          refine wp_go 2 hM (fr' := (36, [some (.inr 30), some (.inl a), some (.inl b), some (.inl x), some (.inl y)], [.inl b, .inl y], σ)) rfl ?_
          refine wp_ic (tgt := 43) hM rfl (by decide) (by omega) (by omega) (fun c36 => ?_) (fun c36 => ?_)
          · replace c36 := cmp_ne_t c36
            refine wp_go 1 hM (fr' := (44, [some (.inr 30), some (.inl a), some (.inl b), some (.inl x), some (.inl y)], [.inl 0], σ)) rfl ?_
            refine wp_ret hM rfl (rfl) ?_
            first | (first | exact r_t (by unfold keeps; omega) | exact r_f (by unfold keeps; omega)) | fail
          · replace c36 := cmp_ne_f c36
            refine wp_go 2 hM (fr' := (44, [some (.inr 30), some (.inl a), some (.inl b), some (.inl x), some (.inl y)], [.inl 1], σ)) rfl ?_
            refine wp_ret hM rfl (rfl) ?_
            first | (first | exact r_t (by unfold keeps; omega) | exact r_f (by unfold keeps; omega)) | fail
  · replace c1 := cmp_eq_f c1
    refine wp_go 5 hM (fr' := (11, [some (.inr 30), some (.inl a), some (.inl b), some (.inl x), some (.inl y)], [.inl ((σ 30 0) - 1), .inl a], σ)) rfl ?_
    refine wp_ic (tgt := 19) hM rfl (by decide) (by omega) (by omega) (fun c11 => ?_) (fun c11 => ?_)
    · replace c11 := cmp_ne_t c11
      refine wp_go 1 hM (fr' := (20, [some (.inr 30), some (.inl a), some (.inl b), some (.inl x), some (.inl y)], [.inl b], σ)) rfl ?_
      refine wp_if (tgt := 33) hM rfl (by decide) (by omega) (fun c20 => ?_) (fun c20 => ?_)
      · replace c20 := cmp_eq_t c20
        refine wp_go 2 hM (fr' := (36, [some (.inr 30), some (.inl a), some (.inl b), some (.inl x), some (.inl y)], [.inl b, .inl y], σ)) rfl ?_
        refine wp_ic (tgt := 43) hM rfl (by decide) (by omega) (by omega) (fun c36 => ?_) (fun c36 => ?_)
        · replace c36 := cmp_ne_t c36
          refine wp_go 1 hM (fr' := (44, [some (.inr 30), some (.inl a), some (.inl b), some (.inl x), some (.inl y)], [.inl 0], σ)) rfl ?_
          refine wp_ret hM rfl (rfl) ?_
          first | (first | exact r_t (by unfold keeps; omega) | exact r_f (by unfold keeps; omega)) | fail
        · replace c36 := cmp_ne_f c36
          refine wp_go 2 hM (fr' := (44, [some (.inr 30), some (.inl a), some (.inl b), some (.inl x), some (.inl y)], [.inl 1], σ)) rfl ?_
          refine wp_ret hM rfl (rfl) ?_
          first | (first | exact r_t (by unfold keeps; omega) | exact r_f (by unfold keeps; omega)) | fail
      · replace c20 := cmp_eq_f c20
        refine wp_go 5 hM (fr' := (30, [some (.inr 30), some (.inl a), some (.inl b), some (.inl x), some (.inl y)], [.inl ((σ 30 1) - 1), .inl b], σ)) rfl ?_
        refine wp_ic (tgt := 39) hM rfl (by decide) (by omega) (by omega) (fun c30 => ?_) (fun c30 => ?_)
        · replace c30 := cmp_ne_t c30
          refine wp_go 2 hM (fr' := (44, [some (.inr 30), some (.inl a), some (.inl b), some (.inl x), some (.inl y)], [.inl 1], σ)) rfl ?_
          refine wp_ret hM rfl (rfl) ?_
          first | (first | exact r_t (by unfold keeps; omega) | exact r_f (by unfold keeps; omega)) | fail
        · replace c30 := cmp_ne_f c30
          refine wp_go 2 hM (fr' := (36, [some (.inr 30), some (.inl a), some (.inl b), some (.inl x), some (.inl y)], [.inl b, .inl y], σ)) rfl ?_
          refine wp_ic (tgt := 43) hM rfl (by decide) (by omega) (by omega) (fun c36 => ?_) (fun c36 => ?_)
          · replace c36 := cmp_ne_t c36
            refine wp_go 1 hM (fr' := (44, [some (.inr 30), some (.inl a), some (.inl b), some (.inl x), some (.inl y)], [.inl 0], σ)) rfl ?_
            refine wp_ret hM rfl (rfl) ?_
            first | (first | exact r_t (by unfold keeps; omega) | exact r_f (by unfold keeps; omega)) | fail
          · replace c36 := cmp_ne_f c36
            refine wp_go 2 hM (fr' := (44, [some (.inr 30), some (.inl a), some (.inl b), some (.inl x), some (.inl y)], [.inl 1], σ)) rfl ?_
            refine wp_ret hM rfl (rfl) ?_
            first | (first | exact r_t (by unfold keeps; omega) | exact r_f (by unfold keeps; omega)) | fail
    · replace c11 := cmp_ne_f c11
      refine wp_go 2 hM (fr' := (16, [some (.inr 30), some (.inl a), some (.inl b), some (.inl x), some (.inl y)], [.inl a, .inl x], σ)) rfl ?_
      refine wp_ic (tgt := 43) hM rfl (by decide) (by omega) (by omega) (fun c16 => ?_) (fun c16 => ?_)
      · replace c16 := cmp_ne_t c16
        refine wp_go 1 hM (fr' := (44, [some (.inr 30), some (.inl a), some (.inl b), some (.inl x), some (.inl y)], [.inl 0], σ)) rfl ?_
        refine wp_ret hM rfl (rfl) ?_
        first | (first | exact r_t (by unfold keeps; omega) | exact r_f (by unfold keeps; omega)) | fail
      · replace c16 := cmp_ne_f c16
        refine wp_go 1 hM (fr' := (20, [some (.inr 30), some (.inl a), some (.inl b), some (.inl x), some (.inl y)], [.inl b], σ)) rfl ?_
        refine wp_if (tgt := 33) hM rfl (by decide) (by omega) (fun c20 => ?_) (fun c20 => ?_)
        · replace c20 := cmp_eq_t c20
          refine wp_go 2 hM (fr' := (36, [some (.inr 30), some (.inl a), some (.inl b), some (.inl x), some (.inl y)], [.inl b, .inl y], σ)) rfl ?_
          refine wp_ic (tgt := 43) hM rfl (by decide) (by omega) (by omega) (fun c36 => ?_) (fun c36 => ?_)
          · replace c36 := cmp_ne_t c36
            refine wp_go 1 hM (fr' := (44, [some (.inr 30), some (.inl a), some (.inl b), some (.inl x), some (.inl y)], [.inl 0], σ)) rfl ?_
            refine wp_ret hM rfl (rfl) ?_
            first | (first | exact r_t (by unfold keeps; omega) | exact r_f (by unfold keeps; omega)) | fail
          · replace c36 := cmp_ne_f c36
            refine wp_go 2 hM (fr' := (44, [some (.inr 30), some (.inl a), some (.inl b), some (.inl x), some (.inl y)], [.inl 1], σ)) rfl ?_
            refine wp_ret hM rfl (rfl) ?_
            first | (first | exact r_t (by unfold keeps; omega) | exact r_f (by unfold keeps; omega)) | fail
        · replace c20 := cmp_eq_f c20
          refine wp_go 5 hM (fr' := (30, [some (.inr 30), some (.inl a), some (.inl b), some (.inl x), some (.inl y)], [.inl ((σ 30 1) - 1), .inl b], σ)) rfl ?_
          refine wp_ic (tgt := 39) hM rfl (by decide) (by omega) (by omega) (fun c30 => ?_) (fun c30 => ?_)
          · replace c30 := cmp_ne_t c30
            refine wp_go 2 hM (fr' := (44, [some (.inr 30), some (.inl a), some (.inl b), some (.inl x), some (.inl y)], [.inl 1], σ)) rfl ?_
            refine wp_ret hM rfl (rfl) ?_
            first | (first | exact r_t (by unfold keeps; omega) | exact r_f (by unfold keeps; omega)) | fail
          · replace c30 := cmp_ne_f c30
            refine wp_go 2 hM (fr' := (36, [some (.inr 30), some (.inl a), some (.inl b), some (.inl x), some (.inl y)], [.inl b, .inl y], σ)) rfl ?_
            refine wp_ic (tgt := 43) hM rfl (by decide) (by omega) (by omega) (fun c36 => ?_) (fun c36 => ?_)
            · replace c36 := cmp_ne_t c36
              refine wp_go 1 hM (fr' := (44, [some (.inr 30), some (.inl a), some (.inl b), some (.inl x), some (.inl y)], [.inl 0], σ)) rfl ?_
              refine wp_ret hM rfl (rfl) ?_
              first | (first | exact r_t (by unfold keeps; omega) | exact r_f (by unfold keeps; omega)) | fail
            · replace c36 := cmp_ne_f c36
              refine wp_go 2 hM (fr' := (44, [some (.inr 30), some (.inl a), some (.inl b), some (.inl x), some (.inl y)], [.inl 1], σ)) rfl ?_
              refine wp_ret hM rfl (rfl) ?_
              first | (first | exact r_t (by unfold keeps; omega) | exact r_f (by unfold keeps; omega)) | fail

set_option maxRecDepth 100000 in
set_option maxHeartbeats 4000000 in
theorem sp_X6_knotAt (v : mz_G) (l : List tr3) (σ : mz_G) (x : Int) (y : Int) (h0 : MA σ v l) (h1 : Bs v l) (h2 : mz_R x) (h3 : mz_R y) : mz_Cl shM 125 [.inr 30, .inl x, .inl y] σ (fun r σ' => r = some (fstI (v 0 2) (fun k => gx v 0 k = x ∧ gy v 0 k = y)) ∧ σ' = σ) := by
  have hM : mz_meth[125]? = some mtX6_knotAt := rfl
  obtain ⟨hR, hT, hLen⟩ := id h1
  obtain ⟨⟨hW0, hW1⟩, ⟨hH0, hH1⟩, ⟨hn0, hn1⟩, hpt⟩ := id hR
  obtain ⟨⟨⟨hc1, hc2, hc3⟩, hcp, hcv⟩, hc4, hct⟩ := id h0
  have hWH := WH_bd hR
  refine mz_Cl.of hM ?_
  show mz_Wp shM none 125 (0, [some (.inr 30), some (.inl x), some (.inl y), none], [], σ) _
  refine wp_go 2 hM (fr' := (2, [some (.inr 30), some (.inl x), some (.inl y), some (.inl 0)], [], σ)) rfl ?_
  have loop2 : ∀ (fuel : Nat) (k : Int), (0 ≤ k) → (k ≤ v 0 2) → (fstI k (fun k => gx v 0 k = x ∧ gy v 0 k = y) = -1) → ((v 0 2 - k : Int) < fuel) → mz_Wp shM none 125 (2, [some (.inr 30), some (.inl x), some (.inl y), some (.inl k)], [], σ) (fun r σ' => r = some (fstI (v 0 2) (fun k => gx v 0 k = x ∧ gy v 0 k = y)) ∧ σ' = σ) := by
    intro fuel
    induction fuel with
    | zero =>
      intro k hv2_0 hv2_1 hv2_2 hf2
      exfalso
      omega
    | succ fuel ih2 =>
      intro k hv2_0 hv2_1 hv2_2 hf2
      refine wp_go 3 hM (fr' := (7, [some (.inr 30), some (.inl x), some (.inl y), some (.inl k)], [.inl (σ 30 2), .inl k], σ)) rfl ?_
      refine wp_ic (tgt := 38) hM rfl (by decide) (by omega) (by omega) (fun c7 => ?_) (fun c7 => ?_)
      · replace c7 := cmp_ge_t c7
        refine wp_go 1 hM (fr' := (39, [some (.inr 30), some (.inl x), some (.inl y), some (.inl k)], [.inl (-1)], σ)) rfl ?_
        refine wp_ret hM rfl (rfl) ?_
        first | (exact ⟨by rw [show v 0 2 = k from by omega, hv2_2], rfl⟩) | fail
      · replace c7 := cmp_ge_f c7
        first | (have hk := MA_pt h0 hv2_0 (show k < v 0 2 by omega)) | skip
        first | (have hr := Rg_pt hR hv2_0 (show k < v 0 2 by omega)) | skip
        refine wp_go 3 hM (fr' := (15, [some (.inr 30), some (.inl x), some (.inl y), some (.inl k)], [.inl k, .inr 31], σ)) rfl ?_
        refine wp_al (n := 31) hM rfl (by decide) rfl (by omega) (by omega) ?_
        first | (rw [hk.1]) | skip
        refine wp_go 1 hM (fr' := (17, [some (.inr 30), some (.inl x), some (.inl y), some (.inl k)], [.inl x, .inl (gx v 0 k)], σ)) rfl ?_
        refine wp_ic (tgt := 32) hM rfl (by decide) (by omega) (by omega) (fun c17 => ?_) (fun c17 => ?_)
        · replace c17 := cmp_ne_t c17
          refine wp_go 2 hM (fr' := (2, [some (.inr 30), some (.inl x), some (.inl y), some (.inl (k + 1))], [], σ)) rfl ?_
          exact ih2 (k + 1) (by omega) (by omega) (by first | (exact fstI_no hv2_0 hv2_2 (by omega)) | fail) (by omega)
        · replace c17 := cmp_ne_f c17
          refine wp_go 3 hM (fr' := (25, [some (.inr 30), some (.inl x), some (.inl y), some (.inl k)], [.inl k, .inr 32], σ)) rfl ?_
          refine wp_al (n := 31) hM rfl (by decide) rfl (by omega) (by omega) ?_
          first | (rw [hk.2.1]) | skip
          refine wp_go 1 hM (fr' := (27, [some (.inr 30), some (.inl x), some (.inl y), some (.inl k)], [.inl y, .inl (gy v 0 k)], σ)) rfl ?_
          refine wp_ic (tgt := 32) hM rfl (by decide) (by omega) (by omega) (fun c27 => ?_) (fun c27 => ?_)
          · replace c27 := cmp_ne_t c27
            refine wp_go 2 hM (fr' := (2, [some (.inr 30), some (.inl x), some (.inl y), some (.inl (k + 1))], [], σ)) rfl ?_
            exact ih2 (k + 1) (by omega) (by omega) (by first | (exact fstI_no hv2_0 hv2_2 (by omega)) | fail) (by omega)
          · replace c27 := cmp_ne_f c27
            refine wp_go 1 hM (fr' := (31, [some (.inr 30), some (.inl x), some (.inl y), some (.inl k)], [.inl k], σ)) rfl ?_
            refine wp_ret hM rfl (rfl) ?_
            first | (exact ⟨by rw [fstI_yes (t := k) (P := fun k => gx v 0 k = x ∧ gy v 0 k = y) hv2_0 (by omega) hv2_2 ⟨c17, c27⟩], rfl⟩) | fail
  exact loop2 33 0 (by omega) (by omega) (by rfl) (by omega)

set_option maxRecDepth 100000 in
set_option maxHeartbeats 4000000 in
theorem sp_X6_side (v : mz_G) (l : List tr3) (σ : mz_G) (a : Int) (b : Int) (h0 : MA σ v l) (h1 : Bs v l) (h2 : mz_R a) (h3 : mz_R b) : mz_Cl shM 130 [.inr 30, .inl a, .inl b] σ (fun r σ' => r = some (sid l a b) ∧ σ' = σ) := by
  have hM : mz_meth[130]? = some mtX6_side := rfl
  obtain ⟨hR, hT, hLen⟩ := id h1
  obtain ⟨⟨hW0, hW1⟩, ⟨hH0, hH1⟩, ⟨hn0, hn1⟩, hpt⟩ := id hR
  obtain ⟨⟨⟨hc1, hc2, hc3⟩, hcp, hcv⟩, hc4, hct⟩ := id h0
  have hWH := WH_bd hR
  refine mz_Cl.of hM ?_
  show mz_Wp shM none 130 (0, [some (.inr 30), some (.inl a), some (.inl b), none, none], [], σ) _
  refine wp_go 2 hM (fr' := (2, [some (.inr 30), some (.inl a), some (.inl b), some (.inl 0), none], [], σ)) rfl ?_
  have loop2 : ∀ (fuel : Nat) (t : Int) (d2_4 : Option mz_V), (0 ≤ t) → (t ≤ (l.length : Int)) → (fstI t (fun i => edg (tg l i) a b) = -1) → (((l.length : Int) - t : Int) < fuel) → mz_Wp shM none 130 (2, [some (.inr 30), some (.inl a), some (.inl b), some (.inl t), d2_4], [], σ) (fun r σ' => r = some (sid l a b) ∧ σ' = σ) := by
    intro fuel
    induction fuel with
    | zero =>
      intro t d2_4 hv2_0 hv2_1 hv2_2 hf2
      exfalso
      omega
    | succ fuel ih2 =>
      intro t d2_4 hv2_0 hv2_1 hv2_2 hf2
      refine wp_go 3 hM (fr' := (7, [some (.inr 30), some (.inl a), some (.inl b), some (.inl t), d2_4], [.inl (σ 30 3), .inl t], σ)) rfl ?_
      refine wp_ic (tgt := 59) hM rfl (by decide) (by omega) (by omega) (fun c7 => ?_) (fun c7 => ?_)
      · replace c7 := cmp_ge_t c7
        refine wp_go 1 hM (fr' := (60, [some (.inr 30), some (.inl a), some (.inl b), some (.inl t), d2_4], [.inl (-1)], σ)) rfl ?_
        refine wp_ret hM rfl (rfl) ?_
        first | (exact ⟨by unfold sid; rw [show (l.length : Int) = t from by omega, hv2_2], rfl⟩) | fail
      · replace c7 := cmp_ge_f c7
        first | (have ht := Rt_at hT hv2_0 (show t < (l.length : Int) by omega)) | skip
        refine wp_go 2 hM (fr' := (13, [some (.inr 30), some (.inl a), some (.inl b), some (.inl t), some (.inl 0)], [], σ)) rfl ?_
        have loop13 : ∀ (fuel : Nat) (k : Int), (0 ≤ k) → (k ≤ 3) → (1 ≤ k → ¬ ((tg l t).1 = a ∧ (tg l t).2.1 = b)) → (2 ≤ k → ¬ ((tg l t).2.1 = a ∧ (tg l t).2.2 = b)) → (3 ≤ k → ¬ ((tg l t).2.2 = a ∧ (tg l t).1 = b)) → ((3 - k : Int) < fuel) → mz_Wp shM none 130 (13, [some (.inr 30), some (.inl a), some (.inl b), some (.inl t), some (.inl k)], [], σ) (fun r σ' => r = some (sid l a b) ∧ σ' = σ) := by
          intro fuel
          induction fuel with
          | zero =>
            intro k hv13_0 hv13_1 hv13_2 hv13_3 hv13_4 hf13
            exfalso
            omega
          | succ fuel ih13 =>
            intro k hv13_0 hv13_1 hv13_2 hv13_3 hv13_4 hf13
            refine wp_go 2 hM (fr' := (16, [some (.inr 30), some (.inl a), some (.inl b), some (.inl t), some (.inl k)], [.inl 3, .inl k], σ)) rfl ?_
            refine wp_ic (tgt := 53) hM rfl (by decide) (by omega) (by omega) (fun c16 => ?_) (fun c16 => ?_)
            · replace c16 := cmp_ge_t c16
              refine wp_go 2 hM (fr' := (2, [some (.inr 30), some (.inl a), some (.inl b), some (.inl (t + 1)), some (.inl k)], [], σ)) rfl ?_
              exact ih2 (t + 1) (some (.inl k)) (by omega) (by omega) (by first | (exact fstI_no hv2_0 hv2_2 (by unfold edg; omega)) | fail) (by omega)
            · replace c16 := cmp_ge_f c16
              first | (have hcs := tk_cs (tg l t) hv13_0 (show k < 3 by omega)) | skip
              first | (have hb0 := tk_bd (k := k) ht) | skip
              first | (have hb1 := tk_bd (k := (k + 1).tmod 3) ht) | skip
              refine wp_go 3 hM (fr' := (23, [some (.inr 30), some (.inl a), some (.inl b), some (.inl t), some (.inl k)], [.inl k, .inl t, .inr 30], σ)) rfl ?_
              refine wp_calld (v := 0) (idx := 85) (j := 111) (N := mtX6_at) (as := [.inr 30, .inl t, .inl k]) (rest := []) hM rfl (Or.inl ⟨rfl, rfl⟩) rfl (sp_X6_at v l σ t k (by first | (first | assumption | omega) | fail) (by first | (first | assumption | omega) | fail) (by first | (first | assumption | omega) | fail) (by first | (first | assumption | omega) | fail) (by first | (first | assumption | omega) | fail) (by first | (first | assumption | omega) | fail)) ?_
              show mz_Wp shM none 130 (26, [some (.inr 30), some (.inl a), some (.inl b), some (.inl t), some (.inl k)], [.inl (tk (tg l t) k)], σ) _
              refine wp_go 1 hM (fr' := (27, [some (.inr 30), some (.inl a), some (.inl b), some (.inl t), some (.inl k)], [.inl a, .inl (tk (tg l t) k)], σ)) rfl ?_
              refine wp_ic (tgt := 47) hM rfl (by decide) (by omega) (by omega) (fun c27 => ?_) (fun c27 => ?_)
              · replace c27 := cmp_ne_t c27
                refine wp_go 2 hM (fr' := (13, [some (.inr 30), some (.inl a), some (.inl b), some (.inl t), some (.inl (k + 1))], [], σ)) rfl ?_
                exact ih13 (k + 1) (by omega) (by omega) (by omega) (by omega) (by omega) (by omega)
              · replace c27 := cmp_ne_f c27
                refine wp_go 6 hM (fr' := (37, [some (.inr 30), some (.inl a), some (.inl b), some (.inl t), some (.inl k)], [.inl 3, .inl (k + 1), .inl t, .inr 30], σ)) rfl ?_
                refine wp_rem hM rfl (by omega) (by omega) (by omega) ?_
                refine wp_calld (v := 0) (idx := 85) (j := 111) (N := mtX6_at) (as := [.inr 30, .inl t, .inl ((k + 1).tmod 3)]) (rest := []) hM rfl (Or.inl ⟨rfl, rfl⟩) rfl (sp_X6_at v l σ t ((k + 1).tmod 3) (by first | (first | assumption | omega) | fail) (by first | (first | assumption | omega) | fail) (by first | (first | assumption | omega) | fail) (by first | (first | assumption | omega) | fail) (by first | (first | assumption | omega) | fail) (by first | (first | assumption | omega) | fail)) ?_
                show mz_Wp shM none 130 (41, [some (.inr 30), some (.inl a), some (.inl b), some (.inl t), some (.inl k)], [.inl (tk (tg l t) ((k + 1).tmod 3))], σ) _
                refine wp_go 1 hM (fr' := (42, [some (.inr 30), some (.inl a), some (.inl b), some (.inl t), some (.inl k)], [.inl b, .inl (tk (tg l t) ((k + 1).tmod 3))], σ)) rfl ?_
                refine wp_ic (tgt := 47) hM rfl (by decide) (by omega) (by omega) (fun c42 => ?_) (fun c42 => ?_)
                · replace c42 := cmp_ne_t c42
                  refine wp_go 2 hM (fr' := (13, [some (.inr 30), some (.inl a), some (.inl b), some (.inl t), some (.inl (k + 1))], [], σ)) rfl ?_
                  exact ih13 (k + 1) (by omega) (by omega) (by omega) (by omega) (by omega) (by omega)
                · replace c42 := cmp_ne_f c42
                  refine wp_go 1 hM (fr' := (46, [some (.inr 30), some (.inl a), some (.inl b), some (.inl t), some (.inl k)], [.inl t], σ)) rfl ?_
                  refine wp_ret hM rfl (rfl) ?_
                  first | (exact ⟨by unfold sid; rw [fstI_yes (t := t) (P := fun i => edg (tg l i) a b) hv2_0 (by omega) hv2_2 (by unfold edg; omega)], rfl⟩) | fail
        exact loop13 5 0 (by omega) (by omega) (by omega) (by omega) (by omega) (by omega)
  exact loop2 65 0 (none) (by omega) (by omega) (by rfl) (by omega)

set_option maxRecDepth 100000 in
set_option maxHeartbeats 4000000 in
theorem sp_X6_third (v : mz_G) (l : List tr3) (σ : mz_G) (t : Int) (a : Int) (b : Int) (h0 : MA σ v l) (h1 : Bs v l) (h2 : 0 ≤ t) (h3 : t < (l.length : Int)) : mz_Cl shM 131 [.inr 30, .inl t, .inl a, .inl b] σ (fun r σ' => r = some (thd (tg l t) a b) ∧ σ' = σ) := by
  have hM : mz_meth[131]? = some mtX6_third := rfl
  obtain ⟨hR, hT, hLen⟩ := id h1
  obtain ⟨⟨hW0, hW1⟩, ⟨hH0, hH1⟩, ⟨hn0, hn1⟩, hpt⟩ := id hR
  obtain ⟨⟨⟨hc1, hc2, hc3⟩, hcp, hcv⟩, hc4, hct⟩ := id h0
  have hWH := WH_bd hR
  refine mz_Cl.of hM ?_
  show mz_Wp shM none 131 (0, [some (.inr 30), some (.inl t), some (.inl a), some (.inl b)], [], σ) _
  refine wp_go 3 hM (fr' := (3, [some (.inr 30), some (.inl t), some (.inl a), some (.inl b)], [.inl 0, .inl t, .inr 30], σ)) rfl ?_
  refine wp_calld (v := 0) (idx := 85) (j := 111) (N := mtX6_at) (as := [.inr 30, .inl t, .inl 0]) (rest := []) hM rfl (Or.inl ⟨rfl, rfl⟩) rfl (sp_X6_at_0 v l σ t (by first | (first | assumption | omega) | fail) (by first | (first | assumption | omega) | fail) (by first | (first | assumption | omega) | fail) (by first | (first | assumption | omega) | fail)) ?_
  show mz_Wp shM none 131 (6, [some (.inr 30), some (.inl t), some (.inl a), some (.inl b)], [.inl ((tg l t).1)], σ) _
  refine wp_go 3 hM (fr' := (9, [some (.inr 30), some (.inl t), some (.inl a), some (.inl b)], [.inl 1, .inl t, .inr 30, .inl ((tg l t).1)], σ)) rfl ?_
  refine wp_calld (v := 0) (idx := 85) (j := 111) (N := mtX6_at) (as := [.inr 30, .inl t, .inl 1]) (rest := [.inl ((tg l t).1)]) hM rfl (Or.inl ⟨rfl, rfl⟩) rfl (sp_X6_at_1 v l σ t (by first | (first | assumption | omega) | fail) (by first | (first | assumption | omega) | fail) (by first | (first | assumption | omega) | fail) (by first | (first | assumption | omega) | fail)) ?_
  show mz_Wp shM none 131 (12, [some (.inr 30), some (.inl t), some (.inl a), some (.inl b)], [.inl ((tg l t).2.1), .inl ((tg l t).1)], σ) _
  refine wp_go 4 hM (fr' := (16, [some (.inr 30), some (.inl t), some (.inl a), some (.inl b)], [.inl 2, .inl t, .inr 30, .inl (((tg l t).1) + ((tg l t).2.1))], σ)) rfl ?_
  refine wp_calld (v := 0) (idx := 85) (j := 111) (N := mtX6_at) (as := [.inr 30, .inl t, .inl 2]) (rest := [.inl (((tg l t).1) + ((tg l t).2.1))]) hM rfl (Or.inl ⟨rfl, rfl⟩) rfl (sp_X6_at_2 v l σ t (by first | (first | assumption | omega) | fail) (by first | (first | assumption | omega) | fail) (by first | (first | assumption | omega) | fail) (by first | (first | assumption | omega) | fail)) ?_
  show mz_Wp shM none 131 (19, [some (.inr 30), some (.inl t), some (.inl a), some (.inl b)], [.inl ((tg l t).2.2), .inl (((tg l t).1) + ((tg l t).2.1))], σ) _
  refine wp_go 5 hM (fr' := (24, [some (.inr 30), some (.inl t), some (.inl a), some (.inl b)], [.inl ((((((tg l t).1) + ((tg l t).2.1)) + ((tg l t).2.2)) - a) - b)], σ)) rfl ?_
  refine wp_ret hM rfl (rfl) ?_
  first | (exact ⟨rfl, rfl⟩) | fail

set_option maxRecDepth 100000 in
set_option maxHeartbeats 4000000 in
theorem sp_X6_sides (v : mz_G) (l : List tr3) (σ : mz_G) (a : Int) (b : Int) (h0 : MA σ v l) (h1 : Bs v l) (h2 : mz_R a) (h3 : mz_R b) : mz_Cl shM 132 [.inr 30, .inl a, .inl b] σ (fun r σ' => r = some (hld l a b) ∧ σ' = σ) := by
  have hM : mz_meth[132]? = some mtX6_sides := rfl
  obtain ⟨hR, hT, hLen⟩ := id h1
  obtain ⟨⟨hW0, hW1⟩, ⟨hH0, hH1⟩, ⟨hn0, hn1⟩, hpt⟩ := id hR
  obtain ⟨⟨⟨hc1, hc2, hc3⟩, hcp, hcv⟩, hc4, hct⟩ := id h0
  have hWH := WH_bd hR
  have s1 := (sid_apx (a := a) (b := b) hT).1
  have s2 := (sid_apx (a := b) (b := a) hT).1
  have r1 := fstI_spec (l.length : Int) (fun i => edg (tg l i) a b)
  have r2 := fstI_spec (l.length : Int) (fun i => edg (tg l i) b a)
  have q1 : -1 ≤ sid l a b ∧ sid l a b < 100 := by unfold sid; omega
  have q2 : -1 ≤ sid l b a ∧ sid l b a < 100 := by unfold sid; omega
  refine mz_Cl.of hM ?_
  show mz_Wp shM none 132 (0, [some (.inr 30), some (.inl a), some (.inl b)], [], σ) _
  refine wp_go 3 hM (fr' := (3, [some (.inr 30), some (.inl a), some (.inl b)], [.inl b, .inl a, .inr 30], σ)) rfl ?_
  refine wp_calld (v := 0) (idx := 158) (j := 130) (N := mtX6_side) (as := [.inr 30, .inl a, .inl b]) (rest := []) hM rfl (Or.inl ⟨rfl, rfl⟩) rfl (sp_X6_side v l σ a b (by first | (first | assumption | omega) | fail) (by first | (first | assumption | omega) | fail) (by first | (first | assumption | omega) | fail) (by first | (first | assumption | omega) | fail)) ?_
  show mz_Wp shM none 132 (6, [some (.inr 30), some (.inl a), some (.inl b)], [.inl (sid l a b)], σ) _
  refine wp_go 1 hM (fr' := (7, [some (.inr 30), some (.inl a), some (.inl b)], [.inl (-1), .inl (sid l a b)], σ)) rfl ?_
  refine wp_ic (tgt := 14) hM rfl (by decide) (by omega) (by omega) (fun c7 => ?_) (fun c7 => ?_)
  · replace c7 := cmp_ne_t c7
    refine wp_go 4 hM (fr' := (18, [some (.inr 30), some (.inl a), some (.inl b)], [.inl a, .inl b, .inr 30, .inl 1], σ)) rfl ?_
    refine wp_calld (v := 0) (idx := 158) (j := 130) (N := mtX6_side) (as := [.inr 30, .inl b, .inl a]) (rest := [.inl 1]) hM rfl (Or.inl ⟨rfl, rfl⟩) rfl (sp_X6_side v l σ b a (by first | (first | assumption | omega) | fail) (by first | (first | assumption | omega) | fail) (by first | (first | assumption | omega) | fail) (by first | (first | assumption | omega) | fail)) ?_
    show mz_Wp shM none 132 (21, [some (.inr 30), some (.inl a), some (.inl b)], [.inl (sid l b a), .inl 1], σ) _
    refine wp_go 1 hM (fr' := (22, [some (.inr 30), some (.inl a), some (.inl b)], [.inl (-1), .inl (sid l b a), .inl 1], σ)) rfl ?_
    refine wp_ic (tgt := 29) hM rfl (by decide) (by omega) (by omega) (fun c22 => ?_) (fun c22 => ?_)
    · replace c22 := cmp_ne_t c22
      refine wp_go 2 hM (fr' := (31, [some (.inr 30), some (.inl a), some (.inl b)], [.inl (1 + 1)], σ)) rfl ?_
      refine wp_ret hM rfl (rfl) ?_
      first | (exact ⟨by unfold hld; (first | rw [b01_t (show ¬ apx l a b = -1 from fun z => c7 (s1.mpr z))] | rw [b01_f (show ¬ ¬ apx l a b = -1 from fun z => z (s1.mp c7))]); (first | rw [b01_t (show ¬ apx l b a = -1 from fun z => c22 (s2.mpr z))] | rw [b01_f (show ¬ ¬ apx l b a = -1 from fun z => z (s2.mp c22))]), rfl⟩) | fail
    · replace c22 := cmp_ne_f c22
      refine wp_go 3 hM (fr' := (31, [some (.inr 30), some (.inl a), some (.inl b)], [.inl (1 + 0)], σ)) rfl ?_
      refine wp_ret hM rfl (rfl) ?_
      first | (exact ⟨by unfold hld; (first | rw [b01_t (show ¬ apx l a b = -1 from fun z => c7 (s1.mpr z))] | rw [b01_f (show ¬ ¬ apx l a b = -1 from fun z => z (s1.mp c7))]); (first | rw [b01_t (show ¬ apx l b a = -1 from fun z => c22 (s2.mpr z))] | rw [b01_f (show ¬ ¬ apx l b a = -1 from fun z => z (s2.mp c22))]), rfl⟩) | fail
  · replace c7 := cmp_ne_f c7
    refine wp_go 5 hM (fr' := (18, [some (.inr 30), some (.inl a), some (.inl b)], [.inl a, .inl b, .inr 30, .inl 0], σ)) rfl ?_
    refine wp_calld (v := 0) (idx := 158) (j := 130) (N := mtX6_side) (as := [.inr 30, .inl b, .inl a]) (rest := [.inl 0]) hM rfl (Or.inl ⟨rfl, rfl⟩) rfl (sp_X6_side v l σ b a (by first | (first | assumption | omega) | fail) (by first | (first | assumption | omega) | fail) (by first | (first | assumption | omega) | fail) (by first | (first | assumption | omega) | fail)) ?_
    show mz_Wp shM none 132 (21, [some (.inr 30), some (.inl a), some (.inl b)], [.inl (sid l b a), .inl 0], σ) _
    refine wp_go 1 hM (fr' := (22, [some (.inr 30), some (.inl a), some (.inl b)], [.inl (-1), .inl (sid l b a), .inl 0], σ)) rfl ?_
    refine wp_ic (tgt := 29) hM rfl (by decide) (by omega) (by omega) (fun c22 => ?_) (fun c22 => ?_)
    · replace c22 := cmp_ne_t c22
      refine wp_go 2 hM (fr' := (31, [some (.inr 30), some (.inl a), some (.inl b)], [.inl (0 + 1)], σ)) rfl ?_
      refine wp_ret hM rfl (rfl) ?_
      first | (exact ⟨by unfold hld; (first | rw [b01_t (show ¬ apx l a b = -1 from fun z => c7 (s1.mpr z))] | rw [b01_f (show ¬ ¬ apx l a b = -1 from fun z => z (s1.mp c7))]); (first | rw [b01_t (show ¬ apx l b a = -1 from fun z => c22 (s2.mpr z))] | rw [b01_f (show ¬ ¬ apx l b a = -1 from fun z => z (s2.mp c22))]), rfl⟩) | fail
    · replace c22 := cmp_ne_f c22
      refine wp_go 3 hM (fr' := (31, [some (.inr 30), some (.inl a), some (.inl b)], [.inl (0 + 0)], σ)) rfl ?_
      refine wp_ret hM rfl (rfl) ?_
      first | (exact ⟨by unfold hld; (first | rw [b01_t (show ¬ apx l a b = -1 from fun z => c7 (s1.mpr z))] | rw [b01_f (show ¬ ¬ apx l a b = -1 from fun z => z (s1.mp c7))]); (first | rw [b01_t (show ¬ apx l b a = -1 from fun z => c22 (s2.mpr z))] | rw [b01_f (show ¬ ¬ apx l b a = -1 from fun z => z (s2.mp c22))]), rfl⟩) | fail

set_option maxRecDepth 100000 in
set_option maxHeartbeats 4000000 in
theorem sp_X6_isTurnable (v : mz_G) (l : List tr3) (σ : mz_G) (a : Int) (b : Int) (h0 : MA σ v l) (h1 : Bs v l) (h2 : 0 ≤ a) (h3 : a < v 0 2) (h4 : 0 ≤ b) (h5 : b < v 0 2) : mz_Cl shM 133 [.inr 30, .inl a, .inl b] σ (fun r σ' => r = some (b01 (rtt v l a b = 0)) ∧ σ' = σ) := by
  have hM : mz_meth[133]? = some mtX6_isTurnable := rfl
  obtain ⟨hR, hT, hLen⟩ := id h1
  obtain ⟨⟨hW0, hW1⟩, ⟨hH0, hH1⟩, ⟨hn0, hn1⟩, hpt⟩ := id hR
  obtain ⟨⟨⟨hc1, hc2, hc3⟩, hcp, hcv⟩, hc4, hct⟩ := id h0
  have hWH := WH_bd hR
  have s1 := sid_apx (a := a) (b := b) hT
  have s2 := sid_apx (a := b) (b := a) hT
  have a1 := apx_bd (a := a) (b := b) hT hn1
  have a2 := apx_bd (a := b) (b := a) hT hn1
  have hhl : hld l a b = b01 (¬ apx l a b = -1) + b01 (¬ apx l b a = -1) := rfl
  have hb1 := b01_01 (P := ¬ apx l a b = -1)
  have hb2 := b01_01 (P := ¬ apx l b a = -1)
  have hka : isk v a := ⟨h2, h3⟩
  have hkb : isk v b := ⟨h4, h5⟩
  refine mz_Cl.of hM ?_
  show mz_Wp shM none 133 (0, [some (.inr 30), some (.inl a), some (.inl b), none, none], [], σ) _
  refine wp_go 3 hM (fr' := (3, [some (.inr 30), some (.inl a), some (.inl b), none, none], [.inl b, .inl a, .inr 30], σ)) rfl ?_
  refine wp_calld (v := 0) (idx := 161) (j := 132) (N := mtX6_sides) (as := [.inr 30, .inl a, .inl b]) (rest := []) hM rfl (Or.inl ⟨rfl, rfl⟩) rfl (sp_X6_sides v l σ a b (by first | (first | assumption | omega) | fail) (by first | (first | assumption | omega) | fail) (by first | (first | assumption | omega) | fail) (by first | (first | assumption | omega) | fail)) ?_
  show mz_Wp shM none 133 (6, [some (.inr 30), some (.inl a), some (.inl b), none, none], [.inl (hld l a b)], σ) _
  refine wp_go 1 hM (fr' := (7, [some (.inr 30), some (.inl a), some (.inl b), none, none], [.inl 2, .inl (hld l a b)], σ)) rfl ?_
  refine wp_ic (tgt := 12) hM rfl (by decide) (by omega) (by omega) (fun c7 => ?_) (fun c7 => ?_)
  · replace c7 := cmp_eq_t c7
    first | (have y1 : ¬ apx l a b = -1 := fun z => by rw [b01_f (fun q => q z)] at hhl; omega) | skip
    first | (have y2 : ¬ apx l b a = -1 := fun z => by rw [b01_f (P := ¬ apx l b a = -1) (fun q => q z)] at hhl; omega) | skip
    first | (have z1 := s1.2 (fun z => y1 (s1.1.mp z))) | skip
    first | (have z2 := s2.2 (fun z => y2 (s2.1.mp z))) | skip
    first | (have z3 : thd (tg l (sid l b a)) a b = apx l b a := by rw [← z2.1]; unfold thd; omega) | skip
    first | (have w1 := a1.2.2 y1) | skip
    first | (have w2 := a2.2.2 y2) | skip
    first | (have g1 := ar_bd2 hR (q := 0) (by decide) hka w2 w1) | skip
    first | (have g2 := ar_bd2 hR (q := 0) (by decide) w2 hkb w1) | skip
    first | (have g3 := ar_bd2 hR (q := 1) (by decide) hka w2 w1) | skip
    first | (have g4 := ar_bd2 hR (q := 1) (by decide) w2 hkb w1) | skip
    refine wp_go 4 hM (fr' := (16, [some (.inr 30), some (.inl a), some (.inl b), none, none], [.inl b, .inl a, .inr 30, .inr 30], σ)) rfl ?_
    refine wp_calld (v := 0) (idx := 158) (j := 130) (N := mtX6_side) (as := [.inr 30, .inl a, .inl b]) (rest := [.inr 30]) hM rfl (Or.inl ⟨rfl, rfl⟩) rfl (sp_X6_side v l σ a b (by first | (first | assumption | omega) | fail) (by first | (first | assumption | omega) | fail) (by first | (first | assumption | omega) | fail) (by first | (first | assumption | omega) | fail)) ?_
    show mz_Wp shM none 133 (19, [some (.inr 30), some (.inl a), some (.inl b), none, none], [.inl (sid l a b), .inr 30], σ) _
    refine wp_go 2 hM (fr' := (21, [some (.inr 30), some (.inl a), some (.inl b), none, none], [.inl b, .inl a, .inl (sid l a b), .inr 30], σ)) rfl ?_
    refine wp_calld (v := 0) (idx := 164) (j := 131) (N := mtX6_third) (as := [.inr 30, .inl (sid l a b), .inl a, .inl b]) (rest := []) hM rfl (Or.inl ⟨rfl, rfl⟩) rfl (sp_X6_third v l σ (sid l a b) a b (by first | (first | assumption | exact z1.2.1 | exact z1.2.2.1 | omega) | fail) (by first | (first | assumption | exact z1.2.1 | exact z1.2.2.1 | omega) | fail) (by first | (first | assumption | exact z1.2.1 | exact z1.2.2.1 | omega) | fail) (by first | (first | assumption | exact z1.2.1 | exact z1.2.2.1 | omega) | fail)) ?_
    show mz_Wp shM none 133 (24, [some (.inr 30), some (.inl a), some (.inl b), none, none], [.inl (thd (tg l (sid l a b)) a b)], σ) _
    first | (rw [z1.1]) | skip
    refine wp_go 5 hM (fr' := (29, [some (.inr 30), some (.inl a), some (.inl b), some (.inl (apx l a b)), none], [.inl a, .inl b, .inr 30, .inr 30], σ)) rfl ?_
    refine wp_calld (v := 0) (idx := 158) (j := 130) (N := mtX6_side) (as := [.inr 30, .inl b, .inl a]) (rest := [.inr 30]) hM rfl (Or.inl ⟨rfl, rfl⟩) rfl (sp_X6_side v l σ b a (by first | (first | assumption | omega) | fail) (by first | (first | assumption | omega) | fail) (by first | (first | assumption | omega) | fail) (by first | (first | assumption | omega) | fail)) ?_
    show mz_Wp shM none 133 (32, [some (.inr 30), some (.inl a), some (.inl b), some (.inl (apx l a b)), none], [.inl (sid l b a), .inr 30], σ) _
    refine wp_go 2 hM (fr' := (34, [some (.inr 30), some (.inl a), some (.inl b), some (.inl (apx l a b)), none], [.inl b, .inl a, .inl (sid l b a), .inr 30], σ)) rfl ?_
    refine wp_calld (v := 0) (idx := 164) (j := 131) (N := mtX6_third) (as := [.inr 30, .inl (sid l b a), .inl a, .inl b]) (rest := []) hM rfl (Or.inl ⟨rfl, rfl⟩) rfl (sp_X6_third v l σ (sid l b a) a b (by first | (first | assumption | exact z2.2.1 | exact z2.2.2.1 | omega) | fail) (by first | (first | assumption | exact z2.2.1 | exact z2.2.2.1 | omega) | fail) (by first | (first | assumption | exact z2.2.1 | exact z2.2.2.1 | omega) | fail) (by first | (first | assumption | exact z2.2.1 | exact z2.2.2.1 | omega) | fail)) ?_
    show mz_Wp shM none 133 (37, [some (.inr 30), some (.inl a), some (.inl b), some (.inl (apx l a b)), none], [.inl (thd (tg l (sid l b a)) a b)], σ) _
    first | (rw [z3]) | skip
    refine wp_go 5 hM (fr' := (44, [some (.inr 30), some (.inl a), some (.inl b), some (.inl (apx l a b)), some (.inl (apx l b a))], [.inl (apx l a b), .inl (apx l b a), .inl a, .inr 30], σ)) rfl ?_
    refine wp_calld (v := 0) (idx := 89) (j := 112) (N := mtX6_homeArea) (as := [.inr 30, .inl a, .inl (apx l b a), .inl (apx l a b)]) (rest := []) hM rfl (Or.inl ⟨rfl, rfl⟩) rfl (sp_X6_homeArea v l σ a (apx l b a) (apx l a b) (by first | (first | assumption | exact w1.1 | exact w1.2 | exact w2.1 | exact w2.2) | fail) (by first | (first | assumption | exact w1.1 | exact w1.2 | exact w2.1 | exact w2.2) | fail) (by first | (first | assumption | exact w1.1 | exact w1.2 | exact w2.1 | exact w2.2) | fail) (by first | (first | assumption | exact w1.1 | exact w1.2 | exact w2.1 | exact w2.2) | fail) (by first | (first | assumption | exact w1.1 | exact w1.2 | exact w2.1 | exact w2.2) | fail) (by first | (first | assumption | exact w1.1 | exact w1.2 | exact w2.1 | exact w2.2) | fail) (by first | (first | assumption | exact w1.1 | exact w1.2 | exact w2.1 | exact w2.2) | fail) (by first | (first | assumption | exact w1.1 | exact w1.2 | exact w2.1 | exact w2.2) | fail)) ?_
    show mz_Wp shM none 133 (47, [some (.inr 30), some (.inl a), some (.inl b), some (.inl (apx l a b)), some (.inl (apx l b a))], [.inl (ar (gx v 0 (a)) (gy v 0 (a)) (gx v 0 ((apx l b a))) (gy v 0 ((apx l b a))) (gx v 0 ((apx l a b))) (gy v 0 ((apx l a b))))], σ) _
    refine wp_if (tgt := 87) hM rfl (by decide) (by omega) (fun c47 => ?_) (fun c47 => ?_)
    · replace c47 := cmp_le_t c47
      refine wp_go 1 hM (fr' := (88, [some (.inr 30), some (.inl a), some (.inl b), some (.inl (apx l a b)), some (.inl (apx l b a))], [.inl 0], σ)) rfl ?_
      refine wp_ret hM rfl (rfl) ?_
      first
        | (refine r_t ?_; unfold rtt flb; rw [if_neg (by intro q; rcases q with q | q; exact q hka; exact q hkb), if_neg (by intro q; rcases q with q | q; exact y1 q; exact y2 q), if_neg (by rw [if_neg (by omega), if_neg (by omega)]; omega)])
        | (refine r_f (fun z => ?_); have y := rtt0 z; have y5 := y.2.2.2.2.1; have y6 := y.2.2.2.2.2; unfold flb at y5 y6; split at y5 <;> split at y6 <;> omega)
    · replace c47 := cmp_le_f c47
      refine wp_go 4 hM (fr' := (55, [some (.inr 30), some (.inl a), some (.inl b), some (.inl (apx l a b)), some (.inl (apx l b a))], [.inl (apx l a b), .inl b, .inl (apx l b a), .inr 30], σ)) rfl ?_
      refine wp_calld (v := 0) (idx := 89) (j := 112) (N := mtX6_homeArea) (as := [.inr 30, .inl (apx l b a), .inl b, .inl (apx l a b)]) (rest := []) hM rfl (Or.inl ⟨rfl, rfl⟩) rfl (sp_X6_homeArea v l σ (apx l b a) b (apx l a b) (by first | (first | assumption | exact w1.1 | exact w1.2 | exact w2.1 | exact w2.2) | fail) (by first | (first | assumption | exact w1.1 | exact w1.2 | exact w2.1 | exact w2.2) | fail) (by first | (first | assumption | exact w1.1 | exact w1.2 | exact w2.1 | exact w2.2) | fail) (by first | (first | assumption | exact w1.1 | exact w1.2 | exact w2.1 | exact w2.2) | fail) (by first | (first | assumption | exact w1.1 | exact w1.2 | exact w2.1 | exact w2.2) | fail) (by first | (first | assumption | exact w1.1 | exact w1.2 | exact w2.1 | exact w2.2) | fail) (by first | (first | assumption | exact w1.1 | exact w1.2 | exact w2.1 | exact w2.2) | fail) (by first | (first | assumption | exact w1.1 | exact w1.2 | exact w2.1 | exact w2.2) | fail)) ?_
      show mz_Wp shM none 133 (58, [some (.inr 30), some (.inl a), some (.inl b), some (.inl (apx l a b)), some (.inl (apx l b a))], [.inl (ar (gx v 0 ((apx l b a))) (gy v 0 ((apx l b a))) (gx v 0 (b)) (gy v 0 (b)) (gx v 0 ((apx l a b))) (gy v 0 ((apx l a b))))], σ) _
      refine wp_if (tgt := 87) hM rfl (by decide) (by omega) (fun c58 => ?_) (fun c58 => ?_)
      · replace c58 := cmp_le_t c58
        refine wp_go 1 hM (fr' := (88, [some (.inr 30), some (.inl a), some (.inl b), some (.inl (apx l a b)), some (.inl (apx l b a))], [.inl 0], σ)) rfl ?_
        refine wp_ret hM rfl (rfl) ?_
        first
          | (refine r_t ?_; unfold rtt flb; rw [if_neg (by intro q; rcases q with q | q; exact q hka; exact q hkb), if_neg (by intro q; rcases q with q | q; exact y1 q; exact y2 q), if_neg (by rw [if_neg (by omega), if_neg (by omega)]; omega)])
          | (refine r_f (fun z => ?_); have y := rtt0 z; have y5 := y.2.2.2.2.1; have y6 := y.2.2.2.2.2; unfold flb at y5 y6; split at y5 <;> split at y6 <;> omega)
      · replace c58 := cmp_le_f c58
        refine wp_go 4 hM (fr' := (66, [some (.inr 30), some (.inl a), some (.inl b), some (.inl (apx l a b)), some (.inl (apx l b a))], [.inl (apx l a b), .inl (apx l b a), .inl a, .inr 30], σ)) rfl ?_
        refine wp_calld (v := 0) (idx := 93) (j := 113) (N := mtX6_placeArea) (as := [.inr 30, .inl a, .inl (apx l b a), .inl (apx l a b)]) (rest := []) hM rfl (Or.inl ⟨rfl, rfl⟩) rfl (sp_X6_placeArea v l σ a (apx l b a) (apx l a b) (by first | (first | assumption | exact w1.1 | exact w1.2 | exact w2.1 | exact w2.2) | fail) (by first | (first | assumption | exact w1.1 | exact w1.2 | exact w2.1 | exact w2.2) | fail) (by first | (first | assumption | exact w1.1 | exact w1.2 | exact w2.1 | exact w2.2) | fail) (by first | (first | assumption | exact w1.1 | exact w1.2 | exact w2.1 | exact w2.2) | fail) (by first | (first | assumption | exact w1.1 | exact w1.2 | exact w2.1 | exact w2.2) | fail) (by first | (first | assumption | exact w1.1 | exact w1.2 | exact w2.1 | exact w2.2) | fail) (by first | (first | assumption | exact w1.1 | exact w1.2 | exact w2.1 | exact w2.2) | fail) (by first | (first | assumption | exact w1.1 | exact w1.2 | exact w2.1 | exact w2.2) | fail)) ?_
        show mz_Wp shM none 133 (69, [some (.inr 30), some (.inl a), some (.inl b), some (.inl (apx l a b)), some (.inl (apx l b a))], [.inl (ar (gx v 1 (a)) (gy v 1 (a)) (gx v 1 ((apx l b a))) (gy v 1 ((apx l b a))) (gx v 1 ((apx l a b))) (gy v 1 ((apx l a b))))], σ) _
        refine wp_if (tgt := 87) hM rfl (by decide) (by omega) (fun c69 => ?_) (fun c69 => ?_)
        · replace c69 := cmp_le_t c69
          refine wp_go 1 hM (fr' := (88, [some (.inr 30), some (.inl a), some (.inl b), some (.inl (apx l a b)), some (.inl (apx l b a))], [.inl 0], σ)) rfl ?_
          refine wp_ret hM rfl (rfl) ?_
          first
            | (refine r_t ?_; unfold rtt flb; rw [if_neg (by intro q; rcases q with q | q; exact q hka; exact q hkb), if_neg (by intro q; rcases q with q | q; exact y1 q; exact y2 q), if_neg (by rw [if_neg (by omega), if_neg (by omega)]; omega)])
            | (refine r_f (fun z => ?_); have y := rtt0 z; have y5 := y.2.2.2.2.1; have y6 := y.2.2.2.2.2; unfold flb at y5 y6; split at y5 <;> split at y6 <;> omega)
        · replace c69 := cmp_le_f c69
          refine wp_go 4 hM (fr' := (77, [some (.inr 30), some (.inl a), some (.inl b), some (.inl (apx l a b)), some (.inl (apx l b a))], [.inl (apx l a b), .inl b, .inl (apx l b a), .inr 30], σ)) rfl ?_
          refine wp_calld (v := 0) (idx := 93) (j := 113) (N := mtX6_placeArea) (as := [.inr 30, .inl (apx l b a), .inl b, .inl (apx l a b)]) (rest := []) hM rfl (Or.inl ⟨rfl, rfl⟩) rfl (sp_X6_placeArea v l σ (apx l b a) b (apx l a b) (by first | (first | assumption | exact w1.1 | exact w1.2 | exact w2.1 | exact w2.2) | fail) (by first | (first | assumption | exact w1.1 | exact w1.2 | exact w2.1 | exact w2.2) | fail) (by first | (first | assumption | exact w1.1 | exact w1.2 | exact w2.1 | exact w2.2) | fail) (by first | (first | assumption | exact w1.1 | exact w1.2 | exact w2.1 | exact w2.2) | fail) (by first | (first | assumption | exact w1.1 | exact w1.2 | exact w2.1 | exact w2.2) | fail) (by first | (first | assumption | exact w1.1 | exact w1.2 | exact w2.1 | exact w2.2) | fail) (by first | (first | assumption | exact w1.1 | exact w1.2 | exact w2.1 | exact w2.2) | fail) (by first | (first | assumption | exact w1.1 | exact w1.2 | exact w2.1 | exact w2.2) | fail)) ?_
          show mz_Wp shM none 133 (80, [some (.inr 30), some (.inl a), some (.inl b), some (.inl (apx l a b)), some (.inl (apx l b a))], [.inl (ar (gx v 1 ((apx l b a))) (gy v 1 ((apx l b a))) (gx v 1 (b)) (gy v 1 (b)) (gx v 1 ((apx l a b))) (gy v 1 ((apx l a b))))], σ) _
          refine wp_if (tgt := 87) hM rfl (by decide) (by omega) (fun c80 => ?_) (fun c80 => ?_)
          · replace c80 := cmp_le_t c80
            refine wp_go 1 hM (fr' := (88, [some (.inr 30), some (.inl a), some (.inl b), some (.inl (apx l a b)), some (.inl (apx l b a))], [.inl 0], σ)) rfl ?_
            refine wp_ret hM rfl (rfl) ?_
            first
              | (refine r_t ?_; unfold rtt flb; rw [if_neg (by intro q; rcases q with q | q; exact q hka; exact q hkb), if_neg (by intro q; rcases q with q | q; exact y1 q; exact y2 q), if_neg (by rw [if_neg (by omega), if_neg (by omega)]; omega)])
              | (refine r_f (fun z => ?_); have y := rtt0 z; have y5 := y.2.2.2.2.1; have y6 := y.2.2.2.2.2; unfold flb at y5 y6; split at y5 <;> split at y6 <;> omega)
          · replace c80 := cmp_le_f c80
            refine wp_go 2 hM (fr' := (88, [some (.inr 30), some (.inl a), some (.inl b), some (.inl (apx l a b)), some (.inl (apx l b a))], [.inl 1], σ)) rfl ?_
            refine wp_ret hM rfl (rfl) ?_
            first
              | (refine r_t ?_; unfold rtt flb; rw [if_neg (by intro q; rcases q with q | q; exact q hka; exact q hkb), if_neg (by intro q; rcases q with q | q; exact y1 q; exact y2 q), if_neg (by rw [if_neg (by omega), if_neg (by omega)]; omega)])
              | (refine r_f (fun z => ?_); have y := rtt0 z; have y5 := y.2.2.2.2.1; have y6 := y.2.2.2.2.2; unfold flb at y5 y6; split at y5 <;> split at y6 <;> omega)
  · replace c7 := cmp_eq_f c7
    refine wp_go 1 hM (fr' := (11, [some (.inr 30), some (.inl a), some (.inl b), none, none], [.inl 0], σ)) rfl ?_
    refine wp_ret hM rfl (rfl) ?_
    refine r_f (fun z => ?_)
    have y := rtt0 z
    rw [b01_t y.2.2.1, b01_t y.2.2.2.1] at hhl
    omega
