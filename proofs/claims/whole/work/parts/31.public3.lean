set_option maxRecDepth 100000 in
set_option maxHeartbeats 4000000 in
theorem sp_X5_size (v : mz_G) (l : List tr3) (σ : mz_G) (w : Int) (h : Int) (h0 : CS σ v l) (h1 : GO v l) (h2 : mz_R w) (h3 : mz_R h) : mz_Cl shA 64 [.inr 0, .inl w, .inl h] σ (fun r σ' => r = some (b01 (szo w h)) ∧ CS σ' (vSiz v w h) (lSiz l w h) ∧ Fk σ σ') := by
  have hM : mz_meth[64]? = some mtX5_size := rfl
  have hA0 := h0.1
  obtain ⟨hB, hSd, ⟨hP0, hP1⟩, ⟨hC0, hC1'⟩, hVr, hn30, hl2⟩ := id h1
  obtain ⟨hR, hT, hLen⟩ := id hB
  obtain ⟨⟨hW0, hW1⟩, ⟨hH0, hH1⟩, ⟨hn0, hn1⟩, hpt⟩ := id hR
  obtain ⟨⟨hc1, hc2, hc3, hc4⟩, hcp, hct, hcv⟩ := id hA0
  have hWH := WH_bd hR
  refine mz_Cl.of hM ?_
  show mz_Wp shA none 64 (0, [some (.inr 0), some (.inl w), some (.inl h)], [], σ) _
  refine wp_go 2 hM (fr' := (2, [some (.inr 0), some (.inl w), some (.inl h)], [.inl 2, .inl w], σ)) rfl ?_
  refine wp_ic (tgt := 22) hM rfl (by decide) (by omega) (by omega) (fun c2 => ?_) (fun c2 => ?_)
  · replace c2 := cmp_lt_t c2
    refine wp_go 1 hM (fr' := (23, [some (.inr 0), some (.inl w), some (.inl h)], [.inl 0], σ)) rfl ?_
    refine wp_ret hM rfl (rfl) ?_
    first | (exact ⟨by rw [b01_f (by unfold szo; omega)], by unfold vSiz lSiz; rw [if_neg (by unfold szo; omega), if_neg (by unfold szo; omega)]; exact h0, Fk.rf⟩) | fail
  · replace c2 := cmp_lt_f c2
    refine wp_go 2 hM (fr' := (8, [some (.inr 0), some (.inl w), some (.inl h)], [.inl 20, .inl w], σ)) rfl ?_
    refine wp_ic (tgt := 22) hM rfl (by decide) (by omega) (by omega) (fun c8 => ?_) (fun c8 => ?_)
    · replace c8 := cmp_gt_t c8
      refine wp_go 1 hM (fr' := (23, [some (.inr 0), some (.inl w), some (.inl h)], [.inl 0], σ)) rfl ?_
      refine wp_ret hM rfl (rfl) ?_
      first | (exact ⟨by rw [b01_f (by unfold szo; omega)], by unfold vSiz lSiz; rw [if_neg (by unfold szo; omega), if_neg (by unfold szo; omega)]; exact h0, Fk.rf⟩) | fail
    · replace c8 := cmp_gt_f c8
      refine wp_go 2 hM (fr' := (13, [some (.inr 0), some (.inl w), some (.inl h)], [.inl 2, .inl h], σ)) rfl ?_
      refine wp_ic (tgt := 22) hM rfl (by decide) (by omega) (by omega) (fun c13 => ?_) (fun c13 => ?_)
      · replace c13 := cmp_lt_t c13
        refine wp_go 1 hM (fr' := (23, [some (.inr 0), some (.inl w), some (.inl h)], [.inl 0], σ)) rfl ?_
        refine wp_ret hM rfl (rfl) ?_
        first | (exact ⟨by rw [b01_f (by unfold szo; omega)], by unfold vSiz lSiz; rw [if_neg (by unfold szo; omega), if_neg (by unfold szo; omega)]; exact h0, Fk.rf⟩) | fail
      · replace c13 := cmp_lt_f c13
        refine wp_go 2 hM (fr' := (19, [some (.inr 0), some (.inl w), some (.inl h)], [.inl 20, .inl h], σ)) rfl ?_
        refine wp_ic (tgt := 24) hM rfl (by decide) (by omega) (by omega) (fun c19 => ?_) (fun c19 => ?_)
        · replace c19 := cmp_le_t c19
          refine wp_go 4 hM (fr' := (30, [some (.inr 0), some (.inl w), some (.inl h)], [.inl h, .inl w, .inr 1], σ)) rfl ?_
          refine wp_call (v := 0) (idx := 43) (j := 7) (N := mtX1_begin) (as := [.inr 1, .inl w, .inl h]) (rest := []) hM rfl (Or.inl ⟨rfl, rfl⟩) rfl (sp_X1_begin  σ w h (by first | (first | assumption | omega) | fail) (by first | (first | assumption | omega) | fail) (by first | (first | assumption | omega) | fail) (by first | (first | assumption | omega) | fail)) ?_
          rintro r0 σ_30 ⟨rfl, hc_30, hf_30⟩
          show mz_Wp shA none 64 (33, [some (.inr 0), some (.inl w), some (.inl h)], [], σ_30) _
          refine wp_go 3 hM (fr' := (38, [some (.inr 0), some (.inl w), some (.inl h)], [.inl 0, .inr 4], σ_30)) rfl ?_
          refine wp_calld (v := 1) (idx := 51) (j := 182) (N := mtJ7_fill_53178) (as := [.inr 4, .inl 0]) (rest := []) hM rfl (Or.inr ⟨rfl, rfl⟩) rfl (sp_J7_fill_53178_4  σ_30 0 ) ?_
          show mz_Wp shA none 64 (41, [some (.inr 0), some (.inl w), some (.inl h)], [], (fil σ_30 4 400 (0))) _
          refine wp_go 4 hM (fr' := (47, [some (.inr 0), some (.inl w), some (.inl h)], [.inl 1], (mz_up (fil σ_30 4 400 (0)) 0 7 0))) rfl ?_
          refine wp_ret hM rfl (rfl) ?_
          have hz : szo w h := by unfold szo; omega
          refine ⟨by rw [b01_t hz], ?_, ?_⟩
          · unfold vSiz lSiz
            rw [if_pos hz, if_pos hz]
            obtain ⟨⟨a1, a2, a3, a4⟩, a5, a6, a7⟩ := hc_30
            refine ⟨⟨⟨?_, ?_, ?_, ?_⟩, fun k hk => ?_, fun t x hx => ?_, fun d hd => ?_⟩, Or.inl up_eq⟩
            · rw [up_ne (by decide)]; show (if _ then _ else _) = _; rw [if_neg (by omega)]; exact a1
            · rw [up_ne (by decide)]; show (if _ then _ else _) = _; rw [if_neg (by omega)]; exact a2
            · rw [up_ne (by decide)]; show (if _ then _ else _) = _; rw [if_neg (by omega)]; exact a3
            · rw [up_ne (by decide)]; show (if _ then _ else _) = _; rw [if_neg (by omega)]; exact a4
            · rw [up_ne (by decide), up_ne (by decide), up_ne (by decide), up_ne (by decide)]
              exact a5 k hk
            · rw [up_ne (by decide)]
              exact a6 t x hx
            · rw [up_ne (by decide)]
              have e1 : vbg w h (fun _ => 0) 0 0 = w := rfl
              have e2 : vbg w h (fun _ => 0) 0 1 = h := rfl
              rw [e1, e2] at hd
              have e3 : w * h ≤ 20 * 20 := Int.mul_le_mul (by omega) (by omega) (by omega) (by omega)
              show (if _ then _ else _) = _
              rw [if_pos ⟨rfl, by omega⟩]
              rfl
          · refine (Fk_Fn hf_30).tr (Fk.tr ?_ (Fk_up (by decide)))
            intro c i a
            show (if _ then _ else _) = _
            rw [if_neg (by omega)]
        · replace c19 := cmp_le_f c19
          refine wp_go 1 hM (fr' := (23, [some (.inr 0), some (.inl w), some (.inl h)], [.inl 0], σ)) rfl ?_
          refine wp_ret hM rfl (rfl) ?_
          first | (exact ⟨by rw [b01_f (by unfold szo; omega)], by unfold vSiz lSiz; rw [if_neg (by unfold szo; omega), if_neg (by unfold szo; omega)]; exact h0, Fk.rf⟩) | fail

set_option maxRecDepth 100000 in
set_option maxHeartbeats 4000000 in
theorem sp_X5_paint (v : mz_G) (l : List tr3) (σ : mz_G) (x : Int) (y : Int) (z : Int) (h0 : CS σ v l) (h1 : GO v l) (h2 : mz_R x) (h3 : mz_R y) (h4 : mz_R z) : mz_Cl shA 65 [.inr 0, .inl x, .inl y, .inl z] σ (fun r σ' => r = some (aPai v x y z) ∧ CS σ' (vPai v x y z) l ∧ Fk σ σ') := by
  have hM : mz_meth[65]? = some mtX5_paint := rfl
  have hA0 := h0.1
  obtain ⟨hB, hSd, ⟨hP0, hP1⟩, ⟨hC0, hC1'⟩, hVr, hn30, hl2⟩ := id h1
  obtain ⟨hR, hT, hLen⟩ := id hB
  obtain ⟨⟨hW0, hW1⟩, ⟨hH0, hH1⟩, ⟨hn0, hn1⟩, hpt⟩ := id hR
  obtain ⟨⟨hc1, hc2, hc3, hc4⟩, hcp, hct, hcv⟩ := id hA0
  have hWH := WH_bd hR
  refine mz_Cl.of hM ?_
  show mz_Wp shA none 65 (0, [some (.inr 0), some (.inl x), some (.inl y), some (.inl z), none, none], [], σ) _
  refine wp_go 4 hM (fr' := (6, [some (.inr 0), some (.inl x), some (.inl y), some (.inl z), none, none], [.inl y, .inl x, .inr 1], σ)) rfl ?_
  refine wp_calld (v := 0) (idx := 57) (j := 9) (N := mtX1_isDot) (as := [.inr 1, .inl x, .inl y]) (rest := []) hM rfl (Or.inl ⟨rfl, rfl⟩) rfl (sp_X1_isDot v l σ x y (by first | (first | assumption | omega) | fail) (by first | (first | assumption | omega) | fail) (by first | (first | assumption | omega) | fail) (by first | (first | assumption | omega) | fail)) ?_
  show mz_Wp shA none 65 (9, [some (.inr 0), some (.inl x), some (.inl y), some (.inl z), none, none], [.inl (b01 (dot v x y))], σ) _
  refine wp_if (tgt := 22) hM rfl (by decide) b01_R (fun c9 => ?_) (fun c9 => ?_)
  · replace c9 := b01_eq0 (cmp_eq_t c9)
    refine wp_go 1 hM (fr' := (23, [some (.inr 0), some (.inl x), some (.inl y), some (.inl z), none, none], [.inl (-1)], σ)) rfl ?_
    refine wp_ret hM rfl (rfl) ?_
    first | (exact ⟨by unfold aPai; rw [if_pos (by first | exact Or.inl c9 | exact Or.inr (by omega))], by unfold vPai; rw [if_pos (by first | exact Or.inl c9 | exact Or.inr (by omega))]; exact h0, Fk.rf⟩) | fail
  · replace c9 := b01_ne0 (cmp_eq_f c9)
    first | (have hdi := dn_in hR c9) | skip
    refine wp_go 1 hM (fr' := (13, [some (.inr 0), some (.inl x), some (.inl y), some (.inl z), none, none], [.inl z], σ)) rfl ?_
    refine wp_if (tgt := 22) hM rfl (by decide) (by omega) (fun c13 => ?_) (fun c13 => ?_)
    · replace c13 := cmp_lt_t c13
      refine wp_go 1 hM (fr' := (23, [some (.inr 0), some (.inl x), some (.inl y), some (.inl z), none, none], [.inl (-1)], σ)) rfl ?_
      refine wp_ret hM rfl (rfl) ?_
      first | (exact ⟨by unfold aPai; rw [if_pos (by first | exact Or.inl c9 | exact Or.inr (by omega))], by unfold vPai; rw [if_pos (by first | exact Or.inl c9 | exact Or.inr (by omega))]; exact h0, Fk.rf⟩) | fail
    · replace c13 := cmp_lt_f c13
      refine wp_go 2 hM (fr' := (19, [some (.inr 0), some (.inl x), some (.inl y), some (.inl z), none, none], [.inl 15, .inl z], σ)) rfl ?_
      refine wp_ic (tgt := 24) hM rfl (by decide) (by omega) (by omega) (fun c19 => ?_) (fun c19 => ?_)
      · replace c19 := cmp_le_t c19
        refine wp_go 4 hM (fr' := (30, [some (.inr 0), some (.inl x), some (.inl y), some (.inl z), none, none], [.inl y, .inl x, .inr 1], σ)) rfl ?_
        refine wp_calld (v := 0) (idx := 61) (j := 10) (N := mtX1_dotNumber) (as := [.inr 1, .inl x, .inl y]) (rest := []) hM rfl (Or.inl ⟨rfl, rfl⟩) rfl (sp_X1_dotNumber v l σ x y (by first | (first | assumption | omega) | fail) (by first | (first | assumption | omega) | fail)) ?_
        show mz_Wp shA none 65 (33, [some (.inr 0), some (.inl x), some (.inl y), some (.inl z), none, none], [.inl (y * v 0 0 + x)], σ) _
        refine wp_go 4 hM (fr' := (41, [some (.inr 0), some (.inl x), some (.inl y), some (.inl z), some (.inl (y * v 0 0 + x)), none], [.inl (y * v 0 0 + x), .inr 4], σ)) rfl ?_
        refine wp_al (n := 400) hM rfl (by decide) rfl (by omega) (by omega) ?_
        first | (rw [CA_val hA0 hdi.1 hdi.2.1]) | skip
        refine wp_go 5 hM (fr' := (51, [some (.inr 0), some (.inl x), some (.inl y), some (.inl z), some (.inl (y * v 0 0 + x)), some (.inl (v 6 (y * v 0 0 + x).toNat))], [.inl z, .inl (y * v 0 0 + x), .inr 4], σ)) rfl ?_
        refine wp_as (n := 400) hM rfl rfl (by omega) (by omega) ?_
        refine wp_go 1 hM (fr' := (54, [some (.inr 0), some (.inl x), some (.inl y), some (.inl z), some (.inl (y * v 0 0 + x)), some (.inl (v 6 (y * v 0 0 + x).toNat))], [.inl (v 6 (y * v 0 0 + x).toNat)], (mz_up σ 4 (y * v 0 0 + x).toNat z))) rfl ?_
        refine wp_ret hM rfl (rfl) ?_
        have hno : ¬ (¬ dot v x y ∨ z < 0 ∨ 15 < z) := by
          intro q
          rcases q with q | q
          · exact q c9
          · omega
        refine ⟨by unfold aPai; rw [if_neg hno], ?_, Fk_up (by decide)⟩
        unfold vPai
        rw [if_neg hno]
        refine ⟨CA_vpt hA0 (fun i _ => up_ne (by decide)) (up_ne (by decide)) (fun c hc i => up_ne (by omega)) (fun d a b => ?_), ?_⟩
        · by_cases q : d = y * v 0 0 + x
          · rw [if_pos q, q]; exact up_eq
          · rw [if_neg q, up_ni (by omega)]; exact CA_val hA0 a b
        · rcases h0.2 with q | q
          · exact Or.inl (by rw [up_ne (by decide)]; exact q)
          · exact Or.inr (CC_vpt (CC_ext q (up_ne (by decide)) (fun c hc i => up_ne (by omega))))
      · replace c19 := cmp_le_f c19
        refine wp_go 1 hM (fr' := (23, [some (.inr 0), some (.inl x), some (.inl y), some (.inl z), none, none], [.inl (-1)], σ)) rfl ?_
        refine wp_ret hM rfl (rfl) ?_
        first | (exact ⟨by unfold aPai; rw [if_pos (by first | exact Or.inl c9 | exact Or.inr (by omega))], by unfold vPai; rw [if_pos (by first | exact Or.inl c9 | exact Or.inr (by omega))]; exact h0, Fk.rf⟩) | fail

set_option maxRecDepth 100000 in
set_option maxHeartbeats 4000000 in
theorem sp_X1_dotNumber_w (w : Int) (σ : mz_G) (x : Int) (y : Int) (h0 : σ 1 8 = w) : mz_Cl shA 10 [.inr 1, .inl x, .inl y] σ (fun r σ' => r = some (y * w + x) ∧ σ' = σ) := by
  have hM : mz_meth[10]? = some mtX1_dotNumber := rfl
  refine mz_Cl.of hM ?_
  show mz_Wp shA none 10 (0, [some (.inr 1), some (.inl x), some (.inl y)], [], σ) _
  refine wp_go 6 hM (fr' := (8, [some (.inr 1), some (.inl x), some (.inl y)], [.inl ((y * (σ 1 8)) + x)], σ)) rfl ?_
  refine wp_ret hM rfl (rfl) ?_
  first | (exact ⟨by rw [h0], rfl⟩) | fail

set_option maxRecDepth 100000 in
set_option maxHeartbeats 4000000 in
theorem sp_X5_weave (v : mz_G) (l : List tr3) (σ : mz_G) (s : Int) (h0 : CS σ v l) (h1 : GO v l) (h2 : mz_R s) (h3 : GO (vWea v s) l) : mz_Cl shA 66 [.inr 0, .inl s] σ (fun r σ' => r = some (vsum (vWea v s)) ∧ CS σ' (vWea v s) l ∧ Fk σ σ') := by
  have hM : mz_meth[66]? = some mtX5_weave := rfl
  have hA0 := h0.1
  obtain ⟨hB, hSd, ⟨hP0, hP1⟩, ⟨hC0, hC1'⟩, hVr, hn30, hl2⟩ := id h1
  obtain ⟨hR, hT, hLen⟩ := id hB
  obtain ⟨⟨hW0, hW1⟩, ⟨hH0, hH1⟩, ⟨hn0, hn1⟩, hpt⟩ := id hR
  obtain ⟨⟨hc1, hc2, hc3, hc4⟩, hcp, hct, hcv⟩ := id hA0
  have hWH := WH_bd hR
  refine mz_Cl.of hM ?_
  show mz_Wp shA none 66 (0, [some (.inr 0), some (.inl s), none, none], [], σ) _
  refine wp_go 2 hM (fr' := (2, [some (.inr 0), some (.inl s), some (.inl 0), none], [], σ)) rfl ?_
  have loop2 : ∀ (fuel : Nat) (y : Int) (σ1 : mz_G) (d2_3 : Option mz_V), (0 ≤ y) → (y ≤ v 0 1) → (WV σ σ1 v (fun d => (7 * (d % v 0 0) + 13 * (d / v 0 0) + d % v 0 0 * (d / v 0 0) + s) % 16) (y * v 0 0)) → ((v 0 1 - y : Int) < fuel) → mz_Wp shA none 66 (2, [some (.inr 0), some (.inl s), some (.inl y), d2_3], [], σ1) (fun r σ' => r = some (vsum (vWea v s)) ∧ CS σ' (vWea v s) l ∧ Fk σ σ') := by
    intro fuel
    induction fuel with
    | zero =>
      intro y σ1 d2_3 hv2_0 hv2_1 hv2_2 hf2
      exfalso
      omega
    | succ fuel ih2 =>
      intro y σ1 d2_3 hv2_0 hv2_1 hv2_2 hf2
      have hrd := WV_rd hA0 hv2_2
      refine wp_go 4 hM (fr' := (10, [some (.inr 0), some (.inl s), some (.inl y), d2_3], [.inl (σ1 1 9), .inl y], σ1)) rfl ?_
      refine wp_ic (tgt := 72) hM rfl (by decide) (by omega) (by omega) (fun c10 => ?_) (fun c10 => ?_)
      · replace c10 := cmp_ge_t c10
        first | (have hyE : y = v 0 1 := by omega) | skip
        first | (rw [hyE, Int.mul_comm] at hv2_2) | skip
        first | (have hA9 : CA σ1 (vWea v s) l := WV_CA hA0 hv2_2 rfl) | skip
        refine wp_go 1 hM (fr' := (73, [some (.inr 0), some (.inl s), some (.inl y), d2_3], [.inr 0], σ1)) rfl ?_
        refine wp_calld (v := 0) (idx := 77) (j := 95) (N := mtX5_sumOfValues) (as := [.inr 0]) (rest := []) hM rfl (Or.inl ⟨rfl, rfl⟩) rfl (sp_X5_sumOfValues (vWea v s) l σ1  (by first | (first | assumption | omega) | fail) (by first | (first | assumption | omega) | fail)) ?_
        show mz_Wp shA none 66 (76, [some (.inr 0), some (.inl s), some (.inl y), d2_3], [.inl (vsum (vWea v s))], σ1) _
        refine wp_ret hM rfl (rfl) ?_
        refine ⟨rfl, ⟨hA9, ?_⟩, fun c i a => hv2_2.2.2 c i (by omega)⟩
        rcases h0.2 with q | q
        · exact Or.inl (by rw [hv2_2.2.2 0 7 (by decide)]; exact q)
        · exact Or.inr (CC_vpt (WV_CC q hv2_2))
      · replace c10 := cmp_ge_f c10
        refine wp_go 2 hM (fr' := (15, [some (.inr 0), some (.inl s), some (.inl y), some (.inl 0)], [], σ1)) rfl ?_
        have loop15 : ∀ (fuel : Nat) (x : Int) (σ2 : mz_G), (0 ≤ x) → (x ≤ v 0 0) → (WV σ σ2 v (fun d => (7 * (d % v 0 0) + 13 * (d / v 0 0) + d % v 0 0 * (d / v 0 0) + s) % 16) (y * v 0 0 + x)) → ((v 0 0 - x : Int) < fuel) → mz_Wp shA none 66 (15, [some (.inr 0), some (.inl s), some (.inl y), some (.inl x)], [], σ2) (fun r σ' => r = some (vsum (vWea v s)) ∧ CS σ' (vWea v s) l ∧ Fk σ σ') := by
          intro fuel
          induction fuel with
          | zero =>
            intro x σ2 hv15_0 hv15_1 hv15_2 hf15
            exfalso
            omega
          | succ fuel ih15 =>
            intro x σ2 hv15_0 hv15_1 hv15_2 hf15
            have hrd2 := WV_rd hA0 hv15_2
            have hw2 := hrd2.1
            refine wp_go 4 hM (fr' := (23, [some (.inr 0), some (.inl s), some (.inl y), some (.inl x)], [.inl (σ2 1 8), .inl x], σ2)) rfl ?_
            refine wp_ic (tgt := 66) hM rfl (by decide) (by omega) (by omega) (fun c23 => ?_) (fun c23 => ?_)
            · replace c23 := cmp_ge_t c23
              refine wp_go 2 hM (fr' := (2, [some (.inr 0), some (.inl s), some (.inl (y + 1)), some (.inl x)], [], σ2)) rfl ?_
              exact ih2 (y + 1) σ2 (some (.inl x)) (by omega) (by omega) (by first | (rw [show (y + 1) * v 0 0 = y * v 0 0 + x from by rw [Int.add_mul, Int.one_mul]; omega]; exact hv15_2) | fail) (by omega)
            · replace c23 := cmp_ge_f c23
              first | (have hd : dot v x y := ⟨hv15_0, by omega, hv2_0, by omega⟩) | skip
              first | (have hdi := dn_in hR hd) | skip
              first | (have hmv := dvm hR hd) | skip
              refine wp_go 6 hM (fr' := (36, [some (.inr 0), some (.inl s), some (.inl y), some (.inl x)], [.inl y, .inl x, .inr 1, .inr 4], σ2)) rfl ?_
              refine wp_calld (v := 0) (idx := 61) (j := 10) (N := mtX1_dotNumber) (as := [.inr 1, .inl x, .inl y]) (rest := [.inr 4]) hM rfl (Or.inl ⟨rfl, rfl⟩) rfl (sp_X1_dotNumber_w (v 0 0) σ2 x y (by first | (first | assumption | omega) | fail)) ?_
              show mz_Wp shA none 66 (39, [some (.inr 0), some (.inl s), some (.inl y), some (.inl x)], [.inl (y * (v 0 0) + x), .inr 4], σ2) _
              refine wp_go 14 hM (fr' := (56, [some (.inr 0), some (.inl s), some (.inl y), some (.inl x)], [.inl 16, .inl ((((7 * x) + (13 * y)) + (x * y)) + s), .inl (y * (v 0 0) + x), .inr 4], σ2)) rfl ?_
              refine wp_calld (v := 1) (idx := 72) (j := 179) (N := mtJ9_floorMod_7cf53) (as := [.inl ((((7 * x) + (13 * y)) + (x * y)) + s), .inl 16]) (rest := [.inl (y * (v 0 0) + x), .inr 4]) hM rfl (Or.inr ⟨rfl, rfl⟩) rfl (sp_J9_floorMod_7cf53  σ2 ((((7 * x) + (13 * y)) + (x * y)) + s) 16 (by rfl)) ?_
              show mz_Wp shA none 66 (59, [some (.inr 0), some (.inl s), some (.inl y), some (.inl x)], [.inl (((((7 * x) + (13 * y)) + (x * y)) + s) % 16), .inl (y * (v 0 0) + x), .inr 4], σ2) _
              refine wp_as (n := 400) hM rfl rfl (by omega) (by omega) ?_
              refine wp_go 2 hM (fr' := (15, [some (.inr 0), some (.inl s), some (.inl y), some (.inl (x + 1))], [], (mz_up σ2 4 (y * (v 0 0) + x).toNat (((((7 * x) + (13 * y)) + (x * y)) + s) % 16)))) rfl ?_
              exact ih15 (x + 1) (mz_up σ2 4 (y * (v 0 0) + x).toNat (((((7 * x) + (13 * y)) + (x * y)) + s) % 16)) (by omega) (by omega) (by first | (rw [← Int.add_assoc]; exact WV_s hv15_2 hdi.1 (by show _ = (7 * ((y * v 0 0 + x) % v 0 0) + 13 * ((y * v 0 0 + x) / v 0 0) + (y * v 0 0 + x) % v 0 0 * ((y * v 0 0 + x) / v 0 0) + s) % 16; rw [hmv.1, hmv.2])) | fail) (by omega)
        exact loop15 22 0 σ1 (by omega) (by omega) (by first | (rw [Int.add_zero]; exact hv2_2) | fail) (by omega)
  exact loop2 22 0 σ (none) (by omega) (by omega) (by first | (rw [Int.zero_mul]; exact WV_0) | fail) (by omega)

set_option maxRecDepth 100000 in
set_option maxHeartbeats 4000000 in
theorem sp_X5_insert (v : mz_G) (l : List tr3) (σ : mz_G) (a : Int) (b : Int) (x : Int) (y : Int) (h0 : CS σ v l) (h1 : GO v l) (h2 : mz_R a) (h3 : mz_R b) (h4 : mz_R x) (h5 : mz_R y) (h6 : dot v a b → ¬ ish v a b → ((lhOf v l a b).length : Int) ≤ 60 ∧ ((l.filter (fun z => !decide (hol v 0 z a b))).length : Int) + ((lhOf v l a b).length : Int) ≤ 60) : mz_Cl shA 68 [.inr 0, .inl a, .inl b, .inl x, .inl y] σ (fun r σ' => r = some (aIns v l a b x y) ∧ CS σ' (vIns v l a b x y) (lIns v l a b x y) ∧ Fk σ σ') := by
  have hM : mz_meth[68]? = some mtX5_insert := rfl
  have hA0 := h0.1
  obtain ⟨hB, hSd, ⟨hP0, hP1⟩, ⟨hC0, hC1'⟩, hVr, hn30, hl2⟩ := id h1
  obtain ⟨hR, hT, hLen⟩ := id hB
  obtain ⟨⟨hW0, hW1⟩, ⟨hH0, hH1⟩, ⟨hn0, hn1⟩, hpt⟩ := id hR
  obtain ⟨⟨hc1, hc2, hc3, hc4⟩, hcp, hct, hcv⟩ := id hA0
  have hWH := WH_bd hR
  refine mz_Cl.of hM ?_
  show mz_Wp shA none 68 (0, [some (.inr 0), some (.inl a), some (.inl b), some (.inl x), some (.inl y), none], [], σ) _
  refine wp_go 6 hM (fr' := (9, [some (.inr 0), some (.inl a), some (.inl b), some (.inl x), some (.inl y), none], [.inl y, .inl x, .inl b, .inl a, .inr 1], σ)) rfl ?_
  refine wp_call (v := 0) (idx := 84) (j := 24) (N := mtX1_reasonToInsert) (as := [.inr 1, .inl a, .inl b, .inl x, .inl y]) (rest := []) hM rfl (Or.inl ⟨rfl, rfl⟩) rfl (sp_X1_reasonToInsert v l σ a b x y (by first | (first | assumption | (exact fun p q => (h6 p q).1) | omega) | fail) (by first | (first | assumption | (exact fun p q => (h6 p q).1) | omega) | fail) (by first | (first | assumption | (exact fun p q => (h6 p q).1) | omega) | fail) (by first | (first | assumption | (exact fun p q => (h6 p q).1) | omega) | fail) (by first | (first | assumption | (exact fun p q => (h6 p q).1) | omega) | fail) (by first | (first | assumption | (exact fun p q => (h6 p q).1) | omega) | fail) (by first | (first | assumption | (exact fun p q => (h6 p q).1) | omega) | fail)) ?_
  rintro r0 σ_9 ⟨rfl, hf_9⟩
  show mz_Wp shA none 68 (12, [some (.inr 0), some (.inl a), some (.inl b), some (.inl x), some (.inl y), none], [.inl (rti v l a b x y)], σ_9) _
  first | (have hA9 := CA_Fl hA0 hf_9) | skip
  first | (have hrb := rti_bd (v := v) (l := l) (a := a) (b := b) (x := x) (y := y)) | skip
  refine wp_go 2 hM (fr' := (16, [some (.inr 0), some (.inl a), some (.inl b), some (.inl x), some (.inl y), some (.inl (rti v l a b x y))], [.inl (rti v l a b x y)], σ_9)) rfl ?_
  refine wp_if (tgt := 23) hM rfl (by decide) (by omega) (fun c16 => ?_) (fun c16 => ?_)
  · replace c16 := cmp_eq_t c16
    first | (have hz := rti0 c16) | skip
    first | (have hlh := h6 hz.1 hz.2.2.1) | skip
    first | (have hA10 : CA (mz_up σ_9 0 7 0) v l := CA_up hA9 0 7 0 (by omega)) | skip
    refine wp_go 9 hM (fr' := (37, [some (.inr 0), some (.inl a), some (.inl b), some (.inl x), some (.inl y), some (.inl (rti v l a b x y))], [.inl y, .inl x, .inl b, .inl a, .inr 1], (mz_up σ_9 0 7 0))) rfl ?_
    refine wp_call (v := 0) (idx := 88) (j := 27) (N := mtX1_putKnot) (as := [.inr 1, .inl a, .inl b, .inl x, .inl y]) (rest := []) hM rfl (Or.inl ⟨rfl, rfl⟩) rfl (sp_X1_putKnot v l (mz_up σ_9 0 7 0) a b x y (by first | (first | assumption | exact hz.1 | exact hlh.1 | exact hlh.2 | omega) | fail) (by first | (first | assumption | exact hz.1 | exact hlh.1 | exact hlh.2 | omega) | fail) (by first | (first | assumption | exact hz.1 | exact hlh.1 | exact hlh.2 | omega) | fail) (by first | (first | assumption | exact hz.1 | exact hlh.1 | exact hlh.2 | omega) | fail) (by first | (first | assumption | exact hz.1 | exact hlh.1 | exact hlh.2 | omega) | fail) (by first | (first | assumption | exact hz.1 | exact hlh.1 | exact hlh.2 | omega) | fail) (by first | (first | assumption | exact hz.1 | exact hlh.1 | exact hlh.2 | omega) | fail)) ?_
    rintro r0 σ_37 ⟨rfl, hc_37, hf_37⟩
    show mz_Wp shA none 68 (40, [some (.inr 0), some (.inl a), some (.inl b), some (.inl x), some (.inl y), some (.inl (rti v l a b x y))], [.inl (v 0 2)], σ_37) _
    refine wp_ret hM rfl (rfl) ?_
    first | (exact ⟨by unfold aIns; rw [if_pos c16], by unfold vIns lIns; rw [if_pos c16, if_pos c16]; exact ⟨hc_37, Or.inl (by rw [hf_37 0 7 (by omega)]; exact up_eq)⟩, ((Fk_Fl hf_9).tr (Fk_up (by decide))).tr (Fk_Fn hf_37)⟩) | fail
  · replace c16 := cmp_eq_f c16
    refine wp_go 2 hM (fr' := (22, [some (.inr 0), some (.inl a), some (.inl b), some (.inl x), some (.inl y), some (.inl (rti v l a b x y))], [.inl (-(rti v l a b x y))], σ_9)) rfl ?_
    refine wp_ret hM rfl (rfl) ?_
    first | (exact ⟨by unfold aIns; rw [if_neg c16], by unfold vIns lIns; rw [if_neg c16, if_neg c16]; exact CS_Fl h0 hf_9, Fk_Fl hf_9⟩) | fail

set_option maxRecDepth 100000 in
set_option maxHeartbeats 4000000 in
theorem sp_X5_move (v : mz_G) (l : List tr3) (σ : mz_G) (k : Int) (x : Int) (y : Int) (h0 : CS σ v l) (h1 : GO v l) (h2 : mz_R k) (h3 : mz_R x) (h4 : mz_R y) : mz_Cl shA 69 [.inr 0, .inl k, .inl x, .inl y] σ (fun r σ' => r = some (rtm v l k x y) ∧ CS σ' (vMov v l k x y) l ∧ Fk σ σ') := by
  have hM : mz_meth[69]? = some mtX5_move := rfl
  have hA0 := h0.1
  obtain ⟨hB, hSd, ⟨hP0, hP1⟩, ⟨hC0, hC1'⟩, hVr, hn30, hl2⟩ := id h1
  obtain ⟨hR, hT, hLen⟩ := id hB
  obtain ⟨⟨hW0, hW1⟩, ⟨hH0, hH1⟩, ⟨hn0, hn1⟩, hpt⟩ := id hR
  obtain ⟨⟨hc1, hc2, hc3, hc4⟩, hcp, hct, hcv⟩ := id hA0
  have hWH := WH_bd hR
  refine mz_Cl.of hM ?_
  show mz_Wp shA none 69 (0, [some (.inr 0), some (.inl k), some (.inl x), some (.inl y), none], [], σ) _
  refine wp_go 5 hM (fr' := (7, [some (.inr 0), some (.inl k), some (.inl x), some (.inl y), none], [.inl y, .inl x, .inl k, .inr 1], σ)) rfl ?_
  refine wp_call (v := 0) (idx := 91) (j := 32) (N := mtX1_reasonToMove) (as := [.inr 1, .inl k, .inl x, .inl y]) (rest := []) hM rfl (Or.inl ⟨rfl, rfl⟩) rfl (sp_X1_reasonToMove v l σ k x y (by first | (first | assumption | omega) | fail) (by first | (first | assumption | omega) | fail) (by first | (first | assumption | omega) | fail) (by first | (first | assumption | omega) | fail) (by first | (first | assumption | omega) | fail)) ?_
  rintro r0 σ_7 ⟨rfl, hf_7⟩
  show mz_Wp shA none 69 (10, [some (.inr 0), some (.inl k), some (.inl x), some (.inl y), none], [.inl (rtm v l k x y)], σ_7) _
  first | (have hA7 := CA_Fl hA0 hf_7) | skip
  first | (have hrb := rtm_bd (v := v) (l := l) (k := k) (x := x) (y := y)) | skip
  refine wp_go 2 hM (fr' := (14, [some (.inr 0), some (.inl k), some (.inl x), some (.inl y), some (.inl (rtm v l k x y))], [.inl (rtm v l k x y)], σ_7)) rfl ?_
  refine wp_if (tgt := 35) hM rfl (by decide) (by omega) (fun c14 => ?_) (fun c14 => ?_)
  · replace c14 := cmp_ne_t c14
    refine wp_go 1 hM (fr' := (37, [some (.inr 0), some (.inl k), some (.inl x), some (.inl y), some (.inl (rtm v l k x y))], [.inl (rtm v l k x y)], σ_7)) rfl ?_
    refine wp_ret hM rfl (rfl) ?_
    first
      | exact ⟨rfl, by unfold vMov; rw [if_neg c14]; exact CS_Fl h0 hf_7, Fk_Fl hf_7⟩
      | refine ⟨rfl, ?_, ((Fk_Fl hf_7).tr ((Fk_up (by decide)).tr (Fk_up (by decide)))).tr (Fk_up (by decide))⟩
        unfold vMov
        rw [if_pos c14]
        have ej : ∀ j : Nat, j = k.toNat ↔ (j : Int) = k := fun j => by omega
        refine ⟨CA_mv hA7 hzk.1 (fun j => by simp [mz_up, ej]) (fun j => by simp [mz_up, ej]) (fun c i a1 a2 a3 => ?_), Or.inl up_eq⟩
        show (if _ then _ else _) = _
        rw [if_neg a3, up_ne a2, up_ne a1]
  · replace c14 := cmp_ne_f c14
    first | (have hz := rtm0 c14) | skip
    first | (have hzk := hz.1) | skip
    first | (unfold isk at hzk) | skip
    refine wp_go 6 hM (fr' := (27, [some (.inr 0), some (.inl k), some (.inl x), some (.inl y), some (.inl (rtm v l k x y))], [.inl y, .inl x, .inl k, .inr 9], σ_7)) rfl ?_
    refine wp_calld (v := 0) (idx := 99) (j := 42) (N := mtX2_put) (as := [.inr 9, .inl k, .inl x, .inl y]) (rest := []) hM rfl (Or.inl ⟨rfl, rfl⟩) rfl (sp_X2_put_9  σ_7 k x y (by first | (first | assumption | omega) | fail) (by first | (first | assumption | omega) | fail)) ?_
    show mz_Wp shA none 69 (30, [some (.inr 0), some (.inl k), some (.inl x), some (.inl y), some (.inl (rtm v l k x y))], [], (mz_up (mz_up σ_7 18 (k).toNat x) 19 (k).toNat y)) _
    refine wp_go 4 hM (fr' := (37, [some (.inr 0), some (.inl k), some (.inl x), some (.inl y), some (.inl (rtm v l k x y))], [.inl (rtm v l k x y)], (mz_up (mz_up (mz_up σ_7 18 (k).toNat x) 19 (k).toNat y) 0 7 0))) rfl ?_
    refine wp_ret hM rfl (rfl) ?_
    first
      | exact ⟨rfl, by unfold vMov; rw [if_neg c14]; exact CS_Fl h0 hf_7, Fk_Fl hf_7⟩
      | refine ⟨rfl, ?_, ((Fk_Fl hf_7).tr ((Fk_up (by decide)).tr (Fk_up (by decide)))).tr (Fk_up (by decide))⟩
        unfold vMov
        rw [if_pos c14]
        have ej : ∀ j : Nat, j = k.toNat ↔ (j : Int) = k := fun j => by omega
        refine ⟨CA_mv hA7 hzk.1 (fun j => by simp [mz_up, ej]) (fun j => by simp [mz_up, ej]) (fun c i a1 a2 a3 => ?_), Or.inl up_eq⟩
        show (if _ then _ else _) = _
        rw [if_neg a3, up_ne a2, up_ne a1]

set_option maxRecDepth 100000 in
set_option maxHeartbeats 4000000 in
theorem sp_X5_turn (v : mz_G) (l : List tr3) (σ : mz_G) (a : Int) (b : Int) (h0 : CS σ v l) (h1 : GO v l) (h2 : mz_R a) (h3 : mz_R b) (h4 : rtt v l a b = 0 → ((l.filter (fun z => !decide (hasK z a ∧ hasK z b))).length : Int) ≤ 58) : mz_Cl shA 70 [.inr 0, .inl a, .inl b] σ (fun r σ' => r = some (rtt v l a b) ∧ CS σ' v (lTur v l a b) ∧ Fk σ σ') := by
  have hM : mz_meth[70]? = some mtX5_turn := rfl
  have hA0 := h0.1
  obtain ⟨hB, hSd, ⟨hP0, hP1⟩, ⟨hC0, hC1'⟩, hVr, hn30, hl2⟩ := id h1
  obtain ⟨hR, hT, hLen⟩ := id hB
  obtain ⟨⟨hW0, hW1⟩, ⟨hH0, hH1⟩, ⟨hn0, hn1⟩, hpt⟩ := id hR
  obtain ⟨⟨hc1, hc2, hc3, hc4⟩, hcp, hct, hcv⟩ := id hA0
  have hWH := WH_bd hR
  refine mz_Cl.of hM ?_
  show mz_Wp shA none 70 (0, [some (.inr 0), some (.inl a), some (.inl b), none], [], σ) _
  refine wp_go 4 hM (fr' := (6, [some (.inr 0), some (.inl a), some (.inl b), none], [.inl b, .inl a, .inr 1], σ)) rfl ?_
  refine wp_calld (v := 0) (idx := 105) (j := 36) (N := mtX1_reasonToTurn) (as := [.inr 1, .inl a, .inl b]) (rest := []) hM rfl (Or.inl ⟨rfl, rfl⟩) rfl (sp_X1_reasonToTurn v l σ a b (by first | (first | assumption | omega) | fail) (by first | (first | assumption | omega) | fail) (by first | (first | assumption | omega) | fail) (by first | (first | assumption | omega) | fail)) ?_
  show mz_Wp shA none 70 (9, [some (.inr 0), some (.inl a), some (.inl b), none], [.inl (rtt v l a b)], σ) _
  first | (have hrb := rtt_bd (v := v) (l := l) (a := a) (b := b)) | skip
  refine wp_go 2 hM (fr' := (11, [some (.inr 0), some (.inl a), some (.inl b), some (.inl (rtt v l a b))], [.inl (rtt v l a b)], σ)) rfl ?_
  refine wp_if (tgt := 28) hM rfl (by decide) (by omega) (fun c11 => ?_) (fun c11 => ?_)
  · replace c11 := cmp_ne_t c11
    refine wp_go 1 hM (fr' := (29, [some (.inr 0), some (.inl a), some (.inl b), some (.inl (rtt v l a b))], [.inl (rtt v l a b)], σ)) rfl ?_
    refine wp_ret hM rfl (rfl) ?_
    first
      | exact ⟨rfl, by unfold lTur; rw [if_neg c11]; exact h0, Fk.rf⟩
      | exact ⟨rfl, by unfold lTur; rw [if_pos c11]; exact ⟨CA_up hc_20 0 7 0 (by omega), Or.inl up_eq⟩, (Fk_Ft hf_20).tr (Fk_up (by decide))⟩
  · replace c11 := cmp_ne_f c11
    first | (have hz := rtt0 c11) | skip
    first | (have hz1 := hz.1) | skip
    first | (have hz2 := hz.2.1) | skip
    first | (have hz3 := hz.2.2.1) | skip
    first | (have hz4 := hz.2.2.2.1) | skip
    first | (unfold isk at hz1 hz2) | skip
    first | (have hfl := h4 c11) | skip
    refine wp_go 4 hM (fr' := (20, [some (.inr 0), some (.inl a), some (.inl b), some (.inl (rtt v l a b))], [.inl b, .inl a, .inr 1], σ)) rfl ?_
    refine wp_call (v := 0) (idx := 108) (j := 38) (N := mtX1_turnEdge) (as := [.inr 1, .inl a, .inl b]) (rest := []) hM rfl (Or.inl ⟨rfl, rfl⟩) rfl (sp_X1_turnEdge v l σ a b (by first | (first | assumption | exact hz1.1 | exact hz1.2 | exact hz2.1 | exact hz2.2 | omega) | fail) (by first | (first | assumption | exact hz1.1 | exact hz1.2 | exact hz2.1 | exact hz2.2 | omega) | fail) (by first | (first | assumption | exact hz1.1 | exact hz1.2 | exact hz2.1 | exact hz2.2 | omega) | fail) (by first | (first | assumption | exact hz1.1 | exact hz1.2 | exact hz2.1 | exact hz2.2 | omega) | fail) (by first | (first | assumption | exact hz1.1 | exact hz1.2 | exact hz2.1 | exact hz2.2 | omega) | fail) (by first | (first | assumption | exact hz1.1 | exact hz1.2 | exact hz2.1 | exact hz2.2 | omega) | fail) (by first | (first | assumption | exact hz1.1 | exact hz1.2 | exact hz2.1 | exact hz2.2 | omega) | fail) (by first | (first | assumption | exact hz1.1 | exact hz1.2 | exact hz2.1 | exact hz2.2 | omega) | fail) (by first | (first | assumption | exact hz1.1 | exact hz1.2 | exact hz2.1 | exact hz2.2 | omega) | fail) (by first | (first | assumption | exact hz1.1 | exact hz1.2 | exact hz2.1 | exact hz2.2 | omega) | fail)) ?_
    rintro r0 σ_20 ⟨rfl, hc_20, hf_20⟩
    show mz_Wp shA none 70 (23, [some (.inr 0), some (.inl a), some (.inl b), some (.inl (rtt v l a b))], [], σ_20) _
    refine wp_go 4 hM (fr' := (29, [some (.inr 0), some (.inl a), some (.inl b), some (.inl (rtt v l a b))], [.inl (rtt v l a b)], (mz_up σ_20 0 7 0))) rfl ?_
    refine wp_ret hM rfl (rfl) ?_
    first
      | exact ⟨rfl, by unfold lTur; rw [if_neg c11]; exact h0, Fk.rf⟩
      | exact ⟨rfl, by unfold lTur; rw [if_pos c11]; exact ⟨CA_up hc_20 0 7 0 (by omega), Or.inl up_eq⟩, (Fk_Ft hf_20).tr (Fk_up (by decide))⟩

set_option maxRecDepth 100000 in
set_option maxHeartbeats 4000000 in
theorem sp_X5_out (v : mz_G) (l : List tr3) (σ : mz_G) (k : Int) (h0 : CS σ v l) (h1 : GO v l) (h2 : mz_R k) : mz_Cl shA 71 [.inr 0, .inl k] σ (fun r σ' => r = some (rto v l k) ∧ CS σ' (vOut v l k) (lOut v l k) ∧ Fk σ σ') := by
  have hM : mz_meth[71]? = some mtX5_out := rfl
  have hA0 := h0.1
  obtain ⟨hB, hSd, ⟨hP0, hP1⟩, ⟨hC0, hC1'⟩, hVr, hn30, hl2⟩ := id h1
  obtain ⟨hR, hT, hLen⟩ := id hB
  obtain ⟨⟨hW0, hW1⟩, ⟨hH0, hH1⟩, ⟨hn0, hn1⟩, hpt⟩ := id hR
  obtain ⟨⟨hc1, hc2, hc3, hc4⟩, hcp, hct, hcv⟩ := id hA0
  have hWH := WH_bd hR
  refine mz_Cl.of hM ?_
  show mz_Wp shA none 71 (0, [some (.inr 0), some (.inl k), none], [], σ) _
  refine wp_go 3 hM (fr' := (5, [some (.inr 0), some (.inl k), none], [.inl k, .inr 1], σ)) rfl ?_
  refine wp_calld (v := 0) (idx := 111) (j := 39) (N := mtX1_reasonToTakeOut) (as := [.inr 1, .inl k]) (rest := []) hM rfl (Or.inl ⟨rfl, rfl⟩) rfl (sp_X1_reasonToTakeOut v l σ k (by first | (first | assumption | omega) | fail) (by first | (first | assumption | omega) | fail) (by first | (first | assumption | omega) | fail)) ?_
  show mz_Wp shA none 71 (8, [some (.inr 0), some (.inl k), none], [.inl (rto v l k)], σ) _
  first | (have hrb := rto_bd (v := v) (l := l) (k := k)) | skip
  refine wp_go 2 hM (fr' := (10, [some (.inr 0), some (.inl k), some (.inl (rto v l k))], [.inl (rto v l k)], σ)) rfl ?_
  refine wp_if (tgt := 26) hM rfl (by decide) (by omega) (fun c10 => ?_) (fun c10 => ?_)
  · replace c10 := cmp_ne_t c10
    refine wp_go 1 hM (fr' := (27, [some (.inr 0), some (.inl k), some (.inl (rto v l k))], [.inl (rto v l k)], σ)) rfl ?_
    refine wp_ret hM rfl (rfl) ?_
    first
      | exact ⟨rfl, by unfold vOut lOut; rw [if_neg c10, if_neg c10]; exact h0, Fk.rf⟩
      | exact ⟨rfl, by unfold vOut lOut; rw [if_pos c10, if_pos c10]; exact ⟨CA_up hc_18 0 7 0 (by omega), Or.inl up_eq⟩, (Fk_Fn hf_18).tr (Fk_up (by decide))⟩
  · replace c10 := cmp_ne_f c10
    first | (have hz := rto0 c10) | skip
    first | (have hz1 := hz.1) | skip
    first | (unfold isk at hz1) | skip
    refine wp_go 3 hM (fr' := (18, [some (.inr 0), some (.inl k), some (.inl (rto v l k))], [.inl k, .inr 1], σ)) rfl ?_
    refine wp_call (v := 0) (idx := 115) (j := 40) (N := mtX1_takeOut) (as := [.inr 1, .inl k]) (rest := []) hM rfl (Or.inl ⟨rfl, rfl⟩) rfl (sp_X1_takeOut v l σ k (by first | (first | assumption | exact hz1.1 | exact hz1.2 | omega) | fail) (by first | (first | assumption | exact hz1.1 | exact hz1.2 | omega) | fail) (by first | (first | assumption | exact hz1.1 | exact hz1.2 | omega) | fail) (by first | (first | assumption | exact hz1.1 | exact hz1.2 | omega) | fail) (by first | (first | assumption | exact hz1.1 | exact hz1.2 | omega) | fail) (by first | (first | assumption | exact hz1.1 | exact hz1.2 | omega) | fail)) ?_
    rintro r0 σ_18 ⟨rfl, hc_18, hf_18⟩
    show mz_Wp shA none 71 (21, [some (.inr 0), some (.inl k), some (.inl (rto v l k))], [], σ_18) _
    refine wp_go 4 hM (fr' := (27, [some (.inr 0), some (.inl k), some (.inl (rto v l k))], [.inl (rto v l k)], (mz_up σ_18 0 7 0))) rfl ?_
    refine wp_ret hM rfl (rfl) ?_
    first
      | exact ⟨rfl, by unfold vOut lOut; rw [if_neg c10, if_neg c10]; exact h0, Fk.rf⟩
      | exact ⟨rfl, by unfold vOut lOut; rw [if_pos c10, if_pos c10]; exact ⟨CA_up hc_18 0 7 0 (by omega), Or.inl up_eq⟩, (Fk_Fn hf_18).tr (Fk_up (by decide))⟩

set_option maxRecDepth 100000 in
set_option maxHeartbeats 4000000 in
theorem sp_X5_straight (v : mz_G) (l : List tr3) (σ : mz_G)  (h0 : CS σ v l) (h1 : GO v l) : mz_Cl shA 72 [.inr 0] σ (fun r σ' => r = some (bkn v) ∧ CS σ' (vst v) l ∧ Fk σ σ') := by
  have hM : mz_meth[72]? = some mtX5_straight := rfl
  have hA0 := h0.1
  obtain ⟨hB, hSd, ⟨hP0, hP1⟩, ⟨hC0, hC1'⟩, hVr, hn30, hl2⟩ := id h1
  obtain ⟨hR, hT, hLen⟩ := id hB
  obtain ⟨⟨hW0, hW1⟩, ⟨hH0, hH1⟩, ⟨hn0, hn1⟩, hpt⟩ := id hR
  obtain ⟨⟨hc1, hc2, hc3, hc4⟩, hcp, hct, hcv⟩ := id hA0
  have hWH := WH_bd hR
  refine mz_Cl.of hM ?_
  show mz_Wp shA none 72 (0, [some (.inr 0), none, none], [], σ) _
  refine wp_go 2 hM (fr' := (4, [some (.inr 0), none, none], [.inr 1], σ)) rfl ?_
  refine wp_calld (v := 0) (idx := 119) (j := 21) (N := mtX1_bentKnots) (as := [.inr 1]) (rest := []) hM rfl (Or.inl ⟨rfl, rfl⟩) rfl (sp_X1_bentKnots v l σ  (by first | (first | assumption | omega) | fail) (by first | (first | assumption | omega) | fail)) ?_
  show mz_Wp shA none 72 (7, [some (.inr 0), none, none], [.inl (sumI (v 0 2) (fun i => b01 (¬ (gx v 1 i = gx v 0 i ∧ gy v 1 i = gy v 0 i))))], σ) _
  refine wp_go 3 hM (fr' := (10, [some (.inr 0), some (.inl (sumI (v 0 2) (fun i => b01 (¬ (gx v 1 i = gx v 0 i ∧ gy v 1 i = gy v 0 i))))), some (.inl 0)], [], σ)) rfl ?_
  have loop10 : ∀ (fuel : Nat) (j : Int) (σ1 : mz_G), (0 ≤ j) → (j ≤ v 0 2) → (STI σ σ1 j) → ((v 0 2 - j : Int) < fuel) → mz_Wp shA none 72 (10, [some (.inr 0), some (.inl (sumI (v 0 2) (fun i => b01 (¬ (gx v 1 i = gx v 0 i ∧ gy v 1 i = gy v 0 i))))), some (.inl j)], [], σ1) (fun r σ' => r = some (bkn v) ∧ CS σ' (vst v) l ∧ Fk σ σ') := by
    intro fuel
    induction fuel with
    | zero =>
      intro j σ1 hv10_0 hv10_1 hv10_2 hf10
      exfalso
      omega
    | succ fuel ih10 =>
      intro j σ1 hv10_0 hv10_1 hv10_2 hf10
      have hn_1 : σ1 1 7 = v 0 2 := by rw [hv10_2.2.2 1 7 (by decide) (by decide)]; exact hc3
      refine wp_go 4 hM (fr' := (18, [some (.inr 0), some (.inl (sumI (v 0 2) (fun i => b01 (¬ (gx v 1 i = gx v 0 i ∧ gy v 1 i = gy v 0 i))))), some (.inl j)], [.inl (σ1 1 7), .inl j], σ1)) rfl ?_
      refine wp_ic (tgt := 62) hM rfl (by decide) (by omega) (by omega) (fun c18 => ?_) (fun c18 => ?_)
      · replace c18 := cmp_ge_t c18
        refine wp_go 4 hM (fr' := (68, [some (.inr 0), some (.inl (sumI (v 0 2) (fun i => b01 (¬ (gx v 1 i = gx v 0 i ∧ gy v 1 i = gy v 0 i))))), some (.inl j)], [.inl (sumI (v 0 2) (fun i => b01 (¬ (gx v 1 i = gx v 0 i ∧ gy v 1 i = gy v 0 i))))], (mz_up σ1 0 7 0))) rfl ?_
        refine wp_ret hM rfl (rfl) ?_
        refine ⟨rfl, ⟨CA_st hA0 (by rw [show v 0 2 = j from by omega]; exact hv10_2) (fun c i a => ?_), Or.inl up_eq⟩, Fk.tr (fun c i a => hv10_2.2.2 c i (by omega) (by omega)) (Fk_up (by decide))⟩
        show (if _ then _ else _) = _
        rw [if_neg a]
      · replace c18 := cmp_ge_f c18
        refine wp_go 9 hM (fr' := (40, [some (.inr 0), some (.inl (sumI (v 0 2) (fun i => b01 (¬ (gx v 1 i = gx v 0 i ∧ gy v 1 i = gy v 0 i))))), some (.inl j)], [.inl j, .inr 16, .inl j, .inr 9], σ1)) rfl ?_
        refine wp_al (n := 32) hM rfl (by decide) rfl (by omega) (by omega) ?_
        refine wp_go 5 hM (fr' := (52, [some (.inr 0), some (.inl (sumI (v 0 2) (fun i => b01 (¬ (gx v 1 i = gx v 0 i ∧ gy v 1 i = gy v 0 i))))), some (.inl j)], [.inl j, .inr 17, .inl (σ1 16 (j).toNat), .inl j, .inr 9], σ1)) rfl ?_
        refine wp_al (n := 32) hM rfl (by decide) rfl (by omega) (by omega) ?_
        refine wp_calld (v := 0) (idx := 99) (j := 42) (N := mtX2_put) (as := [.inr 9, .inl j, .inl (σ1 16 (j).toNat), .inl (σ1 17 (j).toNat)]) (rest := []) hM rfl (Or.inl ⟨rfl, rfl⟩) rfl (sp_X2_put_9  σ1 j (σ1 16 (j).toNat) (σ1 17 (j).toNat) (by first | (first | assumption | omega) | fail) (by first | (first | assumption | omega) | fail)) ?_
        show mz_Wp shA none 72 (56, [some (.inr 0), some (.inl (sumI (v 0 2) (fun i => b01 (¬ (gx v 1 i = gx v 0 i ∧ gy v 1 i = gy v 0 i))))), some (.inl j)], [], (mz_up (mz_up σ1 18 (j).toNat (σ1 16 (j).toNat)) 19 (j).toNat (σ1 17 (j).toNat))) _
        refine wp_go 2 hM (fr' := (10, [some (.inr 0), some (.inl (sumI (v 0 2) (fun i => b01 (¬ (gx v 1 i = gx v 0 i ∧ gy v 1 i = gy v 0 i))))), some (.inl (j + 1))], [], (mz_up (mz_up σ1 18 (j).toNat (σ1 16 (j).toNat)) 19 (j).toNat (σ1 17 (j).toNat)))) rfl ?_
        exact ih10 (j + 1) (mz_up (mz_up σ1 18 (j).toNat (σ1 16 (j).toNat)) 19 (j).toNat (σ1 17 (j).toNat)) (by omega) (by omega) (by first | (exact STI_s hv10_2 hv10_0) | fail) (by omega)
  exact loop10 33 0 σ (by omega) (by omega) (by first | (exact STI_0) | fail) (by omega)

set_option maxRecDepth 100000 in
set_option maxHeartbeats 4000000 in
theorem sp_X5_carry (v : mz_G) (l : List tr3) (σ : mz_G)  (h0 : CS σ v l) (h1 : GO v l) : mz_Cl shA 73 [.inr 0] σ (fun r σ' => r = some (aCar v l) ∧ CS σ' (vCar v l) l ∧ Fk σ σ') := by
  have hM : mz_meth[73]? = some mtX5_carry := rfl
  have hA0 := h0.1
  obtain ⟨hB, hSd, ⟨hP0, hP1⟩, ⟨hC0, hC1'⟩, hVr, hn30, hl2⟩ := id h1
  obtain ⟨hR, hT, hLen⟩ := id hB
  obtain ⟨⟨hW0, hW1⟩, ⟨hH0, hH1⟩, ⟨hn0, hn1⟩, hpt⟩ := id hR
  obtain ⟨⟨hc1, hc2, hc3, hc4⟩, hcp, hct, hcv⟩ := id hA0
  have hWH := WH_bd hR
  refine mz_Cl.of hM ?_
  show mz_Wp shA none 73 (0, [some (.inr 0), none, none, none], [], σ) _
  refine wp_go 1 hM (fr' := (1, [some (.inr 0), none, none, none], [.inr 0], σ)) rfl ?_
  refine wp_call (v := 0) (idx := 81) (j := 92) (N := mtX5_chart) (as := [.inr 0]) (rest := []) hM rfl (Or.inl ⟨rfl, rfl⟩) rfl (sp_X5_chart v l σ  (by first | (first | assumption | omega) | fail) (by first | (first | assumption | omega) | fail)) ?_
  rintro r0 σ_1 ⟨rfl, hA_1, hCC_1, hf_1⟩
  show mz_Wp shA none 73 (4, [some (.inr 0), none, none, none], [], σ_1) _
  refine wp_go 2 hM (fr' := (8, [some (.inr 0), none, none, none], [.inr 1], σ_1)) rfl ?_
  refine wp_calld (v := 0) (idx := 134) (j := 11) (N := mtX1_dots) (as := [.inr 1]) (rest := []) hM rfl (Or.inl ⟨rfl, rfl⟩) rfl (sp_X1_dots v l σ_1  (by first | (first | assumption | omega) | fail) (by first | (first | assumption | omega) | fail)) ?_
  show mz_Wp shA none 73 (11, [some (.inr 0), none, none, none], [.inl (v 0 0 * v 0 1)], σ_1) _
  refine wp_go 3 hM (fr' := (14, [some (.inr 0), some (.inl (v 0 0 * v 0 1)), some (.inl 0), none], [], σ_1)) rfl ?_
  have loop14 : ∀ (fuel : Nat) (d : Int) (σ1 : mz_G), (0 ≤ d) → (d ≤ v 0 0 * v 0 1) → (SPa σ_1 σ1 v l d) → ((v 0 0 * v 0 1 - d : Int) < fuel) → mz_Wp shA none 73 (14, [some (.inr 0), some (.inl (v 0 0 * v 0 1)), some (.inl d), none], [], σ1) (fun r σ' => r = some (aCar v l) ∧ CS σ' (vCar v l) l ∧ Fk σ σ') := by
    intro fuel
    induction fuel with
    | zero =>
      intro d σ1 hv14_0 hv14_1 hv14_2 hf14
      exfalso
      omega
    | succ fuel ih14 =>
      intro d σ1 hv14_0 hv14_1 hv14_2 hf14
      have hA1 : CA σ1 v l := CA_ext hA_1 (fun i _ => hv14_2.2 1 i (by decide)) (hv14_2.2 11 1 (by decide)) (fun c hc i => hv14_2.2 c i (by omega))
      refine wp_go 2 hM (fr' := (16, [some (.inr 0), some (.inl (v 0 0 * v 0 1)), some (.inl d), none], [.inl (v 0 0 * v 0 1), .inl d], σ1)) rfl ?_
      refine wp_ic (tgt := 42) hM rfl (by decide) (by omega) (by omega) (fun c16 => ?_) (fun c16 => ?_)
      · replace c16 := cmp_ge_t c16
        refine wp_go 4 hM (fr' := (46, [some (.inr 0), some (.inl (v 0 0 * v 0 1)), some (.inl 0), some (.inl 0)], [], σ1)) rfl ?_
        have loop46 : ∀ (fuel : Nat) (f : Int) (e : Int) (σ2 : mz_G), (0 ≤ e) → (e ≤ v 0 0 * v 0 1) → (f = sumI e (fun i => b01 (¬ v 6 i.toNat = v 6 (ne v l i).toNat))) → (WV σ1 σ2 v (fun d => v 6 (ne v l d).toNat) e) → ((v 0 0 * v 0 1 - e : Int) < fuel) → mz_Wp shA none 73 (46, [some (.inr 0), some (.inl (v 0 0 * v 0 1)), some (.inl f), some (.inl e)], [], σ2) (fun r σ' => r = some (aCar v l) ∧ CS σ' (vCar v l) l ∧ Fk σ σ') := by
          intro fuel
          induction fuel with
          | zero =>
            intro f e σ2 hv46_0 hv46_1 hv46_2 hv46_3 hf46
            exfalso
            omega
          | succ fuel ih46 =>
            intro f e σ2 hv46_0 hv46_1 hv46_2 hv46_3 hf46
            have hs : sumI (e + 1) (fun i => b01 (¬ v 6 i.toNat = v 6 (ne v l i).toNat)) = sumI e (fun i => b01 (¬ v 6 i.toNat = v 6 (ne v l i).toNat)) + b01 (¬ v 6 e.toNat = v 6 (ne v l e).toNat) := sumI_s hv46_0
            refine wp_go 2 hM (fr' := (48, [some (.inr 0), some (.inl (v 0 0 * v 0 1)), some (.inl f), some (.inl e)], [.inl (v 0 0 * v 0 1), .inl e], σ2)) rfl ?_
            refine wp_ic (tgt := 87) hM rfl (by decide) (by omega) (by omega) (fun c48 => ?_) (fun c48 => ?_)
            · replace c48 := cmp_ge_t c48
              refine wp_go 1 hM (fr' := (88, [some (.inr 0), some (.inl (v 0 0 * v 0 1)), some (.inl f), some (.inl e)], [.inl f], σ2)) rfl ?_
              refine wp_ret hM rfl (rfl) ?_
              have hE : e = v 0 0 * v 0 1 := by omega
              have hCC9 : CC σ1 v l := CC_ext hCC_1 (hv14_2.2 0 7 (by decide)) (fun c hc i => hv14_2.2 c i (by omega))
              refine ⟨by unfold aCar; rw [hv46_2, hE], ⟨WV_CA hA1 hv46_3 hE, Or.inr (CC_vpt (WV_CC hCC9 hv46_3))⟩, (Fk_Fh hf_1).tr (Fk.tr (fun c i a => hv14_2.2 c i (by omega)) (fun c i a => hv46_3.2.2 c i (by omega)))⟩
            · replace c48 := cmp_ge_f c48
              first | (have hni2 := ne_in h1 hv46_0 (show e < v 0 0 * v 0 1 by omega)) | skip
              first | (have hvb1 := hVr e hv46_0 (by omega)) | skip
              first | (have hvb2 := hVr _ hni2.1 hni2.2) | skip
              first | (have hsp : σ2 7 e.toNat = v 6 (ne v l e).toNat := by rw [hv46_3.2.2 7 _ (by decide)]; exact hv14_2.1 e hv46_0 (by omega)) | skip
              first | (have hvl : σ2 4 e.toNat = v 6 e.toNat := by rw [hv46_3.2.1 e (by omega) hv46_0]; exact CA_val hA1 hv46_0 (by omega)) | skip
              refine wp_go 3 hM (fr' := (56, [some (.inr 0), some (.inl (v 0 0 * v 0 1)), some (.inl f), some (.inl e)], [.inl e, .inr 4], σ2)) rfl ?_
              refine wp_al (n := 400) hM rfl (by decide) rfl (by omega) (by omega) ?_
              first | (rw [hvl]) | skip
              refine wp_go 3 hM (fr' := (62, [some (.inr 0), some (.inl (v 0 0 * v 0 1)), some (.inl f), some (.inl e)], [.inl e, .inr 7, .inl (v 6 (e).toNat)], σ2)) rfl ?_
              refine wp_al (n := 400) hM rfl (by decide) rfl (by omega) (by omega) ?_
              first | (rw [hsp]) | skip
              refine wp_ic (tgt := 81) hM rfl (by decide) (by omega) (by omega) (fun c63 => ?_) (fun c63 => ?_)
              · replace c63 := cmp_eq_t c63
                refine wp_go 2 hM (fr' := (46, [some (.inr 0), some (.inl (v 0 0 * v 0 1)), some (.inl f), some (.inl (e + 1))], [], σ2)) rfl ?_
                exact ih46 f (e + 1) σ2 (by omega) (by omega) (by first | (rw [hs]; first | (rw [b01_t c63]; omega) | (rw [b01_f (fun q => q c63)]; omega)) | fail) (by first | (first | exact WV_s hv46_3 hv46_0 rfl | exact ⟨fun d a b => by rcases (show d < e ∨ d = e by omega) with q | q; exact hv46_3.1 d a q; subst q; rw [hvl]; exact c63, fun d a b => hv46_3.2.1 d (by omega) b, hv46_3.2.2⟩) | fail) (by omega)
              · replace c63 := cmp_eq_f c63
                refine wp_go 6 hM (fr' := (76, [some (.inr 0), some (.inl (v 0 0 * v 0 1)), some (.inl f), some (.inl e)], [.inl e, .inr 7, .inl e, .inr 4], σ2)) rfl ?_
                refine wp_al (n := 400) hM rfl (by decide) rfl (by omega) (by omega) ?_
                first | (rw [hsp]) | skip
                refine wp_as (n := 400) hM rfl rfl (by omega) (by omega) ?_
                refine wp_go 3 hM (fr' := (46, [some (.inr 0), some (.inl (v 0 0 * v 0 1)), some (.inl (f + 1)), some (.inl (e + 1))], [], (mz_up σ2 4 (e).toNat (v 6 (ne v l e).toNat)))) rfl ?_
                exact ih46 (f + 1) (e + 1) (mz_up σ2 4 (e).toNat (v 6 (ne v l e).toNat)) (by omega) (by omega) (by first | (rw [hs]; first | (rw [b01_t c63]; omega) | (rw [b01_f (fun q => q c63)]; omega)) | fail) (by first | (first | exact WV_s hv46_3 hv46_0 rfl | exact ⟨fun d a b => by rcases (show d < e ∨ d = e by omega) with q | q; exact hv46_3.1 d a q; subst q; rw [hvl]; exact c63, fun d a b => hv46_3.2.1 d (by omega) b, hv46_3.2.2⟩) | fail) (by omega)
        exact loop46 402 0 0 σ1 (by omega) (by omega) (by rfl) (by first | (exact WV_0) | fail) (by omega)
      · replace c16 := cmp_ge_f c16
        first | (have hni := ne_in h1 hv14_0 (show d < v 0 0 * v 0 1 by omega)) | skip
        refine wp_go 8 hM (fr' := (33, [some (.inr 0), some (.inl (v 0 0 * v 0 1)), some (.inl d), none], [.inl d, .inr 5, .inr 4, .inl d, .inr 7], σ1)) rfl ?_
        refine wp_al (n := 400) hM rfl (by decide) rfl (by omega) (by omega) ?_
        first | (rw [show σ1 5 d.toNat = ne v l d from by rw [hv14_2.2 5 _ (by decide)]; exact hCC_1.2.2 d hv14_0 (by omega)]) | skip
        refine wp_al (n := 400) hM rfl (by decide) rfl (by omega) (by omega) ?_
        first | (rw [CA_val hA1 hni.1 hni.2]) | skip
        refine wp_as (n := 400) hM rfl rfl (by omega) (by omega) ?_
        refine wp_go 2 hM (fr' := (14, [some (.inr 0), some (.inl (v 0 0 * v 0 1)), some (.inl (d + 1)), none], [], (mz_up σ1 7 (d).toNat (v 6 (ne v l d).toNat)))) rfl ?_
        exact ih14 (d + 1) (mz_up σ1 7 (d).toNat (v 6 (ne v l d).toNat)) (by omega) (by omega) (by first | (exact SPa_s hv14_2 hv14_0 rfl) | fail) (by omega)
  exact loop14 402 0 σ_1 (by omega) (by omega) (by first | (exact ⟨fun d a b => by omega, fun _ _ _ => rfl⟩) | fail) (by omega)
