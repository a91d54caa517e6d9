/-! the reference: out -/
set_option maxRecDepth 100000 in
set_option maxHeartbeats 4000000 in
theorem sp_X6_joins (v : mz_G) (l : List tr3) (x y z : Int) (σ : mz_G) (k : Int) (h0 : MA σ v l) (h1 : Bs v l) (h2 : 0 ≤ k) (h3 : k < v 0 2) (h4 : Dst l) (h5 : JX l k x y z (dgr l k)) (h6 : (0 ≤ x ∧ x < v 0 2) ∧ (0 ≤ y ∧ y < v 0 2) ∧ (0 ≤ z ∧ z < v 0 2)) : mz_Cl shM 137 [.inr 30, .inl k] σ (fun r σ' => r = none ∧ (∃ L u, MA σ' v L ∧ L.Perm (l.filter (fun t => !decide (hasK t k)) ++ [u]) ∧ (u = (x, y, z) ∨ u = (y, z, x) ∨ u = (z, x, y))) ∧ Fr σ σ') := by
  have hM : mz_meth[137]? = some mtX6_joins := rfl
  obtain ⟨hR, hT, hLen⟩ := id h1
  obtain ⟨⟨hW0, hW1⟩, ⟨hH0, hH1⟩, ⟨hn0, hn1⟩, hpt⟩ := id hR
  obtain ⟨⟨⟨hc1, hc2, hc3⟩, hcp, hcv⟩, hc4, hct⟩ := id h0
  have hWH := WH_bd hR
  obtain ⟨hJ1, hJ2, hJ3, hJ4, hJ5⟩ := id h5
  have hlk := lk_L h4 (k := k)
  have hdg := dgr_bd (l := l) (k := k)
  refine mz_Cl.of hM ?_
  show mz_Wp shM none 137 (0, [some (.inr 30), some (.inl k), none, none, none, none, none], [], σ) _
  refine wp_go 2 hM (fr' := (2, [some (.inr 30), some (.inl k), none, none, none, none, none], [.inl k, .inr 30], σ)) rfl ?_
  refine wp_calld (v := 0) (idx := 170) (j := 135) (N := mtX6_trianglesOf) (as := [.inr 30, .inl k]) (rest := []) hM rfl (Or.inl ⟨rfl, rfl⟩) rfl (sp_X6_trianglesOf v l σ k (by first | (first | assumption | omega) | fail) (by first | (first | assumption | omega) | fail) (by first | (first | assumption | omega) | fail) (by first | (first | assumption | omega) | fail)) ?_
  show mz_Wp shM none 137 (5, [some (.inr 30), some (.inl k), none, none, none, none, none], [.inl (dgr l k)], σ) _
  refine wp_go 5 hM (fr' := (11, [some (.inr 30), some (.inl k), some (.inl (dgr l k)), some (.inl (-1)), some (.inl 0), none, none], [], σ)) rfl ?_
  have loop11 : ∀ (fuel : Nat) (f : Int) (j : Int), (0 ≤ j) → (j ≤ v 0 2) → (f = -1 ∨ (f = x ∨ (dgr l k = 3 ∧ (f = y ∨ f = z)))) → (x < j → ¬ f = -1) → ((v 0 2 - j : Int) < fuel) → mz_Wp shM none 137 (11, [some (.inr 30), some (.inl k), some (.inl (dgr l k)), some (.inl f), some (.inl j), none, none], [], σ) (fun r σ' => r = none ∧ (∃ L u, MA σ' v L ∧ L.Perm (l.filter (fun t => !decide (hasK t k)) ++ [u]) ∧ (u = (x, y, z) ∨ u = (y, z, x) ∨ u = (z, x, y))) ∧ Fr σ σ') := by
    intro fuel
    induction fuel with
    | zero =>
      intro f j hv11_0 hv11_1 hv11_2 hv11_3 hf11
      exfalso
      omega
    | succ fuel ih11 =>
      intro f j hv11_0 hv11_1 hv11_2 hv11_3 hf11
      have w1 := hJ2 j
      have w2 := hJ3 j
      refine wp_go 3 hM (fr' := (17, [some (.inr 30), some (.inl k), some (.inl (dgr l k)), some (.inl f), some (.inl j), none, none], [.inl (σ 30 2), .inl j], σ)) rfl ?_
      refine wp_ic (tgt := 56) hM rfl (by decide) (by omega) (by omega) (fun c17 => ?_) (fun c17 => ?_)
      · replace c17 := cmp_ge_t c17
        first | (have hfx := JX_f h5 (show f = x ∨ (dgr l k = 3 ∧ (f = y ∨ f = z)) by omega)) | skip
        first | (have hff : 0 ≤ f ∧ f < v 0 2 := by omega) | skip
        first | (have hss : 0 ≤ apx l k f ∧ apx l k f < v 0 2 := by omega) | skip
        first | (have sa := (sid_apx (a := k) (b := f) hT).2 hfx.1.1) | skip
        first | (have sb := (sid_apx (a := k) (b := apx l k f) hT).2 hfx.1.2) | skip
        refine wp_go 4 hM (fr' := (60, [some (.inr 30), some (.inl k), some (.inl (dgr l k)), some (.inl f), some (.inl j), none, none], [.inl f, .inl k, .inr 30, .inr 30], σ)) rfl ?_
        refine wp_calld (v := 0) (idx := 158) (j := 130) (N := mtX6_side) (as := [.inr 30, .inl k, .inl f]) (rest := [.inr 30]) hM rfl (Or.inl ⟨rfl, rfl⟩) rfl (sp_X6_side v l σ k f (by first | (first | assumption | omega) | fail) (by first | (first | assumption | omega) | fail) (by first | (first | assumption | omega) | fail) (by first | (first | assumption | omega) | fail)) ?_
        show mz_Wp shM none 137 (63, [some (.inr 30), some (.inl k), some (.inl (dgr l k)), some (.inl f), some (.inl j), none, none], [.inl (sid l k f), .inr 30], σ) _
        refine wp_go 2 hM (fr' := (65, [some (.inr 30), some (.inl k), some (.inl (dgr l k)), some (.inl f), some (.inl j), none, none], [.inl f, .inl k, .inl (sid l k f), .inr 30], σ)) rfl ?_
        refine wp_calld (v := 0) (idx := 164) (j := 131) (N := mtX6_third) (as := [.inr 30, .inl (sid l k f), .inl k, .inl f]) (rest := []) hM rfl (Or.inl ⟨rfl, rfl⟩) rfl (sp_X6_third v l σ (sid l k f) k f (by first | (first | assumption | exact sa.2.1 | exact sa.2.2.1 | omega) | fail) (by first | (first | assumption | exact sa.2.1 | exact sa.2.2.1 | omega) | fail) (by first | (first | assumption | exact sa.2.1 | exact sa.2.2.1 | omega) | fail) (by first | (first | assumption | exact sa.2.1 | exact sa.2.2.1 | omega) | fail)) ?_
        show mz_Wp shM none 137 (68, [some (.inr 30), some (.inl k), some (.inl (dgr l k)), some (.inl f), some (.inl j), none, none], [.inl (thd (tg l (sid l k f)) k f)], σ) _
        first | (rw [sa.1]) | skip
        refine wp_go 5 hM (fr' := (75, [some (.inr 30), some (.inl k), some (.inl (dgr l k)), some (.inl f), some (.inl (apx l k f)), none, none], [.inl (apx l k f), .inl k, .inr 30, .inr 30], σ)) rfl ?_
        refine wp_calld (v := 0) (idx := 158) (j := 130) (N := mtX6_side) (as := [.inr 30, .inl k, .inl (apx l k f)]) (rest := [.inr 30]) hM rfl (Or.inl ⟨rfl, rfl⟩) rfl (sp_X6_side v l σ k (apx l k f) (by first | (first | assumption | omega) | fail) (by first | (first | assumption | omega) | fail) (by first | (first | assumption | omega) | fail) (by first | (first | assumption | omega) | fail)) ?_
        show mz_Wp shM none 137 (78, [some (.inr 30), some (.inl k), some (.inl (dgr l k)), some (.inl f), some (.inl (apx l k f)), none, none], [.inl (sid l k (apx l k f)), .inr 30], σ) _
        refine wp_go 2 hM (fr' := (81, [some (.inr 30), some (.inl k), some (.inl (dgr l k)), some (.inl f), some (.inl (apx l k f)), none, none], [.inl (apx l k f), .inl k, .inl (sid l k (apx l k f)), .inr 30], σ)) rfl ?_
        refine wp_calld (v := 0) (idx := 164) (j := 131) (N := mtX6_third) (as := [.inr 30, .inl (sid l k (apx l k f)), .inl k, .inl (apx l k f)]) (rest := []) hM rfl (Or.inl ⟨rfl, rfl⟩) rfl (sp_X6_third v l σ (sid l k (apx l k f)) k (apx l k f) (by first | (first | assumption | exact sb.2.1 | exact sb.2.2.1 | omega) | fail) (by first | (first | assumption | exact sb.2.1 | exact sb.2.2.1 | omega) | fail) (by first | (first | assumption | exact sb.2.1 | exact sb.2.2.1 | omega) | fail) (by first | (first | assumption | exact sb.2.1 | exact sb.2.2.1 | omega) | fail)) ?_
        show mz_Wp shM none 137 (84, [some (.inr 30), some (.inl k), some (.inl (dgr l k)), some (.inl f), some (.inl (apx l k f)), none, none], [.inl (thd (tg l (sid l k (apx l k f))) k (apx l k f))], σ) _
        first | (rw [sb.1]) | skip
        refine wp_go 6 hM (fr' := (94, [some (.inr 30), some (.inl k), some (.inl (dgr l k)), some (.inl f), some (.inl (apx l k f)), some (.inl (apx l k (apx l k f))), some (.inl ((σ 30 3) - 1))], [], σ)) rfl ?_
        have loop94 : ∀ (fuel : Nat) (t : Int) (σ1 : mz_G), (-1 ≤ t) → (t < (l.length : Int)) → (∃ L, MA σ1 v L ∧ RX (fun z => hasK z k) l L t ∧ Fr σ σ1) → ((t + 1 : Int) < fuel) → mz_Wp shM none 137 (94, [some (.inr 30), some (.inl k), some (.inl (dgr l k)), some (.inl f), some (.inl (apx l k f)), some (.inl (apx l k (apx l k f))), some (.inl t)], [], σ1) (fun r σ' => r = none ∧ (∃ L u, MA σ' v L ∧ L.Perm (l.filter (fun t => !decide (hasK t k)) ++ [u]) ∧ (u = (x, y, z) ∨ u = (y, z, x) ∨ u = (z, x, y))) ∧ Fr σ σ') := by
          intro fuel
          induction fuel with
          | zero =>
            intro t σ1 hv94_0 hv94_1 hv94_2 hf94
            exfalso
            omega
          | succ fuel ih94 =>
            intro t σ1 hv94_0 hv94_1 hv94_2 hf94
            obtain ⟨L, hL1, hL2, hL3⟩ := hv94_2
            refine wp_go 1 hM (fr' := (96, [some (.inr 30), some (.inl k), some (.inl (dgr l k)), some (.inl f), some (.inl (apx l k f)), some (.inl (apx l k (apx l k f))), some (.inl t)], [.inl t], σ1)) rfl ?_
            refine wp_if (tgt := 144) hM rfl (by decide) (by omega) (fun c96 => ?_) (fun c96 => ?_)
            · replace c96 := cmp_lt_t c96
              have hpf : L.Perm (l.filter (fun t => !decide (hasK t k))) := by
                have w := hL2.1
                rw [show t = -1 by omega, rmT_end] at w
                exact w
              first | (have hpl := hpf.length_eq) | skip
              refine wp_go 4 hM (fr' := (150, [some (.inr 30), some (.inl k), some (.inl (dgr l k)), some (.inl f), some (.inl (apx l k f)), some (.inl (apx l k (apx l k f))), some (.inl t)], [.inl (apx l k (apx l k f)), .inl (apx l k f), .inl f, .inr 30], σ1)) rfl ?_
              refine wp_call (v := 0) (idx := 72) (j := 108) (N := mtX6_adds) (as := [.inr 30, .inl f, .inl (apx l k f), .inl (apx l k (apx l k f))]) (rest := []) hM rfl (Or.inl ⟨rfl, rfl⟩) rfl (sp_X6_adds L σ1 f (apx l k f) (apx l k (apx l k f)) (by first | (first | exact hL1.2 | omega) | fail) (by first | (first | exact hL1.2 | omega) | fail)) ?_
              rintro r0 σ_150 ⟨rfl, ht_150, hf_150⟩
              show mz_Wp shM none 137 (153, [some (.inr 30), some (.inl k), some (.inl (dgr l k)), some (.inl f), some (.inl (apx l k f)), some (.inl (apx l k (apx l k f))), some (.inl t)], [], σ_150) _
              refine wp_retv hM rfl rfl ?_
              refine ⟨rfl, ⟨_, _, MA_Fr hL1 hf_150 ht_150, List.Perm.append_right _ hpf, ?_⟩, hL3.tr hf_150⟩
              rcases hfx.2 with ⟨e1, e2, e3⟩ | ⟨e1, e2, e3⟩ | ⟨e1, e2, e3⟩
              · rw [e3, e2, e1]; exact Or.inl rfl
              · rw [e3, e2, e1]; exact Or.inr (Or.inl rfl)
              · rw [e3, e2, e1]; exact Or.inr (Or.inr rfl)
            · replace c96 := cmp_lt_f c96
              first | (have hrl := RX_len hL2 c96 hv94_1) | skip
              first | (have hTL := RX_Rt hL2 hT) | skip
              first | (have hBL : Bs v L := ⟨hR, hTL, by omega⟩) | skip
              first | (have htr := Rt_at hT c96 hv94_1) | skip
              refine wp_go 3 hM (fr' := (103, [some (.inr 30), some (.inl k), some (.inl (dgr l k)), some (.inl f), some (.inl (apx l k f)), some (.inl (apx l k (apx l k f))), some (.inl t)], [.inl 0, .inl t, .inr 30], σ1)) rfl ?_
              refine wp_calld (v := 0) (idx := 85) (j := 111) (N := mtX6_at) (as := [.inr 30, .inl t, .inl 0]) (rest := []) hM rfl (Or.inl ⟨rfl, rfl⟩) rfl (sp_X6_at_0 v L σ1 t (by first | (first | exact hL1 | exact hBL | omega) | fail) (by first | (first | exact hL1 | exact hBL | omega) | fail) (by first | (first | exact hL1 | exact hBL | omega) | fail) (by first | (first | exact hL1 | exact hBL | omega) | fail)) ?_
              show mz_Wp shM none 137 (106, [some (.inr 30), some (.inl k), some (.inl (dgr l k)), some (.inl f), some (.inl (apx l k f)), some (.inl (apx l k (apx l k f))), some (.inl t)], [.inl ((tg L t).1)], σ1) _
              first | (rw [hrl.2.2]) | skip
              refine wp_go 1 hM (fr' := (107, [some (.inr 30), some (.inl k), some (.inl (dgr l k)), some (.inl f), some (.inl (apx l k f)), some (.inl (apx l k (apx l k f))), some (.inl t)], [.inl k, .inl ((tg l t).1)], σ1)) rfl ?_
              refine wp_ic (tgt := 132) hM rfl (by decide) (by omega) (by omega) (fun c107 => ?_) (fun c107 => ?_)
              · replace c107 := cmp_eq_t c107
                refine wp_go 2 hM (fr' := (135, [some (.inr 30), some (.inl k), some (.inl (dgr l k)), some (.inl f), some (.inl (apx l k f)), some (.inl (apx l k (apx l k f))), some (.inl t)], [.inl t, .inr 30], σ1)) rfl ?_
                refine wp_call (v := 0) (idx := 148) (j := 109) (N := mtX6_drops) (as := [.inr 30, .inl t]) (rest := []) hM rfl (Or.inl ⟨rfl, rfl⟩) rfl (sp_X6_drops L σ1 t (by first | (first | exact hL1.2 | omega) | fail) (by first | (first | exact hL1.2 | omega) | fail) (by first | (first | exact hL1.2 | omega) | fail) (by first | (first | exact hL1.2 | omega) | fail)) ?_
                rintro r0 σ_135 ⟨rfl, ht_135, hf_135⟩
                show mz_Wp shM none 137 (138, [some (.inr 30), some (.inl k), some (.inl (dgr l k)), some (.inl f), some (.inl (apx l k f)), some (.inl (apx l k (apx l k f))), some (.inl t)], [], σ_135) _
                refine wp_go 2 hM (fr' := (94, [some (.inr 30), some (.inl k), some (.inl (dgr l k)), some (.inl f), some (.inl (apx l k f)), some (.inl (apx l k (apx l k f))), some (.inl (t + (-1)))], [], σ_135)) rfl ?_
                exact ih94 (t + (-1)) σ_135 (by omega) (by omega) (by first | (first | exact ⟨_, MA_Fr hL1 hf_135 ht_135, RX_y hL2 c96 hv94_1 (by first | exact Or.inl c107 | exact Or.inr (Or.inl c118) | exact Or.inr (Or.inr c129)), hL3.tr hf_135⟩ | exact ⟨L, hL1, RX_n hL2 c96 hv94_1 (by unfold hasK; omega), hL3⟩) | fail) (by omega)
              · replace c107 := cmp_eq_f c107
                refine wp_go 3 hM (fr' := (114, [some (.inr 30), some (.inl k), some (.inl (dgr l k)), some (.inl f), some (.inl (apx l k f)), some (.inl (apx l k (apx l k f))), some (.inl t)], [.inl 1, .inl t, .inr 30], σ1)) rfl ?_
                refine wp_calld (v := 0) (idx := 85) (j := 111) (N := mtX6_at) (as := [.inr 30, .inl t, .inl 1]) (rest := []) hM rfl (Or.inl ⟨rfl, rfl⟩) rfl (sp_X6_at_1 v L σ1 t (by first | (first | exact hL1 | exact hBL | omega) | fail) (by first | (first | exact hL1 | exact hBL | omega) | fail) (by first | (first | exact hL1 | exact hBL | omega) | fail) (by first | (first | exact hL1 | exact hBL | omega) | fail)) ?_
                show mz_Wp shM none 137 (117, [some (.inr 30), some (.inl k), some (.inl (dgr l k)), some (.inl f), some (.inl (apx l k f)), some (.inl (apx l k (apx l k f))), some (.inl t)], [.inl ((tg L t).2.1)], σ1) _
                first | (rw [hrl.2.2]) | skip
                refine wp_go 1 hM (fr' := (118, [some (.inr 30), some (.inl k), some (.inl (dgr l k)), some (.inl f), some (.inl (apx l k f)), some (.inl (apx l k (apx l k f))), some (.inl t)], [.inl k, .inl ((tg l t).2.1)], σ1)) rfl ?_
                refine wp_ic (tgt := 132) hM rfl (by decide) (by omega) (by omega) (fun c118 => ?_) (fun c118 => ?_)
                · replace c118 := cmp_eq_t c118
                  refine wp_go 2 hM (fr' := (135, [some (.inr 30), some (.inl k), some (.inl (dgr l k)), some (.inl f), some (.inl (apx l k f)), some (.inl (apx l k (apx l k f))), some (.inl t)], [.inl t, .inr 30], σ1)) rfl ?_
                  refine wp_call (v := 0) (idx := 148) (j := 109) (N := mtX6_drops) (as := [.inr 30, .inl t]) (rest := []) hM rfl (Or.inl ⟨rfl, rfl⟩) rfl (sp_X6_drops L σ1 t (by first | (first | exact hL1.2 | omega) | fail) (by first | (first | exact hL1.2 | omega) | fail) (by first | (first | exact hL1.2 | omega) | fail) (by first | (first | exact hL1.2 | omega) | fail)) ?_
                  rintro r0 σ_135 ⟨rfl, ht_135, hf_135⟩
                  show mz_Wp shM none 137 (138, [some (.inr 30), some (.inl k), some (.inl (dgr l k)), some (.inl f), some (.inl (apx l k f)), some (.inl (apx l k (apx l k f))), some (.inl t)], [], σ_135) _
                  refine wp_go 2 hM (fr' := (94, [some (.inr 30), some (.inl k), some (.inl (dgr l k)), some (.inl f), some (.inl (apx l k f)), some (.inl (apx l k (apx l k f))), some (.inl (t + (-1)))], [], σ_135)) rfl ?_
                  exact ih94 (t + (-1)) σ_135 (by omega) (by omega) (by first | (first | exact ⟨_, MA_Fr hL1 hf_135 ht_135, RX_y hL2 c96 hv94_1 (by first | exact Or.inl c107 | exact Or.inr (Or.inl c118) | exact Or.inr (Or.inr c129)), hL3.tr hf_135⟩ | exact ⟨L, hL1, RX_n hL2 c96 hv94_1 (by unfold hasK; omega), hL3⟩) | fail) (by omega)
                · replace c118 := cmp_eq_f c118
                  refine wp_go 3 hM (fr' := (125, [some (.inr 30), some (.inl k), some (.inl (dgr l k)), some (.inl f), some (.inl (apx l k f)), some (.inl (apx l k (apx l k f))), some (.inl t)], [.inl 2, .inl t, .inr 30], σ1)) rfl ?_
                  refine wp_calld (v := 0) (idx := 85) (j := 111) (N := mtX6_at) (as := [.inr 30, .inl t, .inl 2]) (rest := []) hM rfl (Or.inl ⟨rfl, rfl⟩) rfl (sp_X6_at_2 v L σ1 t (by first | (first | exact hL1 | exact hBL | omega) | fail) (by first | (first | exact hL1 | exact hBL | omega) | fail) (by first | (first | exact hL1 | exact hBL | omega) | fail) (by first | (first | exact hL1 | exact hBL | omega) | fail)) ?_
                  show mz_Wp shM none 137 (128, [some (.inr 30), some (.inl k), some (.inl (dgr l k)), some (.inl f), some (.inl (apx l k f)), some (.inl (apx l k (apx l k f))), some (.inl t)], [.inl ((tg L t).2.2)], σ1) _
                  first | (rw [hrl.2.2]) | skip
                  refine wp_go 1 hM (fr' := (129, [some (.inr 30), some (.inl k), some (.inl (dgr l k)), some (.inl f), some (.inl (apx l k f)), some (.inl (apx l k (apx l k f))), some (.inl t)], [.inl k, .inl ((tg l t).2.2)], σ1)) rfl ?_
                  refine wp_ic (tgt := 138) hM rfl (by decide) (by omega) (by omega) (fun c129 => ?_) (fun c129 => ?_)
                  · replace c129 := cmp_ne_t c129
                    refine wp_go 2 hM (fr' := (94, [some (.inr 30), some (.inl k), some (.inl (dgr l k)), some (.inl f), some (.inl (apx l k f)), some (.inl (apx l k (apx l k f))), some (.inl (t + (-1)))], [], σ1)) rfl ?_
                    exact ih94 (t + (-1)) σ1 (by omega) (by omega) (by first | (first | exact ⟨_, MA_Fr hL1 hf_135 ht_135, RX_y hL2 c96 hv94_1 (by first | exact Or.inl c107 | exact Or.inr (Or.inl c118) | exact Or.inr (Or.inr c129)), hL3.tr hf_135⟩ | exact ⟨L, hL1, RX_n hL2 c96 hv94_1 (by unfold hasK; omega), hL3⟩) | fail) (by omega)
                  · replace c129 := cmp_ne_f c129
                    refine wp_go 2 hM (fr' := (135, [some (.inr 30), some (.inl k), some (.inl (dgr l k)), some (.inl f), some (.inl (apx l k f)), some (.inl (apx l k (apx l k f))), some (.inl t)], [.inl t, .inr 30], σ1)) rfl ?_
                    refine wp_call (v := 0) (idx := 148) (j := 109) (N := mtX6_drops) (as := [.inr 30, .inl t]) (rest := []) hM rfl (Or.inl ⟨rfl, rfl⟩) rfl (sp_X6_drops L σ1 t (by first | (first | exact hL1.2 | omega) | fail) (by first | (first | exact hL1.2 | omega) | fail) (by first | (first | exact hL1.2 | omega) | fail) (by first | (first | exact hL1.2 | omega) | fail)) ?_
                    rintro r0 σ_135 ⟨rfl, ht_135, hf_135⟩
                    show mz_Wp shM none 137 (138, [some (.inr 30), some (.inl k), some (.inl (dgr l k)), some (.inl f), some (.inl (apx l k f)), some (.inl (apx l k (apx l k f))), some (.inl t)], [], σ_135) _
                    refine wp_go 2 hM (fr' := (94, [some (.inr 30), some (.inl k), some (.inl (dgr l k)), some (.inl f), some (.inl (apx l k f)), some (.inl (apx l k (apx l k f))), some (.inl (t + (-1)))], [], σ_135)) rfl ?_
                    exact ih94 (t + (-1)) σ_135 (by omega) (by omega) (by first | (first | exact ⟨_, MA_Fr hL1 hf_135 ht_135, RX_y hL2 c96 hv94_1 (by first | exact Or.inl c107 | exact Or.inr (Or.inl c118) | exact Or.inr (Or.inr c129)), hL3.tr hf_135⟩ | exact ⟨L, hL1, RX_n hL2 c96 hv94_1 (by unfold hasK; omega), hL3⟩) | fail) (by omega)
        exact loop94 65 ((σ 30 3) - 1) σ (by omega) (by omega) (by first | (exact ⟨l, h0, RX_0 (by omega) (by omega) (fun i p q => by omega), Fr.rf⟩) | fail) (by omega)
      · replace c17 := cmp_ge_f c17
        first | (have q9 := fstI_spec (l.length : Int) (fun i => edg (tg l i) k j)) | skip
        first | (have q8 := fstI_spec (l.length : Int) (fun i => edg (tg l i) j k)) | skip
        first | (have r9 : -1 ≤ sid l k j ∧ sid l k j < 100 := by unfold sid; omega) | skip
        first | (have r8 : -1 ≤ sid l j k ∧ sid l j k < 100 := by unfold sid; omega) | skip
        refine wp_go 3 hM (fr' := (24, [some (.inr 30), some (.inl k), some (.inl (dgr l k)), some (.inl f), some (.inl j), none, none], [.inl j, .inl k, .inr 30], σ)) rfl ?_
        refine wp_calld (v := 0) (idx := 158) (j := 130) (N := mtX6_side) (as := [.inr 30, .inl k, .inl j]) (rest := []) hM rfl (Or.inl ⟨rfl, rfl⟩) rfl (sp_X6_side v l σ k j (by first | (first | assumption | omega) | fail) (by first | (first | assumption | omega) | fail) (by first | (first | assumption | omega) | fail) (by first | (first | assumption | omega) | fail)) ?_
        show mz_Wp shM none 137 (27, [some (.inr 30), some (.inl k), some (.inl (dgr l k)), some (.inl f), some (.inl j), none, none], [.inl (sid l k j)], σ) _
        refine wp_go 1 hM (fr' := (28, [some (.inr 30), some (.inl k), some (.inl (dgr l k)), some (.inl f), some (.inl j), none, none], [.inl (-1), .inl (sid l k j)], σ)) rfl ?_
        refine wp_ic (tgt := 50) hM rfl (by decide) (by omega) (by omega) (fun c28 => ?_) (fun c28 => ?_)
        · replace c28 := cmp_eq_t c28
          refine wp_go 2 hM (fr' := (11, [some (.inr 30), some (.inl k), some (.inl (dgr l k)), some (.inl f), some (.inl (j + 1)), none, none], [], σ)) rfl ?_
          exact ih11 f (j + 1) (by omega) (by omega) (by omega) (by omega) (by omega)
        · replace c28 := cmp_eq_f c28
          refine wp_go 2 hM (fr' := (33, [some (.inr 30), some (.inl k), some (.inl (dgr l k)), some (.inl f), some (.inl j), none, none], [.inl 3, .inl (dgr l k)], σ)) rfl ?_
          refine wp_ic (tgt := 47) hM rfl (by decide) (by omega) (by omega) (fun c33 => ?_) (fun c33 => ?_)
          · replace c33 := cmp_eq_t c33
            refine wp_go 4 hM (fr' := (11, [some (.inr 30), some (.inl k), some (.inl (dgr l k)), some (.inl j), some (.inl (j + 1)), none, none], [], σ)) rfl ?_
            exact ih11 j (j + 1) (by omega) (by omega) (by omega) (by omega) (by omega)
          · replace c33 := cmp_eq_f c33
            refine wp_go 3 hM (fr' := (40, [some (.inr 30), some (.inl k), some (.inl (dgr l k)), some (.inl f), some (.inl j), none, none], [.inl k, .inl j, .inr 30], σ)) rfl ?_
            refine wp_calld (v := 0) (idx := 158) (j := 130) (N := mtX6_side) (as := [.inr 30, .inl j, .inl k]) (rest := []) hM rfl (Or.inl ⟨rfl, rfl⟩) rfl (sp_X6_side v l σ j k (by first | (first | assumption | omega) | fail) (by first | (first | assumption | omega) | fail) (by first | (first | assumption | omega) | fail) (by first | (first | assumption | omega) | fail)) ?_
            show mz_Wp shM none 137 (43, [some (.inr 30), some (.inl k), some (.inl (dgr l k)), some (.inl f), some (.inl j), none, none], [.inl (sid l j k)], σ) _
            refine wp_go 1 hM (fr' := (44, [some (.inr 30), some (.inl k), some (.inl (dgr l k)), some (.inl f), some (.inl j), none, none], [.inl (-1), .inl (sid l j k)], σ)) rfl ?_
            refine wp_ic (tgt := 50) hM rfl (by decide) (by omega) (by omega) (fun c44 => ?_) (fun c44 => ?_)
            · replace c44 := cmp_ne_t c44
              refine wp_go 2 hM (fr' := (11, [some (.inr 30), some (.inl k), some (.inl (dgr l k)), some (.inl f), some (.inl (j + 1)), none, none], [], σ)) rfl ?_
              exact ih11 f (j + 1) (by omega) (by omega) (by omega) (by omega) (by omega)
            · replace c44 := cmp_ne_f c44
              refine wp_go 4 hM (fr' := (11, [some (.inr 30), some (.inl k), some (.inl (dgr l k)), some (.inl j), some (.inl (j + 1)), none, none], [], σ)) rfl ?_
              exact ih11 j (j + 1) (by omega) (by omega) (by omega) (by omega) (by omega)
  exact loop11 33 (-1) 0 (by omega) (by omega) (by first | (exact Or.inl rfl) | fail) (by omega) (by omega)

set_option maxRecDepth 100000 in
set_option maxHeartbeats 4000000 in
theorem sp_X6_comesUp (v : mz_G) (l : List tr3) (σ : mz_G) (k : Int) (h0 : MA σ v l) (h1 : Bs v l) (h2 : 0 ≤ k) (h3 : k < v 0 2) (h4 : v 0 2 ≤ 30) : mz_Cl shM 138 [.inr 30, .inl k] σ (fun r σ' => r = none ∧ MA σ' (vcl v k) (l.map (cl1 k)) ∧ Fm σ σ') := by
  have hM : mz_meth[138]? = some mtX6_comesUp := rfl
  obtain ⟨hR, hT, hLen⟩ := id h1
  obtain ⟨⟨hW0, hW1⟩, ⟨hH0, hH1⟩, ⟨hn0, hn1⟩, hpt⟩ := id hR
  obtain ⟨⟨⟨hc1, hc2, hc3⟩, hcp, hcv⟩, hc4, hct⟩ := id h0
  have hWH := WH_bd hR
  refine mz_Cl.of hM ?_
  show mz_Wp shM none 138 (0, [some (.inr 30), some (.inl k), none], [], σ) _
  refine wp_go 8 hM (fr' := (12, [some (.inr 30), some (.inl k), some (.inl k)], [], (mz_up σ 30 2 ((σ 30 2) - 1)))) rfl ?_
  have loop12 : ∀ (fuel : Nat) (j : Int) (σ1 : mz_G), (k ≤ j) → (j ≤ v 0 2 - 1) → (U1 σ σ1 k j (v 0 2 - 1)) → ((v 0 2 - 1 - j : Int) < fuel) → mz_Wp shM none 138 (12, [some (.inr 30), some (.inl k), some (.inl j)], [], σ1) (fun r σ' => r = none ∧ MA σ' (vcl v k) (l.map (cl1 k)) ∧ Fm σ σ') := by
    intro fuel
    induction fuel with
    | zero =>
      intro j σ1 hv12_0 hv12_1 hv12_2 hf12
      exfalso
      omega
    | succ fuel ih12 =>
      intro j σ1 hv12_0 hv12_1 hv12_2 hf12
      have hn_1 : σ1 30 2 = v 0 2 - 1 := hv12_2.2.1
      refine wp_go 3 hM (fr' := (17, [some (.inr 30), some (.inl k), some (.inl j)], [.inl (σ1 30 2), .inl j], σ1)) rfl ?_
      refine wp_ic (tgt := 82) hM rfl (by decide) (by omega) (by first | (rw [hn_1]; omega) | fail) (fun c17 => ?_) (fun c17 => ?_)
      · replace c17 := cmp_ge_t c17
        first | (rw [hn_1] at c17) | skip
        refine wp_go 2 hM (fr' := (84, [some (.inr 30), some (.inl k), some (.inl 0)], [], σ1)) rfl ?_
        have loop84 : ∀ (fuel : Nat) (i : Int) (σ2 : mz_G), (0 ≤ i) → (i ≤ 3 * (l.length : Int)) → (U2 σ1 σ2 k i) → ((3 * (l.length : Int) - i : Int) < fuel) → mz_Wp shM none 138 (84, [some (.inr 30), some (.inl k), some (.inl i)], [], σ2) (fun r σ' => r = none ∧ MA σ' (vcl v k) (l.map (cl1 k)) ∧ Fm σ σ') := by
          intro fuel
          induction fuel with
          | zero =>
            intro i σ2 hv84_0 hv84_1 hv84_2 hf84
            exfalso
            omega
          | succ fuel ih84 =>
            intro i σ2 hv84_0 hv84_1 hv84_2 hf84
            have hm_2 : σ2 30 3 = (l.length : Int) := by rw [hv84_2.2 _ _ (by decide), hv12_2.2.2 30 3 (by decide) (by decide)]; exact hc4
            refine wp_go 5 hM (fr' := (91, [some (.inr 30), some (.inl k), some (.inl i)], [.inl (3 * (σ2 30 3)), .inl i], σ2)) rfl ?_
            refine wp_ic (tgt := 124) hM rfl (by decide) (by omega) (by first | (rw [hm_2]; omega) | fail) (fun c91 => ?_) (fun c91 => ?_)
            · replace c91 := cmp_ge_t c91
              first | (rw [hm_2] at c91) | skip
              refine wp_retv hM rfl rfl ?_
              have hfin := MA_cup h0 hR ⟨h2, h3⟩ hv12_2 (by omega) hv84_2 (by omega)
              exact ⟨rfl, hfin.1, hfin.2⟩
            · replace c91 := cmp_ge_f c91
              first | (rw [hm_2] at c91) | skip
              first | (have hen := ent_bd hT hv84_0 (show i < 3 * (l.length : Int) by omega)) | skip
              first | (have he9 : σ1 35 i.toNat = ent l i := by rw [hv12_2.2.2 35 _ (by omega) (by omega)]; exact MT_ent h0.2 hv84_0 (by omega)) | skip
              first | (have he8 : σ2 35 i.toNat = ent l i := by rw [U2_at hv84_2 hv84_0]; exact he9) | skip
              refine wp_go 4 hM (fr' := (100, [some (.inr 30), some (.inl k), some (.inl i)], [.inl i, .inr 35, .inl i, .inr 35], σ2)) rfl ?_
              refine wp_al (n := 180) hM rfl (by decide) rfl (by omega) (by omega) ?_
              first | (rw [he8]) | skip
              refine wp_go 3 hM (fr' := (106, [some (.inr 30), some (.inl k), some (.inl i)], [.inl i, .inr 35, .inl (ent l i), .inl i, .inr 35], σ2)) rfl ?_
              refine wp_al (n := 180) hM rfl (by decide) rfl (by omega) (by omega) ?_
              first | (rw [he8]) | skip
              refine wp_go 1 hM (fr' := (108, [some (.inr 30), some (.inl k), some (.inl i)], [.inl k, .inl (ent l i), .inl (ent l i), .inl i, .inr 35], σ2)) rfl ?_
              refine wp_ic (tgt := 115) hM rfl (by decide) (by omega) (by omega) (fun c108 => ?_) (fun c108 => ?_)
              · replace c108 := cmp_le_t c108
                refine wp_go 2 hM (fr' := (117, [some (.inr 30), some (.inl k), some (.inl i)], [.inl ((ent l i) - 0), .inl i, .inr 35], σ2)) rfl ?_
                refine wp_as (n := 180) hM rfl rfl (by omega) (by omega) ?_
                refine wp_go 2 hM (fr' := (84, [some (.inr 30), some (.inl k), some (.inl (i + 1))], [], (mz_up σ2 35 (i).toNat ((ent l i) - 0)))) rfl ?_
                exact ih84 (i + 1) (mz_up σ2 35 (i).toNat ((ent l i) - 0)) (by omega) (by omega) (by first | (exact U2_s hv84_2 hv84_0 (by rw [he9]; unfold dn; first | (rw [if_neg (by omega)]; omega) | (rw [if_pos (by omega)]))) | fail) (by omega)
              · replace c108 := cmp_le_f c108
                refine wp_go 3 hM (fr' := (117, [some (.inr 30), some (.inl k), some (.inl i)], [.inl ((ent l i) - 1), .inl i, .inr 35], σ2)) rfl ?_
                refine wp_as (n := 180) hM rfl rfl (by omega) (by omega) ?_
                refine wp_go 2 hM (fr' := (84, [some (.inr 30), some (.inl k), some (.inl (i + 1))], [], (mz_up σ2 35 (i).toNat ((ent l i) - 1)))) rfl ?_
                exact ih84 (i + 1) (mz_up σ2 35 (i).toNat ((ent l i) - 1)) (by omega) (by omega) (by first | (exact U2_s hv84_2 hv84_0 (by rw [he9]; unfold dn; first | (rw [if_neg (by omega)]; omega) | (rw [if_pos (by omega)]))) | fail) (by omega)
        exact loop84 185 0 σ1 (by omega) (by omega) (by first | (exact U2_0) | fail) (by omega)
      · replace c17 := cmp_ge_f c17
        first | (rw [hn_1] at c17) | skip
        refine wp_go 8 hM (fr' := (32, [some (.inr 30), some (.inl k), some (.inl j)], [.inl (j + 1), .inr 33, .inl j, .inr 33], σ1)) rfl ?_
        refine wp_al (n := 31) hM rfl (by decide) rfl (by omega) (by omega) ?_
        refine wp_as (n := 31) hM rfl rfl (by omega) (by omega) ?_
        refine wp_go 8 hM (fr' := (46, [some (.inr 30), some (.inl k), some (.inl j)], [.inl (j + 1), .inr 34, .inl j, .inr 34], (mz_up σ1 33 (j).toNat (σ1 33 (j + 1).toNat)))) rfl ?_
        refine wp_al (n := 31) hM rfl (by decide) rfl (by omega) (by omega) ?_
        show mz_Wp shM none 138 (47, [some (.inr 30), some (.inl k), some (.inl j)], [.inl (σ1 34 (j + 1).toNat), .inl j, .inr 34], (mz_up σ1 33 (j).toNat (σ1 33 (j + 1).toNat))) _
        refine wp_as (n := 31) hM rfl rfl (by omega) (by omega) ?_
        refine wp_go 8 hM (fr' := (60, [some (.inr 30), some (.inl k), some (.inl j)], [.inl (j + 1), .inr 31, .inl j, .inr 31], (mz_up (mz_up σ1 33 (j).toNat (σ1 33 (j + 1).toNat)) 34 (j).toNat (σ1 34 (j + 1).toNat)))) rfl ?_
        refine wp_al (n := 31) hM rfl (by decide) rfl (by omega) (by omega) ?_
        show mz_Wp shM none 138 (61, [some (.inr 30), some (.inl k), some (.inl j)], [.inl (σ1 31 (j + 1).toNat), .inl j, .inr 31], (mz_up (mz_up σ1 33 (j).toNat (σ1 33 (j + 1).toNat)) 34 (j).toNat (σ1 34 (j + 1).toNat))) _
        refine wp_as (n := 31) hM rfl rfl (by omega) (by omega) ?_
        refine wp_go 8 hM (fr' := (74, [some (.inr 30), some (.inl k), some (.inl j)], [.inl (j + 1), .inr 32, .inl j, .inr 32], (mz_up (mz_up (mz_up σ1 33 (j).toNat (σ1 33 (j + 1).toNat)) 34 (j).toNat (σ1 34 (j + 1).toNat)) 31 (j).toNat (σ1 31 (j + 1).toNat)))) rfl ?_
        refine wp_al (n := 31) hM rfl (by decide) rfl (by omega) (by omega) ?_
        show mz_Wp shM none 138 (75, [some (.inr 30), some (.inl k), some (.inl j)], [.inl (σ1 32 (j + 1).toNat), .inl j, .inr 32], (mz_up (mz_up (mz_up σ1 33 (j).toNat (σ1 33 (j + 1).toNat)) 34 (j).toNat (σ1 34 (j + 1).toNat)) 31 (j).toNat (σ1 31 (j + 1).toNat))) _
        refine wp_as (n := 31) hM rfl rfl (by omega) (by omega) ?_
        refine wp_go 2 hM (fr' := (12, [some (.inr 30), some (.inl k), some (.inl (j + 1))], [], (mz_up (mz_up (mz_up (mz_up σ1 33 (j).toNat (σ1 33 (j + 1).toNat)) 34 (j).toNat (σ1 34 (j + 1).toNat)) 31 (j).toNat (σ1 31 (j + 1).toNat)) 32 (j).toNat (σ1 32 (j + 1).toNat)))) rfl ?_
        exact ih12 (j + 1) (mz_up (mz_up (mz_up (mz_up σ1 33 (j).toNat (σ1 33 (j + 1).toNat)) 34 (j).toNat (σ1 34 (j + 1).toNat)) 31 (j).toNat (σ1 31 (j + 1).toNat)) 32 (j).toNat (σ1 32 (j + 1).toNat)) (by omega) (by omega) (by first | (exact U1_s hv12_2 h2 hv12_0 rfl rfl rfl rfl) | fail) (by omega)
  exact loop12 33 k (mz_up σ 30 2 ((σ 30 2) - 1)) (by omega) (by omega) (by first | (exact U1_0 (by rw [hc3])) | fail) (by omega)

set_option maxRecDepth 100000 in
set_option maxHeartbeats 4000000 in
theorem sp_X6_out (v : mz_G) (l : List tr3) (σ : mz_G) (k : Int) (h0 : MA σ v l) (h1 : GO v l) (h2 : mz_R k) (h3 : GD v l) : mz_Cl shM 139 [.inr 30, .inl k] σ (fun r σ' => r = some (rto v l k) ∧ MA σ' (vOut v l k) (lOut v l k) ∧ Fm σ σ') := by
  have hM : mz_meth[139]? = some mtX6_out := rfl
  obtain ⟨hB, hSd, ⟨hP0, hP1⟩, ⟨hC0, hC1'⟩, hVr, hn30, hl2⟩ := id h1
  obtain ⟨hR, hT, hLen⟩ := id hB
  obtain ⟨⟨hW0, hW1⟩, ⟨hH0, hH1⟩, ⟨hn0, hn1⟩, hpt⟩ := id hR
  obtain ⟨⟨⟨hc1, hc2, hc3⟩, hcp, hcv⟩, hc4, hct⟩ := id h0
  have hWH := WH_bd hR
  refine mz_Cl.of hM ?_
  show mz_Wp shM none 139 (0, [some (.inr 30), some (.inl k), none], [], σ) _
  refine wp_go 2 hM (fr' := (2, [some (.inr 30), some (.inl k), none], [.inl k, .inr 30], σ)) rfl ?_
  refine wp_calld (v := 0) (idx := 151) (j := 123) (N := mtX6_isKnot) (as := [.inr 30, .inl k]) (rest := []) hM rfl (Or.inl ⟨rfl, rfl⟩) rfl (sp_X6_isKnot v l σ k (by first | (first | assumption | omega) | fail) (by first | (first | assumption | omega) | fail) (by first | (first | assumption | omega) | fail)) ?_
  show mz_Wp shM none 139 (5, [some (.inr 30), some (.inl k), none], [.inl (b01 (isk v k))], σ) _
  refine wp_if (tgt := 10) hM rfl (by decide) b01_R (fun c5 => ?_) (fun c5 => ?_)
  · replace c5 := b01_ne0 (cmp_ne_t c5)
    first | (have hk1 := c5.1) | skip
    first | (have hk2 := c5.2) | skip
    first | (have hkb := kind_bd (v := v) (k := k)) | skip
    first | (have hDs := Pos_Dst hP0) | skip
    first | (have hdb := dgr_bd (l := l) (k := k)) | skip
    refine wp_go 2 hM (fr' := (12, [some (.inr 30), some (.inl k), none], [.inl k, .inr 30], σ)) rfl ?_
    refine wp_calld (v := 0) (idx := 173) (j := 136) (N := mtX6_kindOf) (as := [.inr 30, .inl k]) (rest := []) hM rfl (Or.inl ⟨rfl, rfl⟩) rfl (sp_X6_kindOf v l σ k (by first | (first | assumption | omega) | fail) (by first | (first | assumption | omega) | fail) (by first | (first | assumption | omega) | fail) (by first | (first | assumption | omega) | fail)) ?_
    show mz_Wp shM none 139 (15, [some (.inr 30), some (.inl k), none], [.inl (kind v k)], σ) _
    refine wp_go 2 hM (fr' := (17, [some (.inr 30), some (.inl k), some (.inl (kind v k))], [.inl (kind v k)], σ)) rfl ?_
    refine wp_if (tgt := 31) hM rfl (by decide) (by omega) (fun c17 => ?_) (fun c17 => ?_)
    · replace c17 := cmp_eq_t c17
      refine wp_go 1 hM (fr' := (32, [some (.inr 30), some (.inl k), some (.inl (kind v k))], [.inl 2], σ)) rfl ?_
      refine wp_ret hM rfl (rfl) ?_
      have hr1 := rto_2 h3 c5 (by first | exact Or.inl c17 | exact Or.inr c28)
      refine ⟨by rw [hr1], ?_, Fm.rf⟩
      unfold vOut lOut
      rw [hr1, if_neg (by decide), if_neg (by decide)]
      exact h0
    · replace c17 := cmp_eq_f c17
      refine wp_go 2 hM (fr' := (22, [some (.inr 30), some (.inl k), some (.inl (kind v k))], [.inl k, .inr 30], σ)) rfl ?_
      refine wp_calld (v := 0) (idx := 170) (j := 135) (N := mtX6_trianglesOf) (as := [.inr 30, .inl k]) (rest := []) hM rfl (Or.inl ⟨rfl, rfl⟩) rfl (sp_X6_trianglesOf v l σ k (by first | (first | assumption | omega) | fail) (by first | (first | assumption | omega) | fail) (by first | (first | assumption | omega) | fail) (by first | (first | assumption | omega) | fail)) ?_
      show mz_Wp shM none 139 (25, [some (.inr 30), some (.inl k), some (.inl (kind v k))], [.inl (dgr l k)], σ) _
      refine wp_go 3 hM (fr' := (28, [some (.inr 30), some (.inl k), some (.inl (kind v k))], [.inl ((kind v k) + 1), .inl (dgr l k)], σ)) rfl ?_
      refine wp_ic (tgt := 33) hM rfl (by decide) (by omega) (by omega) (fun c28 => ?_) (fun c28 => ?_)
      · replace c28 := cmp_eq_t c28
        first | (have hr0 := rto_0 (v := v) (l := l) c5 c17 c28) | skip
        first | (have hrt := rto0 hr0) | skip
        first | (obtain ⟨p9, hG9, -, -, hDg9, -⟩ := id h3) | skip
        first | (obtain ⟨x, y, z, r9, hO⟩ := out_dat hG9 hDg9 c5 (kind_4 c17) hrt.2.2) | skip
        first | (have hJ := JX_of hG9 hO) | skip
        first | (have hoe := OD_e hO) | skip
        first | (have mx := lk_M hT hDs hoe.1.1) | skip
        first | (have mz := lk_M hT hDs hoe.1.2) | skip
        first | (have hxyz : (0 ≤ x ∧ x < v 0 2) ∧ (0 ≤ y ∧ y < v 0 2) ∧ (0 ≤ z ∧ z < v 0 2) := ⟨mx.1, mx.2.1, mz.2.1⟩) | skip
        refine wp_go 1 hM (fr' := (34, [some (.inr 30), some (.inl k), some (.inl (kind v k))], [.inr 30], σ)) rfl ?_
        refine wp_call (v := 0) (idx := 131) (j := 106) (N := mtX6_keeps) (as := [.inr 30]) (rest := []) hM rfl (Or.inl ⟨rfl, rfl⟩) rfl (sp_X6_keeps  σ  ) ?_
        rintro r0 σ_34 ⟨rfl, hk_34, hf_34⟩
        show mz_Wp shM none 139 (37, [some (.inr 30), some (.inl k), some (.inl (kind v k))], [], σ_34) _
        first | (have hA4 : MA σ_34 v l := MA_ext h0 (fun i hi => hf_34 30 i (by omega) (by omega)) (fun c hc i => hf_34 c i (by omega) (by omega))) | skip
        refine wp_go 2 hM (fr' := (39, [some (.inr 30), some (.inl k), some (.inl (kind v k))], [.inl k, .inr 30], σ_34)) rfl ?_
        refine wp_call (v := 0) (idx := 176) (j := 137) (N := mtX6_joins) (as := [.inr 30, .inl k]) (rest := []) hM rfl (Or.inl ⟨rfl, rfl⟩) rfl (sp_X6_joins v l x y z σ_34 k (by first | (first | assumption | exact hA4 | exact hB | exact hJ | omega) | fail) (by first | (first | assumption | exact hA4 | exact hB | exact hJ | omega) | fail) (by first | (first | assumption | exact hA4 | exact hB | exact hJ | omega) | fail) (by first | (first | assumption | exact hA4 | exact hB | exact hJ | omega) | fail) (by first | (first | assumption | exact hA4 | exact hB | exact hJ | omega) | fail) (by first | (first | assumption | exact hA4 | exact hB | exact hJ | omega) | fail) (by first | (first | assumption | exact hA4 | exact hB | exact hJ | omega) | fail)) ?_
        rintro r0 σ_39 ⟨rfl, ⟨L_39, u_39, hA_39, hp_39, hu_39⟩, hf_39⟩
        show mz_Wp shM none 139 (42, [some (.inr 30), some (.inl k), some (.inl (kind v k))], [], σ_39) _
        first | (have hnw := out_new h3 hr0 hG9 hO hp_39 hu_39) | skip
        refine wp_go 1 hM (fr' := (43, [some (.inr 30), some (.inl k), some (.inl (kind v k))], [.inr 30], σ_39)) rfl ?_
        refine wp_calld (v := 0) (idx := 138) (j := 118) (N := mtX6_isFolded) (as := [.inr 30]) (rest := []) hM rfl (Or.inl ⟨rfl, rfl⟩) rfl (sp_X6_isFolded v L_39 σ_39  (by first | (first | exact hA_39 | exact hnw.1.1) | fail) (by first | (first | exact hA_39 | exact hnw.1.1) | fail)) ?_
        show mz_Wp shM none 139 (46, [some (.inr 30), some (.inl k), some (.inl (kind v k))], [.inl (b01 (fdd v L_39))], σ_39) _
        refine wp_if (tgt := 55) hM rfl (by decide) b01_R (fun c46 => ?_) (fun c46 => ?_)
        · replace c46 := b01_eq0 (cmp_eq_t c46)
          refine wp_go 2 hM (fr' := (57, [some (.inr 30), some (.inl k), some (.inl (kind v k))], [.inl k, .inr 30], σ_39)) rfl ?_
          refine wp_call (v := 0) (idx := 179) (j := 138) (N := mtX6_comesUp) (as := [.inr 30, .inl k]) (rest := []) hM rfl (Or.inl ⟨rfl, rfl⟩) rfl (sp_X6_comesUp v L_39 σ_39 k (by first | (first | exact hA_39 | exact hnw.1.1 | omega) | fail) (by first | (first | exact hA_39 | exact hnw.1.1 | omega) | fail) (by first | (first | exact hA_39 | exact hnw.1.1 | omega) | fail) (by first | (first | exact hA_39 | exact hnw.1.1 | omega) | fail) (by first | (first | exact hA_39 | exact hnw.1.1 | omega) | fail)) ?_
          rintro r0 σ_57 ⟨rfl, hA_57, hf_57⟩
          show mz_Wp shM none 139 (60, [some (.inr 30), some (.inl k), some (.inl (kind v k))], [], σ_57) _
          refine wp_go 1 hM (fr' := (61, [some (.inr 30), some (.inl k), some (.inl (kind v k))], [.inr 30], σ_57)) rfl ?_
          refine wp_call (v := 0) (idx := 145) (j := 115) (N := mtX6_sorts) (as := [.inr 30]) (rest := []) hM rfl (Or.inl ⟨rfl, rfl⟩) rfl (sp_X6_sorts (vcl v k) (L_39.map (cl1 k)) ((cov (lkOf l k) (l.filter (fun z => !decide (hasK z k)))).map (cl1 k)) σ_57  (by first | (exact hA_57) | fail) (by first | (exact hnw.2.1) | fail) (by first | (exact hnw.2.2.1) | fail) (by first | (exact hnw.2.2.2.1) | fail) (by first | (exact hnw.2.2.2.2) | fail)) ?_
          rintro r0 σ_61 ⟨rfl, hA_61, hf_61⟩
          show mz_Wp shM none 139 (64, [some (.inr 30), some (.inl k), some (.inl (kind v k))], [], σ_61) _
          refine wp_go 1 hM (fr' := (65, [some (.inr 30), some (.inl k), some (.inl (kind v k))], [.inl 0], σ_61)) rfl ?_
          refine wp_ret hM rfl (rfl) ?_
          refine ⟨by rw [hr0], ?_, fun c i p => (Fm_Fr hf_61 c i p).trans ((hf_57 c i p).trans ((Fm_Fr hf_39 c i p).trans (hf_34 c i (by omega) (by omega))))⟩
          unfold vOut lOut
          rw [if_pos hr0, if_pos hr0]
          exact hA_61
        · replace c46 := b01_ne0 (cmp_eq_f c46)
          first | (exact absurd c46 hnw.1.2.1) | fail
      · replace c28 := cmp_eq_f c28
        refine wp_go 1 hM (fr' := (32, [some (.inr 30), some (.inl k), some (.inl (kind v k))], [.inl 2], σ)) rfl ?_
        refine wp_ret hM rfl (rfl) ?_
        have hr1 := rto_2 h3 c5 (by first | exact Or.inl c17 | exact Or.inr c28)
        refine ⟨by rw [hr1], ?_, Fm.rf⟩
        unfold vOut lOut
        rw [hr1, if_neg (by decide), if_neg (by decide)]
        exact h0
  · replace c5 := b01_eq0 (cmp_ne_f c5)
    refine wp_go 1 hM (fr' := (9, [some (.inr 30), some (.inl k), none], [.inl 1], σ)) rfl ?_
    refine wp_ret hM rfl (rfl) ?_
    have hr1 := rto_1 (v := v) (l := l) c5
    refine ⟨by rw [hr1], ?_, Fm.rf⟩
    unfold vOut lOut
    rw [hr1, if_neg (by decide), if_neg (by decide)]
    exact h0
