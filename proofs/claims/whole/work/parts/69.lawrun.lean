/-! the law's loop: the class and the reference hold one state, and answer alike -/
def LSw (σ : mz_G) : Prop := ∃ v l, CS σ v l ∧ MA σ v l ∧ GD v l
theorem MA_fk {σ σ' v : mz_G} {l : List tr3} (h : MA σ v l) (hf : Fk σ σ') : MA σ' v l := MA_ext h (fun i _ => hf 30 i (by omega)) (fun c hc i => hf c i (by omega))
theorem CS_fm {σ σ' v : mz_G} {l : List tr3} (h : CS σ v l) (hf : Fm σ σ') : CS σ' v l := CS_ext h (fun c i a _ => hf c i (by omega))
theorem law_i6 {v : mz_G} {l : List tr3} {a b : Int} (h : GD v l) : dot v a b → ¬ ish v a b → ((lhOf v l a b).length : Int) ≤ 60 ∧ ((l.filter (fun z => !decide (hol v 0 z a b))).length : Int) + ((lhOf v l a b).length : Int) ≤ 60 := by
  intro hd hi
  have hgl := GD_len h
  obtain ⟨p, hG, -⟩ := id h
  have e := inl_len hG hd (ish_no hi)
  have b1 := b01_01 (P := a < v 0 0 - 1 ∧ b < v 0 1 - 1)
  have b2 := b01_01 (P := 0 < a ∧ 0 < b)
  omega
theorem law_t4 {v : mz_G} {l : List tr3} {a b : Int} (h : GD v l) : rtt v l a b = 0 → ((l.filter (fun z => !decide (hasK z a ∧ hasK z b))).length : Int) ≤ 58 := by
  intro hr
  have hgl := GD_len h
  obtain ⟨p, hG, -⟩ := id h
  have e := (tur_dat hG hr).2.2.2.length_eq
  simp only [List.length_cons] at e
  omega
set_option maxRecDepth 100000 in
set_option maxHeartbeats 40000000 in
theorem law_run {L : Nat} {xs : Nat → Int} (hL : L ≤ 2560) (hxs : ∀ j, mz_R (xs j)) (σ : mz_G) (h : LSw σ) : mz_Wp shF (some (L, xs)) 183 (16, [some (.inr 1000), some (.inr 0), some (.inr 30), none], [], σ) (fun r σ' => r = some 1) := by
  have hM : mz_meth[183]? = some mtL_law := rfl
  refine wp_go 2 hM (fr' := (18, [some (.inr 1000), some (.inr 0), some (.inr 30), some (.inl 0)], [], σ)) rfl ?_
  have loop18 : ∀ (fuel : Nat) (i : Int) (σ1 : mz_G), (0 ≤ i) → (i ≤ (L : Int) + 5) → (LSw σ1) → (((L : Int) + 5 - i : Int) < fuel) → mz_Wp shF (some (L, xs)) 183 (18, [some (.inr 1000), some (.inr 0), some (.inr 30), some (.inl i)], [], σ1) (fun r σ' => r = some 1) := by
    intro fuel
    induction fuel with
    | zero =>
      intro i σ1 hv18_0 hv18_1 hv18_2 hf18
      exfalso
      omega
    | succ fuel ih18 =>
      intro i σ1 hv18_0 hv18_1 hv18_2 hf18
      obtain ⟨v, l, hS, hA, hGD⟩ := hv18_2
      have hGO := GD_GO hGD
      refine wp_go 5 hM (fr' := (23, [some (.inr 1000), some (.inr 0), some (.inr 30), some (.inl i)], [.inl ((L : Int) - 5), .inl i], σ1)) rfl ?_
      refine wp_ic (tgt := 1122) hM rfl (by decide) (by omega) (by omega) (fun c23 => ?_) (fun c23 => ?_)
      · replace c23 := cmp_gt_t c23
        refine wp_go 1 hM (fr' := (1123, [some (.inr 1000), some (.inr 0), some (.inr 30), some (.inl i)], [.inl 1], σ1)) rfl ?_
        refine wp_ret hM rfl (rfl) ?_
        first | (exact rfl) | fail
      · replace c23 := cmp_gt_f c23
        refine wp_go 2 hM (fr' := (28, [some (.inr 1000), some (.inr 0), some (.inr 30), some (.inl i)], [.inl i, .inr 1000], σ1)) rfl ?_
        refine wp_sc hM rfl (by omega) (by omega) (by omega) ?_
        refine wp_go 2 hM (fr' := (32, [some (.inr 1000), some (.inr 0), some (.inr 30), some (.inl i)], [.inl ((xs (i).toNat) % 32)], σ1)) rfl ?_
        have hR32 : mz_R ((xs (i).toNat) % 32) := by omega
        rcases (show ((xs (i).toNat) % 32) = 0 ∨ ((xs (i).toNat) % 32) = 1 ∨ ((xs (i).toNat) % 32) = 2 ∨ ((xs (i).toNat) % 32) = 3 ∨ ((xs (i).toNat) % 32) = 4 ∨ ((xs (i).toNat) % 32) = 5 ∨ ((xs (i).toNat) % 32) = 6 ∨ ((xs (i).toNat) % 32) = 7 ∨ ((xs (i).toNat) % 32) = 8 ∨ ((xs (i).toNat) % 32) = 9 ∨ ((xs (i).toNat) % 32) = 10 ∨ ((xs (i).toNat) % 32) = 11 ∨ ((xs (i).toNat) % 32) = 12 ∨ ((xs (i).toNat) % 32) = 13 ∨ ((xs (i).toNat) % 32) = 14 ∨ ((xs (i).toNat) % 32) = 15 ∨ ((xs (i).toNat) % 32) = 16 ∨ ((xs (i).toNat) % 32) = 17 ∨ ((xs (i).toNat) % 32) = 18 ∨ ((xs (i).toNat) % 32) = 19 ∨ ((xs (i).toNat) % 32) = 20 ∨ ((xs (i).toNat) % 32) = 21 ∨ ((xs (i).toNat) % 32) = 22 ∨ ((xs (i).toNat) % 32) = 23 ∨ ((xs (i).toNat) % 32) = 24 ∨ ((xs (i).toNat) % 32) = 25 ∨ ((xs (i).toNat) % 32) = 26 ∨ ((xs (i).toNat) % 32) = 27 ∨ (((xs (i).toNat) % 32) < 0 ∨ 27 < ((xs (i).toNat) % 32)) by omega) with c32 | c32 | c32 | c32 | c32 | c32 | c32 | c32 | c32 | c32 | c32 | c32 | c32 | c32 | c32 | c32 | c32 | c32 | c32 | c32 | c32 | c32 | c32 | c32 | c32 | c32 | c32 | c32 | c32
        · refine wp_tsi (tgt := 160) (off := 128) hM rfl hR32 (by omega) (by rw [c32]; rfl) (by decide) ?_
          refine wp_go 5 hM (fr' := (165, [some (.inr 1000), some (.inr 0), some (.inr 30), some (.inl i)], [.inl (i + 1), .inr 1000, .inr 0], σ1)) rfl ?_
          refine wp_sc hM rfl (by omega) (by omega) (by omega) ?_
          refine wp_go 4 hM (fr' := (170, [some (.inr 1000), some (.inr 0), some (.inr 30), some (.inl i)], [.inl (i + 2), .inr 1000, .inl (xs (i + 1).toNat), .inr 0], σ1)) rfl ?_
          refine wp_sc hM rfl (by omega) (by omega) (by omega) ?_
          refine wp_call (v := 0) (idx := 13) (j := 64) (N := mtX5_size) (as := [.inr 0, .inl (xs (i + 1).toNat), .inl (xs (i + 2).toNat)]) (rest := []) hM rfl (Or.inl ⟨rfl, rfl⟩) rfl (Cl_A (sp_X5_size v l σ1 (xs (i + 1).toNat) (xs (i + 2).toNat) (by first | assumption | exact hxs _ | decide | exact GD_GO (GD_wea hGD) | exact GD_EU hGD | exact law_i6 hGD | exact law_t4 hGD) (by first | assumption | exact hxs _ | decide | exact GD_GO (GD_wea hGD) | exact GD_EU hGD | exact law_i6 hGD | exact law_t4 hGD) (by first | assumption | exact hxs _ | decide | exact GD_GO (GD_wea hGD) | exact GD_EU hGD | exact law_i6 hGD | exact law_t4 hGD) (by first | assumption | exact hxs _ | decide | exact GD_GO (GD_wea hGD) | exact GD_EU hGD | exact law_i6 hGD | exact law_t4 hGD))) ?_
          rintro r0 σ_171 ⟨rfl, hS_171, hk_171⟩
          show mz_Wp shF (some (L, xs)) 183 (174, [some (.inr 1000), some (.inr 0), some (.inr 30), some (.inl i)], [.inl (b01 (szo (xs (i + 1).toNat) (xs (i + 2).toNat)))], σ_171) _
          first | (have hA_171 : MA σ_171 v l := MA_fk hA hk_171) | skip
          refine wp_go 5 hM (fr' := (179, [some (.inr 1000), some (.inr 0), some (.inr 30), some (.inl i)], [.inl (i + 1), .inr 1000, .inr 30, .inl (b01 (szo (xs (i + 1).toNat) (xs (i + 2).toNat)))], σ_171)) rfl ?_
          refine wp_sc hM rfl (by omega) (by omega) (by omega) ?_
          refine wp_go 4 hM (fr' := (184, [some (.inr 1000), some (.inr 0), some (.inr 30), some (.inl i)], [.inl (i + 2), .inr 1000, .inl (xs (i + 1).toNat), .inr 30, .inl (b01 (szo (xs (i + 1).toNat) (xs (i + 2).toNat)))], σ_171)) rfl ?_
          refine wp_sc hM rfl (by omega) (by omega) (by omega) ?_
          refine wp_call (v := 0) (idx := 17) (j := 144) (N := mtX6_size) (as := [.inr 30, .inl (xs (i + 1).toNat), .inl (xs (i + 2).toNat)]) (rest := [.inl (b01 (szo (xs (i + 1).toNat) (xs (i + 2).toNat)))]) hM rfl (Or.inl ⟨rfl, rfl⟩) rfl (Cl_M (sp_X6_size v l σ_171 (xs (i + 1).toNat) (xs (i + 2).toNat) (by first | assumption | exact hxs _ | decide | exact GD_GO (GD_wea hGD) | exact GD_EU hGD | exact law_i6 hGD | exact law_t4 hGD) (by first | assumption | exact hxs _ | decide | exact GD_GO (GD_wea hGD) | exact GD_EU hGD | exact law_i6 hGD | exact law_t4 hGD) (by first | assumption | exact hxs _ | decide | exact GD_GO (GD_wea hGD) | exact GD_EU hGD | exact law_i6 hGD | exact law_t4 hGD) (by first | assumption | exact hxs _ | decide | exact GD_GO (GD_wea hGD) | exact GD_EU hGD | exact law_i6 hGD | exact law_t4 hGD))) ?_
          rintro r0 σ_185 ⟨rfl, hA_185, hf_185⟩
          show mz_Wp shF (some (L, xs)) 183 (188, [some (.inr 1000), some (.inr 0), some (.inr 30), some (.inl i)], [.inl (b01 (szo (xs (i + 1).toNat) (xs (i + 2).toNat))), .inl (b01 (szo (xs (i + 1).toNat) (xs (i + 2).toNat)))], σ_185) _
          first | (have hLS : LSw σ_185 := ⟨_, _, CS_fm hS_171 hf_185, hA_185, GD_siz hGD⟩) | skip
          refine wp_ice (tgt := 1116) hM rfl (by decide) (by first | rfl | exact absurd c275 c302 | exact absurd c302 c275 | exact absurd c644 c671 | exact absurd c671 c644) ?_
          refine wp_go 2 hM (fr' := (18, [some (.inr 1000), some (.inr 0), some (.inr 30), some (.inl (i + 5))], [], σ_185)) rfl ?_
          exact ih18 (i + 5) σ_185 (by omega) (by omega) (by first | (first | exact hLS | exact ⟨v, l, hS, hA, hGD⟩) | fail) (by omega)
        · refine wp_tsi (tgt := 193) (off := 161) hM rfl hR32 (by omega) (by rw [c32]; rfl) (by decide) ?_
          refine wp_go 5 hM (fr' := (198, [some (.inr 1000), some (.inr 0), some (.inr 30), some (.inl i)], [.inl (i + 1), .inr 1000, .inr 0], σ1)) rfl ?_
          refine wp_sc hM rfl (by omega) (by omega) (by omega) ?_
          refine wp_go 4 hM (fr' := (203, [some (.inr 1000), some (.inr 0), some (.inr 30), some (.inl i)], [.inl (i + 2), .inr 1000, .inl (xs (i + 1).toNat), .inr 0], σ1)) rfl ?_
          refine wp_sc hM rfl (by omega) (by omega) (by omega) ?_
          refine wp_go 4 hM (fr' := (208, [some (.inr 1000), some (.inr 0), some (.inr 30), some (.inl i)], [.inl (i + 3), .inr 1000, .inl (xs (i + 2).toNat), .inl (xs (i + 1).toNat), .inr 0], σ1)) rfl ?_
          refine wp_sc hM rfl (by omega) (by omega) (by omega) ?_
          refine wp_call (v := 0) (idx := 18) (j := 65) (N := mtX5_paint) (as := [.inr 0, .inl (xs (i + 1).toNat), .inl (xs (i + 2).toNat), .inl (xs (i + 3).toNat)]) (rest := []) hM rfl (Or.inl ⟨rfl, rfl⟩) rfl (Cl_A (sp_X5_paint v l σ1 (xs (i + 1).toNat) (xs (i + 2).toNat) (xs (i + 3).toNat) (by first | assumption | exact hxs _ | decide | exact GD_GO (GD_wea hGD) | exact GD_EU hGD | exact law_i6 hGD | exact law_t4 hGD) (by first | assumption | exact hxs _ | decide | exact GD_GO (GD_wea hGD) | exact GD_EU hGD | exact law_i6 hGD | exact law_t4 hGD) (by first | assumption | exact hxs _ | decide | exact GD_GO (GD_wea hGD) | exact GD_EU hGD | exact law_i6 hGD | exact law_t4 hGD) (by first | assumption | exact hxs _ | decide | exact GD_GO (GD_wea hGD) | exact GD_EU hGD | exact law_i6 hGD | exact law_t4 hGD) (by first | assumption | exact hxs _ | decide | exact GD_GO (GD_wea hGD) | exact GD_EU hGD | exact law_i6 hGD | exact law_t4 hGD))) ?_
          rintro r0 σ_209 ⟨rfl, hS_209, hk_209⟩
          show mz_Wp shF (some (L, xs)) 183 (212, [some (.inr 1000), some (.inr 0), some (.inr 30), some (.inl i)], [.inl (aPai v (xs (i + 1).toNat) (xs (i + 2).toNat) (xs (i + 3).toNat))], σ_209) _
          first | (have hA_209 : MA σ_209 v l := MA_fk hA hk_209) | skip
          refine wp_go 5 hM (fr' := (217, [some (.inr 1000), some (.inr 0), some (.inr 30), some (.inl i)], [.inl (i + 1), .inr 1000, .inr 30, .inl (aPai v (xs (i + 1).toNat) (xs (i + 2).toNat) (xs (i + 3).toNat))], σ_209)) rfl ?_
          refine wp_sc hM rfl (by omega) (by omega) (by omega) ?_
          refine wp_go 4 hM (fr' := (222, [some (.inr 1000), some (.inr 0), some (.inr 30), some (.inl i)], [.inl (i + 2), .inr 1000, .inl (xs (i + 1).toNat), .inr 30, .inl (aPai v (xs (i + 1).toNat) (xs (i + 2).toNat) (xs (i + 3).toNat))], σ_209)) rfl ?_
          refine wp_sc hM rfl (by omega) (by omega) (by omega) ?_
          refine wp_go 4 hM (fr' := (227, [some (.inr 1000), some (.inr 0), some (.inr 30), some (.inl i)], [.inl (i + 3), .inr 1000, .inl (xs (i + 2).toNat), .inl (xs (i + 1).toNat), .inr 30, .inl (aPai v (xs (i + 1).toNat) (xs (i + 2).toNat) (xs (i + 3).toNat))], σ_209)) rfl ?_
          refine wp_sc hM rfl (by omega) (by omega) (by omega) ?_
          refine wp_call (v := 0) (idx := 22) (j := 145) (N := mtX6_paint) (as := [.inr 30, .inl (xs (i + 1).toNat), .inl (xs (i + 2).toNat), .inl (xs (i + 3).toNat)]) (rest := [.inl (aPai v (xs (i + 1).toNat) (xs (i + 2).toNat) (xs (i + 3).toNat))]) hM rfl (Or.inl ⟨rfl, rfl⟩) rfl (Cl_M (sp_X6_paint v l σ_209 (xs (i + 1).toNat) (xs (i + 2).toNat) (xs (i + 3).toNat) (by first | assumption | exact hxs _ | decide | exact GD_GO (GD_wea hGD) | exact GD_EU hGD | exact law_i6 hGD | exact law_t4 hGD) (by first | assumption | exact hxs _ | decide | exact GD_GO (GD_wea hGD) | exact GD_EU hGD | exact law_i6 hGD | exact law_t4 hGD) (by first | assumption | exact hxs _ | decide | exact GD_GO (GD_wea hGD) | exact GD_EU hGD | exact law_i6 hGD | exact law_t4 hGD) (by first | assumption | exact hxs _ | decide | exact GD_GO (GD_wea hGD) | exact GD_EU hGD | exact law_i6 hGD | exact law_t4 hGD) (by first | assumption | exact hxs _ | decide | exact GD_GO (GD_wea hGD) | exact GD_EU hGD | exact law_i6 hGD | exact law_t4 hGD))) ?_
          rintro r0 σ_228 ⟨rfl, hA_228, hf_228⟩
          show mz_Wp shF (some (L, xs)) 183 (231, [some (.inr 1000), some (.inr 0), some (.inr 30), some (.inl i)], [.inl (aPai v (xs (i + 1).toNat) (xs (i + 2).toNat) (xs (i + 3).toNat)), .inl (aPai v (xs (i + 1).toNat) (xs (i + 2).toNat) (xs (i + 3).toNat))], σ_228) _
          first | (have hLS : LSw σ_228 := ⟨_, _, CS_fm hS_209 hf_228, hA_228, GD_pai hGD⟩) | skip
          refine wp_ice (tgt := 1116) hM rfl (by decide) (by first | rfl | exact absurd c275 c302 | exact absurd c302 c275 | exact absurd c644 c671 | exact absurd c671 c644) ?_
          refine wp_go 2 hM (fr' := (18, [some (.inr 1000), some (.inr 0), some (.inr 30), some (.inl (i + 5))], [], σ_228)) rfl ?_
          exact ih18 (i + 5) σ_228 (by omega) (by omega) (by first | (first | exact hLS | exact ⟨v, l, hS, hA, hGD⟩) | fail) (by omega)
        · refine wp_tsi (tgt := 236) (off := 204) hM rfl hR32 (by omega) (by rw [c32]; rfl) (by decide) ?_
          refine wp_go 5 hM (fr' := (241, [some (.inr 1000), some (.inr 0), some (.inr 30), some (.inl i)], [.inl (i + 1), .inr 1000, .inr 0], σ1)) rfl ?_
          refine wp_sc hM rfl (by omega) (by omega) (by omega) ?_
          refine wp_call (v := 0) (idx := 23) (j := 66) (N := mtX5_weave) (as := [.inr 0, .inl (xs (i + 1).toNat)]) (rest := []) hM rfl (Or.inl ⟨rfl, rfl⟩) rfl (Cl_A (sp_X5_weave v l σ1 (xs (i + 1).toNat) (by first | assumption | exact hxs _ | decide | exact GD_GO (GD_wea hGD) | exact GD_EU hGD | exact law_i6 hGD | exact law_t4 hGD) (by first | assumption | exact hxs _ | decide | exact GD_GO (GD_wea hGD) | exact GD_EU hGD | exact law_i6 hGD | exact law_t4 hGD) (by first | assumption | exact hxs _ | decide | exact GD_GO (GD_wea hGD) | exact GD_EU hGD | exact law_i6 hGD | exact law_t4 hGD) (by first | assumption | exact hxs _ | decide | exact GD_GO (GD_wea hGD) | exact GD_EU hGD | exact law_i6 hGD | exact law_t4 hGD))) ?_
          rintro r0 σ_242 ⟨rfl, hS_242, hk_242⟩
          show mz_Wp shF (some (L, xs)) 183 (245, [some (.inr 1000), some (.inr 0), some (.inr 30), some (.inl i)], [.inl (vsum (vWea v (xs (i + 1).toNat)))], σ_242) _
          first | (have hA_242 : MA σ_242 v l := MA_fk hA hk_242) | skip
          refine wp_go 5 hM (fr' := (250, [some (.inr 1000), some (.inr 0), some (.inr 30), some (.inl i)], [.inl (i + 1), .inr 1000, .inr 30, .inl (vsum (vWea v (xs (i + 1).toNat)))], σ_242)) rfl ?_
          refine wp_sc hM rfl (by omega) (by omega) (by omega) ?_
          refine wp_call (v := 0) (idx := 27) (j := 147) (N := mtX6_weave) (as := [.inr 30, .inl (xs (i + 1).toNat)]) (rest := [.inl (vsum (vWea v (xs (i + 1).toNat)))]) hM rfl (Or.inl ⟨rfl, rfl⟩) rfl (Cl_M (sp_X6_weave v l σ_242 (xs (i + 1).toNat) (by first | assumption | exact hxs _ | decide | exact GD_GO (GD_wea hGD) | exact GD_EU hGD | exact law_i6 hGD | exact law_t4 hGD) (by first | assumption | exact hxs _ | decide | exact GD_GO (GD_wea hGD) | exact GD_EU hGD | exact law_i6 hGD | exact law_t4 hGD) (by first | assumption | exact hxs _ | decide | exact GD_GO (GD_wea hGD) | exact GD_EU hGD | exact law_i6 hGD | exact law_t4 hGD) (by first | assumption | exact hxs _ | decide | exact GD_GO (GD_wea hGD) | exact GD_EU hGD | exact law_i6 hGD | exact law_t4 hGD))) ?_
          rintro r0 σ_251 ⟨rfl, hA_251, hf_251⟩
          show mz_Wp shF (some (L, xs)) 183 (254, [some (.inr 1000), some (.inr 0), some (.inr 30), some (.inl i)], [.inl (vsum (vWea v (xs (i + 1).toNat))), .inl (vsum (vWea v (xs (i + 1).toNat)))], σ_251) _
          first | (have hLS : LSw σ_251 := ⟨_, _, CS_fm hS_242 hf_251, hA_251, GD_wea hGD⟩) | skip
          refine wp_ice (tgt := 1116) hM rfl (by decide) (by first | rfl | exact absurd c275 c302 | exact absurd c302 c275 | exact absurd c644 c671 | exact absurd c671 c644) ?_
          refine wp_go 2 hM (fr' := (18, [some (.inr 1000), some (.inr 0), some (.inr 30), some (.inl (i + 5))], [], σ_251)) rfl ?_
          exact ih18 (i + 5) σ_251 (by omega) (by omega) (by first | (first | exact hLS | exact ⟨v, l, hS, hA, hGD⟩) | fail) (by omega)
        · refine wp_tsi (tgt := 259) (off := 227) hM rfl hR32 (by omega) (by rw [c32]; rfl) (by decide) ?_
          refine wp_go 5 hM (fr' := (264, [some (.inr 1000), some (.inr 0), some (.inr 30), some (.inl i)], [.inl (i + 1), .inr 1000, .inr 0], σ1)) rfl ?_
          refine wp_sc hM rfl (by omega) (by omega) (by omega) ?_
          refine wp_go 4 hM (fr' := (269, [some (.inr 1000), some (.inr 0), some (.inr 30), some (.inl i)], [.inl (i + 2), .inr 1000, .inl (xs (i + 1).toNat), .inr 0], σ1)) rfl ?_
          refine wp_sc hM rfl (by omega) (by omega) (by omega) ?_
          refine wp_go 4 hM (fr' := (274, [some (.inr 1000), some (.inr 0), some (.inr 30), some (.inl i)], [.inl (i + 3), .inr 1000, .inl (xs (i + 2).toNat), .inl (xs (i + 1).toNat), .inr 0], σ1)) rfl ?_
          refine wp_sc hM rfl (by omega) (by omega) (by omega) ?_
          refine wp_if (tgt := 282) hM rfl (by decide) (by first | (exact hxs _) | fail) (fun c275 => ?_) (fun c275 => ?_)
          · replace c275 := cmp_eq_t c275
            refine wp_go 1 hM (fr' := (283, [some (.inr 1000), some (.inr 0), some (.inr 30), some (.inl i)], [.inl 0, .inl (xs (i + 2).toNat), .inl (xs (i + 1).toNat), .inr 0], σ1)) rfl ?_
            refine wp_call (v := 0) (idx := 28) (j := 67) (N := mtX5_value) (as := [.inr 0, .inl (xs (i + 1).toNat), .inl (xs (i + 2).toNat), .inl 0]) (rest := []) hM rfl (Or.inl ⟨rfl, rfl⟩) rfl (Cl_A (sp_X5_value v l σ1 (xs (i + 1).toNat) (xs (i + 2).toNat) 0 (by first | assumption | exact hxs _ | decide | exact GD_GO (GD_wea hGD) | exact GD_EU hGD | exact law_i6 hGD | exact law_t4 hGD) (by first | assumption | exact hxs _ | decide | exact GD_GO (GD_wea hGD) | exact GD_EU hGD | exact law_i6 hGD | exact law_t4 hGD) (by first | assumption | exact hxs _ | decide | exact GD_GO (GD_wea hGD) | exact GD_EU hGD | exact law_i6 hGD | exact law_t4 hGD) (by first | assumption | exact hxs _ | decide | exact GD_GO (GD_wea hGD) | exact GD_EU hGD | exact law_i6 hGD | exact law_t4 hGD) (by first | assumption | exact hxs _ | decide | exact GD_GO (GD_wea hGD) | exact GD_EU hGD | exact law_i6 hGD | exact law_t4 hGD))) ?_
            rintro r0 σ_283 ⟨rfl, hS_283, hk_283⟩
            show mz_Wp shF (some (L, xs)) 183 (286, [some (.inr 1000), some (.inr 0), some (.inr 30), some (.inl i)], [.inl (aVal v l (xs (i + 1).toNat) (xs (i + 2).toNat) 0)], σ_283) _
            first | (have hA_283 : MA σ_283 v l := MA_fk hA hk_283) | skip
            refine wp_go 5 hM (fr' := (291, [some (.inr 1000), some (.inr 0), some (.inr 30), some (.inl i)], [.inl (i + 1), .inr 1000, .inr 30, .inl (aVal v l (xs (i + 1).toNat) (xs (i + 2).toNat) 0)], σ_283)) rfl ?_
            refine wp_sc hM rfl (by omega) (by omega) (by omega) ?_
            refine wp_go 4 hM (fr' := (296, [some (.inr 1000), some (.inr 0), some (.inr 30), some (.inl i)], [.inl (i + 2), .inr 1000, .inl (xs (i + 1).toNat), .inr 30, .inl (aVal v l (xs (i + 1).toNat) (xs (i + 2).toNat) 0)], σ_283)) rfl ?_
            refine wp_sc hM rfl (by omega) (by omega) (by omega) ?_
            refine wp_go 4 hM (fr' := (301, [some (.inr 1000), some (.inr 0), some (.inr 30), some (.inl i)], [.inl (i + 3), .inr 1000, .inl (xs (i + 2).toNat), .inl (xs (i + 1).toNat), .inr 30, .inl (aVal v l (xs (i + 1).toNat) (xs (i + 2).toNat) 0)], σ_283)) rfl ?_
            refine wp_sc hM rfl (by omega) (by omega) (by omega) ?_
            refine wp_if (tgt := 309) hM rfl (by decide) (by first | (exact hxs _) | fail) (fun c302 => ?_) (fun c302 => ?_)
            · replace c302 := cmp_eq_t c302
              refine wp_go 1 hM (fr' := (310, [some (.inr 1000), some (.inr 0), some (.inr 30), some (.inl i)], [.inl 0, .inl (xs (i + 2).toNat), .inl (xs (i + 1).toNat), .inr 30, .inl (aVal v l (xs (i + 1).toNat) (xs (i + 2).toNat) 0)], σ_283)) rfl ?_
              refine wp_call (v := 0) (idx := 32) (j := 148) (N := mtX6_value) (as := [.inr 30, .inl (xs (i + 1).toNat), .inl (xs (i + 2).toNat), .inl 0]) (rest := [.inl (aVal v l (xs (i + 1).toNat) (xs (i + 2).toNat) 0)]) hM rfl (Or.inl ⟨rfl, rfl⟩) rfl (Cl_M (sp_X6_value_0 v l σ_283 (xs (i + 1).toNat) (xs (i + 2).toNat) (by first | assumption | exact hxs _ | decide | exact GD_GO (GD_wea hGD) | exact GD_EU hGD | exact law_i6 hGD | exact law_t4 hGD) (by first | assumption | exact hxs _ | decide | exact GD_GO (GD_wea hGD) | exact GD_EU hGD | exact law_i6 hGD | exact law_t4 hGD) (by first | assumption | exact hxs _ | decide | exact GD_GO (GD_wea hGD) | exact GD_EU hGD | exact law_i6 hGD | exact law_t4 hGD) (by first | assumption | exact hxs _ | decide | exact GD_GO (GD_wea hGD) | exact GD_EU hGD | exact law_i6 hGD | exact law_t4 hGD))) ?_
              rintro r0 σ_310 ⟨rfl, hA_310, hf_310⟩
              show mz_Wp shF (some (L, xs)) 183 (313, [some (.inr 1000), some (.inr 0), some (.inr 30), some (.inl i)], [.inl (aVal v l (xs (i + 1).toNat) (xs (i + 2).toNat) 0), .inl (aVal v l (xs (i + 1).toNat) (xs (i + 2).toNat) 0)], σ_310) _
              first | (have hLS : LSw σ_310 := ⟨_, _, CS_fm hS_283 hf_310, hA_310, hGD⟩) | skip
              refine wp_ice (tgt := 1116) hM rfl (by decide) (by first | rfl | exact absurd c275 c302 | exact absurd c302 c275 | exact absurd c644 c671 | exact absurd c671 c644) ?_
              refine wp_go 2 hM (fr' := (18, [some (.inr 1000), some (.inr 0), some (.inr 30), some (.inl (i + 5))], [], σ_310)) rfl ?_
              exact ih18 (i + 5) σ_310 (by omega) (by omega) (by first | (first | exact hLS | exact ⟨v, l, hS, hA, hGD⟩) | fail) (by omega)
            · replace c302 := cmp_eq_f c302
              refine wp_go 2 hM (fr' := (310, [some (.inr 1000), some (.inr 0), some (.inr 30), some (.inl i)], [.inl 1, .inl (xs (i + 2).toNat), .inl (xs (i + 1).toNat), .inr 30, .inl (aVal v l (xs (i + 1).toNat) (xs (i + 2).toNat) 0)], σ_283)) rfl ?_
              refine wp_call (v := 0) (idx := 32) (j := 148) (N := mtX6_value) (as := [.inr 30, .inl (xs (i + 1).toNat), .inl (xs (i + 2).toNat), .inl 1]) (rest := [.inl (aVal v l (xs (i + 1).toNat) (xs (i + 2).toNat) 0)]) hM rfl (Or.inl ⟨rfl, rfl⟩) rfl (Cl_M (sp_X6_value_1 v l σ_283 (xs (i + 1).toNat) (xs (i + 2).toNat) (by first | assumption | exact hxs _ | decide | exact GD_GO (GD_wea hGD) | exact GD_EU hGD | exact law_i6 hGD | exact law_t4 hGD) (by first | assumption | exact hxs _ | decide | exact GD_GO (GD_wea hGD) | exact GD_EU hGD | exact law_i6 hGD | exact law_t4 hGD) (by first | assumption | exact hxs _ | decide | exact GD_GO (GD_wea hGD) | exact GD_EU hGD | exact law_i6 hGD | exact law_t4 hGD) (by first | assumption | exact hxs _ | decide | exact GD_GO (GD_wea hGD) | exact GD_EU hGD | exact law_i6 hGD | exact law_t4 hGD))) ?_
              rintro r0 σ_310 ⟨rfl, hA_310, hf_310⟩
              show mz_Wp shF (some (L, xs)) 183 (313, [some (.inr 1000), some (.inr 0), some (.inr 30), some (.inl i)], [.inl (aVal v l (xs (i + 1).toNat) (xs (i + 2).toNat) 1), .inl (aVal v l (xs (i + 1).toNat) (xs (i + 2).toNat) 0)], σ_310) _
              first | (have hLS : LSw σ_310 := ⟨_, _, CS_fm hS_283 hf_310, hA_310, hGD⟩) | skip
              refine wp_ice (tgt := 1116) hM rfl (by decide) (by first | rfl | exact absurd c275 c302 | exact absurd c302 c275 | exact absurd c644 c671 | exact absurd c671 c644) ?_
              refine wp_go 2 hM (fr' := (18, [some (.inr 1000), some (.inr 0), some (.inr 30), some (.inl (i + 5))], [], σ_310)) rfl ?_
              exact ih18 (i + 5) σ_310 (by omega) (by omega) (by first | (first | exact hLS | exact ⟨v, l, hS, hA, hGD⟩) | fail) (by omega)
          · replace c275 := cmp_eq_f c275
            refine wp_go 2 hM (fr' := (283, [some (.inr 1000), some (.inr 0), some (.inr 30), some (.inl i)], [.inl 1, .inl (xs (i + 2).toNat), .inl (xs (i + 1).toNat), .inr 0], σ1)) rfl ?_
            refine wp_call (v := 0) (idx := 28) (j := 67) (N := mtX5_value) (as := [.inr 0, .inl (xs (i + 1).toNat), .inl (xs (i + 2).toNat), .inl 1]) (rest := []) hM rfl (Or.inl ⟨rfl, rfl⟩) rfl (Cl_A (sp_X5_value v l σ1 (xs (i + 1).toNat) (xs (i + 2).toNat) 1 (by first | assumption | exact hxs _ | decide | exact GD_GO (GD_wea hGD) | exact GD_EU hGD | exact law_i6 hGD | exact law_t4 hGD) (by first | assumption | exact hxs _ | decide | exact GD_GO (GD_wea hGD) | exact GD_EU hGD | exact law_i6 hGD | exact law_t4 hGD) (by first | assumption | exact hxs _ | decide | exact GD_GO (GD_wea hGD) | exact GD_EU hGD | exact law_i6 hGD | exact law_t4 hGD) (by first | assumption | exact hxs _ | decide | exact GD_GO (GD_wea hGD) | exact GD_EU hGD | exact law_i6 hGD | exact law_t4 hGD) (by first | assumption | exact hxs _ | decide | exact GD_GO (GD_wea hGD) | exact GD_EU hGD | exact law_i6 hGD | exact law_t4 hGD))) ?_
            rintro r0 σ_283 ⟨rfl, hS_283, hk_283⟩
            show mz_Wp shF (some (L, xs)) 183 (286, [some (.inr 1000), some (.inr 0), some (.inr 30), some (.inl i)], [.inl (aVal v l (xs (i + 1).toNat) (xs (i + 2).toNat) 1)], σ_283) _
            first | (have hA_283 : MA σ_283 v l := MA_fk hA hk_283) | skip
            refine wp_go 5 hM (fr' := (291, [some (.inr 1000), some (.inr 0), some (.inr 30), some (.inl i)], [.inl (i + 1), .inr 1000, .inr 30, .inl (aVal v l (xs (i + 1).toNat) (xs (i + 2).toNat) 1)], σ_283)) rfl ?_
            refine wp_sc hM rfl (by omega) (by omega) (by omega) ?_
            refine wp_go 4 hM (fr' := (296, [some (.inr 1000), some (.inr 0), some (.inr 30), some (.inl i)], [.inl (i + 2), .inr 1000, .inl (xs (i + 1).toNat), .inr 30, .inl (aVal v l (xs (i + 1).toNat) (xs (i + 2).toNat) 1)], σ_283)) rfl ?_
            refine wp_sc hM rfl (by omega) (by omega) (by omega) ?_
            refine wp_go 4 hM (fr' := (301, [some (.inr 1000), some (.inr 0), some (.inr 30), some (.inl i)], [.inl (i + 3), .inr 1000, .inl (xs (i + 2).toNat), .inl (xs (i + 1).toNat), .inr 30, .inl (aVal v l (xs (i + 1).toNat) (xs (i + 2).toNat) 1)], σ_283)) rfl ?_
            refine wp_sc hM rfl (by omega) (by omega) (by omega) ?_
            refine wp_if (tgt := 309) hM rfl (by decide) (by first | (exact hxs _) | fail) (fun c302 => ?_) (fun c302 => ?_)
            · replace c302 := cmp_eq_t c302
              refine wp_go 1 hM (fr' := (310, [some (.inr 1000), some (.inr 0), some (.inr 30), some (.inl i)], [.inl 0, .inl (xs (i + 2).toNat), .inl (xs (i + 1).toNat), .inr 30, .inl (aVal v l (xs (i + 1).toNat) (xs (i + 2).toNat) 1)], σ_283)) rfl ?_
              refine wp_call (v := 0) (idx := 32) (j := 148) (N := mtX6_value) (as := [.inr 30, .inl (xs (i + 1).toNat), .inl (xs (i + 2).toNat), .inl 0]) (rest := [.inl (aVal v l (xs (i + 1).toNat) (xs (i + 2).toNat) 1)]) hM rfl (Or.inl ⟨rfl, rfl⟩) rfl (Cl_M (sp_X6_value_0 v l σ_283 (xs (i + 1).toNat) (xs (i + 2).toNat) (by first | assumption | exact hxs _ | decide | exact GD_GO (GD_wea hGD) | exact GD_EU hGD | exact law_i6 hGD | exact law_t4 hGD) (by first | assumption | exact hxs _ | decide | exact GD_GO (GD_wea hGD) | exact GD_EU hGD | exact law_i6 hGD | exact law_t4 hGD) (by first | assumption | exact hxs _ | decide | exact GD_GO (GD_wea hGD) | exact GD_EU hGD | exact law_i6 hGD | exact law_t4 hGD) (by first | assumption | exact hxs _ | decide | exact GD_GO (GD_wea hGD) | exact GD_EU hGD | exact law_i6 hGD | exact law_t4 hGD))) ?_
              rintro r0 σ_310 ⟨rfl, hA_310, hf_310⟩
              show mz_Wp shF (some (L, xs)) 183 (313, [some (.inr 1000), some (.inr 0), some (.inr 30), some (.inl i)], [.inl (aVal v l (xs (i + 1).toNat) (xs (i + 2).toNat) 0), .inl (aVal v l (xs (i + 1).toNat) (xs (i + 2).toNat) 1)], σ_310) _
              first | (have hLS : LSw σ_310 := ⟨_, _, CS_fm hS_283 hf_310, hA_310, hGD⟩) | skip
              refine wp_ice (tgt := 1116) hM rfl (by decide) (by first | rfl | exact absurd c275 c302 | exact absurd c302 c275 | exact absurd c644 c671 | exact absurd c671 c644) ?_
              refine wp_go 2 hM (fr' := (18, [some (.inr 1000), some (.inr 0), some (.inr 30), some (.inl (i + 5))], [], σ_310)) rfl ?_
              exact ih18 (i + 5) σ_310 (by omega) (by omega) (by first | (first | exact hLS | exact ⟨v, l, hS, hA, hGD⟩) | fail) (by omega)
            · replace c302 := cmp_eq_f c302
              refine wp_go 2 hM (fr' := (310, [some (.inr 1000), some (.inr 0), some (.inr 30), some (.inl i)], [.inl 1, .inl (xs (i + 2).toNat), .inl (xs (i + 1).toNat), .inr 30, .inl (aVal v l (xs (i + 1).toNat) (xs (i + 2).toNat) 1)], σ_283)) rfl ?_
              refine wp_call (v := 0) (idx := 32) (j := 148) (N := mtX6_value) (as := [.inr 30, .inl (xs (i + 1).toNat), .inl (xs (i + 2).toNat), .inl 1]) (rest := [.inl (aVal v l (xs (i + 1).toNat) (xs (i + 2).toNat) 1)]) hM rfl (Or.inl ⟨rfl, rfl⟩) rfl (Cl_M (sp_X6_value_1 v l σ_283 (xs (i + 1).toNat) (xs (i + 2).toNat) (by first | assumption | exact hxs _ | decide | exact GD_GO (GD_wea hGD) | exact GD_EU hGD | exact law_i6 hGD | exact law_t4 hGD) (by first | assumption | exact hxs _ | decide | exact GD_GO (GD_wea hGD) | exact GD_EU hGD | exact law_i6 hGD | exact law_t4 hGD) (by first | assumption | exact hxs _ | decide | exact GD_GO (GD_wea hGD) | exact GD_EU hGD | exact law_i6 hGD | exact law_t4 hGD) (by first | assumption | exact hxs _ | decide | exact GD_GO (GD_wea hGD) | exact GD_EU hGD | exact law_i6 hGD | exact law_t4 hGD))) ?_
              rintro r0 σ_310 ⟨rfl, hA_310, hf_310⟩
              show mz_Wp shF (some (L, xs)) 183 (313, [some (.inr 1000), some (.inr 0), some (.inr 30), some (.inl i)], [.inl (aVal v l (xs (i + 1).toNat) (xs (i + 2).toNat) 1), .inl (aVal v l (xs (i + 1).toNat) (xs (i + 2).toNat) 1)], σ_310) _
              first | (have hLS : LSw σ_310 := ⟨_, _, CS_fm hS_283 hf_310, hA_310, hGD⟩) | skip
              refine wp_ice (tgt := 1116) hM rfl (by decide) (by first | rfl | exact absurd c275 c302 | exact absurd c302 c275 | exact absurd c644 c671 | exact absurd c671 c644) ?_
              refine wp_go 2 hM (fr' := (18, [some (.inr 1000), some (.inr 0), some (.inr 30), some (.inl (i + 5))], [], σ_310)) rfl ?_
              exact ih18 (i + 5) σ_310 (by omega) (by omega) (by first | (first | exact hLS | exact ⟨v, l, hS, hA, hGD⟩) | fail) (by omega)
        · refine wp_tsi (tgt := 318) (off := 286) hM rfl hR32 (by omega) (by rw [c32]; rfl) (by decide) ?_
          refine wp_go 5 hM (fr' := (323, [some (.inr 1000), some (.inr 0), some (.inr 30), some (.inl i)], [.inl (i + 1), .inr 1000, .inr 0], σ1)) rfl ?_
          refine wp_sc hM rfl (by omega) (by omega) (by omega) ?_
          refine wp_go 4 hM (fr' := (328, [some (.inr 1000), some (.inr 0), some (.inr 30), some (.inl i)], [.inl (i + 2), .inr 1000, .inl (xs (i + 1).toNat), .inr 0], σ1)) rfl ?_
          refine wp_sc hM rfl (by omega) (by omega) (by omega) ?_
          refine wp_go 4 hM (fr' := (333, [some (.inr 1000), some (.inr 0), some (.inr 30), some (.inl i)], [.inl (i + 3), .inr 1000, .inl (xs (i + 2).toNat), .inl (xs (i + 1).toNat), .inr 0], σ1)) rfl ?_
          refine wp_sc hM rfl (by omega) (by omega) (by omega) ?_
          refine wp_go 4 hM (fr' := (338, [some (.inr 1000), some (.inr 0), some (.inr 30), some (.inl i)], [.inl (i + 4), .inr 1000, .inl (xs (i + 3).toNat), .inl (xs (i + 2).toNat), .inl (xs (i + 1).toNat), .inr 0], σ1)) rfl ?_
          refine wp_sc hM rfl (by omega) (by omega) (by omega) ?_
          refine wp_call (v := 0) (idx := 33) (j := 68) (N := mtX5_insert) (as := [.inr 0, .inl (xs (i + 1).toNat), .inl (xs (i + 2).toNat), .inl (xs (i + 3).toNat), .inl (xs (i + 4).toNat)]) (rest := []) hM rfl (Or.inl ⟨rfl, rfl⟩) rfl (Cl_A (sp_X5_insert v l σ1 (xs (i + 1).toNat) (xs (i + 2).toNat) (xs (i + 3).toNat) (xs (i + 4).toNat) (by first | assumption | exact hxs _ | decide | exact GD_GO (GD_wea hGD) | exact GD_EU hGD | exact law_i6 hGD | exact law_t4 hGD) (by first | assumption | exact hxs _ | decide | exact GD_GO (GD_wea hGD) | exact GD_EU hGD | exact law_i6 hGD | exact law_t4 hGD) (by first | assumption | exact hxs _ | decide | exact GD_GO (GD_wea hGD) | exact GD_EU hGD | exact law_i6 hGD | exact law_t4 hGD) (by first | assumption | exact hxs _ | decide | exact GD_GO (GD_wea hGD) | exact GD_EU hGD | exact law_i6 hGD | exact law_t4 hGD) (by first | assumption | exact hxs _ | decide | exact GD_GO (GD_wea hGD) | exact GD_EU hGD | exact law_i6 hGD | exact law_t4 hGD) (by first | assumption | exact hxs _ | decide | exact GD_GO (GD_wea hGD) | exact GD_EU hGD | exact law_i6 hGD | exact law_t4 hGD) (by first | assumption | exact hxs _ | decide | exact GD_GO (GD_wea hGD) | exact GD_EU hGD | exact law_i6 hGD | exact law_t4 hGD))) ?_
          rintro r0 σ_339 ⟨rfl, hS_339, hk_339⟩
          show mz_Wp shF (some (L, xs)) 183 (342, [some (.inr 1000), some (.inr 0), some (.inr 30), some (.inl i)], [.inl (aIns v l (xs (i + 1).toNat) (xs (i + 2).toNat) (xs (i + 3).toNat) (xs (i + 4).toNat))], σ_339) _
          first | (have hA_339 : MA σ_339 v l := MA_fk hA hk_339) | skip
          refine wp_go 5 hM (fr' := (347, [some (.inr 1000), some (.inr 0), some (.inr 30), some (.inl i)], [.inl (i + 1), .inr 1000, .inr 30, .inl (aIns v l (xs (i + 1).toNat) (xs (i + 2).toNat) (xs (i + 3).toNat) (xs (i + 4).toNat))], σ_339)) rfl ?_
          refine wp_sc hM rfl (by omega) (by omega) (by omega) ?_
          refine wp_go 4 hM (fr' := (352, [some (.inr 1000), some (.inr 0), some (.inr 30), some (.inl i)], [.inl (i + 2), .inr 1000, .inl (xs (i + 1).toNat), .inr 30, .inl (aIns v l (xs (i + 1).toNat) (xs (i + 2).toNat) (xs (i + 3).toNat) (xs (i + 4).toNat))], σ_339)) rfl ?_
          refine wp_sc hM rfl (by omega) (by omega) (by omega) ?_
          refine wp_go 4 hM (fr' := (357, [some (.inr 1000), some (.inr 0), some (.inr 30), some (.inl i)], [.inl (i + 3), .inr 1000, .inl (xs (i + 2).toNat), .inl (xs (i + 1).toNat), .inr 30, .inl (aIns v l (xs (i + 1).toNat) (xs (i + 2).toNat) (xs (i + 3).toNat) (xs (i + 4).toNat))], σ_339)) rfl ?_
          refine wp_sc hM rfl (by omega) (by omega) (by omega) ?_
          refine wp_go 4 hM (fr' := (362, [some (.inr 1000), some (.inr 0), some (.inr 30), some (.inl i)], [.inl (i + 4), .inr 1000, .inl (xs (i + 3).toNat), .inl (xs (i + 2).toNat), .inl (xs (i + 1).toNat), .inr 30, .inl (aIns v l (xs (i + 1).toNat) (xs (i + 2).toNat) (xs (i + 3).toNat) (xs (i + 4).toNat))], σ_339)) rfl ?_
          refine wp_sc hM rfl (by omega) (by omega) (by omega) ?_
          refine wp_call (v := 0) (idx := 37) (j := 126) (N := mtX6_insert) (as := [.inr 30, .inl (xs (i + 1).toNat), .inl (xs (i + 2).toNat), .inl (xs (i + 3).toNat), .inl (xs (i + 4).toNat)]) (rest := [.inl (aIns v l (xs (i + 1).toNat) (xs (i + 2).toNat) (xs (i + 3).toNat) (xs (i + 4).toNat))]) hM rfl (Or.inl ⟨rfl, rfl⟩) rfl (Cl_M (sp_X6_insert v l σ_339 (xs (i + 1).toNat) (xs (i + 2).toNat) (xs (i + 3).toNat) (xs (i + 4).toNat) (by first | assumption | exact hxs _ | decide | exact GD_GO (GD_wea hGD) | exact GD_EU hGD | exact law_i6 hGD | exact law_t4 hGD) (by first | assumption | exact hxs _ | decide | exact GD_GO (GD_wea hGD) | exact GD_EU hGD | exact law_i6 hGD | exact law_t4 hGD) (by first | assumption | exact hxs _ | decide | exact GD_GO (GD_wea hGD) | exact GD_EU hGD | exact law_i6 hGD | exact law_t4 hGD) (by first | assumption | exact hxs _ | decide | exact GD_GO (GD_wea hGD) | exact GD_EU hGD | exact law_i6 hGD | exact law_t4 hGD) (by first | assumption | exact hxs _ | decide | exact GD_GO (GD_wea hGD) | exact GD_EU hGD | exact law_i6 hGD | exact law_t4 hGD) (by first | assumption | exact hxs _ | decide | exact GD_GO (GD_wea hGD) | exact GD_EU hGD | exact law_i6 hGD | exact law_t4 hGD) (by first | assumption | exact hxs _ | decide | exact GD_GO (GD_wea hGD) | exact GD_EU hGD | exact law_i6 hGD | exact law_t4 hGD))) ?_
          rintro r0 σ_363 ⟨rfl, hA_363, hf_363⟩
          show mz_Wp shF (some (L, xs)) 183 (366, [some (.inr 1000), some (.inr 0), some (.inr 30), some (.inl i)], [.inl (aIns v l (xs (i + 1).toNat) (xs (i + 2).toNat) (xs (i + 3).toNat) (xs (i + 4).toNat)), .inl (aIns v l (xs (i + 1).toNat) (xs (i + 2).toNat) (xs (i + 3).toNat) (xs (i + 4).toNat))], σ_363) _
          first | (have hLS : LSw σ_363 := ⟨_, _, CS_fm hS_339 hf_363, hA_363, GD_ins hGD⟩) | skip
          refine wp_ice (tgt := 1116) hM rfl (by decide) (by first | rfl | exact absurd c275 c302 | exact absurd c302 c275 | exact absurd c644 c671 | exact absurd c671 c644) ?_
          refine wp_go 2 hM (fr' := (18, [some (.inr 1000), some (.inr 0), some (.inr 30), some (.inl (i + 5))], [], σ_363)) rfl ?_
          exact ih18 (i + 5) σ_363 (by omega) (by omega) (by first | (first | exact hLS | exact ⟨v, l, hS, hA, hGD⟩) | fail) (by omega)
        · refine wp_tsi (tgt := 371) (off := 339) hM rfl hR32 (by omega) (by rw [c32]; rfl) (by decide) ?_
          refine wp_go 5 hM (fr' := (376, [some (.inr 1000), some (.inr 0), some (.inr 30), some (.inl i)], [.inl (i + 1), .inr 1000, .inr 0], σ1)) rfl ?_
          refine wp_sc hM rfl (by omega) (by omega) (by omega) ?_
          refine wp_go 4 hM (fr' := (381, [some (.inr 1000), some (.inr 0), some (.inr 30), some (.inl i)], [.inl (i + 2), .inr 1000, .inl (xs (i + 1).toNat), .inr 0], σ1)) rfl ?_
          refine wp_sc hM rfl (by omega) (by omega) (by omega) ?_
          refine wp_go 4 hM (fr' := (386, [some (.inr 1000), some (.inr 0), some (.inr 30), some (.inl i)], [.inl (i + 3), .inr 1000, .inl (xs (i + 2).toNat), .inl (xs (i + 1).toNat), .inr 0], σ1)) rfl ?_
          refine wp_sc hM rfl (by omega) (by omega) (by omega) ?_
          refine wp_call (v := 0) (idx := 38) (j := 69) (N := mtX5_move) (as := [.inr 0, .inl (xs (i + 1).toNat), .inl (xs (i + 2).toNat), .inl (xs (i + 3).toNat)]) (rest := []) hM rfl (Or.inl ⟨rfl, rfl⟩) rfl (Cl_A (sp_X5_move v l σ1 (xs (i + 1).toNat) (xs (i + 2).toNat) (xs (i + 3).toNat) (by first | assumption | exact hxs _ | decide | exact GD_GO (GD_wea hGD) | exact GD_EU hGD | exact law_i6 hGD | exact law_t4 hGD) (by first | assumption | exact hxs _ | decide | exact GD_GO (GD_wea hGD) | exact GD_EU hGD | exact law_i6 hGD | exact law_t4 hGD) (by first | assumption | exact hxs _ | decide | exact GD_GO (GD_wea hGD) | exact GD_EU hGD | exact law_i6 hGD | exact law_t4 hGD) (by first | assumption | exact hxs _ | decide | exact GD_GO (GD_wea hGD) | exact GD_EU hGD | exact law_i6 hGD | exact law_t4 hGD) (by first | assumption | exact hxs _ | decide | exact GD_GO (GD_wea hGD) | exact GD_EU hGD | exact law_i6 hGD | exact law_t4 hGD))) ?_
          rintro r0 σ_387 ⟨rfl, hS_387, hk_387⟩
          show mz_Wp shF (some (L, xs)) 183 (390, [some (.inr 1000), some (.inr 0), some (.inr 30), some (.inl i)], [.inl (rtm v l (xs (i + 1).toNat) (xs (i + 2).toNat) (xs (i + 3).toNat))], σ_387) _
          first | (have hA_387 : MA σ_387 v l := MA_fk hA hk_387) | skip
          refine wp_go 5 hM (fr' := (395, [some (.inr 1000), some (.inr 0), some (.inr 30), some (.inl i)], [.inl (i + 1), .inr 1000, .inr 30, .inl (rtm v l (xs (i + 1).toNat) (xs (i + 2).toNat) (xs (i + 3).toNat))], σ_387)) rfl ?_
          refine wp_sc hM rfl (by omega) (by omega) (by omega) ?_
          refine wp_go 4 hM (fr' := (400, [some (.inr 1000), some (.inr 0), some (.inr 30), some (.inl i)], [.inl (i + 2), .inr 1000, .inl (xs (i + 1).toNat), .inr 30, .inl (rtm v l (xs (i + 1).toNat) (xs (i + 2).toNat) (xs (i + 3).toNat))], σ_387)) rfl ?_
          refine wp_sc hM rfl (by omega) (by omega) (by omega) ?_
          refine wp_go 4 hM (fr' := (405, [some (.inr 1000), some (.inr 0), some (.inr 30), some (.inl i)], [.inl (i + 3), .inr 1000, .inl (xs (i + 2).toNat), .inl (xs (i + 1).toNat), .inr 30, .inl (rtm v l (xs (i + 1).toNat) (xs (i + 2).toNat) (xs (i + 3).toNat))], σ_387)) rfl ?_
          refine wp_sc hM rfl (by omega) (by omega) (by omega) ?_
          refine wp_call (v := 0) (idx := 41) (j := 129) (N := mtX6_move) (as := [.inr 30, .inl (xs (i + 1).toNat), .inl (xs (i + 2).toNat), .inl (xs (i + 3).toNat)]) (rest := [.inl (rtm v l (xs (i + 1).toNat) (xs (i + 2).toNat) (xs (i + 3).toNat))]) hM rfl (Or.inl ⟨rfl, rfl⟩) rfl (Cl_M (sp_X6_move v l σ_387 (xs (i + 1).toNat) (xs (i + 2).toNat) (xs (i + 3).toNat) (by first | assumption | exact hxs _ | decide | exact GD_GO (GD_wea hGD) | exact GD_EU hGD | exact law_i6 hGD | exact law_t4 hGD) (by first | assumption | exact hxs _ | decide | exact GD_GO (GD_wea hGD) | exact GD_EU hGD | exact law_i6 hGD | exact law_t4 hGD) (by first | assumption | exact hxs _ | decide | exact GD_GO (GD_wea hGD) | exact GD_EU hGD | exact law_i6 hGD | exact law_t4 hGD) (by first | assumption | exact hxs _ | decide | exact GD_GO (GD_wea hGD) | exact GD_EU hGD | exact law_i6 hGD | exact law_t4 hGD) (by first | assumption | exact hxs _ | decide | exact GD_GO (GD_wea hGD) | exact GD_EU hGD | exact law_i6 hGD | exact law_t4 hGD))) ?_
          rintro r0 σ_406 ⟨rfl, hA_406, hf_406⟩
          show mz_Wp shF (some (L, xs)) 183 (409, [some (.inr 1000), some (.inr 0), some (.inr 30), some (.inl i)], [.inl (rtm v l (xs (i + 1).toNat) (xs (i + 2).toNat) (xs (i + 3).toNat)), .inl (rtm v l (xs (i + 1).toNat) (xs (i + 2).toNat) (xs (i + 3).toNat))], σ_406) _
          first | (have hLS : LSw σ_406 := ⟨_, _, CS_fm hS_387 hf_406, hA_406, GD_mov hGD⟩) | skip
          refine wp_ice (tgt := 1116) hM rfl (by decide) (by first | rfl | exact absurd c275 c302 | exact absurd c302 c275 | exact absurd c644 c671 | exact absurd c671 c644) ?_
          refine wp_go 2 hM (fr' := (18, [some (.inr 1000), some (.inr 0), some (.inr 30), some (.inl (i + 5))], [], σ_406)) rfl ?_
          exact ih18 (i + 5) σ_406 (by omega) (by omega) (by first | (first | exact hLS | exact ⟨v, l, hS, hA, hGD⟩) | fail) (by omega)
        · refine wp_tsi (tgt := 414) (off := 382) hM rfl hR32 (by omega) (by rw [c32]; rfl) (by decide) ?_
          refine wp_go 5 hM (fr' := (419, [some (.inr 1000), some (.inr 0), some (.inr 30), some (.inl i)], [.inl (i + 1), .inr 1000, .inr 0], σ1)) rfl ?_
          refine wp_sc hM rfl (by omega) (by omega) (by omega) ?_
          refine wp_go 4 hM (fr' := (424, [some (.inr 1000), some (.inr 0), some (.inr 30), some (.inl i)], [.inl (i + 2), .inr 1000, .inl (xs (i + 1).toNat), .inr 0], σ1)) rfl ?_
          refine wp_sc hM rfl (by omega) (by omega) (by omega) ?_
          refine wp_call (v := 0) (idx := 42) (j := 70) (N := mtX5_turn) (as := [.inr 0, .inl (xs (i + 1).toNat), .inl (xs (i + 2).toNat)]) (rest := []) hM rfl (Or.inl ⟨rfl, rfl⟩) rfl (Cl_A (sp_X5_turn v l σ1 (xs (i + 1).toNat) (xs (i + 2).toNat) (by first | assumption | exact hxs _ | decide | exact GD_GO (GD_wea hGD) | exact GD_EU hGD | exact law_i6 hGD | exact law_t4 hGD) (by first | assumption | exact hxs _ | decide | exact GD_GO (GD_wea hGD) | exact GD_EU hGD | exact law_i6 hGD | exact law_t4 hGD) (by first | assumption | exact hxs _ | decide | exact GD_GO (GD_wea hGD) | exact GD_EU hGD | exact law_i6 hGD | exact law_t4 hGD) (by first | assumption | exact hxs _ | decide | exact GD_GO (GD_wea hGD) | exact GD_EU hGD | exact law_i6 hGD | exact law_t4 hGD) (by first | assumption | exact hxs _ | decide | exact GD_GO (GD_wea hGD) | exact GD_EU hGD | exact law_i6 hGD | exact law_t4 hGD))) ?_
          rintro r0 σ_425 ⟨rfl, hS_425, hk_425⟩
          show mz_Wp shF (some (L, xs)) 183 (428, [some (.inr 1000), some (.inr 0), some (.inr 30), some (.inl i)], [.inl (rtt v l (xs (i + 1).toNat) (xs (i + 2).toNat))], σ_425) _
          first | (have hA_425 : MA σ_425 v l := MA_fk hA hk_425) | skip
          refine wp_go 5 hM (fr' := (433, [some (.inr 1000), some (.inr 0), some (.inr 30), some (.inl i)], [.inl (i + 1), .inr 1000, .inr 30, .inl (rtt v l (xs (i + 1).toNat) (xs (i + 2).toNat))], σ_425)) rfl ?_
          refine wp_sc hM rfl (by omega) (by omega) (by omega) ?_
          refine wp_go 4 hM (fr' := (438, [some (.inr 1000), some (.inr 0), some (.inr 30), some (.inl i)], [.inl (i + 2), .inr 1000, .inl (xs (i + 1).toNat), .inr 30, .inl (rtt v l (xs (i + 1).toNat) (xs (i + 2).toNat))], σ_425)) rfl ?_
          refine wp_sc hM rfl (by omega) (by omega) (by omega) ?_
          refine wp_call (v := 0) (idx := 46) (j := 134) (N := mtX6_turn) (as := [.inr 30, .inl (xs (i + 1).toNat), .inl (xs (i + 2).toNat)]) (rest := [.inl (rtt v l (xs (i + 1).toNat) (xs (i + 2).toNat))]) hM rfl (Or.inl ⟨rfl, rfl⟩) rfl (Cl_M (sp_X6_turn v l σ_425 (xs (i + 1).toNat) (xs (i + 2).toNat) (by first | assumption | exact hxs _ | decide | exact GD_GO (GD_wea hGD) | exact GD_EU hGD | exact law_i6 hGD | exact law_t4 hGD) (by first | assumption | exact hxs _ | decide | exact GD_GO (GD_wea hGD) | exact GD_EU hGD | exact law_i6 hGD | exact law_t4 hGD) (by first | assumption | exact hxs _ | decide | exact GD_GO (GD_wea hGD) | exact GD_EU hGD | exact law_i6 hGD | exact law_t4 hGD) (by first | assumption | exact hxs _ | decide | exact GD_GO (GD_wea hGD) | exact GD_EU hGD | exact law_i6 hGD | exact law_t4 hGD) (by first | assumption | exact hxs _ | decide | exact GD_GO (GD_wea hGD) | exact GD_EU hGD | exact law_i6 hGD | exact law_t4 hGD))) ?_
          rintro r0 σ_439 ⟨rfl, hA_439, hf_439⟩
          show mz_Wp shF (some (L, xs)) 183 (442, [some (.inr 1000), some (.inr 0), some (.inr 30), some (.inl i)], [.inl (rtt v l (xs (i + 1).toNat) (xs (i + 2).toNat)), .inl (rtt v l (xs (i + 1).toNat) (xs (i + 2).toNat))], σ_439) _
          first | (have hLS : LSw σ_439 := ⟨_, _, CS_fm hS_425 hf_439, hA_439, GD_tur hGD⟩) | skip
          refine wp_ice (tgt := 1116) hM rfl (by decide) (by first | rfl | exact absurd c275 c302 | exact absurd c302 c275 | exact absurd c644 c671 | exact absurd c671 c644) ?_
          refine wp_go 2 hM (fr' := (18, [some (.inr 1000), some (.inr 0), some (.inr 30), some (.inl (i + 5))], [], σ_439)) rfl ?_
          exact ih18 (i + 5) σ_439 (by omega) (by omega) (by first | (first | exact hLS | exact ⟨v, l, hS, hA, hGD⟩) | fail) (by omega)
        · refine wp_tsi (tgt := 447) (off := 415) hM rfl hR32 (by omega) (by rw [c32]; rfl) (by decide) ?_
          refine wp_go 5 hM (fr' := (452, [some (.inr 1000), some (.inr 0), some (.inr 30), some (.inl i)], [.inl (i + 1), .inr 1000, .inr 0], σ1)) rfl ?_
          refine wp_sc hM rfl (by omega) (by omega) (by omega) ?_
          refine wp_call (v := 0) (idx := 47) (j := 71) (N := mtX5_out) (as := [.inr 0, .inl (xs (i + 1).toNat)]) (rest := []) hM rfl (Or.inl ⟨rfl, rfl⟩) rfl (Cl_A (sp_X5_out v l σ1 (xs (i + 1).toNat) (by first | assumption | exact hxs _ | decide | exact GD_GO (GD_wea hGD) | exact GD_EU hGD | exact law_i6 hGD | exact law_t4 hGD) (by first | assumption | exact hxs _ | decide | exact GD_GO (GD_wea hGD) | exact GD_EU hGD | exact law_i6 hGD | exact law_t4 hGD) (by first | assumption | exact hxs _ | decide | exact GD_GO (GD_wea hGD) | exact GD_EU hGD | exact law_i6 hGD | exact law_t4 hGD))) ?_
          rintro r0 σ_453 ⟨rfl, hS_453, hk_453⟩
          show mz_Wp shF (some (L, xs)) 183 (456, [some (.inr 1000), some (.inr 0), some (.inr 30), some (.inl i)], [.inl (rto v l (xs (i + 1).toNat))], σ_453) _
          first | (have hA_453 : MA σ_453 v l := MA_fk hA hk_453) | skip
          refine wp_go 5 hM (fr' := (461, [some (.inr 1000), some (.inr 0), some (.inr 30), some (.inl i)], [.inl (i + 1), .inr 1000, .inr 30, .inl (rto v l (xs (i + 1).toNat))], σ_453)) rfl ?_
          refine wp_sc hM rfl (by omega) (by omega) (by omega) ?_
          refine wp_call (v := 0) (idx := 50) (j := 139) (N := mtX6_out) (as := [.inr 30, .inl (xs (i + 1).toNat)]) (rest := [.inl (rto v l (xs (i + 1).toNat))]) hM rfl (Or.inl ⟨rfl, rfl⟩) rfl (Cl_M (sp_X6_out v l σ_453 (xs (i + 1).toNat) (by first | assumption | exact hxs _ | decide | exact GD_GO (GD_wea hGD) | exact GD_EU hGD | exact law_i6 hGD | exact law_t4 hGD) (by first | assumption | exact hxs _ | decide | exact GD_GO (GD_wea hGD) | exact GD_EU hGD | exact law_i6 hGD | exact law_t4 hGD) (by first | assumption | exact hxs _ | decide | exact GD_GO (GD_wea hGD) | exact GD_EU hGD | exact law_i6 hGD | exact law_t4 hGD) (by first | assumption | exact hxs _ | decide | exact GD_GO (GD_wea hGD) | exact GD_EU hGD | exact law_i6 hGD | exact law_t4 hGD))) ?_
          rintro r0 σ_462 ⟨rfl, hA_462, hf_462⟩
          show mz_Wp shF (some (L, xs)) 183 (465, [some (.inr 1000), some (.inr 0), some (.inr 30), some (.inl i)], [.inl (rto v l (xs (i + 1).toNat)), .inl (rto v l (xs (i + 1).toNat))], σ_462) _
          first | (have hLS : LSw σ_462 := ⟨_, _, CS_fm hS_453 hf_462, hA_462, GD_out hGD⟩) | skip
          refine wp_ice (tgt := 1116) hM rfl (by decide) (by first | rfl | exact absurd c275 c302 | exact absurd c302 c275 | exact absurd c644 c671 | exact absurd c671 c644) ?_
          refine wp_go 2 hM (fr' := (18, [some (.inr 1000), some (.inr 0), some (.inr 30), some (.inl (i + 5))], [], σ_462)) rfl ?_
          exact ih18 (i + 5) σ_462 (by omega) (by omega) (by first | (first | exact hLS | exact ⟨v, l, hS, hA, hGD⟩) | fail) (by omega)
        · refine wp_tsi (tgt := 470) (off := 438) hM rfl hR32 (by omega) (by rw [c32]; rfl) (by decide) ?_
          refine wp_go 1 hM (fr' := (471, [some (.inr 1000), some (.inr 0), some (.inr 30), some (.inl i)], [.inr 0], σ1)) rfl ?_
          refine wp_call (v := 0) (idx := 51) (j := 72) (N := mtX5_straight) (as := [.inr 0]) (rest := []) hM rfl (Or.inl ⟨rfl, rfl⟩) rfl (Cl_A (sp_X5_straight v l σ1  (by first | assumption | exact hxs _ | decide | exact GD_GO (GD_wea hGD) | exact GD_EU hGD | exact law_i6 hGD | exact law_t4 hGD) (by first | assumption | exact hxs _ | decide | exact GD_GO (GD_wea hGD) | exact GD_EU hGD | exact law_i6 hGD | exact law_t4 hGD))) ?_
          rintro r0 σ_471 ⟨rfl, hS_471, hk_471⟩
          show mz_Wp shF (some (L, xs)) 183 (474, [some (.inr 1000), some (.inr 0), some (.inr 30), some (.inl i)], [.inl (bkn v)], σ_471) _
          first | (have hA_471 : MA σ_471 v l := MA_fk hA hk_471) | skip
          refine wp_go 1 hM (fr' := (475, [some (.inr 1000), some (.inr 0), some (.inr 30), some (.inl i)], [.inr 30, .inl (bkn v)], σ_471)) rfl ?_
          refine wp_call (v := 0) (idx := 55) (j := 142) (N := mtX6_straight) (as := [.inr 30]) (rest := [.inl (bkn v)]) hM rfl (Or.inl ⟨rfl, rfl⟩) rfl (Cl_M (sp_X6_straight v l σ_471  (by first | assumption | exact hxs _ | decide | exact GD_GO (GD_wea hGD) | exact GD_EU hGD | exact law_i6 hGD | exact law_t4 hGD) (by first | assumption | exact hxs _ | decide | exact GD_GO (GD_wea hGD) | exact GD_EU hGD | exact law_i6 hGD | exact law_t4 hGD))) ?_
          rintro r0 σ_475 ⟨rfl, hA_475, hf_475⟩
          show mz_Wp shF (some (L, xs)) 183 (478, [some (.inr 1000), some (.inr 0), some (.inr 30), some (.inl i)], [.inl (bkn v), .inl (bkn v)], σ_475) _
          first | (have hLS : LSw σ_475 := ⟨_, _, CS_fm hS_471 hf_475, hA_475, GD_str hGD⟩) | skip
          refine wp_ice (tgt := 1116) hM rfl (by decide) (by first | rfl | exact absurd c275 c302 | exact absurd c302 c275 | exact absurd c644 c671 | exact absurd c671 c644) ?_
          refine wp_go 2 hM (fr' := (18, [some (.inr 1000), some (.inr 0), some (.inr 30), some (.inl (i + 5))], [], σ_475)) rfl ?_
          exact ih18 (i + 5) σ_475 (by omega) (by omega) (by first | (first | exact hLS | exact ⟨v, l, hS, hA, hGD⟩) | fail) (by omega)
        · refine wp_tsi (tgt := 483) (off := 451) hM rfl hR32 (by omega) (by rw [c32]; rfl) (by decide) ?_
          refine wp_go 1 hM (fr' := (484, [some (.inr 1000), some (.inr 0), some (.inr 30), some (.inl i)], [.inr 0], σ1)) rfl ?_
          refine wp_call (v := 0) (idx := 56) (j := 73) (N := mtX5_carry) (as := [.inr 0]) (rest := []) hM rfl (Or.inl ⟨rfl, rfl⟩) rfl (Cl_A (sp_X5_carry v l σ1  (by first | assumption | exact hxs _ | decide | exact GD_GO (GD_wea hGD) | exact GD_EU hGD | exact law_i6 hGD | exact law_t4 hGD) (by first | assumption | exact hxs _ | decide | exact GD_GO (GD_wea hGD) | exact GD_EU hGD | exact law_i6 hGD | exact law_t4 hGD))) ?_
          rintro r0 σ_484 ⟨rfl, hS_484, hk_484⟩
          show mz_Wp shF (some (L, xs)) 183 (487, [some (.inr 1000), some (.inr 0), some (.inr 30), some (.inl i)], [.inl (aCar v l)], σ_484) _
          first | (have hA_484 : MA σ_484 v l := MA_fk hA hk_484) | skip
          refine wp_go 1 hM (fr' := (488, [some (.inr 1000), some (.inr 0), some (.inr 30), some (.inl i)], [.inr 30, .inl (aCar v l)], σ_484)) rfl ?_
          refine wp_call (v := 0) (idx := 59) (j := 143) (N := mtX6_carry) (as := [.inr 30]) (rest := [.inl (aCar v l)]) hM rfl (Or.inl ⟨rfl, rfl⟩) rfl (Cl_M (sp_X6_carry v l σ_484  (by first | assumption | exact hxs _ | decide | exact GD_GO (GD_wea hGD) | exact GD_EU hGD | exact law_i6 hGD | exact law_t4 hGD) (by first | assumption | exact hxs _ | decide | exact GD_GO (GD_wea hGD) | exact GD_EU hGD | exact law_i6 hGD | exact law_t4 hGD))) ?_
          rintro r0 σ_488 ⟨rfl, hA_488, hf_488⟩
          show mz_Wp shF (some (L, xs)) 183 (491, [some (.inr 1000), some (.inr 0), some (.inr 30), some (.inl i)], [.inl (aCar v l), .inl (aCar v l)], σ_488) _
          first | (have hLS : LSw σ_488 := ⟨_, _, CS_fm hS_484 hf_488, hA_488, GD_car hGD⟩) | skip
          refine wp_ice (tgt := 1116) hM rfl (by decide) (by first | rfl | exact absurd c275 c302 | exact absurd c302 c275 | exact absurd c644 c671 | exact absurd c671 c644) ?_
          refine wp_go 2 hM (fr' := (18, [some (.inr 1000), some (.inr 0), some (.inr 30), some (.inl (i + 5))], [], σ_488)) rfl ?_
          exact ih18 (i + 5) σ_488 (by omega) (by omega) (by first | (first | exact hLS | exact ⟨v, l, hS, hA, hGD⟩) | fail) (by omega)
        · refine wp_tsi (tgt := 496) (off := 464) hM rfl hR32 (by omega) (by rw [c32]; rfl) (by decide) ?_
          refine wp_go 5 hM (fr' := (501, [some (.inr 1000), some (.inr 0), some (.inr 30), some (.inl i)], [.inl (i + 1), .inr 1000, .inr 0], σ1)) rfl ?_
          refine wp_sc hM rfl (by omega) (by omega) (by omega) ?_
          refine wp_go 4 hM (fr' := (506, [some (.inr 1000), some (.inr 0), some (.inr 30), some (.inl i)], [.inl (i + 2), .inr 1000, .inl (xs (i + 1).toNat), .inr 0], σ1)) rfl ?_
          refine wp_sc hM rfl (by omega) (by omega) (by omega) ?_
          refine wp_call (v := 0) (idx := 60) (j := 74) (N := mtX5_knot) (as := [.inr 0, .inl (xs (i + 1).toNat), .inl (xs (i + 2).toNat)]) (rest := []) hM rfl (Or.inl ⟨rfl, rfl⟩) rfl (Cl_A (sp_X5_knot v l σ1 (xs (i + 1).toNat) (xs (i + 2).toNat) (by first | assumption | exact hxs _ | decide | exact GD_GO (GD_wea hGD) | exact GD_EU hGD | exact law_i6 hGD | exact law_t4 hGD) (by first | assumption | exact hxs _ | decide | exact GD_GO (GD_wea hGD) | exact GD_EU hGD | exact law_i6 hGD | exact law_t4 hGD) (by first | assumption | exact hxs _ | decide | exact GD_GO (GD_wea hGD) | exact GD_EU hGD | exact law_i6 hGD | exact law_t4 hGD) (by first | assumption | exact hxs _ | decide | exact GD_GO (GD_wea hGD) | exact GD_EU hGD | exact law_i6 hGD | exact law_t4 hGD))) ?_
          rintro r0 σ_507 ⟨rfl, hS_507, hk_507⟩
          show mz_Wp shF (some (L, xs)) 183 (510, [some (.inr 1000), some (.inr 0), some (.inr 30), some (.inl i)], [.inl (aKnot v l (xs (i + 1).toNat) (xs (i + 2).toNat))], σ_507) _
          first | (have hA_507 : MA σ_507 v l := MA_fk hA hk_507) | skip
          refine wp_go 5 hM (fr' := (515, [some (.inr 1000), some (.inr 0), some (.inr 30), some (.inl i)], [.inl (i + 1), .inr 1000, .inr 30, .inl (aKnot v l (xs (i + 1).toNat) (xs (i + 2).toNat))], σ_507)) rfl ?_
          refine wp_sc hM rfl (by omega) (by omega) (by omega) ?_
          refine wp_go 4 hM (fr' := (520, [some (.inr 1000), some (.inr 0), some (.inr 30), some (.inl i)], [.inl (i + 2), .inr 1000, .inl (xs (i + 1).toNat), .inr 30, .inl (aKnot v l (xs (i + 1).toNat) (xs (i + 2).toNat))], σ_507)) rfl ?_
          refine wp_sc hM rfl (by omega) (by omega) (by omega) ?_
          refine wp_call (v := 0) (idx := 63) (j := 149) (N := mtX6_knot) (as := [.inr 30, .inl (xs (i + 1).toNat), .inl (xs (i + 2).toNat)]) (rest := [.inl (aKnot v l (xs (i + 1).toNat) (xs (i + 2).toNat))]) hM rfl (Or.inl ⟨rfl, rfl⟩) rfl (Cl_M (sp_X6_knot v l σ_507 (xs (i + 1).toNat) (xs (i + 2).toNat) (by first | assumption | exact hxs _ | decide | exact GD_GO (GD_wea hGD) | exact GD_EU hGD | exact law_i6 hGD | exact law_t4 hGD) (by first | assumption | exact hxs _ | decide | exact GD_GO (GD_wea hGD) | exact GD_EU hGD | exact law_i6 hGD | exact law_t4 hGD) (by first | assumption | exact hxs _ | decide | exact GD_GO (GD_wea hGD) | exact GD_EU hGD | exact law_i6 hGD | exact law_t4 hGD) (by first | assumption | exact hxs _ | decide | exact GD_GO (GD_wea hGD) | exact GD_EU hGD | exact law_i6 hGD | exact law_t4 hGD))) ?_
          rintro r0 σ_521 ⟨rfl, hA_521, hf_521⟩
          show mz_Wp shF (some (L, xs)) 183 (524, [some (.inr 1000), some (.inr 0), some (.inr 30), some (.inl i)], [.inl (aKnot v l (xs (i + 1).toNat) (xs (i + 2).toNat)), .inl (aKnot v l (xs (i + 1).toNat) (xs (i + 2).toNat))], σ_521) _
          first | (have hLS : LSw σ_521 := ⟨_, _, CS_fm hS_507 hf_521, hA_521, hGD⟩) | skip
          refine wp_ice (tgt := 1116) hM rfl (by decide) (by first | rfl | exact absurd c275 c302 | exact absurd c302 c275 | exact absurd c644 c671 | exact absurd c671 c644) ?_
          refine wp_go 2 hM (fr' := (18, [some (.inr 1000), some (.inr 0), some (.inr 30), some (.inl (i + 5))], [], σ_521)) rfl ?_
          exact ih18 (i + 5) σ_521 (by omega) (by omega) (by first | (first | exact hLS | exact ⟨v, l, hS, hA, hGD⟩) | fail) (by omega)
        · refine wp_tsi (tgt := 529) (off := 497) hM rfl hR32 (by omega) (by rw [c32]; rfl) (by decide) ?_
          refine wp_go 5 hM (fr' := (534, [some (.inr 1000), some (.inr 0), some (.inr 30), some (.inl i)], [.inl (i + 1), .inr 1000, .inr 0], σ1)) rfl ?_
          refine wp_sc hM rfl (by omega) (by omega) (by omega) ?_
          refine wp_go 4 hM (fr' := (539, [some (.inr 1000), some (.inr 0), some (.inr 30), some (.inl i)], [.inl (i + 2), .inr 1000, .inl (xs (i + 1).toNat), .inr 0], σ1)) rfl ?_
          refine wp_sc hM rfl (by omega) (by omega) (by omega) ?_
          refine wp_call (v := 0) (idx := 64) (j := 75) (N := mtX5_triangle) (as := [.inr 0, .inl (xs (i + 1).toNat), .inl (xs (i + 2).toNat)]) (rest := []) hM rfl (Or.inl ⟨rfl, rfl⟩) rfl (Cl_A (sp_X5_triangle v l σ1 (xs (i + 1).toNat) (xs (i + 2).toNat) (by first | assumption | exact hxs _ | decide | exact GD_GO (GD_wea hGD) | exact GD_EU hGD | exact law_i6 hGD | exact law_t4 hGD) (by first | assumption | exact hxs _ | decide | exact GD_GO (GD_wea hGD) | exact GD_EU hGD | exact law_i6 hGD | exact law_t4 hGD) (by first | assumption | exact hxs _ | decide | exact GD_GO (GD_wea hGD) | exact GD_EU hGD | exact law_i6 hGD | exact law_t4 hGD) (by first | assumption | exact hxs _ | decide | exact GD_GO (GD_wea hGD) | exact GD_EU hGD | exact law_i6 hGD | exact law_t4 hGD))) ?_
          rintro r0 σ_540 ⟨rfl, hS_540, hk_540⟩
          show mz_Wp shF (some (L, xs)) 183 (543, [some (.inr 1000), some (.inr 0), some (.inr 30), some (.inl i)], [.inl (aTri v l (xs (i + 1).toNat) (xs (i + 2).toNat))], σ_540) _
          first | (have hA_540 : MA σ_540 v l := MA_fk hA hk_540) | skip
          refine wp_go 5 hM (fr' := (548, [some (.inr 1000), some (.inr 0), some (.inr 30), some (.inl i)], [.inl (i + 1), .inr 1000, .inr 30, .inl (aTri v l (xs (i + 1).toNat) (xs (i + 2).toNat))], σ_540)) rfl ?_
          refine wp_sc hM rfl (by omega) (by omega) (by omega) ?_
          refine wp_go 4 hM (fr' := (553, [some (.inr 1000), some (.inr 0), some (.inr 30), some (.inl i)], [.inl (i + 2), .inr 1000, .inl (xs (i + 1).toNat), .inr 30, .inl (aTri v l (xs (i + 1).toNat) (xs (i + 2).toNat))], σ_540)) rfl ?_
          refine wp_sc hM rfl (by omega) (by omega) (by omega) ?_
          refine wp_call (v := 0) (idx := 67) (j := 151) (N := mtX6_triangle) (as := [.inr 30, .inl (xs (i + 1).toNat), .inl (xs (i + 2).toNat)]) (rest := [.inl (aTri v l (xs (i + 1).toNat) (xs (i + 2).toNat))]) hM rfl (Or.inl ⟨rfl, rfl⟩) rfl (Cl_M (sp_X6_triangle v l σ_540 (xs (i + 1).toNat) (xs (i + 2).toNat) (by first | assumption | exact hxs _ | decide | exact GD_GO (GD_wea hGD) | exact GD_EU hGD | exact law_i6 hGD | exact law_t4 hGD) (by first | assumption | exact hxs _ | decide | exact GD_GO (GD_wea hGD) | exact GD_EU hGD | exact law_i6 hGD | exact law_t4 hGD) (by first | assumption | exact hxs _ | decide | exact GD_GO (GD_wea hGD) | exact GD_EU hGD | exact law_i6 hGD | exact law_t4 hGD) (by first | assumption | exact hxs _ | decide | exact GD_GO (GD_wea hGD) | exact GD_EU hGD | exact law_i6 hGD | exact law_t4 hGD))) ?_
          rintro r0 σ_554 ⟨rfl, hA_554, hf_554⟩
          show mz_Wp shF (some (L, xs)) 183 (557, [some (.inr 1000), some (.inr 0), some (.inr 30), some (.inl i)], [.inl (aTri v l (xs (i + 1).toNat) (xs (i + 2).toNat)), .inl (aTri v l (xs (i + 1).toNat) (xs (i + 2).toNat))], σ_554) _
          first | (have hLS : LSw σ_554 := ⟨_, _, CS_fm hS_540 hf_554, hA_554, hGD⟩) | skip
          refine wp_ice (tgt := 1116) hM rfl (by decide) (by first | rfl | exact absurd c275 c302 | exact absurd c302 c275 | exact absurd c644 c671 | exact absurd c671 c644) ?_
          refine wp_go 2 hM (fr' := (18, [some (.inr 1000), some (.inr 0), some (.inr 30), some (.inl (i + 5))], [], σ_554)) rfl ?_
          exact ih18 (i + 5) σ_554 (by omega) (by omega) (by first | (first | exact hLS | exact ⟨v, l, hS, hA, hGD⟩) | fail) (by omega)
        · refine wp_tsi (tgt := 562) (off := 530) hM rfl hR32 (by omega) (by rw [c32]; rfl) (by decide) ?_
          refine wp_go 5 hM (fr' := (567, [some (.inr 1000), some (.inr 0), some (.inr 30), some (.inl i)], [.inl (i + 1), .inr 1000, .inr 0], σ1)) rfl ?_
          refine wp_sc hM rfl (by omega) (by omega) (by omega) ?_
          refine wp_go 4 hM (fr' := (572, [some (.inr 1000), some (.inr 0), some (.inr 30), some (.inl i)], [.inl (i + 2), .inr 1000, .inl (xs (i + 1).toNat), .inr 0], σ1)) rfl ?_
          refine wp_sc hM rfl (by omega) (by omega) (by omega) ?_
          refine wp_go 4 hM (fr' := (577, [some (.inr 1000), some (.inr 0), some (.inr 30), some (.inl i)], [.inl (i + 3), .inr 1000, .inl (xs (i + 2).toNat), .inl (xs (i + 1).toNat), .inr 0], σ1)) rfl ?_
          refine wp_sc hM rfl (by omega) (by omega) (by omega) ?_
          refine wp_call (v := 0) (idx := 68) (j := 76) (N := mtX5_edge) (as := [.inr 0, .inl (xs (i + 1).toNat), .inl (xs (i + 2).toNat), .inl (xs (i + 3).toNat)]) (rest := []) hM rfl (Or.inl ⟨rfl, rfl⟩) rfl (Cl_A (sp_X5_edge v l σ1 (xs (i + 1).toNat) (xs (i + 2).toNat) (xs (i + 3).toNat) (by first | assumption | exact hxs _ | decide | exact GD_GO (GD_wea hGD) | exact GD_EU hGD | exact law_i6 hGD | exact law_t4 hGD) (by first | assumption | exact hxs _ | decide | exact GD_GO (GD_wea hGD) | exact GD_EU hGD | exact law_i6 hGD | exact law_t4 hGD) (by first | assumption | exact hxs _ | decide | exact GD_GO (GD_wea hGD) | exact GD_EU hGD | exact law_i6 hGD | exact law_t4 hGD) (by first | assumption | exact hxs _ | decide | exact GD_GO (GD_wea hGD) | exact GD_EU hGD | exact law_i6 hGD | exact law_t4 hGD) (by first | assumption | exact hxs _ | decide | exact GD_GO (GD_wea hGD) | exact GD_EU hGD | exact law_i6 hGD | exact law_t4 hGD))) ?_
          rintro r0 σ_578 ⟨rfl, hS_578, hk_578⟩
          show mz_Wp shF (some (L, xs)) 183 (581, [some (.inr 1000), some (.inr 0), some (.inr 30), some (.inl i)], [.inl (aEdge v l (xs (i + 1).toNat) (xs (i + 2).toNat) (xs (i + 3).toNat))], σ_578) _
          first | (have hA_578 : MA σ_578 v l := MA_fk hA hk_578) | skip
          refine wp_go 5 hM (fr' := (586, [some (.inr 1000), some (.inr 0), some (.inr 30), some (.inl i)], [.inl (i + 1), .inr 1000, .inr 30, .inl (aEdge v l (xs (i + 1).toNat) (xs (i + 2).toNat) (xs (i + 3).toNat))], σ_578)) rfl ?_
          refine wp_sc hM rfl (by omega) (by omega) (by omega) ?_
          refine wp_go 4 hM (fr' := (591, [some (.inr 1000), some (.inr 0), some (.inr 30), some (.inl i)], [.inl (i + 2), .inr 1000, .inl (xs (i + 1).toNat), .inr 30, .inl (aEdge v l (xs (i + 1).toNat) (xs (i + 2).toNat) (xs (i + 3).toNat))], σ_578)) rfl ?_
          refine wp_sc hM rfl (by omega) (by omega) (by omega) ?_
          refine wp_go 4 hM (fr' := (596, [some (.inr 1000), some (.inr 0), some (.inr 30), some (.inl i)], [.inl (i + 3), .inr 1000, .inl (xs (i + 2).toNat), .inl (xs (i + 1).toNat), .inr 30, .inl (aEdge v l (xs (i + 1).toNat) (xs (i + 2).toNat) (xs (i + 3).toNat))], σ_578)) rfl ?_
          refine wp_sc hM rfl (by omega) (by omega) (by omega) ?_
          refine wp_call (v := 0) (idx := 71) (j := 153) (N := mtX6_edge) (as := [.inr 30, .inl (xs (i + 1).toNat), .inl (xs (i + 2).toNat), .inl (xs (i + 3).toNat)]) (rest := [.inl (aEdge v l (xs (i + 1).toNat) (xs (i + 2).toNat) (xs (i + 3).toNat))]) hM rfl (Or.inl ⟨rfl, rfl⟩) rfl (Cl_M (sp_X6_edge v l σ_578 (xs (i + 1).toNat) (xs (i + 2).toNat) (xs (i + 3).toNat) (by first | assumption | exact hxs _ | decide | exact GD_GO (GD_wea hGD) | exact GD_EU hGD | exact law_i6 hGD | exact law_t4 hGD) (by first | assumption | exact hxs _ | decide | exact GD_GO (GD_wea hGD) | exact GD_EU hGD | exact law_i6 hGD | exact law_t4 hGD) (by first | assumption | exact hxs _ | decide | exact GD_GO (GD_wea hGD) | exact GD_EU hGD | exact law_i6 hGD | exact law_t4 hGD) (by first | assumption | exact hxs _ | decide | exact GD_GO (GD_wea hGD) | exact GD_EU hGD | exact law_i6 hGD | exact law_t4 hGD) (by first | assumption | exact hxs _ | decide | exact GD_GO (GD_wea hGD) | exact GD_EU hGD | exact law_i6 hGD | exact law_t4 hGD))) ?_
          rintro r0 σ_597 ⟨rfl, hA_597, hf_597⟩
          show mz_Wp shF (some (L, xs)) 183 (600, [some (.inr 1000), some (.inr 0), some (.inr 30), some (.inl i)], [.inl (aEdge v l (xs (i + 1).toNat) (xs (i + 2).toNat) (xs (i + 3).toNat)), .inl (aEdge v l (xs (i + 1).toNat) (xs (i + 2).toNat) (xs (i + 3).toNat))], σ_597) _
          first | (have hLS : LSw σ_597 := ⟨_, _, CS_fm hS_578 hf_597, hA_597, hGD⟩) | skip
          refine wp_ice (tgt := 1116) hM rfl (by decide) (by first | rfl | exact absurd c275 c302 | exact absurd c302 c275 | exact absurd c644 c671 | exact absurd c671 c644) ?_
          refine wp_go 2 hM (fr' := (18, [some (.inr 1000), some (.inr 0), some (.inr 30), some (.inl (i + 5))], [], σ_597)) rfl ?_
          exact ih18 (i + 5) σ_597 (by omega) (by omega) (by first | (first | exact hLS | exact ⟨v, l, hS, hA, hGD⟩) | fail) (by omega)
        · refine wp_tsi (tgt := 605) (off := 573) hM rfl hR32 (by omega) (by rw [c32]; rfl) (by decide) ?_
          refine wp_go 5 hM (fr' := (610, [some (.inr 1000), some (.inr 0), some (.inr 30), some (.inl i)], [.inl (i + 1), .inr 1000, .inr 0], σ1)) rfl ?_
          refine wp_sc hM rfl (by omega) (by omega) (by omega) ?_
          refine wp_call (v := 0) (idx := 72) (j := 77) (N := mtX5_count) (as := [.inr 0, .inl (xs (i + 1).toNat)]) (rest := []) hM rfl (Or.inl ⟨rfl, rfl⟩) rfl (Cl_A (sp_X5_count v l σ1 (xs (i + 1).toNat) (by first | assumption | exact hxs _ | decide | exact GD_GO (GD_wea hGD) | exact GD_EU hGD | exact law_i6 hGD | exact law_t4 hGD) (by first | assumption | exact hxs _ | decide | exact GD_GO (GD_wea hGD) | exact GD_EU hGD | exact law_i6 hGD | exact law_t4 hGD) (by first | assumption | exact hxs _ | decide | exact GD_GO (GD_wea hGD) | exact GD_EU hGD | exact law_i6 hGD | exact law_t4 hGD))) ?_
          rintro r0 σ_611 ⟨rfl, hS_611, hk_611⟩
          show mz_Wp shF (some (L, xs)) 183 (614, [some (.inr 1000), some (.inr 0), some (.inr 30), some (.inl i)], [.inl (aCount v l (xs (i + 1).toNat))], σ_611) _
          first | (have hA_611 : MA σ_611 v l := MA_fk hA hk_611) | skip
          refine wp_go 5 hM (fr' := (619, [some (.inr 1000), some (.inr 0), some (.inr 30), some (.inl i)], [.inl (i + 1), .inr 1000, .inr 30, .inl (aCount v l (xs (i + 1).toNat))], σ_611)) rfl ?_
          refine wp_sc hM rfl (by omega) (by omega) (by omega) ?_
          refine wp_call (v := 0) (idx := 75) (j := 157) (N := mtX6_count) (as := [.inr 30, .inl (xs (i + 1).toNat)]) (rest := [.inl (aCount v l (xs (i + 1).toNat))]) hM rfl (Or.inl ⟨rfl, rfl⟩) rfl (Cl_M (sp_X6_count v l σ_611 (xs (i + 1).toNat) (by first | assumption | exact hxs _ | decide | exact GD_GO (GD_wea hGD) | exact GD_EU hGD | exact law_i6 hGD | exact law_t4 hGD) (by first | assumption | exact hxs _ | decide | exact GD_GO (GD_wea hGD) | exact GD_EU hGD | exact law_i6 hGD | exact law_t4 hGD) (by first | assumption | exact hxs _ | decide | exact GD_GO (GD_wea hGD) | exact GD_EU hGD | exact law_i6 hGD | exact law_t4 hGD) (by first | assumption | exact hxs _ | decide | exact GD_GO (GD_wea hGD) | exact GD_EU hGD | exact law_i6 hGD | exact law_t4 hGD))) ?_
          rintro r0 σ_620 ⟨rfl, hA_620, hf_620⟩
          show mz_Wp shF (some (L, xs)) 183 (623, [some (.inr 1000), some (.inr 0), some (.inr 30), some (.inl i)], [.inl (aCount v l (xs (i + 1).toNat)), .inl (aCount v l (xs (i + 1).toNat))], σ_620) _
          first | (have hLS : LSw σ_620 := ⟨_, _, CS_fm hS_611 hf_620, hA_620, hGD⟩) | skip
          refine wp_ice (tgt := 1116) hM rfl (by decide) (by first | rfl | exact absurd c275 c302 | exact absurd c302 c275 | exact absurd c644 c671 | exact absurd c671 c644) ?_
          refine wp_go 2 hM (fr' := (18, [some (.inr 1000), some (.inr 0), some (.inr 30), some (.inl (i + 5))], [], σ_620)) rfl ?_
          exact ih18 (i + 5) σ_620 (by omega) (by omega) (by first | (first | exact hLS | exact ⟨v, l, hS, hA, hGD⟩) | fail) (by omega)
        · refine wp_tsi (tgt := 628) (off := 596) hM rfl hR32 (by omega) (by rw [c32]; rfl) (by decide) ?_
          refine wp_go 5 hM (fr' := (633, [some (.inr 1000), some (.inr 0), some (.inr 30), some (.inl i)], [.inl (i + 1), .inr 1000, .inr 0], σ1)) rfl ?_
          refine wp_sc hM rfl (by omega) (by omega) (by omega) ?_
          refine wp_go 4 hM (fr' := (638, [some (.inr 1000), some (.inr 0), some (.inr 30), some (.inl i)], [.inl (i + 2), .inr 1000, .inl (xs (i + 1).toNat), .inr 0], σ1)) rfl ?_
          refine wp_sc hM rfl (by omega) (by omega) (by omega) ?_
          refine wp_go 4 hM (fr' := (643, [some (.inr 1000), some (.inr 0), some (.inr 30), some (.inl i)], [.inl (i + 3), .inr 1000, .inl (xs (i + 2).toNat), .inl (xs (i + 1).toNat), .inr 0], σ1)) rfl ?_
          refine wp_sc hM rfl (by omega) (by omega) (by omega) ?_
          refine wp_if (tgt := 651) hM rfl (by decide) (by first | (exact hxs _) | fail) (fun c644 => ?_) (fun c644 => ?_)
          · replace c644 := cmp_eq_t c644
            refine wp_go 1 hM (fr' := (652, [some (.inr 1000), some (.inr 0), some (.inr 30), some (.inl i)], [.inl 0, .inl (xs (i + 2).toNat), .inl (xs (i + 1).toNat), .inr 0], σ1)) rfl ?_
            refine wp_call (v := 0) (idx := 76) (j := 78) (N := mtX5_find) (as := [.inr 0, .inl (xs (i + 1).toNat), .inl (xs (i + 2).toNat), .inl 0]) (rest := []) hM rfl (Or.inl ⟨rfl, rfl⟩) rfl (Cl_A (sp_X5_find v l σ1 (xs (i + 1).toNat) (xs (i + 2).toNat) 0 (by first | assumption | exact hxs _ | decide | exact GD_GO (GD_wea hGD) | exact GD_EU hGD | exact law_i6 hGD | exact law_t4 hGD) (by first | assumption | exact hxs _ | decide | exact GD_GO (GD_wea hGD) | exact GD_EU hGD | exact law_i6 hGD | exact law_t4 hGD) (by first | assumption | exact hxs _ | decide | exact GD_GO (GD_wea hGD) | exact GD_EU hGD | exact law_i6 hGD | exact law_t4 hGD) (by first | assumption | exact hxs _ | decide | exact GD_GO (GD_wea hGD) | exact GD_EU hGD | exact law_i6 hGD | exact law_t4 hGD) (by first | assumption | exact hxs _ | decide | exact GD_GO (GD_wea hGD) | exact GD_EU hGD | exact law_i6 hGD | exact law_t4 hGD))) ?_
            rintro r0 σ_652 ⟨rfl, hS_652, hk_652⟩
            show mz_Wp shF (some (L, xs)) 183 (655, [some (.inr 1000), some (.inr 0), some (.inr 30), some (.inl i)], [.inl (aFind v l (xs (i + 1).toNat) (xs (i + 2).toNat) 0)], σ_652) _
            first | (have hA_652 : MA σ_652 v l := MA_fk hA hk_652) | skip
            refine wp_go 5 hM (fr' := (660, [some (.inr 1000), some (.inr 0), some (.inr 30), some (.inl i)], [.inl (i + 1), .inr 1000, .inr 30, .inl (aFind v l (xs (i + 1).toNat) (xs (i + 2).toNat) 0)], σ_652)) rfl ?_
            refine wp_sc hM rfl (by omega) (by omega) (by omega) ?_
            refine wp_go 4 hM (fr' := (665, [some (.inr 1000), some (.inr 0), some (.inr 30), some (.inl i)], [.inl (i + 2), .inr 1000, .inl (xs (i + 1).toNat), .inr 30, .inl (aFind v l (xs (i + 1).toNat) (xs (i + 2).toNat) 0)], σ_652)) rfl ?_
            refine wp_sc hM rfl (by omega) (by omega) (by omega) ?_
            refine wp_go 4 hM (fr' := (670, [some (.inr 1000), some (.inr 0), some (.inr 30), some (.inl i)], [.inl (i + 3), .inr 1000, .inl (xs (i + 2).toNat), .inl (xs (i + 1).toNat), .inr 30, .inl (aFind v l (xs (i + 1).toNat) (xs (i + 2).toNat) 0)], σ_652)) rfl ?_
            refine wp_sc hM rfl (by omega) (by omega) (by omega) ?_
            refine wp_if (tgt := 678) hM rfl (by decide) (by first | (exact hxs _) | fail) (fun c671 => ?_) (fun c671 => ?_)
            · replace c671 := cmp_eq_t c671
              refine wp_go 1 hM (fr' := (679, [some (.inr 1000), some (.inr 0), some (.inr 30), some (.inl i)], [.inl 0, .inl (xs (i + 2).toNat), .inl (xs (i + 1).toNat), .inr 30, .inl (aFind v l (xs (i + 1).toNat) (xs (i + 2).toNat) 0)], σ_652)) rfl ?_
              refine wp_call (v := 0) (idx := 79) (j := 161) (N := mtX6_find) (as := [.inr 30, .inl (xs (i + 1).toNat), .inl (xs (i + 2).toNat), .inl 0]) (rest := [.inl (aFind v l (xs (i + 1).toNat) (xs (i + 2).toNat) 0)]) hM rfl (Or.inl ⟨rfl, rfl⟩) rfl (Cl_M (sp_X6_find_0 v l σ_652 (xs (i + 1).toNat) (xs (i + 2).toNat) (by first | assumption | exact hxs _ | decide | exact GD_GO (GD_wea hGD) | exact GD_EU hGD | exact law_i6 hGD | exact law_t4 hGD) (by first | assumption | exact hxs _ | decide | exact GD_GO (GD_wea hGD) | exact GD_EU hGD | exact law_i6 hGD | exact law_t4 hGD) (by first | assumption | exact hxs _ | decide | exact GD_GO (GD_wea hGD) | exact GD_EU hGD | exact law_i6 hGD | exact law_t4 hGD) (by first | assumption | exact hxs _ | decide | exact GD_GO (GD_wea hGD) | exact GD_EU hGD | exact law_i6 hGD | exact law_t4 hGD))) ?_
              rintro r0 σ_679 ⟨rfl, hA_679, hf_679⟩
              show mz_Wp shF (some (L, xs)) 183 (682, [some (.inr 1000), some (.inr 0), some (.inr 30), some (.inl i)], [.inl (aFind v l (xs (i + 1).toNat) (xs (i + 2).toNat) 0), .inl (aFind v l (xs (i + 1).toNat) (xs (i + 2).toNat) 0)], σ_679) _
              first | (have hLS : LSw σ_679 := ⟨_, _, CS_fm hS_652 hf_679, hA_679, hGD⟩) | skip
              refine wp_ice (tgt := 1116) hM rfl (by decide) (by first | rfl | exact absurd c275 c302 | exact absurd c302 c275 | exact absurd c644 c671 | exact absurd c671 c644) ?_
              refine wp_go 2 hM (fr' := (18, [some (.inr 1000), some (.inr 0), some (.inr 30), some (.inl (i + 5))], [], σ_679)) rfl ?_
              exact ih18 (i + 5) σ_679 (by omega) (by omega) (by first | (first | exact hLS | exact ⟨v, l, hS, hA, hGD⟩) | fail) (by omega)
            · replace c671 := cmp_eq_f c671
              refine wp_go 2 hM (fr' := (679, [some (.inr 1000), some (.inr 0), some (.inr 30), some (.inl i)], [.inl 1, .inl (xs (i + 2).toNat), .inl (xs (i + 1).toNat), .inr 30, .inl (aFind v l (xs (i + 1).toNat) (xs (i + 2).toNat) 0)], σ_652)) rfl ?_
              refine wp_call (v := 0) (idx := 79) (j := 161) (N := mtX6_find) (as := [.inr 30, .inl (xs (i + 1).toNat), .inl (xs (i + 2).toNat), .inl 1]) (rest := [.inl (aFind v l (xs (i + 1).toNat) (xs (i + 2).toNat) 0)]) hM rfl (Or.inl ⟨rfl, rfl⟩) rfl (Cl_M (sp_X6_find_1 v l σ_652 (xs (i + 1).toNat) (xs (i + 2).toNat) (by first | assumption | exact hxs _ | decide | exact GD_GO (GD_wea hGD) | exact GD_EU hGD | exact law_i6 hGD | exact law_t4 hGD) (by first | assumption | exact hxs _ | decide | exact GD_GO (GD_wea hGD) | exact GD_EU hGD | exact law_i6 hGD | exact law_t4 hGD) (by first | assumption | exact hxs _ | decide | exact GD_GO (GD_wea hGD) | exact GD_EU hGD | exact law_i6 hGD | exact law_t4 hGD) (by first | assumption | exact hxs _ | decide | exact GD_GO (GD_wea hGD) | exact GD_EU hGD | exact law_i6 hGD | exact law_t4 hGD))) ?_
              rintro r0 σ_679 ⟨rfl, hA_679, hf_679⟩
              show mz_Wp shF (some (L, xs)) 183 (682, [some (.inr 1000), some (.inr 0), some (.inr 30), some (.inl i)], [.inl (aFind v l (xs (i + 1).toNat) (xs (i + 2).toNat) 1), .inl (aFind v l (xs (i + 1).toNat) (xs (i + 2).toNat) 0)], σ_679) _
              first | (have hLS : LSw σ_679 := ⟨_, _, CS_fm hS_652 hf_679, hA_679, hGD⟩) | skip
              refine wp_ice (tgt := 1116) hM rfl (by decide) (by first | rfl | exact absurd c275 c302 | exact absurd c302 c275 | exact absurd c644 c671 | exact absurd c671 c644) ?_
              refine wp_go 2 hM (fr' := (18, [some (.inr 1000), some (.inr 0), some (.inr 30), some (.inl (i + 5))], [], σ_679)) rfl ?_
              exact ih18 (i + 5) σ_679 (by omega) (by omega) (by first | (first | exact hLS | exact ⟨v, l, hS, hA, hGD⟩) | fail) (by omega)
          · replace c644 := cmp_eq_f c644
            refine wp_go 2 hM (fr' := (652, [some (.inr 1000), some (.inr 0), some (.inr 30), some (.inl i)], [.inl 1, .inl (xs (i + 2).toNat), .inl (xs (i + 1).toNat), .inr 0], σ1)) rfl ?_
            refine wp_call (v := 0) (idx := 76) (j := 78) (N := mtX5_find) (as := [.inr 0, .inl (xs (i + 1).toNat), .inl (xs (i + 2).toNat), .inl 1]) (rest := []) hM rfl (Or.inl ⟨rfl, rfl⟩) rfl (Cl_A (sp_X5_find v l σ1 (xs (i + 1).toNat) (xs (i + 2).toNat) 1 (by first | assumption | exact hxs _ | decide | exact GD_GO (GD_wea hGD) | exact GD_EU hGD | exact law_i6 hGD | exact law_t4 hGD) (by first | assumption | exact hxs _ | decide | exact GD_GO (GD_wea hGD) | exact GD_EU hGD | exact law_i6 hGD | exact law_t4 hGD) (by first | assumption | exact hxs _ | decide | exact GD_GO (GD_wea hGD) | exact GD_EU hGD | exact law_i6 hGD | exact law_t4 hGD) (by first | assumption | exact hxs _ | decide | exact GD_GO (GD_wea hGD) | exact GD_EU hGD | exact law_i6 hGD | exact law_t4 hGD) (by first | assumption | exact hxs _ | decide | exact GD_GO (GD_wea hGD) | exact GD_EU hGD | exact law_i6 hGD | exact law_t4 hGD))) ?_
            rintro r0 σ_652 ⟨rfl, hS_652, hk_652⟩
            show mz_Wp shF (some (L, xs)) 183 (655, [some (.inr 1000), some (.inr 0), some (.inr 30), some (.inl i)], [.inl (aFind v l (xs (i + 1).toNat) (xs (i + 2).toNat) 1)], σ_652) _
            first | (have hA_652 : MA σ_652 v l := MA_fk hA hk_652) | skip
            refine wp_go 5 hM (fr' := (660, [some (.inr 1000), some (.inr 0), some (.inr 30), some (.inl i)], [.inl (i + 1), .inr 1000, .inr 30, .inl (aFind v l (xs (i + 1).toNat) (xs (i + 2).toNat) 1)], σ_652)) rfl ?_
            refine wp_sc hM rfl (by omega) (by omega) (by omega) ?_
            refine wp_go 4 hM (fr' := (665, [some (.inr 1000), some (.inr 0), some (.inr 30), some (.inl i)], [.inl (i + 2), .inr 1000, .inl (xs (i + 1).toNat), .inr 30, .inl (aFind v l (xs (i + 1).toNat) (xs (i + 2).toNat) 1)], σ_652)) rfl ?_
            refine wp_sc hM rfl (by omega) (by omega) (by omega) ?_
            refine wp_go 4 hM (fr' := (670, [some (.inr 1000), some (.inr 0), some (.inr 30), some (.inl i)], [.inl (i + 3), .inr 1000, .inl (xs (i + 2).toNat), .inl (xs (i + 1).toNat), .inr 30, .inl (aFind v l (xs (i + 1).toNat) (xs (i + 2).toNat) 1)], σ_652)) rfl ?_
            refine wp_sc hM rfl (by omega) (by omega) (by omega) ?_
            refine wp_if (tgt := 678) hM rfl (by decide) (by first | (exact hxs _) | fail) (fun c671 => ?_) (fun c671 => ?_)
            · replace c671 := cmp_eq_t c671
              refine wp_go 1 hM (fr' := (679, [some (.inr 1000), some (.inr 0), some (.inr 30), some (.inl i)], [.inl 0, .inl (xs (i + 2).toNat), .inl (xs (i + 1).toNat), .inr 30, .inl (aFind v l (xs (i + 1).toNat) (xs (i + 2).toNat) 1)], σ_652)) rfl ?_
              refine wp_call (v := 0) (idx := 79) (j := 161) (N := mtX6_find) (as := [.inr 30, .inl (xs (i + 1).toNat), .inl (xs (i + 2).toNat), .inl 0]) (rest := [.inl (aFind v l (xs (i + 1).toNat) (xs (i + 2).toNat) 1)]) hM rfl (Or.inl ⟨rfl, rfl⟩) rfl (Cl_M (sp_X6_find_0 v l σ_652 (xs (i + 1).toNat) (xs (i + 2).toNat) (by first | assumption | exact hxs _ | decide | exact GD_GO (GD_wea hGD) | exact GD_EU hGD | exact law_i6 hGD | exact law_t4 hGD) (by first | assumption | exact hxs _ | decide | exact GD_GO (GD_wea hGD) | exact GD_EU hGD | exact law_i6 hGD | exact law_t4 hGD) (by first | assumption | exact hxs _ | decide | exact GD_GO (GD_wea hGD) | exact GD_EU hGD | exact law_i6 hGD | exact law_t4 hGD) (by first | assumption | exact hxs _ | decide | exact GD_GO (GD_wea hGD) | exact GD_EU hGD | exact law_i6 hGD | exact law_t4 hGD))) ?_
              rintro r0 σ_679 ⟨rfl, hA_679, hf_679⟩
              show mz_Wp shF (some (L, xs)) 183 (682, [some (.inr 1000), some (.inr 0), some (.inr 30), some (.inl i)], [.inl (aFind v l (xs (i + 1).toNat) (xs (i + 2).toNat) 0), .inl (aFind v l (xs (i + 1).toNat) (xs (i + 2).toNat) 1)], σ_679) _
              first | (have hLS : LSw σ_679 := ⟨_, _, CS_fm hS_652 hf_679, hA_679, hGD⟩) | skip
              refine wp_ice (tgt := 1116) hM rfl (by decide) (by first | rfl | exact absurd c275 c302 | exact absurd c302 c275 | exact absurd c644 c671 | exact absurd c671 c644) ?_
              refine wp_go 2 hM (fr' := (18, [some (.inr 1000), some (.inr 0), some (.inr 30), some (.inl (i + 5))], [], σ_679)) rfl ?_
              exact ih18 (i + 5) σ_679 (by omega) (by omega) (by first | (first | exact hLS | exact ⟨v, l, hS, hA, hGD⟩) | fail) (by omega)
            · replace c671 := cmp_eq_f c671
              refine wp_go 2 hM (fr' := (679, [some (.inr 1000), some (.inr 0), some (.inr 30), some (.inl i)], [.inl 1, .inl (xs (i + 2).toNat), .inl (xs (i + 1).toNat), .inr 30, .inl (aFind v l (xs (i + 1).toNat) (xs (i + 2).toNat) 1)], σ_652)) rfl ?_
              refine wp_call (v := 0) (idx := 79) (j := 161) (N := mtX6_find) (as := [.inr 30, .inl (xs (i + 1).toNat), .inl (xs (i + 2).toNat), .inl 1]) (rest := [.inl (aFind v l (xs (i + 1).toNat) (xs (i + 2).toNat) 1)]) hM rfl (Or.inl ⟨rfl, rfl⟩) rfl (Cl_M (sp_X6_find_1 v l σ_652 (xs (i + 1).toNat) (xs (i + 2).toNat) (by first | assumption | exact hxs _ | decide | exact GD_GO (GD_wea hGD) | exact GD_EU hGD | exact law_i6 hGD | exact law_t4 hGD) (by first | assumption | exact hxs _ | decide | exact GD_GO (GD_wea hGD) | exact GD_EU hGD | exact law_i6 hGD | exact law_t4 hGD) (by first | assumption | exact hxs _ | decide | exact GD_GO (GD_wea hGD) | exact GD_EU hGD | exact law_i6 hGD | exact law_t4 hGD) (by first | assumption | exact hxs _ | decide | exact GD_GO (GD_wea hGD) | exact GD_EU hGD | exact law_i6 hGD | exact law_t4 hGD))) ?_
              rintro r0 σ_679 ⟨rfl, hA_679, hf_679⟩
              show mz_Wp shF (some (L, xs)) 183 (682, [some (.inr 1000), some (.inr 0), some (.inr 30), some (.inl i)], [.inl (aFind v l (xs (i + 1).toNat) (xs (i + 2).toNat) 1), .inl (aFind v l (xs (i + 1).toNat) (xs (i + 2).toNat) 1)], σ_679) _
              first | (have hLS : LSw σ_679 := ⟨_, _, CS_fm hS_652 hf_679, hA_679, hGD⟩) | skip
              refine wp_ice (tgt := 1116) hM rfl (by decide) (by first | rfl | exact absurd c275 c302 | exact absurd c302 c275 | exact absurd c644 c671 | exact absurd c671 c644) ?_
              refine wp_go 2 hM (fr' := (18, [some (.inr 1000), some (.inr 0), some (.inr 30), some (.inl (i + 5))], [], σ_679)) rfl ?_
              exact ih18 (i + 5) σ_679 (by omega) (by omega) (by first | (first | exact hLS | exact ⟨v, l, hS, hA, hGD⟩) | fail) (by omega)
        · refine wp_tsi (tgt := 687) (off := 655) hM rfl hR32 (by omega) (by rw [c32]; rfl) (by decide) ?_
          refine wp_go 5 hM (fr' := (692, [some (.inr 1000), some (.inr 0), some (.inr 30), some (.inl i)], [.inl (i + 1), .inr 1000, .inr 0], σ1)) rfl ?_
          refine wp_sc hM rfl (by omega) (by omega) (by omega) ?_
          refine wp_go 4 hM (fr' := (697, [some (.inr 1000), some (.inr 0), some (.inr 30), some (.inl i)], [.inl (i + 2), .inr 1000, .inl (xs (i + 1).toNat), .inr 0], σ1)) rfl ?_
          refine wp_sc hM rfl (by omega) (by omega) (by omega) ?_
          refine wp_go 4 hM (fr' := (702, [some (.inr 1000), some (.inr 0), some (.inr 30), some (.inl i)], [.inl (i + 3), .inr 1000, .inl (xs (i + 2).toNat), .inl (xs (i + 1).toNat), .inr 0], σ1)) rfl ?_
          refine wp_sc hM rfl (by omega) (by omega) (by omega) ?_
          refine wp_call (v := 0) (idx := 80) (j := 79) (N := mtX5_share) (as := [.inr 0, .inl (xs (i + 1).toNat), .inl (xs (i + 2).toNat), .inl (xs (i + 3).toNat)]) (rest := []) hM rfl (Or.inl ⟨rfl, rfl⟩) rfl (Cl_A (sp_X5_share v l σ1 (xs (i + 1).toNat) (xs (i + 2).toNat) (xs (i + 3).toNat) (by first | assumption | exact hxs _ | decide | exact GD_GO (GD_wea hGD) | exact GD_EU hGD | exact law_i6 hGD | exact law_t4 hGD) (by first | assumption | exact hxs _ | decide | exact GD_GO (GD_wea hGD) | exact GD_EU hGD | exact law_i6 hGD | exact law_t4 hGD) (by first | assumption | exact hxs _ | decide | exact GD_GO (GD_wea hGD) | exact GD_EU hGD | exact law_i6 hGD | exact law_t4 hGD) (by first | assumption | exact hxs _ | decide | exact GD_GO (GD_wea hGD) | exact GD_EU hGD | exact law_i6 hGD | exact law_t4 hGD) (by first | assumption | exact hxs _ | decide | exact GD_GO (GD_wea hGD) | exact GD_EU hGD | exact law_i6 hGD | exact law_t4 hGD))) ?_
          rintro r0 σ_703 ⟨rfl, hS_703, hk_703⟩
          show mz_Wp shF (some (L, xs)) 183 (706, [some (.inr 1000), some (.inr 0), some (.inr 30), some (.inl i)], [.inl (aShare v l (xs (i + 1).toNat) (xs (i + 2).toNat) (xs (i + 3).toNat))], σ_703) _
          first | (have hA_703 : MA σ_703 v l := MA_fk hA hk_703) | skip
          refine wp_go 5 hM (fr' := (711, [some (.inr 1000), some (.inr 0), some (.inr 30), some (.inl i)], [.inl (i + 1), .inr 1000, .inr 30, .inl (aShare v l (xs (i + 1).toNat) (xs (i + 2).toNat) (xs (i + 3).toNat))], σ_703)) rfl ?_
          refine wp_sc hM rfl (by omega) (by omega) (by omega) ?_
          refine wp_go 4 hM (fr' := (716, [some (.inr 1000), some (.inr 0), some (.inr 30), some (.inl i)], [.inl (i + 2), .inr 1000, .inl (xs (i + 1).toNat), .inr 30, .inl (aShare v l (xs (i + 1).toNat) (xs (i + 2).toNat) (xs (i + 3).toNat))], σ_703)) rfl ?_
          refine wp_sc hM rfl (by omega) (by omega) (by omega) ?_
          refine wp_go 4 hM (fr' := (721, [some (.inr 1000), some (.inr 0), some (.inr 30), some (.inl i)], [.inl (i + 3), .inr 1000, .inl (xs (i + 2).toNat), .inl (xs (i + 1).toNat), .inr 30, .inl (aShare v l (xs (i + 1).toNat) (xs (i + 2).toNat) (xs (i + 3).toNat))], σ_703)) rfl ?_
          refine wp_sc hM rfl (by omega) (by omega) (by omega) ?_
          refine wp_call (v := 0) (idx := 83) (j := 162) (N := mtX6_share) (as := [.inr 30, .inl (xs (i + 1).toNat), .inl (xs (i + 2).toNat), .inl (xs (i + 3).toNat)]) (rest := [.inl (aShare v l (xs (i + 1).toNat) (xs (i + 2).toNat) (xs (i + 3).toNat))]) hM rfl (Or.inl ⟨rfl, rfl⟩) rfl (Cl_M (sp_X6_share v l σ_703 (xs (i + 1).toNat) (xs (i + 2).toNat) (xs (i + 3).toNat) (by first | assumption | exact hxs _ | decide | exact GD_GO (GD_wea hGD) | exact GD_EU hGD | exact law_i6 hGD | exact law_t4 hGD) (by first | assumption | exact hxs _ | decide | exact GD_GO (GD_wea hGD) | exact GD_EU hGD | exact law_i6 hGD | exact law_t4 hGD) (by first | assumption | exact hxs _ | decide | exact GD_GO (GD_wea hGD) | exact GD_EU hGD | exact law_i6 hGD | exact law_t4 hGD) (by first | assumption | exact hxs _ | decide | exact GD_GO (GD_wea hGD) | exact GD_EU hGD | exact law_i6 hGD | exact law_t4 hGD) (by first | assumption | exact hxs _ | decide | exact GD_GO (GD_wea hGD) | exact GD_EU hGD | exact law_i6 hGD | exact law_t4 hGD))) ?_
          rintro r0 σ_722 ⟨rfl, hA_722, hf_722⟩
          show mz_Wp shF (some (L, xs)) 183 (725, [some (.inr 1000), some (.inr 0), some (.inr 30), some (.inl i)], [.inl (aShare v l (xs (i + 1).toNat) (xs (i + 2).toNat) (xs (i + 3).toNat)), .inl (aShare v l (xs (i + 1).toNat) (xs (i + 2).toNat) (xs (i + 3).toNat))], σ_722) _
          first | (have hLS : LSw σ_722 := ⟨_, _, CS_fm hS_703 hf_722, hA_722, hGD⟩) | skip
          refine wp_ice (tgt := 1116) hM rfl (by decide) (by first | rfl | exact absurd c275 c302 | exact absurd c302 c275 | exact absurd c644 c671 | exact absurd c671 c644) ?_
          refine wp_go 2 hM (fr' := (18, [some (.inr 1000), some (.inr 0), some (.inr 30), some (.inl (i + 5))], [], σ_722)) rfl ?_
          exact ih18 (i + 5) σ_722 (by omega) (by omega) (by first | (first | exact hLS | exact ⟨v, l, hS, hA, hGD⟩) | fail) (by omega)
        · refine wp_tsi (tgt := 730) (off := 698) hM rfl hR32 (by omega) (by rw [c32]; rfl) (by decide) ?_
          refine wp_go 5 hM (fr' := (735, [some (.inr 1000), some (.inr 0), some (.inr 30), some (.inl i)], [.inl (i + 1), .inr 1000, .inr 0], σ1)) rfl ?_
          refine wp_sc hM rfl (by omega) (by omega) (by omega) ?_
          refine wp_go 4 hM (fr' := (740, [some (.inr 1000), some (.inr 0), some (.inr 30), some (.inl i)], [.inl (i + 2), .inr 1000, .inl (xs (i + 1).toNat), .inr 0], σ1)) rfl ?_
          refine wp_sc hM rfl (by omega) (by omega) (by omega) ?_
          refine wp_go 4 hM (fr' := (745, [some (.inr 1000), some (.inr 0), some (.inr 30), some (.inl i)], [.inl (i + 3), .inr 1000, .inl (xs (i + 2).toNat), .inl (xs (i + 1).toNat), .inr 0], σ1)) rfl ?_
          refine wp_sc hM rfl (by omega) (by omega) (by omega) ?_
          refine wp_call (v := 0) (idx := 84) (j := 80) (N := mtX5_from) (as := [.inr 0, .inl (xs (i + 1).toNat), .inl (xs (i + 2).toNat), .inl (xs (i + 3).toNat)]) (rest := []) hM rfl (Or.inl ⟨rfl, rfl⟩) rfl (Cl_A (sp_X5_from v l σ1 (xs (i + 1).toNat) (xs (i + 2).toNat) (xs (i + 3).toNat) (by first | assumption | exact hxs _ | decide | exact GD_GO (GD_wea hGD) | exact GD_EU hGD | exact law_i6 hGD | exact law_t4 hGD) (by first | assumption | exact hxs _ | decide | exact GD_GO (GD_wea hGD) | exact GD_EU hGD | exact law_i6 hGD | exact law_t4 hGD) (by first | assumption | exact hxs _ | decide | exact GD_GO (GD_wea hGD) | exact GD_EU hGD | exact law_i6 hGD | exact law_t4 hGD) (by first | assumption | exact hxs _ | decide | exact GD_GO (GD_wea hGD) | exact GD_EU hGD | exact law_i6 hGD | exact law_t4 hGD) (by first | assumption | exact hxs _ | decide | exact GD_GO (GD_wea hGD) | exact GD_EU hGD | exact law_i6 hGD | exact law_t4 hGD))) ?_
          rintro r0 σ_746 ⟨rfl, hS_746, hk_746⟩
          show mz_Wp shF (some (L, xs)) 183 (749, [some (.inr 1000), some (.inr 0), some (.inr 30), some (.inl i)], [.inl (aFrom v l 1 (xs (i + 1).toNat) (xs (i + 2).toNat) (xs (i + 3).toNat))], σ_746) _
          first | (have hA_746 : MA σ_746 v l := MA_fk hA hk_746) | skip
          refine wp_go 5 hM (fr' := (754, [some (.inr 1000), some (.inr 0), some (.inr 30), some (.inl i)], [.inl (i + 1), .inr 1000, .inr 30, .inl (aFrom v l 1 (xs (i + 1).toNat) (xs (i + 2).toNat) (xs (i + 3).toNat))], σ_746)) rfl ?_
          refine wp_sc hM rfl (by omega) (by omega) (by omega) ?_
          refine wp_go 4 hM (fr' := (759, [some (.inr 1000), some (.inr 0), some (.inr 30), some (.inl i)], [.inl (i + 2), .inr 1000, .inl (xs (i + 1).toNat), .inr 30, .inl (aFrom v l 1 (xs (i + 1).toNat) (xs (i + 2).toNat) (xs (i + 3).toNat))], σ_746)) rfl ?_
          refine wp_sc hM rfl (by omega) (by omega) (by omega) ?_
          refine wp_go 4 hM (fr' := (764, [some (.inr 1000), some (.inr 0), some (.inr 30), some (.inl i)], [.inl (i + 3), .inr 1000, .inl (xs (i + 2).toNat), .inl (xs (i + 1).toNat), .inr 30, .inl (aFrom v l 1 (xs (i + 1).toNat) (xs (i + 2).toNat) (xs (i + 3).toNat))], σ_746)) rfl ?_
          refine wp_sc hM rfl (by omega) (by omega) (by omega) ?_
          refine wp_call (v := 0) (idx := 87) (j := 164) (N := mtX6_from) (as := [.inr 30, .inl (xs (i + 1).toNat), .inl (xs (i + 2).toNat), .inl (xs (i + 3).toNat)]) (rest := [.inl (aFrom v l 1 (xs (i + 1).toNat) (xs (i + 2).toNat) (xs (i + 3).toNat))]) hM rfl (Or.inl ⟨rfl, rfl⟩) rfl (Cl_M (sp_X6_from v l σ_746 (xs (i + 1).toNat) (xs (i + 2).toNat) (xs (i + 3).toNat) (by first | assumption | exact hxs _ | decide | exact GD_GO (GD_wea hGD) | exact GD_EU hGD | exact law_i6 hGD | exact law_t4 hGD) (by first | assumption | exact hxs _ | decide | exact GD_GO (GD_wea hGD) | exact GD_EU hGD | exact law_i6 hGD | exact law_t4 hGD) (by first | assumption | exact hxs _ | decide | exact GD_GO (GD_wea hGD) | exact GD_EU hGD | exact law_i6 hGD | exact law_t4 hGD) (by first | assumption | exact hxs _ | decide | exact GD_GO (GD_wea hGD) | exact GD_EU hGD | exact law_i6 hGD | exact law_t4 hGD) (by first | assumption | exact hxs _ | decide | exact GD_GO (GD_wea hGD) | exact GD_EU hGD | exact law_i6 hGD | exact law_t4 hGD))) ?_
          rintro r0 σ_765 ⟨rfl, hA_765, hf_765⟩
          show mz_Wp shF (some (L, xs)) 183 (768, [some (.inr 1000), some (.inr 0), some (.inr 30), some (.inl i)], [.inl (aFrom v l 1 (xs (i + 1).toNat) (xs (i + 2).toNat) (xs (i + 3).toNat)), .inl (aFrom v l 1 (xs (i + 1).toNat) (xs (i + 2).toNat) (xs (i + 3).toNat))], σ_765) _
          first | (have hLS : LSw σ_765 := ⟨_, _, CS_fm hS_746 hf_765, hA_765, hGD⟩) | skip
          refine wp_ice (tgt := 1116) hM rfl (by decide) (by first | rfl | exact absurd c275 c302 | exact absurd c302 c275 | exact absurd c644 c671 | exact absurd c671 c644) ?_
          refine wp_go 2 hM (fr' := (18, [some (.inr 1000), some (.inr 0), some (.inr 30), some (.inl (i + 5))], [], σ_765)) rfl ?_
          exact ih18 (i + 5) σ_765 (by omega) (by omega) (by first | (first | exact hLS | exact ⟨v, l, hS, hA, hGD⟩) | fail) (by omega)
        · refine wp_tsi (tgt := 773) (off := 741) hM rfl hR32 (by omega) (by rw [c32]; rfl) (by decide) ?_
          refine wp_go 5 hM (fr' := (778, [some (.inr 1000), some (.inr 0), some (.inr 30), some (.inl i)], [.inl (i + 1), .inr 1000, .inr 0], σ1)) rfl ?_
          refine wp_sc hM rfl (by omega) (by omega) (by omega) ?_
          refine wp_go 4 hM (fr' := (783, [some (.inr 1000), some (.inr 0), some (.inr 30), some (.inl i)], [.inl (i + 2), .inr 1000, .inl (xs (i + 1).toNat), .inr 0], σ1)) rfl ?_
          refine wp_sc hM rfl (by omega) (by omega) (by omega) ?_
          refine wp_go 4 hM (fr' := (788, [some (.inr 1000), some (.inr 0), some (.inr 30), some (.inl i)], [.inl (i + 3), .inr 1000, .inl (xs (i + 2).toNat), .inl (xs (i + 1).toNat), .inr 0], σ1)) rfl ?_
          refine wp_sc hM rfl (by omega) (by omega) (by omega) ?_
          refine wp_call (v := 0) (idx := 88) (j := 81) (N := mtX5_to) (as := [.inr 0, .inl (xs (i + 1).toNat), .inl (xs (i + 2).toNat), .inl (xs (i + 3).toNat)]) (rest := []) hM rfl (Or.inl ⟨rfl, rfl⟩) rfl (Cl_A (sp_X5_to v l σ1 (xs (i + 1).toNat) (xs (i + 2).toNat) (xs (i + 3).toNat) (by first | assumption | exact hxs _ | decide | exact GD_GO (GD_wea hGD) | exact GD_EU hGD | exact law_i6 hGD | exact law_t4 hGD) (by first | assumption | exact hxs _ | decide | exact GD_GO (GD_wea hGD) | exact GD_EU hGD | exact law_i6 hGD | exact law_t4 hGD) (by first | assumption | exact hxs _ | decide | exact GD_GO (GD_wea hGD) | exact GD_EU hGD | exact law_i6 hGD | exact law_t4 hGD) (by first | assumption | exact hxs _ | decide | exact GD_GO (GD_wea hGD) | exact GD_EU hGD | exact law_i6 hGD | exact law_t4 hGD) (by first | assumption | exact hxs _ | decide | exact GD_GO (GD_wea hGD) | exact GD_EU hGD | exact law_i6 hGD | exact law_t4 hGD))) ?_
          rintro r0 σ_789 ⟨rfl, hS_789, hk_789⟩
          show mz_Wp shF (some (L, xs)) 183 (792, [some (.inr 1000), some (.inr 0), some (.inr 30), some (.inl i)], [.inl (aFrom v l 0 (xs (i + 1).toNat) (xs (i + 2).toNat) (xs (i + 3).toNat))], σ_789) _
          first | (have hA_789 : MA σ_789 v l := MA_fk hA hk_789) | skip
          refine wp_go 5 hM (fr' := (797, [some (.inr 1000), some (.inr 0), some (.inr 30), some (.inl i)], [.inl (i + 1), .inr 1000, .inr 30, .inl (aFrom v l 0 (xs (i + 1).toNat) (xs (i + 2).toNat) (xs (i + 3).toNat))], σ_789)) rfl ?_
          refine wp_sc hM rfl (by omega) (by omega) (by omega) ?_
          refine wp_go 4 hM (fr' := (802, [some (.inr 1000), some (.inr 0), some (.inr 30), some (.inl i)], [.inl (i + 2), .inr 1000, .inl (xs (i + 1).toNat), .inr 30, .inl (aFrom v l 0 (xs (i + 1).toNat) (xs (i + 2).toNat) (xs (i + 3).toNat))], σ_789)) rfl ?_
          refine wp_sc hM rfl (by omega) (by omega) (by omega) ?_
          refine wp_go 4 hM (fr' := (807, [some (.inr 1000), some (.inr 0), some (.inr 30), some (.inl i)], [.inl (i + 3), .inr 1000, .inl (xs (i + 2).toNat), .inl (xs (i + 1).toNat), .inr 30, .inl (aFrom v l 0 (xs (i + 1).toNat) (xs (i + 2).toNat) (xs (i + 3).toNat))], σ_789)) rfl ?_
          refine wp_sc hM rfl (by omega) (by omega) (by omega) ?_
          refine wp_call (v := 0) (idx := 91) (j := 165) (N := mtX6_to) (as := [.inr 30, .inl (xs (i + 1).toNat), .inl (xs (i + 2).toNat), .inl (xs (i + 3).toNat)]) (rest := [.inl (aFrom v l 0 (xs (i + 1).toNat) (xs (i + 2).toNat) (xs (i + 3).toNat))]) hM rfl (Or.inl ⟨rfl, rfl⟩) rfl (Cl_M (sp_X6_to v l σ_789 (xs (i + 1).toNat) (xs (i + 2).toNat) (xs (i + 3).toNat) (by first | assumption | exact hxs _ | decide | exact GD_GO (GD_wea hGD) | exact GD_EU hGD | exact law_i6 hGD | exact law_t4 hGD) (by first | assumption | exact hxs _ | decide | exact GD_GO (GD_wea hGD) | exact GD_EU hGD | exact law_i6 hGD | exact law_t4 hGD) (by first | assumption | exact hxs _ | decide | exact GD_GO (GD_wea hGD) | exact GD_EU hGD | exact law_i6 hGD | exact law_t4 hGD) (by first | assumption | exact hxs _ | decide | exact GD_GO (GD_wea hGD) | exact GD_EU hGD | exact law_i6 hGD | exact law_t4 hGD) (by first | assumption | exact hxs _ | decide | exact GD_GO (GD_wea hGD) | exact GD_EU hGD | exact law_i6 hGD | exact law_t4 hGD))) ?_
          rintro r0 σ_808 ⟨rfl, hA_808, hf_808⟩
          show mz_Wp shF (some (L, xs)) 183 (811, [some (.inr 1000), some (.inr 0), some (.inr 30), some (.inl i)], [.inl (aFrom v l 0 (xs (i + 1).toNat) (xs (i + 2).toNat) (xs (i + 3).toNat)), .inl (aFrom v l 0 (xs (i + 1).toNat) (xs (i + 2).toNat) (xs (i + 3).toNat))], σ_808) _
          first | (have hLS : LSw σ_808 := ⟨_, _, CS_fm hS_789 hf_808, hA_808, hGD⟩) | skip
          refine wp_ice (tgt := 1116) hM rfl (by decide) (by first | rfl | exact absurd c275 c302 | exact absurd c302 c275 | exact absurd c644 c671 | exact absurd c671 c644) ?_
          refine wp_go 2 hM (fr' := (18, [some (.inr 1000), some (.inr 0), some (.inr 30), some (.inl (i + 5))], [], σ_808)) rfl ?_
          exact ih18 (i + 5) σ_808 (by omega) (by omega) (by first | (first | exact hLS | exact ⟨v, l, hS, hA, hGD⟩) | fail) (by omega)
        · refine wp_tsi (tgt := 816) (off := 784) hM rfl hR32 (by omega) (by rw [c32]; rfl) (by decide) ?_
          refine wp_go 5 hM (fr' := (821, [some (.inr 1000), some (.inr 0), some (.inr 30), some (.inl i)], [.inl (i + 1), .inr 1000, .inr 0], σ1)) rfl ?_
          refine wp_sc hM rfl (by omega) (by omega) (by omega) ?_
          refine wp_go 4 hM (fr' := (826, [some (.inr 1000), some (.inr 0), some (.inr 30), some (.inl i)], [.inl (i + 2), .inr 1000, .inl (xs (i + 1).toNat), .inr 0], σ1)) rfl ?_
          refine wp_sc hM rfl (by omega) (by omega) (by omega) ?_
          refine wp_call (v := 0) (idx := 92) (j := 82) (N := mtX5_nearest) (as := [.inr 0, .inl (xs (i + 1).toNat), .inl (xs (i + 2).toNat)]) (rest := []) hM rfl (Or.inl ⟨rfl, rfl⟩) rfl (Cl_A (sp_X5_nearest v l σ1 (xs (i + 1).toNat) (xs (i + 2).toNat) (by first | assumption | exact hxs _ | decide | exact GD_GO (GD_wea hGD) | exact GD_EU hGD | exact law_i6 hGD | exact law_t4 hGD) (by first | assumption | exact hxs _ | decide | exact GD_GO (GD_wea hGD) | exact GD_EU hGD | exact law_i6 hGD | exact law_t4 hGD) (by first | assumption | exact hxs _ | decide | exact GD_GO (GD_wea hGD) | exact GD_EU hGD | exact law_i6 hGD | exact law_t4 hGD) (by first | assumption | exact hxs _ | decide | exact GD_GO (GD_wea hGD) | exact GD_EU hGD | exact law_i6 hGD | exact law_t4 hGD))) ?_
          rintro r0 σ_827 ⟨rfl, hS_827, hk_827⟩
          show mz_Wp shF (some (L, xs)) 183 (830, [some (.inr 1000), some (.inr 0), some (.inr 30), some (.inl i)], [.inl (aNear v l (xs (i + 1).toNat) (xs (i + 2).toNat))], σ_827) _
          first | (have hA_827 : MA σ_827 v l := MA_fk hA hk_827) | skip
          refine wp_go 5 hM (fr' := (835, [some (.inr 1000), some (.inr 0), some (.inr 30), some (.inl i)], [.inl (i + 1), .inr 1000, .inr 30, .inl (aNear v l (xs (i + 1).toNat) (xs (i + 2).toNat))], σ_827)) rfl ?_
          refine wp_sc hM rfl (by omega) (by omega) (by omega) ?_
          refine wp_go 4 hM (fr' := (840, [some (.inr 1000), some (.inr 0), some (.inr 30), some (.inl i)], [.inl (i + 2), .inr 1000, .inl (xs (i + 1).toNat), .inr 30, .inl (aNear v l (xs (i + 1).toNat) (xs (i + 2).toNat))], σ_827)) rfl ?_
          refine wp_sc hM rfl (by omega) (by omega) (by omega) ?_
          refine wp_call (v := 0) (idx := 95) (j := 166) (N := mtX6_nearest) (as := [.inr 30, .inl (xs (i + 1).toNat), .inl (xs (i + 2).toNat)]) (rest := [.inl (aNear v l (xs (i + 1).toNat) (xs (i + 2).toNat))]) hM rfl (Or.inl ⟨rfl, rfl⟩) rfl (Cl_M (sp_X6_nearest v l σ_827 (xs (i + 1).toNat) (xs (i + 2).toNat) (by first | assumption | exact hxs _ | decide | exact GD_GO (GD_wea hGD) | exact GD_EU hGD | exact law_i6 hGD | exact law_t4 hGD) (by first | assumption | exact hxs _ | decide | exact GD_GO (GD_wea hGD) | exact GD_EU hGD | exact law_i6 hGD | exact law_t4 hGD) (by first | assumption | exact hxs _ | decide | exact GD_GO (GD_wea hGD) | exact GD_EU hGD | exact law_i6 hGD | exact law_t4 hGD) (by first | assumption | exact hxs _ | decide | exact GD_GO (GD_wea hGD) | exact GD_EU hGD | exact law_i6 hGD | exact law_t4 hGD))) ?_
          rintro r0 σ_841 ⟨rfl, hA_841, hf_841⟩
          show mz_Wp shF (some (L, xs)) 183 (844, [some (.inr 1000), some (.inr 0), some (.inr 30), some (.inl i)], [.inl (aNear v l (xs (i + 1).toNat) (xs (i + 2).toNat)), .inl (aNear v l (xs (i + 1).toNat) (xs (i + 2).toNat))], σ_841) _
          first | (have hLS : LSw σ_841 := ⟨_, _, CS_fm hS_827 hf_841, hA_841, hGD⟩) | skip
          refine wp_ice (tgt := 1116) hM rfl (by decide) (by first | rfl | exact absurd c275 c302 | exact absurd c302 c275 | exact absurd c644 c671 | exact absurd c671 c644) ?_
          refine wp_go 2 hM (fr' := (18, [some (.inr 1000), some (.inr 0), some (.inr 30), some (.inl (i + 5))], [], σ_841)) rfl ?_
          exact ih18 (i + 5) σ_841 (by omega) (by omega) (by first | (first | exact hLS | exact ⟨v, l, hS, hA, hGD⟩) | fail) (by omega)
        · refine wp_tsi (tgt := 849) (off := 817) hM rfl hR32 (by omega) (by rw [c32]; rfl) (by decide) ?_
          refine wp_go 5 hM (fr' := (854, [some (.inr 1000), some (.inr 0), some (.inr 30), some (.inl i)], [.inl (i + 1), .inr 1000, .inr 0], σ1)) rfl ?_
          refine wp_sc hM rfl (by omega) (by omega) (by omega) ?_
          refine wp_go 4 hM (fr' := (859, [some (.inr 1000), some (.inr 0), some (.inr 30), some (.inl i)], [.inl (i + 2), .inr 1000, .inl (xs (i + 1).toNat), .inr 0], σ1)) rfl ?_
          refine wp_sc hM rfl (by omega) (by omega) (by omega) ?_
          refine wp_go 4 hM (fr' := (864, [some (.inr 1000), some (.inr 0), some (.inr 30), some (.inl i)], [.inl (i + 3), .inr 1000, .inl (xs (i + 2).toNat), .inl (xs (i + 1).toNat), .inr 0], σ1)) rfl ?_
          refine wp_sc hM rfl (by omega) (by omega) (by omega) ?_
          refine wp_call (v := 0) (idx := 96) (j := 83) (N := mtX5_blend) (as := [.inr 0, .inl (xs (i + 1).toNat), .inl (xs (i + 2).toNat), .inl (xs (i + 3).toNat)]) (rest := []) hM rfl (Or.inl ⟨rfl, rfl⟩) rfl (Cl_A (sp_X5_blend v l σ1 (xs (i + 1).toNat) (xs (i + 2).toNat) (xs (i + 3).toNat) (by first | assumption | exact hxs _ | decide | exact GD_GO (GD_wea hGD) | exact GD_EU hGD | exact law_i6 hGD | exact law_t4 hGD) (by first | assumption | exact hxs _ | decide | exact GD_GO (GD_wea hGD) | exact GD_EU hGD | exact law_i6 hGD | exact law_t4 hGD) (by first | assumption | exact hxs _ | decide | exact GD_GO (GD_wea hGD) | exact GD_EU hGD | exact law_i6 hGD | exact law_t4 hGD) (by first | assumption | exact hxs _ | decide | exact GD_GO (GD_wea hGD) | exact GD_EU hGD | exact law_i6 hGD | exact law_t4 hGD) (by first | assumption | exact hxs _ | decide | exact GD_GO (GD_wea hGD) | exact GD_EU hGD | exact law_i6 hGD | exact law_t4 hGD))) ?_
          rintro r0 σ_865 ⟨rfl, hS_865, hk_865⟩
          show mz_Wp shF (some (L, xs)) 183 (868, [some (.inr 1000), some (.inr 0), some (.inr 30), some (.inl i)], [.inl (aBlend v l (xs (i + 1).toNat) (xs (i + 2).toNat) (xs (i + 3).toNat))], σ_865) _
          first | (have hA_865 : MA σ_865 v l := MA_fk hA hk_865) | skip
          refine wp_go 5 hM (fr' := (873, [some (.inr 1000), some (.inr 0), some (.inr 30), some (.inl i)], [.inl (i + 1), .inr 1000, .inr 30, .inl (aBlend v l (xs (i + 1).toNat) (xs (i + 2).toNat) (xs (i + 3).toNat))], σ_865)) rfl ?_
          refine wp_sc hM rfl (by omega) (by omega) (by omega) ?_
          refine wp_go 4 hM (fr' := (878, [some (.inr 1000), some (.inr 0), some (.inr 30), some (.inl i)], [.inl (i + 2), .inr 1000, .inl (xs (i + 1).toNat), .inr 30, .inl (aBlend v l (xs (i + 1).toNat) (xs (i + 2).toNat) (xs (i + 3).toNat))], σ_865)) rfl ?_
          refine wp_sc hM rfl (by omega) (by omega) (by omega) ?_
          refine wp_go 4 hM (fr' := (883, [some (.inr 1000), some (.inr 0), some (.inr 30), some (.inl i)], [.inl (i + 3), .inr 1000, .inl (xs (i + 2).toNat), .inl (xs (i + 1).toNat), .inr 30, .inl (aBlend v l (xs (i + 1).toNat) (xs (i + 2).toNat) (xs (i + 3).toNat))], σ_865)) rfl ?_
          refine wp_sc hM rfl (by omega) (by omega) (by omega) ?_
          refine wp_call (v := 0) (idx := 99) (j := 167) (N := mtX6_blend) (as := [.inr 30, .inl (xs (i + 1).toNat), .inl (xs (i + 2).toNat), .inl (xs (i + 3).toNat)]) (rest := [.inl (aBlend v l (xs (i + 1).toNat) (xs (i + 2).toNat) (xs (i + 3).toNat))]) hM rfl (Or.inl ⟨rfl, rfl⟩) rfl (Cl_M (sp_X6_blend v l σ_865 (xs (i + 1).toNat) (xs (i + 2).toNat) (xs (i + 3).toNat) (by first | assumption | exact hxs _ | decide | exact GD_GO (GD_wea hGD) | exact GD_EU hGD | exact law_i6 hGD | exact law_t4 hGD) (by first | assumption | exact hxs _ | decide | exact GD_GO (GD_wea hGD) | exact GD_EU hGD | exact law_i6 hGD | exact law_t4 hGD) (by first | assumption | exact hxs _ | decide | exact GD_GO (GD_wea hGD) | exact GD_EU hGD | exact law_i6 hGD | exact law_t4 hGD) (by first | assumption | exact hxs _ | decide | exact GD_GO (GD_wea hGD) | exact GD_EU hGD | exact law_i6 hGD | exact law_t4 hGD) (by first | assumption | exact hxs _ | decide | exact GD_GO (GD_wea hGD) | exact GD_EU hGD | exact law_i6 hGD | exact law_t4 hGD))) ?_
          rintro r0 σ_884 ⟨rfl, hA_884, hf_884⟩
          show mz_Wp shF (some (L, xs)) 183 (887, [some (.inr 1000), some (.inr 0), some (.inr 30), some (.inl i)], [.inl (aBlend v l (xs (i + 1).toNat) (xs (i + 2).toNat) (xs (i + 3).toNat)), .inl (aBlend v l (xs (i + 1).toNat) (xs (i + 2).toNat) (xs (i + 3).toNat))], σ_884) _
          first | (have hLS : LSw σ_884 := ⟨_, _, CS_fm hS_865 hf_884, hA_884, hGD⟩) | skip
          refine wp_ice (tgt := 1116) hM rfl (by decide) (by first | rfl | exact absurd c275 c302 | exact absurd c302 c275 | exact absurd c644 c671 | exact absurd c671 c644) ?_
          refine wp_go 2 hM (fr' := (18, [some (.inr 1000), some (.inr 0), some (.inr 30), some (.inl (i + 5))], [], σ_884)) rfl ?_
          exact ih18 (i + 5) σ_884 (by omega) (by omega) (by first | (first | exact hLS | exact ⟨v, l, hS, hA, hGD⟩) | fail) (by omega)
        · refine wp_tsi (tgt := 892) (off := 860) hM rfl hR32 (by omega) (by rw [c32]; rfl) (by decide) ?_
          refine wp_go 5 hM (fr' := (897, [some (.inr 1000), some (.inr 0), some (.inr 30), some (.inl i)], [.inl (i + 1), .inr 1000, .inr 0], σ1)) rfl ?_
          refine wp_sc hM rfl (by omega) (by omega) (by omega) ?_
          refine wp_go 4 hM (fr' := (902, [some (.inr 1000), some (.inr 0), some (.inr 30), some (.inl i)], [.inl (i + 2), .inr 1000, .inl (xs (i + 1).toNat), .inr 0], σ1)) rfl ?_
          refine wp_sc hM rfl (by omega) (by omega) (by omega) ?_
          refine wp_call (v := 0) (idx := 100) (j := 84) (N := mtX5_uses) (as := [.inr 0, .inl (xs (i + 1).toNat), .inl (xs (i + 2).toNat)]) (rest := []) hM rfl (Or.inl ⟨rfl, rfl⟩) rfl (Cl_A (sp_X5_uses v l σ1 (xs (i + 1).toNat) (xs (i + 2).toNat) (by first | assumption | exact hxs _ | decide | exact GD_GO (GD_wea hGD) | exact GD_EU hGD | exact law_i6 hGD | exact law_t4 hGD) (by first | assumption | exact hxs _ | decide | exact GD_GO (GD_wea hGD) | exact GD_EU hGD | exact law_i6 hGD | exact law_t4 hGD) (by first | assumption | exact hxs _ | decide | exact GD_GO (GD_wea hGD) | exact GD_EU hGD | exact law_i6 hGD | exact law_t4 hGD) (by first | assumption | exact hxs _ | decide | exact GD_GO (GD_wea hGD) | exact GD_EU hGD | exact law_i6 hGD | exact law_t4 hGD))) ?_
          rintro r0 σ_903 ⟨rfl, hS_903, hk_903⟩
          show mz_Wp shF (some (L, xs)) 183 (906, [some (.inr 1000), some (.inr 0), some (.inr 30), some (.inl i)], [.inl (aUses v l (xs (i + 1).toNat) (xs (i + 2).toNat))], σ_903) _
          first | (have hA_903 : MA σ_903 v l := MA_fk hA hk_903) | skip
          refine wp_go 5 hM (fr' := (911, [some (.inr 1000), some (.inr 0), some (.inr 30), some (.inl i)], [.inl (i + 1), .inr 1000, .inr 30, .inl (aUses v l (xs (i + 1).toNat) (xs (i + 2).toNat))], σ_903)) rfl ?_
          refine wp_sc hM rfl (by omega) (by omega) (by omega) ?_
          refine wp_go 4 hM (fr' := (916, [some (.inr 1000), some (.inr 0), some (.inr 30), some (.inl i)], [.inl (i + 2), .inr 1000, .inl (xs (i + 1).toNat), .inr 30, .inl (aUses v l (xs (i + 1).toNat) (xs (i + 2).toNat))], σ_903)) rfl ?_
          refine wp_sc hM rfl (by omega) (by omega) (by omega) ?_
          refine wp_call (v := 0) (idx := 103) (j := 168) (N := mtX6_uses) (as := [.inr 30, .inl (xs (i + 1).toNat), .inl (xs (i + 2).toNat)]) (rest := [.inl (aUses v l (xs (i + 1).toNat) (xs (i + 2).toNat))]) hM rfl (Or.inl ⟨rfl, rfl⟩) rfl (Cl_M (sp_X6_uses v l σ_903 (xs (i + 1).toNat) (xs (i + 2).toNat) (by first | assumption | exact hxs _ | decide | exact GD_GO (GD_wea hGD) | exact GD_EU hGD | exact law_i6 hGD | exact law_t4 hGD) (by first | assumption | exact hxs _ | decide | exact GD_GO (GD_wea hGD) | exact GD_EU hGD | exact law_i6 hGD | exact law_t4 hGD) (by first | assumption | exact hxs _ | decide | exact GD_GO (GD_wea hGD) | exact GD_EU hGD | exact law_i6 hGD | exact law_t4 hGD) (by first | assumption | exact hxs _ | decide | exact GD_GO (GD_wea hGD) | exact GD_EU hGD | exact law_i6 hGD | exact law_t4 hGD))) ?_
          rintro r0 σ_917 ⟨rfl, hA_917, hf_917⟩
          show mz_Wp shF (some (L, xs)) 183 (920, [some (.inr 1000), some (.inr 0), some (.inr 30), some (.inl i)], [.inl (aUses v l (xs (i + 1).toNat) (xs (i + 2).toNat)), .inl (aUses v l (xs (i + 1).toNat) (xs (i + 2).toNat))], σ_917) _
          first | (have hLS : LSw σ_917 := ⟨_, _, CS_fm hS_903 hf_917, hA_917, hGD⟩) | skip
          refine wp_ice (tgt := 1116) hM rfl (by decide) (by first | rfl | exact absurd c275 c302 | exact absurd c302 c275 | exact absurd c644 c671 | exact absurd c671 c644) ?_
          refine wp_go 2 hM (fr' := (18, [some (.inr 1000), some (.inr 0), some (.inr 30), some (.inl (i + 5))], [], σ_917)) rfl ?_
          exact ih18 (i + 5) σ_917 (by omega) (by omega) (by first | (first | exact hLS | exact ⟨v, l, hS, hA, hGD⟩) | fail) (by omega)
        · refine wp_tsi (tgt := 925) (off := 893) hM rfl hR32 (by omega) (by rw [c32]; rfl) (by decide) ?_
          refine wp_go 1 hM (fr' := (926, [some (.inr 1000), some (.inr 0), some (.inr 30), some (.inl i)], [.inr 0], σ1)) rfl ?_
          refine wp_call (v := 0) (idx := 104) (j := 85) (N := mtX5_lost) (as := [.inr 0]) (rest := []) hM rfl (Or.inl ⟨rfl, rfl⟩) rfl (Cl_A (sp_X5_lost v l σ1  (by first | assumption | exact hxs _ | decide | exact GD_GO (GD_wea hGD) | exact GD_EU hGD | exact law_i6 hGD | exact law_t4 hGD) (by first | assumption | exact hxs _ | decide | exact GD_GO (GD_wea hGD) | exact GD_EU hGD | exact law_i6 hGD | exact law_t4 hGD))) ?_
          rintro r0 σ_926 ⟨rfl, hS_926, hk_926⟩
          show mz_Wp shF (some (L, xs)) 183 (929, [some (.inr 1000), some (.inr 0), some (.inr 30), some (.inl i)], [.inl (aLost v l)], σ_926) _
          first | (have hA_926 : MA σ_926 v l := MA_fk hA hk_926) | skip
          refine wp_go 1 hM (fr' := (930, [some (.inr 1000), some (.inr 0), some (.inr 30), some (.inl i)], [.inr 30, .inl (aLost v l)], σ_926)) rfl ?_
          refine wp_call (v := 0) (idx := 107) (j := 170) (N := mtX6_lost) (as := [.inr 30]) (rest := [.inl (aLost v l)]) hM rfl (Or.inl ⟨rfl, rfl⟩) rfl (Cl_M (sp_X6_lost v l σ_926  (by first | assumption | exact hxs _ | decide | exact GD_GO (GD_wea hGD) | exact GD_EU hGD | exact law_i6 hGD | exact law_t4 hGD) (by first | assumption | exact hxs _ | decide | exact GD_GO (GD_wea hGD) | exact GD_EU hGD | exact law_i6 hGD | exact law_t4 hGD))) ?_
          rintro r0 σ_930 ⟨rfl, hA_930, hf_930⟩
          show mz_Wp shF (some (L, xs)) 183 (933, [some (.inr 1000), some (.inr 0), some (.inr 30), some (.inl i)], [.inl (aLost v l), .inl (aLost v l)], σ_930) _
          first | (have hLS : LSw σ_930 := ⟨_, _, CS_fm hS_926 hf_930, hA_930, hGD⟩) | skip
          refine wp_ice (tgt := 1116) hM rfl (by decide) (by first | rfl | exact absurd c275 c302 | exact absurd c302 c275 | exact absurd c644 c671 | exact absurd c671 c644) ?_
          refine wp_go 2 hM (fr' := (18, [some (.inr 1000), some (.inr 0), some (.inr 30), some (.inl (i + 5))], [], σ_930)) rfl ?_
          exact ih18 (i + 5) σ_930 (by omega) (by omega) (by first | (first | exact hLS | exact ⟨v, l, hS, hA, hGD⟩) | fail) (by omega)
        · refine wp_tsi (tgt := 938) (off := 906) hM rfl hR32 (by omega) (by rw [c32]; rfl) (by decide) ?_
          refine wp_go 5 hM (fr' := (943, [some (.inr 1000), some (.inr 0), some (.inr 30), some (.inl i)], [.inl (i + 1), .inr 1000, .inr 0], σ1)) rfl ?_
          refine wp_sc hM rfl (by omega) (by omega) (by omega) ?_
          refine wp_go 4 hM (fr' := (948, [some (.inr 1000), some (.inr 0), some (.inr 30), some (.inl i)], [.inl (i + 2), .inr 1000, .inl (xs (i + 1).toNat), .inr 0], σ1)) rfl ?_
          refine wp_sc hM rfl (by omega) (by omega) (by omega) ?_
          refine wp_go 4 hM (fr' := (953, [some (.inr 1000), some (.inr 0), some (.inr 30), some (.inl i)], [.inl (i + 3), .inr 1000, .inl (xs (i + 2).toNat), .inl (xs (i + 1).toNat), .inr 0], σ1)) rfl ?_
          refine wp_sc hM rfl (by omega) (by omega) (by omega) ?_
          refine wp_call (v := 0) (idx := 108) (j := 86) (N := mtX5_trace) (as := [.inr 0, .inl (xs (i + 1).toNat), .inl (xs (i + 2).toNat), .inl (xs (i + 3).toNat)]) (rest := []) hM rfl (Or.inl ⟨rfl, rfl⟩) rfl (Cl_A (sp_X5_trace v l σ1 (xs (i + 1).toNat) (xs (i + 2).toNat) (xs (i + 3).toNat) (by first | assumption | exact hxs _ | decide | exact GD_GO (GD_wea hGD) | exact GD_EU hGD | exact law_i6 hGD | exact law_t4 hGD) (by first | assumption | exact hxs _ | decide | exact GD_GO (GD_wea hGD) | exact GD_EU hGD | exact law_i6 hGD | exact law_t4 hGD) (by first | assumption | exact hxs _ | decide | exact GD_GO (GD_wea hGD) | exact GD_EU hGD | exact law_i6 hGD | exact law_t4 hGD) (by first | assumption | exact hxs _ | decide | exact GD_GO (GD_wea hGD) | exact GD_EU hGD | exact law_i6 hGD | exact law_t4 hGD) (by first | assumption | exact hxs _ | decide | exact GD_GO (GD_wea hGD) | exact GD_EU hGD | exact law_i6 hGD | exact law_t4 hGD))) ?_
          rintro r0 σ_954 ⟨rfl, hS_954, hk_954⟩
          show mz_Wp shF (some (L, xs)) 183 (957, [some (.inr 1000), some (.inr 0), some (.inr 30), some (.inl i)], [.inl (aTrace v l (xs (i + 1).toNat) (xs (i + 2).toNat) (xs (i + 3).toNat))], σ_954) _
          first | (have hA_954 : MA σ_954 v l := MA_fk hA hk_954) | skip
          refine wp_go 5 hM (fr' := (962, [some (.inr 1000), some (.inr 0), some (.inr 30), some (.inl i)], [.inl (i + 1), .inr 1000, .inr 30, .inl (aTrace v l (xs (i + 1).toNat) (xs (i + 2).toNat) (xs (i + 3).toNat))], σ_954)) rfl ?_
          refine wp_sc hM rfl (by omega) (by omega) (by omega) ?_
          refine wp_go 4 hM (fr' := (967, [some (.inr 1000), some (.inr 0), some (.inr 30), some (.inl i)], [.inl (i + 2), .inr 1000, .inl (xs (i + 1).toNat), .inr 30, .inl (aTrace v l (xs (i + 1).toNat) (xs (i + 2).toNat) (xs (i + 3).toNat))], σ_954)) rfl ?_
          refine wp_sc hM rfl (by omega) (by omega) (by omega) ?_
          refine wp_go 4 hM (fr' := (972, [some (.inr 1000), some (.inr 0), some (.inr 30), some (.inl i)], [.inl (i + 3), .inr 1000, .inl (xs (i + 2).toNat), .inl (xs (i + 1).toNat), .inr 30, .inl (aTrace v l (xs (i + 1).toNat) (xs (i + 2).toNat) (xs (i + 3).toNat))], σ_954)) rfl ?_
          refine wp_sc hM rfl (by omega) (by omega) (by omega) ?_
          refine wp_call (v := 0) (idx := 111) (j := 171) (N := mtX6_trace) (as := [.inr 30, .inl (xs (i + 1).toNat), .inl (xs (i + 2).toNat), .inl (xs (i + 3).toNat)]) (rest := [.inl (aTrace v l (xs (i + 1).toNat) (xs (i + 2).toNat) (xs (i + 3).toNat))]) hM rfl (Or.inl ⟨rfl, rfl⟩) rfl (Cl_M (sp_X6_trace v l σ_954 (xs (i + 1).toNat) (xs (i + 2).toNat) (xs (i + 3).toNat) (by first | assumption | exact hxs _ | decide | exact GD_GO (GD_wea hGD) | exact GD_EU hGD | exact law_i6 hGD | exact law_t4 hGD) (by first | assumption | exact hxs _ | decide | exact GD_GO (GD_wea hGD) | exact GD_EU hGD | exact law_i6 hGD | exact law_t4 hGD) (by first | assumption | exact hxs _ | decide | exact GD_GO (GD_wea hGD) | exact GD_EU hGD | exact law_i6 hGD | exact law_t4 hGD) (by first | assumption | exact hxs _ | decide | exact GD_GO (GD_wea hGD) | exact GD_EU hGD | exact law_i6 hGD | exact law_t4 hGD) (by first | assumption | exact hxs _ | decide | exact GD_GO (GD_wea hGD) | exact GD_EU hGD | exact law_i6 hGD | exact law_t4 hGD))) ?_
          rintro r0 σ_973 ⟨rfl, hA_973, hf_973⟩
          show mz_Wp shF (some (L, xs)) 183 (976, [some (.inr 1000), some (.inr 0), some (.inr 30), some (.inl i)], [.inl (aTrace v l (xs (i + 1).toNat) (xs (i + 2).toNat) (xs (i + 3).toNat)), .inl (aTrace v l (xs (i + 1).toNat) (xs (i + 2).toNat) (xs (i + 3).toNat))], σ_973) _
          first | (have hLS : LSw σ_973 := ⟨_, _, CS_fm hS_954 hf_973, hA_973, hGD⟩) | skip
          refine wp_ice (tgt := 1116) hM rfl (by decide) (by first | rfl | exact absurd c275 c302 | exact absurd c302 c275 | exact absurd c644 c671 | exact absurd c671 c644) ?_
          refine wp_go 2 hM (fr' := (18, [some (.inr 1000), some (.inr 0), some (.inr 30), some (.inl (i + 5))], [], σ_973)) rfl ?_
          exact ih18 (i + 5) σ_973 (by omega) (by omega) (by first | (first | exact hLS | exact ⟨v, l, hS, hA, hGD⟩) | fail) (by omega)
        · refine wp_tsi (tgt := 981) (off := 949) hM rfl hR32 (by omega) (by rw [c32]; rfl) (by decide) ?_
          refine wp_go 1 hM (fr' := (982, [some (.inr 1000), some (.inr 0), some (.inr 30), some (.inl i)], [.inr 0], σ1)) rfl ?_
          refine wp_call (v := 0) (idx := 112) (j := 87) (N := mtX5_loops) (as := [.inr 0]) (rest := []) hM rfl (Or.inl ⟨rfl, rfl⟩) rfl (Cl_A (sp_X5_loops v l σ1  (by first | assumption | exact hxs _ | decide | exact GD_GO (GD_wea hGD) | exact GD_EU hGD | exact law_i6 hGD | exact law_t4 hGD) (by first | assumption | exact hxs _ | decide | exact GD_GO (GD_wea hGD) | exact GD_EU hGD | exact law_i6 hGD | exact law_t4 hGD))) ?_
          rintro r0 σ_982 ⟨rfl, hS_982, hk_982⟩
          show mz_Wp shF (some (L, xs)) 183 (985, [some (.inr 1000), some (.inr 0), some (.inr 30), some (.inl i)], [.inl (aLoops v l)], σ_982) _
          first | (have hA_982 : MA σ_982 v l := MA_fk hA hk_982) | skip
          refine wp_go 1 hM (fr' := (986, [some (.inr 1000), some (.inr 0), some (.inr 30), some (.inl i)], [.inr 30, .inl (aLoops v l)], σ_982)) rfl ?_
          refine wp_call (v := 0) (idx := 115) (j := 172) (N := mtX6_loops) (as := [.inr 30]) (rest := [.inl (aLoops v l)]) hM rfl (Or.inl ⟨rfl, rfl⟩) rfl (Cl_M (sp_X6_loops v l σ_982  (by first | assumption | exact hxs _ | decide | exact GD_GO (GD_wea hGD) | exact GD_EU hGD | exact law_i6 hGD | exact law_t4 hGD) (by first | assumption | exact hxs _ | decide | exact GD_GO (GD_wea hGD) | exact GD_EU hGD | exact law_i6 hGD | exact law_t4 hGD))) ?_
          rintro r0 σ_986 ⟨rfl, hA_986, hf_986⟩
          show mz_Wp shF (some (L, xs)) 183 (989, [some (.inr 1000), some (.inr 0), some (.inr 30), some (.inl i)], [.inl (aLoops v l), .inl (aLoops v l)], σ_986) _
          first | (have hLS : LSw σ_986 := ⟨_, _, CS_fm hS_982 hf_986, hA_986, hGD⟩) | skip
          refine wp_ice (tgt := 1116) hM rfl (by decide) (by first | rfl | exact absurd c275 c302 | exact absurd c302 c275 | exact absurd c644 c671 | exact absurd c671 c644) ?_
          refine wp_go 2 hM (fr' := (18, [some (.inr 1000), some (.inr 0), some (.inr 30), some (.inl (i + 5))], [], σ_986)) rfl ?_
          exact ih18 (i + 5) σ_986 (by omega) (by omega) (by first | (first | exact hLS | exact ⟨v, l, hS, hA, hGD⟩) | fail) (by omega)
        · refine wp_tsi (tgt := 994) (off := 962) hM rfl hR32 (by omega) (by rw [c32]; rfl) (by decide) ?_
          refine wp_go 5 hM (fr' := (999, [some (.inr 1000), some (.inr 0), some (.inr 30), some (.inl i)], [.inl (i + 1), .inr 1000, .inr 0], σ1)) rfl ?_
          refine wp_sc hM rfl (by omega) (by omega) (by omega) ?_
          refine wp_go 4 hM (fr' := (1004, [some (.inr 1000), some (.inr 0), some (.inr 30), some (.inl i)], [.inl (i + 2), .inr 1000, .inl (xs (i + 1).toNat), .inr 0], σ1)) rfl ?_
          refine wp_sc hM rfl (by omega) (by omega) (by omega) ?_
          refine wp_call (v := 0) (idx := 116) (j := 88) (N := mtX5_room) (as := [.inr 0, .inl (xs (i + 1).toNat), .inl (xs (i + 2).toNat)]) (rest := []) hM rfl (Or.inl ⟨rfl, rfl⟩) rfl (Cl_A (sp_X5_room v l σ1 (xs (i + 1).toNat) (xs (i + 2).toNat) (by first | assumption | exact hxs _ | decide | exact GD_GO (GD_wea hGD) | exact GD_EU hGD | exact law_i6 hGD | exact law_t4 hGD) (by first | assumption | exact hxs _ | decide | exact GD_GO (GD_wea hGD) | exact GD_EU hGD | exact law_i6 hGD | exact law_t4 hGD) (by first | assumption | exact hxs _ | decide | exact GD_GO (GD_wea hGD) | exact GD_EU hGD | exact law_i6 hGD | exact law_t4 hGD) (by first | assumption | exact hxs _ | decide | exact GD_GO (GD_wea hGD) | exact GD_EU hGD | exact law_i6 hGD | exact law_t4 hGD))) ?_
          rintro r0 σ_1005 ⟨rfl, hS_1005, hk_1005⟩
          show mz_Wp shF (some (L, xs)) 183 (1008, [some (.inr 1000), some (.inr 0), some (.inr 30), some (.inl i)], [.inl (aRoom v l (xs (i + 1).toNat) (xs (i + 2).toNat))], σ_1005) _
          first | (have hA_1005 : MA σ_1005 v l := MA_fk hA hk_1005) | skip
          refine wp_go 5 hM (fr' := (1013, [some (.inr 1000), some (.inr 0), some (.inr 30), some (.inl i)], [.inl (i + 1), .inr 1000, .inr 30, .inl (aRoom v l (xs (i + 1).toNat) (xs (i + 2).toNat))], σ_1005)) rfl ?_
          refine wp_sc hM rfl (by omega) (by omega) (by omega) ?_
          refine wp_go 4 hM (fr' := (1018, [some (.inr 1000), some (.inr 0), some (.inr 30), some (.inl i)], [.inl (i + 2), .inr 1000, .inl (xs (i + 1).toNat), .inr 30, .inl (aRoom v l (xs (i + 1).toNat) (xs (i + 2).toNat))], σ_1005)) rfl ?_
          refine wp_sc hM rfl (by omega) (by omega) (by omega) ?_
          refine wp_call (v := 0) (idx := 119) (j := 173) (N := mtX6_room) (as := [.inr 30, .inl (xs (i + 1).toNat), .inl (xs (i + 2).toNat)]) (rest := [.inl (aRoom v l (xs (i + 1).toNat) (xs (i + 2).toNat))]) hM rfl (Or.inl ⟨rfl, rfl⟩) rfl (Cl_M (sp_X6_room v l σ_1005 (xs (i + 1).toNat) (xs (i + 2).toNat) (by first | assumption | exact hxs _ | decide | exact GD_GO (GD_wea hGD) | exact GD_EU hGD | exact law_i6 hGD | exact law_t4 hGD) (by first | assumption | exact hxs _ | decide | exact GD_GO (GD_wea hGD) | exact GD_EU hGD | exact law_i6 hGD | exact law_t4 hGD) (by first | assumption | exact hxs _ | decide | exact GD_GO (GD_wea hGD) | exact GD_EU hGD | exact law_i6 hGD | exact law_t4 hGD) (by first | assumption | exact hxs _ | decide | exact GD_GO (GD_wea hGD) | exact GD_EU hGD | exact law_i6 hGD | exact law_t4 hGD))) ?_
          rintro r0 σ_1019 ⟨rfl, hA_1019, hf_1019⟩
          show mz_Wp shF (some (L, xs)) 183 (1022, [some (.inr 1000), some (.inr 0), some (.inr 30), some (.inl i)], [.inl (aRoom v l (xs (i + 1).toNat) (xs (i + 2).toNat)), .inl (aRoom v l (xs (i + 1).toNat) (xs (i + 2).toNat))], σ_1019) _
          first | (have hLS : LSw σ_1019 := ⟨_, _, CS_fm hS_1005 hf_1019, hA_1019, hGD⟩) | skip
          refine wp_ice (tgt := 1116) hM rfl (by decide) (by first | rfl | exact absurd c275 c302 | exact absurd c302 c275 | exact absurd c644 c671 | exact absurd c671 c644) ?_
          refine wp_go 2 hM (fr' := (18, [some (.inr 1000), some (.inr 0), some (.inr 30), some (.inl (i + 5))], [], σ_1019)) rfl ?_
          exact ih18 (i + 5) σ_1019 (by omega) (by omega) (by first | (first | exact hLS | exact ⟨v, l, hS, hA, hGD⟩) | fail) (by omega)
        · refine wp_tsi (tgt := 1027) (off := 995) hM rfl hR32 (by omega) (by rw [c32]; rfl) (by decide) ?_
          refine wp_go 5 hM (fr' := (1032, [some (.inr 1000), some (.inr 0), some (.inr 30), some (.inl i)], [.inl (i + 1), .inr 1000, .inr 0], σ1)) rfl ?_
          refine wp_sc hM rfl (by omega) (by omega) (by omega) ?_
          refine wp_go 4 hM (fr' := (1037, [some (.inr 1000), some (.inr 0), some (.inr 30), some (.inl i)], [.inl (i + 2), .inr 1000, .inl (xs (i + 1).toNat), .inr 0], σ1)) rfl ?_
          refine wp_sc hM rfl (by omega) (by omega) (by omega) ?_
          refine wp_go 4 hM (fr' := (1042, [some (.inr 1000), some (.inr 0), some (.inr 30), some (.inl i)], [.inl (i + 3), .inr 1000, .inl (xs (i + 2).toNat), .inl (xs (i + 1).toNat), .inr 0], σ1)) rfl ?_
          refine wp_sc hM rfl (by omega) (by omega) (by omega) ?_
          refine wp_call (v := 0) (idx := 120) (j := 89) (N := mtX5_reach) (as := [.inr 0, .inl (xs (i + 1).toNat), .inl (xs (i + 2).toNat), .inl (xs (i + 3).toNat)]) (rest := []) hM rfl (Or.inl ⟨rfl, rfl⟩) rfl (Cl_A (sp_X5_reach v l σ1 (xs (i + 1).toNat) (xs (i + 2).toNat) (xs (i + 3).toNat) (by first | assumption | exact hxs _ | decide | exact GD_GO (GD_wea hGD) | exact GD_EU hGD | exact law_i6 hGD | exact law_t4 hGD) (by first | assumption | exact hxs _ | decide | exact GD_GO (GD_wea hGD) | exact GD_EU hGD | exact law_i6 hGD | exact law_t4 hGD) (by first | assumption | exact hxs _ | decide | exact GD_GO (GD_wea hGD) | exact GD_EU hGD | exact law_i6 hGD | exact law_t4 hGD) (by first | assumption | exact hxs _ | decide | exact GD_GO (GD_wea hGD) | exact GD_EU hGD | exact law_i6 hGD | exact law_t4 hGD) (by first | assumption | exact hxs _ | decide | exact GD_GO (GD_wea hGD) | exact GD_EU hGD | exact law_i6 hGD | exact law_t4 hGD))) ?_
          rintro r0 σ_1043 ⟨rfl, hS_1043, hk_1043⟩
          show mz_Wp shF (some (L, xs)) 183 (1046, [some (.inr 1000), some (.inr 0), some (.inr 30), some (.inl i)], [.inl (aReach v l (xs (i + 1).toNat) (xs (i + 2).toNat) (xs (i + 3).toNat))], σ_1043) _
          first | (have hA_1043 : MA σ_1043 v l := MA_fk hA hk_1043) | skip
          refine wp_go 5 hM (fr' := (1051, [some (.inr 1000), some (.inr 0), some (.inr 30), some (.inl i)], [.inl (i + 1), .inr 1000, .inr 30, .inl (aReach v l (xs (i + 1).toNat) (xs (i + 2).toNat) (xs (i + 3).toNat))], σ_1043)) rfl ?_
          refine wp_sc hM rfl (by omega) (by omega) (by omega) ?_
          refine wp_go 4 hM (fr' := (1056, [some (.inr 1000), some (.inr 0), some (.inr 30), some (.inl i)], [.inl (i + 2), .inr 1000, .inl (xs (i + 1).toNat), .inr 30, .inl (aReach v l (xs (i + 1).toNat) (xs (i + 2).toNat) (xs (i + 3).toNat))], σ_1043)) rfl ?_
          refine wp_sc hM rfl (by omega) (by omega) (by omega) ?_
          refine wp_go 4 hM (fr' := (1061, [some (.inr 1000), some (.inr 0), some (.inr 30), some (.inl i)], [.inl (i + 3), .inr 1000, .inl (xs (i + 2).toNat), .inl (xs (i + 1).toNat), .inr 30, .inl (aReach v l (xs (i + 1).toNat) (xs (i + 2).toNat) (xs (i + 3).toNat))], σ_1043)) rfl ?_
          refine wp_sc hM rfl (by omega) (by omega) (by omega) ?_
          refine wp_call (v := 0) (idx := 123) (j := 174) (N := mtX6_reach) (as := [.inr 30, .inl (xs (i + 1).toNat), .inl (xs (i + 2).toNat), .inl (xs (i + 3).toNat)]) (rest := [.inl (aReach v l (xs (i + 1).toNat) (xs (i + 2).toNat) (xs (i + 3).toNat))]) hM rfl (Or.inl ⟨rfl, rfl⟩) rfl (Cl_M (sp_X6_reach v l σ_1043 (xs (i + 1).toNat) (xs (i + 2).toNat) (xs (i + 3).toNat) (by first | assumption | exact hxs _ | decide | exact GD_GO (GD_wea hGD) | exact GD_EU hGD | exact law_i6 hGD | exact law_t4 hGD) (by first | assumption | exact hxs _ | decide | exact GD_GO (GD_wea hGD) | exact GD_EU hGD | exact law_i6 hGD | exact law_t4 hGD) (by first | assumption | exact hxs _ | decide | exact GD_GO (GD_wea hGD) | exact GD_EU hGD | exact law_i6 hGD | exact law_t4 hGD) (by first | assumption | exact hxs _ | decide | exact GD_GO (GD_wea hGD) | exact GD_EU hGD | exact law_i6 hGD | exact law_t4 hGD) (by first | assumption | exact hxs _ | decide | exact GD_GO (GD_wea hGD) | exact GD_EU hGD | exact law_i6 hGD | exact law_t4 hGD))) ?_
          rintro r0 σ_1062 ⟨rfl, hA_1062, hf_1062⟩
          show mz_Wp shF (some (L, xs)) 183 (1065, [some (.inr 1000), some (.inr 0), some (.inr 30), some (.inl i)], [.inl (aReach v l (xs (i + 1).toNat) (xs (i + 2).toNat) (xs (i + 3).toNat)), .inl (aReach v l (xs (i + 1).toNat) (xs (i + 2).toNat) (xs (i + 3).toNat))], σ_1062) _
          first | (have hLS : LSw σ_1062 := ⟨_, _, CS_fm hS_1043 hf_1062, hA_1062, hGD⟩) | skip
          refine wp_ice (tgt := 1116) hM rfl (by decide) (by first | rfl | exact absurd c275 c302 | exact absurd c302 c275 | exact absurd c644 c671 | exact absurd c671 c644) ?_
          refine wp_go 2 hM (fr' := (18, [some (.inr 1000), some (.inr 0), some (.inr 30), some (.inl (i + 5))], [], σ_1062)) rfl ?_
          exact ih18 (i + 5) σ_1062 (by omega) (by omega) (by first | (first | exact hLS | exact ⟨v, l, hS, hA, hGD⟩) | fail) (by omega)
        · refine wp_tsi (tgt := 1070) (off := 1038) hM rfl hR32 (by omega) (by rw [c32]; rfl) (by decide) ?_
          refine wp_go 5 hM (fr' := (1075, [some (.inr 1000), some (.inr 0), some (.inr 30), some (.inl i)], [.inl (i + 1), .inr 1000, .inr 0], σ1)) rfl ?_
          refine wp_sc hM rfl (by omega) (by omega) (by omega) ?_
          refine wp_call (v := 0) (idx := 124) (j := 90) (N := mtX5_bent) (as := [.inr 0, .inl (xs (i + 1).toNat)]) (rest := []) hM rfl (Or.inl ⟨rfl, rfl⟩) rfl (Cl_A (sp_X5_bent v l σ1 (xs (i + 1).toNat) (by first | assumption | exact hxs _ | decide | exact GD_GO (GD_wea hGD) | exact GD_EU hGD | exact law_i6 hGD | exact law_t4 hGD) (by first | assumption | exact hxs _ | decide | exact GD_GO (GD_wea hGD) | exact GD_EU hGD | exact law_i6 hGD | exact law_t4 hGD) (by first | assumption | exact hxs _ | decide | exact GD_GO (GD_wea hGD) | exact GD_EU hGD | exact law_i6 hGD | exact law_t4 hGD))) ?_
          rintro r0 σ_1076 ⟨rfl, hS_1076, hk_1076⟩
          show mz_Wp shF (some (L, xs)) 183 (1079, [some (.inr 1000), some (.inr 0), some (.inr 30), some (.inl i)], [.inl (aBent v l (xs (i + 1).toNat))], σ_1076) _
          first | (have hA_1076 : MA σ_1076 v l := MA_fk hA hk_1076) | skip
          refine wp_go 5 hM (fr' := (1084, [some (.inr 1000), some (.inr 0), some (.inr 30), some (.inl i)], [.inl (i + 1), .inr 1000, .inr 30, .inl (aBent v l (xs (i + 1).toNat))], σ_1076)) rfl ?_
          refine wp_sc hM rfl (by omega) (by omega) (by omega) ?_
          refine wp_call (v := 0) (idx := 127) (j := 176) (N := mtX6_bent) (as := [.inr 30, .inl (xs (i + 1).toNat)]) (rest := [.inl (aBent v l (xs (i + 1).toNat))]) hM rfl (Or.inl ⟨rfl, rfl⟩) rfl (Cl_M (sp_X6_bent v l σ_1076 (xs (i + 1).toNat) (by first | assumption | exact hxs _ | decide | exact GD_GO (GD_wea hGD) | exact GD_EU hGD | exact law_i6 hGD | exact law_t4 hGD) (by first | assumption | exact hxs _ | decide | exact GD_GO (GD_wea hGD) | exact GD_EU hGD | exact law_i6 hGD | exact law_t4 hGD) (by first | assumption | exact hxs _ | decide | exact GD_GO (GD_wea hGD) | exact GD_EU hGD | exact law_i6 hGD | exact law_t4 hGD))) ?_
          rintro r0 σ_1085 ⟨rfl, hA_1085, hf_1085⟩
          show mz_Wp shF (some (L, xs)) 183 (1088, [some (.inr 1000), some (.inr 0), some (.inr 30), some (.inl i)], [.inl (aBent v l (xs (i + 1).toNat)), .inl (aBent v l (xs (i + 1).toNat))], σ_1085) _
          first | (have hLS : LSw σ_1085 := ⟨_, _, CS_fm hS_1076 hf_1085, hA_1085, hGD⟩) | skip
          refine wp_ice (tgt := 1116) hM rfl (by decide) (by first | rfl | exact absurd c275 c302 | exact absurd c302 c275 | exact absurd c644 c671 | exact absurd c671 c644) ?_
          refine wp_go 2 hM (fr' := (18, [some (.inr 1000), some (.inr 0), some (.inr 30), some (.inl (i + 5))], [], σ_1085)) rfl ?_
          exact ih18 (i + 5) σ_1085 (by omega) (by omega) (by first | (first | exact hLS | exact ⟨v, l, hS, hA, hGD⟩) | fail) (by omega)
        · refine wp_tsi (tgt := 1093) (off := 1061) hM rfl hR32 (by omega) (by rw [c32]; rfl) (by decide) ?_
          refine wp_go 5 hM (fr' := (1098, [some (.inr 1000), some (.inr 0), some (.inr 30), some (.inl i)], [.inl (i + 1), .inr 1000, .inr 0], σ1)) rfl ?_
          refine wp_sc hM rfl (by omega) (by omega) (by omega) ?_
          refine wp_call (v := 0) (idx := 128) (j := 91) (N := mtX5_stretch) (as := [.inr 0, .inl (xs (i + 1).toNat)]) (rest := []) hM rfl (Or.inl ⟨rfl, rfl⟩) rfl (Cl_A (sp_X5_stretch v l σ1 (xs (i + 1).toNat) (by first | assumption | exact hxs _ | decide | exact GD_GO (GD_wea hGD) | exact GD_EU hGD | exact law_i6 hGD | exact law_t4 hGD) (by first | assumption | exact hxs _ | decide | exact GD_GO (GD_wea hGD) | exact GD_EU hGD | exact law_i6 hGD | exact law_t4 hGD) (by first | assumption | exact hxs _ | decide | exact GD_GO (GD_wea hGD) | exact GD_EU hGD | exact law_i6 hGD | exact law_t4 hGD))) ?_
          rintro r0 σ_1099 ⟨rfl, hS_1099, hk_1099⟩
          show mz_Wp shF (some (L, xs)) 183 (1102, [some (.inr 1000), some (.inr 0), some (.inr 30), some (.inl i)], [.inl (aStretch v l (xs (i + 1).toNat))], σ_1099) _
          first | (have hA_1099 : MA σ_1099 v l := MA_fk hA hk_1099) | skip
          refine wp_go 5 hM (fr' := (1107, [some (.inr 1000), some (.inr 0), some (.inr 30), some (.inl i)], [.inl (i + 1), .inr 1000, .inr 30, .inl (aStretch v l (xs (i + 1).toNat))], σ_1099)) rfl ?_
          refine wp_sc hM rfl (by omega) (by omega) (by omega) ?_
          refine wp_call (v := 0) (idx := 131) (j := 178) (N := mtX6_stretch) (as := [.inr 30, .inl (xs (i + 1).toNat)]) (rest := [.inl (aStretch v l (xs (i + 1).toNat))]) hM rfl (Or.inl ⟨rfl, rfl⟩) rfl (Cl_M (sp_X6_stretch v l σ_1099 (xs (i + 1).toNat) (by first | assumption | exact hxs _ | decide | exact GD_GO (GD_wea hGD) | exact GD_EU hGD | exact law_i6 hGD | exact law_t4 hGD) (by first | assumption | exact hxs _ | decide | exact GD_GO (GD_wea hGD) | exact GD_EU hGD | exact law_i6 hGD | exact law_t4 hGD) (by first | assumption | exact hxs _ | decide | exact GD_GO (GD_wea hGD) | exact GD_EU hGD | exact law_i6 hGD | exact law_t4 hGD))) ?_
          rintro r0 σ_1108 ⟨rfl, hA_1108, hf_1108⟩
          show mz_Wp shF (some (L, xs)) 183 (1111, [some (.inr 1000), some (.inr 0), some (.inr 30), some (.inl i)], [.inl (aStretch v l (xs (i + 1).toNat)), .inl (aStretch v l (xs (i + 1).toNat))], σ_1108) _
          first | (have hLS : LSw σ_1108 := ⟨_, _, CS_fm hS_1099 hf_1108, hA_1108, hGD⟩) | skip
          refine wp_ice (tgt := 1116) hM rfl (by decide) (by first | rfl | exact absurd c275 c302 | exact absurd c302 c275 | exact absurd c644 c671 | exact absurd c671 c644) ?_
          refine wp_go 2 hM (fr' := (18, [some (.inr 1000), some (.inr 0), some (.inr 30), some (.inl (i + 5))], [], σ_1108)) rfl ?_
          exact ih18 (i + 5) σ_1108 (by omega) (by omega) (by first | (first | exact hLS | exact ⟨v, l, hS, hA, hGD⟩) | fail) (by omega)
        · refine wp_tso (tgt := 1116) hM rfl (by decide) hR32 c32 ?_
          refine wp_go 2 hM (fr' := (18, [some (.inr 1000), some (.inr 0), some (.inr 30), some (.inl (i + 5))], [], σ1)) rfl ?_
          exact ih18 (i + 5) σ1 (by omega) (by omega) (by first | (first | exact hLS | exact ⟨v, l, hS, hA, hGD⟩) | fail) (by omega)
  exact loop18 (L + 6) 0 σ (by omega) (by omega) (by first | (exact h) | fail) (by omega)
