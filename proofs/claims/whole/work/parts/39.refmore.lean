theorem sq_sym {a b : Int} : (a - b) * (a - b) = (b - a) * (b - a) := by rw [show a - b = -(b - a) by omega, Int.neg_mul_neg]
set_option maxRecDepth 100000 in
set_option maxHeartbeats 4000000 in
theorem sp_X6_value_0 (v : mz_G) (l : List tr3) (σ : mz_G) (x : Int) (y : Int) (h0 : MA σ v l) (h1 : GO v l) (h2 : mz_R x) (h3 : mz_R y) : mz_Cl shM 148 [.inr 30, .inl x, .inl y, .inl 0] σ (fun r σ' => r = some (aVal v l x y 0) ∧ MA σ' v l ∧ Fm σ σ') := by
  have hM : mz_meth[148]? = some mtX6_value := rfl
  obtain ⟨hB, hSd, ⟨hP0, hP1⟩, ⟨hC0, hC1'⟩, hVr, hn30, hl2⟩ := id h1
  obtain ⟨hR, hT, hLen⟩ := id hB
  obtain ⟨⟨hW0, hW1⟩, ⟨hH0, hH1⟩, ⟨hn0, hn1⟩, hpt⟩ := id hR
  obtain ⟨⟨⟨hc1, hc2, hc3⟩, hcp, hcv⟩, hc4, hct⟩ := id h0
  have hWH := WH_bd hR
  refine mz_Cl.of hM ?_
  show mz_Wp shM none 148 (0, [some (.inr 30), some (.inl x), some (.inl y), some (.inl 0)], [], σ) _
  refine wp_go 3 hM (fr' := (3, [some (.inr 30), some (.inl x), some (.inl y), some (.inl 0)], [.inl y, .inl x, .inr 30], σ)) rfl ?_
  refine wp_calld (v := 0) (idx := 120) (j := 122) (N := mtX6_isDot) (as := [.inr 30, .inl x, .inl y]) (rest := []) hM rfl (Or.inl ⟨rfl, rfl⟩) rfl (sp_X6_isDot v l σ x y (by first | (first | assumption | omega) | fail) (by first | (first | assumption | omega) | fail) (by first | (first | assumption | omega) | fail) (by first | (first | assumption | omega) | fail)) ?_
  show mz_Wp shM none 148 (6, [some (.inr 30), some (.inl x), some (.inl y), some (.inl 0)], [.inl (b01 (dot v x y))], σ) _
  refine wp_if (tgt := 38) hM rfl (by decide) b01_R (fun c6 => ?_) (fun c6 => ?_)
  · replace c6 := b01_eq0 (cmp_eq_t c6)
    refine wp_go 1 hM (fr' := (39, [some (.inr 30), some (.inl x), some (.inl y), some (.inl 0)], [.inl (-1)], σ)) rfl ?_
    refine wp_ret hM rfl (rfl) ?_
    first | (first | exact ⟨by unfold aVal; rw [if_pos c6], h0, Fm.rf⟩ | exact ⟨by unfold aVal; rw [if_neg (show ¬ ¬ dot v x y from fun q => q c6)]; rfl, h0, Fm.rf⟩ | exact ⟨by unfold aVal; rw [if_neg (show ¬ ¬ dot v x y from fun q => q c6), if_neg (by decide), ne_dot hR c6], hA20, Fm_Fp hf_20⟩) | fail
  · replace c6 := b01_ne0 (cmp_eq_f c6)
    first | (have hdi := dn_in hR c6) | skip
    first | (have hdc : (σ 30 0) * y + x = y * v 0 0 + x := by rw [hc1, Int.mul_comm]) | skip
    refine wp_go 3 hM (fr' := (14, [some (.inr 30), some (.inl x), some (.inl y), some (.inl 0)], [.inl 0, .inr 36], σ)) rfl ?_
    refine wp_if (tgt := 26) hM rfl (by decide) (by omega) (fun c14 => ?_) (fun c14 => ?_)
    · replace c14 := cmp_eq_t c14
      refine wp_go 6 hM (fr' := (34, [some (.inr 30), some (.inl x), some (.inl y), some (.inl 0)], [.inl (((σ 30 0) * y) + x), .inr 36], σ)) rfl ?_
      refine wp_al (n := 400) hM rfl (by decide) rfl (by first | (rw [hdc]; omega) | fail) (by first | (rw [hdc]; omega) | fail) ?_
      first | (rw [hdc, MA_val h0 hdi.1 hdi.2.1]) | skip
      refine wp_go 1 hM (fr' := (39, [some (.inr 30), some (.inl x), some (.inl y), some (.inl 0)], [.inl (v 6 (y * v 0 0 + x).toNat)], σ)) rfl ?_
      refine wp_ret hM rfl (rfl) ?_
      first | (first | exact ⟨by unfold aVal; rw [if_pos c6], h0, Fm.rf⟩ | exact ⟨by unfold aVal; rw [if_neg (show ¬ ¬ dot v x y from fun q => q c6)]; rfl, h0, Fm.rf⟩ | exact ⟨by unfold aVal; rw [if_neg (show ¬ ¬ dot v x y from fun q => q c6), if_neg (by decide), ne_dot hR c6], hA20, Fm_Fp hf_20⟩) | fail
    · replace c14 := cmp_eq_f c14
      exact absurd c14 (by decide)

set_option maxRecDepth 100000 in
set_option maxHeartbeats 4000000 in
theorem sp_X6_value_1 (v : mz_G) (l : List tr3) (σ : mz_G) (x : Int) (y : Int) (h0 : MA σ v l) (h1 : GO v l) (h2 : mz_R x) (h3 : mz_R y) : mz_Cl shM 148 [.inr 30, .inl x, .inl y, .inl 1] σ (fun r σ' => r = some (aVal v l x y 1) ∧ MA σ' v l ∧ Fm σ σ') := by
  have hM : mz_meth[148]? = some mtX6_value := rfl
  obtain ⟨hB, hSd, ⟨hP0, hP1⟩, ⟨hC0, hC1'⟩, hVr, hn30, hl2⟩ := id h1
  obtain ⟨hR, hT, hLen⟩ := id hB
  obtain ⟨⟨hW0, hW1⟩, ⟨hH0, hH1⟩, ⟨hn0, hn1⟩, hpt⟩ := id hR
  obtain ⟨⟨⟨hc1, hc2, hc3⟩, hcp, hcv⟩, hc4, hct⟩ := id h0
  have hWH := WH_bd hR
  refine mz_Cl.of hM ?_
  show mz_Wp shM none 148 (0, [some (.inr 30), some (.inl x), some (.inl y), some (.inl 1)], [], σ) _
  refine wp_go 3 hM (fr' := (3, [some (.inr 30), some (.inl x), some (.inl y), some (.inl 1)], [.inl y, .inl x, .inr 30], σ)) rfl ?_
  refine wp_calld (v := 0) (idx := 120) (j := 122) (N := mtX6_isDot) (as := [.inr 30, .inl x, .inl y]) (rest := []) hM rfl (Or.inl ⟨rfl, rfl⟩) rfl (sp_X6_isDot v l σ x y (by first | (first | assumption | omega) | fail) (by first | (first | assumption | omega) | fail) (by first | (first | assumption | omega) | fail) (by first | (first | assumption | omega) | fail)) ?_
  show mz_Wp shM none 148 (6, [some (.inr 30), some (.inl x), some (.inl y), some (.inl 1)], [.inl (b01 (dot v x y))], σ) _
  refine wp_if (tgt := 38) hM rfl (by decide) b01_R (fun c6 => ?_) (fun c6 => ?_)
  · replace c6 := b01_eq0 (cmp_eq_t c6)
    refine wp_go 1 hM (fr' := (39, [some (.inr 30), some (.inl x), some (.inl y), some (.inl 1)], [.inl (-1)], σ)) rfl ?_
    refine wp_ret hM rfl (rfl) ?_
    first | (first | exact ⟨by unfold aVal; rw [if_pos c6], h0, Fm.rf⟩ | exact ⟨by unfold aVal; rw [if_neg (show ¬ ¬ dot v x y from fun q => q c6)]; rfl, h0, Fm.rf⟩ | exact ⟨by unfold aVal; rw [if_neg (show ¬ ¬ dot v x y from fun q => q c6), if_neg (by decide), ne_dot hR c6], hA20, Fm_Fp hf_20⟩) | fail
  · replace c6 := b01_ne0 (cmp_eq_f c6)
    refine wp_go 3 hM (fr' := (14, [some (.inr 30), some (.inl x), some (.inl y), some (.inl 1)], [.inl 1, .inr 36], σ)) rfl ?_
    refine wp_if (tgt := 26) hM rfl (by decide) (by omega) (fun c14 => ?_) (fun c14 => ?_)
    · replace c14 := cmp_eq_t c14
      exact absurd c14 (by decide)
    · replace c14 := cmp_eq_f c14
      refine wp_go 3 hM (fr' := (20, [some (.inr 30), some (.inl x), some (.inl y), some (.inl 1)], [.inl y, .inl x, .inr 30, .inr 36], σ)) rfl ?_
      refine wp_call (v := 0) (idx := 189) (j := 160) (N := mtX6_nearestOf) (as := [.inr 30, .inl x, .inl y]) (rest := [.inr 36]) hM rfl (Or.inl ⟨rfl, rfl⟩) rfl (sp_X6_nearestOf v l σ x y (by first | (first | assumption | omega) | fail) (by first | (first | assumption | omega) | fail) (by first | (first | assumption | omega) | fail)) ?_
      rintro r0 σ_20 ⟨rfl, hf_20⟩
      show mz_Wp shM none 148 (23, [some (.inr 30), some (.inl x), some (.inl y), some (.inl 1)], [.inl (nea v l x y), .inr 36], σ_20) _
      first | (have hA20 := MA_Fp h0 hf_20) | skip
      first | (have hni := nea_in h1 c6) | skip
      refine wp_go 1 hM (fr' := (34, [some (.inr 30), some (.inl x), some (.inl y), some (.inl 1)], [.inl (nea v l x y), .inr 36], σ_20)) rfl ?_
      refine wp_al (n := 400) hM rfl (by decide) rfl (by omega) (by omega) ?_
      first | (rw [MA_val hA20 hni.2.1 hni.2.2]) | skip
      refine wp_go 1 hM (fr' := (39, [some (.inr 30), some (.inl x), some (.inl y), some (.inl 1)], [.inl (v 6 (nea v l x y).toNat)], σ_20)) rfl ?_
      refine wp_ret hM rfl (rfl) ?_
      first | (first | exact ⟨by unfold aVal; rw [if_pos c6], h0, Fm.rf⟩ | exact ⟨by unfold aVal; rw [if_neg (show ¬ ¬ dot v x y from fun q => q c6)]; rfl, h0, Fm.rf⟩ | exact ⟨by unfold aVal; rw [if_neg (show ¬ ¬ dot v x y from fun q => q c6), if_neg (by decide), ne_dot hR c6], hA20, Fm_Fp hf_20⟩) | fail

set_option maxRecDepth 100000 in
set_option maxHeartbeats 4000000 in
theorem sp_X6_share (v : mz_G) (l : List tr3) (σ : mz_G) (x : Int) (y : Int) (w : Int) (h0 : MA σ v l) (h1 : GO v l) (h2 : mz_R x) (h3 : mz_R y) (h4 : mz_R w) : mz_Cl shM 162 [.inr 30, .inl x, .inl y, .inl w] σ (fun r σ' => r = some (aShare v l x y w) ∧ MA σ' v l ∧ Fm σ σ') := by
  have hM : mz_meth[162]? = some mtX6_share := rfl
  obtain ⟨hB, hSd, ⟨hP0, hP1⟩, ⟨hC0, hC1'⟩, hVr, hn30, hl2⟩ := id h1
  obtain ⟨hR, hT, hLen⟩ := id hB
  obtain ⟨⟨hW0, hW1⟩, ⟨hH0, hH1⟩, ⟨hn0, hn1⟩, hpt⟩ := id hR
  obtain ⟨⟨⟨hc1, hc2, hc3⟩, hcp, hcv⟩, hc4, hct⟩ := id h0
  have hWH := WH_bd hR
  refine mz_Cl.of hM ?_
  show mz_Wp shM none 162 (0, [some (.inr 30), some (.inl x), some (.inl y), some (.inl w), none, none, none, none], [], σ) _
  refine wp_go 3 hM (fr' := (3, [some (.inr 30), some (.inl x), some (.inl y), some (.inl w), none, none, none, none], [.inl y, .inl x, .inr 30], σ)) rfl ?_
  refine wp_calld (v := 0) (idx := 120) (j := 122) (N := mtX6_isDot) (as := [.inr 30, .inl x, .inl y]) (rest := []) hM rfl (Or.inl ⟨rfl, rfl⟩) rfl (sp_X6_isDot v l σ x y (by first | (first | assumption | omega) | fail) (by first | (first | assumption | omega) | fail) (by first | (first | assumption | omega) | fail) (by first | (first | assumption | omega) | fail)) ?_
  show mz_Wp shM none 162 (6, [some (.inr 30), some (.inl x), some (.inl y), some (.inl w), none, none, none, none], [.inl (b01 (dot v x y))], σ) _
  refine wp_if (tgt := 18) hM rfl (by decide) b01_R (fun c6 => ?_) (fun c6 => ?_)
  · replace c6 := b01_eq0 (cmp_eq_t c6)
    refine wp_go 1 hM (fr' := (19, [some (.inr 30), some (.inl x), some (.inl y), some (.inl w), none, none, none, none], [.inl (-1)], σ)) rfl ?_
    refine wp_ret hM rfl (rfl) ?_
    first | (exact ⟨by unfold aShare; first | rw [if_pos c6] | (rw [if_neg (show ¬ ¬ dot v x y from fun q => q c6), if_neg (show ¬ w = 0 by omega), if_neg (show ¬ w = 1 by omega), if_neg (show ¬ w = 2 by omega), if_neg (show ¬ w = 3 by omega)]), h0, Fm.rf⟩) | fail
  · replace c6 := b01_ne0 (cmp_eq_f c6)
    first | (have hL := lie_at hC1' c6) | skip
    first | (have ht := Rt_at hT hL.1 hL.2.1) | skip
    first | (have hsb := sh_bd (l := l) hR (q := 1) (by decide) ht c6) | skip
    first | (have hpp := hP1 _ (tg_mem hL.1 hL.2.1)) | skip
    first | (obtain ⟨p0, p1, p2⟩ := id hL.2.2) | skip
    first | (have hss := sh_sum (v := v) (q := 1) (t := (tg l (lie v l 1 x y))) (x := x) (y := y)) | skip
    refine wp_go 3 hM (fr' := (12, [some (.inr 30), some (.inl x), some (.inl y), some (.inl w), none, none, none, none], [.inl 3, .inl 0, .inl w], σ)) rfl ?_
    refine wp_calld (v := 1) (idx := 116) (j := 103) (N := mtX6_isIn) (as := [.inl w, .inl 0, .inl 3]) (rest := []) hM rfl (Or.inr ⟨rfl, rfl⟩) rfl (sp_X6_isIn  σ w 0 3 (by first | (first | assumption | omega) | fail) (by first | (first | assumption | omega) | fail) (by first | (first | assumption | omega) | fail)) ?_
    show mz_Wp shM none 162 (15, [some (.inr 30), some (.inl x), some (.inl y), some (.inl w), none, none, none, none], [.inl (b01 (0 ≤ w ∧ w ≤ 3))], σ) _
    refine wp_if (tgt := 20) hM rfl (by decide) b01_R (fun c15 => ?_) (fun c15 => ?_)
    · replace c15 := b01_ne0 (cmp_ne_t c15)
      refine wp_go 4 hM (fr' := (24, [some (.inr 30), some (.inl x), some (.inl y), some (.inl w), none, none, none, none], [.inl 0, .inl y, .inl x, .inr 30], σ)) rfl ?_
      refine wp_calld (v := 0) (idx := 195) (j := 121) (N := mtX6_lies) (as := [.inr 30, .inl x, .inl y, .inl 0]) (rest := []) hM rfl (Or.inl ⟨rfl, rfl⟩) rfl (sp_X6_lies_0 v l σ x y (by first | (first | assumption | exact hC1') | fail) (by first | (first | assumption | exact hC1') | fail) (by first | (first | assumption | exact hC1') | fail) (by first | (first | assumption | exact hC1') | fail)) ?_
      show mz_Wp shM none 162 (27, [some (.inr 30), some (.inl x), some (.inl y), some (.inl w), none, none, none, none], [.inl (lie v l 1 x y)], σ) _
      refine wp_go 4 hM (fr' := (33, [some (.inr 30), some (.inl x), some (.inl y), some (.inl w), some (.inl (lie v l 1 x y)), none, none, none], [.inl 0, .inl (lie v l 1 x y), .inr 30], σ)) rfl ?_
      refine wp_calld (v := 0) (idx := 104) (j := 114) (N := mtX6_areaOf) (as := [.inr 30, .inl (lie v l 1 x y), .inl 0]) (rest := []) hM rfl (Or.inl ⟨rfl, rfl⟩) rfl (sp_X6_areaOf_0 v l σ (lie v l 1 x y) (by first | (first | assumption | exact hL.1 | exact hL.2.1) | fail) (by first | (first | assumption | exact hL.1 | exact hL.2.1) | fail) (by first | (first | assumption | exact hL.1 | exact hL.2.1) | fail) (by first | (first | assumption | exact hL.1 | exact hL.2.1) | fail)) ?_
      show mz_Wp shM none 162 (36, [some (.inr 30), some (.inl x), some (.inl y), some (.inl w), some (.inl (lie v l 1 x y)), none, none, none], [.inl (tar v 1 (tg l (lie v l 1 x y)))], σ) _
      refine wp_go 5 hM (fr' := (45, [some (.inr 30), some (.inl x), some (.inl y), some (.inl w), some (.inl (lie v l 1 x y)), some (.inl (tar v 1 (tg l (lie v l 1 x y)))), some (.inl (tar v 1 (tg l (lie v l 1 x y)))), some (.inl 0)], [], σ)) rfl ?_
      have loop45 : ∀ (fuel : Nat) (g : Int) (k : Int), (0 ≤ k) → (k ≤ 3) → (0 < g ∧ g ≤ 722) → ((k = 0 ∧ g = tar v 1 (tg l (lie v l 1 x y))) ∨ (k = 1 ∧ g = (Int.gcd (sh0 v 1 (tg l (lie v l 1 x y)) x y) (tar v 1 (tg l (lie v l 1 x y))) : Int)) ∨ (k = 2 ∧ g = (Int.gcd (sh1 v 1 (tg l (lie v l 1 x y)) x y) (Int.gcd (sh0 v 1 (tg l (lie v l 1 x y)) x y) (tar v 1 (tg l (lie v l 1 x y))) : Int) : Int)) ∨ (k = 3 ∧ g = shG v (tg l (lie v l 1 x y)) x y)) → ((3 - k : Int) < fuel) → mz_Wp shM none 162 (45, [some (.inr 30), some (.inl x), some (.inl y), some (.inl w), some (.inl (lie v l 1 x y)), some (.inl (tar v 1 (tg l (lie v l 1 x y)))), some (.inl g), some (.inl k)], [], σ) (fun r σ' => r = some (aShare v l x y w) ∧ MA σ' v l ∧ Fm σ σ') := by
        intro fuel
        induction fuel with
        | zero =>
          intro g k hv45_0 hv45_1 hv45_2 hv45_3 hf45
          exfalso
          omega
        | succ fuel ih45 =>
          intro g k hv45_0 hv45_1 hv45_2 hv45_3 hf45
          refine wp_go 2 hM (fr' := (48, [some (.inr 30), some (.inl x), some (.inl y), some (.inl w), some (.inl (lie v l 1 x y)), some (.inl (tar v 1 (tg l (lie v l 1 x y)))), some (.inl g), some (.inl k)], [.inl 3, .inl k], σ)) rfl ?_
          refine wp_ic (tgt := 75) hM rfl (by decide) (by omega) (by omega) (fun c48 => ?_) (fun c48 => ?_)
          · replace c48 := cmp_ge_t c48
            first | (have hk3 : k = 3 := by omega) | skip
            first | (have hgE : g = shG v (tg l (lie v l 1 x y)) x y := by omega) | skip
            refine wp_go 2 hM (fr' := (77, [some (.inr 30), some (.inl x), some (.inl y), some (.inl w), some (.inl (lie v l 1 x y)), some (.inl (tar v 1 (tg l (lie v l 1 x y)))), some (.inl g), some (.inl k)], [.inl 3, .inl w], σ)) rfl ?_
            refine wp_ic (tgt := 85) hM rfl (by decide) (by omega) (by omega) (fun c77 => ?_) (fun c77 => ?_)
            · replace c77 := cmp_ne_t c77
              refine wp_go 6 hM (fr' := (92, [some (.inr 30), some (.inl x), some (.inl y), some (.inl w), some (.inl (lie v l 1 x y)), some (.inl (tar v 1 (tg l (lie v l 1 x y)))), some (.inl g), some (.inl k)], [.inl 0, .inl y, .inl x, .inl w, .inl (lie v l 1 x y), .inr 30], σ)) rfl ?_
              refine wp_calld (v := 0) (idx := 108) (j := 119) (N := mtX6_shareOf) (as := [.inr 30, .inl (lie v l 1 x y), .inl w, .inl x, .inl y, .inl 0]) (rest := []) hM rfl (Or.inl ⟨rfl, rfl⟩) rfl (sp_X6_shareOf_0 v l σ (lie v l 1 x y) w x y (by first | (first | assumption | exact hL.1 | exact hL.2.1 | omega) | fail) (by first | (first | assumption | exact hL.1 | exact hL.2.1 | omega) | fail) (by first | (first | assumption | exact hL.1 | exact hL.2.1 | omega) | fail) (by first | (first | assumption | exact hL.1 | exact hL.2.1 | omega) | fail) (by first | (first | assumption | exact hL.1 | exact hL.2.1 | omega) | fail) (by first | (first | assumption | exact hL.1 | exact hL.2.1 | omega) | fail)) ?_
              show mz_Wp shM none 162 (95, [some (.inr 30), some (.inl x), some (.inl y), some (.inl w), some (.inl (lie v l 1 x y)), some (.inl (tar v 1 (tg l (lie v l 1 x y)))), some (.inl g), some (.inl k)], [.inl (shk v 1 (tg l (lie v l 1 x y)) w x y)], σ) _
              refine wp_go 1 hM (fr' := (97, [some (.inr 30), some (.inl x), some (.inl y), some (.inl w), some (.inl (lie v l 1 x y)), some (.inl (tar v 1 (tg l (lie v l 1 x y)))), some (.inl g), some (.inl k)], [.inl g, .inl (shk v 1 (tg l (lie v l 1 x y)) w x y)], σ)) rfl ?_
              refine wp_div hM rfl (by first | (first | omega | (have hkk : shk v 1 (tg l (lie v l 1 x y)) w x y = (if w = 0 then sh0 v 1 (tg l (lie v l 1 x y)) x y else if w = 1 then sh1 v 1 (tg l (lie v l 1 x y)) x y else sh2 v 1 (tg l (lie v l 1 x y)) x y) := rfl; rw [hkk]; repeat' split; all_goals omega)) | fail) (by omega) (by omega) ?_
              refine wp_ret hM rfl (rfl) ?_
              refine ⟨?_, h0, Fm.rf⟩
              unfold aShare
              rw [if_neg (show ¬ ¬ dot v x y from fun q => q c6), ← shq_div hv45_2.1, hgE]
              rcases (show w = 0 ∨ w = 1 ∨ w = 2 ∨ w = 3 by omega) with rfl | rfl | rfl | rfl
              all_goals first | rfl | (exfalso; omega)
            · replace c77 := cmp_ne_f c77
              refine wp_go 3 hM (fr' := (97, [some (.inr 30), some (.inl x), some (.inl y), some (.inl w), some (.inl (lie v l 1 x y)), some (.inl (tar v 1 (tg l (lie v l 1 x y)))), some (.inl g), some (.inl k)], [.inl g, .inl (tar v 1 (tg l (lie v l 1 x y)))], σ)) rfl ?_
              refine wp_div hM rfl (by first | (first | omega | (have hkk : shk v 1 (tg l (lie v l 1 x y)) w x y = (if w = 0 then sh0 v 1 (tg l (lie v l 1 x y)) x y else if w = 1 then sh1 v 1 (tg l (lie v l 1 x y)) x y else sh2 v 1 (tg l (lie v l 1 x y)) x y) := rfl; rw [hkk]; repeat' split; all_goals omega)) | fail) (by omega) (by omega) ?_
              refine wp_ret hM rfl (rfl) ?_
              refine ⟨?_, h0, Fm.rf⟩
              unfold aShare
              rw [if_neg (show ¬ ¬ dot v x y from fun q => q c6), ← shq_div hv45_2.1, hgE]
              rcases (show w = 0 ∨ w = 1 ∨ w = 2 ∨ w = 3 by omega) with rfl | rfl | rfl | rfl
              all_goals first | rfl | (exfalso; omega)
          · replace c48 := cmp_ge_f c48
            first | (have hkk : shk v 1 (tg l (lie v l 1 x y)) k x y = (if k = 0 then sh0 v 1 (tg l (lie v l 1 x y)) x y else if k = 1 then sh1 v 1 (tg l (lie v l 1 x y)) x y else sh2 v 1 (tg l (lie v l 1 x y)) x y) := rfl) | skip
            first | (have hkb : 0 ≤ shk v 1 (tg l (lie v l 1 x y)) k x y ∧ shk v 1 (tg l (lie v l 1 x y)) k x y ≤ 722 := by rw [hkk]; split; omega; split <;> omega) | skip
            first | (have hgp := gcd_pos (a := shk v 1 (tg l (lie v l 1 x y)) k x y) hv45_2.1) | skip
            first | (have hgl := Int.gcd_dvd_right (a := shk v 1 (tg l (lie v l 1 x y)) k x y) (b := g)) | skip
            first | (have hgl2 := Int.le_of_dvd hv45_2.1 hgl) | skip
            refine wp_go 6 hM (fr' := (59, [some (.inr 30), some (.inl x), some (.inl y), some (.inl w), some (.inl (lie v l 1 x y)), some (.inl (tar v 1 (tg l (lie v l 1 x y)))), some (.inl g), some (.inl k)], [.inl 0, .inl y, .inl x, .inl k, .inl (lie v l 1 x y), .inr 30], σ)) rfl ?_
            refine wp_calld (v := 0) (idx := 108) (j := 119) (N := mtX6_shareOf) (as := [.inr 30, .inl (lie v l 1 x y), .inl k, .inl x, .inl y, .inl 0]) (rest := []) hM rfl (Or.inl ⟨rfl, rfl⟩) rfl (sp_X6_shareOf_0 v l σ (lie v l 1 x y) k x y (by first | (first | assumption | exact hL.1 | exact hL.2.1 | omega) | fail) (by first | (first | assumption | exact hL.1 | exact hL.2.1 | omega) | fail) (by first | (first | assumption | exact hL.1 | exact hL.2.1 | omega) | fail) (by first | (first | assumption | exact hL.1 | exact hL.2.1 | omega) | fail) (by first | (first | assumption | exact hL.1 | exact hL.2.1 | omega) | fail) (by first | (first | assumption | exact hL.1 | exact hL.2.1 | omega) | fail)) ?_
            show mz_Wp shM none 162 (62, [some (.inr 30), some (.inl x), some (.inl y), some (.inl w), some (.inl (lie v l 1 x y)), some (.inl (tar v 1 (tg l (lie v l 1 x y)))), some (.inl g), some (.inl k)], [.inl (shk v 1 (tg l (lie v l 1 x y)) k x y)], σ) _
            refine wp_go 1 hM (fr' := (64, [some (.inr 30), some (.inl x), some (.inl y), some (.inl w), some (.inl (lie v l 1 x y)), some (.inl (tar v 1 (tg l (lie v l 1 x y)))), some (.inl g), some (.inl k)], [.inl g, .inl (shk v 1 (tg l (lie v l 1 x y)) k x y)], σ)) rfl ?_
            refine wp_calld (v := 1) (idx := 224) (j := 158) (N := mtX6_common) (as := [.inl (shk v 1 (tg l (lie v l 1 x y)) k x y), .inl g]) (rest := []) hM rfl (Or.inr ⟨rfl, rfl⟩) rfl (sp_X6_common  σ (shk v 1 (tg l (lie v l 1 x y)) k x y) g (by omega) (by omega) (by omega) (by omega)) ?_
            show mz_Wp shM none 162 (67, [some (.inr 30), some (.inl x), some (.inl y), some (.inl w), some (.inl (lie v l 1 x y)), some (.inl (tar v 1 (tg l (lie v l 1 x y)))), some (.inl g), some (.inl k)], [.inl (Int.gcd (shk v 1 (tg l (lie v l 1 x y)) k x y) g : Int)], σ) _
            refine wp_go 3 hM (fr' := (45, [some (.inr 30), some (.inl x), some (.inl y), some (.inl w), some (.inl (lie v l 1 x y)), some (.inl (tar v 1 (tg l (lie v l 1 x y)))), some (.inl (Int.gcd (shk v 1 (tg l (lie v l 1 x y)) k x y) g : Int)), some (.inl (k + 1))], [], σ)) rfl ?_
            exact ih45 (Int.gcd (shk v 1 (tg l (lie v l 1 x y)) k x y) g : Int) (k + 1) (by omega) (by omega) (by omega) (by first | (rcases (show k = 0 ∨ k = 1 ∨ k = 2 by omega) with rfl | rfl | rfl; (refine Or.inr (Or.inl ⟨rfl, ?_⟩); rw [show g = tar v 1 (tg l (lie v l 1 x y)) by omega]; rfl); (refine Or.inr (Or.inr (Or.inl ⟨rfl, ?_⟩)); rw [show g = (Int.gcd (sh0 v 1 (tg l (lie v l 1 x y)) x y) (tar v 1 (tg l (lie v l 1 x y))) : Int) by omega]; rfl); (refine Or.inr (Or.inr (Or.inr ⟨rfl, ?_⟩)); rw [show g = (Int.gcd (sh1 v 1 (tg l (lie v l 1 x y)) x y) (Int.gcd (sh0 v 1 (tg l (lie v l 1 x y)) x y) (tar v 1 (tg l (lie v l 1 x y))) : Int) : Int) by omega]; unfold shG; rw [← shG_gcd hss]; rfl)) | fail) (by omega)
      exact loop45 5 (tar v 1 (tg l (lie v l 1 x y))) 0 (by omega) (by omega) (by omega) (by first | (exact Or.inl ⟨rfl, rfl⟩) | fail) (by omega)
    · replace c15 := b01_eq0 (cmp_ne_f c15)
      refine wp_go 1 hM (fr' := (19, [some (.inr 30), some (.inl x), some (.inl y), some (.inl w), none, none, none, none], [.inl (-1)], σ)) rfl ?_
      refine wp_ret hM rfl (rfl) ?_
      first | (exact ⟨by unfold aShare; first | rw [if_pos c6] | (rw [if_neg (show ¬ ¬ dot v x y from fun q => q c6), if_neg (show ¬ w = 0 by omega), if_neg (show ¬ w = 1 by omega), if_neg (show ¬ w = 2 by omega), if_neg (show ¬ w = 3 by omega)]), h0, Fm.rf⟩) | fail

set_option maxRecDepth 100000 in
set_option maxHeartbeats 4000000 in
theorem sp_X6_square  (σ : mz_G) (a : Int) (b : Int)  : mz_Cl shM 152 [.inl a, .inl b] σ (fun r σ' => r = some (a * a + b * b) ∧ σ' = σ) := by
  have hM : mz_meth[152]? = some mtX6_square := rfl
  refine mz_Cl.of hM ?_
  show mz_Wp shM none 152 (0, [some (.inl a), some (.inl b)], [], σ) _
  refine wp_go 7 hM (fr' := (7, [some (.inl a), some (.inl b)], [.inl ((a * a) + (b * b))], σ)) rfl ?_
  refine wp_ret hM rfl (rfl) ?_
  first | (exact ⟨rfl, rfl⟩) | fail

set_option maxRecDepth 100000 in
set_option maxHeartbeats 4000000 in
theorem sp_X6_edge (v : mz_G) (l : List tr3) (σ : mz_G) (a : Int) (b : Int) (w : Int) (h0 : MA σ v l) (h1 : GO v l) (h2 : mz_R a) (h3 : mz_R b) (h4 : mz_R w) : mz_Cl shM 153 [.inr 30, .inl a, .inl b, .inl w] σ (fun r σ' => r = some (aEdge v l a b w) ∧ MA σ' v l ∧ Fm σ σ') := by
  have hM : mz_meth[153]? = some mtX6_edge := rfl
  obtain ⟨hB, hSd, ⟨hP0, hP1⟩, ⟨hC0, hC1'⟩, hVr, hn30, hl2⟩ := id h1
  obtain ⟨hR, hT, hLen⟩ := id hB
  obtain ⟨⟨hW0, hW1⟩, ⟨hH0, hH1⟩, ⟨hn0, hn1⟩, hpt⟩ := id hR
  obtain ⟨⟨⟨hc1, hc2, hc3⟩, hcp, hcv⟩, hc4, hct⟩ := id h0
  have hWH := WH_bd hR
  refine mz_Cl.of hM ?_
  show mz_Wp shM none 153 (0, [some (.inr 30), some (.inl a), some (.inl b), some (.inl w)], [], σ) _
  refine wp_go 2 hM (fr' := (2, [some (.inr 30), some (.inl a), some (.inl b), some (.inl w)], [.inl a, .inr 30], σ)) rfl ?_
  refine wp_calld (v := 0) (idx := 151) (j := 123) (N := mtX6_isKnot) (as := [.inr 30, .inl a]) (rest := []) hM rfl (Or.inl ⟨rfl, rfl⟩) rfl (sp_X6_isKnot v l σ a (by first | (first | assumption | omega) | fail) (by first | (first | assumption | omega) | fail) (by first | (first | assumption | omega) | fail)) ?_
  show mz_Wp shM none 153 (5, [some (.inr 30), some (.inl a), some (.inl b), some (.inl w)], [.inl (b01 (isk v a))], σ) _
  refine wp_if (tgt := 25) hM rfl (by decide) b01_R (fun c5 => ?_) (fun c5 => ?_)
  · replace c5 := b01_eq0 (cmp_eq_t c5)
    refine wp_go 1 hM (fr' := (26, [some (.inr 30), some (.inl a), some (.inl b), some (.inl w)], [.inl (-1)], σ)) rfl ?_
    refine wp_ret hM rfl (rfl) ?_
    first | (exact ⟨by unfold aEdge; first | rw [if_pos (Or.inl c5)] | rw [if_pos (Or.inr c13)] | rw [if_neg (fun z => by rcases z with z | z; exact z c5; exact z c13), if_pos c22], h0, Fm.rf⟩) | fail
  · replace c5 := b01_ne0 (cmp_eq_f c5)
    refine wp_go 2 hM (fr' := (10, [some (.inr 30), some (.inl a), some (.inl b), some (.inl w)], [.inl b, .inr 30], σ)) rfl ?_
    refine wp_calld (v := 0) (idx := 151) (j := 123) (N := mtX6_isKnot) (as := [.inr 30, .inl b]) (rest := []) hM rfl (Or.inl ⟨rfl, rfl⟩) rfl (sp_X6_isKnot v l σ b (by first | (first | assumption | omega) | fail) (by first | (first | assumption | omega) | fail) (by first | (first | assumption | omega) | fail)) ?_
    show mz_Wp shM none 153 (13, [some (.inr 30), some (.inl a), some (.inl b), some (.inl w)], [.inl (b01 (isk v b))], σ) _
    refine wp_if (tgt := 25) hM rfl (by decide) b01_R (fun c13 => ?_) (fun c13 => ?_)
    · replace c13 := b01_eq0 (cmp_eq_t c13)
      refine wp_go 1 hM (fr' := (26, [some (.inr 30), some (.inl a), some (.inl b), some (.inl w)], [.inl (-1)], σ)) rfl ?_
      refine wp_ret hM rfl (rfl) ?_
      first | (exact ⟨by unfold aEdge; first | rw [if_pos (Or.inl c5)] | rw [if_pos (Or.inr c13)] | rw [if_neg (fun z => by rcases z with z | z; exact z c5; exact z c13), if_pos c22], h0, Fm.rf⟩) | fail
    · replace c13 := b01_ne0 (cmp_eq_f c13)
      first | (have hka := c5) | skip
      first | (have hkb := c13) | skip
      first | (have ha := MA_pt h0 c5.1 c5.2) | skip
      first | (have hb := MA_pt h0 c13.1 c13.2) | skip
      first | (have hhl : hld l a b = b01 (¬ apx l a b = -1) + b01 (¬ apx l b a = -1) := rfl) | skip
      first | (have hb1 := b01_01 (P := ¬ apx l a b = -1)) | skip
      first | (have hb2 := b01_01 (P := ¬ apx l b a = -1)) | skip
      refine wp_go 3 hM (fr' := (19, [some (.inr 30), some (.inl a), some (.inl b), some (.inl w)], [.inl b, .inl a, .inr 30], σ)) rfl ?_
      refine wp_calld (v := 0) (idx := 161) (j := 132) (N := mtX6_sides) (as := [.inr 30, .inl a, .inl b]) (rest := []) hM rfl (Or.inl ⟨rfl, rfl⟩) rfl (sp_X6_sides v l σ a b (by first | (first | assumption | omega) | fail) (by first | (first | assumption | omega) | fail) (by first | (first | assumption | omega) | fail) (by first | (first | assumption | omega) | fail)) ?_
      show mz_Wp shM none 153 (22, [some (.inr 30), some (.inl a), some (.inl b), some (.inl w)], [.inl (hld l a b)], σ) _
      refine wp_if (tgt := 27) hM rfl (by decide) (by omega) (fun c22 => ?_) (fun c22 => ?_)
      · replace c22 := cmp_ne_t c22
        refine wp_go 1 hM (fr' := (28, [some (.inr 30), some (.inl a), some (.inl b), some (.inl w)], [.inl w], σ)) rfl ?_
        have hR28 : mz_R w := by omega
        rcases (show w = 0 ∨ w = 1 ∨ w = 2 ∨ w = 3 ∨ (w < 0 ∨ 3 < w) by omega) with c28 | c28 | c28 | c28 | c28
        · refine wp_tsi (tgt := 60) (off := 32) hM rfl hR28 (by omega) (by rw [c28]; rfl) (by decide) ?_
          refine wp_go 3 hM (fr' := (63, [some (.inr 30), some (.inl a), some (.inl b), some (.inl w)], [.inl b, .inl a, .inr 30], σ)) rfl ?_
          refine wp_calld (v := 0) (idx := 161) (j := 132) (N := mtX6_sides) (as := [.inr 30, .inl a, .inl b]) (rest := []) hM rfl (Or.inl ⟨rfl, rfl⟩) rfl (sp_X6_sides v l σ a b (by first | (first | assumption | omega) | fail) (by first | (first | assumption | omega) | fail) (by first | (first | assumption | omega) | fail) (by first | (first | assumption | omega) | fail)) ?_
          show mz_Wp shM none 153 (66, [some (.inr 30), some (.inl a), some (.inl b), some (.inl w)], [.inl (hld l a b)], σ) _
          refine wp_ret hM rfl (rfl) ?_
          first | (exact ⟨by subst c28; unfold aEdge; rw [if_neg (fun z => by rcases z with z | z; exact z c5; exact z c13), if_neg c22]; rfl, h0, Fm.rf⟩) | fail
        · refine wp_tsi (tgt := 67) (off := 39) hM rfl hR28 (by omega) (by rw [c28]; rfl) (by decide) ?_
          refine wp_go 3 hM (fr' := (72, [some (.inr 30), some (.inl a), some (.inl b), some (.inl w)], [.inl a, .inr 31], σ)) rfl ?_
          refine wp_al (n := 31) hM rfl (by decide) rfl (by first | (unfold isk at hka hkb; omega) | fail) (by first | (unfold isk at hka hkb; omega) | fail) ?_
          first | (rw [ha.1]) | skip
          refine wp_go 3 hM (fr' := (78, [some (.inr 30), some (.inl a), some (.inl b), some (.inl w)], [.inl b, .inr 31, .inl (gx v 0 a)], σ)) rfl ?_
          refine wp_al (n := 31) hM rfl (by decide) rfl (by first | (unfold isk at hka hkb; omega) | fail) (by first | (unfold isk at hka hkb; omega) | fail) ?_
          first | (rw [hb.1]) | skip
          refine wp_go 4 hM (fr' := (85, [some (.inr 30), some (.inl a), some (.inl b), some (.inl w)], [.inl a, .inr 32, .inl ((gx v 0 a) - (gx v 0 b))], σ)) rfl ?_
          refine wp_al (n := 31) hM rfl (by decide) rfl (by first | (unfold isk at hka hkb; omega) | fail) (by first | (unfold isk at hka hkb; omega) | fail) ?_
          first | (rw [ha.2.1]) | skip
          refine wp_go 3 hM (fr' := (91, [some (.inr 30), some (.inl a), some (.inl b), some (.inl w)], [.inl b, .inr 32, .inl (gy v 0 a), .inl ((gx v 0 a) - (gx v 0 b))], σ)) rfl ?_
          refine wp_al (n := 31) hM rfl (by decide) rfl (by first | (unfold isk at hka hkb; omega) | fail) (by first | (unfold isk at hka hkb; omega) | fail) ?_
          first | (rw [hb.2.1]) | skip
          refine wp_go 1 hM (fr' := (93, [some (.inr 30), some (.inl a), some (.inl b), some (.inl w)], [.inl ((gy v 0 a) - (gy v 0 b)), .inl ((gx v 0 a) - (gx v 0 b))], σ)) rfl ?_
          refine wp_calld (v := 1) (idx := 202) (j := 152) (N := mtX6_square) (as := [.inl ((gx v 0 a) - (gx v 0 b)), .inl ((gy v 0 a) - (gy v 0 b))]) (rest := []) hM rfl (Or.inr ⟨rfl, rfl⟩) rfl (sp_X6_square  σ ((gx v 0 a) - (gx v 0 b)) ((gy v 0 a) - (gy v 0 b)) ) ?_
          show mz_Wp shM none 153 (96, [some (.inr 30), some (.inl a), some (.inl b), some (.inl w)], [.inl (((gx v 0 a) - (gx v 0 b)) * ((gx v 0 a) - (gx v 0 b)) + ((gy v 0 a) - (gy v 0 b)) * ((gy v 0 a) - (gy v 0 b)))], σ) _
          refine wp_ret hM rfl (rfl) ?_
          first | (exact ⟨by subst c28; unfold aEdge; rw [if_neg (fun z => by rcases z with z | z; exact z c5; exact z c13), if_neg c22]; show _ = some (sqd v 0 a b); unfold sqd; rw [sq_sym (a := gx v 0 a), sq_sym (a := gy v 0 a)], h0, Fm.rf⟩) | fail
        · refine wp_tsi (tgt := 97) (off := 69) hM rfl hR28 (by omega) (by rw [c28]; rfl) (by decide) ?_
          refine wp_go 3 hM (fr' := (102, [some (.inr 30), some (.inl a), some (.inl b), some (.inl w)], [.inl a, .inr 33], σ)) rfl ?_
          refine wp_al (n := 31) hM rfl (by decide) rfl (by first | (unfold isk at hka hkb; omega) | fail) (by first | (unfold isk at hka hkb; omega) | fail) ?_
          first | (rw [ha.2.2.1]) | skip
          refine wp_go 3 hM (fr' := (108, [some (.inr 30), some (.inl a), some (.inl b), some (.inl w)], [.inl b, .inr 33, .inl (gx v 1 a)], σ)) rfl ?_
          refine wp_al (n := 31) hM rfl (by decide) rfl (by first | (unfold isk at hka hkb; omega) | fail) (by first | (unfold isk at hka hkb; omega) | fail) ?_
          first | (rw [hb.2.2.1]) | skip
          refine wp_go 4 hM (fr' := (115, [some (.inr 30), some (.inl a), some (.inl b), some (.inl w)], [.inl a, .inr 34, .inl ((gx v 1 a) - (gx v 1 b))], σ)) rfl ?_
          refine wp_al (n := 31) hM rfl (by decide) rfl (by first | (unfold isk at hka hkb; omega) | fail) (by first | (unfold isk at hka hkb; omega) | fail) ?_
          first | (rw [ha.2.2.2]) | skip
          refine wp_go 3 hM (fr' := (121, [some (.inr 30), some (.inl a), some (.inl b), some (.inl w)], [.inl b, .inr 34, .inl (gy v 1 a), .inl ((gx v 1 a) - (gx v 1 b))], σ)) rfl ?_
          refine wp_al (n := 31) hM rfl (by decide) rfl (by first | (unfold isk at hka hkb; omega) | fail) (by first | (unfold isk at hka hkb; omega) | fail) ?_
          first | (rw [hb.2.2.2]) | skip
          refine wp_go 1 hM (fr' := (123, [some (.inr 30), some (.inl a), some (.inl b), some (.inl w)], [.inl ((gy v 1 a) - (gy v 1 b)), .inl ((gx v 1 a) - (gx v 1 b))], σ)) rfl ?_
          refine wp_calld (v := 1) (idx := 202) (j := 152) (N := mtX6_square) (as := [.inl ((gx v 1 a) - (gx v 1 b)), .inl ((gy v 1 a) - (gy v 1 b))]) (rest := []) hM rfl (Or.inr ⟨rfl, rfl⟩) rfl (sp_X6_square  σ ((gx v 1 a) - (gx v 1 b)) ((gy v 1 a) - (gy v 1 b)) ) ?_
          show mz_Wp shM none 153 (126, [some (.inr 30), some (.inl a), some (.inl b), some (.inl w)], [.inl (((gx v 1 a) - (gx v 1 b)) * ((gx v 1 a) - (gx v 1 b)) + ((gy v 1 a) - (gy v 1 b)) * ((gy v 1 a) - (gy v 1 b)))], σ) _
          refine wp_ret hM rfl (rfl) ?_
          first | (exact ⟨by subst c28; unfold aEdge; rw [if_neg (fun z => by rcases z with z | z; exact z c5; exact z c13), if_neg c22]; show _ = some (sqd v 1 a b); unfold sqd; rw [sq_sym (a := gx v 1 a), sq_sym (a := gy v 1 a)], h0, Fm.rf⟩) | fail
        · refine wp_tsi (tgt := 127) (off := 99) hM rfl hR28 (by omega) (by rw [c28]; rfl) (by decide) ?_
          refine wp_go 3 hM (fr' := (130, [some (.inr 30), some (.inl a), some (.inl b), some (.inl w)], [.inl b, .inl a, .inr 30], σ)) rfl ?_
          refine wp_calld (v := 0) (idx := 167) (j := 133) (N := mtX6_isTurnable) (as := [.inr 30, .inl a, .inl b]) (rest := []) hM rfl (Or.inl ⟨rfl, rfl⟩) rfl (sp_X6_isTurnable v l σ a b (by first | (first | assumption | exact hka.1 | exact hka.2 | exact hkb.1 | exact hkb.2) | fail) (by first | (first | assumption | exact hka.1 | exact hka.2 | exact hkb.1 | exact hkb.2) | fail) (by first | (first | assumption | exact hka.1 | exact hka.2 | exact hkb.1 | exact hkb.2) | fail) (by first | (first | assumption | exact hka.1 | exact hka.2 | exact hkb.1 | exact hkb.2) | fail) (by first | (first | assumption | exact hka.1 | exact hka.2 | exact hkb.1 | exact hkb.2) | fail) (by first | (first | assumption | exact hka.1 | exact hka.2 | exact hkb.1 | exact hkb.2) | fail)) ?_
          show mz_Wp shM none 153 (133, [some (.inr 30), some (.inl a), some (.inl b), some (.inl w)], [.inl (b01 (rtt v l a b = 0))], σ) _
          refine wp_if (tgt := 140) hM rfl (by decide) b01_R (fun c133 => ?_) (fun c133 => ?_)
          · replace c133 := b01_eq0 (cmp_eq_t c133)
            refine wp_go 1 hM (fr' := (141, [some (.inr 30), some (.inl a), some (.inl b), some (.inl w)], [.inl 0], σ)) rfl ?_
            refine wp_ret hM rfl (rfl) ?_
            first | (exact ⟨by subst c28; unfold aEdge; rw [if_neg (fun z => by rcases z with z | z; exact z c5; exact z c13), if_neg c22]; show _ = some (b01 (rtt v l a b = 0)); first | rw [b01_t c133] | rw [b01_f c133], h0, Fm.rf⟩) | fail
          · replace c133 := b01_ne0 (cmp_eq_f c133)
            refine wp_go 2 hM (fr' := (141, [some (.inr 30), some (.inl a), some (.inl b), some (.inl w)], [.inl 1], σ)) rfl ?_
            refine wp_ret hM rfl (rfl) ?_
            first | (exact ⟨by subst c28; unfold aEdge; rw [if_neg (fun z => by rcases z with z | z; exact z c5; exact z c13), if_neg c22]; show _ = some (b01 (rtt v l a b = 0)); first | rw [b01_t c133] | rw [b01_f c133], h0, Fm.rf⟩) | fail
        · refine wp_tso (tgt := 142) hM rfl (by decide) hR28 c28 ?_
          refine wp_go 1 hM (fr' := (143, [some (.inr 30), some (.inl a), some (.inl b), some (.inl w)], [.inl (-1)], σ)) rfl ?_
          refine wp_ret hM rfl (rfl) ?_
          first | (exact ⟨by unfold aEdge; rw [if_neg (fun z => by rcases z with z | z; exact z c5; exact z c13), if_neg c22, if_neg (show ¬ w = 0 by omega), if_neg (show ¬ w = 1 by omega), if_neg (show ¬ w = 2 by omega), if_neg (show ¬ w = 3 by omega)], h0, Fm.rf⟩) | fail
      · replace c22 := cmp_ne_f c22
        refine wp_go 1 hM (fr' := (26, [some (.inr 30), some (.inl a), some (.inl b), some (.inl w)], [.inl (-1)], σ)) rfl ?_
        refine wp_ret hM rfl (rfl) ?_
        first | (exact ⟨by unfold aEdge; first | rw [if_pos (Or.inl c5)] | rw [if_pos (Or.inr c13)] | rw [if_neg (fun z => by rcases z with z | z; exact z c5; exact z c13), if_pos c22], h0, Fm.rf⟩) | fail

set_option maxRecDepth 100000 in
set_option maxHeartbeats 4000000 in
theorem sp_X6_edges_0 (v : mz_G) (l : List tr3) (σ : mz_G)  (h0 : MA σ v l) (h1 : Bs v l) : mz_Cl shM 154 [.inr 30, .inl 0] σ (fun r σ' => r = some (eco (v 0 2) (fun a b => 0 < hld l a b)) ∧ σ' = σ) := by
  have hM : mz_meth[154]? = some mtX6_edges := rfl
  obtain ⟨hR, hT, hLen⟩ := id h1
  obtain ⟨⟨hW0, hW1⟩, ⟨hH0, hH1⟩, ⟨hn0, hn1⟩, hpt⟩ := id hR
  obtain ⟨⟨⟨hc1, hc2, hc3⟩, hcp, hcv⟩, hc4, hct⟩ := id h0
  have hWH := WH_bd hR
  refine mz_Cl.of hM ?_
  show mz_Wp shM none 154 (0, [some (.inr 30), some (.inl 0), none, none, none], [], σ) _
  refine wp_go 4 hM (fr' := (4, [some (.inr 30), some (.inl 0), some (.inl 0), some (.inl 0), none], [], σ)) rfl ?_
  have loop4 : ∀ (fuel : Nat) (f : Int) (a : Int) (d4_4 : Option mz_V), (0 ≤ a) → (a ≤ v 0 2) → (f = sumI a (fun a => sumI (v 0 2) (fun b => b01 (a < b ∧ 0 < hld l a b)))) → ((v 0 2 - a : Int) < fuel) → mz_Wp shM none 154 (4, [some (.inr 30), some (.inl 0), some (.inl f), some (.inl a), d4_4], [], σ) (fun r σ' => r = some (eco (v 0 2) (fun a b => 0 < hld l a b)) ∧ σ' = σ) := by
    intro fuel
    induction fuel with
    | zero =>
      intro f a d4_4 hv4_0 hv4_1 hv4_2 hf4
      exfalso
      omega
    | succ fuel ih4 =>
      intro f a d4_4 hv4_0 hv4_1 hv4_2 hf4
      have hs : sumI (a + 1) (fun a => sumI (v 0 2) (fun b => b01 (a < b ∧ 0 < hld l a b))) = sumI a (fun a => sumI (v 0 2) (fun b => b01 (a < b ∧ 0 < hld l a b))) + sumI (v 0 2) (fun b => b01 (a < b ∧ 0 < hld l a b)) := sumI_s hv4_0
      have hb := sumI_bd (a := 0) (b := 31) (f := (fun a => sumI (v 0 2) (fun b => b01 (a < b ∧ 0 < hld l a b)))) hv4_0 (fun i _ _ => by have := eco_bd (n := 0) (a := i) (P := fun a b => 0 < hld l a b) (show 0 ≤ v 0 2 by omega); constructor <;> omega)
      have hz := eco_z (P := fun a b => 0 < hld l a b) hv4_0
      refine wp_go 3 hM (fr' := (9, [some (.inr 30), some (.inl 0), some (.inl f), some (.inl a), d4_4], [.inl (σ 30 2), .inl a], σ)) rfl ?_
      refine wp_ic (tgt := 78) hM rfl (by decide) (by omega) (by omega) (fun c9 => ?_) (fun c9 => ?_)
      · replace c9 := cmp_ge_t c9
        refine wp_go 1 hM (fr' := (79, [some (.inr 30), some (.inl 0), some (.inl f), some (.inl a), d4_4], [.inl f], σ)) rfl ?_
        refine wp_ret hM rfl (rfl) ?_
        first | (exact ⟨by unfold eco; rw [hv4_2, show a = v 0 2 from by omega], rfl⟩) | fail
      · replace c9 := cmp_ge_f c9
        refine wp_go 4 hM (fr' := (17, [some (.inr 30), some (.inl 0), some (.inl f), some (.inl a), some (.inl (a + 1))], [], σ)) rfl ?_
        have loop17 : ∀ (fuel : Nat) (g : Int) (b : Int), (a < b) → (b ≤ v 0 2) → (g = f + sumI b (fun b => b01 (a < b ∧ 0 < hld l a b))) → ((v 0 2 - b : Int) < fuel) → mz_Wp shM none 154 (17, [some (.inr 30), some (.inl 0), some (.inl g), some (.inl a), some (.inl b)], [], σ) (fun r σ' => r = some (eco (v 0 2) (fun a b => 0 < hld l a b)) ∧ σ' = σ) := by
          intro fuel
          induction fuel with
          | zero =>
            intro g b hv17_0 hv17_1 hv17_2 hf17
            exfalso
            omega
          | succ fuel ih17 =>
            intro g b hv17_0 hv17_1 hv17_2 hf17
            have hs2 : sumI (b + 1) (fun b => b01 (a < b ∧ 0 < hld l a b)) = sumI b (fun b => b01 (a < b ∧ 0 < hld l a b)) + b01 (a < b ∧ 0 < hld l a b) := sumI_s (by omega)
            have hb2 := eco_bd (n := 0) (a := a) (P := fun a b => 0 < hld l a b) (show 0 ≤ b by omega)
            have hhl : hld l a b = b01 (¬ apx l a b = -1) + b01 (¬ apx l b a = -1) := rfl
            have hq1 := b01_01 (P := ¬ apx l a b = -1)
            have hq2 := b01_01 (P := ¬ apx l b a = -1)
            refine wp_go 3 hM (fr' := (23, [some (.inr 30), some (.inl 0), some (.inl g), some (.inl a), some (.inl b)], [.inl (σ 30 2), .inl b], σ)) rfl ?_
            refine wp_ic (tgt := 72) hM rfl (by decide) (by omega) (by omega) (fun c23 => ?_) (fun c23 => ?_)
            · replace c23 := cmp_ge_t c23
              refine wp_go 2 hM (fr' := (4, [some (.inr 30), some (.inl 0), some (.inl g), some (.inl (a + 1)), some (.inl b)], [], σ)) rfl ?_
              exact ih4 g (a + 1) (some (.inl b)) (by omega) (by omega) (by first | (rw [hs, hv17_2, show b = v 0 2 from by omega, hv4_2]) | fail) (by omega)
            · replace c23 := cmp_ge_f c23
              refine wp_go 2 hM (fr' := (28, [some (.inr 30), some (.inl 0), some (.inl g), some (.inl a), some (.inl b)], [.inl 0, .inl g], σ)) rfl ?_
              refine wp_if (tgt := 49) hM rfl (by decide) (by omega) (fun c28 => ?_) (fun c28 => ?_)
              · replace c28 := cmp_eq_t c28
                refine wp_go 3 hM (fr' := (53, [some (.inr 30), some (.inl 0), some (.inl g), some (.inl a), some (.inl b)], [.inl b, .inl a, .inr 30, .inl g], σ)) rfl ?_
                refine wp_calld (v := 0) (idx := 161) (j := 132) (N := mtX6_sides) (as := [.inr 30, .inl a, .inl b]) (rest := [.inl g]) hM rfl (Or.inl ⟨rfl, rfl⟩) rfl (sp_X6_sides v l σ a b (by first | (first | assumption | omega) | fail) (by first | (first | assumption | omega) | fail) (by first | (first | assumption | omega) | fail) (by first | (first | assumption | omega) | fail)) ?_
                show mz_Wp shM none 154 (56, [some (.inr 30), some (.inl 0), some (.inl g), some (.inl a), some (.inl b)], [.inl (hld l a b), .inl g], σ) _
                refine wp_if (tgt := 63) hM rfl (by decide) (by omega) (fun c56 => ?_) (fun c56 => ?_)
                · replace c56 := cmp_le_t c56
                  refine wp_go 5 hM (fr' := (17, [some (.inr 30), some (.inl 0), some (.inl (g + 0)), some (.inl a), some (.inl (b + 1))], [], σ)) rfl ?_
                  exact ih17 (g + 0) (b + 1) (by omega) (by omega) (by first | (rw [hs2]; first | (rw [b01_t ⟨hv17_0, show 0 < hld l a b by omega⟩]; omega) | (rw [b01_f (fun z => by have := z.2; omega)]; omega)) | fail) (by omega)
                · replace c56 := cmp_le_f c56
                  refine wp_go 6 hM (fr' := (17, [some (.inr 30), some (.inl 0), some (.inl (g + 1)), some (.inl a), some (.inl (b + 1))], [], σ)) rfl ?_
                  exact ih17 (g + 1) (b + 1) (by omega) (by omega) (by first | (rw [hs2]; first | (rw [b01_t ⟨hv17_0, show 0 < hld l a b by omega⟩]; omega) | (rw [b01_f (fun z => by have := z.2; omega)]; omega)) | fail) (by omega)
              · replace c28 := cmp_eq_f c28
                exact absurd c28 (by decide)
        exact loop17 33 f (a + 1) (by omega) (by omega) (by first | (rw [hz]; omega) | fail) (by omega)
  exact loop4 33 0 0 (none) (by omega) (by omega) (by rfl) (by omega)

set_option maxRecDepth 100000 in
set_option maxHeartbeats 4000000 in
theorem sp_X6_edges_1 (v : mz_G) (l : List tr3) (σ : mz_G)  (h0 : MA σ v l) (h1 : Bs v l) : mz_Cl shM 154 [.inr 30, .inl 1] σ (fun r σ' => r = some (eco (v 0 2) (fun a b => rtt v l a b = 0)) ∧ σ' = σ) := by
  have hM : mz_meth[154]? = some mtX6_edges := rfl
  obtain ⟨hR, hT, hLen⟩ := id h1
  obtain ⟨⟨hW0, hW1⟩, ⟨hH0, hH1⟩, ⟨hn0, hn1⟩, hpt⟩ := id hR
  obtain ⟨⟨⟨hc1, hc2, hc3⟩, hcp, hcv⟩, hc4, hct⟩ := id h0
  have hWH := WH_bd hR
  refine mz_Cl.of hM ?_
  show mz_Wp shM none 154 (0, [some (.inr 30), some (.inl 1), none, none, none], [], σ) _
  refine wp_go 4 hM (fr' := (4, [some (.inr 30), some (.inl 1), some (.inl 0), some (.inl 0), none], [], σ)) rfl ?_
  have loop4 : ∀ (fuel : Nat) (f : Int) (a : Int) (d4_4 : Option mz_V), (0 ≤ a) → (a ≤ v 0 2) → (f = sumI a (fun a => sumI (v 0 2) (fun b => b01 (a < b ∧ rtt v l a b = 0)))) → ((v 0 2 - a : Int) < fuel) → mz_Wp shM none 154 (4, [some (.inr 30), some (.inl 1), some (.inl f), some (.inl a), d4_4], [], σ) (fun r σ' => r = some (eco (v 0 2) (fun a b => rtt v l a b = 0)) ∧ σ' = σ) := by
    intro fuel
    induction fuel with
    | zero =>
      intro f a d4_4 hv4_0 hv4_1 hv4_2 hf4
      exfalso
      omega
    | succ fuel ih4 =>
      intro f a d4_4 hv4_0 hv4_1 hv4_2 hf4
      have hs : sumI (a + 1) (fun a => sumI (v 0 2) (fun b => b01 (a < b ∧ rtt v l a b = 0))) = sumI a (fun a => sumI (v 0 2) (fun b => b01 (a < b ∧ rtt v l a b = 0))) + sumI (v 0 2) (fun b => b01 (a < b ∧ rtt v l a b = 0)) := sumI_s hv4_0
      have hb := sumI_bd (a := 0) (b := 31) (f := (fun a => sumI (v 0 2) (fun b => b01 (a < b ∧ rtt v l a b = 0)))) hv4_0 (fun i _ _ => by have := eco_bd (n := 0) (a := i) (P := fun a b => rtt v l a b = 0) (show 0 ≤ v 0 2 by omega); constructor <;> omega)
      have hz := eco_z (P := fun a b => rtt v l a b = 0) hv4_0
      refine wp_go 3 hM (fr' := (9, [some (.inr 30), some (.inl 1), some (.inl f), some (.inl a), d4_4], [.inl (σ 30 2), .inl a], σ)) rfl ?_
      refine wp_ic (tgt := 78) hM rfl (by decide) (by omega) (by omega) (fun c9 => ?_) (fun c9 => ?_)
      · replace c9 := cmp_ge_t c9
        refine wp_go 1 hM (fr' := (79, [some (.inr 30), some (.inl 1), some (.inl f), some (.inl a), d4_4], [.inl f], σ)) rfl ?_
        refine wp_ret hM rfl (rfl) ?_
        first | (exact ⟨by unfold eco; rw [hv4_2, show a = v 0 2 from by omega], rfl⟩) | fail
      · replace c9 := cmp_ge_f c9
        refine wp_go 4 hM (fr' := (17, [some (.inr 30), some (.inl 1), some (.inl f), some (.inl a), some (.inl (a + 1))], [], σ)) rfl ?_
        have loop17 : ∀ (fuel : Nat) (g : Int) (b : Int), (a < b) → (b ≤ v 0 2) → (g = f + sumI b (fun b => b01 (a < b ∧ rtt v l a b = 0))) → ((v 0 2 - b : Int) < fuel) → mz_Wp shM none 154 (17, [some (.inr 30), some (.inl 1), some (.inl g), some (.inl a), some (.inl b)], [], σ) (fun r σ' => r = some (eco (v 0 2) (fun a b => rtt v l a b = 0)) ∧ σ' = σ) := by
          intro fuel
          induction fuel with
          | zero =>
            intro g b hv17_0 hv17_1 hv17_2 hf17
            exfalso
            omega
          | succ fuel ih17 =>
            intro g b hv17_0 hv17_1 hv17_2 hf17
            have hs2 : sumI (b + 1) (fun b => b01 (a < b ∧ rtt v l a b = 0)) = sumI b (fun b => b01 (a < b ∧ rtt v l a b = 0)) + b01 (a < b ∧ rtt v l a b = 0) := sumI_s (by omega)
            have hb2 := eco_bd (n := 0) (a := a) (P := fun a b => rtt v l a b = 0) (show 0 ≤ b by omega)
            have hhl : hld l a b = b01 (¬ apx l a b = -1) + b01 (¬ apx l b a = -1) := rfl
            have hq1 := b01_01 (P := ¬ apx l a b = -1)
            have hq2 := b01_01 (P := ¬ apx l b a = -1)
            refine wp_go 3 hM (fr' := (23, [some (.inr 30), some (.inl 1), some (.inl g), some (.inl a), some (.inl b)], [.inl (σ 30 2), .inl b], σ)) rfl ?_
            refine wp_ic (tgt := 72) hM rfl (by decide) (by omega) (by omega) (fun c23 => ?_) (fun c23 => ?_)
            · replace c23 := cmp_ge_t c23
              refine wp_go 2 hM (fr' := (4, [some (.inr 30), some (.inl 1), some (.inl g), some (.inl (a + 1)), some (.inl b)], [], σ)) rfl ?_
              exact ih4 g (a + 1) (some (.inl b)) (by omega) (by omega) (by first | (rw [hs, hv17_2, show b = v 0 2 from by omega, hv4_2]) | fail) (by omega)
            · replace c23 := cmp_ge_f c23
              refine wp_go 2 hM (fr' := (28, [some (.inr 30), some (.inl 1), some (.inl g), some (.inl a), some (.inl b)], [.inl 1, .inl g], σ)) rfl ?_
              refine wp_if (tgt := 49) hM rfl (by decide) (by omega) (fun c28 => ?_) (fun c28 => ?_)
              · replace c28 := cmp_eq_t c28
                exact absurd c28 (by decide)
              · replace c28 := cmp_eq_f c28
                refine wp_go 3 hM (fr' := (35, [some (.inr 30), some (.inl 1), some (.inl g), some (.inl a), some (.inl b)], [.inl b, .inl a, .inr 30, .inl g], σ)) rfl ?_
                refine wp_calld (v := 0) (idx := 167) (j := 133) (N := mtX6_isTurnable) (as := [.inr 30, .inl a, .inl b]) (rest := [.inl g]) hM rfl (Or.inl ⟨rfl, rfl⟩) rfl (sp_X6_isTurnable v l σ a b (by first | (first | assumption | omega) | fail) (by first | (first | assumption | omega) | fail) (by first | (first | assumption | omega) | fail) (by first | (first | assumption | omega) | fail) (by first | (first | assumption | omega) | fail) (by first | (first | assumption | omega) | fail)) ?_
                show mz_Wp shM none 154 (38, [some (.inr 30), some (.inl 1), some (.inl g), some (.inl a), some (.inl b)], [.inl (b01 (rtt v l a b = 0)), .inl g], σ) _
                refine wp_if (tgt := 45) hM rfl (by decide) b01_R (fun c38 => ?_) (fun c38 => ?_)
                · replace c38 := b01_eq0 (cmp_eq_t c38)
                  refine wp_go 6 hM (fr' := (17, [some (.inr 30), some (.inl 1), some (.inl (g + 0)), some (.inl a), some (.inl (b + 1))], [], σ)) rfl ?_
                  exact ih17 (g + 0) (b + 1) (by omega) (by omega) (by first | (rw [hs2]; first | (rw [b01_t ⟨hv17_0, c38⟩]; omega) | (rw [b01_f (fun z => c38 z.2)]; omega)) | fail) (by omega)
                · replace c38 := b01_ne0 (cmp_eq_f c38)
                  refine wp_go 6 hM (fr' := (17, [some (.inr 30), some (.inl 1), some (.inl (g + 1)), some (.inl a), some (.inl (b + 1))], [], σ)) rfl ?_
                  exact ih17 (g + 1) (b + 1) (by omega) (by omega) (by first | (rw [hs2]; first | (rw [b01_t ⟨hv17_0, c38⟩]; omega) | (rw [b01_f (fun z => c38 z.2)]; omega)) | fail) (by omega)
        exact loop17 33 f (a + 1) (by omega) (by omega) (by first | (rw [hz]; omega) | fail) (by omega)
  exact loop4 33 0 0 (none) (by omega) (by omega) (by rfl) (by omega)

set_option maxRecDepth 100000 in
set_option maxHeartbeats 4000000 in
theorem sp_X6_shared (v : mz_G) (l : List tr3) (σ : mz_G)  (h0 : MA σ v l) (h1 : GO v l) : mz_Cl shM 155 [.inr 30] σ (fun r σ' => r = some (many v l) ∧ σ' = σ) := by
  have hM : mz_meth[155]? = some mtX6_shared := rfl
  obtain ⟨hB, hSd, ⟨hP0, hP1⟩, ⟨hC0, hC1'⟩, hVr, hn30, hl2⟩ := id h1
  obtain ⟨hR, hT, hLen⟩ := id hB
  obtain ⟨⟨hW0, hW1⟩, ⟨hH0, hH1⟩, ⟨hn0, hn1⟩, hpt⟩ := id hR
  obtain ⟨⟨⟨hc1, hc2, hc3⟩, hcp, hcv⟩, hc4, hct⟩ := id h0
  have hWH := WH_bd hR
  refine mz_Cl.of hM ?_
  show mz_Wp shM none 155 (0, [some (.inr 30), none, none, none, none], [], σ) _
  refine wp_go 4 hM (fr' := (4, [some (.inr 30), some (.inl 0), some (.inl 0), none, none], [], σ)) rfl ?_
  have loop4 : ∀ (fuel : Nat) (f : Int) (d : Int) (d4_3 d4_4 : Option mz_V), (0 ≤ d) → (d ≤ v 0 0 * v 0 1) → (f = sumI d (fun d => b01 (1 < FH v l (l.length : Int) (d % v 0 0) (d / v 0 0)))) → ((v 0 0 * v 0 1 - d : Int) < fuel) → mz_Wp shM none 155 (4, [some (.inr 30), some (.inl f), some (.inl d), d4_3, d4_4], [], σ) (fun r σ' => r = some (many v l) ∧ σ' = σ) := by
    intro fuel
    induction fuel with
    | zero =>
      intro f d d4_3 d4_4 hv4_0 hv4_1 hv4_2 hf4
      exfalso
      omega
    | succ fuel ih4 =>
      intro f d d4_3 d4_4 hv4_0 hv4_1 hv4_2 hf4
      have hA1 := id h0
      have hw1 : σ 30 0 = v 0 0 := hA1.1.1.1
      have hh1 : σ 30 1 = v 0 1 := hA1.1.1.2.1
      have hs : sumI (d + 1) (fun d => b01 (1 < FH v l (l.length : Int) (d % v 0 0) (d / v 0 0))) = sumI d (fun d => b01 (1 < FH v l (l.length : Int) (d % v 0 0) (d / v 0 0))) + b01 (1 < FH v l (l.length : Int) (d % v 0 0) (d / v 0 0)) := sumI_s hv4_0
      have hb := sumI_bd (a := 0) (b := 1) (f := (fun d => b01 (1 < FH v l (l.length : Int) (d % v 0 0) (d / v 0 0)))) hv4_0 (fun i _ _ => by rcases b01_01 (P := 1 < FH v l (l.length : Int) (i % v 0 0) (i / v 0 0)) with q | q <;> omega)
      refine wp_go 6 hM (fr' := (14, [some (.inr 30), some (.inl f), some (.inl d), d4_3, d4_4], [.inl ((σ 30 0) * (σ 30 1)), .inl d], σ)) rfl ?_
      refine wp_ic (tgt := 86) hM rfl (by decide) (by omega) (by first | (rw [hw1, hh1]; omega) | fail) (fun c14 => ?_) (fun c14 => ?_)
      · replace c14 := cmp_ge_t c14
        first | (rw [hw1, hh1] at c14) | skip
        refine wp_go 1 hM (fr' := (87, [some (.inr 30), some (.inl f), some (.inl d), d4_3, d4_4], [.inl f], σ)) rfl ?_
        refine wp_ret hM rfl (rfl) ?_
        first | (exact ⟨by unfold many; rw [hv4_2, show d = v 0 0 * v 0 1 from by omega], rfl⟩) | fail
      · replace c14 := cmp_ge_f c14
        first | (rw [hw1, hh1] at c14) | skip
        first | (have hdm := dmv hR hv4_0 (show d < v 0 0 * v 0 1 by omega)) | skip
        first | (have hdm1 := hdm.1) | skip
        first | (have hni := ne_in h1 hv4_0 (show d < v 0 0 * v 0 1 by omega)) | skip
        refine wp_go 4 hM (fr' := (22, [some (.inr 30), some (.inl f), some (.inl d), some (.inl 0), some (.inl 0)], [], σ)) rfl ?_
        have loop22 : ∀ (fuel : Nat) (g : Int) (t : Int), (0 ≤ t) → (t ≤ (l.length : Int)) → (g = sumI t (fun i => b01 (hol v 1 (tg l i) (d % v 0 0) (d / v 0 0)))) → (((l.length : Int) - t : Int) < fuel) → mz_Wp shM none 155 (22, [some (.inr 30), some (.inl f), some (.inl d), some (.inl g), some (.inl t)], [], σ) (fun r σ' => r = some (many v l) ∧ σ' = σ) := by
          intro fuel
          induction fuel with
          | zero =>
            intro g t hv22_0 hv22_1 hv22_2 hf22
            exfalso
            omega
          | succ fuel ih22 =>
            intro g t hv22_0 hv22_1 hv22_2 hf22
            have hs2 : sumI (t + 1) (fun i => b01 (hol v 1 (tg l i) (d % v 0 0) (d / v 0 0))) = sumI t (fun i => b01 (hol v 1 (tg l i) (d % v 0 0) (d / v 0 0))) + b01 (hol v 1 (tg l t) (d % v 0 0) (d / v 0 0)) := sumI_s hv22_0
            have hb2 := sumI_bd (a := 0) (b := 1) (f := (fun i => b01 (hol v 1 (tg l i) (d % v 0 0) (d / v 0 0)))) hv22_0 (fun i _ _ => by rcases b01_01 (P := hol v 1 (tg l i) (d % v 0 0) (d / v 0 0)) with q | q <;> omega)
            refine wp_go 3 hM (fr' := (28, [some (.inr 30), some (.inl f), some (.inl d), some (.inl g), some (.inl t)], [.inl (σ 30 3), .inl t], σ)) rfl ?_
            refine wp_ic (tgt := 67) hM rfl (by decide) (by omega) (by omega) (fun c28 => ?_) (fun c28 => ?_)
            · replace c28 := cmp_ge_t c28
              first | (have hFH : FH v l (l.length : Int) (d % v 0 0) (d / v 0 0) = g := by unfold FH; rw [hv22_2, show t = (l.length : Int) by omega]) | skip
              refine wp_go 3 hM (fr' := (70, [some (.inr 30), some (.inl f), some (.inl d), some (.inl g), some (.inl t)], [.inl 1, .inl g, .inl f], σ)) rfl ?_
              refine wp_ic (tgt := 77) hM rfl (by decide) (by omega) (by omega) (fun c70 => ?_) (fun c70 => ?_)
              · replace c70 := cmp_le_t c70
                refine wp_go 5 hM (fr' := (4, [some (.inr 30), some (.inl (f + 0)), some (.inl (d + 1)), some (.inl g), some (.inl t)], [], σ)) rfl ?_
                exact ih4 (f + 0) (d + 1) (some (.inl g)) (some (.inl t)) (by omega) (by omega) (by first | (rw [hs, hFH]; first | (rw [b01_t (by omega)]; omega) | (rw [b01_f (by omega)]; omega)) | fail) (by omega)
              · replace c70 := cmp_le_f c70
                refine wp_go 6 hM (fr' := (4, [some (.inr 30), some (.inl (f + 1)), some (.inl (d + 1)), some (.inl g), some (.inl t)], [], σ)) rfl ?_
                exact ih4 (f + 1) (d + 1) (some (.inl g)) (some (.inl t)) (by omega) (by omega) (by first | (rw [hs, hFH]; first | (rw [b01_t (by omega)]; omega) | (rw [b01_f (by omega)]; omega)) | fail) (by omega)
            · replace c28 := cmp_ge_f c28
              refine wp_go 6 hM (fr' := (40, [some (.inr 30), some (.inl f), some (.inl d), some (.inl g), some (.inl t)], [.inl (σ 30 0), .inl d, .inl t, .inr 30, .inl g], σ)) rfl ?_
              refine wp_rem hM rfl (by omega) (by omega) (by omega) ?_
              first | (rw [hw1, (tdm hR hv4_0).1]) | skip
              refine wp_go 3 hM (fr' := (46, [some (.inr 30), some (.inl f), some (.inl d), some (.inl g), some (.inl t)], [.inl (σ 30 0), .inl d, .inl (d % v 0 0), .inl t, .inr 30, .inl g], σ)) rfl ?_
              refine wp_div hM rfl (by omega) (by omega) (by omega) ?_
              first | (rw [hw1, (tdm hR hv4_0).2]) | skip
              refine wp_go 1 hM (fr' := (48, [some (.inr 30), some (.inl f), some (.inl d), some (.inl g), some (.inl t)], [.inl 0, .inl (d / v 0 0), .inl (d % v 0 0), .inl t, .inr 30, .inl g], σ)) rfl ?_
              refine wp_calld (v := 0) (idx := 112) (j := 120) (N := mtX6_has) (as := [.inr 30, .inl t, .inl (d % v 0 0), .inl (d / v 0 0), .inl 0]) (rest := [.inl g]) hM rfl (Or.inl ⟨rfl, rfl⟩) rfl (sp_X6_has_0 v l σ t (d % v 0 0) (d / v 0 0) (by first | (first | assumption | omega) | fail) (by first | (first | assumption | omega) | fail) (by first | (first | assumption | omega) | fail) (by first | (first | assumption | omega) | fail) (by first | (first | assumption | omega) | fail)) ?_
              show mz_Wp shM none 155 (51, [some (.inr 30), some (.inl f), some (.inl d), some (.inl g), some (.inl t)], [.inl (b01 (hol v 1 (tg l t) (d % v 0 0) (d / v 0 0))), .inl g], σ) _
              refine wp_if (tgt := 58) hM rfl (by decide) b01_R (fun c51 => ?_) (fun c51 => ?_)
              · replace c51 := b01_eq0 (cmp_eq_t c51)
                refine wp_go 5 hM (fr' := (22, [some (.inr 30), some (.inl f), some (.inl d), some (.inl (g + 0)), some (.inl (t + 1))], [], σ)) rfl ?_
                exact ih22 (g + 0) (t + 1) (by omega) (by omega) (by first | (rw [hs2]; first | (rw [b01_t c51]; omega) | (rw [b01_f c51]; omega)) | fail) (by omega)
              · replace c51 := b01_ne0 (cmp_eq_f c51)
                refine wp_go 6 hM (fr' := (22, [some (.inr 30), some (.inl f), some (.inl d), some (.inl (g + 1)), some (.inl (t + 1))], [], σ)) rfl ?_
                exact ih22 (g + 1) (t + 1) (by omega) (by omega) (by first | (rw [hs2]; first | (rw [b01_t c51]; omega) | (rw [b01_f c51]; omega)) | fail) (by omega)
        exact loop22 65 0 0 (by omega) (by omega) (by rfl) (by omega)
  exact loop4 402 0 0 (none) (none) (by omega) (by omega) (by rfl) (by omega)

set_option maxRecDepth 100000 in
set_option maxHeartbeats 4000000 in
theorem sp_X6_count (v : mz_G) (l : List tr3) (σ : mz_G) (w : Int) (h0 : MA σ v l) (h1 : GO v l) (h2 : mz_R w) (h3 : EU v l) : mz_Cl shM 157 [.inr 30, .inl w] σ (fun r σ' => r = some (aCount v l w) ∧ MA σ' v l ∧ Fm σ σ') := by
  have hM : mz_meth[157]? = some mtX6_count := rfl
  obtain ⟨hB, hSd, ⟨hP0, hP1⟩, ⟨hC0, hC1'⟩, hVr, hn30, hl2⟩ := id h1
  obtain ⟨hR, hT, hLen⟩ := id hB
  obtain ⟨⟨hW0, hW1⟩, ⟨hH0, hH1⟩, ⟨hn0, hn1⟩, hpt⟩ := id hR
  obtain ⟨⟨⟨hc1, hc2, hc3⟩, hcp, hcv⟩, hc4, hct⟩ := id h0
  have hWH := WH_bd hR
  refine mz_Cl.of hM ?_
  show mz_Wp shM none 157 (0, [some (.inr 30), some (.inl w)], [], σ) _
  refine wp_go 1 hM (fr' := (1, [some (.inr 30), some (.inl w)], [.inl w], σ)) rfl ?_
  have hR1 : mz_R w := by omega
  rcases (show w = 0 ∨ w = 1 ∨ w = 2 ∨ w = 3 ∨ w = 4 ∨ w = 5 ∨ w = 6 ∨ w = 7 ∨ w = 8 ∨ w = 9 ∨ (w < 0 ∨ 9 < w) by omega) with c1 | c1 | c1 | c1 | c1 | c1 | c1 | c1 | c1 | c1 | c1
  · refine wp_tsi (tgt := 56) (off := 55) hM rfl hR1 (by omega) (by rw [c1]; rfl) (by decide) ?_
    refine wp_go 2 hM (fr' := (60, [some (.inr 30), some (.inl w)], [.inl (σ 30 0)], σ)) rfl ?_
    refine wp_ret hM rfl (rfl) ?_
    first | (exact ⟨by subst c1; show _ = some (v 0 0); rw [hc1], h0, Fm.rf⟩) | fail
  · refine wp_tsi (tgt := 61) (off := 60) hM rfl hR1 (by omega) (by rw [c1]; rfl) (by decide) ?_
    refine wp_go 2 hM (fr' := (65, [some (.inr 30), some (.inl w)], [.inl (σ 30 1)], σ)) rfl ?_
    refine wp_ret hM rfl (rfl) ?_
    first | (exact ⟨by subst c1; show _ = some (v 0 1); rw [hc2], h0, Fm.rf⟩) | fail
  · refine wp_tsi (tgt := 66) (off := 65) hM rfl hR1 (by omega) (by rw [c1]; rfl) (by decide) ?_
    refine wp_go 2 hM (fr' := (70, [some (.inr 30), some (.inl w)], [.inl (σ 30 2)], σ)) rfl ?_
    refine wp_ret hM rfl (rfl) ?_
    first | (exact ⟨by subst c1; show _ = some (v 0 2); rw [hc3], h0, Fm.rf⟩) | fail
  · refine wp_tsi (tgt := 71) (off := 70) hM rfl hR1 (by omega) (by rw [c1]; rfl) (by decide) ?_
    refine wp_go 2 hM (fr' := (75, [some (.inr 30), some (.inl w)], [.inl (σ 30 3)], σ)) rfl ?_
    refine wp_ret hM rfl (rfl) ?_
    first | (exact ⟨by subst c1; show _ = some (l.length : Int); rw [hc4], h0, Fm.rf⟩) | fail
  · refine wp_tsi (tgt := 76) (off := 75) hM rfl hR1 (by omega) (by rw [c1]; rfl) (by decide) ?_
    refine wp_go 2 hM (fr' := (78, [some (.inr 30), some (.inl w)], [.inl 0, .inr 30], σ)) rfl ?_
    refine wp_calld (v := 0) (idx := 205) (j := 154) (N := mtX6_edges) (as := [.inr 30, .inl 0]) (rest := []) hM rfl (Or.inl ⟨rfl, rfl⟩) rfl (sp_X6_edges_0 v l σ  (by first | (first | assumption | omega) | fail) (by first | (first | assumption | omega) | fail)) ?_
    show mz_Wp shM none 157 (81, [some (.inr 30), some (.inl w)], [.inl (eco (v 0 2) (fun a b => 0 < hld l a b))], σ) _
    refine wp_ret hM rfl (rfl) ?_
    first | (exact ⟨by subst c1; show _ = some (v 0 2 + (l.length : Int) - 1); rw [h3.1], h0, Fm.rf⟩) | fail
  · refine wp_tsi (tgt := 82) (off := 81) hM rfl hR1 (by omega) (by rw [c1]; rfl) (by decide) ?_
    refine wp_go 2 hM (fr' := (84, [some (.inr 30), some (.inl w)], [.inl 1, .inr 30], σ)) rfl ?_
    refine wp_calld (v := 0) (idx := 205) (j := 154) (N := mtX6_edges) (as := [.inr 30, .inl 1]) (rest := []) hM rfl (Or.inl ⟨rfl, rfl⟩) rfl (sp_X6_edges_1 v l σ  (by first | (first | assumption | omega) | fail) (by first | (first | assumption | omega) | fail)) ?_
    show mz_Wp shM none 157 (87, [some (.inr 30), some (.inl w)], [.inl (eco (v 0 2) (fun a b => rtt v l a b = 0))], σ) _
    refine wp_ret hM rfl (rfl) ?_
    first | (exact ⟨by subst c1; show _ = some (tsum v l); rw [h3.2], h0, Fm.rf⟩) | fail
  · refine wp_tsi (tgt := 88) (off := 87) hM rfl hR1 (by omega) (by rw [c1]; rfl) (by decide) ?_
    refine wp_go 1 hM (fr' := (89, [some (.inr 30), some (.inl w)], [.inr 30], σ)) rfl ?_
    refine wp_calld (v := 0) (idx := 185) (j := 141) (N := mtX6_moved) (as := [.inr 30]) (rest := []) hM rfl (Or.inl ⟨rfl, rfl⟩) rfl (sp_X6_moved v l σ  (by first | (first | assumption | omega) | fail) (by first | (first | assumption | omega) | fail)) ?_
    show mz_Wp shM none 157 (92, [some (.inr 30), some (.inl w)], [.inl (bkn v)], σ) _
    refine wp_ret hM rfl (rfl) ?_
    first | (exact ⟨by subst c1; rfl, h0, Fm.rf⟩) | fail
  · refine wp_tsi (tgt := 93) (off := 92) hM rfl hR1 (by omega) (by rw [c1]; rfl) (by decide) ?_
    refine wp_go 1 hM (fr' := (94, [some (.inr 30), some (.inl w)], [.inr 30], σ)) rfl ?_
    refine wp_calld (v := 0) (idx := 192) (j := 146) (N := mtX6_sum) (as := [.inr 30]) (rest := []) hM rfl (Or.inl ⟨rfl, rfl⟩) rfl (sp_X6_sum v l σ  (by first | (first | assumption | omega) | fail) (by first | (first | assumption | omega) | fail)) ?_
    show mz_Wp shM none 157 (97, [some (.inr 30), some (.inl w)], [.inl (vsum v)], σ) _
    refine wp_ret hM rfl (rfl) ?_
    first | (exact ⟨by subst c1; rfl, h0, Fm.rf⟩) | fail
  · refine wp_tsi (tgt := 98) (off := 97) hM rfl hR1 (by omega) (by rw [c1]; rfl) (by decide) ?_
    refine wp_go 1 hM (fr' := (99, [some (.inr 30), some (.inl w)], [.inr 30], σ)) rfl ?_
    refine wp_call (v := 0) (idx := 209) (j := 156) (N := mtX6_takenSum) (as := [.inr 30]) (rest := []) hM rfl (Or.inl ⟨rfl, rfl⟩) rfl (sp_X6_takenSum v l σ  (by first | (first | assumption | omega) | fail) (by first | (first | assumption | omega) | fail)) ?_
    rintro r0 σ_99 ⟨rfl, hf_99⟩
    show mz_Wp shM none 157 (102, [some (.inr 30), some (.inl w)], [.inl (ksum v l)], σ_99) _
    refine wp_ret hM rfl (rfl) ?_
    first | (exact ⟨by subst c1; rfl, MA_Fp h0 hf_99, Fm_Fp hf_99⟩) | fail
  · refine wp_tsi (tgt := 103) (off := 102) hM rfl hR1 (by omega) (by rw [c1]; rfl) (by decide) ?_
    refine wp_go 1 hM (fr' := (104, [some (.inr 30), some (.inl w)], [.inr 30], σ)) rfl ?_
    refine wp_calld (v := 0) (idx := 212) (j := 155) (N := mtX6_shared) (as := [.inr 30]) (rest := []) hM rfl (Or.inl ⟨rfl, rfl⟩) rfl (sp_X6_shared v l σ  (by first | (first | assumption | omega) | fail) (by first | (first | assumption | omega) | fail)) ?_
    show mz_Wp shM none 157 (107, [some (.inr 30), some (.inl w)], [.inl (many v l)], σ) _
    refine wp_ret hM rfl (rfl) ?_
    first | (exact ⟨by subst c1; rfl, h0, Fm.rf⟩) | fail
  · refine wp_tso (tgt := 108) hM rfl (by decide) hR1 c1 ?_
    refine wp_go 1 hM (fr' := (109, [some (.inr 30), some (.inl w)], [.inl (-1)], σ)) rfl ?_
    refine wp_ret hM rfl (rfl) ?_
    first | (exact ⟨by unfold aCount; rw [if_neg (show ¬ w = 0 by omega), if_neg (show ¬ w = 1 by omega), if_neg (show ¬ w = 2 by omega), if_neg (show ¬ w = 3 by omega), if_neg (show ¬ w = 4 by omega), if_neg (show ¬ w = 5 by omega), if_neg (show ¬ w = 6 by omega), if_neg (show ¬ w = 7 by omega), if_neg (show ¬ w = 8 by omega), if_neg (show ¬ w = 9 by omega)], h0, Fm.rf⟩) | fail

set_option maxRecDepth 100000 in
set_option maxHeartbeats 4000000 in
theorem sp_X6_knot (v : mz_G) (l : List tr3) (σ : mz_G) (k : Int) (w : Int) (h0 : MA σ v l) (h1 : GO v l) (h2 : mz_R k) (h3 : mz_R w) : mz_Cl shM 149 [.inr 30, .inl k, .inl w] σ (fun r σ' => r = some (aKnot v l k w) ∧ MA σ' v l ∧ Fm σ σ') := by
  have hM : mz_meth[149]? = some mtX6_knot := rfl
  obtain ⟨hB, hSd, ⟨hP0, hP1⟩, ⟨hC0, hC1'⟩, hVr, hn30, hl2⟩ := id h1
  obtain ⟨hR, hT, hLen⟩ := id hB
  obtain ⟨⟨hW0, hW1⟩, ⟨hH0, hH1⟩, ⟨hn0, hn1⟩, hpt⟩ := id hR
  obtain ⟨⟨⟨hc1, hc2, hc3⟩, hcp, hcv⟩, hc4, hct⟩ := id h0
  have hWH := WH_bd hR
  refine mz_Cl.of hM ?_
  show mz_Wp shM none 149 (0, [some (.inr 30), some (.inl k), some (.inl w)], [], σ) _
  refine wp_go 2 hM (fr' := (2, [some (.inr 30), some (.inl k), some (.inl w)], [.inl k, .inr 30], σ)) rfl ?_
  refine wp_calld (v := 0) (idx := 151) (j := 123) (N := mtX6_isKnot) (as := [.inr 30, .inl k]) (rest := []) hM rfl (Or.inl ⟨rfl, rfl⟩) rfl (sp_X6_isKnot v l σ k (by first | (first | assumption | omega) | fail) (by first | (first | assumption | omega) | fail) (by first | (first | assumption | omega) | fail)) ?_
  show mz_Wp shM none 149 (5, [some (.inr 30), some (.inl k), some (.inl w)], [.inl (b01 (isk v k))], σ) _
  refine wp_if (tgt := 10) hM rfl (by decide) b01_R (fun c5 => ?_) (fun c5 => ?_)
  · replace c5 := b01_ne0 (cmp_ne_t c5)
    first | (have hk := MA_pt h0 c5.1 c5.2) | skip
    first | (have hDs := Pos_Dst hP0) | skip
    first | (have hk1 := c5.1) | skip
    first | (have hk2 := c5.2) | skip
    refine wp_go 1 hM (fr' := (11, [some (.inr 30), some (.inl k), some (.inl w)], [.inl w], σ)) rfl ?_
    have hR11 : mz_R w := by omega
    rcases (show w = 0 ∨ w = 1 ∨ w = 2 ∨ w = 3 ∨ w = 4 ∨ w = 5 ∨ (w < 0 ∨ 5 < w) by omega) with c11 | c11 | c11 | c11 | c11 | c11 | c11
    · refine wp_tsi (tgt := 48) (off := 37) hM rfl hR11 (by omega) (by rw [c11]; rfl) (by decide) ?_
      refine wp_go 3 hM (fr' := (53, [some (.inr 30), some (.inl k), some (.inl w)], [.inl k, .inr 31], σ)) rfl ?_
      refine wp_al (n := 31) hM rfl (by decide) rfl (by omega) (by omega) ?_
      first | (rw [hk.1]) | skip
      refine wp_ret hM rfl (rfl) ?_
      first | (exact ⟨by subst c11; unfold aKnot; rw [if_neg (show ¬ ¬ isk v k from fun z => z c5)]; rfl, h0, Fm.rf⟩) | fail
    · refine wp_tsi (tgt := 55) (off := 44) hM rfl hR11 (by omega) (by rw [c11]; rfl) (by decide) ?_
      refine wp_go 3 hM (fr' := (60, [some (.inr 30), some (.inl k), some (.inl w)], [.inl k, .inr 32], σ)) rfl ?_
      refine wp_al (n := 31) hM rfl (by decide) rfl (by omega) (by omega) ?_
      first | (rw [hk.2.1]) | skip
      refine wp_ret hM rfl (rfl) ?_
      first | (exact ⟨by subst c11; unfold aKnot; rw [if_neg (show ¬ ¬ isk v k from fun z => z c5)]; rfl, h0, Fm.rf⟩) | fail
    · refine wp_tsi (tgt := 62) (off := 51) hM rfl hR11 (by omega) (by rw [c11]; rfl) (by decide) ?_
      refine wp_go 3 hM (fr' := (67, [some (.inr 30), some (.inl k), some (.inl w)], [.inl k, .inr 33], σ)) rfl ?_
      refine wp_al (n := 31) hM rfl (by decide) rfl (by omega) (by omega) ?_
      first | (rw [hk.2.2.1]) | skip
      refine wp_ret hM rfl (rfl) ?_
      first | (exact ⟨by subst c11; unfold aKnot; rw [if_neg (show ¬ ¬ isk v k from fun z => z c5)]; rfl, h0, Fm.rf⟩) | fail
    · refine wp_tsi (tgt := 69) (off := 58) hM rfl hR11 (by omega) (by rw [c11]; rfl) (by decide) ?_
      refine wp_go 3 hM (fr' := (74, [some (.inr 30), some (.inl k), some (.inl w)], [.inl k, .inr 34], σ)) rfl ?_
      refine wp_al (n := 31) hM rfl (by decide) rfl (by omega) (by omega) ?_
      first | (rw [hk.2.2.2]) | skip
      refine wp_ret hM rfl (rfl) ?_
      first | (exact ⟨by subst c11; unfold aKnot; rw [if_neg (show ¬ ¬ isk v k from fun z => z c5)]; rfl, h0, Fm.rf⟩) | fail
    · refine wp_tsi (tgt := 76) (off := 65) hM rfl hR11 (by omega) (by rw [c11]; rfl) (by decide) ?_
      refine wp_go 2 hM (fr' := (78, [some (.inr 30), some (.inl k), some (.inl w)], [.inl k, .inr 30], σ)) rfl ?_
      refine wp_calld (v := 0) (idx := 170) (j := 135) (N := mtX6_trianglesOf) (as := [.inr 30, .inl k]) (rest := []) hM rfl (Or.inl ⟨rfl, rfl⟩) rfl (sp_X6_trianglesOf v l σ k (by first | (first | assumption | omega) | fail) (by first | (first | assumption | omega) | fail) (by first | (first | assumption | omega) | fail) (by first | (first | assumption | omega) | fail)) ?_
      show mz_Wp shM none 149 (81, [some (.inr 30), some (.inl k), some (.inl w)], [.inl (dgr l k)], σ) _
      refine wp_ret hM rfl (rfl) ?_
      first | (exact ⟨by subst c11; unfold aKnot; rw [if_neg (show ¬ ¬ isk v k from fun z => z c5)]; rfl, h0, Fm.rf⟩) | fail
    · refine wp_tsi (tgt := 82) (off := 71) hM rfl hR11 (by omega) (by rw [c11]; rfl) (by decide) ?_
      refine wp_go 2 hM (fr' := (84, [some (.inr 30), some (.inl k), some (.inl w)], [.inl k, .inr 30], σ)) rfl ?_
      refine wp_calld (v := 0) (idx := 173) (j := 136) (N := mtX6_kindOf) (as := [.inr 30, .inl k]) (rest := []) hM rfl (Or.inl ⟨rfl, rfl⟩) rfl (sp_X6_kindOf v l σ k (by first | (first | assumption | omega) | fail) (by first | (first | assumption | omega) | fail) (by first | (first | assumption | omega) | fail) (by first | (first | assumption | omega) | fail)) ?_
      show mz_Wp shM none 149 (87, [some (.inr 30), some (.inl k), some (.inl w)], [.inl (kind v k)], σ) _
      refine wp_ret hM rfl (rfl) ?_
      first | (exact ⟨by subst c11; unfold aKnot; rw [if_neg (show ¬ ¬ isk v k from fun z => z c5)]; rfl, h0, Fm.rf⟩) | fail
    · refine wp_tso (tgt := 88) hM rfl (by decide) hR11 c11 ?_
      refine wp_go 1 hM (fr' := (89, [some (.inr 30), some (.inl k), some (.inl w)], [.inl (-1)], σ)) rfl ?_
      refine wp_ret hM rfl (rfl) ?_
      first | (exact ⟨by unfold aKnot; rw [if_neg (show ¬ ¬ isk v k from fun z => z c5), if_neg (show ¬ w = 0 by omega), if_neg (show ¬ w = 1 by omega), if_neg (show ¬ w = 2 by omega), if_neg (show ¬ w = 3 by omega), if_neg (show ¬ w = 4 by omega), if_neg (show ¬ w = 5 by omega)], h0, Fm.rf⟩) | fail
  · replace c5 := b01_eq0 (cmp_ne_f c5)
    refine wp_go 1 hM (fr' := (9, [some (.inr 30), some (.inl k), some (.inl w)], [.inl (-1)], σ)) rfl ?_
    refine wp_ret hM rfl (rfl) ?_
    first | (exact ⟨by unfold aKnot; rw [if_pos c5], h0, Fm.rf⟩) | fail
