set_option maxRecDepth 100000 in
set_option maxHeartbeats 4000000 in
theorem sp_X6_blend (v : mz_G) (l : List tr3) (σ : mz_G) (x : Int) (y : Int) (w : Int) (h0 : MA σ v l) (h1 : GO v l) (h2 : mz_R x) (h3 : mz_R y) (h4 : mz_R w) : mz_Cl shM 167 [.inr 30, .inl x, .inl y, .inl w] σ (fun r σ' => r = some (aBlend v l x y w) ∧ MA σ' v l ∧ Fm σ σ') := by
  have hM : mz_meth[167]? = some mtX6_blend := rfl
  obtain ⟨hB, hSd, ⟨hP0, hP1⟩, ⟨hC0, hC1'⟩, hVr, hn30, hl2⟩ := id h1
  obtain ⟨hR, hT, hLen⟩ := id hB
  obtain ⟨⟨hW0, hW1⟩, ⟨hH0, hH1⟩, ⟨hn0, hn1⟩, hpt⟩ := id hR
  obtain ⟨⟨⟨hc1, hc2, hc3⟩, hcp, hcv⟩, hc4, hct⟩ := id h0
  have hWH := WH_bd hR
  refine mz_Cl.of hM ?_
  show mz_Wp shM none 167 (0, [some (.inr 30), some (.inl x), some (.inl y), some (.inl w), none, none, none, none, none, none, none], [], σ) _
  refine wp_go 3 hM (fr' := (3, [some (.inr 30), some (.inl x), some (.inl y), some (.inl w), none, none, none, none, none, none, none], [.inl y, .inl x, .inr 30], σ)) rfl ?_
  refine wp_calld (v := 0) (idx := 120) (j := 122) (N := mtX6_isDot) (as := [.inr 30, .inl x, .inl y]) (rest := []) hM rfl (Or.inl ⟨rfl, rfl⟩) rfl (sp_X6_isDot v l σ x y (by first | (first | assumption | omega) | fail) (by first | (first | assumption | omega) | fail) (by first | (first | assumption | omega) | fail) (by first | (first | assumption | omega) | fail)) ?_
  show mz_Wp shM none 167 (6, [some (.inr 30), some (.inl x), some (.inl y), some (.inl w), none, none, none, none, none, none, none], [.inl (b01 (dot v x y))], σ) _
  refine wp_if (tgt := 18) hM rfl (by decide) b01_R (fun c6 => ?_) (fun c6 => ?_)
  · replace c6 := b01_eq0 (cmp_eq_t c6)
    refine wp_go 1 hM (fr' := (19, [some (.inr 30), some (.inl x), some (.inl y), some (.inl w), none, none, none, none, none, none, none], [.inl (-1)], σ)) rfl ?_
    refine wp_ret hM rfl (rfl) ?_
    first | (exact ⟨by unfold aBlend; first | rw [if_pos (Or.inl c6)] | rw [if_pos (Or.inr (by omega))], h0, Fm.rf⟩) | fail
  · replace c6 := b01_ne0 (cmp_eq_f c6)
    first | (have hfb := f_bd hB (q := 1) (by decide) hP1 hC1' c6) | skip
    first | (have hbb : fB v l 1 x y * fB v l 1 x y ≤ 722 * 722 := Int.mul_le_mul hfb.2.2.1.2 hfb.2.2.1.2 (by omega) (by omega)) | skip
    first | (have hb0 : 0 < fB v l 1 x y * fB v l 1 x y := Int.mul_pos hfb.2.2.1.1 hfb.2.2.1.1) | skip
    refine wp_go 3 hM (fr' := (12, [some (.inr 30), some (.inl x), some (.inl y), some (.inl w), none, none, none, none, none, none, none], [.inl 1, .inl 0, .inl w], σ)) rfl ?_
    refine wp_calld (v := 1) (idx := 116) (j := 103) (N := mtX6_isIn) (as := [.inl w, .inl 0, .inl 1]) (rest := []) hM rfl (Or.inr ⟨rfl, rfl⟩) rfl (sp_X6_isIn  σ w 0 1 (by first | (first | assumption | omega) | fail) (by first | (first | assumption | omega) | fail) (by first | (first | assumption | omega) | fail)) ?_
    show mz_Wp shM none 167 (15, [some (.inr 30), some (.inl x), some (.inl y), some (.inl w), none, none, none, none, none, none, none], [.inl (b01 (0 ≤ w ∧ w ≤ 1))], σ) _
    refine wp_if (tgt := 20) hM rfl (by decide) b01_R (fun c15 => ?_) (fun c15 => ?_)
    · replace c15 := b01_ne0 (cmp_ne_t c15)
      refine wp_go 4 hM (fr' := (24, [some (.inr 30), some (.inl x), some (.inl y), some (.inl w), none, none, none, none, none, none, none], [.inl 0, .inl y, .inl x, .inr 30], σ)) rfl ?_
      refine wp_call (v := 0) (idx := 227) (j := 159) (N := mtX6_finds) (as := [.inr 30, .inl x, .inl y, .inl 0]) (rest := []) hM rfl (Or.inl ⟨rfl, rfl⟩) rfl (sp_X6_finds_0 v l σ x y (by first | (first | assumption | omega) | fail) (by first | (first | assumption | omega) | fail) (by first | (first | assumption | omega) | fail)) ?_
      rintro r0 σ_24 ⟨rfl, hx_24, hf_24⟩
      show mz_Wp shM none 167 (27, [some (.inr 30), some (.inl x), some (.inl y), some (.inl w), none, none, none, none, none, none, none], [], σ_24) _
      first | (obtain ⟨e1, e2, e3⟩ := id hx_24) | skip
      first | (have hA24 := MA_Fp h0 hf_24) | skip
      first | (have hw24 : σ_24 30 0 = v 0 0 := hA24.1.1.1) | skip
      refine wp_go 4 hM (fr' := (35, [some (.inr 30), some (.inl x), some (.inl y), some (.inl w), none, none, none, none, none, none, none], [.inl (σ_24 30 22), .inl (σ_24 30 20)], σ_24)) rfl ?_
      refine wp_div hM rfl (by omega) (by omega) (by omega) ?_
      first | (rw [e1, e3]) | skip
      refine wp_go 5 hM (fr' := (46, [some (.inr 30), some (.inl x), some (.inl y), some (.inl w), some (.inl ((fX v l 1 x y).tdiv (fB v l 1 x y))), none, none, none, none, none, none], [.inl (σ_24 30 22), .inl (σ_24 30 21)], σ_24)) rfl ?_
      refine wp_div hM rfl (by omega) (by omega) (by omega) ?_
      first | (rw [e2, e3]) | skip
      refine wp_go 5 hM (fr' := (57, [some (.inr 30), some (.inl x), some (.inl y), some (.inl w), some (.inl ((fX v l 1 x y).tdiv (fB v l 1 x y))), some (.inl ((fY v l 1 x y).tdiv (fB v l 1 x y))), none, none, none, none, none], [.inl (σ_24 30 22), .inl (σ_24 30 20)], σ_24)) rfl ?_
      refine wp_rem hM rfl (by omega) (by omega) (by omega) ?_
      first | (rw [e1, e3]) | skip
      refine wp_go 5 hM (fr' := (68, [some (.inr 30), some (.inl x), some (.inl y), some (.inl w), some (.inl ((fX v l 1 x y).tdiv (fB v l 1 x y))), some (.inl ((fY v l 1 x y).tdiv (fB v l 1 x y))), some (.inl ((fX v l 1 x y).tmod (fB v l 1 x y))), none, none, none, none], [.inl (σ_24 30 22), .inl (σ_24 30 21)], σ_24)) rfl ?_
      refine wp_rem hM rfl (by omega) (by omega) (by omega) ?_
      first | (rw [e2, e3]) | skip
      refine wp_go 5 hM (fr' := (77, [some (.inr 30), some (.inl x), some (.inl y), some (.inl w), some (.inl ((fX v l 1 x y).tdiv (fB v l 1 x y))), some (.inl ((fY v l 1 x y).tdiv (fB v l 1 x y))), some (.inl ((fX v l 1 x y).tmod (fB v l 1 x y))), some (.inl ((fY v l 1 x y).tmod (fB v l 1 x y))), some (.inl 0), some (.inl 0), none], [], σ_24)) rfl ?_
      have loop77 : ∀ (fuel : Nat) (f : Int) (k : Int) (d77_10 : Option mz_V), (0 ≤ k) → (k ≤ 4) → (f = sumI k (bt v (fX v l 1 x y) (fY v l 1 x y) (fB v l 1 x y))) → (0 ≤ f ∧ f ≤ k * (15 * (722 * 722))) → ((4 - k : Int) < fuel) → mz_Wp shM none 167 (77, [some (.inr 30), some (.inl x), some (.inl y), some (.inl w), some (.inl ((fX v l 1 x y).tdiv (fB v l 1 x y))), some (.inl ((fY v l 1 x y).tdiv (fB v l 1 x y))), some (.inl ((fX v l 1 x y).tmod (fB v l 1 x y))), some (.inl ((fY v l 1 x y).tmod (fB v l 1 x y))), some (.inl f), some (.inl k), d77_10], [], σ_24) (fun r σ' => r = some (aBlend v l x y w) ∧ MA σ' v l ∧ Fm σ σ') := by
        intro fuel
        induction fuel with
        | zero =>
          intro f k d77_10 hv77_0 hv77_1 hv77_2 hv77_3 hf77
          exfalso
          omega
        | succ fuel ih77 =>
          intro f k d77_10 hv77_0 hv77_1 hv77_2 hv77_3 hf77
          have hs : sumI (k + 1) (bt v (fX v l 1 x y) (fY v l 1 x y) (fB v l 1 x y)) = sumI k (bt v (fX v l 1 x y) (fY v l 1 x y) (fB v l 1 x y)) + bt v (fX v l 1 x y) (fY v l 1 x y) (fB v l 1 x y) k := sumI_s hv77_0
          have hwn := bw_nn (x := (fX v l 1 x y)) (y := (fY v l 1 x y)) (b := (fB v l 1 x y)) (k := k) hfb.1.1 hfb.2.1.1 hfb.2.2.1.1
          have hk2 : k.tmod 2 = 0 ∨ k.tmod 2 = 1 := by rcases (show k = 0 ∨ k = 1 ∨ k = 2 ∨ k = 3 ∨ k = 4 by omega) with rfl | rfl | rfl | rfl | rfl <;> decide
          have hbw : bw (fX v l 1 x y) (fY v l 1 x y) (fB v l 1 x y) k = (if k.tmod 2 = 0 then (fB v l 1 x y) - (fX v l 1 x y).tmod (fB v l 1 x y) else (fX v l 1 x y).tmod (fB v l 1 x y)) * (if k < 2 then (fB v l 1 x y) - (fY v l 1 x y).tmod (fB v l 1 x y) else (fY v l 1 x y).tmod (fB v l 1 x y)) := rfl
          refine wp_go 2 hM (fr' := (80, [some (.inr 30), some (.inl x), some (.inl y), some (.inl w), some (.inl ((fX v l 1 x y).tdiv (fB v l 1 x y))), some (.inl ((fY v l 1 x y).tdiv (fB v l 1 x y))), some (.inl ((fX v l 1 x y).tmod (fB v l 1 x y))), some (.inl ((fY v l 1 x y).tmod (fB v l 1 x y))), some (.inl f), some (.inl k), d77_10], [.inl 4, .inl k], σ_24)) rfl ?_
          refine wp_ic (tgt := 167) hM rfl (by decide) (by omega) (by omega) (fun c80 => ?_) (fun c80 => ?_)
          · replace c80 := cmp_ge_t c80
            first | (have hfE : f = blS v l x y := by rw [hv77_2, show k = 4 by omega, bt_sum hR hfb.1.1 hfb.2.1.1 hfb.2.2.1.1 hfb.2.2.2.1 hfb.2.2.2.2]; rfl) | skip
            first | (have he33 : σ_24 30 22 * σ_24 30 22 = fB v l 1 x y * fB v l 1 x y := by rw [e3]) | skip
            first | (have hgp := gcd_pos (a := f) (show 0 < σ_24 30 22 * σ_24 30 22 by omega)) | skip
            first | (have hgl := gcd_le hv77_3.1 (show 0 ≤ σ_24 30 22 * σ_24 30 22 by omega)) | skip
            refine wp_go 6 hM (fr' := (178, [some (.inr 30), some (.inl x), some (.inl y), some (.inl w), some (.inl ((fX v l 1 x y).tdiv (fB v l 1 x y))), some (.inl ((fY v l 1 x y).tdiv (fB v l 1 x y))), some (.inl ((fX v l 1 x y).tmod (fB v l 1 x y))), some (.inl ((fY v l 1 x y).tmod (fB v l 1 x y))), some (.inl f), some (.inl k), d77_10], [.inl ((σ_24 30 22) * (σ_24 30 22)), .inl f], σ_24)) rfl ?_
            refine wp_calld (v := 1) (idx := 224) (j := 158) (N := mtX6_common) (as := [.inl f, .inl ((σ_24 30 22) * (σ_24 30 22))]) (rest := []) hM rfl (Or.inr ⟨rfl, rfl⟩) rfl (sp_X6_common  σ_24 f ((σ_24 30 22) * (σ_24 30 22)) (by omega) (by omega) (by omega) (by omega)) ?_
            show mz_Wp shM none 167 (181, [some (.inr 30), some (.inl x), some (.inl y), some (.inl w), some (.inl ((fX v l 1 x y).tdiv (fB v l 1 x y))), some (.inl ((fY v l 1 x y).tdiv (fB v l 1 x y))), some (.inl ((fX v l 1 x y).tmod (fB v l 1 x y))), some (.inl ((fY v l 1 x y).tmod (fB v l 1 x y))), some (.inl f), some (.inl k), d77_10], [.inl (Int.gcd f ((σ_24 30 22) * (σ_24 30 22)) : Int)], σ_24) _
            refine wp_go 2 hM (fr' := (184, [some (.inr 30), some (.inl x), some (.inl y), some (.inl w), some (.inl ((fX v l 1 x y).tdiv (fB v l 1 x y))), some (.inl ((fY v l 1 x y).tdiv (fB v l 1 x y))), some (.inl ((fX v l 1 x y).tmod (fB v l 1 x y))), some (.inl ((fY v l 1 x y).tmod (fB v l 1 x y))), some (.inl f), some (.inl (Int.gcd f ((σ_24 30 22) * (σ_24 30 22)) : Int)), d77_10], [.inl w], σ_24)) rfl ?_
            refine wp_if (tgt := 192) hM rfl (by decide) (by omega) (fun c184 => ?_) (fun c184 => ?_)
            · replace c184 := cmp_ne_t c184
              refine wp_go 6 hM (fr' := (203, [some (.inr 30), some (.inl x), some (.inl y), some (.inl w), some (.inl ((fX v l 1 x y).tdiv (fB v l 1 x y))), some (.inl ((fY v l 1 x y).tdiv (fB v l 1 x y))), some (.inl ((fX v l 1 x y).tmod (fB v l 1 x y))), some (.inl ((fY v l 1 x y).tmod (fB v l 1 x y))), some (.inl f), some (.inl (Int.gcd f ((σ_24 30 22) * (σ_24 30 22)) : Int)), d77_10], [.inl (Int.gcd f ((σ_24 30 22) * (σ_24 30 22)) : Int), .inl ((σ_24 30 22) * (σ_24 30 22))], σ_24)) rfl ?_
              refine wp_div hM rfl (by omega) (by omega) (by omega) ?_
              refine wp_ret hM rfl (rfl) ?_
              first | (exact ⟨by unfold aBlend; rw [if_neg (by intro q; rcases q with q | q; exact q c6; omega), ← shq_div hgp, e3, ← hfE]; first | rw [if_pos c184] | rw [if_neg c184], hA24, Fm_Fp hf_24⟩) | fail
            · replace c184 := cmp_ne_f c184
              refine wp_go 3 hM (fr' := (203, [some (.inr 30), some (.inl x), some (.inl y), some (.inl w), some (.inl ((fX v l 1 x y).tdiv (fB v l 1 x y))), some (.inl ((fY v l 1 x y).tdiv (fB v l 1 x y))), some (.inl ((fX v l 1 x y).tmod (fB v l 1 x y))), some (.inl ((fY v l 1 x y).tmod (fB v l 1 x y))), some (.inl f), some (.inl (Int.gcd f ((σ_24 30 22) * (σ_24 30 22)) : Int)), d77_10], [.inl (Int.gcd f ((σ_24 30 22) * (σ_24 30 22)) : Int), .inl f], σ_24)) rfl ?_
              refine wp_div hM rfl (by omega) (by omega) (by omega) ?_
              refine wp_ret hM rfl (rfl) ?_
              first | (exact ⟨by unfold aBlend; rw [if_neg (by intro q; rcases q with q | q; exact q c6; omega), ← shq_div hgp, e3, ← hfE]; first | rw [if_pos c184] | rw [if_neg c184], hA24, Fm_Fp hf_24⟩) | fail
          · replace c80 := cmp_ge_f c80
            refine wp_go 2 hM (fr' := (86, [some (.inr 30), some (.inl x), some (.inl y), some (.inl w), some (.inl ((fX v l 1 x y).tdiv (fB v l 1 x y))), some (.inl ((fY v l 1 x y).tdiv (fB v l 1 x y))), some (.inl ((fX v l 1 x y).tmod (fB v l 1 x y))), some (.inl ((fY v l 1 x y).tmod (fB v l 1 x y))), some (.inl f), some (.inl k), d77_10], [.inl 2, .inl k], σ_24)) rfl ?_
            refine wp_rem hM rfl (by omega) (by omega) (by omega) ?_
            refine wp_if (tgt := 100) hM rfl (by decide) (by omega) (fun c87 => ?_) (fun c87 => ?_)
            · replace c87 := cmp_ne_t c87
              refine wp_go 3 hM (fr' := (105, [some (.inr 30), some (.inl x), some (.inl y), some (.inl w), some (.inl ((fX v l 1 x y).tdiv (fB v l 1 x y))), some (.inl ((fY v l 1 x y).tdiv (fB v l 1 x y))), some (.inl ((fX v l 1 x y).tmod (fB v l 1 x y))), some (.inl ((fY v l 1 x y).tmod (fB v l 1 x y))), some (.inl f), some (.inl k), d77_10], [.inl 2, .inl k, .inl ((fX v l 1 x y).tmod (fB v l 1 x y))], σ_24)) rfl ?_
              refine wp_ic (tgt := 118) hM rfl (by decide) (by omega) (by omega) (fun c105 => ?_) (fun c105 => ?_)
              · replace c105 := cmp_ge_t c105
                refine wp_go 4 hM (fr' := (125, [some (.inr 30), some (.inl x), some (.inl y), some (.inl w), some (.inl ((fX v l 1 x y).tdiv (fB v l 1 x y))), some (.inl ((fY v l 1 x y).tdiv (fB v l 1 x y))), some (.inl ((fX v l 1 x y).tmod (fB v l 1 x y))), some (.inl ((fY v l 1 x y).tmod (fB v l 1 x y))), some (.inl f), some (.inl k), some (.inl (((fX v l 1 x y).tmod (fB v l 1 x y)) * ((fY v l 1 x y).tmod (fB v l 1 x y))))], [.inl (((fX v l 1 x y).tmod (fB v l 1 x y)) * ((fY v l 1 x y).tmod (fB v l 1 x y)))], σ_24)) rfl ?_
                refine wp_if (tgt := 161) hM rfl (by decide) (by first | ((first | rw [e3] | skip); have hwk := hwn; rw [hbw] at hwk; (first | rw [if_pos c87] at hwk | rw [if_neg c87] at hwk); (first | rw [if_pos c105] at hwk | rw [if_neg (show ¬ k < 2 by omega)] at hwk); omega) | fail) (fun c125 => ?_) (fun c125 => ?_)
                · replace c125 := cmp_le_t c125
                  first | (rw [e3] at c125) | skip
                  first | (have hwk : bw (fX v l 1 x y) (fY v l 1 x y) (fB v l 1 x y) k = (if k.tmod 2 = 0 then (fB v l 1 x y) - (fX v l 1 x y).tmod (fB v l 1 x y) else (fX v l 1 x y).tmod (fB v l 1 x y)) * (if k < 2 then (fB v l 1 x y) - (fY v l 1 x y).tmod (fB v l 1 x y) else (fY v l 1 x y).tmod (fB v l 1 x y)) := rfl) | skip
                  first | (have hin0 : bw (fX v l 1 x y) (fY v l 1 x y) (fB v l 1 x y) k ≤ 0 := by rw [hwk]; (first | rw [if_pos c87] | rw [if_neg c87]); (first | rw [if_pos c105] | rw [if_neg (show ¬ k < 2 by omega)]); exact c125) | skip
                  first | (have hbt : bt v (fX v l 1 x y) (fY v l 1 x y) (fB v l 1 x y) k = 0 := by unfold bt; rw [if_neg (by omega)]) | skip
                  refine wp_go 2 hM (fr' := (77, [some (.inr 30), some (.inl x), some (.inl y), some (.inl w), some (.inl ((fX v l 1 x y).tdiv (fB v l 1 x y))), some (.inl ((fY v l 1 x y).tdiv (fB v l 1 x y))), some (.inl ((fX v l 1 x y).tmod (fB v l 1 x y))), some (.inl ((fY v l 1 x y).tmod (fB v l 1 x y))), some (.inl f), some (.inl (k + 1)), some (.inl (((fX v l 1 x y).tmod (fB v l 1 x y)) * ((fY v l 1 x y).tmod (fB v l 1 x y))))], [], σ_24)) rfl ?_
                  exact ih77 f (k + 1) (some (.inl (((fX v l 1 x y).tmod (fB v l 1 x y)) * ((fY v l 1 x y).tmod (fB v l 1 x y))))) (by omega) (by omega) (by first | ((first | rw [e3] | skip); rw [hs, hbt, hv77_2]; first | (congr 1; rw [hwk]; (first | rw [if_pos c87] | rw [if_neg c87]); (first | rw [if_pos c105] | rw [if_neg (show ¬ k < 2 by omega)])) | omega) | fail) (by first | (first | omega | (have hq := hbt2; rw [hbt, hwk] at hq; (first | rw [e3] | skip); (first | rw [if_pos c87] at hq | rw [if_neg c87] at hq); (first | rw [if_pos c105] at hq | rw [if_neg (show ¬ k < 2 by omega)] at hq); omega)) | fail) (by omega)
                · replace c125 := cmp_le_f c125
                  first | (rw [e3] at c125) | skip
                  first | (have hwk : bw (fX v l 1 x y) (fY v l 1 x y) (fB v l 1 x y) k = (if k.tmod 2 = 0 then (fB v l 1 x y) - (fX v l 1 x y).tmod (fB v l 1 x y) else (fX v l 1 x y).tmod (fB v l 1 x y)) * (if k < 2 then (fB v l 1 x y) - (fY v l 1 x y).tmod (fB v l 1 x y) else (fY v l 1 x y).tmod (fB v l 1 x y)) := rfl) | skip
                  first | (have hin0 : 0 < bw (fX v l 1 x y) (fY v l 1 x y) (fB v l 1 x y) k := by rw [hwk]; (first | rw [if_pos c87] | rw [if_neg c87]); (first | rw [if_pos c105] | rw [if_neg (show ¬ k < 2 by omega)]); exact c125) | skip
                  first | (have hin := bt_in hR hfb.1.1 hfb.2.1.1 hfb.2.2.1.1 hfb.2.2.2.1 hfb.2.2.2.2 hv77_0 (by omega) hin0) | skip
                  first | (have hdi := dn_in hR hin) | skip
                  first | (have hidx : (σ_24 30 0) * ((fY v l 1 x y).tdiv (fB v l 1 x y) + k.tdiv 2) + (fX v l 1 x y).tdiv (fB v l 1 x y) + k.tmod 2 = ((fY v l 1 x y).tdiv (fB v l 1 x y) + k.tdiv 2) * v 0 0 + ((fX v l 1 x y).tdiv (fB v l 1 x y) + k.tmod 2) := by rw [hw24, Int.mul_comm]; omega) | skip
                  first | (have hvb := hVr _ hdi.1 hdi.2.1) | skip
                  first | (have hbt : bt v (fX v l 1 x y) (fY v l 1 x y) (fB v l 1 x y) k = bw (fX v l 1 x y) (fY v l 1 x y) (fB v l 1 x y) k * v 6 (((fY v l 1 x y).tdiv (fB v l 1 x y) + k.tdiv 2) * v 0 0 + ((fX v l 1 x y).tdiv (fB v l 1 x y) + k.tmod 2)).toNat := by unfold bt bv; rw [if_pos hin0, ← hidx, hw24]) | skip
                  first | (have hbt2 : 0 ≤ bt v (fX v l 1 x y) (fY v l 1 x y) (fB v l 1 x y) k ∧ bt v (fX v l 1 x y) (fY v l 1 x y) (fB v l 1 x y) k ≤ 15 * (722 * 722) := by rw [hbt]; have m := mul_bd (a := bw (fX v l 1 x y) (fY v l 1 x y) (fB v l 1 x y) k) (b := v 6 (((fY v l 1 x y).tdiv (fB v l 1 x y) + k.tdiv 2) * v 0 0 + ((fX v l 1 x y).tdiv (fB v l 1 x y) + k.tmod 2)).toNat) (m := 722 * 722) (k := 15) (by omega) (by omega) (by omega) (by omega); have m2 := Int.mul_nonneg hwn.1 hvb.1; constructor <;> omega) | skip
                  refine wp_go 9 hM (fr' := (145, [some (.inr 30), some (.inl x), some (.inl y), some (.inl w), some (.inl ((fX v l 1 x y).tdiv (fB v l 1 x y))), some (.inl ((fY v l 1 x y).tdiv (fB v l 1 x y))), some (.inl ((fX v l 1 x y).tmod (fB v l 1 x y))), some (.inl ((fY v l 1 x y).tmod (fB v l 1 x y))), some (.inl f), some (.inl k), some (.inl (((fX v l 1 x y).tmod (fB v l 1 x y)) * ((fY v l 1 x y).tmod (fB v l 1 x y))))], [.inl 2, .inl k, .inl ((fY v l 1 x y).tdiv (fB v l 1 x y)), .inl (σ_24 30 0), .inr 36, .inl (((fX v l 1 x y).tmod (fB v l 1 x y)) * ((fY v l 1 x y).tmod (fB v l 1 x y))), .inl f], σ_24)) rfl ?_
                  refine wp_div hM rfl (by omega) (by omega) (by omega) ?_
                  refine wp_go 6 hM (fr' := (154, [some (.inr 30), some (.inl x), some (.inl y), some (.inl w), some (.inl ((fX v l 1 x y).tdiv (fB v l 1 x y))), some (.inl ((fY v l 1 x y).tdiv (fB v l 1 x y))), some (.inl ((fX v l 1 x y).tmod (fB v l 1 x y))), some (.inl ((fY v l 1 x y).tmod (fB v l 1 x y))), some (.inl f), some (.inl k), some (.inl (((fX v l 1 x y).tmod (fB v l 1 x y)) * ((fY v l 1 x y).tmod (fB v l 1 x y))))], [.inl 2, .inl k, .inl (((σ_24 30 0) * (((fY v l 1 x y).tdiv (fB v l 1 x y)) + (k.tdiv 2))) + ((fX v l 1 x y).tdiv (fB v l 1 x y))), .inr 36, .inl (((fX v l 1 x y).tmod (fB v l 1 x y)) * ((fY v l 1 x y).tmod (fB v l 1 x y))), .inl f], σ_24)) rfl ?_
                  refine wp_rem hM rfl (by omega) (by omega) (by omega) ?_
                  refine wp_go 1 hM (fr' := (156, [some (.inr 30), some (.inl x), some (.inl y), some (.inl w), some (.inl ((fX v l 1 x y).tdiv (fB v l 1 x y))), some (.inl ((fY v l 1 x y).tdiv (fB v l 1 x y))), some (.inl ((fX v l 1 x y).tmod (fB v l 1 x y))), some (.inl ((fY v l 1 x y).tmod (fB v l 1 x y))), some (.inl f), some (.inl k), some (.inl (((fX v l 1 x y).tmod (fB v l 1 x y)) * ((fY v l 1 x y).tmod (fB v l 1 x y))))], [.inl ((((σ_24 30 0) * (((fY v l 1 x y).tdiv (fB v l 1 x y)) + (k.tdiv 2))) + ((fX v l 1 x y).tdiv (fB v l 1 x y))) + (k.tmod 2)), .inr 36, .inl (((fX v l 1 x y).tmod (fB v l 1 x y)) * ((fY v l 1 x y).tmod (fB v l 1 x y))), .inl f], σ_24)) rfl ?_
                  refine wp_al (n := 400) hM rfl (by decide) rfl (by first | (rw [hidx]; omega) | fail) (by first | (rw [hidx]; omega) | fail) ?_
                  first | (rw [hidx, MA_val hA24 hdi.1 hdi.2.1]) | skip
                  refine wp_go 5 hM (fr' := (77, [some (.inr 30), some (.inl x), some (.inl y), some (.inl w), some (.inl ((fX v l 1 x y).tdiv (fB v l 1 x y))), some (.inl ((fY v l 1 x y).tdiv (fB v l 1 x y))), some (.inl ((fX v l 1 x y).tmod (fB v l 1 x y))), some (.inl ((fY v l 1 x y).tmod (fB v l 1 x y))), some (.inl (f + ((((fX v l 1 x y).tmod (fB v l 1 x y)) * ((fY v l 1 x y).tmod (fB v l 1 x y))) * (v 6 ((((fY v l 1 x y).tdiv (fB v l 1 x y) + k.tdiv 2) * v 0 0 + ((fX v l 1 x y).tdiv (fB v l 1 x y) + k.tmod 2))).toNat)))), some (.inl (k + 1)), some (.inl (((fX v l 1 x y).tmod (fB v l 1 x y)) * ((fY v l 1 x y).tmod (fB v l 1 x y))))], [], σ_24)) rfl ?_
                  exact ih77 (f + ((((fX v l 1 x y).tmod (fB v l 1 x y)) * ((fY v l 1 x y).tmod (fB v l 1 x y))) * (v 6 ((((fY v l 1 x y).tdiv (fB v l 1 x y) + k.tdiv 2) * v 0 0 + ((fX v l 1 x y).tdiv (fB v l 1 x y) + k.tmod 2))).toNat))) (k + 1) (some (.inl (((fX v l 1 x y).tmod (fB v l 1 x y)) * ((fY v l 1 x y).tmod (fB v l 1 x y))))) (by omega) (by omega) (by first | ((first | rw [e3] | skip); rw [hs, hbt, hv77_2]; first | (congr 1; rw [hwk]; (first | rw [if_pos c87] | rw [if_neg c87]); (first | rw [if_pos c105] | rw [if_neg (show ¬ k < 2 by omega)])) | omega) | fail) (by first | (first | omega | (have hq := hbt2; rw [hbt, hwk] at hq; (first | rw [e3] | skip); (first | rw [if_pos c87] at hq | rw [if_neg c87] at hq); (first | rw [if_pos c105] at hq | rw [if_neg (show ¬ k < 2 by omega)] at hq); omega)) | fail) (by omega)
              · replace c105 := cmp_ge_f c105
                refine wp_go 8 hM (fr' := (125, [some (.inr 30), some (.inl x), some (.inl y), some (.inl w), some (.inl ((fX v l 1 x y).tdiv (fB v l 1 x y))), some (.inl ((fY v l 1 x y).tdiv (fB v l 1 x y))), some (.inl ((fX v l 1 x y).tmod (fB v l 1 x y))), some (.inl ((fY v l 1 x y).tmod (fB v l 1 x y))), some (.inl f), some (.inl k), some (.inl (((fX v l 1 x y).tmod (fB v l 1 x y)) * ((σ_24 30 22) - ((fY v l 1 x y).tmod (fB v l 1 x y)))))], [.inl (((fX v l 1 x y).tmod (fB v l 1 x y)) * ((σ_24 30 22) - ((fY v l 1 x y).tmod (fB v l 1 x y))))], σ_24)) rfl ?_
                refine wp_if (tgt := 161) hM rfl (by decide) (by first | ((first | rw [e3] | skip); have hwk := hwn; rw [hbw] at hwk; (first | rw [if_pos c87] at hwk | rw [if_neg c87] at hwk); (first | rw [if_pos c105] at hwk | rw [if_neg (show ¬ k < 2 by omega)] at hwk); omega) | fail) (fun c125 => ?_) (fun c125 => ?_)
                · replace c125 := cmp_le_t c125
                  first | (rw [e3] at c125) | skip
                  first | (have hwk : bw (fX v l 1 x y) (fY v l 1 x y) (fB v l 1 x y) k = (if k.tmod 2 = 0 then (fB v l 1 x y) - (fX v l 1 x y).tmod (fB v l 1 x y) else (fX v l 1 x y).tmod (fB v l 1 x y)) * (if k < 2 then (fB v l 1 x y) - (fY v l 1 x y).tmod (fB v l 1 x y) else (fY v l 1 x y).tmod (fB v l 1 x y)) := rfl) | skip
                  first | (have hin0 : bw (fX v l 1 x y) (fY v l 1 x y) (fB v l 1 x y) k ≤ 0 := by rw [hwk]; (first | rw [if_pos c87] | rw [if_neg c87]); (first | rw [if_pos c105] | rw [if_neg (show ¬ k < 2 by omega)]); exact c125) | skip
                  first | (have hbt : bt v (fX v l 1 x y) (fY v l 1 x y) (fB v l 1 x y) k = 0 := by unfold bt; rw [if_neg (by omega)]) | skip
                  refine wp_go 2 hM (fr' := (77, [some (.inr 30), some (.inl x), some (.inl y), some (.inl w), some (.inl ((fX v l 1 x y).tdiv (fB v l 1 x y))), some (.inl ((fY v l 1 x y).tdiv (fB v l 1 x y))), some (.inl ((fX v l 1 x y).tmod (fB v l 1 x y))), some (.inl ((fY v l 1 x y).tmod (fB v l 1 x y))), some (.inl f), some (.inl (k + 1)), some (.inl (((fX v l 1 x y).tmod (fB v l 1 x y)) * ((σ_24 30 22) - ((fY v l 1 x y).tmod (fB v l 1 x y)))))], [], σ_24)) rfl ?_
                  exact ih77 f (k + 1) (some (.inl (((fX v l 1 x y).tmod (fB v l 1 x y)) * ((σ_24 30 22) - ((fY v l 1 x y).tmod (fB v l 1 x y)))))) (by omega) (by omega) (by first | ((first | rw [e3] | skip); rw [hs, hbt, hv77_2]; first | (congr 1; rw [hwk]; (first | rw [if_pos c87] | rw [if_neg c87]); (first | rw [if_pos c105] | rw [if_neg (show ¬ k < 2 by omega)])) | omega) | fail) (by first | (first | omega | (have hq := hbt2; rw [hbt, hwk] at hq; (first | rw [e3] | skip); (first | rw [if_pos c87] at hq | rw [if_neg c87] at hq); (first | rw [if_pos c105] at hq | rw [if_neg (show ¬ k < 2 by omega)] at hq); omega)) | fail) (by omega)
                · replace c125 := cmp_le_f c125
                  first | (rw [e3] at c125) | skip
                  first | (have hwk : bw (fX v l 1 x y) (fY v l 1 x y) (fB v l 1 x y) k = (if k.tmod 2 = 0 then (fB v l 1 x y) - (fX v l 1 x y).tmod (fB v l 1 x y) else (fX v l 1 x y).tmod (fB v l 1 x y)) * (if k < 2 then (fB v l 1 x y) - (fY v l 1 x y).tmod (fB v l 1 x y) else (fY v l 1 x y).tmod (fB v l 1 x y)) := rfl) | skip
                  first | (have hin0 : 0 < bw (fX v l 1 x y) (fY v l 1 x y) (fB v l 1 x y) k := by rw [hwk]; (first | rw [if_pos c87] | rw [if_neg c87]); (first | rw [if_pos c105] | rw [if_neg (show ¬ k < 2 by omega)]); exact c125) | skip
                  first | (have hin := bt_in hR hfb.1.1 hfb.2.1.1 hfb.2.2.1.1 hfb.2.2.2.1 hfb.2.2.2.2 hv77_0 (by omega) hin0) | skip
                  first | (have hdi := dn_in hR hin) | skip
                  first | (have hidx : (σ_24 30 0) * ((fY v l 1 x y).tdiv (fB v l 1 x y) + k.tdiv 2) + (fX v l 1 x y).tdiv (fB v l 1 x y) + k.tmod 2 = ((fY v l 1 x y).tdiv (fB v l 1 x y) + k.tdiv 2) * v 0 0 + ((fX v l 1 x y).tdiv (fB v l 1 x y) + k.tmod 2) := by rw [hw24, Int.mul_comm]; omega) | skip
                  first | (have hvb := hVr _ hdi.1 hdi.2.1) | skip
                  first | (have hbt : bt v (fX v l 1 x y) (fY v l 1 x y) (fB v l 1 x y) k = bw (fX v l 1 x y) (fY v l 1 x y) (fB v l 1 x y) k * v 6 (((fY v l 1 x y).tdiv (fB v l 1 x y) + k.tdiv 2) * v 0 0 + ((fX v l 1 x y).tdiv (fB v l 1 x y) + k.tmod 2)).toNat := by unfold bt bv; rw [if_pos hin0, ← hidx, hw24]) | skip
                  first | (have hbt2 : 0 ≤ bt v (fX v l 1 x y) (fY v l 1 x y) (fB v l 1 x y) k ∧ bt v (fX v l 1 x y) (fY v l 1 x y) (fB v l 1 x y) k ≤ 15 * (722 * 722) := by rw [hbt]; have m := mul_bd (a := bw (fX v l 1 x y) (fY v l 1 x y) (fB v l 1 x y) k) (b := v 6 (((fY v l 1 x y).tdiv (fB v l 1 x y) + k.tdiv 2) * v 0 0 + ((fX v l 1 x y).tdiv (fB v l 1 x y) + k.tmod 2)).toNat) (m := 722 * 722) (k := 15) (by omega) (by omega) (by omega) (by omega); have m2 := Int.mul_nonneg hwn.1 hvb.1; constructor <;> omega) | skip
                  refine wp_go 9 hM (fr' := (145, [some (.inr 30), some (.inl x), some (.inl y), some (.inl w), some (.inl ((fX v l 1 x y).tdiv (fB v l 1 x y))), some (.inl ((fY v l 1 x y).tdiv (fB v l 1 x y))), some (.inl ((fX v l 1 x y).tmod (fB v l 1 x y))), some (.inl ((fY v l 1 x y).tmod (fB v l 1 x y))), some (.inl f), some (.inl k), some (.inl (((fX v l 1 x y).tmod (fB v l 1 x y)) * ((σ_24 30 22) - ((fY v l 1 x y).tmod (fB v l 1 x y)))))], [.inl 2, .inl k, .inl ((fY v l 1 x y).tdiv (fB v l 1 x y)), .inl (σ_24 30 0), .inr 36, .inl (((fX v l 1 x y).tmod (fB v l 1 x y)) * ((σ_24 30 22) - ((fY v l 1 x y).tmod (fB v l 1 x y)))), .inl f], σ_24)) rfl ?_
                  refine wp_div hM rfl (by omega) (by omega) (by omega) ?_
                  refine wp_go 6 hM (fr' := (154, [some (.inr 30), some (.inl x), some (.inl y), some (.inl w), some (.inl ((fX v l 1 x y).tdiv (fB v l 1 x y))), some (.inl ((fY v l 1 x y).tdiv (fB v l 1 x y))), some (.inl ((fX v l 1 x y).tmod (fB v l 1 x y))), some (.inl ((fY v l 1 x y).tmod (fB v l 1 x y))), some (.inl f), some (.inl k), some (.inl (((fX v l 1 x y).tmod (fB v l 1 x y)) * ((σ_24 30 22) - ((fY v l 1 x y).tmod (fB v l 1 x y)))))], [.inl 2, .inl k, .inl (((σ_24 30 0) * (((fY v l 1 x y).tdiv (fB v l 1 x y)) + (k.tdiv 2))) + ((fX v l 1 x y).tdiv (fB v l 1 x y))), .inr 36, .inl (((fX v l 1 x y).tmod (fB v l 1 x y)) * ((σ_24 30 22) - ((fY v l 1 x y).tmod (fB v l 1 x y)))), .inl f], σ_24)) rfl ?_
                  refine wp_rem hM rfl (by omega) (by omega) (by omega) ?_
                  refine wp_go 1 hM (fr' := (156, [some (.inr 30), some (.inl x), some (.inl y), some (.inl w), some (.inl ((fX v l 1 x y).tdiv (fB v l 1 x y))), some (.inl ((fY v l 1 x y).tdiv (fB v l 1 x y))), some (.inl ((fX v l 1 x y).tmod (fB v l 1 x y))), some (.inl ((fY v l 1 x y).tmod (fB v l 1 x y))), some (.inl f), some (.inl k), some (.inl (((fX v l 1 x y).tmod (fB v l 1 x y)) * ((σ_24 30 22) - ((fY v l 1 x y).tmod (fB v l 1 x y)))))], [.inl ((((σ_24 30 0) * (((fY v l 1 x y).tdiv (fB v l 1 x y)) + (k.tdiv 2))) + ((fX v l 1 x y).tdiv (fB v l 1 x y))) + (k.tmod 2)), .inr 36, .inl (((fX v l 1 x y).tmod (fB v l 1 x y)) * ((σ_24 30 22) - ((fY v l 1 x y).tmod (fB v l 1 x y)))), .inl f], σ_24)) rfl ?_
                  refine wp_al (n := 400) hM rfl (by decide) rfl (by first | (rw [hidx]; omega) | fail) (by first | (rw [hidx]; omega) | fail) ?_
                  first | (rw [hidx, MA_val hA24 hdi.1 hdi.2.1]) | skip
                  refine wp_go 5 hM (fr' := (77, [some (.inr 30), some (.inl x), some (.inl y), some (.inl w), some (.inl ((fX v l 1 x y).tdiv (fB v l 1 x y))), some (.inl ((fY v l 1 x y).tdiv (fB v l 1 x y))), some (.inl ((fX v l 1 x y).tmod (fB v l 1 x y))), some (.inl ((fY v l 1 x y).tmod (fB v l 1 x y))), some (.inl (f + ((((fX v l 1 x y).tmod (fB v l 1 x y)) * ((σ_24 30 22) - ((fY v l 1 x y).tmod (fB v l 1 x y)))) * (v 6 ((((fY v l 1 x y).tdiv (fB v l 1 x y) + k.tdiv 2) * v 0 0 + ((fX v l 1 x y).tdiv (fB v l 1 x y) + k.tmod 2))).toNat)))), some (.inl (k + 1)), some (.inl (((fX v l 1 x y).tmod (fB v l 1 x y)) * ((σ_24 30 22) - ((fY v l 1 x y).tmod (fB v l 1 x y)))))], [], σ_24)) rfl ?_
                  exact ih77 (f + ((((fX v l 1 x y).tmod (fB v l 1 x y)) * ((σ_24 30 22) - ((fY v l 1 x y).tmod (fB v l 1 x y)))) * (v 6 ((((fY v l 1 x y).tdiv (fB v l 1 x y) + k.tdiv 2) * v 0 0 + ((fX v l 1 x y).tdiv (fB v l 1 x y) + k.tmod 2))).toNat))) (k + 1) (some (.inl (((fX v l 1 x y).tmod (fB v l 1 x y)) * ((σ_24 30 22) - ((fY v l 1 x y).tmod (fB v l 1 x y)))))) (by omega) (by omega) (by first | ((first | rw [e3] | skip); rw [hs, hbt, hv77_2]; first | (congr 1; rw [hwk]; (first | rw [if_pos c87] | rw [if_neg c87]); (first | rw [if_pos c105] | rw [if_neg (show ¬ k < 2 by omega)])) | omega) | fail) (by first | (first | omega | (have hq := hbt2; rw [hbt, hwk] at hq; (first | rw [e3] | skip); (first | rw [if_pos c87] at hq | rw [if_neg c87] at hq); (first | rw [if_pos c105] at hq | rw [if_neg (show ¬ k < 2 by omega)] at hq); omega)) | fail) (by omega)
            · replace c87 := cmp_ne_f c87
              refine wp_go 7 hM (fr' := (105, [some (.inr 30), some (.inl x), some (.inl y), some (.inl w), some (.inl ((fX v l 1 x y).tdiv (fB v l 1 x y))), some (.inl ((fY v l 1 x y).tdiv (fB v l 1 x y))), some (.inl ((fX v l 1 x y).tmod (fB v l 1 x y))), some (.inl ((fY v l 1 x y).tmod (fB v l 1 x y))), some (.inl f), some (.inl k), d77_10], [.inl 2, .inl k, .inl ((σ_24 30 22) - ((fX v l 1 x y).tmod (fB v l 1 x y)))], σ_24)) rfl ?_
              refine wp_ic (tgt := 118) hM rfl (by decide) (by omega) (by omega) (fun c105 => ?_) (fun c105 => ?_)
              · replace c105 := cmp_ge_t c105
                refine wp_go 4 hM (fr' := (125, [some (.inr 30), some (.inl x), some (.inl y), some (.inl w), some (.inl ((fX v l 1 x y).tdiv (fB v l 1 x y))), some (.inl ((fY v l 1 x y).tdiv (fB v l 1 x y))), some (.inl ((fX v l 1 x y).tmod (fB v l 1 x y))), some (.inl ((fY v l 1 x y).tmod (fB v l 1 x y))), some (.inl f), some (.inl k), some (.inl (((σ_24 30 22) - ((fX v l 1 x y).tmod (fB v l 1 x y))) * ((fY v l 1 x y).tmod (fB v l 1 x y))))], [.inl (((σ_24 30 22) - ((fX v l 1 x y).tmod (fB v l 1 x y))) * ((fY v l 1 x y).tmod (fB v l 1 x y)))], σ_24)) rfl ?_
                refine wp_if (tgt := 161) hM rfl (by decide) (by first | ((first | rw [e3] | skip); have hwk := hwn; rw [hbw] at hwk; (first | rw [if_pos c87] at hwk | rw [if_neg c87] at hwk); (first | rw [if_pos c105] at hwk | rw [if_neg (show ¬ k < 2 by omega)] at hwk); omega) | fail) (fun c125 => ?_) (fun c125 => ?_)
                · replace c125 := cmp_le_t c125
                  first | (rw [e3] at c125) | skip
                  first | (have hwk : bw (fX v l 1 x y) (fY v l 1 x y) (fB v l 1 x y) k = (if k.tmod 2 = 0 then (fB v l 1 x y) - (fX v l 1 x y).tmod (fB v l 1 x y) else (fX v l 1 x y).tmod (fB v l 1 x y)) * (if k < 2 then (fB v l 1 x y) - (fY v l 1 x y).tmod (fB v l 1 x y) else (fY v l 1 x y).tmod (fB v l 1 x y)) := rfl) | skip
                  first | (have hin0 : bw (fX v l 1 x y) (fY v l 1 x y) (fB v l 1 x y) k ≤ 0 := by rw [hwk]; (first | rw [if_pos c87] | rw [if_neg c87]); (first | rw [if_pos c105] | rw [if_neg (show ¬ k < 2 by omega)]); exact c125) | skip
                  first | (have hbt : bt v (fX v l 1 x y) (fY v l 1 x y) (fB v l 1 x y) k = 0 := by unfold bt; rw [if_neg (by omega)]) | skip
                  refine wp_go 2 hM (fr' := (77, [some (.inr 30), some (.inl x), some (.inl y), some (.inl w), some (.inl ((fX v l 1 x y).tdiv (fB v l 1 x y))), some (.inl ((fY v l 1 x y).tdiv (fB v l 1 x y))), some (.inl ((fX v l 1 x y).tmod (fB v l 1 x y))), some (.inl ((fY v l 1 x y).tmod (fB v l 1 x y))), some (.inl f), some (.inl (k + 1)), some (.inl (((σ_24 30 22) - ((fX v l 1 x y).tmod (fB v l 1 x y))) * ((fY v l 1 x y).tmod (fB v l 1 x y))))], [], σ_24)) rfl ?_
                  exact ih77 f (k + 1) (some (.inl (((σ_24 30 22) - ((fX v l 1 x y).tmod (fB v l 1 x y))) * ((fY v l 1 x y).tmod (fB v l 1 x y))))) (by omega) (by omega) (by first | ((first | rw [e3] | skip); rw [hs, hbt, hv77_2]; first | (congr 1; rw [hwk]; (first | rw [if_pos c87] | rw [if_neg c87]); (first | rw [if_pos c105] | rw [if_neg (show ¬ k < 2 by omega)])) | omega) | fail) (by first | (first | omega | (have hq := hbt2; rw [hbt, hwk] at hq; (first | rw [e3] | skip); (first | rw [if_pos c87] at hq | rw [if_neg c87] at hq); (first | rw [if_pos c105] at hq | rw [if_neg (show ¬ k < 2 by omega)] at hq); omega)) | fail) (by omega)
                · replace c125 := cmp_le_f c125
                  first | (rw [e3] at c125) | skip
                  first | (have hwk : bw (fX v l 1 x y) (fY v l 1 x y) (fB v l 1 x y) k = (if k.tmod 2 = 0 then (fB v l 1 x y) - (fX v l 1 x y).tmod (fB v l 1 x y) else (fX v l 1 x y).tmod (fB v l 1 x y)) * (if k < 2 then (fB v l 1 x y) - (fY v l 1 x y).tmod (fB v l 1 x y) else (fY v l 1 x y).tmod (fB v l 1 x y)) := rfl) | skip
                  first | (have hin0 : 0 < bw (fX v l 1 x y) (fY v l 1 x y) (fB v l 1 x y) k := by rw [hwk]; (first | rw [if_pos c87] | rw [if_neg c87]); (first | rw [if_pos c105] | rw [if_neg (show ¬ k < 2 by omega)]); exact c125) | skip
                  first | (have hin := bt_in hR hfb.1.1 hfb.2.1.1 hfb.2.2.1.1 hfb.2.2.2.1 hfb.2.2.2.2 hv77_0 (by omega) hin0) | skip
                  first | (have hdi := dn_in hR hin) | skip
                  first | (have hidx : (σ_24 30 0) * ((fY v l 1 x y).tdiv (fB v l 1 x y) + k.tdiv 2) + (fX v l 1 x y).tdiv (fB v l 1 x y) + k.tmod 2 = ((fY v l 1 x y).tdiv (fB v l 1 x y) + k.tdiv 2) * v 0 0 + ((fX v l 1 x y).tdiv (fB v l 1 x y) + k.tmod 2) := by rw [hw24, Int.mul_comm]; omega) | skip
                  first | (have hvb := hVr _ hdi.1 hdi.2.1) | skip
                  first | (have hbt : bt v (fX v l 1 x y) (fY v l 1 x y) (fB v l 1 x y) k = bw (fX v l 1 x y) (fY v l 1 x y) (fB v l 1 x y) k * v 6 (((fY v l 1 x y).tdiv (fB v l 1 x y) + k.tdiv 2) * v 0 0 + ((fX v l 1 x y).tdiv (fB v l 1 x y) + k.tmod 2)).toNat := by unfold bt bv; rw [if_pos hin0, ← hidx, hw24]) | skip
                  first | (have hbt2 : 0 ≤ bt v (fX v l 1 x y) (fY v l 1 x y) (fB v l 1 x y) k ∧ bt v (fX v l 1 x y) (fY v l 1 x y) (fB v l 1 x y) k ≤ 15 * (722 * 722) := by rw [hbt]; have m := mul_bd (a := bw (fX v l 1 x y) (fY v l 1 x y) (fB v l 1 x y) k) (b := v 6 (((fY v l 1 x y).tdiv (fB v l 1 x y) + k.tdiv 2) * v 0 0 + ((fX v l 1 x y).tdiv (fB v l 1 x y) + k.tmod 2)).toNat) (m := 722 * 722) (k := 15) (by omega) (by omega) (by omega) (by omega); have m2 := Int.mul_nonneg hwn.1 hvb.1; constructor <;> omega) | skip
                  refine wp_go 9 hM (fr' := (145, [some (.inr 30), some (.inl x), some (.inl y), some (.inl w), some (.inl ((fX v l 1 x y).tdiv (fB v l 1 x y))), some (.inl ((fY v l 1 x y).tdiv (fB v l 1 x y))), some (.inl ((fX v l 1 x y).tmod (fB v l 1 x y))), some (.inl ((fY v l 1 x y).tmod (fB v l 1 x y))), some (.inl f), some (.inl k), some (.inl (((σ_24 30 22) - ((fX v l 1 x y).tmod (fB v l 1 x y))) * ((fY v l 1 x y).tmod (fB v l 1 x y))))], [.inl 2, .inl k, .inl ((fY v l 1 x y).tdiv (fB v l 1 x y)), .inl (σ_24 30 0), .inr 36, .inl (((σ_24 30 22) - ((fX v l 1 x y).tmod (fB v l 1 x y))) * ((fY v l 1 x y).tmod (fB v l 1 x y))), .inl f], σ_24)) rfl ?_
                  refine wp_div hM rfl (by omega) (by omega) (by omega) ?_
                  refine wp_go 6 hM (fr' := (154, [some (.inr 30), some (.inl x), some (.inl y), some (.inl w), some (.inl ((fX v l 1 x y).tdiv (fB v l 1 x y))), some (.inl ((fY v l 1 x y).tdiv (fB v l 1 x y))), some (.inl ((fX v l 1 x y).tmod (fB v l 1 x y))), some (.inl ((fY v l 1 x y).tmod (fB v l 1 x y))), some (.inl f), some (.inl k), some (.inl (((σ_24 30 22) - ((fX v l 1 x y).tmod (fB v l 1 x y))) * ((fY v l 1 x y).tmod (fB v l 1 x y))))], [.inl 2, .inl k, .inl (((σ_24 30 0) * (((fY v l 1 x y).tdiv (fB v l 1 x y)) + (k.tdiv 2))) + ((fX v l 1 x y).tdiv (fB v l 1 x y))), .inr 36, .inl (((σ_24 30 22) - ((fX v l 1 x y).tmod (fB v l 1 x y))) * ((fY v l 1 x y).tmod (fB v l 1 x y))), .inl f], σ_24)) rfl ?_
                  refine wp_rem hM rfl (by omega) (by omega) (by omega) ?_
                  refine wp_go 1 hM (fr' := (156, [some (.inr 30), some (.inl x), some (.inl y), some (.inl w), some (.inl ((fX v l 1 x y).tdiv (fB v l 1 x y))), some (.inl ((fY v l 1 x y).tdiv (fB v l 1 x y))), some (.inl ((fX v l 1 x y).tmod (fB v l 1 x y))), some (.inl ((fY v l 1 x y).tmod (fB v l 1 x y))), some (.inl f), some (.inl k), some (.inl (((σ_24 30 22) - ((fX v l 1 x y).tmod (fB v l 1 x y))) * ((fY v l 1 x y).tmod (fB v l 1 x y))))], [.inl ((((σ_24 30 0) * (((fY v l 1 x y).tdiv (fB v l 1 x y)) + (k.tdiv 2))) + ((fX v l 1 x y).tdiv (fB v l 1 x y))) + (k.tmod 2)), .inr 36, .inl (((σ_24 30 22) - ((fX v l 1 x y).tmod (fB v l 1 x y))) * ((fY v l 1 x y).tmod (fB v l 1 x y))), .inl f], σ_24)) rfl ?_
                  refine wp_al (n := 400) hM rfl (by decide) rfl (by first | (rw [hidx]; omega) | fail) (by first | (rw [hidx]; omega) | fail) ?_
                  first | (rw [hidx, MA_val hA24 hdi.1 hdi.2.1]) | skip
                  refine wp_go 5 hM (fr' := (77, [some (.inr 30), some (.inl x), some (.inl y), some (.inl w), some (.inl ((fX v l 1 x y).tdiv (fB v l 1 x y))), some (.inl ((fY v l 1 x y).tdiv (fB v l 1 x y))), some (.inl ((fX v l 1 x y).tmod (fB v l 1 x y))), some (.inl ((fY v l 1 x y).tmod (fB v l 1 x y))), some (.inl (f + ((((σ_24 30 22) - ((fX v l 1 x y).tmod (fB v l 1 x y))) * ((fY v l 1 x y).tmod (fB v l 1 x y))) * (v 6 ((((fY v l 1 x y).tdiv (fB v l 1 x y) + k.tdiv 2) * v 0 0 + ((fX v l 1 x y).tdiv (fB v l 1 x y) + k.tmod 2))).toNat)))), some (.inl (k + 1)), some (.inl (((σ_24 30 22) - ((fX v l 1 x y).tmod (fB v l 1 x y))) * ((fY v l 1 x y).tmod (fB v l 1 x y))))], [], σ_24)) rfl ?_
                  exact ih77 (f + ((((σ_24 30 22) - ((fX v l 1 x y).tmod (fB v l 1 x y))) * ((fY v l 1 x y).tmod (fB v l 1 x y))) * (v 6 ((((fY v l 1 x y).tdiv (fB v l 1 x y) + k.tdiv 2) * v 0 0 + ((fX v l 1 x y).tdiv (fB v l 1 x y) + k.tmod 2))).toNat))) (k + 1) (some (.inl (((σ_24 30 22) - ((fX v l 1 x y).tmod (fB v l 1 x y))) * ((fY v l 1 x y).tmod (fB v l 1 x y))))) (by omega) (by omega) (by first | ((first | rw [e3] | skip); rw [hs, hbt, hv77_2]; first | (congr 1; rw [hwk]; (first | rw [if_pos c87] | rw [if_neg c87]); (first | rw [if_pos c105] | rw [if_neg (show ¬ k < 2 by omega)])) | omega) | fail) (by first | (first | omega | (have hq := hbt2; rw [hbt, hwk] at hq; (first | rw [e3] | skip); (first | rw [if_pos c87] at hq | rw [if_neg c87] at hq); (first | rw [if_pos c105] at hq | rw [if_neg (show ¬ k < 2 by omega)] at hq); omega)) | fail) (by omega)
              · replace c105 := cmp_ge_f c105
                refine wp_go 8 hM (fr' := (125, [some (.inr 30), some (.inl x), some (.inl y), some (.inl w), some (.inl ((fX v l 1 x y).tdiv (fB v l 1 x y))), some (.inl ((fY v l 1 x y).tdiv (fB v l 1 x y))), some (.inl ((fX v l 1 x y).tmod (fB v l 1 x y))), some (.inl ((fY v l 1 x y).tmod (fB v l 1 x y))), some (.inl f), some (.inl k), some (.inl (((σ_24 30 22) - ((fX v l 1 x y).tmod (fB v l 1 x y))) * ((σ_24 30 22) - ((fY v l 1 x y).tmod (fB v l 1 x y)))))], [.inl (((σ_24 30 22) - ((fX v l 1 x y).tmod (fB v l 1 x y))) * ((σ_24 30 22) - ((fY v l 1 x y).tmod (fB v l 1 x y))))], σ_24)) rfl ?_
                refine wp_if (tgt := 161) hM rfl (by decide) (by first | ((first | rw [e3] | skip); have hwk := hwn; rw [hbw] at hwk; (first | rw [if_pos c87] at hwk | rw [if_neg c87] at hwk); (first | rw [if_pos c105] at hwk | rw [if_neg (show ¬ k < 2 by omega)] at hwk); omega) | fail) (fun c125 => ?_) (fun c125 => ?_)
                · replace c125 := cmp_le_t c125
                  first | (rw [e3] at c125) | skip
                  first | (have hwk : bw (fX v l 1 x y) (fY v l 1 x y) (fB v l 1 x y) k = (if k.tmod 2 = 0 then (fB v l 1 x y) - (fX v l 1 x y).tmod (fB v l 1 x y) else (fX v l 1 x y).tmod (fB v l 1 x y)) * (if k < 2 then (fB v l 1 x y) - (fY v l 1 x y).tmod (fB v l 1 x y) else (fY v l 1 x y).tmod (fB v l 1 x y)) := rfl) | skip
                  first | (have hin0 : bw (fX v l 1 x y) (fY v l 1 x y) (fB v l 1 x y) k ≤ 0 := by rw [hwk]; (first | rw [if_pos c87] | rw [if_neg c87]); (first | rw [if_pos c105] | rw [if_neg (show ¬ k < 2 by omega)]); exact c125) | skip
                  first | (have hbt : bt v (fX v l 1 x y) (fY v l 1 x y) (fB v l 1 x y) k = 0 := by unfold bt; rw [if_neg (by omega)]) | skip
                  refine wp_go 2 hM (fr' := (77, [some (.inr 30), some (.inl x), some (.inl y), some (.inl w), some (.inl ((fX v l 1 x y).tdiv (fB v l 1 x y))), some (.inl ((fY v l 1 x y).tdiv (fB v l 1 x y))), some (.inl ((fX v l 1 x y).tmod (fB v l 1 x y))), some (.inl ((fY v l 1 x y).tmod (fB v l 1 x y))), some (.inl f), some (.inl (k + 1)), some (.inl (((σ_24 30 22) - ((fX v l 1 x y).tmod (fB v l 1 x y))) * ((σ_24 30 22) - ((fY v l 1 x y).tmod (fB v l 1 x y)))))], [], σ_24)) rfl ?_
                  exact ih77 f (k + 1) (some (.inl (((σ_24 30 22) - ((fX v l 1 x y).tmod (fB v l 1 x y))) * ((σ_24 30 22) - ((fY v l 1 x y).tmod (fB v l 1 x y)))))) (by omega) (by omega) (by first | ((first | rw [e3] | skip); rw [hs, hbt, hv77_2]; first | (congr 1; rw [hwk]; (first | rw [if_pos c87] | rw [if_neg c87]); (first | rw [if_pos c105] | rw [if_neg (show ¬ k < 2 by omega)])) | omega) | fail) (by first | (first | omega | (have hq := hbt2; rw [hbt, hwk] at hq; (first | rw [e3] | skip); (first | rw [if_pos c87] at hq | rw [if_neg c87] at hq); (first | rw [if_pos c105] at hq | rw [if_neg (show ¬ k < 2 by omega)] at hq); omega)) | fail) (by omega)
                · replace c125 := cmp_le_f c125
                  first | (rw [e3] at c125) | skip
                  first | (have hwk : bw (fX v l 1 x y) (fY v l 1 x y) (fB v l 1 x y) k = (if k.tmod 2 = 0 then (fB v l 1 x y) - (fX v l 1 x y).tmod (fB v l 1 x y) else (fX v l 1 x y).tmod (fB v l 1 x y)) * (if k < 2 then (fB v l 1 x y) - (fY v l 1 x y).tmod (fB v l 1 x y) else (fY v l 1 x y).tmod (fB v l 1 x y)) := rfl) | skip
                  first | (have hin0 : 0 < bw (fX v l 1 x y) (fY v l 1 x y) (fB v l 1 x y) k := by rw [hwk]; (first | rw [if_pos c87] | rw [if_neg c87]); (first | rw [if_pos c105] | rw [if_neg (show ¬ k < 2 by omega)]); exact c125) | skip
                  first | (have hin := bt_in hR hfb.1.1 hfb.2.1.1 hfb.2.2.1.1 hfb.2.2.2.1 hfb.2.2.2.2 hv77_0 (by omega) hin0) | skip
                  first | (have hdi := dn_in hR hin) | skip
                  first | (have hidx : (σ_24 30 0) * ((fY v l 1 x y).tdiv (fB v l 1 x y) + k.tdiv 2) + (fX v l 1 x y).tdiv (fB v l 1 x y) + k.tmod 2 = ((fY v l 1 x y).tdiv (fB v l 1 x y) + k.tdiv 2) * v 0 0 + ((fX v l 1 x y).tdiv (fB v l 1 x y) + k.tmod 2) := by rw [hw24, Int.mul_comm]; omega) | skip
                  first | (have hvb := hVr _ hdi.1 hdi.2.1) | skip
                  first | (have hbt : bt v (fX v l 1 x y) (fY v l 1 x y) (fB v l 1 x y) k = bw (fX v l 1 x y) (fY v l 1 x y) (fB v l 1 x y) k * v 6 (((fY v l 1 x y).tdiv (fB v l 1 x y) + k.tdiv 2) * v 0 0 + ((fX v l 1 x y).tdiv (fB v l 1 x y) + k.tmod 2)).toNat := by unfold bt bv; rw [if_pos hin0, ← hidx, hw24]) | skip
                  first | (have hbt2 : 0 ≤ bt v (fX v l 1 x y) (fY v l 1 x y) (fB v l 1 x y) k ∧ bt v (fX v l 1 x y) (fY v l 1 x y) (fB v l 1 x y) k ≤ 15 * (722 * 722) := by rw [hbt]; have m := mul_bd (a := bw (fX v l 1 x y) (fY v l 1 x y) (fB v l 1 x y) k) (b := v 6 (((fY v l 1 x y).tdiv (fB v l 1 x y) + k.tdiv 2) * v 0 0 + ((fX v l 1 x y).tdiv (fB v l 1 x y) + k.tmod 2)).toNat) (m := 722 * 722) (k := 15) (by omega) (by omega) (by omega) (by omega); have m2 := Int.mul_nonneg hwn.1 hvb.1; constructor <;> omega) | skip
                  refine wp_go 9 hM (fr' := (145, [some (.inr 30), some (.inl x), some (.inl y), some (.inl w), some (.inl ((fX v l 1 x y).tdiv (fB v l 1 x y))), some (.inl ((fY v l 1 x y).tdiv (fB v l 1 x y))), some (.inl ((fX v l 1 x y).tmod (fB v l 1 x y))), some (.inl ((fY v l 1 x y).tmod (fB v l 1 x y))), some (.inl f), some (.inl k), some (.inl (((σ_24 30 22) - ((fX v l 1 x y).tmod (fB v l 1 x y))) * ((σ_24 30 22) - ((fY v l 1 x y).tmod (fB v l 1 x y)))))], [.inl 2, .inl k, .inl ((fY v l 1 x y).tdiv (fB v l 1 x y)), .inl (σ_24 30 0), .inr 36, .inl (((σ_24 30 22) - ((fX v l 1 x y).tmod (fB v l 1 x y))) * ((σ_24 30 22) - ((fY v l 1 x y).tmod (fB v l 1 x y)))), .inl f], σ_24)) rfl ?_
                  refine wp_div hM rfl (by omega) (by omega) (by omega) ?_
                  refine wp_go 6 hM (fr' := (154, [some (.inr 30), some (.inl x), some (.inl y), some (.inl w), some (.inl ((fX v l 1 x y).tdiv (fB v l 1 x y))), some (.inl ((fY v l 1 x y).tdiv (fB v l 1 x y))), some (.inl ((fX v l 1 x y).tmod (fB v l 1 x y))), some (.inl ((fY v l 1 x y).tmod (fB v l 1 x y))), some (.inl f), some (.inl k), some (.inl (((σ_24 30 22) - ((fX v l 1 x y).tmod (fB v l 1 x y))) * ((σ_24 30 22) - ((fY v l 1 x y).tmod (fB v l 1 x y)))))], [.inl 2, .inl k, .inl (((σ_24 30 0) * (((fY v l 1 x y).tdiv (fB v l 1 x y)) + (k.tdiv 2))) + ((fX v l 1 x y).tdiv (fB v l 1 x y))), .inr 36, .inl (((σ_24 30 22) - ((fX v l 1 x y).tmod (fB v l 1 x y))) * ((σ_24 30 22) - ((fY v l 1 x y).tmod (fB v l 1 x y)))), .inl f], σ_24)) rfl ?_
                  refine wp_rem hM rfl (by omega) (by omega) (by omega) ?_
                  refine wp_go 1 hM (fr' := (156, [some (.inr 30), some (.inl x), some (.inl y), some (.inl w), some (.inl ((fX v l 1 x y).tdiv (fB v l 1 x y))), some (.inl ((fY v l 1 x y).tdiv (fB v l 1 x y))), some (.inl ((fX v l 1 x y).tmod (fB v l 1 x y))), some (.inl ((fY v l 1 x y).tmod (fB v l 1 x y))), some (.inl f), some (.inl k), some (.inl (((σ_24 30 22) - ((fX v l 1 x y).tmod (fB v l 1 x y))) * ((σ_24 30 22) - ((fY v l 1 x y).tmod (fB v l 1 x y)))))], [.inl ((((σ_24 30 0) * (((fY v l 1 x y).tdiv (fB v l 1 x y)) + (k.tdiv 2))) + ((fX v l 1 x y).tdiv (fB v l 1 x y))) + (k.tmod 2)), .inr 36, .inl (((σ_24 30 22) - ((fX v l 1 x y).tmod (fB v l 1 x y))) * ((σ_24 30 22) - ((fY v l 1 x y).tmod (fB v l 1 x y)))), .inl f], σ_24)) rfl ?_
                  refine wp_al (n := 400) hM rfl (by decide) rfl (by first | (rw [hidx]; omega) | fail) (by first | (rw [hidx]; omega) | fail) ?_
                  first | (rw [hidx, MA_val hA24 hdi.1 hdi.2.1]) | skip
                  refine wp_go 5 hM (fr' := (77, [some (.inr 30), some (.inl x), some (.inl y), some (.inl w), some (.inl ((fX v l 1 x y).tdiv (fB v l 1 x y))), some (.inl ((fY v l 1 x y).tdiv (fB v l 1 x y))), some (.inl ((fX v l 1 x y).tmod (fB v l 1 x y))), some (.inl ((fY v l 1 x y).tmod (fB v l 1 x y))), some (.inl (f + ((((σ_24 30 22) - ((fX v l 1 x y).tmod (fB v l 1 x y))) * ((σ_24 30 22) - ((fY v l 1 x y).tmod (fB v l 1 x y)))) * (v 6 ((((fY v l 1 x y).tdiv (fB v l 1 x y) + k.tdiv 2) * v 0 0 + ((fX v l 1 x y).tdiv (fB v l 1 x y) + k.tmod 2))).toNat)))), some (.inl (k + 1)), some (.inl (((σ_24 30 22) - ((fX v l 1 x y).tmod (fB v l 1 x y))) * ((σ_24 30 22) - ((fY v l 1 x y).tmod (fB v l 1 x y)))))], [], σ_24)) rfl ?_
                  exact ih77 (f + ((((σ_24 30 22) - ((fX v l 1 x y).tmod (fB v l 1 x y))) * ((σ_24 30 22) - ((fY v l 1 x y).tmod (fB v l 1 x y)))) * (v 6 ((((fY v l 1 x y).tdiv (fB v l 1 x y) + k.tdiv 2) * v 0 0 + ((fX v l 1 x y).tdiv (fB v l 1 x y) + k.tmod 2))).toNat))) (k + 1) (some (.inl (((σ_24 30 22) - ((fX v l 1 x y).tmod (fB v l 1 x y))) * ((σ_24 30 22) - ((fY v l 1 x y).tmod (fB v l 1 x y)))))) (by omega) (by omega) (by first | ((first | rw [e3] | skip); rw [hs, hbt, hv77_2]; first | (congr 1; rw [hwk]; (first | rw [if_pos c87] | rw [if_neg c87]); (first | rw [if_pos c105] | rw [if_neg (show ¬ k < 2 by omega)])) | omega) | fail) (by first | (first | omega | (have hq := hbt2; rw [hbt, hwk] at hq; (first | rw [e3] | skip); (first | rw [if_pos c87] at hq | rw [if_neg c87] at hq); (first | rw [if_pos c105] at hq | rw [if_neg (show ¬ k < 2 by omega)] at hq); omega)) | fail) (by omega)
      exact loop77 6 0 0 (none) (by omega) (by omega) (by rfl) (by omega) (by omega)
    · replace c15 := b01_eq0 (cmp_ne_f c15)
      refine wp_go 1 hM (fr' := (19, [some (.inr 30), some (.inl x), some (.inl y), some (.inl w), none, none, none, none, none, none, none], [.inl (-1)], σ)) rfl ?_
      refine wp_ret hM rfl (rfl) ?_
      first | (exact ⟨by unfold aBlend; first | rw [if_pos (Or.inl c6)] | rw [if_pos (Or.inr (by omega))], h0, Fm.rf⟩) | fail

set_option maxRecDepth 100000 in
set_option maxHeartbeats 4000000 in
theorem sp_X6_uses (v : mz_G) (l : List tr3) (σ : mz_G) (x : Int) (y : Int) (h0 : MA σ v l) (h1 : GO v l) (h2 : mz_R x) (h3 : mz_R y) : mz_Cl shM 168 [.inr 30, .inl x, .inl y] σ (fun r σ' => r = some (aUses v l x y) ∧ MA σ' v l ∧ Fm σ σ') := by
  have hM : mz_meth[168]? = some mtX6_uses := rfl
  obtain ⟨hB, hSd, ⟨hP0, hP1⟩, ⟨hC0, hC1'⟩, hVr, hn30, hl2⟩ := id h1
  obtain ⟨hR, hT, hLen⟩ := id hB
  obtain ⟨⟨hW0, hW1⟩, ⟨hH0, hH1⟩, ⟨hn0, hn1⟩, hpt⟩ := id hR
  obtain ⟨⟨⟨hc1, hc2, hc3⟩, hcp, hcv⟩, hc4, hct⟩ := id h0
  have hWH := WH_bd hR
  refine mz_Cl.of hM ?_
  show mz_Wp shM none 168 (0, [some (.inr 30), some (.inl x), some (.inl y), none, none], [], σ) _
  refine wp_go 3 hM (fr' := (3, [some (.inr 30), some (.inl x), some (.inl y), none, none], [.inl y, .inl x, .inr 30], σ)) rfl ?_
  refine wp_calld (v := 0) (idx := 120) (j := 122) (N := mtX6_isDot) (as := [.inr 30, .inl x, .inl y]) (rest := []) hM rfl (Or.inl ⟨rfl, rfl⟩) rfl (sp_X6_isDot v l σ x y (by first | (first | assumption | omega) | fail) (by first | (first | assumption | omega) | fail) (by first | (first | assumption | omega) | fail) (by first | (first | assumption | omega) | fail)) ?_
  show mz_Wp shM none 168 (6, [some (.inr 30), some (.inl x), some (.inl y), none, none], [.inl (b01 (dot v x y))], σ) _
  refine wp_if (tgt := 11) hM rfl (by decide) b01_R (fun c6 => ?_) (fun c6 => ?_)
  · replace c6 := b01_ne0 (cmp_ne_t c6)
    first | (have hdi := dn_in hR c6) | skip
    refine wp_go 4 hM (fr' := (16, [some (.inr 30), some (.inl x), some (.inl y), some (.inl 0), some (.inl 0)], [], σ)) rfl ?_
    have loop16 : ∀ (fuel : Nat) (f : Int) (d : Int) (σ1 : mz_G), (0 ≤ d) → (d ≤ v 0 0 * v 0 1) → (f = sumI d (fun d => b01 (ne v l d = y * v 0 0 + x))) → (Fp σ σ1) → ((v 0 0 * v 0 1 - d : Int) < fuel) → mz_Wp shM none 168 (16, [some (.inr 30), some (.inl x), some (.inl y), some (.inl f), some (.inl d)], [], σ1) (fun r σ' => r = some (aUses v l x y) ∧ MA σ' v l ∧ Fm σ σ') := by
      intro fuel
      induction fuel with
      | zero =>
        intro f d σ1 hv16_0 hv16_1 hv16_2 hv16_3 hf16
        exfalso
        omega
      | succ fuel ih16 =>
        intro f d σ1 hv16_0 hv16_1 hv16_2 hv16_3 hf16
        have hA1 := MA_Fp h0 hv16_3
        have hw1 : σ1 30 0 = v 0 0 := hA1.1.1.1
        have hh1 : σ1 30 1 = v 0 1 := hA1.1.1.2.1
        have hs : sumI (d + 1) (fun d => b01 (ne v l d = y * v 0 0 + x)) = sumI d (fun d => b01 (ne v l d = y * v 0 0 + x)) + b01 (ne v l d = y * v 0 0 + x) := sumI_s hv16_0
        have hb := sumI_bd (a := 0) (b := 1) (f := (fun d => b01 (ne v l d = y * v 0 0 + x))) hv16_0 (fun i _ _ => by rcases b01_01 (P := ne v l i = y * v 0 0 + x) with q | q <;> omega)
        refine wp_go 6 hM (fr' := (27, [some (.inr 30), some (.inl x), some (.inl y), some (.inl f), some (.inl d)], [.inl ((σ1 30 0) * (σ1 30 1)), .inl d], σ1)) rfl ?_
        refine wp_ic (tgt := 73) hM rfl (by decide) (by omega) (by first | (rw [hw1, hh1]; omega) | fail) (fun c27 => ?_) (fun c27 => ?_)
        · replace c27 := cmp_ge_t c27
          first | (rw [hw1, hh1] at c27) | skip
          refine wp_go 1 hM (fr' := (74, [some (.inr 30), some (.inl x), some (.inl y), some (.inl f), some (.inl d)], [.inl f], σ1)) rfl ?_
          refine wp_ret hM rfl (rfl) ?_
          first | (exact ⟨by unfold aUses us; rw [if_neg (show ¬ ¬ dot v x y from fun q => q c6), hv16_2, show d = v 0 0 * v 0 1 from by omega], MA_Fp h0 hv16_3, Fm_Fp hv16_3⟩) | fail
        · replace c27 := cmp_ge_f c27
          first | (rw [hw1, hh1] at c27) | skip
          first | (have hdm := dmv hR hv16_0 (show d < v 0 0 * v 0 1 by omega)) | skip
          first | (have hdm1 := hdm.1) | skip
          first | (have hni := ne_in h1 hv16_0 (show d < v 0 0 * v 0 1 by omega)) | skip
          refine wp_go 5 hM (fr' := (38, [some (.inr 30), some (.inl x), some (.inl y), some (.inl f), some (.inl d)], [.inl (σ1 30 0), .inl d, .inr 30, .inl f], σ1)) rfl ?_
          refine wp_rem hM rfl (by omega) (by omega) (by omega) ?_
          first | (rw [hw1, (tdm hR hv16_0).1]) | skip
          refine wp_go 3 hM (fr' := (45, [some (.inr 30), some (.inl x), some (.inl y), some (.inl f), some (.inl d)], [.inl (σ1 30 0), .inl d, .inl (d % v 0 0), .inr 30, .inl f], σ1)) rfl ?_
          refine wp_div hM rfl (by omega) (by omega) (by omega) ?_
          first | (rw [hw1, (tdm hR hv16_0).2]) | skip
          refine wp_call (v := 0) (idx := 189) (j := 160) (N := mtX6_nearestOf) (as := [.inr 30, .inl (d % v 0 0), .inl (d / v 0 0)]) (rest := [.inl f]) hM rfl (Or.inl ⟨rfl, rfl⟩) rfl (sp_X6_nearestOf v l σ1 (d % v 0 0) (d / v 0 0) (by first | (first | assumption | omega) | fail) (by first | (first | assumption | omega) | fail) (by first | (first | assumption | omega) | fail)) ?_
          rintro r0 σ_46 ⟨rfl, hf_46⟩
          show mz_Wp shM none 168 (49, [some (.inr 30), some (.inl x), some (.inl y), some (.inl f), some (.inl d)], [.inl (nea v l (d % v 0 0) (d / v 0 0)), .inl f], σ_46) _
          first | (rw [show nea v l (d % v 0 0) (d / v 0 0) = ne v l d from rfl]) | skip
          first | (have hw2 : σ_46 30 0 = v 0 0 := (MA_Fp hA1 hf_46).1.1.1) | skip
          first | (have hdc : (σ_46 30 0) * y + x = y * v 0 0 + x := by rw [hw2, Int.mul_comm]) | skip
          refine wp_go 6 hM (fr' := (57, [some (.inr 30), some (.inl x), some (.inl y), some (.inl f), some (.inl d)], [.inl (((σ_46 30 0) * y) + x), .inl (ne v l d), .inl f], σ_46)) rfl ?_
          refine wp_ic (tgt := 64) hM rfl (by decide) (by omega) (by first | (rw [hdc]; omega) | fail) (fun c57 => ?_) (fun c57 => ?_)
          · replace c57 := cmp_ne_t c57
            first | (rw [hdc] at c57) | skip
            refine wp_go 5 hM (fr' := (16, [some (.inr 30), some (.inl x), some (.inl y), some (.inl (f + 0)), some (.inl (d + 1))], [], σ_46)) rfl ?_
            exact ih16 (f + 0) (d + 1) σ_46 (by omega) (by omega) (by first | (rw [hs]; first | (rw [b01_t c57]; omega) | (rw [b01_f c57]; omega)) | fail) (by first | (exact hv16_3.tr hf_46) | fail) (by omega)
          · replace c57 := cmp_ne_f c57
            first | (rw [hdc] at c57) | skip
            refine wp_go 6 hM (fr' := (16, [some (.inr 30), some (.inl x), some (.inl y), some (.inl (f + 1)), some (.inl (d + 1))], [], σ_46)) rfl ?_
            exact ih16 (f + 1) (d + 1) σ_46 (by omega) (by omega) (by first | (rw [hs]; first | (rw [b01_t c57]; omega) | (rw [b01_f c57]; omega)) | fail) (by first | (exact hv16_3.tr hf_46) | fail) (by omega)
    exact loop16 402 0 0 σ (by omega) (by omega) (by rfl) (by first | (exact Fp.rf) | fail) (by omega)
  · replace c6 := b01_eq0 (cmp_ne_f c6)
    refine wp_go 1 hM (fr' := (10, [some (.inr 30), some (.inl x), some (.inl y), none, none], [.inl (-1)], σ)) rfl ?_
    refine wp_ret hM rfl (rfl) ?_
    first | (exact ⟨by unfold aUses; rw [if_pos c6], h0, Fm.rf⟩) | fail

set_option maxRecDepth 100000 in
set_option maxHeartbeats 4000000 in
theorem sp_X6_laysNearest (v : mz_G) (l : List tr3) (σ : mz_G)  (h0 : MA σ v l) (h1 : GO v l) : mz_Cl shM 169 [.inr 30] σ (fun r σ' => r = none ∧ TK σ' v l (v 0 0 * v 0 1) ∧ Fy σ σ') := by
  have hM : mz_meth[169]? = some mtX6_laysNearest := rfl
  obtain ⟨hB, hSd, ⟨hP0, hP1⟩, ⟨hC0, hC1'⟩, hVr, hn30, hl2⟩ := id h1
  obtain ⟨hR, hT, hLen⟩ := id hB
  obtain ⟨⟨hW0, hW1⟩, ⟨hH0, hH1⟩, ⟨hn0, hn1⟩, hpt⟩ := id hR
  obtain ⟨⟨⟨hc1, hc2, hc3⟩, hcp, hcv⟩, hc4, hct⟩ := id h0
  have hWH := WH_bd hR
  refine mz_Cl.of hM ?_
  show mz_Wp shM none 169 (0, [some (.inr 30), none], [], σ) _
  refine wp_go 2 hM (fr' := (2, [some (.inr 30), some (.inl 0)], [], σ)) rfl ?_
  have loop2 : ∀ (fuel : Nat) (d : Int) (σ1 : mz_G), (0 ≤ d) → (d ≤ v 0 0 * v 0 1) → (TK σ1 v l d) → (Fy σ σ1) → ((v 0 0 * v 0 1 - d : Int) < fuel) → mz_Wp shM none 169 (2, [some (.inr 30), some (.inl d)], [], σ1) (fun r σ' => r = none ∧ TK σ' v l (v 0 0 * v 0 1) ∧ Fy σ σ') := by
    intro fuel
    induction fuel with
    | zero =>
      intro d σ1 hv2_0 hv2_1 hv2_2 hv2_3 hf2
      exfalso
      omega
    | succ fuel ih2 =>
      intro d σ1 hv2_0 hv2_1 hv2_2 hv2_3 hf2
      have hA1 := MA_Fy h0 hv2_3
      have hw1 : σ1 30 0 = v 0 0 := hA1.1.1.1
      have hh1 : σ1 30 1 = v 0 1 := hA1.1.1.2.1
      refine wp_go 6 hM (fr' := (12, [some (.inr 30), some (.inl d)], [.inl ((σ1 30 0) * (σ1 30 1)), .inl d], σ1)) rfl ?_
      refine wp_ic (tgt := 43) hM rfl (by decide) (by omega) (by first | (rw [hw1, hh1]; omega) | fail) (fun c12 => ?_) (fun c12 => ?_)
      · replace c12 := cmp_ge_t c12
        first | (rw [hw1, hh1] at c12) | skip
        refine wp_retv hM rfl rfl ?_
        first | (exact ⟨rfl, by rw [show v 0 0 * v 0 1 = d from by omega]; exact hv2_2, hv2_3⟩) | fail
      · replace c12 := cmp_ge_f c12
        first | (rw [hw1, hh1] at c12) | skip
        first | (have hdm := dmv hR hv2_0 (show d < v 0 0 * v 0 1 by omega)) | skip
        first | (have hdm1 := hdm.1) | skip
        first | (have hni := ne_in h1 hv2_0 (show d < v 0 0 * v 0 1 by omega)) | skip
        refine wp_go 7 hM (fr' := (26, [some (.inr 30), some (.inl d)], [.inl (σ1 30 0), .inl d, .inr 30, .inl d, .inr 37], σ1)) rfl ?_
        refine wp_rem hM rfl (by omega) (by omega) (by omega) ?_
        first | (rw [hw1, (tdm hR hv2_0).1]) | skip
        refine wp_go 3 hM (fr' := (32, [some (.inr 30), some (.inl d)], [.inl (σ1 30 0), .inl d, .inl (d % v 0 0), .inr 30, .inl d, .inr 37], σ1)) rfl ?_
        refine wp_div hM rfl (by omega) (by omega) (by omega) ?_
        first | (rw [hw1, (tdm hR hv2_0).2]) | skip
        refine wp_call (v := 0) (idx := 189) (j := 160) (N := mtX6_nearestOf) (as := [.inr 30, .inl (d % v 0 0), .inl (d / v 0 0)]) (rest := [.inl d, .inr 37]) hM rfl (Or.inl ⟨rfl, rfl⟩) rfl (sp_X6_nearestOf v l σ1 (d % v 0 0) (d / v 0 0) (by first | (first | assumption | omega) | fail) (by first | (first | assumption | omega) | fail) (by first | (first | assumption | omega) | fail)) ?_
        rintro r0 σ_33 ⟨rfl, hf_33⟩
        show mz_Wp shM none 169 (36, [some (.inr 30), some (.inl d)], [.inl (nea v l (d % v 0 0) (d / v 0 0)), .inl d, .inr 37], σ_33) _
        first | (rw [show nea v l (d % v 0 0) (d / v 0 0) = ne v l d from rfl]) | skip
        refine wp_as (n := 400) hM rfl rfl (by omega) (by omega) ?_
        refine wp_go 2 hM (fr' := (2, [some (.inr 30), some (.inl (d + 1))], [], (mz_up σ_33 37 (d).toNat (ne v l d)))) rfl ?_
        exact ih2 (d + 1) (mz_up σ_33 37 (d).toNat (ne v l d)) (by omega) (by omega) (by first | (exact fun j a b => by rcases (show j < d ∨ j = d by omega) with q | q; (rw [up_ni (by omega), hf_33 37 _ (by omega)]; exact hv2_2 j a q); (rw [q]; exact up_eq)) | fail) (by first | (exact (hv2_3.tr (Fy_Fp hf_33)).tr (fun c i a b => up_ne a)) | fail) (by omega)
  exact loop2 402 0 σ (by omega) (by omega) (by first | (exact fun d a b => by omega) | fail) (by first | (exact Fy.rf) | fail) (by omega)

set_option maxRecDepth 100000 in
set_option maxHeartbeats 4000000 in
theorem sp_X6_lost (v : mz_G) (l : List tr3) (σ : mz_G)  (h0 : MA σ v l) (h1 : GO v l) : mz_Cl shM 170 [.inr 30] σ (fun r σ' => r = some (aLost v l) ∧ MA σ' v l ∧ Fm σ σ') := by
  have hM : mz_meth[170]? = some mtX6_lost := rfl
  obtain ⟨hB, hSd, ⟨hP0, hP1⟩, ⟨hC0, hC1'⟩, hVr, hn30, hl2⟩ := id h1
  obtain ⟨hR, hT, hLen⟩ := id hB
  obtain ⟨⟨hW0, hW1⟩, ⟨hH0, hH1⟩, ⟨hn0, hn1⟩, hpt⟩ := id hR
  obtain ⟨⟨⟨hc1, hc2, hc3⟩, hcp, hcv⟩, hc4, hct⟩ := id h0
  have hWH := WH_bd hR
  refine mz_Cl.of hM ?_
  show mz_Wp shM none 170 (0, [some (.inr 30), none, none, none, none], [], σ) _
  refine wp_go 1 hM (fr' := (1, [some (.inr 30), none, none, none, none], [.inr 30], σ)) rfl ?_
  refine wp_call (v := 0) (idx := 235) (j := 169) (N := mtX6_laysNearest) (as := [.inr 30]) (rest := []) hM rfl (Or.inl ⟨rfl, rfl⟩) rfl (sp_X6_laysNearest v l σ  (by first | (first | assumption | omega) | fail) (by first | (first | assumption | omega) | fail)) ?_
  rintro r0 σ_1 ⟨rfl, ht_1, hf_1⟩
  show mz_Wp shM none 170 (4, [some (.inr 30), none, none, none, none], [], σ_1) _
  first | (have hA1 := MA_Fy h0 hf_1) | skip
  first | (have hw1 : σ_1 30 0 = v 0 0 := hA1.1.1.1) | skip
  first | (have hh1 : σ_1 30 1 = v 0 1 := hA1.1.1.2.1) | skip
  refine wp_go 4 hM (fr' := (8, [some (.inr 30), some (.inl 0), some (.inl 0), none, none], [], σ_1)) rfl ?_
  have loop8 : ∀ (fuel : Nat) (f : Int) (k : Int) (d8_3 d8_4 : Option mz_V), (0 ≤ k) → (k ≤ v 0 0 * v 0 1) → (f = sumI k (fun e => b01 (us v l (v 0 0 * v 0 1) e = 0))) → ((v 0 0 * v 0 1 - k : Int) < fuel) → mz_Wp shM none 170 (8, [some (.inr 30), some (.inl f), some (.inl k), d8_3, d8_4], [], σ_1) (fun r σ' => r = some (aLost v l) ∧ MA σ' v l ∧ Fm σ σ') := by
    intro fuel
    induction fuel with
    | zero =>
      intro f k d8_3 d8_4 hv8_0 hv8_1 hv8_2 hf8
      exfalso
      omega
    | succ fuel ih8 =>
      intro f k d8_3 d8_4 hv8_0 hv8_1 hv8_2 hf8
      have hs : sumI (k + 1) (fun e => b01 (us v l (v 0 0 * v 0 1) e = 0)) = sumI k (fun e => b01 (us v l (v 0 0 * v 0 1) e = 0)) + b01 (us v l (v 0 0 * v 0 1) k = 0) := sumI_s hv8_0
      have hb := sumI_bd (a := 0) (b := 1) (f := (fun e => b01 (us v l (v 0 0 * v 0 1) e = 0))) hv8_0 (fun i _ _ => by rcases b01_01 (P := us v l (v 0 0 * v 0 1) i = 0) with q | q <;> omega)
      refine wp_go 6 hM (fr' := (18, [some (.inr 30), some (.inl f), some (.inl k), d8_3, d8_4], [.inl ((σ_1 30 0) * (σ_1 30 1)), .inl k], σ_1)) rfl ?_
      refine wp_ic (tgt := 85) hM rfl (by decide) (by omega) (by first | (rw [hw1, hh1]; omega) | fail) (fun c18 => ?_) (fun c18 => ?_)
      · replace c18 := cmp_ge_t c18
        first | (rw [hw1, hh1] at c18) | skip
        refine wp_go 1 hM (fr' := (86, [some (.inr 30), some (.inl f), some (.inl k), d8_3, d8_4], [.inl f], σ_1)) rfl ?_
        refine wp_ret hM rfl (rfl) ?_
        first | (exact ⟨by unfold aLost; rw [hv8_2, show k = v 0 0 * v 0 1 from by omega], hA1, Fm_Fy hf_1⟩) | fail
      · replace c18 := cmp_ge_f c18
        first | (rw [hw1, hh1] at c18) | skip
        first | (have hu0 := us_0 (v := v) (l := l) (D := v 0 0 * v 0 1) (e := k) (by omega)) | skip
        refine wp_go 4 hM (fr' := (26, [some (.inr 30), some (.inl f), some (.inl k), some (.inl 0), some (.inl 0)], [], σ_1)) rfl ?_
        have loop26 : ∀ (fuel : Nat) (i : Int) (o : Int), (0 ≤ o) → (o ≤ v 0 0 * v 0 1) → ((i = 0 ∧ fstI o (fun d => ne v l d = k) = -1) ∨ (i = 1 ∧ ¬ fstI o (fun d => ne v l d = k) = -1)) → ((v 0 0 * v 0 1 - o : Int) < fuel) → mz_Wp shM none 170 (26, [some (.inr 30), some (.inl f), some (.inl k), some (.inl i), some (.inl o)], [], σ_1) (fun r σ' => r = some (aLost v l) ∧ MA σ' v l ∧ Fm σ σ') := by
          intro fuel
          induction fuel with
          | zero =>
            intro i o hv26_0 hv26_1 hv26_2 hf26
            exfalso
            omega
          | succ fuel ih26 =>
            intro i o hv26_0 hv26_1 hv26_2 hf26
            refine wp_go 6 hM (fr' := (37, [some (.inr 30), some (.inl f), some (.inl k), some (.inl i), some (.inl o)], [.inl ((σ_1 30 0) * (σ_1 30 1)), .inl o], σ_1)) rfl ?_
            refine wp_ic (tgt := 67) hM rfl (by decide) (by omega) (by first | (rw [hw1, hh1]; omega) | fail) (fun c37 => ?_) (fun c37 => ?_)
            · replace c37 := cmp_ge_t c37
              first | (rw [hw1, hh1] at c37) | skip
              first | (have hoE : o = v 0 0 * v 0 1 := by omega) | skip
              first | (rw [hoE] at hv26_2) | skip
              refine wp_go 2 hM (fr' := (69, [some (.inr 30), some (.inl f), some (.inl k), some (.inl i), some (.inl o)], [.inl i, .inl f], σ_1)) rfl ?_
              refine wp_if (tgt := 76) hM rfl (by decide) (by omega) (fun c69 => ?_) (fun c69 => ?_)
              · replace c69 := cmp_eq_t c69
                refine wp_go 5 hM (fr' := (8, [some (.inr 30), some (.inl (f + 1)), some (.inl (k + 1)), some (.inl i), some (.inl o)], [], σ_1)) rfl ?_
                exact ih8 (f + 1) (k + 1) (some (.inl i)) (some (.inl o)) (by omega) (by omega) (by first | (rw [hs]; first | (rw [b01_t (hu0.mpr (by omega))]; omega) | (rw [b01_f (fun z => by have := hu0.mp z; omega)]; omega)) | fail) (by omega)
              · replace c69 := cmp_eq_f c69
                refine wp_go 6 hM (fr' := (8, [some (.inr 30), some (.inl (f + 0)), some (.inl (k + 1)), some (.inl i), some (.inl o)], [], σ_1)) rfl ?_
                exact ih8 (f + 0) (k + 1) (some (.inl i)) (some (.inl o)) (by omega) (by omega) (by first | (rw [hs]; first | (rw [b01_t (hu0.mpr (by omega))]; omega) | (rw [b01_f (fun z => by have := hu0.mp z; omega)]; omega)) | fail) (by omega)
            · replace c37 := cmp_ge_f c37
              first | (rw [hw1, hh1] at c37) | skip
              first | (have hno := ne_in h1 hv26_0 (show o < v 0 0 * v 0 1 by omega)) | skip
              refine wp_go 1 hM (fr' := (41, [some (.inr 30), some (.inl f), some (.inl k), some (.inl i), some (.inl o)], [.inl i], σ_1)) rfl ?_
              refine wp_if (tgt := 55) hM rfl (by decide) (by omega) (fun c41 => ?_) (fun c41 => ?_)
              · replace c41 := cmp_ne_t c41
                refine wp_go 5 hM (fr' := (26, [some (.inr 30), some (.inl f), some (.inl k), some (.inl 1), some (.inl (o + 1))], [], σ_1)) rfl ?_
                exact ih26 1 (o + 1) (by omega) (by omega) (by first | (first | exact Or.inr ⟨rfl, by rw [fstI_yes (t := o) hv26_0 (by omega) (by omega) c52]; omega⟩ | exact Or.inl ⟨rfl, fstI_no hv26_0 (by omega) c52⟩ | exact Or.inr ⟨rfl, fun z => by rcases hv26_2 with q | q; omega; exact q.2 (fstI_nn.mpr (fun j a b => fstI_nn.mp z j a (by omega)))⟩) | fail) (by omega)
              · replace c41 := cmp_ne_f c41
                refine wp_go 3 hM (fr' := (50, [some (.inr 30), some (.inl f), some (.inl k), some (.inl i), some (.inl o)], [.inl o, .inr 37], σ_1)) rfl ?_
                refine wp_al (n := 400) hM rfl (by decide) rfl (by omega) (by omega) ?_
                first | (rw [ht_1 o hv26_0 (by omega)]) | skip
                refine wp_go 1 hM (fr' := (52, [some (.inr 30), some (.inl f), some (.inl k), some (.inl i), some (.inl o)], [.inl k, .inl (ne v l o)], σ_1)) rfl ?_
                refine wp_ic (tgt := 59) hM rfl (by decide) (by omega) (by omega) (fun c52 => ?_) (fun c52 => ?_)
                · replace c52 := cmp_ne_t c52
                  refine wp_go 4 hM (fr' := (26, [some (.inr 30), some (.inl f), some (.inl k), some (.inl 0), some (.inl (o + 1))], [], σ_1)) rfl ?_
                  exact ih26 0 (o + 1) (by omega) (by omega) (by first | (first | exact Or.inr ⟨rfl, by rw [fstI_yes (t := o) hv26_0 (by omega) (by omega) c52]; omega⟩ | exact Or.inl ⟨rfl, fstI_no hv26_0 (by omega) c52⟩ | exact Or.inr ⟨rfl, fun z => by rcases hv26_2 with q | q; omega; exact q.2 (fstI_nn.mpr (fun j a b => fstI_nn.mp z j a (by omega)))⟩) | fail) (by omega)
                · replace c52 := cmp_ne_f c52
                  refine wp_go 5 hM (fr' := (26, [some (.inr 30), some (.inl f), some (.inl k), some (.inl 1), some (.inl (o + 1))], [], σ_1)) rfl ?_
                  exact ih26 1 (o + 1) (by omega) (by omega) (by first | (first | exact Or.inr ⟨rfl, by rw [fstI_yes (t := o) hv26_0 (by omega) (by omega) c52]; omega⟩ | exact Or.inl ⟨rfl, fstI_no hv26_0 (by omega) c52⟩ | exact Or.inr ⟨rfl, fun z => by rcases hv26_2 with q | q; omega; exact q.2 (fstI_nn.mpr (fun j a b => fstI_nn.mp z j a (by omega)))⟩) | fail) (by omega)
        exact loop26 402 0 0 (by omega) (by omega) (by first | (exact Or.inl ⟨rfl, rfl⟩) | fail) (by omega)
  exact loop8 402 0 0 (none) (none) (by omega) (by omega) (by rfl) (by omega)

set_option maxRecDepth 100000 in
set_option maxHeartbeats 4000000 in
theorem sp_X6_trace (v : mz_G) (l : List tr3) (σ : mz_G) (x : Int) (y : Int) (n : Int) (h0 : MA σ v l) (h1 : GO v l) (h2 : mz_R x) (h3 : mz_R y) (h4 : mz_R n) : mz_Cl shM 171 [.inr 30, .inl x, .inl y, .inl n] σ (fun r σ' => r = some (aTrace v l x y n) ∧ MA σ' v l ∧ Fm σ σ') := by
  have hM : mz_meth[171]? = some mtX6_trace := rfl
  obtain ⟨hB, hSd, ⟨hP0, hP1⟩, ⟨hC0, hC1'⟩, hVr, hn30, hl2⟩ := id h1
  obtain ⟨hR, hT, hLen⟩ := id hB
  obtain ⟨⟨hW0, hW1⟩, ⟨hH0, hH1⟩, ⟨hn0, hn1⟩, hpt⟩ := id hR
  obtain ⟨⟨⟨hc1, hc2, hc3⟩, hcp, hcv⟩, hc4, hct⟩ := id h0
  have hWH := WH_bd hR
  refine mz_Cl.of hM ?_
  show mz_Wp shM none 171 (0, [some (.inr 30), some (.inl x), some (.inl y), some (.inl n), none, none], [], σ) _
  refine wp_go 3 hM (fr' := (3, [some (.inr 30), some (.inl x), some (.inl y), some (.inl n), none, none], [.inl y, .inl x, .inr 30], σ)) rfl ?_
  refine wp_calld (v := 0) (idx := 120) (j := 122) (N := mtX6_isDot) (as := [.inr 30, .inl x, .inl y]) (rest := []) hM rfl (Or.inl ⟨rfl, rfl⟩) rfl (sp_X6_isDot v l σ x y (by first | (first | assumption | omega) | fail) (by first | (first | assumption | omega) | fail) (by first | (first | assumption | omega) | fail) (by first | (first | assumption | omega) | fail)) ?_
  show mz_Wp shM none 171 (6, [some (.inr 30), some (.inl x), some (.inl y), some (.inl n), none, none], [.inl (b01 (dot v x y))], σ) _
  refine wp_if (tgt := 19) hM rfl (by decide) b01_R (fun c6 => ?_) (fun c6 => ?_)
  · replace c6 := b01_eq0 (cmp_eq_t c6)
    refine wp_go 1 hM (fr' := (20, [some (.inr 30), some (.inl x), some (.inl y), some (.inl n), none, none], [.inl (-1)], σ)) rfl ?_
    refine wp_ret hM rfl (rfl) ?_
    first | (exact ⟨by unfold aTrace; rw [if_pos (by first | exact Or.inl c6 | exact Or.inr (by omega))], h0, Fm.rf⟩) | fail
  · replace c6 := b01_ne0 (cmp_eq_f c6)
    first | (have hdi := dn_in hR c6) | skip
    first | (have hdc : (σ 30 0) * y + x = y * v 0 0 + x := by rw [hc1, Int.mul_comm]) | skip
    refine wp_go 3 hM (fr' := (13, [some (.inr 30), some (.inl x), some (.inl y), some (.inl n), none, none], [.inl 100, .inl 0, .inl n], σ)) rfl ?_
    refine wp_calld (v := 1) (idx := 116) (j := 103) (N := mtX6_isIn) (as := [.inl n, .inl 0, .inl 100]) (rest := []) hM rfl (Or.inr ⟨rfl, rfl⟩) rfl (sp_X6_isIn  σ n 0 100 (by first | (first | assumption | omega) | fail) (by first | (first | assumption | omega) | fail) (by first | (first | assumption | omega) | fail)) ?_
    show mz_Wp shM none 171 (16, [some (.inr 30), some (.inl x), some (.inl y), some (.inl n), none, none], [.inl (b01 (0 ≤ n ∧ n ≤ 100))], σ) _
    refine wp_if (tgt := 21) hM rfl (by decide) b01_R (fun c16 => ?_) (fun c16 => ?_)
    · replace c16 := b01_ne0 (cmp_ne_t c16)
      refine wp_go 9 hM (fr' := (34, [some (.inr 30), some (.inl x), some (.inl y), some (.inl n), some (.inl (((σ 30 0) * y) + x)), some (.inl 0)], [], σ)) rfl ?_
      have loop34 : ∀ (fuel : Nat) (d : Int) (i : Int) (σ1 : mz_G), (0 ≤ i) → (i ≤ n) → (0 ≤ d ∧ d < v 0 0 * v 0 1) → (d = itN v l i.toNat (y * v 0 0 + x)) → (Fp σ σ1) → ((n - i : Int) < fuel) → mz_Wp shM none 171 (34, [some (.inr 30), some (.inl x), some (.inl y), some (.inl n), some (.inl d), some (.inl i)], [], σ1) (fun r σ' => r = some (aTrace v l x y n) ∧ MA σ' v l ∧ Fm σ σ') := by
        intro fuel
        induction fuel with
        | zero =>
          intro d i σ1 hv34_0 hv34_1 hv34_2 hv34_3 hv34_4 hf34
          exfalso
          omega
        | succ fuel ih34 =>
          intro d i σ1 hv34_0 hv34_1 hv34_2 hv34_3 hv34_4 hf34
          have hA1 := MA_Fp h0 hv34_4
          have hw1 : σ1 30 0 = v 0 0 := hA1.1.1.1
          have hdm := dmv hR hv34_2.1 hv34_2.2
          have hdm1 := hdm.1
          have hni := ne_in h1 hv34_2.1 hv34_2.2
          refine wp_go 2 hM (fr' := (37, [some (.inr 30), some (.inl x), some (.inl y), some (.inl n), some (.inl d), some (.inl i)], [.inl n, .inl i], σ1)) rfl ?_
          refine wp_ic (tgt := 66) hM rfl (by decide) (by omega) (by omega) (fun c37 => ?_) (fun c37 => ?_)
          · replace c37 := cmp_ge_t c37
            refine wp_go 1 hM (fr' := (68, [some (.inr 30), some (.inl x), some (.inl y), some (.inl n), some (.inl d), some (.inl i)], [.inl d], σ1)) rfl ?_
            refine wp_ret hM rfl (rfl) ?_
            first | (exact ⟨by unfold aTrace; rw [if_neg (by intro q; rcases q with q | q; exact q c6; omega), hv34_3, show i = n from by omega], hA1, Fm_Fp hv34_4⟩) | fail
          · replace c37 := cmp_ge_f c37
            refine wp_go 4 hM (fr' := (47, [some (.inr 30), some (.inl x), some (.inl y), some (.inl n), some (.inl d), some (.inl i)], [.inl (σ1 30 0), .inl d, .inr 30], σ1)) rfl ?_
            refine wp_rem hM rfl (by omega) (by omega) (by omega) ?_
            first | (rw [hw1, (tdm hR hv34_2.1).1]) | skip
            refine wp_go 3 hM (fr' := (54, [some (.inr 30), some (.inl x), some (.inl y), some (.inl n), some (.inl d), some (.inl i)], [.inl (σ1 30 0), .inl d, .inl (d % v 0 0), .inr 30], σ1)) rfl ?_
            refine wp_div hM rfl (by omega) (by omega) (by omega) ?_
            first | (rw [hw1, (tdm hR hv34_2.1).2]) | skip
            refine wp_call (v := 0) (idx := 189) (j := 160) (N := mtX6_nearestOf) (as := [.inr 30, .inl (d % v 0 0), .inl (d / v 0 0)]) (rest := []) hM rfl (Or.inl ⟨rfl, rfl⟩) rfl (sp_X6_nearestOf v l σ1 (d % v 0 0) (d / v 0 0) (by first | (first | assumption | omega) | fail) (by first | (first | assumption | omega) | fail) (by first | (first | assumption | omega) | fail)) ?_
            rintro r0 σ_55 ⟨rfl, hf_55⟩
            show mz_Wp shM none 171 (58, [some (.inr 30), some (.inl x), some (.inl y), some (.inl n), some (.inl d), some (.inl i)], [.inl (nea v l (d % v 0 0) (d / v 0 0))], σ_55) _
            first | (rw [show nea v l (d % v 0 0) (d / v 0 0) = ne v l d from rfl]) | skip
            refine wp_go 3 hM (fr' := (34, [some (.inr 30), some (.inl x), some (.inl y), some (.inl n), some (.inl (ne v l d)), some (.inl (i + 1))], [], σ_55)) rfl ?_
            exact ih34 (ne v l d) (i + 1) σ_55 (by omega) (by omega) (by first | (exact hni) | fail) (by first | (rw [show (i + 1).toNat = i.toNat + 1 by omega]; show _ = ne v l (itN v l i.toNat _); rw [← hv34_3]) | fail) (by first | (exact hv34_4.tr hf_55) | fail) (by omega)
      exact loop34 102 (((σ 30 0) * y) + x) 0 σ (by omega) (by omega) (by first | (rw [hdc]; omega) | fail) (by first | (rw [hdc]; rfl) | fail) (by first | (exact Fp.rf) | fail) (by omega)
    · replace c16 := b01_eq0 (cmp_ne_f c16)
      refine wp_go 1 hM (fr' := (20, [some (.inr 30), some (.inl x), some (.inl y), some (.inl n), none, none], [.inl (-1)], σ)) rfl ?_
      refine wp_ret hM rfl (rfl) ?_
      first | (exact ⟨by unfold aTrace; rw [if_pos (by first | exact Or.inl c6 | exact Or.inr (by omega))], h0, Fm.rf⟩) | fail

set_option maxRecDepth 100000 in
set_option maxHeartbeats 4000000 in
theorem sp_X6_loops (v : mz_G) (l : List tr3) (σ : mz_G)  (h0 : MA σ v l) (h1 : GO v l) : mz_Cl shM 172 [.inr 30] σ (fun r σ' => r = some (aLoops v l) ∧ MA σ' v l ∧ Fm σ σ') := by
  have hM : mz_meth[172]? = some mtX6_loops := rfl
  obtain ⟨hB, hSd, ⟨hP0, hP1⟩, ⟨hC0, hC1'⟩, hVr, hn30, hl2⟩ := id h1
  obtain ⟨hR, hT, hLen⟩ := id hB
  obtain ⟨⟨hW0, hW1⟩, ⟨hH0, hH1⟩, ⟨hn0, hn1⟩, hpt⟩ := id hR
  obtain ⟨⟨⟨hc1, hc2, hc3⟩, hcp, hcv⟩, hc4, hct⟩ := id h0
  have hWH := WH_bd hR
  refine mz_Cl.of hM ?_
  show mz_Wp shM none 172 (0, [some (.inr 30), none, none, none, none], [], σ) _
  refine wp_go 1 hM (fr' := (1, [some (.inr 30), none, none, none, none], [.inr 30], σ)) rfl ?_
  refine wp_call (v := 0) (idx := 235) (j := 169) (N := mtX6_laysNearest) (as := [.inr 30]) (rest := []) hM rfl (Or.inl ⟨rfl, rfl⟩) rfl (sp_X6_laysNearest v l σ  (by first | (first | assumption | omega) | fail) (by first | (first | assumption | omega) | fail)) ?_
  rintro r0 σ_1 ⟨rfl, ht_1, hf_1⟩
  show mz_Wp shM none 172 (4, [some (.inr 30), none, none, none, none], [], σ_1) _
  first | (have hA1 := MA_Fy h0 hf_1) | skip
  first | (have hw1 : σ_1 30 0 = v 0 0 := hA1.1.1.1) | skip
  first | (have hh1 : σ_1 30 1 = v 0 1 := hA1.1.1.2.1) | skip
  refine wp_go 4 hM (fr' := (8, [some (.inr 30), some (.inl 0), some (.inl 0), none, none], [], σ_1)) rfl ?_
  have loop8 : ∀ (fuel : Nat) (f : Int) (k : Int) (d8_3 d8_4 : Option mz_V), (0 ≤ k) → (k ≤ v 0 0 * v 0 1) → (f = sumI k (fun k => b01 (¬ fstI (v 0 0 * v 0 1 + 1) (fun n => itN v l (n.toNat + 1) k = k) = -1))) → ((v 0 0 * v 0 1 - k : Int) < fuel) → mz_Wp shM none 172 (8, [some (.inr 30), some (.inl f), some (.inl k), d8_3, d8_4], [], σ_1) (fun r σ' => r = some (aLoops v l) ∧ MA σ' v l ∧ Fm σ σ') := by
    intro fuel
    induction fuel with
    | zero =>
      intro f k d8_3 d8_4 hv8_0 hv8_1 hv8_2 hf8
      exfalso
      omega
    | succ fuel ih8 =>
      intro f k d8_3 d8_4 hv8_0 hv8_1 hv8_2 hf8
      have hs : sumI (k + 1) (fun k => b01 (¬ fstI (v 0 0 * v 0 1 + 1) (fun n => itN v l (n.toNat + 1) k = k) = -1)) = sumI k (fun k => b01 (¬ fstI (v 0 0 * v 0 1 + 1) (fun n => itN v l (n.toNat + 1) k = k) = -1)) + b01 (¬ fstI (v 0 0 * v 0 1 + 1) (fun n => itN v l (n.toNat + 1) k = k) = -1) := sumI_s hv8_0
      have hb := sumI_bd (a := 0) (b := 1) (f := (fun k => b01 (¬ fstI (v 0 0 * v 0 1 + 1) (fun n => itN v l (n.toNat + 1) k = k) = -1))) hv8_0 (fun i _ _ => by rcases b01_01 (P := ¬ fstI (v 0 0 * v 0 1 + 1) (fun n => itN v l (n.toNat + 1) i = i) = -1) with q | q <;> omega)
      refine wp_go 6 hM (fr' := (18, [some (.inr 30), some (.inl f), some (.inl k), d8_3, d8_4], [.inl ((σ_1 30 0) * (σ_1 30 1)), .inl k], σ_1)) rfl ?_
      refine wp_ic (tgt := 82) hM rfl (by decide) (by omega) (by first | (rw [hw1, hh1]; omega) | fail) (fun c18 => ?_) (fun c18 => ?_)
      · replace c18 := cmp_ge_t c18
        first | (rw [hw1, hh1] at c18) | skip
        refine wp_go 1 hM (fr' := (83, [some (.inr 30), some (.inl f), some (.inl k), d8_3, d8_4], [.inl f], σ_1)) rfl ?_
        refine wp_ret hM rfl (rfl) ?_
        first | (exact ⟨by unfold aLoops; rw [hv8_2, show k = v 0 0 * v 0 1 from by omega], hA1, Fm_Fy hf_1⟩) | fail
      · replace c18 := cmp_ge_f c18
        first | (rw [hw1, hh1] at c18) | skip
        first | (have hnk := ne_in h1 hv8_0 (show k < v 0 0 * v 0 1 by omega)) | skip
        refine wp_go 3 hM (fr' := (26, [some (.inr 30), some (.inl f), some (.inl k), d8_3, d8_4], [.inl k, .inr 37], σ_1)) rfl ?_
        refine wp_al (n := 400) hM rfl (by decide) rfl (by omega) (by omega) ?_
        first | (rw [ht_1 k hv8_0 (by omega)]) | skip
        refine wp_go 3 hM (fr' := (31, [some (.inr 30), some (.inl f), some (.inl k), some (.inl (ne v l k)), some (.inl 0)], [], σ_1)) rfl ?_
        have loop31 : ∀ (fuel : Nat) (a : Int) (i : Int), (0 ≤ i) → (i ≤ v 0 0 * v 0 1) → (0 ≤ a ∧ a < v 0 0 * v 0 1) → (a = itN v l (i.toNat + 1) k) → (fstI i (fun n => itN v l (n.toNat + 1) k = k) = -1) → ((v 0 0 * v 0 1 - i : Int) < fuel) → mz_Wp shM none 172 (31, [some (.inr 30), some (.inl f), some (.inl k), some (.inl a), some (.inl i)], [], σ_1) (fun r σ' => r = some (aLoops v l) ∧ MA σ' v l ∧ Fm σ σ') := by
          intro fuel
          induction fuel with
          | zero =>
            intro a i hv31_0 hv31_1 hv31_2 hv31_3 hv31_4 hf31
            exfalso
            omega
          | succ fuel ih31 =>
            intro a i hv31_0 hv31_1 hv31_2 hv31_3 hv31_4 hf31
            have hna := ne_in h1 hv31_2.1 hv31_2.2
            refine wp_go 6 hM (fr' := (42, [some (.inr 30), some (.inl f), some (.inl k), some (.inl a), some (.inl i)], [.inl ((σ_1 30 0) * (σ_1 30 1)), .inl i], σ_1)) rfl ?_
            refine wp_ic (tgt := 63) hM rfl (by decide) (by omega) (by first | (rw [hw1, hh1]; omega) | fail) (fun c42 => ?_) (fun c42 => ?_)
            · replace c42 := cmp_ge_t c42
              first | (rw [hw1, hh1] at c42) | skip
              refine wp_go 3 hM (fr' := (66, [some (.inr 30), some (.inl f), some (.inl k), some (.inl a), some (.inl i)], [.inl k, .inl a, .inl f], σ_1)) rfl ?_
              refine wp_ic (tgt := 73) hM rfl (by decide) (by omega) (by omega) (fun c66 => ?_) (fun c66 => ?_)
              · replace c66 := cmp_ne_t c66
                refine wp_go 5 hM (fr' := (8, [some (.inr 30), some (.inl (f + 0)), some (.inl (k + 1)), some (.inl a), some (.inl i)], [], σ_1)) rfl ?_
                exact ih8 (f + 0) (k + 1) (some (.inl a)) (some (.inl i)) (by omega) (by omega) (by first | (rw [hs]; first | (rw [b01_t (by rw [fstI_yes (t := i) (P := fun n => itN v l (n.toNat + 1) k = k) hv31_0 (by omega) hv31_4 (by show itN v l (i.toNat + 1) k = k; rw [← hv31_3]; exact c66)]; omega)]; omega) | (rw [b01_f (fun z => z (by rw [show v 0 0 * v 0 1 = i by omega]; exact fstI_no hv31_0 hv31_4 (by show ¬ itN v l (i.toNat + 1) k = k; rw [← hv31_3]; exact c66)))]; omega) | (exfalso; omega)) | fail) (by omega)
              · replace c66 := cmp_ne_f c66
                refine wp_go 6 hM (fr' := (8, [some (.inr 30), some (.inl (f + 1)), some (.inl (k + 1)), some (.inl a), some (.inl i)], [], σ_1)) rfl ?_
                exact ih8 (f + 1) (k + 1) (some (.inl a)) (some (.inl i)) (by omega) (by omega) (by first | (rw [hs]; first | (rw [b01_t (by rw [fstI_yes (t := i) (P := fun n => itN v l (n.toNat + 1) k = k) hv31_0 (by omega) hv31_4 (by show itN v l (i.toNat + 1) k = k; rw [← hv31_3]; exact c66)]; omega)]; omega) | (rw [b01_f (fun z => z (by rw [show v 0 0 * v 0 1 = i by omega]; exact fstI_no hv31_0 hv31_4 (by show ¬ itN v l (i.toNat + 1) k = k; rw [← hv31_3]; exact c66)))]; omega) | (exfalso; omega)) | fail) (by omega)
            · replace c42 := cmp_ge_f c42
              first | (rw [hw1, hh1] at c42) | skip
              refine wp_go 2 hM (fr' := (47, [some (.inr 30), some (.inl f), some (.inl k), some (.inl a), some (.inl i)], [.inl k, .inl a], σ_1)) rfl ?_
              refine wp_ic (tgt := 63) hM rfl (by decide) (by omega) (by omega) (fun c47 => ?_) (fun c47 => ?_)
              · replace c47 := cmp_eq_t c47
                refine wp_go 3 hM (fr' := (66, [some (.inr 30), some (.inl f), some (.inl k), some (.inl a), some (.inl i)], [.inl k, .inl a, .inl f], σ_1)) rfl ?_
                refine wp_ic (tgt := 73) hM rfl (by decide) (by omega) (by omega) (fun c66 => ?_) (fun c66 => ?_)
                · replace c66 := cmp_ne_t c66
                  refine wp_go 5 hM (fr' := (8, [some (.inr 30), some (.inl (f + 0)), some (.inl (k + 1)), some (.inl a), some (.inl i)], [], σ_1)) rfl ?_
                  exact ih8 (f + 0) (k + 1) (some (.inl a)) (some (.inl i)) (by omega) (by omega) (by first | (rw [hs]; first | (rw [b01_t (by rw [fstI_yes (t := i) (P := fun n => itN v l (n.toNat + 1) k = k) hv31_0 (by omega) hv31_4 (by show itN v l (i.toNat + 1) k = k; rw [← hv31_3]; exact c66)]; omega)]; omega) | (rw [b01_f (fun z => z (by rw [show v 0 0 * v 0 1 = i by omega]; exact fstI_no hv31_0 hv31_4 (by show ¬ itN v l (i.toNat + 1) k = k; rw [← hv31_3]; exact c66)))]; omega) | (exfalso; omega)) | fail) (by omega)
                · replace c66 := cmp_ne_f c66
                  refine wp_go 6 hM (fr' := (8, [some (.inr 30), some (.inl (f + 1)), some (.inl (k + 1)), some (.inl a), some (.inl i)], [], σ_1)) rfl ?_
                  exact ih8 (f + 1) (k + 1) (some (.inl a)) (some (.inl i)) (by omega) (by omega) (by first | (rw [hs]; first | (rw [b01_t (by rw [fstI_yes (t := i) (P := fun n => itN v l (n.toNat + 1) k = k) hv31_0 (by omega) hv31_4 (by show itN v l (i.toNat + 1) k = k; rw [← hv31_3]; exact c66)]; omega)]; omega) | (rw [b01_f (fun z => z (by rw [show v 0 0 * v 0 1 = i by omega]; exact fstI_no hv31_0 hv31_4 (by show ¬ itN v l (i.toNat + 1) k = k; rw [← hv31_3]; exact c66)))]; omega) | (exfalso; omega)) | fail) (by omega)
              · replace c47 := cmp_eq_f c47
                refine wp_go 3 hM (fr' := (55, [some (.inr 30), some (.inl f), some (.inl k), some (.inl a), some (.inl i)], [.inl a, .inr 37], σ_1)) rfl ?_
                refine wp_al (n := 400) hM rfl (by decide) rfl (by omega) (by omega) ?_
                first | (rw [ht_1 a hv31_2.1 hv31_2.2]) | skip
                refine wp_go 3 hM (fr' := (31, [some (.inr 30), some (.inl f), some (.inl k), some (.inl (ne v l a)), some (.inl (i + 1))], [], σ_1)) rfl ?_
                exact ih31 (ne v l a) (i + 1) (by omega) (by omega) (by first | (exact hna) | fail) (by first | (rw [show (i + 1).toNat + 1 = (i.toNat + 1) + 1 by omega]; show _ = ne v l (itN v l (i.toNat + 1) k); rw [← hv31_3]) | fail) (by first | (exact fstI_no hv31_0 hv31_4 (by show ¬ itN v l (i.toNat + 1) k = k; rw [← hv31_3]; exact c47)) | fail) (by omega)
        exact loop31 402 (ne v l k) 0 (by omega) (by omega) (by first | (exact hnk) | fail) (by rfl) (by rfl) (by omega)
  exact loop8 402 0 0 (none) (none) (by omega) (by omega) (by rfl) (by omega)

set_option maxRecDepth 100000 in
set_option maxHeartbeats 4000000 in
theorem sp_X6_between (v : mz_G) (l : List tr3) (σ : mz_G) (a : Int) (b : Int) (t : Int)  : mz_Cl shM 175 [.inr 30, .inl a, .inl b, .inl t] σ (fun r σ' => r = some ((8 - t) * a + t * b) ∧ σ' = σ) := by
  have hM : mz_meth[175]? = some mtX6_between := rfl
  refine mz_Cl.of hM ?_
  show mz_Wp shM none 175 (0, [some (.inr 30), some (.inl a), some (.inl b), some (.inl t)], [], σ) _
  refine wp_go 9 hM (fr' := (10, [some (.inr 30), some (.inl a), some (.inl b), some (.inl t)], [.inl (((8 - t) * a) + (t * b))], σ)) rfl ?_
  refine wp_ret hM rfl (rfl) ?_
  first | (exact ⟨rfl, rfl⟩) | fail

set_option maxRecDepth 100000 in
set_option maxHeartbeats 4000000 in
theorem sp_X6_bent (v : mz_G) (l : List tr3) (σ : mz_G) (t : Int) (h0 : MA σ v l) (h1 : GO v l) (h2 : mz_R t) : mz_Cl shM 176 [.inr 30, .inl t] σ (fun r σ' => r = some (aBent v l t) ∧ MA σ' v l ∧ Fm σ σ') := by
  have hM : mz_meth[176]? = some mtX6_bent := rfl
  obtain ⟨hB, hSd, ⟨hP0, hP1⟩, ⟨hC0, hC1'⟩, hVr, hn30, hl2⟩ := id h1
  obtain ⟨hR, hT, hLen⟩ := id hB
  obtain ⟨⟨hW0, hW1⟩, ⟨hH0, hH1⟩, ⟨hn0, hn1⟩, hpt⟩ := id hR
  obtain ⟨⟨⟨hc1, hc2, hc3⟩, hcp, hcv⟩, hc4, hct⟩ := id h0
  have hWH := WH_bd hR
  refine mz_Cl.of hM ?_
  show mz_Wp shM none 176 (0, [some (.inr 30), some (.inl t), none, none, none, none, none, none], [], σ) _
  refine wp_go 3 hM (fr' := (4, [some (.inr 30), some (.inl t), none, none, none, none, none, none], [.inl 8, .inl 0, .inl t], σ)) rfl ?_
  refine wp_calld (v := 1) (idx := 116) (j := 103) (N := mtX6_isIn) (as := [.inl t, .inl 0, .inl 8]) (rest := []) hM rfl (Or.inr ⟨rfl, rfl⟩) rfl (sp_X6_isIn  σ t 0 8 (by first | (first | assumption | omega) | fail) (by first | (first | assumption | omega) | fail) (by first | (first | assumption | omega) | fail)) ?_
  show mz_Wp shM none 176 (7, [some (.inr 30), some (.inl t), none, none, none, none, none, none], [.inl (b01 (0 ≤ t ∧ t ≤ 8))], σ) _
  refine wp_if (tgt := 12) hM rfl (by decide) b01_R (fun c7 => ?_) (fun c7 => ?_)
  · replace c7 := b01_ne0 (cmp_ne_t c7)
    refine wp_go 4 hM (fr' := (16, [some (.inr 30), some (.inl t), some (.inl 0), some (.inl 0), none, none, none, none], [], σ)) rfl ?_
    have loop16 : ∀ (fuel : Nat) (f : Int) (i : Int) (d16_4 d16_5 d16_6 d16_7 : Option mz_V), (0 ≤ i) → (i ≤ (l.length : Int)) → (f = sumI i (fun i => b01 (war v t (tg l i) ≤ 0))) → (((l.length : Int) - i : Int) < fuel) → mz_Wp shM none 176 (16, [some (.inr 30), some (.inl t), some (.inl f), some (.inl i), d16_4, d16_5, d16_6, d16_7], [], σ) (fun r σ' => r = some (aBent v l t) ∧ MA σ' v l ∧ Fm σ σ') := by
      intro fuel
      induction fuel with
      | zero =>
        intro f i d16_4 d16_5 d16_6 d16_7 hv16_0 hv16_1 hv16_2 hf16
        exfalso
        omega
      | succ fuel ih16 =>
        intro f i d16_4 d16_5 d16_6 d16_7 hv16_0 hv16_1 hv16_2 hf16
        have hs : sumI (i + 1) (fun i => b01 (war v t (tg l i) ≤ 0)) = sumI i (fun i => b01 (war v t (tg l i) ≤ 0)) + b01 (war v t (tg l i) ≤ 0) := sumI_s hv16_0
        have hb := sumI_bd (a := 0) (b := 1) (f := (fun i => b01 (war v t (tg l i) ≤ 0))) hv16_0 (fun j _ _ => by rcases b01_01 (P := war v t (tg l j) ≤ 0) with q | q <;> omega)
        refine wp_go 3 hM (fr' := (21, [some (.inr 30), some (.inl t), some (.inl f), some (.inl i), d16_4, d16_5, d16_6, d16_7], [.inl (σ 30 3), .inl i], σ)) rfl ?_
        refine wp_ic (tgt := 186) hM rfl (by decide) (by omega) (by omega) (fun c21 => ?_) (fun c21 => ?_)
        · replace c21 := cmp_ge_t c21
          refine wp_go 1 hM (fr' := (187, [some (.inr 30), some (.inl t), some (.inl f), some (.inl i), d16_4, d16_5, d16_6, d16_7], [.inl f], σ)) rfl ?_
          refine wp_ret hM rfl (rfl) ?_
          first | (exact ⟨by unfold aBent; rw [if_neg (by omega), hv16_2, show i = (l.length : Int) from by omega], h0, Fm.rf⟩) | fail
        · replace c21 := cmp_ge_f c21
          first | (have htt := Rt_at hT hv16_0 (show i < (l.length : Int) by omega)) | skip
          first | (have hp0 := MA_pt h0 htt.1.1 htt.1.2) | skip
          first | (have hp1 := MA_pt h0 htt.2.1.1 htt.2.1.2) | skip
          first | (have hp2 := MA_pt h0 htt.2.2.1 htt.2.2.2) | skip
          first | (have hwb := war_bd (t := t) hR (by omega) htt) | skip
          refine wp_go 3 hM (fr' := (27, [some (.inr 30), some (.inl t), some (.inl f), some (.inl i), d16_4, d16_5, d16_6, d16_7], [.inl 0, .inl i, .inr 30], σ)) rfl ?_
          refine wp_calld (v := 0) (idx := 85) (j := 111) (N := mtX6_at) (as := [.inr 30, .inl i, .inl 0]) (rest := []) hM rfl (Or.inl ⟨rfl, rfl⟩) rfl (sp_X6_at_0 v l σ i (by first | (first | assumption | omega) | fail) (by first | (first | assumption | omega) | fail) (by first | (first | assumption | omega) | fail) (by first | (first | assumption | omega) | fail)) ?_
          show mz_Wp shM none 176 (30, [some (.inr 30), some (.inl t), some (.inl f), some (.inl i), d16_4, d16_5, d16_6, d16_7], [.inl ((tg l i).1)], σ) _
          refine wp_go 4 hM (fr' := (35, [some (.inr 30), some (.inl t), some (.inl f), some (.inl i), some (.inl ((tg l i).1)), d16_5, d16_6, d16_7], [.inl 1, .inl i, .inr 30], σ)) rfl ?_
          refine wp_calld (v := 0) (idx := 85) (j := 111) (N := mtX6_at) (as := [.inr 30, .inl i, .inl 1]) (rest := []) hM rfl (Or.inl ⟨rfl, rfl⟩) rfl (sp_X6_at_1 v l σ i (by first | (first | assumption | omega) | fail) (by first | (first | assumption | omega) | fail) (by first | (first | assumption | omega) | fail) (by first | (first | assumption | omega) | fail)) ?_
          show mz_Wp shM none 176 (38, [some (.inr 30), some (.inl t), some (.inl f), some (.inl i), some (.inl ((tg l i).1)), d16_5, d16_6, d16_7], [.inl ((tg l i).2.1)], σ) _
          refine wp_go 4 hM (fr' := (43, [some (.inr 30), some (.inl t), some (.inl f), some (.inl i), some (.inl ((tg l i).1)), some (.inl ((tg l i).2.1)), d16_6, d16_7], [.inl 2, .inl i, .inr 30], σ)) rfl ?_
          refine wp_calld (v := 0) (idx := 85) (j := 111) (N := mtX6_at) (as := [.inr 30, .inl i, .inl 2]) (rest := []) hM rfl (Or.inl ⟨rfl, rfl⟩) rfl (sp_X6_at_2 v l σ i (by first | (first | assumption | omega) | fail) (by first | (first | assumption | omega) | fail) (by first | (first | assumption | omega) | fail) (by first | (first | assumption | omega) | fail)) ?_
          show mz_Wp shM none 176 (46, [some (.inr 30), some (.inl t), some (.inl f), some (.inl i), some (.inl ((tg l i).1)), some (.inl ((tg l i).2.1)), d16_6, d16_7], [.inl ((tg l i).2.2)], σ) _
          refine wp_go 5 hM (fr' := (55, [some (.inr 30), some (.inl t), some (.inl f), some (.inl i), some (.inl ((tg l i).1)), some (.inl ((tg l i).2.1)), some (.inl ((tg l i).2.2)), d16_7], [.inl ((tg l i).1), .inr 31, .inr 30], σ)) rfl ?_
          refine wp_al (n := 31) hM rfl (by decide) rfl (by omega) (by omega) ?_
          first | (rw [hp0.1]) | skip
          refine wp_go 3 hM (fr' := (62, [some (.inr 30), some (.inl t), some (.inl f), some (.inl i), some (.inl ((tg l i).1)), some (.inl ((tg l i).2.1)), some (.inl ((tg l i).2.2)), d16_7], [.inl ((tg l i).1), .inr 33, .inl (gx v 0 (tg l i).1), .inr 30], σ)) rfl ?_
          refine wp_al (n := 31) hM rfl (by decide) rfl (by omega) (by omega) ?_
          first | (rw [hp0.2.2.1]) | skip
          refine wp_go 1 hM (fr' := (64, [some (.inr 30), some (.inl t), some (.inl f), some (.inl i), some (.inl ((tg l i).1)), some (.inl ((tg l i).2.1)), some (.inl ((tg l i).2.2)), d16_7], [.inl t, .inl (gx v 1 (tg l i).1), .inl (gx v 0 (tg l i).1), .inr 30], σ)) rfl ?_
          refine wp_calld (v := 0) (idx := 238) (j := 175) (N := mtX6_between) (as := [.inr 30, .inl (gx v 0 (tg l i).1), .inl (gx v 1 (tg l i).1), .inl t]) (rest := []) hM rfl (Or.inl ⟨rfl, rfl⟩) rfl (sp_X6_between v l σ (gx v 0 (tg l i).1) (gx v 1 (tg l i).1) t ) ?_
          show mz_Wp shM none 176 (67, [some (.inr 30), some (.inl t), some (.inl f), some (.inl i), some (.inl ((tg l i).1)), some (.inl ((tg l i).2.1)), some (.inl ((tg l i).2.2)), d16_7], [.inl ((8 - t) * (gx v 0 (tg l i).1) + t * (gx v 1 (tg l i).1))], σ) _
          refine wp_go 4 hM (fr' := (74, [some (.inr 30), some (.inl t), some (.inl f), some (.inl i), some (.inl ((tg l i).1)), some (.inl ((tg l i).2.1)), some (.inl ((tg l i).2.2)), d16_7], [.inl ((tg l i).1), .inr 32, .inr 30, .inl ((8 - t) * (gx v 0 (tg l i).1) + t * (gx v 1 (tg l i).1))], σ)) rfl ?_
          refine wp_al (n := 31) hM rfl (by decide) rfl (by omega) (by omega) ?_
          first | (rw [hp0.2.1]) | skip
          refine wp_go 3 hM (fr' := (81, [some (.inr 30), some (.inl t), some (.inl f), some (.inl i), some (.inl ((tg l i).1)), some (.inl ((tg l i).2.1)), some (.inl ((tg l i).2.2)), d16_7], [.inl ((tg l i).1), .inr 34, .inl (gy v 0 (tg l i).1), .inr 30, .inl ((8 - t) * (gx v 0 (tg l i).1) + t * (gx v 1 (tg l i).1))], σ)) rfl ?_
          refine wp_al (n := 31) hM rfl (by decide) rfl (by omega) (by omega) ?_
          first | (rw [hp0.2.2.2]) | skip
          refine wp_go 1 hM (fr' := (83, [some (.inr 30), some (.inl t), some (.inl f), some (.inl i), some (.inl ((tg l i).1)), some (.inl ((tg l i).2.1)), some (.inl ((tg l i).2.2)), d16_7], [.inl t, .inl (gy v 1 (tg l i).1), .inl (gy v 0 (tg l i).1), .inr 30, .inl ((8 - t) * (gx v 0 (tg l i).1) + t * (gx v 1 (tg l i).1))], σ)) rfl ?_
          refine wp_calld (v := 0) (idx := 238) (j := 175) (N := mtX6_between) (as := [.inr 30, .inl (gy v 0 (tg l i).1), .inl (gy v 1 (tg l i).1), .inl t]) (rest := [.inl ((8 - t) * (gx v 0 (tg l i).1) + t * (gx v 1 (tg l i).1))]) hM rfl (Or.inl ⟨rfl, rfl⟩) rfl (sp_X6_between v l σ (gy v 0 (tg l i).1) (gy v 1 (tg l i).1) t ) ?_
          show mz_Wp shM none 176 (86, [some (.inr 30), some (.inl t), some (.inl f), some (.inl i), some (.inl ((tg l i).1)), some (.inl ((tg l i).2.1)), some (.inl ((tg l i).2.2)), d16_7], [.inl ((8 - t) * (gy v 0 (tg l i).1) + t * (gy v 1 (tg l i).1)), .inl ((8 - t) * (gx v 0 (tg l i).1) + t * (gx v 1 (tg l i).1))], σ) _
          refine wp_go 4 hM (fr' := (93, [some (.inr 30), some (.inl t), some (.inl f), some (.inl i), some (.inl ((tg l i).1)), some (.inl ((tg l i).2.1)), some (.inl ((tg l i).2.2)), d16_7], [.inl ((tg l i).2.1), .inr 31, .inr 30, .inl ((8 - t) * (gy v 0 (tg l i).1) + t * (gy v 1 (tg l i).1)), .inl ((8 - t) * (gx v 0 (tg l i).1) + t * (gx v 1 (tg l i).1))], σ)) rfl ?_
          refine wp_al (n := 31) hM rfl (by decide) rfl (by omega) (by omega) ?_
          first | (rw [hp1.1]) | skip
          refine wp_go 3 hM (fr' := (100, [some (.inr 30), some (.inl t), some (.inl f), some (.inl i), some (.inl ((tg l i).1)), some (.inl ((tg l i).2.1)), some (.inl ((tg l i).2.2)), d16_7], [.inl ((tg l i).2.1), .inr 33, .inl (gx v 0 (tg l i).2.1), .inr 30, .inl ((8 - t) * (gy v 0 (tg l i).1) + t * (gy v 1 (tg l i).1)), .inl ((8 - t) * (gx v 0 (tg l i).1) + t * (gx v 1 (tg l i).1))], σ)) rfl ?_
          refine wp_al (n := 31) hM rfl (by decide) rfl (by omega) (by omega) ?_
          first | (rw [hp1.2.2.1]) | skip
          refine wp_go 1 hM (fr' := (102, [some (.inr 30), some (.inl t), some (.inl f), some (.inl i), some (.inl ((tg l i).1)), some (.inl ((tg l i).2.1)), some (.inl ((tg l i).2.2)), d16_7], [.inl t, .inl (gx v 1 (tg l i).2.1), .inl (gx v 0 (tg l i).2.1), .inr 30, .inl ((8 - t) * (gy v 0 (tg l i).1) + t * (gy v 1 (tg l i).1)), .inl ((8 - t) * (gx v 0 (tg l i).1) + t * (gx v 1 (tg l i).1))], σ)) rfl ?_
          refine wp_calld (v := 0) (idx := 238) (j := 175) (N := mtX6_between) (as := [.inr 30, .inl (gx v 0 (tg l i).2.1), .inl (gx v 1 (tg l i).2.1), .inl t]) (rest := [.inl ((8 - t) * (gy v 0 (tg l i).1) + t * (gy v 1 (tg l i).1)), .inl ((8 - t) * (gx v 0 (tg l i).1) + t * (gx v 1 (tg l i).1))]) hM rfl (Or.inl ⟨rfl, rfl⟩) rfl (sp_X6_between v l σ (gx v 0 (tg l i).2.1) (gx v 1 (tg l i).2.1) t ) ?_
          show mz_Wp shM none 176 (105, [some (.inr 30), some (.inl t), some (.inl f), some (.inl i), some (.inl ((tg l i).1)), some (.inl ((tg l i).2.1)), some (.inl ((tg l i).2.2)), d16_7], [.inl ((8 - t) * (gx v 0 (tg l i).2.1) + t * (gx v 1 (tg l i).2.1)), .inl ((8 - t) * (gy v 0 (tg l i).1) + t * (gy v 1 (tg l i).1)), .inl ((8 - t) * (gx v 0 (tg l i).1) + t * (gx v 1 (tg l i).1))], σ) _
          refine wp_go 4 hM (fr' := (112, [some (.inr 30), some (.inl t), some (.inl f), some (.inl i), some (.inl ((tg l i).1)), some (.inl ((tg l i).2.1)), some (.inl ((tg l i).2.2)), d16_7], [.inl ((tg l i).2.1), .inr 32, .inr 30, .inl ((8 - t) * (gx v 0 (tg l i).2.1) + t * (gx v 1 (tg l i).2.1)), .inl ((8 - t) * (gy v 0 (tg l i).1) + t * (gy v 1 (tg l i).1)), .inl ((8 - t) * (gx v 0 (tg l i).1) + t * (gx v 1 (tg l i).1))], σ)) rfl ?_
          refine wp_al (n := 31) hM rfl (by decide) rfl (by omega) (by omega) ?_
          first | (rw [hp1.2.1]) | skip
          refine wp_go 3 hM (fr' := (119, [some (.inr 30), some (.inl t), some (.inl f), some (.inl i), some (.inl ((tg l i).1)), some (.inl ((tg l i).2.1)), some (.inl ((tg l i).2.2)), d16_7], [.inl ((tg l i).2.1), .inr 34, .inl (gy v 0 (tg l i).2.1), .inr 30, .inl ((8 - t) * (gx v 0 (tg l i).2.1) + t * (gx v 1 (tg l i).2.1)), .inl ((8 - t) * (gy v 0 (tg l i).1) + t * (gy v 1 (tg l i).1)), .inl ((8 - t) * (gx v 0 (tg l i).1) + t * (gx v 1 (tg l i).1))], σ)) rfl ?_
          refine wp_al (n := 31) hM rfl (by decide) rfl (by omega) (by omega) ?_
          first | (rw [hp1.2.2.2]) | skip
          refine wp_go 1 hM (fr' := (121, [some (.inr 30), some (.inl t), some (.inl f), some (.inl i), some (.inl ((tg l i).1)), some (.inl ((tg l i).2.1)), some (.inl ((tg l i).2.2)), d16_7], [.inl t, .inl (gy v 1 (tg l i).2.1), .inl (gy v 0 (tg l i).2.1), .inr 30, .inl ((8 - t) * (gx v 0 (tg l i).2.1) + t * (gx v 1 (tg l i).2.1)), .inl ((8 - t) * (gy v 0 (tg l i).1) + t * (gy v 1 (tg l i).1)), .inl ((8 - t) * (gx v 0 (tg l i).1) + t * (gx v 1 (tg l i).1))], σ)) rfl ?_
          refine wp_calld (v := 0) (idx := 238) (j := 175) (N := mtX6_between) (as := [.inr 30, .inl (gy v 0 (tg l i).2.1), .inl (gy v 1 (tg l i).2.1), .inl t]) (rest := [.inl ((8 - t) * (gx v 0 (tg l i).2.1) + t * (gx v 1 (tg l i).2.1)), .inl ((8 - t) * (gy v 0 (tg l i).1) + t * (gy v 1 (tg l i).1)), .inl ((8 - t) * (gx v 0 (tg l i).1) + t * (gx v 1 (tg l i).1))]) hM rfl (Or.inl ⟨rfl, rfl⟩) rfl (sp_X6_between v l σ (gy v 0 (tg l i).2.1) (gy v 1 (tg l i).2.1) t ) ?_
          show mz_Wp shM none 176 (124, [some (.inr 30), some (.inl t), some (.inl f), some (.inl i), some (.inl ((tg l i).1)), some (.inl ((tg l i).2.1)), some (.inl ((tg l i).2.2)), d16_7], [.inl ((8 - t) * (gy v 0 (tg l i).2.1) + t * (gy v 1 (tg l i).2.1)), .inl ((8 - t) * (gx v 0 (tg l i).2.1) + t * (gx v 1 (tg l i).2.1)), .inl ((8 - t) * (gy v 0 (tg l i).1) + t * (gy v 1 (tg l i).1)), .inl ((8 - t) * (gx v 0 (tg l i).1) + t * (gx v 1 (tg l i).1))], σ) _
          refine wp_go 4 hM (fr' := (131, [some (.inr 30), some (.inl t), some (.inl f), some (.inl i), some (.inl ((tg l i).1)), some (.inl ((tg l i).2.1)), some (.inl ((tg l i).2.2)), d16_7], [.inl ((tg l i).2.2), .inr 31, .inr 30, .inl ((8 - t) * (gy v 0 (tg l i).2.1) + t * (gy v 1 (tg l i).2.1)), .inl ((8 - t) * (gx v 0 (tg l i).2.1) + t * (gx v 1 (tg l i).2.1)), .inl ((8 - t) * (gy v 0 (tg l i).1) + t * (gy v 1 (tg l i).1)), .inl ((8 - t) * (gx v 0 (tg l i).1) + t * (gx v 1 (tg l i).1))], σ)) rfl ?_
          refine wp_al (n := 31) hM rfl (by decide) rfl (by omega) (by omega) ?_
          first | (rw [hp2.1]) | skip
          refine wp_go 3 hM (fr' := (138, [some (.inr 30), some (.inl t), some (.inl f), some (.inl i), some (.inl ((tg l i).1)), some (.inl ((tg l i).2.1)), some (.inl ((tg l i).2.2)), d16_7], [.inl ((tg l i).2.2), .inr 33, .inl (gx v 0 (tg l i).2.2), .inr 30, .inl ((8 - t) * (gy v 0 (tg l i).2.1) + t * (gy v 1 (tg l i).2.1)), .inl ((8 - t) * (gx v 0 (tg l i).2.1) + t * (gx v 1 (tg l i).2.1)), .inl ((8 - t) * (gy v 0 (tg l i).1) + t * (gy v 1 (tg l i).1)), .inl ((8 - t) * (gx v 0 (tg l i).1) + t * (gx v 1 (tg l i).1))], σ)) rfl ?_
          refine wp_al (n := 31) hM rfl (by decide) rfl (by omega) (by omega) ?_
          first | (rw [hp2.2.2.1]) | skip
          refine wp_go 1 hM (fr' := (140, [some (.inr 30), some (.inl t), some (.inl f), some (.inl i), some (.inl ((tg l i).1)), some (.inl ((tg l i).2.1)), some (.inl ((tg l i).2.2)), d16_7], [.inl t, .inl (gx v 1 (tg l i).2.2), .inl (gx v 0 (tg l i).2.2), .inr 30, .inl ((8 - t) * (gy v 0 (tg l i).2.1) + t * (gy v 1 (tg l i).2.1)), .inl ((8 - t) * (gx v 0 (tg l i).2.1) + t * (gx v 1 (tg l i).2.1)), .inl ((8 - t) * (gy v 0 (tg l i).1) + t * (gy v 1 (tg l i).1)), .inl ((8 - t) * (gx v 0 (tg l i).1) + t * (gx v 1 (tg l i).1))], σ)) rfl ?_
          refine wp_calld (v := 0) (idx := 238) (j := 175) (N := mtX6_between) (as := [.inr 30, .inl (gx v 0 (tg l i).2.2), .inl (gx v 1 (tg l i).2.2), .inl t]) (rest := [.inl ((8 - t) * (gy v 0 (tg l i).2.1) + t * (gy v 1 (tg l i).2.1)), .inl ((8 - t) * (gx v 0 (tg l i).2.1) + t * (gx v 1 (tg l i).2.1)), .inl ((8 - t) * (gy v 0 (tg l i).1) + t * (gy v 1 (tg l i).1)), .inl ((8 - t) * (gx v 0 (tg l i).1) + t * (gx v 1 (tg l i).1))]) hM rfl (Or.inl ⟨rfl, rfl⟩) rfl (sp_X6_between v l σ (gx v 0 (tg l i).2.2) (gx v 1 (tg l i).2.2) t ) ?_
          show mz_Wp shM none 176 (143, [some (.inr 30), some (.inl t), some (.inl f), some (.inl i), some (.inl ((tg l i).1)), some (.inl ((tg l i).2.1)), some (.inl ((tg l i).2.2)), d16_7], [.inl ((8 - t) * (gx v 0 (tg l i).2.2) + t * (gx v 1 (tg l i).2.2)), .inl ((8 - t) * (gy v 0 (tg l i).2.1) + t * (gy v 1 (tg l i).2.1)), .inl ((8 - t) * (gx v 0 (tg l i).2.1) + t * (gx v 1 (tg l i).2.1)), .inl ((8 - t) * (gy v 0 (tg l i).1) + t * (gy v 1 (tg l i).1)), .inl ((8 - t) * (gx v 0 (tg l i).1) + t * (gx v 1 (tg l i).1))], σ) _
          refine wp_go 4 hM (fr' := (150, [some (.inr 30), some (.inl t), some (.inl f), some (.inl i), some (.inl ((tg l i).1)), some (.inl ((tg l i).2.1)), some (.inl ((tg l i).2.2)), d16_7], [.inl ((tg l i).2.2), .inr 32, .inr 30, .inl ((8 - t) * (gx v 0 (tg l i).2.2) + t * (gx v 1 (tg l i).2.2)), .inl ((8 - t) * (gy v 0 (tg l i).2.1) + t * (gy v 1 (tg l i).2.1)), .inl ((8 - t) * (gx v 0 (tg l i).2.1) + t * (gx v 1 (tg l i).2.1)), .inl ((8 - t) * (gy v 0 (tg l i).1) + t * (gy v 1 (tg l i).1)), .inl ((8 - t) * (gx v 0 (tg l i).1) + t * (gx v 1 (tg l i).1))], σ)) rfl ?_
          refine wp_al (n := 31) hM rfl (by decide) rfl (by omega) (by omega) ?_
          first | (rw [hp2.2.1]) | skip
          refine wp_go 3 hM (fr' := (157, [some (.inr 30), some (.inl t), some (.inl f), some (.inl i), some (.inl ((tg l i).1)), some (.inl ((tg l i).2.1)), some (.inl ((tg l i).2.2)), d16_7], [.inl ((tg l i).2.2), .inr 34, .inl (gy v 0 (tg l i).2.2), .inr 30, .inl ((8 - t) * (gx v 0 (tg l i).2.2) + t * (gx v 1 (tg l i).2.2)), .inl ((8 - t) * (gy v 0 (tg l i).2.1) + t * (gy v 1 (tg l i).2.1)), .inl ((8 - t) * (gx v 0 (tg l i).2.1) + t * (gx v 1 (tg l i).2.1)), .inl ((8 - t) * (gy v 0 (tg l i).1) + t * (gy v 1 (tg l i).1)), .inl ((8 - t) * (gx v 0 (tg l i).1) + t * (gx v 1 (tg l i).1))], σ)) rfl ?_
          refine wp_al (n := 31) hM rfl (by decide) rfl (by omega) (by omega) ?_
          first | (rw [hp2.2.2.2]) | skip
          refine wp_go 1 hM (fr' := (159, [some (.inr 30), some (.inl t), some (.inl f), some (.inl i), some (.inl ((tg l i).1)), some (.inl ((tg l i).2.1)), some (.inl ((tg l i).2.2)), d16_7], [.inl t, .inl (gy v 1 (tg l i).2.2), .inl (gy v 0 (tg l i).2.2), .inr 30, .inl ((8 - t) * (gx v 0 (tg l i).2.2) + t * (gx v 1 (tg l i).2.2)), .inl ((8 - t) * (gy v 0 (tg l i).2.1) + t * (gy v 1 (tg l i).2.1)), .inl ((8 - t) * (gx v 0 (tg l i).2.1) + t * (gx v 1 (tg l i).2.1)), .inl ((8 - t) * (gy v 0 (tg l i).1) + t * (gy v 1 (tg l i).1)), .inl ((8 - t) * (gx v 0 (tg l i).1) + t * (gx v 1 (tg l i).1))], σ)) rfl ?_
          refine wp_calld (v := 0) (idx := 238) (j := 175) (N := mtX6_between) (as := [.inr 30, .inl (gy v 0 (tg l i).2.2), .inl (gy v 1 (tg l i).2.2), .inl t]) (rest := [.inl ((8 - t) * (gx v 0 (tg l i).2.2) + t * (gx v 1 (tg l i).2.2)), .inl ((8 - t) * (gy v 0 (tg l i).2.1) + t * (gy v 1 (tg l i).2.1)), .inl ((8 - t) * (gx v 0 (tg l i).2.1) + t * (gx v 1 (tg l i).2.1)), .inl ((8 - t) * (gy v 0 (tg l i).1) + t * (gy v 1 (tg l i).1)), .inl ((8 - t) * (gx v 0 (tg l i).1) + t * (gx v 1 (tg l i).1))]) hM rfl (Or.inl ⟨rfl, rfl⟩) rfl (sp_X6_between v l σ (gy v 0 (tg l i).2.2) (gy v 1 (tg l i).2.2) t ) ?_
          show mz_Wp shM none 176 (162, [some (.inr 30), some (.inl t), some (.inl f), some (.inl i), some (.inl ((tg l i).1)), some (.inl ((tg l i).2.1)), some (.inl ((tg l i).2.2)), d16_7], [.inl ((8 - t) * (gy v 0 (tg l i).2.2) + t * (gy v 1 (tg l i).2.2)), .inl ((8 - t) * (gx v 0 (tg l i).2.2) + t * (gx v 1 (tg l i).2.2)), .inl ((8 - t) * (gy v 0 (tg l i).2.1) + t * (gy v 1 (tg l i).2.1)), .inl ((8 - t) * (gx v 0 (tg l i).2.1) + t * (gx v 1 (tg l i).2.1)), .inl ((8 - t) * (gy v 0 (tg l i).1) + t * (gy v 1 (tg l i).1)), .inl ((8 - t) * (gx v 0 (tg l i).1) + t * (gx v 1 (tg l i).1))], σ) _
          refine wp_calld (v := 1) (idx := 81) (j := 110) (N := mtX6_area) (as := [.inl ((8 - t) * (gx v 0 (tg l i).1) + t * (gx v 1 (tg l i).1)), .inl ((8 - t) * (gy v 0 (tg l i).1) + t * (gy v 1 (tg l i).1)), .inl ((8 - t) * (gx v 0 (tg l i).2.1) + t * (gx v 1 (tg l i).2.1)), .inl ((8 - t) * (gy v 0 (tg l i).2.1) + t * (gy v 1 (tg l i).2.1)), .inl ((8 - t) * (gx v 0 (tg l i).2.2) + t * (gx v 1 (tg l i).2.2)), .inl ((8 - t) * (gy v 0 (tg l i).2.2) + t * (gy v 1 (tg l i).2.2))]) (rest := []) hM rfl (Or.inr ⟨rfl, rfl⟩) rfl (sp_X6_area  σ ((8 - t) * (gx v 0 (tg l i).1) + t * (gx v 1 (tg l i).1)) ((8 - t) * (gy v 0 (tg l i).1) + t * (gy v 1 (tg l i).1)) ((8 - t) * (gx v 0 (tg l i).2.1) + t * (gx v 1 (tg l i).2.1)) ((8 - t) * (gy v 0 (tg l i).2.1) + t * (gy v 1 (tg l i).2.1)) ((8 - t) * (gx v 0 (tg l i).2.2) + t * (gx v 1 (tg l i).2.2)) ((8 - t) * (gy v 0 (tg l i).2.2) + t * (gy v 1 (tg l i).2.2)) ) ?_
          show mz_Wp shM none 176 (165, [some (.inr 30), some (.inl t), some (.inl f), some (.inl i), some (.inl ((tg l i).1)), some (.inl ((tg l i).2.1)), some (.inl ((tg l i).2.2)), d16_7], [.inl (ar ((8 - t) * (gx v 0 (tg l i).1) + t * (gx v 1 (tg l i).1)) ((8 - t) * (gy v 0 (tg l i).1) + t * (gy v 1 (tg l i).1)) ((8 - t) * (gx v 0 (tg l i).2.1) + t * (gx v 1 (tg l i).2.1)) ((8 - t) * (gy v 0 (tg l i).2.1) + t * (gy v 1 (tg l i).2.1)) ((8 - t) * (gx v 0 (tg l i).2.2) + t * (gx v 1 (tg l i).2.2)) ((8 - t) * (gy v 0 (tg l i).2.2) + t * (gy v 1 (tg l i).2.2)))], σ) _
          first | (show mz_Wp _ _ _ (_, _, [.inl (war v t (tg l i))], _) _) | skip
          refine wp_go 3 hM (fr' := (170, [some (.inr 30), some (.inl t), some (.inl f), some (.inl i), some (.inl ((tg l i).1)), some (.inl ((tg l i).2.1)), some (.inl ((tg l i).2.2)), some (.inl (war v t (tg l i)))], [.inl (war v t (tg l i)), .inl f], σ)) rfl ?_
          refine wp_if (tgt := 177) hM rfl (by decide) (by omega) (fun c170 => ?_) (fun c170 => ?_)
          · replace c170 := cmp_gt_t c170
            refine wp_go 5 hM (fr' := (16, [some (.inr 30), some (.inl t), some (.inl (f + 0)), some (.inl (i + 1)), some (.inl ((tg l i).1)), some (.inl ((tg l i).2.1)), some (.inl ((tg l i).2.2)), some (.inl (war v t (tg l i)))], [], σ)) rfl ?_
            exact ih16 (f + 0) (i + 1) (some (.inl ((tg l i).1))) (some (.inl ((tg l i).2.1))) (some (.inl ((tg l i).2.2))) (some (.inl (war v t (tg l i)))) (by omega) (by omega) (by first | (rw [hs]; first | (rw [b01_t c170]; omega) | (rw [b01_f (by omega)]; omega)) | fail) (by omega)
          · replace c170 := cmp_gt_f c170
            refine wp_go 6 hM (fr' := (16, [some (.inr 30), some (.inl t), some (.inl (f + 1)), some (.inl (i + 1)), some (.inl ((tg l i).1)), some (.inl ((tg l i).2.1)), some (.inl ((tg l i).2.2)), some (.inl (war v t (tg l i)))], [], σ)) rfl ?_
            exact ih16 (f + 1) (i + 1) (some (.inl ((tg l i).1))) (some (.inl ((tg l i).2.1))) (some (.inl ((tg l i).2.2))) (some (.inl (war v t (tg l i)))) (by omega) (by omega) (by first | (rw [hs]; first | (rw [b01_t c170]; omega) | (rw [b01_f (by omega)]; omega)) | fail) (by omega)
    exact loop16 65 0 0 (none) (none) (none) (none) (by omega) (by omega) (by rfl) (by omega)
  · replace c7 := b01_eq0 (cmp_ne_f c7)
    refine wp_go 1 hM (fr' := (11, [some (.inr 30), some (.inl t), none, none, none, none, none, none], [.inl (-1)], σ)) rfl ?_
    refine wp_ret hM rfl (rfl) ?_
    first | (exact ⟨by unfold aBent; rw [if_pos (by omega)], h0, Fm.rf⟩) | fail

set_option maxRecDepth 100000 in
set_option maxHeartbeats 4000000 in
theorem sp_X6_extreme_1 (v : mz_G) (l : List tr3) (σ : mz_G)  (h0 : MA σ v l) (h1 : Bs v l) (h2 : 1 ≤ (l.length : Int)) : mz_Cl shM 177 [.inr 30, .inl 1] σ (fun r σ' => r = some (exI v l 0 (l.length : Int)) ∧ σ' = σ) := by
  have hM : mz_meth[177]? = some mtX6_extreme := rfl
  obtain ⟨hR, hT, hLen⟩ := id h1
  obtain ⟨⟨hW0, hW1⟩, ⟨hH0, hH1⟩, ⟨hn0, hn1⟩, hpt⟩ := id hR
  obtain ⟨⟨⟨hc1, hc2, hc3⟩, hcp, hcv⟩, hc4, hct⟩ := id h0
  have hWH := WH_bd hR
  refine mz_Cl.of hM ?_
  show mz_Wp shM none 177 (0, [some (.inr 30), some (.inl 1), none, none, none, none], [], σ) _
  refine wp_go 4 hM (fr' := (4, [some (.inr 30), some (.inl 1), some (.inl 0), some (.inl 1), none, none], [], σ)) rfl ?_
  have loop4 : ∀ (fuel : Nat) (o : Int) (t : Int) (d4_4 d4_5 : Option mz_V), (1 ≤ t) → (t ≤ (l.length : Int)) → (0 ≤ o) → (o < t) → (o = exI v l 0 t) → (((l.length : Int) - t : Int) < fuel) → mz_Wp shM none 177 (4, [some (.inr 30), some (.inl 1), some (.inl o), some (.inl t), d4_4, d4_5], [], σ) (fun r σ' => r = some (exI v l 0 (l.length : Int)) ∧ σ' = σ) := by
    intro fuel
    induction fuel with
    | zero =>
      intro o t d4_4 d4_5 hv4_0 hv4_1 hv4_2 hv4_3 hv4_4 hf4
      exfalso
      omega
    | succ fuel ih4 =>
      intro o t d4_4 d4_5 hv4_0 hv4_1 hv4_2 hv4_3 hv4_4 hf4
      have hs := exI_s (v := v) (l := l) (b := 0) hv4_0
      refine wp_go 3 hM (fr' := (9, [some (.inr 30), some (.inl 1), some (.inl o), some (.inl t), d4_4, d4_5], [.inl (σ 30 3), .inl t], σ)) rfl ?_
      refine wp_ic (tgt := 71) hM rfl (by decide) (by omega) (by omega) (fun c9 => ?_) (fun c9 => ?_)
      · replace c9 := cmp_ge_t c9
        refine wp_go 1 hM (fr' := (72, [some (.inr 30), some (.inl 1), some (.inl o), some (.inl t), d4_4, d4_5], [.inl o], σ)) rfl ?_
        refine wp_ret hM rfl (rfl) ?_
        first | (exact ⟨by rw [hv4_4, show t = (l.length : Int) from by omega], rfl⟩) | fail
      · replace c9 := cmp_ge_f c9
        first | (have q1 := tar_bd (l := l) (q := 1) hR (by decide) (Rt_at hT (show 0 ≤ t by omega) (show t < (l.length : Int) by omega))) | skip
        first | (have q2 := tar_bd (l := l) (q := 0) hR (by decide) (Rt_at hT (show 0 ≤ t by omega) (show t < (l.length : Int) by omega))) | skip
        first | (have q3 := tar_bd (l := l) (q := 1) hR (by decide) (Rt_at hT hv4_2 (show o < (l.length : Int) by omega))) | skip
        first | (have q4 := tar_bd (l := l) (q := 0) hR (by decide) (Rt_at hT hv4_2 (show o < (l.length : Int) by omega))) | skip
        first | (have p1 := mul_bd q1 q4 (by omega) (by omega)) | skip
        first | (have p2 := mul_bd q3 q2 (by omega) (by omega)) | skip
        refine wp_go 3 hM (fr' := (15, [some (.inr 30), some (.inl 1), some (.inl o), some (.inl t), d4_4, d4_5], [.inl 0, .inl t, .inr 30], σ)) rfl ?_
        refine wp_calld (v := 0) (idx := 104) (j := 114) (N := mtX6_areaOf) (as := [.inr 30, .inl t, .inl 0]) (rest := []) hM rfl (Or.inl ⟨rfl, rfl⟩) rfl (sp_X6_areaOf_0 v l σ t (by first | (first | assumption | omega) | fail) (by first | (first | assumption | omega) | fail) (by first | (first | assumption | omega) | fail) (by first | (first | assumption | omega) | fail)) ?_
        show mz_Wp shM none 177 (18, [some (.inr 30), some (.inl 1), some (.inl o), some (.inl t), d4_4, d4_5], [.inl (tar v 1 (tg l t))], σ) _
        refine wp_go 3 hM (fr' := (21, [some (.inr 30), some (.inl 1), some (.inl o), some (.inl t), d4_4, d4_5], [.inl 1, .inl o, .inr 30, .inl (tar v 1 (tg l t))], σ)) rfl ?_
        refine wp_calld (v := 0) (idx := 104) (j := 114) (N := mtX6_areaOf) (as := [.inr 30, .inl o, .inl 1]) (rest := [.inl (tar v 1 (tg l t))]) hM rfl (Or.inl ⟨rfl, rfl⟩) rfl (sp_X6_areaOf_1 v l σ o (by first | (first | assumption | omega) | fail) (by first | (first | assumption | omega) | fail) (by first | (first | assumption | omega) | fail) (by first | (first | assumption | omega) | fail)) ?_
        show mz_Wp shM none 177 (24, [some (.inr 30), some (.inl 1), some (.inl o), some (.inl t), d4_4, d4_5], [.inl (tar v 0 (tg l o)), .inl (tar v 1 (tg l t))], σ) _
        refine wp_go 5 hM (fr' := (30, [some (.inr 30), some (.inl 1), some (.inl o), some (.inl t), some (.inl ((tar v 1 (tg l t)) * (tar v 0 (tg l o)))), d4_5], [.inl 0, .inl o, .inr 30], σ)) rfl ?_
        refine wp_calld (v := 0) (idx := 104) (j := 114) (N := mtX6_areaOf) (as := [.inr 30, .inl o, .inl 0]) (rest := []) hM rfl (Or.inl ⟨rfl, rfl⟩) rfl (sp_X6_areaOf_0 v l σ o (by first | (first | assumption | omega) | fail) (by first | (first | assumption | omega) | fail) (by first | (first | assumption | omega) | fail) (by first | (first | assumption | omega) | fail)) ?_
        show mz_Wp shM none 177 (33, [some (.inr 30), some (.inl 1), some (.inl o), some (.inl t), some (.inl ((tar v 1 (tg l t)) * (tar v 0 (tg l o)))), d4_5], [.inl (tar v 1 (tg l o))], σ) _
        refine wp_go 3 hM (fr' := (36, [some (.inr 30), some (.inl 1), some (.inl o), some (.inl t), some (.inl ((tar v 1 (tg l t)) * (tar v 0 (tg l o)))), d4_5], [.inl 1, .inl t, .inr 30, .inl (tar v 1 (tg l o))], σ)) rfl ?_
        refine wp_calld (v := 0) (idx := 104) (j := 114) (N := mtX6_areaOf) (as := [.inr 30, .inl t, .inl 1]) (rest := [.inl (tar v 1 (tg l o))]) hM rfl (Or.inl ⟨rfl, rfl⟩) rfl (sp_X6_areaOf_1 v l σ t (by first | (first | assumption | omega) | fail) (by first | (first | assumption | omega) | fail) (by first | (first | assumption | omega) | fail) (by first | (first | assumption | omega) | fail)) ?_
        show mz_Wp shM none 177 (39, [some (.inr 30), some (.inl 1), some (.inl o), some (.inl t), some (.inl ((tar v 1 (tg l t)) * (tar v 0 (tg l o)))), d4_5], [.inl (tar v 0 (tg l t)), .inl (tar v 1 (tg l o))], σ) _
        refine wp_go 3 hM (fr' := (43, [some (.inr 30), some (.inl 1), some (.inl o), some (.inl t), some (.inl ((tar v 1 (tg l t)) * (tar v 0 (tg l o)))), some (.inl ((tar v 1 (tg l o)) * (tar v 0 (tg l t))))], [.inl 1], σ)) rfl ?_
        refine wp_if (tgt := 56) hM rfl (by decide) (by omega) (fun c43 => ?_) (fun c43 => ?_)
        · replace c43 := cmp_eq_t c43
          exact absurd c43 (by decide)
        · replace c43 := cmp_eq_f c43
          refine wp_go 2 hM (fr' := (50, [some (.inr 30), some (.inl 1), some (.inl o), some (.inl t), some (.inl ((tar v 1 (tg l t)) * (tar v 0 (tg l o)))), some (.inl ((tar v 1 (tg l o)) * (tar v 0 (tg l t))))], [.inl ((tar v 1 (tg l o)) * (tar v 0 (tg l t))), .inl ((tar v 1 (tg l t)) * (tar v 0 (tg l o)))], σ)) rfl ?_
          refine wp_ic (tgt := 65) hM rfl (by decide) (by omega) (by omega) (fun c50 => ?_) (fun c50 => ?_)
          · replace c50 := cmp_le_t c50
            refine wp_go 2 hM (fr' := (4, [some (.inr 30), some (.inl 1), some (.inl o), some (.inl (t + 1)), some (.inl ((tar v 1 (tg l t)) * (tar v 0 (tg l o)))), some (.inl ((tar v 1 (tg l o)) * (tar v 0 (tg l t))))], [], σ)) rfl ?_
            exact ih4 o (t + 1) (some (.inl ((tar v 1 (tg l t)) * (tar v 0 (tg l o))))) (some (.inl ((tar v 1 (tg l o)) * (tar v 0 (tg l t))))) (by omega) (by omega) (by omega) (by omega) (by first | (rw [hs, ← hv4_4]; unfold exv; (first | rw [if_pos (show (0 : Int) = 0 by decide)] | rw [if_neg (show ¬ (0 : Int) = 0 by decide)]); (first | rw [if_pos (by omega)] | rw [if_neg (by omega)])) | fail) (by omega)
          · replace c50 := cmp_le_f c50
            refine wp_go 5 hM (fr' := (4, [some (.inr 30), some (.inl 1), some (.inl t), some (.inl (t + 1)), some (.inl ((tar v 1 (tg l t)) * (tar v 0 (tg l o)))), some (.inl ((tar v 1 (tg l o)) * (tar v 0 (tg l t))))], [], σ)) rfl ?_
            exact ih4 t (t + 1) (some (.inl ((tar v 1 (tg l t)) * (tar v 0 (tg l o))))) (some (.inl ((tar v 1 (tg l o)) * (tar v 0 (tg l t))))) (by omega) (by omega) (by omega) (by omega) (by first | (rw [hs, ← hv4_4]; unfold exv; (first | rw [if_pos (show (0 : Int) = 0 by decide)] | rw [if_neg (show ¬ (0 : Int) = 0 by decide)]); (first | rw [if_pos (by omega)] | rw [if_neg (by omega)])) | fail) (by omega)
  exact loop4 65 0 1 (none) (none) (by omega) (by omega) (by omega) (by omega) (by rfl) (by omega)

set_option maxRecDepth 100000 in
set_option maxHeartbeats 4000000 in
theorem sp_X6_extreme_0 (v : mz_G) (l : List tr3) (σ : mz_G)  (h0 : MA σ v l) (h1 : Bs v l) (h2 : 1 ≤ (l.length : Int)) : mz_Cl shM 177 [.inr 30, .inl 0] σ (fun r σ' => r = some (exI v l 1 (l.length : Int)) ∧ σ' = σ) := by
  have hM : mz_meth[177]? = some mtX6_extreme := rfl
  obtain ⟨hR, hT, hLen⟩ := id h1
  obtain ⟨⟨hW0, hW1⟩, ⟨hH0, hH1⟩, ⟨hn0, hn1⟩, hpt⟩ := id hR
  obtain ⟨⟨⟨hc1, hc2, hc3⟩, hcp, hcv⟩, hc4, hct⟩ := id h0
  have hWH := WH_bd hR
  refine mz_Cl.of hM ?_
  show mz_Wp shM none 177 (0, [some (.inr 30), some (.inl 0), none, none, none, none], [], σ) _
  refine wp_go 4 hM (fr' := (4, [some (.inr 30), some (.inl 0), some (.inl 0), some (.inl 1), none, none], [], σ)) rfl ?_
  have loop4 : ∀ (fuel : Nat) (o : Int) (t : Int) (d4_4 d4_5 : Option mz_V), (1 ≤ t) → (t ≤ (l.length : Int)) → (0 ≤ o) → (o < t) → (o = exI v l 1 t) → (((l.length : Int) - t : Int) < fuel) → mz_Wp shM none 177 (4, [some (.inr 30), some (.inl 0), some (.inl o), some (.inl t), d4_4, d4_5], [], σ) (fun r σ' => r = some (exI v l 1 (l.length : Int)) ∧ σ' = σ) := by
    intro fuel
    induction fuel with
    | zero =>
      intro o t d4_4 d4_5 hv4_0 hv4_1 hv4_2 hv4_3 hv4_4 hf4
      exfalso
      omega
    | succ fuel ih4 =>
      intro o t d4_4 d4_5 hv4_0 hv4_1 hv4_2 hv4_3 hv4_4 hf4
      have hs := exI_s (v := v) (l := l) (b := 1) hv4_0
      refine wp_go 3 hM (fr' := (9, [some (.inr 30), some (.inl 0), some (.inl o), some (.inl t), d4_4, d4_5], [.inl (σ 30 3), .inl t], σ)) rfl ?_
      refine wp_ic (tgt := 71) hM rfl (by decide) (by omega) (by omega) (fun c9 => ?_) (fun c9 => ?_)
      · replace c9 := cmp_ge_t c9
        refine wp_go 1 hM (fr' := (72, [some (.inr 30), some (.inl 0), some (.inl o), some (.inl t), d4_4, d4_5], [.inl o], σ)) rfl ?_
        refine wp_ret hM rfl (rfl) ?_
        first | (exact ⟨by rw [hv4_4, show t = (l.length : Int) from by omega], rfl⟩) | fail
      · replace c9 := cmp_ge_f c9
        first | (have q1 := tar_bd (l := l) (q := 1) hR (by decide) (Rt_at hT (show 0 ≤ t by omega) (show t < (l.length : Int) by omega))) | skip
        first | (have q2 := tar_bd (l := l) (q := 0) hR (by decide) (Rt_at hT (show 0 ≤ t by omega) (show t < (l.length : Int) by omega))) | skip
        first | (have q3 := tar_bd (l := l) (q := 1) hR (by decide) (Rt_at hT hv4_2 (show o < (l.length : Int) by omega))) | skip
        first | (have q4 := tar_bd (l := l) (q := 0) hR (by decide) (Rt_at hT hv4_2 (show o < (l.length : Int) by omega))) | skip
        first | (have p1 := mul_bd q1 q4 (by omega) (by omega)) | skip
        first | (have p2 := mul_bd q3 q2 (by omega) (by omega)) | skip
        refine wp_go 3 hM (fr' := (15, [some (.inr 30), some (.inl 0), some (.inl o), some (.inl t), d4_4, d4_5], [.inl 0, .inl t, .inr 30], σ)) rfl ?_
        refine wp_calld (v := 0) (idx := 104) (j := 114) (N := mtX6_areaOf) (as := [.inr 30, .inl t, .inl 0]) (rest := []) hM rfl (Or.inl ⟨rfl, rfl⟩) rfl (sp_X6_areaOf_0 v l σ t (by first | (first | assumption | omega) | fail) (by first | (first | assumption | omega) | fail) (by first | (first | assumption | omega) | fail) (by first | (first | assumption | omega) | fail)) ?_
        show mz_Wp shM none 177 (18, [some (.inr 30), some (.inl 0), some (.inl o), some (.inl t), d4_4, d4_5], [.inl (tar v 1 (tg l t))], σ) _
        refine wp_go 3 hM (fr' := (21, [some (.inr 30), some (.inl 0), some (.inl o), some (.inl t), d4_4, d4_5], [.inl 1, .inl o, .inr 30, .inl (tar v 1 (tg l t))], σ)) rfl ?_
        refine wp_calld (v := 0) (idx := 104) (j := 114) (N := mtX6_areaOf) (as := [.inr 30, .inl o, .inl 1]) (rest := [.inl (tar v 1 (tg l t))]) hM rfl (Or.inl ⟨rfl, rfl⟩) rfl (sp_X6_areaOf_1 v l σ o (by first | (first | assumption | omega) | fail) (by first | (first | assumption | omega) | fail) (by first | (first | assumption | omega) | fail) (by first | (first | assumption | omega) | fail)) ?_
        show mz_Wp shM none 177 (24, [some (.inr 30), some (.inl 0), some (.inl o), some (.inl t), d4_4, d4_5], [.inl (tar v 0 (tg l o)), .inl (tar v 1 (tg l t))], σ) _
        refine wp_go 5 hM (fr' := (30, [some (.inr 30), some (.inl 0), some (.inl o), some (.inl t), some (.inl ((tar v 1 (tg l t)) * (tar v 0 (tg l o)))), d4_5], [.inl 0, .inl o, .inr 30], σ)) rfl ?_
        refine wp_calld (v := 0) (idx := 104) (j := 114) (N := mtX6_areaOf) (as := [.inr 30, .inl o, .inl 0]) (rest := []) hM rfl (Or.inl ⟨rfl, rfl⟩) rfl (sp_X6_areaOf_0 v l σ o (by first | (first | assumption | omega) | fail) (by first | (first | assumption | omega) | fail) (by first | (first | assumption | omega) | fail) (by first | (first | assumption | omega) | fail)) ?_
        show mz_Wp shM none 177 (33, [some (.inr 30), some (.inl 0), some (.inl o), some (.inl t), some (.inl ((tar v 1 (tg l t)) * (tar v 0 (tg l o)))), d4_5], [.inl (tar v 1 (tg l o))], σ) _
        refine wp_go 3 hM (fr' := (36, [some (.inr 30), some (.inl 0), some (.inl o), some (.inl t), some (.inl ((tar v 1 (tg l t)) * (tar v 0 (tg l o)))), d4_5], [.inl 1, .inl t, .inr 30, .inl (tar v 1 (tg l o))], σ)) rfl ?_
        refine wp_calld (v := 0) (idx := 104) (j := 114) (N := mtX6_areaOf) (as := [.inr 30, .inl t, .inl 1]) (rest := [.inl (tar v 1 (tg l o))]) hM rfl (Or.inl ⟨rfl, rfl⟩) rfl (sp_X6_areaOf_1 v l σ t (by first | (first | assumption | omega) | fail) (by first | (first | assumption | omega) | fail) (by first | (first | assumption | omega) | fail) (by first | (first | assumption | omega) | fail)) ?_
        show mz_Wp shM none 177 (39, [some (.inr 30), some (.inl 0), some (.inl o), some (.inl t), some (.inl ((tar v 1 (tg l t)) * (tar v 0 (tg l o)))), d4_5], [.inl (tar v 0 (tg l t)), .inl (tar v 1 (tg l o))], σ) _
        refine wp_go 3 hM (fr' := (43, [some (.inr 30), some (.inl 0), some (.inl o), some (.inl t), some (.inl ((tar v 1 (tg l t)) * (tar v 0 (tg l o)))), some (.inl ((tar v 1 (tg l o)) * (tar v 0 (tg l t))))], [.inl 0], σ)) rfl ?_
        refine wp_if (tgt := 56) hM rfl (by decide) (by omega) (fun c43 => ?_) (fun c43 => ?_)
        · replace c43 := cmp_eq_t c43
          refine wp_go 2 hM (fr' := (60, [some (.inr 30), some (.inl 0), some (.inl o), some (.inl t), some (.inl ((tar v 1 (tg l t)) * (tar v 0 (tg l o)))), some (.inl ((tar v 1 (tg l o)) * (tar v 0 (tg l t))))], [.inl ((tar v 1 (tg l o)) * (tar v 0 (tg l t))), .inl ((tar v 1 (tg l t)) * (tar v 0 (tg l o)))], σ)) rfl ?_
          refine wp_ic (tgt := 65) hM rfl (by decide) (by omega) (by omega) (fun c60 => ?_) (fun c60 => ?_)
          · replace c60 := cmp_ge_t c60
            refine wp_go 2 hM (fr' := (4, [some (.inr 30), some (.inl 0), some (.inl o), some (.inl (t + 1)), some (.inl ((tar v 1 (tg l t)) * (tar v 0 (tg l o)))), some (.inl ((tar v 1 (tg l o)) * (tar v 0 (tg l t))))], [], σ)) rfl ?_
            exact ih4 o (t + 1) (some (.inl ((tar v 1 (tg l t)) * (tar v 0 (tg l o))))) (some (.inl ((tar v 1 (tg l o)) * (tar v 0 (tg l t))))) (by omega) (by omega) (by omega) (by omega) (by first | (rw [hs, ← hv4_4]; unfold exv; (first | rw [if_pos (show (1 : Int) = 0 by decide)] | rw [if_neg (show ¬ (1 : Int) = 0 by decide)]); (first | rw [if_pos (by omega)] | rw [if_neg (by omega)])) | fail) (by omega)
          · replace c60 := cmp_ge_f c60
            refine wp_go 4 hM (fr' := (4, [some (.inr 30), some (.inl 0), some (.inl t), some (.inl (t + 1)), some (.inl ((tar v 1 (tg l t)) * (tar v 0 (tg l o)))), some (.inl ((tar v 1 (tg l o)) * (tar v 0 (tg l t))))], [], σ)) rfl ?_
            exact ih4 t (t + 1) (some (.inl ((tar v 1 (tg l t)) * (tar v 0 (tg l o))))) (some (.inl ((tar v 1 (tg l o)) * (tar v 0 (tg l t))))) (by omega) (by omega) (by omega) (by omega) (by first | (rw [hs, ← hv4_4]; unfold exv; (first | rw [if_pos (show (1 : Int) = 0 by decide)] | rw [if_neg (show ¬ (1 : Int) = 0 by decide)]); (first | rw [if_pos (by omega)] | rw [if_neg (by omega)])) | fail) (by omega)
        · replace c43 := cmp_eq_f c43
          exact absurd c43 (by decide)
  exact loop4 65 0 1 (none) (none) (by omega) (by omega) (by omega) (by omega) (by rfl) (by omega)

set_option maxRecDepth 100000 in
set_option maxHeartbeats 4000000 in
theorem sp_X6_stretch (v : mz_G) (l : List tr3) (σ : mz_G) (w : Int) (h0 : MA σ v l) (h1 : GO v l) (h2 : mz_R w) : mz_Cl shM 178 [.inr 30, .inl w] σ (fun r σ' => r = some (aStretch v l w) ∧ MA σ' v l ∧ Fm σ σ') := by
  have hM : mz_meth[178]? = some mtX6_stretch := rfl
  obtain ⟨hB, hSd, ⟨hP0, hP1⟩, ⟨hC0, hC1'⟩, hVr, hn30, hl2⟩ := id h1
  obtain ⟨hR, hT, hLen⟩ := id hB
  obtain ⟨⟨hW0, hW1⟩, ⟨hH0, hH1⟩, ⟨hn0, hn1⟩, hpt⟩ := id hR
  obtain ⟨⟨⟨hc1, hc2, hc3⟩, hcp, hcv⟩, hc4, hct⟩ := id h0
  have hWH := WH_bd hR
  have hxb : ∀ b : Int, 0 ≤ exI v l b (l.length : Int) ∧ exI v l b (l.length : Int) < (l.length : Int) := fun b => exI_bd (by omega)
  have ht1 : ∀ b : Int, -722 ≤ tar v 1 (tg l (exI v l b (l.length : Int))) ∧ tar v 1 (tg l (exI v l b (l.length : Int))) ≤ 722 := fun b => tar_bd (l := l) (q := 1) hR (by decide) (Rt_at hT (hxb b).1 (hxb b).2)
  have ht0 : ∀ b : Int, -722 ≤ tar v 0 (tg l (exI v l b (l.length : Int))) ∧ tar v 0 (tg l (exI v l b (l.length : Int))) ≤ 722 := fun b => tar_bd (l := l) (q := 0) hR (by decide) (Rt_at hT (hxb b).1 (hxb b).2)
  have hp1 : ∀ b : Int, 0 < tar v 1 (tg l (exI v l b (l.length : Int))) := fun b => hP1 _ (tg_mem (hxb b).1 (hxb b).2)
  have hp0 : ∀ b : Int, 0 < tar v 0 (tg l (exI v l b (l.length : Int))) := fun b => hP0 _ (tg_mem (hxb b).1 (hxb b).2)
  have a1 := hxb 0
  have a2 := hxb 1
  have a3 := ht1 0
  have a4 := ht1 1
  have a5 := ht0 0
  have a6 := ht0 1
  have a7 := hp1 0
  have a8 := hp1 1
  have a9 := hp0 0
  have a10 := hp0 1
  have g0 := gcd_le (show 0 ≤ tar v 1 (tg l (exI v l 0 (l.length : Int))) by omega) (show 0 ≤ tar v 0 (tg l (exI v l 0 (l.length : Int))) by omega)
  have g1 := gcd_le (show 0 ≤ tar v 1 (tg l (exI v l 1 (l.length : Int))) by omega) (show 0 ≤ tar v 0 (tg l (exI v l 1 (l.length : Int))) by omega)
  have k0 := gcd_pos (a := tar v 1 (tg l (exI v l 0 (l.length : Int)))) (hp0 0)
  have k1 := gcd_pos (a := tar v 1 (tg l (exI v l 1 (l.length : Int)))) (hp0 1)
  refine mz_Cl.of hM ?_
  show mz_Wp shM none 178 (0, [some (.inr 30), some (.inl w), none, none], [], σ) _
  refine wp_go 3 hM (fr' := (3, [some (.inr 30), some (.inl w), none, none], [.inl 5, .inl 0, .inl w], σ)) rfl ?_
  refine wp_calld (v := 1) (idx := 116) (j := 103) (N := mtX6_isIn) (as := [.inl w, .inl 0, .inl 5]) (rest := []) hM rfl (Or.inr ⟨rfl, rfl⟩) rfl (sp_X6_isIn  σ w 0 5 (by first | (first | assumption | omega) | fail) (by first | (first | assumption | omega) | fail) (by first | (first | assumption | omega) | fail)) ?_
  show mz_Wp shM none 178 (6, [some (.inr 30), some (.inl w), none, none], [.inl (b01 (0 ≤ w ∧ w ≤ 5))], σ) _
  refine wp_if (tgt := 11) hM rfl (by decide) b01_R (fun c6 => ?_) (fun c6 => ?_)
  · replace c6 := b01_ne0 (cmp_ne_t c6)
    refine wp_go 2 hM (fr' := (13, [some (.inr 30), some (.inl w), none, none], [.inl w, .inr 30], σ)) rfl ?_
    refine wp_if (tgt := 26) hM rfl (by decide) (by omega) (fun c13 => ?_) (fun c13 => ?_)
    · replace c13 := cmp_eq_t c13
      refine wp_go 2 hM (fr' := (31, [some (.inr 30), some (.inl w), none, none], [.inl 1, .inr 30], σ)) rfl ?_
      refine wp_calld (v := 0) (idx := 241) (j := 177) (N := mtX6_extreme) (as := [.inr 30, .inl 1]) (rest := []) hM rfl (Or.inl ⟨rfl, rfl⟩) rfl (sp_X6_extreme_1 v l σ  (by first | (first | assumption | omega) | fail) (by first | (first | assumption | omega) | fail) (by first | (first | assumption | omega) | fail)) ?_
      show mz_Wp shM none 178 (34, [some (.inr 30), some (.inl w), none, none], [.inl (exI v l 0 (l.length : Int))], σ) _
      refine wp_go 3 hM (fr' := (37, [some (.inr 30), some (.inl w), some (.inl (exI v l 0 (l.length : Int))), none], [.inl 2, .inl w], σ)) rfl ?_
      refine wp_ic (tgt := 42) hM rfl (by decide) (by omega) (by omega) (fun c37 => ?_) (fun c37 => ?_)
      · replace c37 := cmp_ge_t c37
        refine wp_go 3 hM (fr' := (45, [some (.inr 30), some (.inl w), some (.inl (exI v l 0 (l.length : Int))), none], [.inl 0, .inl (exI v l 0 (l.length : Int)), .inr 30], σ)) rfl ?_
        refine wp_calld (v := 0) (idx := 104) (j := 114) (N := mtX6_areaOf) (as := [.inr 30, .inl (exI v l 0 (l.length : Int)), .inl 0]) (rest := []) hM rfl (Or.inl ⟨rfl, rfl⟩) rfl (sp_X6_areaOf_0 v l σ (exI v l 0 (l.length : Int)) (by first | (first | assumption | exact a1.1 | exact a1.2 | exact a2.1 | exact a2.2 | omega) | fail) (by first | (first | assumption | exact a1.1 | exact a1.2 | exact a2.1 | exact a2.2 | omega) | fail) (by first | (first | assumption | exact a1.1 | exact a1.2 | exact a2.1 | exact a2.2 | omega) | fail) (by first | (first | assumption | exact a1.1 | exact a1.2 | exact a2.1 | exact a2.2 | omega) | fail)) ?_
        show mz_Wp shM none 178 (48, [some (.inr 30), some (.inl w), some (.inl (exI v l 0 (l.length : Int))), none], [.inl (tar v 1 (tg l (exI v l 0 (l.length : Int))))], σ) _
        refine wp_go 3 hM (fr' := (51, [some (.inr 30), some (.inl w), some (.inl (exI v l 0 (l.length : Int))), none], [.inl 1, .inl (exI v l 0 (l.length : Int)), .inr 30, .inl (tar v 1 (tg l (exI v l 0 (l.length : Int))))], σ)) rfl ?_
        refine wp_calld (v := 0) (idx := 104) (j := 114) (N := mtX6_areaOf) (as := [.inr 30, .inl (exI v l 0 (l.length : Int)), .inl 1]) (rest := [.inl (tar v 1 (tg l (exI v l 0 (l.length : Int))))]) hM rfl (Or.inl ⟨rfl, rfl⟩) rfl (sp_X6_areaOf_1 v l σ (exI v l 0 (l.length : Int)) (by first | (first | assumption | exact a1.1 | exact a1.2 | exact a2.1 | exact a2.2 | omega) | fail) (by first | (first | assumption | exact a1.1 | exact a1.2 | exact a2.1 | exact a2.2 | omega) | fail) (by first | (first | assumption | exact a1.1 | exact a1.2 | exact a2.1 | exact a2.2 | omega) | fail) (by first | (first | assumption | exact a1.1 | exact a1.2 | exact a2.1 | exact a2.2 | omega) | fail)) ?_
        show mz_Wp shM none 178 (54, [some (.inr 30), some (.inl w), some (.inl (exI v l 0 (l.length : Int))), none], [.inl (tar v 0 (tg l (exI v l 0 (l.length : Int)))), .inl (tar v 1 (tg l (exI v l 0 (l.length : Int))))], σ) _
        refine wp_calld (v := 1) (idx := 224) (j := 158) (N := mtX6_common) (as := [.inl (tar v 1 (tg l (exI v l 0 (l.length : Int)))), .inl (tar v 0 (tg l (exI v l 0 (l.length : Int))))]) (rest := []) hM rfl (Or.inr ⟨rfl, rfl⟩) rfl (sp_X6_common  σ (tar v 1 (tg l (exI v l 0 (l.length : Int)))) (tar v 0 (tg l (exI v l 0 (l.length : Int)))) (by omega) (by omega) (by omega) (by omega)) ?_
        show mz_Wp shM none 178 (57, [some (.inr 30), some (.inl w), some (.inl (exI v l 0 (l.length : Int))), none], [.inl (Int.gcd (tar v 1 (tg l (exI v l 0 (l.length : Int)))) (tar v 0 (tg l (exI v l 0 (l.length : Int)))) : Int)], σ) _
        refine wp_go 5 hM (fr' := (62, [some (.inr 30), some (.inl w), some (.inl (exI v l 0 (l.length : Int))), some (.inl (Int.gcd (tar v 1 (tg l (exI v l 0 (l.length : Int)))) (tar v 0 (tg l (exI v l 0 (l.length : Int)))) : Int))], [.inl 3, .inl w, .inl (exI v l 0 (l.length : Int)), .inr 30], σ)) rfl ?_
        refine wp_ic (tgt := 70) hM rfl (by decide) (by omega) (by omega) (fun c62 => ?_) (fun c62 => ?_)
        · replace c62 := cmp_eq_t c62
          refine wp_go 2 hM (fr' := (75, [some (.inr 30), some (.inl w), some (.inl (exI v l 0 (l.length : Int))), some (.inl (Int.gcd (tar v 1 (tg l (exI v l 0 (l.length : Int)))) (tar v 0 (tg l (exI v l 0 (l.length : Int)))) : Int))], [.inl 1, .inl (exI v l 0 (l.length : Int)), .inr 30], σ)) rfl ?_
          refine wp_calld (v := 0) (idx := 104) (j := 114) (N := mtX6_areaOf) (as := [.inr 30, .inl (exI v l 0 (l.length : Int)), .inl 1]) (rest := []) hM rfl (Or.inl ⟨rfl, rfl⟩) rfl (sp_X6_areaOf_1 v l σ (exI v l 0 (l.length : Int)) (by first | (first | assumption | exact a1.1 | exact a1.2 | exact a2.1 | exact a2.2 | omega) | fail) (by first | (first | assumption | exact a1.1 | exact a1.2 | exact a2.1 | exact a2.2 | omega) | fail) (by first | (first | assumption | exact a1.1 | exact a1.2 | exact a2.1 | exact a2.2 | omega) | fail) (by first | (first | assumption | exact a1.1 | exact a1.2 | exact a2.1 | exact a2.2 | omega) | fail)) ?_
          show mz_Wp shM none 178 (78, [some (.inr 30), some (.inl w), some (.inl (exI v l 0 (l.length : Int))), some (.inl (Int.gcd (tar v 1 (tg l (exI v l 0 (l.length : Int)))) (tar v 0 (tg l (exI v l 0 (l.length : Int)))) : Int))], [.inl (tar v 0 (tg l (exI v l 0 (l.length : Int))))], σ) _
          refine wp_go 1 hM (fr' := (79, [some (.inr 30), some (.inl w), some (.inl (exI v l 0 (l.length : Int))), some (.inl (Int.gcd (tar v 1 (tg l (exI v l 0 (l.length : Int)))) (tar v 0 (tg l (exI v l 0 (l.length : Int)))) : Int))], [.inl (Int.gcd (tar v 1 (tg l (exI v l 0 (l.length : Int)))) (tar v 0 (tg l (exI v l 0 (l.length : Int)))) : Int), .inl (tar v 0 (tg l (exI v l 0 (l.length : Int))))], σ)) rfl ?_
          refine wp_div hM rfl (by omega) (by omega) (by omega) ?_
          refine wp_ret hM rfl (rfl) ?_
          refine ⟨?_, h0, Fm.rf⟩
          rw [← shq_div (by omega)]
          unfold aStretch stG stT
          repeat' split
          all_goals first | rfl | (exfalso; omega)
        · replace c62 := cmp_eq_f c62
          refine wp_go 2 hM (fr' := (67, [some (.inr 30), some (.inl w), some (.inl (exI v l 0 (l.length : Int))), some (.inl (Int.gcd (tar v 1 (tg l (exI v l 0 (l.length : Int)))) (tar v 0 (tg l (exI v l 0 (l.length : Int)))) : Int))], [.inl 5, .inl w, .inl (exI v l 0 (l.length : Int)), .inr 30], σ)) rfl ?_
          refine wp_ic (tgt := 74) hM rfl (by decide) (by omega) (by omega) (fun c67 => ?_) (fun c67 => ?_)
          · replace c67 := cmp_ne_t c67
            refine wp_go 1 hM (fr' := (75, [some (.inr 30), some (.inl w), some (.inl (exI v l 0 (l.length : Int))), some (.inl (Int.gcd (tar v 1 (tg l (exI v l 0 (l.length : Int)))) (tar v 0 (tg l (exI v l 0 (l.length : Int)))) : Int))], [.inl 0, .inl (exI v l 0 (l.length : Int)), .inr 30], σ)) rfl ?_
            refine wp_calld (v := 0) (idx := 104) (j := 114) (N := mtX6_areaOf) (as := [.inr 30, .inl (exI v l 0 (l.length : Int)), .inl 0]) (rest := []) hM rfl (Or.inl ⟨rfl, rfl⟩) rfl (sp_X6_areaOf_0 v l σ (exI v l 0 (l.length : Int)) (by first | (first | assumption | exact a1.1 | exact a1.2 | exact a2.1 | exact a2.2 | omega) | fail) (by first | (first | assumption | exact a1.1 | exact a1.2 | exact a2.1 | exact a2.2 | omega) | fail) (by first | (first | assumption | exact a1.1 | exact a1.2 | exact a2.1 | exact a2.2 | omega) | fail) (by first | (first | assumption | exact a1.1 | exact a1.2 | exact a2.1 | exact a2.2 | omega) | fail)) ?_
            show mz_Wp shM none 178 (78, [some (.inr 30), some (.inl w), some (.inl (exI v l 0 (l.length : Int))), some (.inl (Int.gcd (tar v 1 (tg l (exI v l 0 (l.length : Int)))) (tar v 0 (tg l (exI v l 0 (l.length : Int)))) : Int))], [.inl (tar v 1 (tg l (exI v l 0 (l.length : Int))))], σ) _
            refine wp_go 1 hM (fr' := (79, [some (.inr 30), some (.inl w), some (.inl (exI v l 0 (l.length : Int))), some (.inl (Int.gcd (tar v 1 (tg l (exI v l 0 (l.length : Int)))) (tar v 0 (tg l (exI v l 0 (l.length : Int)))) : Int))], [.inl (Int.gcd (tar v 1 (tg l (exI v l 0 (l.length : Int)))) (tar v 0 (tg l (exI v l 0 (l.length : Int)))) : Int), .inl (tar v 1 (tg l (exI v l 0 (l.length : Int))))], σ)) rfl ?_
            refine wp_div hM rfl (by omega) (by omega) (by omega) ?_
            refine wp_ret hM rfl (rfl) ?_
            refine ⟨?_, h0, Fm.rf⟩
            rw [← shq_div (by omega)]
            unfold aStretch stG stT
            repeat' split
            all_goals first | rfl | (exfalso; omega)
          · replace c67 := cmp_ne_f c67
            refine wp_go 2 hM (fr' := (75, [some (.inr 30), some (.inl w), some (.inl (exI v l 0 (l.length : Int))), some (.inl (Int.gcd (tar v 1 (tg l (exI v l 0 (l.length : Int)))) (tar v 0 (tg l (exI v l 0 (l.length : Int)))) : Int))], [.inl 1, .inl (exI v l 0 (l.length : Int)), .inr 30], σ)) rfl ?_
            refine wp_calld (v := 0) (idx := 104) (j := 114) (N := mtX6_areaOf) (as := [.inr 30, .inl (exI v l 0 (l.length : Int)), .inl 1]) (rest := []) hM rfl (Or.inl ⟨rfl, rfl⟩) rfl (sp_X6_areaOf_1 v l σ (exI v l 0 (l.length : Int)) (by first | (first | assumption | exact a1.1 | exact a1.2 | exact a2.1 | exact a2.2 | omega) | fail) (by first | (first | assumption | exact a1.1 | exact a1.2 | exact a2.1 | exact a2.2 | omega) | fail) (by first | (first | assumption | exact a1.1 | exact a1.2 | exact a2.1 | exact a2.2 | omega) | fail) (by first | (first | assumption | exact a1.1 | exact a1.2 | exact a2.1 | exact a2.2 | omega) | fail)) ?_
            show mz_Wp shM none 178 (78, [some (.inr 30), some (.inl w), some (.inl (exI v l 0 (l.length : Int))), some (.inl (Int.gcd (tar v 1 (tg l (exI v l 0 (l.length : Int)))) (tar v 0 (tg l (exI v l 0 (l.length : Int)))) : Int))], [.inl (tar v 0 (tg l (exI v l 0 (l.length : Int))))], σ) _
            refine wp_go 1 hM (fr' := (79, [some (.inr 30), some (.inl w), some (.inl (exI v l 0 (l.length : Int))), some (.inl (Int.gcd (tar v 1 (tg l (exI v l 0 (l.length : Int)))) (tar v 0 (tg l (exI v l 0 (l.length : Int)))) : Int))], [.inl (Int.gcd (tar v 1 (tg l (exI v l 0 (l.length : Int)))) (tar v 0 (tg l (exI v l 0 (l.length : Int)))) : Int), .inl (tar v 0 (tg l (exI v l 0 (l.length : Int))))], σ)) rfl ?_
            refine wp_div hM rfl (by omega) (by omega) (by omega) ?_
            refine wp_ret hM rfl (rfl) ?_
            refine ⟨?_, h0, Fm.rf⟩
            rw [← shq_div (by omega)]
            unfold aStretch stG stT
            repeat' split
            all_goals first | rfl | (exfalso; omega)
      · replace c37 := cmp_ge_f c37
        refine wp_go 1 hM (fr' := (41, [some (.inr 30), some (.inl w), some (.inl (exI v l 0 (l.length : Int))), none], [.inl (exI v l 0 (l.length : Int))], σ)) rfl ?_
        refine wp_ret hM rfl (rfl) ?_
        refine ⟨?_, h0, Fm.rf⟩
        unfold aStretch stT
        repeat' split
        all_goals first | rfl | (exfalso; omega)
    · replace c13 := cmp_eq_f c13
      refine wp_go 2 hM (fr' := (18, [some (.inr 30), some (.inl w), none, none], [.inl 2, .inl w, .inr 30], σ)) rfl ?_
      refine wp_ic (tgt := 26) hM rfl (by decide) (by omega) (by omega) (fun c18 => ?_) (fun c18 => ?_)
      · replace c18 := cmp_eq_t c18
        refine wp_go 2 hM (fr' := (31, [some (.inr 30), some (.inl w), none, none], [.inl 1, .inr 30], σ)) rfl ?_
        refine wp_calld (v := 0) (idx := 241) (j := 177) (N := mtX6_extreme) (as := [.inr 30, .inl 1]) (rest := []) hM rfl (Or.inl ⟨rfl, rfl⟩) rfl (sp_X6_extreme_1 v l σ  (by first | (first | assumption | omega) | fail) (by first | (first | assumption | omega) | fail) (by first | (first | assumption | omega) | fail)) ?_
        show mz_Wp shM none 178 (34, [some (.inr 30), some (.inl w), none, none], [.inl (exI v l 0 (l.length : Int))], σ) _
        refine wp_go 3 hM (fr' := (37, [some (.inr 30), some (.inl w), some (.inl (exI v l 0 (l.length : Int))), none], [.inl 2, .inl w], σ)) rfl ?_
        refine wp_ic (tgt := 42) hM rfl (by decide) (by omega) (by omega) (fun c37 => ?_) (fun c37 => ?_)
        · replace c37 := cmp_ge_t c37
          refine wp_go 3 hM (fr' := (45, [some (.inr 30), some (.inl w), some (.inl (exI v l 0 (l.length : Int))), none], [.inl 0, .inl (exI v l 0 (l.length : Int)), .inr 30], σ)) rfl ?_
          refine wp_calld (v := 0) (idx := 104) (j := 114) (N := mtX6_areaOf) (as := [.inr 30, .inl (exI v l 0 (l.length : Int)), .inl 0]) (rest := []) hM rfl (Or.inl ⟨rfl, rfl⟩) rfl (sp_X6_areaOf_0 v l σ (exI v l 0 (l.length : Int)) (by first | (first | assumption | exact a1.1 | exact a1.2 | exact a2.1 | exact a2.2 | omega) | fail) (by first | (first | assumption | exact a1.1 | exact a1.2 | exact a2.1 | exact a2.2 | omega) | fail) (by first | (first | assumption | exact a1.1 | exact a1.2 | exact a2.1 | exact a2.2 | omega) | fail) (by first | (first | assumption | exact a1.1 | exact a1.2 | exact a2.1 | exact a2.2 | omega) | fail)) ?_
          show mz_Wp shM none 178 (48, [some (.inr 30), some (.inl w), some (.inl (exI v l 0 (l.length : Int))), none], [.inl (tar v 1 (tg l (exI v l 0 (l.length : Int))))], σ) _
          refine wp_go 3 hM (fr' := (51, [some (.inr 30), some (.inl w), some (.inl (exI v l 0 (l.length : Int))), none], [.inl 1, .inl (exI v l 0 (l.length : Int)), .inr 30, .inl (tar v 1 (tg l (exI v l 0 (l.length : Int))))], σ)) rfl ?_
          refine wp_calld (v := 0) (idx := 104) (j := 114) (N := mtX6_areaOf) (as := [.inr 30, .inl (exI v l 0 (l.length : Int)), .inl 1]) (rest := [.inl (tar v 1 (tg l (exI v l 0 (l.length : Int))))]) hM rfl (Or.inl ⟨rfl, rfl⟩) rfl (sp_X6_areaOf_1 v l σ (exI v l 0 (l.length : Int)) (by first | (first | assumption | exact a1.1 | exact a1.2 | exact a2.1 | exact a2.2 | omega) | fail) (by first | (first | assumption | exact a1.1 | exact a1.2 | exact a2.1 | exact a2.2 | omega) | fail) (by first | (first | assumption | exact a1.1 | exact a1.2 | exact a2.1 | exact a2.2 | omega) | fail) (by first | (first | assumption | exact a1.1 | exact a1.2 | exact a2.1 | exact a2.2 | omega) | fail)) ?_
          show mz_Wp shM none 178 (54, [some (.inr 30), some (.inl w), some (.inl (exI v l 0 (l.length : Int))), none], [.inl (tar v 0 (tg l (exI v l 0 (l.length : Int)))), .inl (tar v 1 (tg l (exI v l 0 (l.length : Int))))], σ) _
          refine wp_calld (v := 1) (idx := 224) (j := 158) (N := mtX6_common) (as := [.inl (tar v 1 (tg l (exI v l 0 (l.length : Int)))), .inl (tar v 0 (tg l (exI v l 0 (l.length : Int))))]) (rest := []) hM rfl (Or.inr ⟨rfl, rfl⟩) rfl (sp_X6_common  σ (tar v 1 (tg l (exI v l 0 (l.length : Int)))) (tar v 0 (tg l (exI v l 0 (l.length : Int)))) (by omega) (by omega) (by omega) (by omega)) ?_
          show mz_Wp shM none 178 (57, [some (.inr 30), some (.inl w), some (.inl (exI v l 0 (l.length : Int))), none], [.inl (Int.gcd (tar v 1 (tg l (exI v l 0 (l.length : Int)))) (tar v 0 (tg l (exI v l 0 (l.length : Int)))) : Int)], σ) _
          refine wp_go 5 hM (fr' := (62, [some (.inr 30), some (.inl w), some (.inl (exI v l 0 (l.length : Int))), some (.inl (Int.gcd (tar v 1 (tg l (exI v l 0 (l.length : Int)))) (tar v 0 (tg l (exI v l 0 (l.length : Int)))) : Int))], [.inl 3, .inl w, .inl (exI v l 0 (l.length : Int)), .inr 30], σ)) rfl ?_
          refine wp_ic (tgt := 70) hM rfl (by decide) (by omega) (by omega) (fun c62 => ?_) (fun c62 => ?_)
          · replace c62 := cmp_eq_t c62
            refine wp_go 2 hM (fr' := (75, [some (.inr 30), some (.inl w), some (.inl (exI v l 0 (l.length : Int))), some (.inl (Int.gcd (tar v 1 (tg l (exI v l 0 (l.length : Int)))) (tar v 0 (tg l (exI v l 0 (l.length : Int)))) : Int))], [.inl 1, .inl (exI v l 0 (l.length : Int)), .inr 30], σ)) rfl ?_
            refine wp_calld (v := 0) (idx := 104) (j := 114) (N := mtX6_areaOf) (as := [.inr 30, .inl (exI v l 0 (l.length : Int)), .inl 1]) (rest := []) hM rfl (Or.inl ⟨rfl, rfl⟩) rfl (sp_X6_areaOf_1 v l σ (exI v l 0 (l.length : Int)) (by first | (first | assumption | exact a1.1 | exact a1.2 | exact a2.1 | exact a2.2 | omega) | fail) (by first | (first | assumption | exact a1.1 | exact a1.2 | exact a2.1 | exact a2.2 | omega) | fail) (by first | (first | assumption | exact a1.1 | exact a1.2 | exact a2.1 | exact a2.2 | omega) | fail) (by first | (first | assumption | exact a1.1 | exact a1.2 | exact a2.1 | exact a2.2 | omega) | fail)) ?_
            show mz_Wp shM none 178 (78, [some (.inr 30), some (.inl w), some (.inl (exI v l 0 (l.length : Int))), some (.inl (Int.gcd (tar v 1 (tg l (exI v l 0 (l.length : Int)))) (tar v 0 (tg l (exI v l 0 (l.length : Int)))) : Int))], [.inl (tar v 0 (tg l (exI v l 0 (l.length : Int))))], σ) _
            refine wp_go 1 hM (fr' := (79, [some (.inr 30), some (.inl w), some (.inl (exI v l 0 (l.length : Int))), some (.inl (Int.gcd (tar v 1 (tg l (exI v l 0 (l.length : Int)))) (tar v 0 (tg l (exI v l 0 (l.length : Int)))) : Int))], [.inl (Int.gcd (tar v 1 (tg l (exI v l 0 (l.length : Int)))) (tar v 0 (tg l (exI v l 0 (l.length : Int)))) : Int), .inl (tar v 0 (tg l (exI v l 0 (l.length : Int))))], σ)) rfl ?_
            refine wp_div hM rfl (by omega) (by omega) (by omega) ?_
            refine wp_ret hM rfl (rfl) ?_
            refine ⟨?_, h0, Fm.rf⟩
            rw [← shq_div (by omega)]
            unfold aStretch stG stT
            repeat' split
            all_goals first | rfl | (exfalso; omega)
          · replace c62 := cmp_eq_f c62
            refine wp_go 2 hM (fr' := (67, [some (.inr 30), some (.inl w), some (.inl (exI v l 0 (l.length : Int))), some (.inl (Int.gcd (tar v 1 (tg l (exI v l 0 (l.length : Int)))) (tar v 0 (tg l (exI v l 0 (l.length : Int)))) : Int))], [.inl 5, .inl w, .inl (exI v l 0 (l.length : Int)), .inr 30], σ)) rfl ?_
            refine wp_ic (tgt := 74) hM rfl (by decide) (by omega) (by omega) (fun c67 => ?_) (fun c67 => ?_)
            · replace c67 := cmp_ne_t c67
              refine wp_go 1 hM (fr' := (75, [some (.inr 30), some (.inl w), some (.inl (exI v l 0 (l.length : Int))), some (.inl (Int.gcd (tar v 1 (tg l (exI v l 0 (l.length : Int)))) (tar v 0 (tg l (exI v l 0 (l.length : Int)))) : Int))], [.inl 0, .inl (exI v l 0 (l.length : Int)), .inr 30], σ)) rfl ?_
              refine wp_calld (v := 0) (idx := 104) (j := 114) (N := mtX6_areaOf) (as := [.inr 30, .inl (exI v l 0 (l.length : Int)), .inl 0]) (rest := []) hM rfl (Or.inl ⟨rfl, rfl⟩) rfl (sp_X6_areaOf_0 v l σ (exI v l 0 (l.length : Int)) (by first | (first | assumption | exact a1.1 | exact a1.2 | exact a2.1 | exact a2.2 | omega) | fail) (by first | (first | assumption | exact a1.1 | exact a1.2 | exact a2.1 | exact a2.2 | omega) | fail) (by first | (first | assumption | exact a1.1 | exact a1.2 | exact a2.1 | exact a2.2 | omega) | fail) (by first | (first | assumption | exact a1.1 | exact a1.2 | exact a2.1 | exact a2.2 | omega) | fail)) ?_
              show mz_Wp shM none 178 (78, [some (.inr 30), some (.inl w), some (.inl (exI v l 0 (l.length : Int))), some (.inl (Int.gcd (tar v 1 (tg l (exI v l 0 (l.length : Int)))) (tar v 0 (tg l (exI v l 0 (l.length : Int)))) : Int))], [.inl (tar v 1 (tg l (exI v l 0 (l.length : Int))))], σ) _
              refine wp_go 1 hM (fr' := (79, [some (.inr 30), some (.inl w), some (.inl (exI v l 0 (l.length : Int))), some (.inl (Int.gcd (tar v 1 (tg l (exI v l 0 (l.length : Int)))) (tar v 0 (tg l (exI v l 0 (l.length : Int)))) : Int))], [.inl (Int.gcd (tar v 1 (tg l (exI v l 0 (l.length : Int)))) (tar v 0 (tg l (exI v l 0 (l.length : Int)))) : Int), .inl (tar v 1 (tg l (exI v l 0 (l.length : Int))))], σ)) rfl ?_
              refine wp_div hM rfl (by omega) (by omega) (by omega) ?_
              refine wp_ret hM rfl (rfl) ?_
              refine ⟨?_, h0, Fm.rf⟩
              rw [← shq_div (by omega)]
              unfold aStretch stG stT
              repeat' split
              all_goals first | rfl | (exfalso; omega)
            · replace c67 := cmp_ne_f c67
              refine wp_go 2 hM (fr' := (75, [some (.inr 30), some (.inl w), some (.inl (exI v l 0 (l.length : Int))), some (.inl (Int.gcd (tar v 1 (tg l (exI v l 0 (l.length : Int)))) (tar v 0 (tg l (exI v l 0 (l.length : Int)))) : Int))], [.inl 1, .inl (exI v l 0 (l.length : Int)), .inr 30], σ)) rfl ?_
              refine wp_calld (v := 0) (idx := 104) (j := 114) (N := mtX6_areaOf) (as := [.inr 30, .inl (exI v l 0 (l.length : Int)), .inl 1]) (rest := []) hM rfl (Or.inl ⟨rfl, rfl⟩) rfl (sp_X6_areaOf_1 v l σ (exI v l 0 (l.length : Int)) (by first | (first | assumption | exact a1.1 | exact a1.2 | exact a2.1 | exact a2.2 | omega) | fail) (by first | (first | assumption | exact a1.1 | exact a1.2 | exact a2.1 | exact a2.2 | omega) | fail) (by first | (first | assumption | exact a1.1 | exact a1.2 | exact a2.1 | exact a2.2 | omega) | fail) (by first | (first | assumption | exact a1.1 | exact a1.2 | exact a2.1 | exact a2.2 | omega) | fail)) ?_
              show mz_Wp shM none 178 (78, [some (.inr 30), some (.inl w), some (.inl (exI v l 0 (l.length : Int))), some (.inl (Int.gcd (tar v 1 (tg l (exI v l 0 (l.length : Int)))) (tar v 0 (tg l (exI v l 0 (l.length : Int)))) : Int))], [.inl (tar v 0 (tg l (exI v l 0 (l.length : Int))))], σ) _
              refine wp_go 1 hM (fr' := (79, [some (.inr 30), some (.inl w), some (.inl (exI v l 0 (l.length : Int))), some (.inl (Int.gcd (tar v 1 (tg l (exI v l 0 (l.length : Int)))) (tar v 0 (tg l (exI v l 0 (l.length : Int)))) : Int))], [.inl (Int.gcd (tar v 1 (tg l (exI v l 0 (l.length : Int)))) (tar v 0 (tg l (exI v l 0 (l.length : Int)))) : Int), .inl (tar v 0 (tg l (exI v l 0 (l.length : Int))))], σ)) rfl ?_
              refine wp_div hM rfl (by omega) (by omega) (by omega) ?_
              refine wp_ret hM rfl (rfl) ?_
              refine ⟨?_, h0, Fm.rf⟩
              rw [← shq_div (by omega)]
              unfold aStretch stG stT
              repeat' split
              all_goals first | rfl | (exfalso; omega)
        · replace c37 := cmp_ge_f c37
          refine wp_go 1 hM (fr' := (41, [some (.inr 30), some (.inl w), some (.inl (exI v l 0 (l.length : Int))), none], [.inl (exI v l 0 (l.length : Int))], σ)) rfl ?_
          refine wp_ret hM rfl (rfl) ?_
          refine ⟨?_, h0, Fm.rf⟩
          unfold aStretch stT
          repeat' split
          all_goals first | rfl | (exfalso; omega)
      · replace c18 := cmp_eq_f c18
        refine wp_go 2 hM (fr' := (23, [some (.inr 30), some (.inl w), none, none], [.inl 3, .inl w, .inr 30], σ)) rfl ?_
        refine wp_ic (tgt := 30) hM rfl (by decide) (by omega) (by omega) (fun c23 => ?_) (fun c23 => ?_)
        · replace c23 := cmp_ne_t c23
          refine wp_go 1 hM (fr' := (31, [some (.inr 30), some (.inl w), none, none], [.inl 0, .inr 30], σ)) rfl ?_
          refine wp_calld (v := 0) (idx := 241) (j := 177) (N := mtX6_extreme) (as := [.inr 30, .inl 0]) (rest := []) hM rfl (Or.inl ⟨rfl, rfl⟩) rfl (sp_X6_extreme_0 v l σ  (by first | (first | assumption | omega) | fail) (by first | (first | assumption | omega) | fail) (by first | (first | assumption | omega) | fail)) ?_
          show mz_Wp shM none 178 (34, [some (.inr 30), some (.inl w), none, none], [.inl (exI v l 1 (l.length : Int))], σ) _
          refine wp_go 3 hM (fr' := (37, [some (.inr 30), some (.inl w), some (.inl (exI v l 1 (l.length : Int))), none], [.inl 2, .inl w], σ)) rfl ?_
          refine wp_ic (tgt := 42) hM rfl (by decide) (by omega) (by omega) (fun c37 => ?_) (fun c37 => ?_)
          · replace c37 := cmp_ge_t c37
            refine wp_go 3 hM (fr' := (45, [some (.inr 30), some (.inl w), some (.inl (exI v l 1 (l.length : Int))), none], [.inl 0, .inl (exI v l 1 (l.length : Int)), .inr 30], σ)) rfl ?_
            refine wp_calld (v := 0) (idx := 104) (j := 114) (N := mtX6_areaOf) (as := [.inr 30, .inl (exI v l 1 (l.length : Int)), .inl 0]) (rest := []) hM rfl (Or.inl ⟨rfl, rfl⟩) rfl (sp_X6_areaOf_0 v l σ (exI v l 1 (l.length : Int)) (by first | (first | assumption | exact a1.1 | exact a1.2 | exact a2.1 | exact a2.2 | omega) | fail) (by first | (first | assumption | exact a1.1 | exact a1.2 | exact a2.1 | exact a2.2 | omega) | fail) (by first | (first | assumption | exact a1.1 | exact a1.2 | exact a2.1 | exact a2.2 | omega) | fail) (by first | (first | assumption | exact a1.1 | exact a1.2 | exact a2.1 | exact a2.2 | omega) | fail)) ?_
            show mz_Wp shM none 178 (48, [some (.inr 30), some (.inl w), some (.inl (exI v l 1 (l.length : Int))), none], [.inl (tar v 1 (tg l (exI v l 1 (l.length : Int))))], σ) _
            refine wp_go 3 hM (fr' := (51, [some (.inr 30), some (.inl w), some (.inl (exI v l 1 (l.length : Int))), none], [.inl 1, .inl (exI v l 1 (l.length : Int)), .inr 30, .inl (tar v 1 (tg l (exI v l 1 (l.length : Int))))], σ)) rfl ?_
            refine wp_calld (v := 0) (idx := 104) (j := 114) (N := mtX6_areaOf) (as := [.inr 30, .inl (exI v l 1 (l.length : Int)), .inl 1]) (rest := [.inl (tar v 1 (tg l (exI v l 1 (l.length : Int))))]) hM rfl (Or.inl ⟨rfl, rfl⟩) rfl (sp_X6_areaOf_1 v l σ (exI v l 1 (l.length : Int)) (by first | (first | assumption | exact a1.1 | exact a1.2 | exact a2.1 | exact a2.2 | omega) | fail) (by first | (first | assumption | exact a1.1 | exact a1.2 | exact a2.1 | exact a2.2 | omega) | fail) (by first | (first | assumption | exact a1.1 | exact a1.2 | exact a2.1 | exact a2.2 | omega) | fail) (by first | (first | assumption | exact a1.1 | exact a1.2 | exact a2.1 | exact a2.2 | omega) | fail)) ?_
            show mz_Wp shM none 178 (54, [some (.inr 30), some (.inl w), some (.inl (exI v l 1 (l.length : Int))), none], [.inl (tar v 0 (tg l (exI v l 1 (l.length : Int)))), .inl (tar v 1 (tg l (exI v l 1 (l.length : Int))))], σ) _
            refine wp_calld (v := 1) (idx := 224) (j := 158) (N := mtX6_common) (as := [.inl (tar v 1 (tg l (exI v l 1 (l.length : Int)))), .inl (tar v 0 (tg l (exI v l 1 (l.length : Int))))]) (rest := []) hM rfl (Or.inr ⟨rfl, rfl⟩) rfl (sp_X6_common  σ (tar v 1 (tg l (exI v l 1 (l.length : Int)))) (tar v 0 (tg l (exI v l 1 (l.length : Int)))) (by omega) (by omega) (by omega) (by omega)) ?_
            show mz_Wp shM none 178 (57, [some (.inr 30), some (.inl w), some (.inl (exI v l 1 (l.length : Int))), none], [.inl (Int.gcd (tar v 1 (tg l (exI v l 1 (l.length : Int)))) (tar v 0 (tg l (exI v l 1 (l.length : Int)))) : Int)], σ) _
            refine wp_go 5 hM (fr' := (62, [some (.inr 30), some (.inl w), some (.inl (exI v l 1 (l.length : Int))), some (.inl (Int.gcd (tar v 1 (tg l (exI v l 1 (l.length : Int)))) (tar v 0 (tg l (exI v l 1 (l.length : Int)))) : Int))], [.inl 3, .inl w, .inl (exI v l 1 (l.length : Int)), .inr 30], σ)) rfl ?_
            refine wp_ic (tgt := 70) hM rfl (by decide) (by omega) (by omega) (fun c62 => ?_) (fun c62 => ?_)
            · replace c62 := cmp_eq_t c62
              refine wp_go 2 hM (fr' := (75, [some (.inr 30), some (.inl w), some (.inl (exI v l 1 (l.length : Int))), some (.inl (Int.gcd (tar v 1 (tg l (exI v l 1 (l.length : Int)))) (tar v 0 (tg l (exI v l 1 (l.length : Int)))) : Int))], [.inl 1, .inl (exI v l 1 (l.length : Int)), .inr 30], σ)) rfl ?_
              refine wp_calld (v := 0) (idx := 104) (j := 114) (N := mtX6_areaOf) (as := [.inr 30, .inl (exI v l 1 (l.length : Int)), .inl 1]) (rest := []) hM rfl (Or.inl ⟨rfl, rfl⟩) rfl (sp_X6_areaOf_1 v l σ (exI v l 1 (l.length : Int)) (by first | (first | assumption | exact a1.1 | exact a1.2 | exact a2.1 | exact a2.2 | omega) | fail) (by first | (first | assumption | exact a1.1 | exact a1.2 | exact a2.1 | exact a2.2 | omega) | fail) (by first | (first | assumption | exact a1.1 | exact a1.2 | exact a2.1 | exact a2.2 | omega) | fail) (by first | (first | assumption | exact a1.1 | exact a1.2 | exact a2.1 | exact a2.2 | omega) | fail)) ?_
              show mz_Wp shM none 178 (78, [some (.inr 30), some (.inl w), some (.inl (exI v l 1 (l.length : Int))), some (.inl (Int.gcd (tar v 1 (tg l (exI v l 1 (l.length : Int)))) (tar v 0 (tg l (exI v l 1 (l.length : Int)))) : Int))], [.inl (tar v 0 (tg l (exI v l 1 (l.length : Int))))], σ) _
              refine wp_go 1 hM (fr' := (79, [some (.inr 30), some (.inl w), some (.inl (exI v l 1 (l.length : Int))), some (.inl (Int.gcd (tar v 1 (tg l (exI v l 1 (l.length : Int)))) (tar v 0 (tg l (exI v l 1 (l.length : Int)))) : Int))], [.inl (Int.gcd (tar v 1 (tg l (exI v l 1 (l.length : Int)))) (tar v 0 (tg l (exI v l 1 (l.length : Int)))) : Int), .inl (tar v 0 (tg l (exI v l 1 (l.length : Int))))], σ)) rfl ?_
              refine wp_div hM rfl (by omega) (by omega) (by omega) ?_
              refine wp_ret hM rfl (rfl) ?_
              refine ⟨?_, h0, Fm.rf⟩
              rw [← shq_div (by omega)]
              unfold aStretch stG stT
              repeat' split
              all_goals first | rfl | (exfalso; omega)
            · replace c62 := cmp_eq_f c62
              refine wp_go 2 hM (fr' := (67, [some (.inr 30), some (.inl w), some (.inl (exI v l 1 (l.length : Int))), some (.inl (Int.gcd (tar v 1 (tg l (exI v l 1 (l.length : Int)))) (tar v 0 (tg l (exI v l 1 (l.length : Int)))) : Int))], [.inl 5, .inl w, .inl (exI v l 1 (l.length : Int)), .inr 30], σ)) rfl ?_
              refine wp_ic (tgt := 74) hM rfl (by decide) (by omega) (by omega) (fun c67 => ?_) (fun c67 => ?_)
              · replace c67 := cmp_ne_t c67
                refine wp_go 1 hM (fr' := (75, [some (.inr 30), some (.inl w), some (.inl (exI v l 1 (l.length : Int))), some (.inl (Int.gcd (tar v 1 (tg l (exI v l 1 (l.length : Int)))) (tar v 0 (tg l (exI v l 1 (l.length : Int)))) : Int))], [.inl 0, .inl (exI v l 1 (l.length : Int)), .inr 30], σ)) rfl ?_
                refine wp_calld (v := 0) (idx := 104) (j := 114) (N := mtX6_areaOf) (as := [.inr 30, .inl (exI v l 1 (l.length : Int)), .inl 0]) (rest := []) hM rfl (Or.inl ⟨rfl, rfl⟩) rfl (sp_X6_areaOf_0 v l σ (exI v l 1 (l.length : Int)) (by first | (first | assumption | exact a1.1 | exact a1.2 | exact a2.1 | exact a2.2 | omega) | fail) (by first | (first | assumption | exact a1.1 | exact a1.2 | exact a2.1 | exact a2.2 | omega) | fail) (by first | (first | assumption | exact a1.1 | exact a1.2 | exact a2.1 | exact a2.2 | omega) | fail) (by first | (first | assumption | exact a1.1 | exact a1.2 | exact a2.1 | exact a2.2 | omega) | fail)) ?_
                show mz_Wp shM none 178 (78, [some (.inr 30), some (.inl w), some (.inl (exI v l 1 (l.length : Int))), some (.inl (Int.gcd (tar v 1 (tg l (exI v l 1 (l.length : Int)))) (tar v 0 (tg l (exI v l 1 (l.length : Int)))) : Int))], [.inl (tar v 1 (tg l (exI v l 1 (l.length : Int))))], σ) _
                refine wp_go 1 hM (fr' := (79, [some (.inr 30), some (.inl w), some (.inl (exI v l 1 (l.length : Int))), some (.inl (Int.gcd (tar v 1 (tg l (exI v l 1 (l.length : Int)))) (tar v 0 (tg l (exI v l 1 (l.length : Int)))) : Int))], [.inl (Int.gcd (tar v 1 (tg l (exI v l 1 (l.length : Int)))) (tar v 0 (tg l (exI v l 1 (l.length : Int)))) : Int), .inl (tar v 1 (tg l (exI v l 1 (l.length : Int))))], σ)) rfl ?_
                refine wp_div hM rfl (by omega) (by omega) (by omega) ?_
                refine wp_ret hM rfl (rfl) ?_
                refine ⟨?_, h0, Fm.rf⟩
                rw [← shq_div (by omega)]
                unfold aStretch stG stT
                repeat' split
                all_goals first | rfl | (exfalso; omega)
              · replace c67 := cmp_ne_f c67
                refine wp_go 2 hM (fr' := (75, [some (.inr 30), some (.inl w), some (.inl (exI v l 1 (l.length : Int))), some (.inl (Int.gcd (tar v 1 (tg l (exI v l 1 (l.length : Int)))) (tar v 0 (tg l (exI v l 1 (l.length : Int)))) : Int))], [.inl 1, .inl (exI v l 1 (l.length : Int)), .inr 30], σ)) rfl ?_
                refine wp_calld (v := 0) (idx := 104) (j := 114) (N := mtX6_areaOf) (as := [.inr 30, .inl (exI v l 1 (l.length : Int)), .inl 1]) (rest := []) hM rfl (Or.inl ⟨rfl, rfl⟩) rfl (sp_X6_areaOf_1 v l σ (exI v l 1 (l.length : Int)) (by first | (first | assumption | exact a1.1 | exact a1.2 | exact a2.1 | exact a2.2 | omega) | fail) (by first | (first | assumption | exact a1.1 | exact a1.2 | exact a2.1 | exact a2.2 | omega) | fail) (by first | (first | assumption | exact a1.1 | exact a1.2 | exact a2.1 | exact a2.2 | omega) | fail) (by first | (first | assumption | exact a1.1 | exact a1.2 | exact a2.1 | exact a2.2 | omega) | fail)) ?_
                show mz_Wp shM none 178 (78, [some (.inr 30), some (.inl w), some (.inl (exI v l 1 (l.length : Int))), some (.inl (Int.gcd (tar v 1 (tg l (exI v l 1 (l.length : Int)))) (tar v 0 (tg l (exI v l 1 (l.length : Int)))) : Int))], [.inl (tar v 0 (tg l (exI v l 1 (l.length : Int))))], σ) _
                refine wp_go 1 hM (fr' := (79, [some (.inr 30), some (.inl w), some (.inl (exI v l 1 (l.length : Int))), some (.inl (Int.gcd (tar v 1 (tg l (exI v l 1 (l.length : Int)))) (tar v 0 (tg l (exI v l 1 (l.length : Int)))) : Int))], [.inl (Int.gcd (tar v 1 (tg l (exI v l 1 (l.length : Int)))) (tar v 0 (tg l (exI v l 1 (l.length : Int)))) : Int), .inl (tar v 0 (tg l (exI v l 1 (l.length : Int))))], σ)) rfl ?_
                refine wp_div hM rfl (by omega) (by omega) (by omega) ?_
                refine wp_ret hM rfl (rfl) ?_
                refine ⟨?_, h0, Fm.rf⟩
                rw [← shq_div (by omega)]
                unfold aStretch stG stT
                repeat' split
                all_goals first | rfl | (exfalso; omega)
          · replace c37 := cmp_ge_f c37
            refine wp_go 1 hM (fr' := (41, [some (.inr 30), some (.inl w), some (.inl (exI v l 1 (l.length : Int))), none], [.inl (exI v l 1 (l.length : Int))], σ)) rfl ?_
            refine wp_ret hM rfl (rfl) ?_
            refine ⟨?_, h0, Fm.rf⟩
            unfold aStretch stT
            repeat' split
            all_goals first | rfl | (exfalso; omega)
        · replace c23 := cmp_ne_f c23
          refine wp_go 2 hM (fr' := (31, [some (.inr 30), some (.inl w), none, none], [.inl 1, .inr 30], σ)) rfl ?_
          refine wp_calld (v := 0) (idx := 241) (j := 177) (N := mtX6_extreme) (as := [.inr 30, .inl 1]) (rest := []) hM rfl (Or.inl ⟨rfl, rfl⟩) rfl (sp_X6_extreme_1 v l σ  (by first | (first | assumption | omega) | fail) (by first | (first | assumption | omega) | fail) (by first | (first | assumption | omega) | fail)) ?_
          show mz_Wp shM none 178 (34, [some (.inr 30), some (.inl w), none, none], [.inl (exI v l 0 (l.length : Int))], σ) _
          refine wp_go 3 hM (fr' := (37, [some (.inr 30), some (.inl w), some (.inl (exI v l 0 (l.length : Int))), none], [.inl 2, .inl w], σ)) rfl ?_
          refine wp_ic (tgt := 42) hM rfl (by decide) (by omega) (by omega) (fun c37 => ?_) (fun c37 => ?_)
          · replace c37 := cmp_ge_t c37
            refine wp_go 3 hM (fr' := (45, [some (.inr 30), some (.inl w), some (.inl (exI v l 0 (l.length : Int))), none], [.inl 0, .inl (exI v l 0 (l.length : Int)), .inr 30], σ)) rfl ?_
            refine wp_calld (v := 0) (idx := 104) (j := 114) (N := mtX6_areaOf) (as := [.inr 30, .inl (exI v l 0 (l.length : Int)), .inl 0]) (rest := []) hM rfl (Or.inl ⟨rfl, rfl⟩) rfl (sp_X6_areaOf_0 v l σ (exI v l 0 (l.length : Int)) (by first | (first | assumption | exact a1.1 | exact a1.2 | exact a2.1 | exact a2.2 | omega) | fail) (by first | (first | assumption | exact a1.1 | exact a1.2 | exact a2.1 | exact a2.2 | omega) | fail) (by first | (first | assumption | exact a1.1 | exact a1.2 | exact a2.1 | exact a2.2 | omega) | fail) (by first | (first | assumption | exact a1.1 | exact a1.2 | exact a2.1 | exact a2.2 | omega) | fail)) ?_
            show mz_Wp shM none 178 (48, [some (.inr 30), some (.inl w), some (.inl (exI v l 0 (l.length : Int))), none], [.inl (tar v 1 (tg l (exI v l 0 (l.length : Int))))], σ) _
            refine wp_go 3 hM (fr' := (51, [some (.inr 30), some (.inl w), some (.inl (exI v l 0 (l.length : Int))), none], [.inl 1, .inl (exI v l 0 (l.length : Int)), .inr 30, .inl (tar v 1 (tg l (exI v l 0 (l.length : Int))))], σ)) rfl ?_
            refine wp_calld (v := 0) (idx := 104) (j := 114) (N := mtX6_areaOf) (as := [.inr 30, .inl (exI v l 0 (l.length : Int)), .inl 1]) (rest := [.inl (tar v 1 (tg l (exI v l 0 (l.length : Int))))]) hM rfl (Or.inl ⟨rfl, rfl⟩) rfl (sp_X6_areaOf_1 v l σ (exI v l 0 (l.length : Int)) (by first | (first | assumption | exact a1.1 | exact a1.2 | exact a2.1 | exact a2.2 | omega) | fail) (by first | (first | assumption | exact a1.1 | exact a1.2 | exact a2.1 | exact a2.2 | omega) | fail) (by first | (first | assumption | exact a1.1 | exact a1.2 | exact a2.1 | exact a2.2 | omega) | fail) (by first | (first | assumption | exact a1.1 | exact a1.2 | exact a2.1 | exact a2.2 | omega) | fail)) ?_
            show mz_Wp shM none 178 (54, [some (.inr 30), some (.inl w), some (.inl (exI v l 0 (l.length : Int))), none], [.inl (tar v 0 (tg l (exI v l 0 (l.length : Int)))), .inl (tar v 1 (tg l (exI v l 0 (l.length : Int))))], σ) _
            refine wp_calld (v := 1) (idx := 224) (j := 158) (N := mtX6_common) (as := [.inl (tar v 1 (tg l (exI v l 0 (l.length : Int)))), .inl (tar v 0 (tg l (exI v l 0 (l.length : Int))))]) (rest := []) hM rfl (Or.inr ⟨rfl, rfl⟩) rfl (sp_X6_common  σ (tar v 1 (tg l (exI v l 0 (l.length : Int)))) (tar v 0 (tg l (exI v l 0 (l.length : Int)))) (by omega) (by omega) (by omega) (by omega)) ?_
            show mz_Wp shM none 178 (57, [some (.inr 30), some (.inl w), some (.inl (exI v l 0 (l.length : Int))), none], [.inl (Int.gcd (tar v 1 (tg l (exI v l 0 (l.length : Int)))) (tar v 0 (tg l (exI v l 0 (l.length : Int)))) : Int)], σ) _
            refine wp_go 5 hM (fr' := (62, [some (.inr 30), some (.inl w), some (.inl (exI v l 0 (l.length : Int))), some (.inl (Int.gcd (tar v 1 (tg l (exI v l 0 (l.length : Int)))) (tar v 0 (tg l (exI v l 0 (l.length : Int)))) : Int))], [.inl 3, .inl w, .inl (exI v l 0 (l.length : Int)), .inr 30], σ)) rfl ?_
            refine wp_ic (tgt := 70) hM rfl (by decide) (by omega) (by omega) (fun c62 => ?_) (fun c62 => ?_)
            · replace c62 := cmp_eq_t c62
              refine wp_go 2 hM (fr' := (75, [some (.inr 30), some (.inl w), some (.inl (exI v l 0 (l.length : Int))), some (.inl (Int.gcd (tar v 1 (tg l (exI v l 0 (l.length : Int)))) (tar v 0 (tg l (exI v l 0 (l.length : Int)))) : Int))], [.inl 1, .inl (exI v l 0 (l.length : Int)), .inr 30], σ)) rfl ?_
              refine wp_calld (v := 0) (idx := 104) (j := 114) (N := mtX6_areaOf) (as := [.inr 30, .inl (exI v l 0 (l.length : Int)), .inl 1]) (rest := []) hM rfl (Or.inl ⟨rfl, rfl⟩) rfl (sp_X6_areaOf_1 v l σ (exI v l 0 (l.length : Int)) (by first | (first | assumption | exact a1.1 | exact a1.2 | exact a2.1 | exact a2.2 | omega) | fail) (by first | (first | assumption | exact a1.1 | exact a1.2 | exact a2.1 | exact a2.2 | omega) | fail) (by first | (first | assumption | exact a1.1 | exact a1.2 | exact a2.1 | exact a2.2 | omega) | fail) (by first | (first | assumption | exact a1.1 | exact a1.2 | exact a2.1 | exact a2.2 | omega) | fail)) ?_
              show mz_Wp shM none 178 (78, [some (.inr 30), some (.inl w), some (.inl (exI v l 0 (l.length : Int))), some (.inl (Int.gcd (tar v 1 (tg l (exI v l 0 (l.length : Int)))) (tar v 0 (tg l (exI v l 0 (l.length : Int)))) : Int))], [.inl (tar v 0 (tg l (exI v l 0 (l.length : Int))))], σ) _
              refine wp_go 1 hM (fr' := (79, [some (.inr 30), some (.inl w), some (.inl (exI v l 0 (l.length : Int))), some (.inl (Int.gcd (tar v 1 (tg l (exI v l 0 (l.length : Int)))) (tar v 0 (tg l (exI v l 0 (l.length : Int)))) : Int))], [.inl (Int.gcd (tar v 1 (tg l (exI v l 0 (l.length : Int)))) (tar v 0 (tg l (exI v l 0 (l.length : Int)))) : Int), .inl (tar v 0 (tg l (exI v l 0 (l.length : Int))))], σ)) rfl ?_
              refine wp_div hM rfl (by omega) (by omega) (by omega) ?_
              refine wp_ret hM rfl (rfl) ?_
              refine ⟨?_, h0, Fm.rf⟩
              rw [← shq_div (by omega)]
              unfold aStretch stG stT
              repeat' split
              all_goals first | rfl | (exfalso; omega)
            · replace c62 := cmp_eq_f c62
              refine wp_go 2 hM (fr' := (67, [some (.inr 30), some (.inl w), some (.inl (exI v l 0 (l.length : Int))), some (.inl (Int.gcd (tar v 1 (tg l (exI v l 0 (l.length : Int)))) (tar v 0 (tg l (exI v l 0 (l.length : Int)))) : Int))], [.inl 5, .inl w, .inl (exI v l 0 (l.length : Int)), .inr 30], σ)) rfl ?_
              refine wp_ic (tgt := 74) hM rfl (by decide) (by omega) (by omega) (fun c67 => ?_) (fun c67 => ?_)
              · replace c67 := cmp_ne_t c67
                refine wp_go 1 hM (fr' := (75, [some (.inr 30), some (.inl w), some (.inl (exI v l 0 (l.length : Int))), some (.inl (Int.gcd (tar v 1 (tg l (exI v l 0 (l.length : Int)))) (tar v 0 (tg l (exI v l 0 (l.length : Int)))) : Int))], [.inl 0, .inl (exI v l 0 (l.length : Int)), .inr 30], σ)) rfl ?_
                refine wp_calld (v := 0) (idx := 104) (j := 114) (N := mtX6_areaOf) (as := [.inr 30, .inl (exI v l 0 (l.length : Int)), .inl 0]) (rest := []) hM rfl (Or.inl ⟨rfl, rfl⟩) rfl (sp_X6_areaOf_0 v l σ (exI v l 0 (l.length : Int)) (by first | (first | assumption | exact a1.1 | exact a1.2 | exact a2.1 | exact a2.2 | omega) | fail) (by first | (first | assumption | exact a1.1 | exact a1.2 | exact a2.1 | exact a2.2 | omega) | fail) (by first | (first | assumption | exact a1.1 | exact a1.2 | exact a2.1 | exact a2.2 | omega) | fail) (by first | (first | assumption | exact a1.1 | exact a1.2 | exact a2.1 | exact a2.2 | omega) | fail)) ?_
                show mz_Wp shM none 178 (78, [some (.inr 30), some (.inl w), some (.inl (exI v l 0 (l.length : Int))), some (.inl (Int.gcd (tar v 1 (tg l (exI v l 0 (l.length : Int)))) (tar v 0 (tg l (exI v l 0 (l.length : Int)))) : Int))], [.inl (tar v 1 (tg l (exI v l 0 (l.length : Int))))], σ) _
                refine wp_go 1 hM (fr' := (79, [some (.inr 30), some (.inl w), some (.inl (exI v l 0 (l.length : Int))), some (.inl (Int.gcd (tar v 1 (tg l (exI v l 0 (l.length : Int)))) (tar v 0 (tg l (exI v l 0 (l.length : Int)))) : Int))], [.inl (Int.gcd (tar v 1 (tg l (exI v l 0 (l.length : Int)))) (tar v 0 (tg l (exI v l 0 (l.length : Int)))) : Int), .inl (tar v 1 (tg l (exI v l 0 (l.length : Int))))], σ)) rfl ?_
                refine wp_div hM rfl (by omega) (by omega) (by omega) ?_
                refine wp_ret hM rfl (rfl) ?_
                refine ⟨?_, h0, Fm.rf⟩
                rw [← shq_div (by omega)]
                unfold aStretch stG stT
                repeat' split
                all_goals first | rfl | (exfalso; omega)
              · replace c67 := cmp_ne_f c67
                refine wp_go 2 hM (fr' := (75, [some (.inr 30), some (.inl w), some (.inl (exI v l 0 (l.length : Int))), some (.inl (Int.gcd (tar v 1 (tg l (exI v l 0 (l.length : Int)))) (tar v 0 (tg l (exI v l 0 (l.length : Int)))) : Int))], [.inl 1, .inl (exI v l 0 (l.length : Int)), .inr 30], σ)) rfl ?_
                refine wp_calld (v := 0) (idx := 104) (j := 114) (N := mtX6_areaOf) (as := [.inr 30, .inl (exI v l 0 (l.length : Int)), .inl 1]) (rest := []) hM rfl (Or.inl ⟨rfl, rfl⟩) rfl (sp_X6_areaOf_1 v l σ (exI v l 0 (l.length : Int)) (by first | (first | assumption | exact a1.1 | exact a1.2 | exact a2.1 | exact a2.2 | omega) | fail) (by first | (first | assumption | exact a1.1 | exact a1.2 | exact a2.1 | exact a2.2 | omega) | fail) (by first | (first | assumption | exact a1.1 | exact a1.2 | exact a2.1 | exact a2.2 | omega) | fail) (by first | (first | assumption | exact a1.1 | exact a1.2 | exact a2.1 | exact a2.2 | omega) | fail)) ?_
                show mz_Wp shM none 178 (78, [some (.inr 30), some (.inl w), some (.inl (exI v l 0 (l.length : Int))), some (.inl (Int.gcd (tar v 1 (tg l (exI v l 0 (l.length : Int)))) (tar v 0 (tg l (exI v l 0 (l.length : Int)))) : Int))], [.inl (tar v 0 (tg l (exI v l 0 (l.length : Int))))], σ) _
                refine wp_go 1 hM (fr' := (79, [some (.inr 30), some (.inl w), some (.inl (exI v l 0 (l.length : Int))), some (.inl (Int.gcd (tar v 1 (tg l (exI v l 0 (l.length : Int)))) (tar v 0 (tg l (exI v l 0 (l.length : Int)))) : Int))], [.inl (Int.gcd (tar v 1 (tg l (exI v l 0 (l.length : Int)))) (tar v 0 (tg l (exI v l 0 (l.length : Int)))) : Int), .inl (tar v 0 (tg l (exI v l 0 (l.length : Int))))], σ)) rfl ?_
                refine wp_div hM rfl (by omega) (by omega) (by omega) ?_
                refine wp_ret hM rfl (rfl) ?_
                refine ⟨?_, h0, Fm.rf⟩
                rw [← shq_div (by omega)]
                unfold aStretch stG stT
                repeat' split
                all_goals first | rfl | (exfalso; omega)
          · replace c37 := cmp_ge_f c37
            refine wp_go 1 hM (fr' := (41, [some (.inr 30), some (.inl w), some (.inl (exI v l 0 (l.length : Int))), none], [.inl (exI v l 0 (l.length : Int))], σ)) rfl ?_
            refine wp_ret hM rfl (rfl) ?_
            refine ⟨?_, h0, Fm.rf⟩
            unfold aStretch stT
            repeat' split
            all_goals first | rfl | (exfalso; omega)
  · replace c6 := b01_eq0 (cmp_ne_f c6)
    refine wp_go 1 hM (fr' := (10, [some (.inr 30), some (.inl w), none, none], [.inl (-1)], σ)) rfl ?_
    refine wp_ret hM rfl (rfl) ?_
    first | (exact ⟨by unfold aStretch; rw [if_pos (by omega)], h0, Fm.rf⟩) | fail
