/-! the reference: insert, turn -/
set_option maxRecDepth 100000 in
set_option maxHeartbeats 4000000 in
theorem sp_X6_insert (v : mz_G) (l : List tr3) (σ : mz_G) (a : Int) (b : Int) (x : Int) (y : Int) (h0 : MA σ v l) (h1 : GO v l) (h2 : mz_R a) (h3 : mz_R b) (h4 : mz_R x) (h5 : mz_R y) (h6 : GD v l) : mz_Cl shM 126 [.inr 30, .inl a, .inl b, .inl x, .inl y] σ (fun r σ' => r = some (aIns v l a b x y) ∧ MA σ' (vIns v l a b x y) (lIns v l a b x y) ∧ Fm σ σ') := by
  have hM : mz_meth[126]? = some mtX6_insert := rfl
  obtain ⟨hB, hSd, ⟨hP0, hP1⟩, ⟨hC0, hC1'⟩, hVr, hn30, hl2⟩ := id h1
  obtain ⟨hR, hT, hLen⟩ := id hB
  obtain ⟨⟨hW0, hW1⟩, ⟨hH0, hH1⟩, ⟨hn0, hn1⟩, hpt⟩ := id hR
  obtain ⟨⟨⟨hc1, hc2, hc3⟩, hcp, hcv⟩, hc4, hct⟩ := id h0
  have hWH := WH_bd hR
  refine mz_Cl.of hM ?_
  show mz_Wp shM none 126 (0, [some (.inr 30), some (.inl a), some (.inl b), some (.inl x), some (.inl y), none], [], σ) _
  refine wp_go 3 hM (fr' := (3, [some (.inr 30), some (.inl a), some (.inl b), some (.inl x), some (.inl y), none], [.inl b, .inl a, .inr 30], σ)) rfl ?_
  refine wp_calld (v := 0) (idx := 120) (j := 122) (N := mtX6_isDot) (as := [.inr 30, .inl a, .inl b]) (rest := []) hM rfl (Or.inl ⟨rfl, rfl⟩) rfl (sp_X6_isDot v l σ a b (by first | (first | assumption | omega) | fail) (by first | (first | assumption | omega) | fail) (by first | (first | assumption | omega) | fail) (by first | (first | assumption | omega) | fail)) ?_
  show mz_Wp shM none 126 (6, [some (.inr 30), some (.inl a), some (.inl b), some (.inl x), some (.inl y), none], [.inl (b01 (dot v a b))], σ) _
  refine wp_if (tgt := 19) hM rfl (by decide) b01_R (fun c6 => ?_) (fun c6 => ?_)
  · replace c6 := b01_eq0 (cmp_eq_t c6)
    refine wp_go 1 hM (fr' := (20, [some (.inr 30), some (.inl a), some (.inl b), some (.inl x), some (.inl y), none], [.inl (-1)], σ)) rfl ?_
    refine wp_ret hM rfl (rfl) ?_
    have hr1 := rti_1 (v := v) (l := l) (a := a) (b := b) (x := x) (y := y) (by first | exact Or.inl c6 | exact Or.inr c16)
    have hi := ins_k hr1 (by decide)
    rw [hi.1, hi.2.1, hi.2.2]
    exact ⟨rfl, h0, Fm.rf⟩
  · replace c6 := b01_ne0 (cmp_eq_f c6)
    refine wp_go 3 hM (fr' := (13, [some (.inr 30), some (.inl a), some (.inl b), some (.inl x), some (.inl y), none], [.inl y, .inl x, .inr 30], σ)) rfl ?_
    refine wp_calld (v := 0) (idx := 120) (j := 122) (N := mtX6_isDot) (as := [.inr 30, .inl x, .inl y]) (rest := []) hM rfl (Or.inl ⟨rfl, rfl⟩) rfl (sp_X6_isDot v l σ x y (by first | (first | assumption | omega) | fail) (by first | (first | assumption | omega) | fail) (by first | (first | assumption | omega) | fail) (by first | (first | assumption | omega) | fail)) ?_
    show mz_Wp shM none 126 (16, [some (.inr 30), some (.inl a), some (.inl b), some (.inl x), some (.inl y), none], [.inl (b01 (dot v x y))], σ) _
    refine wp_if (tgt := 21) hM rfl (by decide) b01_R (fun c16 => ?_) (fun c16 => ?_)
    · replace c16 := b01_ne0 (cmp_ne_t c16)
      refine wp_go 3 hM (fr' := (24, [some (.inr 30), some (.inl a), some (.inl b), some (.inl x), some (.inl y), none], [.inl b, .inl a, .inr 30], σ)) rfl ?_
      refine wp_calld (v := 0) (idx := 124) (j := 125) (N := mtX6_knotAt) (as := [.inr 30, .inl a, .inl b]) (rest := []) hM rfl (Or.inl ⟨rfl, rfl⟩) rfl (sp_X6_knotAt v l σ a b (by first | (first | assumption | omega) | fail) (by first | (first | assumption | omega) | fail) (by first | (first | assumption | omega) | fail) (by first | (first | assumption | omega) | fail)) ?_
      show mz_Wp shM none 126 (27, [some (.inr 30), some (.inl a), some (.inl b), some (.inl x), some (.inl y), none], [.inl (fstI (v 0 2) (fun k => gx v 0 k = a ∧ gy v 0 k = b))], σ) _
      first | (have hfs := fstI_spec (v 0 2) (fun k => gx v 0 k = a ∧ gy v 0 k = b)) | skip
      refine wp_go 1 hM (fr' := (28, [some (.inr 30), some (.inl a), some (.inl b), some (.inl x), some (.inl y), none], [.inl (-1), .inl (fstI (v 0 2) (fun k => gx v 0 k = a ∧ gy v 0 k = b))], σ)) rfl ?_
      refine wp_ic (tgt := 34) hM rfl (by decide) (by omega) (by omega) (fun c28 => ?_) (fun c28 => ?_)
      · replace c28 := cmp_eq_t c28
        first | (have hni : ¬ ish v a b := fun z => z c28) | skip
        first | (have hno := ish_no hni) | skip
        refine wp_go 5 hM (fr' := (40, [some (.inr 30), some (.inl a), some (.inl b), some (.inl x), some (.inl y), none], [.inl y, .inl x, .inl b, .inl a, .inr 30], σ)) rfl ?_
        refine wp_calld (v := 0) (idx := 127) (j := 124) (N := mtX6_stays) (as := [.inr 30, .inl a, .inl b, .inl x, .inl y]) (rest := []) hM rfl (Or.inl ⟨rfl, rfl⟩) rfl (sp_X6_stays v l σ a b x y (by first | (first | assumption | omega) | fail) (by first | (first | assumption | omega) | fail) (by first | (first | assumption | omega) | fail) (by first | (first | assumption | omega) | fail) (by first | (first | assumption | omega) | fail) (by first | (first | assumption | omega) | fail)) ?_
        show mz_Wp shM none 126 (43, [some (.inr 30), some (.inl a), some (.inl b), some (.inl x), some (.inl y), none], [.inl (b01 (keeps v a b x y))], σ) _
        refine wp_if (tgt := 49) hM rfl (by decide) b01_R (fun c43 => ?_) (fun c43 => ?_)
        · replace c43 := b01_ne0 (cmp_ne_t c43)
          refine wp_go 1 hM (fr' := (50, [some (.inr 30), some (.inl a), some (.inl b), some (.inl x), some (.inl y), none], [.inr 30], σ)) rfl ?_
          refine wp_call (v := 0) (idx := 131) (j := 106) (N := mtX6_keeps) (as := [.inr 30]) (rest := []) hM rfl (Or.inl ⟨rfl, rfl⟩) rfl (sp_X6_keeps  σ  ) ?_
          rintro r0 σ_50 ⟨rfl, hk_50, hf_50⟩
          show mz_Wp shM none 126 (53, [some (.inr 30), some (.inl a), some (.inl b), some (.inl x), some (.inl y), none], [], σ_50) _
          first | (have hA5 : MA σ_50 v l := MA_ext h0 (fun i hi => hf_50 30 i (by omega) (by omega)) (fun c hc i => hf_50 c i (by omega) (by omega))) | skip
          first | (have hn5 : σ_50 30 2 = v 0 2 := hA5.1.1.2.2) | skip
          first | (have hkk : σ_50 30 2 + 1 - 1 = v 0 2 := by omega) | skip
          first | (have hAv : MA (mz_up (mz_up (mz_up (mz_up (mz_up σ_50 31 (σ_50 30 2).toNat a) 32 (σ_50 30 2).toNat b) 33 (σ_50 30 2).toNat x) 34 (σ_50 30 2).toNat y) 30 2 (σ_50 30 2 + 1)) (vin v a b x y) l := MA_vin hA5 hR hn5) | skip
          first | (have hv0 := vin_0 (v := v) (a := a) (b := b) (x := x) (y := y)) | skip
          first | (have hvK := vin_K (v := v) (a := a) (b := b) (x := x) (y := y) (by omega)) | skip
          first | (have hlv := vin_lh (a := a) (b := b) (x := x) (y := y) hT) | skip
          first | (have hBv : Bs (vin v a b x y) l := ⟨Rg_vin hR c6 c16 (by omega), by rw [hv0.2.2.1]; exact Rt_up hT (by omega), hLen⟩) | skip
          first | (have hgl := GD_len h6) | skip
          have hil : ((l.filter (fun z => !decide (hol v 0 z a b))).length : Int) + ((lhOf v l a b).length : Int) ≤ 60 := by
            obtain ⟨p, hG, -⟩ := id h6
            have e := inl_len hG c6 hno
            have b1 := b01_01 (P := a < v 0 0 - 1 ∧ b < v 0 1 - 1)
            have b2 := b01_01 (P := 0 < a ∧ 0 < b)
            omega
          refine wp_go 5 hM (fr' := (62, [some (.inr 30), some (.inl a), some (.inl b), some (.inl x), some (.inl y), none], [.inl a, .inl (σ_50 30 2), .inr 31], σ_50)) rfl ?_
          refine wp_as (n := 31) hM rfl rfl (by first | (rw [hn5]; omega) | fail) (by first | (rw [hn5]; omega) | fail) ?_
          refine wp_go 5 hM (fr' := (72, [some (.inr 30), some (.inl a), some (.inl b), some (.inl x), some (.inl y), none], [.inl b, .inl (σ_50 30 2), .inr 32], (mz_up σ_50 31 (σ_50 30 2).toNat a))) rfl ?_
          refine wp_as (n := 31) hM rfl rfl (by first | (rw [hn5]; omega) | fail) (by first | (rw [hn5]; omega) | fail) ?_
          refine wp_go 5 hM (fr' := (82, [some (.inr 30), some (.inl a), some (.inl b), some (.inl x), some (.inl y), none], [.inl x, .inl (σ_50 30 2), .inr 33], (mz_up (mz_up σ_50 31 (σ_50 30 2).toNat a) 32 (σ_50 30 2).toNat b))) rfl ?_
          refine wp_as (n := 31) hM rfl rfl (by first | (rw [hn5]; omega) | fail) (by first | (rw [hn5]; omega) | fail) ?_
          refine wp_go 5 hM (fr' := (93, [some (.inr 30), some (.inl a), some (.inl b), some (.inl x), some (.inl y), none], [.inl y, .inl (σ_50 30 2), .inr 34], (mz_up (mz_up (mz_up σ_50 31 (σ_50 30 2).toNat a) 32 (σ_50 30 2).toNat b) 33 (σ_50 30 2).toNat x))) rfl ?_
          refine wp_as (n := 31) hM rfl rfl (by first | (rw [hn5]; omega) | fail) (by first | (rw [hn5]; omega) | fail) ?_
          refine wp_go 11 hM (fr' := (111, [some (.inr 30), some (.inl a), some (.inl b), some (.inl x), some (.inl y), none], [.inl (((σ_50 30 2) + 1) - 1), .inr 30], (mz_up (mz_up (mz_up (mz_up (mz_up σ_50 31 (σ_50 30 2).toNat a) 32 (σ_50 30 2).toNat b) 33 (σ_50 30 2).toNat x) 34 (σ_50 30 2).toNat y) 30 2 ((σ_50 30 2) + 1)))) rfl ?_
          refine wp_call (v := 0) (idx := 134) (j := 127) (N := mtX6_splitsNew) (as := [.inr 30, .inl (((σ_50 30 2) + 1) - 1)]) (rest := []) hM rfl (Or.inl ⟨rfl, rfl⟩) rfl (sp_X6_splitsNew (vin v a b x y) l (mz_up (mz_up (mz_up (mz_up (mz_up σ_50 31 (σ_50 30 2).toNat a) 32 (σ_50 30 2).toNat b) 33 (σ_50 30 2).toNat x) 34 (σ_50 30 2).toNat y) 30 2 ((σ_50 30 2) + 1)) (((σ_50 30 2) + 1) - 1) (by first | (exact hAv) | fail) (by first | (exact hBv) | fail) (by omega) (by first | (rw [hv0.2.2.1]; omega) | fail) (by first | (rw [hkk, hvK.1, hvK.2.1, hlv.1, hlv.2]; exact hil) | fail)) ?_
          rintro r0 σ_111 ⟨rfl, ⟨L_111, hA_111, hp_111⟩, hf_111⟩
          show mz_Wp shM none 126 (114, [some (.inr 30), some (.inl a), some (.inl b), some (.inl x), some (.inl y), none], [], σ_111) _
          first | (rw [hkk, hvK.1, hvK.2.1, hlv.1, hlv.2] at hp_111) | skip
          first | (have hnw := ins_new (x := x) (y := y) h6 c6 c16 hno hp_111) | skip
          first | (have hn6 : σ_111 30 2 = v 0 2 + 1 := hA_111.1.1.2.2.trans hv0.2.2.1) | skip
          have hfr : ∀ c i, ¬ (31 ≤ c ∧ c ≤ 35) → ¬ c = 43 → ¬ c = 44 → ¬ (c = 30 ∧ (i = 2 ∨ i = 3)) → σ_111 c i = σ_50 c i := fun c i p q r z => by
            rw [hf_111 c i (by omega) q r (by omega)]
            have e1 : ∀ (τ : mz_G) (w : Int), mz_up τ 30 2 w c i = τ c i := fun τ w => by
              unfold mz_up
              rw [if_neg (by omega)]
            rw [e1, up_ne (by omega), up_ne (by omega), up_ne (by omega), up_ne (by omega)]
          refine wp_go 1 hM (fr' := (115, [some (.inr 30), some (.inl a), some (.inl b), some (.inl x), some (.inl y), none], [.inr 30], σ_111)) rfl ?_
          refine wp_calld (v := 0) (idx := 138) (j := 118) (N := mtX6_isFolded) (as := [.inr 30]) (rest := []) hM rfl (Or.inl ⟨rfl, rfl⟩) rfl (sp_X6_isFolded (vin v a b x y) L_111 σ_111  (by first | (first | exact hA_111 | exact hnw.1) | fail) (by first | (first | exact hA_111 | exact hnw.1) | fail)) ?_
          show mz_Wp shM none 126 (118, [some (.inr 30), some (.inl a), some (.inl b), some (.inl x), some (.inl y), none], [.inl (b01 (fdd (vin v a b x y) L_111))], σ_111) _
          refine wp_go 2 hM (fr' := (122, [some (.inr 30), some (.inl a), some (.inl b), some (.inl x), some (.inl y), some (.inl (b01 (fdd (vin v a b x y) L_111)))], [.inl (b01 (fdd (vin v a b x y) L_111))], σ_111)) rfl ?_
          refine wp_if (tgt := 134) hM rfl (by decide) b01_R (fun c122 => ?_) (fun c122 => ?_)
          · replace c122 := b01_ne0 (cmp_ne_t c122)
            refine wp_go 1 hM (fr' := (135, [some (.inr 30), some (.inl a), some (.inl b), some (.inl x), some (.inl y), some (.inl (b01 (fdd (vin v a b x y) L_111)))], [.inr 30], σ_111)) rfl ?_
            refine wp_call (v := 0) (idx := 142) (j := 107) (N := mtX6_comesBack) (as := [.inr 30]) (rest := []) hM rfl (Or.inl ⟨rfl, rfl⟩) rfl (sp_X6_comesBack v l σ σ_111  (by first | (exact h0) | fail) (by first | (exact hB) | fail) (by first | (exact Kt_ext hk_50 (fun c i p => hfr c i (by omega) (by omega) (by omega) (by omega))) | fail) (by first | (exact ⟨(hfr 30 0 (by omega) (by omega) (by omega) (by omega)).trans (hf_50 30 0 (by omega) (by omega)), (hfr 30 1 (by omega) (by omega) (by omega) (by omega)).trans (hf_50 30 1 (by omega) (by omega))⟩) | fail) (by first | (exact fun i => (hfr 36 i (by omega) (by omega) (by omega) (by omega)).trans (hf_50 36 i (by omega) (by omega))) | fail)) ?_
            rintro r0 σ_135 ⟨rfl, hA_135, hf_135⟩
            show mz_Wp shM none 126 (138, [some (.inr 30), some (.inl a), some (.inl b), some (.inl x), some (.inl y), some (.inl (b01 (fdd (vin v a b x y) L_111)))], [], σ_135) _
            refine wp_go 1 hM (fr' := (140, [some (.inr 30), some (.inl a), some (.inl b), some (.inl x), some (.inl y), some (.inl (b01 (fdd (vin v a b x y) L_111)))], [.inl (b01 (fdd (vin v a b x y) L_111))], σ_135)) rfl ?_
            refine wp_if (tgt := 148) hM rfl (by decide) b01_R (fun c140 => ?_) (fun c140 => ?_)
            · replace c140 := b01_eq0 (cmp_eq_t c140)
              refine wp_go 1 hM (fr' := (150, [some (.inr 30), some (.inl a), some (.inl b), some (.inl x), some (.inl y), some (.inl (b01 (fdd (vin v a b x y) L_111)))], [.inl (-5)], σ_135)) rfl ?_
              refine wp_ret hM rfl (rfl) ?_
              first
                | exact absurd c122 c140
                | exact absurd c140 c122
                | (have hr1 := rti_4 (v := v) (l := l) (a := a) (b := b) (x := x) (y := y) c6 c16 hni c43 (hnw.2.2.1.mp c140)
                   have hi := ins_k hr1 (by decide)
                   rw [hi.1, hi.2.1, hi.2.2]
                   exact ⟨rfl, hA_135, fun c i p => (hf_135 c i p).trans ((hfr c i (by omega) (by omega) (by omega) (by omega)).trans (hf_50 c i (by omega) (by omega)))⟩)
                | (have hr1 := rti_5 (v := v) (l := l) (a := a) (b := b) (x := x) (y := y) c6 c16 hni c43 (fun z => c122 (hnw.2.2.1.mpr z))
                   rw [if_pos (show 30 ≤ v 0 2 by omega)] at hr1
                   have hi := ins_k hr1 (by decide)
                   rw [hi.1, hi.2.1, hi.2.2]
                   exact ⟨rfl, hA_135, fun c i p => (hf_135 c i p).trans ((hfr c i (by omega) (by omega) (by omega) (by omega)).trans (hf_50 c i (by omega) (by omega)))⟩)
            · replace c140 := b01_ne0 (cmp_eq_f c140)
              refine wp_go 2 hM (fr' := (150, [some (.inr 30), some (.inl a), some (.inl b), some (.inl x), some (.inl y), some (.inl (b01 (fdd (vin v a b x y) L_111)))], [.inl (-4)], σ_135)) rfl ?_
              refine wp_ret hM rfl (rfl) ?_
              first
                | exact absurd c122 c140
                | exact absurd c140 c122
                | (have hr1 := rti_4 (v := v) (l := l) (a := a) (b := b) (x := x) (y := y) c6 c16 hni c43 (hnw.2.2.1.mp c140)
                   have hi := ins_k hr1 (by decide)
                   rw [hi.1, hi.2.1, hi.2.2]
                   exact ⟨rfl, hA_135, fun c i p => (hf_135 c i p).trans ((hfr c i (by omega) (by omega) (by omega) (by omega)).trans (hf_50 c i (by omega) (by omega)))⟩)
                | (have hr1 := rti_5 (v := v) (l := l) (a := a) (b := b) (x := x) (y := y) c6 c16 hni c43 (fun z => c122 (hnw.2.2.1.mpr z))
                   rw [if_pos (show 30 ≤ v 0 2 by omega)] at hr1
                   have hi := ins_k hr1 (by decide)
                   rw [hi.1, hi.2.1, hi.2.2]
                   exact ⟨rfl, hA_135, fun c i p => (hf_135 c i p).trans ((hfr c i (by omega) (by omega) (by omega) (by omega)).trans (hf_50 c i (by omega) (by omega)))⟩)
          · replace c122 := b01_eq0 (cmp_ne_f c122)
            refine wp_go 3 hM (fr' := (131, [some (.inr 30), some (.inl a), some (.inl b), some (.inl x), some (.inl y), some (.inl (b01 (fdd (vin v a b x y) L_111)))], [.inl 30, .inl (σ_111 30 2)], σ_111)) rfl ?_
            refine wp_ic (tgt := 151) hM rfl (by decide) (by first | (rw [hn6]; omega) | fail) (by decide) (fun c131 => ?_) (fun c131 => ?_)
            · replace c131 := cmp_le_t c131
              first | (rw [hn6] at c131) | skip
              refine wp_go 1 hM (fr' := (152, [some (.inr 30), some (.inl a), some (.inl b), some (.inl x), some (.inl y), some (.inl (b01 (fdd (vin v a b x y) L_111)))], [.inr 30], σ_111)) rfl ?_
              refine wp_call (v := 0) (idx := 145) (j := 115) (N := mtX6_sorts) (as := [.inr 30]) (rest := []) hM rfl (Or.inl ⟨rfl, rfl⟩) rfl (sp_X6_sorts (vin v a b x y) L_111 (adN (v 0 2) (lhOf v l a b) (l.filter (fun z => !decide (hol v 0 z a b)))) σ_111  (by first | (exact hA_111) | fail) (by first | (exact hnw.1) | fail) (by first | (exact hnw.2.1) | fail) (by first | (exact adN_Sd (sub_Sd hSd List.filter_sublist)) | fail) (by first | (exact hnw.2.2.2) | fail)) ?_
              rintro r0 σ_152 ⟨rfl, hA_152, hf_152⟩
              show mz_Wp shM none 126 (155, [some (.inr 30), some (.inl a), some (.inl b), some (.inl x), some (.inl y), some (.inl (b01 (fdd (vin v a b x y) L_111)))], [], σ_152) _
              refine wp_go 4 hM (fr' := (161, [some (.inr 30), some (.inl a), some (.inl b), some (.inl x), some (.inl y), some (.inl (b01 (fdd (vin v a b x y) L_111)))], [.inl ((σ_152 30 2) - 1)], σ_152)) rfl ?_
              refine wp_ret hM rfl (rfl) ?_
              have hr1 := rti_5 (v := v) (l := l) (a := a) (b := b) (x := x) (y := y) c6 c16 hni c43 (fun z => c122 (hnw.2.2.1.mpr z))
              rw [if_neg (show ¬ 30 ≤ v 0 2 by omega)] at hr1
              have hn7 : σ_152 30 2 = v 0 2 + 1 := hA_152.1.1.2.2.trans hv0.2.2.1
              refine ⟨?_, ?_, fun c i p => (Fm_Fr hf_152 c i p).trans ((hfr c i (by omega) (by omega) (by omega) (by omega)).trans (hf_50 c i (by omega) (by omega)))⟩
              · unfold aIns
                rw [if_pos hr1, hn7, show v 0 2 + 1 - 1 = v 0 2 by omega]
              · unfold vIns lIns
                rw [if_pos hr1, if_pos hr1]
                exact hA_152
            · replace c131 := cmp_le_f c131
              first | (rw [hn6] at c131) | skip
              refine wp_go 1 hM (fr' := (135, [some (.inr 30), some (.inl a), some (.inl b), some (.inl x), some (.inl y), some (.inl (b01 (fdd (vin v a b x y) L_111)))], [.inr 30], σ_111)) rfl ?_
              refine wp_call (v := 0) (idx := 142) (j := 107) (N := mtX6_comesBack) (as := [.inr 30]) (rest := []) hM rfl (Or.inl ⟨rfl, rfl⟩) rfl (sp_X6_comesBack v l σ σ_111  (by first | (exact h0) | fail) (by first | (exact hB) | fail) (by first | (exact Kt_ext hk_50 (fun c i p => hfr c i (by omega) (by omega) (by omega) (by omega))) | fail) (by first | (exact ⟨(hfr 30 0 (by omega) (by omega) (by omega) (by omega)).trans (hf_50 30 0 (by omega) (by omega)), (hfr 30 1 (by omega) (by omega) (by omega) (by omega)).trans (hf_50 30 1 (by omega) (by omega))⟩) | fail) (by first | (exact fun i => (hfr 36 i (by omega) (by omega) (by omega) (by omega)).trans (hf_50 36 i (by omega) (by omega))) | fail)) ?_
              rintro r0 σ_135 ⟨rfl, hA_135, hf_135⟩
              show mz_Wp shM none 126 (138, [some (.inr 30), some (.inl a), some (.inl b), some (.inl x), some (.inl y), some (.inl (b01 (fdd (vin v a b x y) L_111)))], [], σ_135) _
              refine wp_go 1 hM (fr' := (140, [some (.inr 30), some (.inl a), some (.inl b), some (.inl x), some (.inl y), some (.inl (b01 (fdd (vin v a b x y) L_111)))], [.inl (b01 (fdd (vin v a b x y) L_111))], σ_135)) rfl ?_
              refine wp_if (tgt := 148) hM rfl (by decide) b01_R (fun c140 => ?_) (fun c140 => ?_)
              · replace c140 := b01_eq0 (cmp_eq_t c140)
                refine wp_go 1 hM (fr' := (150, [some (.inr 30), some (.inl a), some (.inl b), some (.inl x), some (.inl y), some (.inl (b01 (fdd (vin v a b x y) L_111)))], [.inl (-5)], σ_135)) rfl ?_
                refine wp_ret hM rfl (rfl) ?_
                first
                  | exact absurd c122 c140
                  | exact absurd c140 c122
                  | (have hr1 := rti_4 (v := v) (l := l) (a := a) (b := b) (x := x) (y := y) c6 c16 hni c43 (hnw.2.2.1.mp c140)
                     have hi := ins_k hr1 (by decide)
                     rw [hi.1, hi.2.1, hi.2.2]
                     exact ⟨rfl, hA_135, fun c i p => (hf_135 c i p).trans ((hfr c i (by omega) (by omega) (by omega) (by omega)).trans (hf_50 c i (by omega) (by omega)))⟩)
                  | (have hr1 := rti_5 (v := v) (l := l) (a := a) (b := b) (x := x) (y := y) c6 c16 hni c43 (fun z => c122 (hnw.2.2.1.mpr z))
                     rw [if_pos (show 30 ≤ v 0 2 by omega)] at hr1
                     have hi := ins_k hr1 (by decide)
                     rw [hi.1, hi.2.1, hi.2.2]
                     exact ⟨rfl, hA_135, fun c i p => (hf_135 c i p).trans ((hfr c i (by omega) (by omega) (by omega) (by omega)).trans (hf_50 c i (by omega) (by omega)))⟩)
              · replace c140 := b01_ne0 (cmp_eq_f c140)
                refine wp_go 2 hM (fr' := (150, [some (.inr 30), some (.inl a), some (.inl b), some (.inl x), some (.inl y), some (.inl (b01 (fdd (vin v a b x y) L_111)))], [.inl (-4)], σ_135)) rfl ?_
                refine wp_ret hM rfl (rfl) ?_
                first
                  | exact absurd c122 c140
                  | exact absurd c140 c122
                  | (have hr1 := rti_4 (v := v) (l := l) (a := a) (b := b) (x := x) (y := y) c6 c16 hni c43 (hnw.2.2.1.mp c140)
                     have hi := ins_k hr1 (by decide)
                     rw [hi.1, hi.2.1, hi.2.2]
                     exact ⟨rfl, hA_135, fun c i p => (hf_135 c i p).trans ((hfr c i (by omega) (by omega) (by omega) (by omega)).trans (hf_50 c i (by omega) (by omega)))⟩)
                  | (have hr1 := rti_5 (v := v) (l := l) (a := a) (b := b) (x := x) (y := y) c6 c16 hni c43 (fun z => c122 (hnw.2.2.1.mpr z))
                     rw [if_pos (show 30 ≤ v 0 2 by omega)] at hr1
                     have hi := ins_k hr1 (by decide)
                     rw [hi.1, hi.2.1, hi.2.2]
                     exact ⟨rfl, hA_135, fun c i p => (hf_135 c i p).trans ((hfr c i (by omega) (by omega) (by omega) (by omega)).trans (hf_50 c i (by omega) (by omega)))⟩)
        · replace c43 := b01_eq0 (cmp_ne_f c43)
          refine wp_go 1 hM (fr' := (48, [some (.inr 30), some (.inl a), some (.inl b), some (.inl x), some (.inl y), none], [.inl (-3)], σ)) rfl ?_
          refine wp_ret hM rfl (rfl) ?_
          have hr1 := rti_3 (v := v) (l := l) (a := a) (b := b) (x := x) (y := y) c6 c16 hni c43
          have hi := ins_k hr1 (by decide)
          rw [hi.1, hi.2.1, hi.2.2]
          exact ⟨rfl, h0, Fm.rf⟩
      · replace c28 := cmp_eq_f c28
        refine wp_go 1 hM (fr' := (33, [some (.inr 30), some (.inl a), some (.inl b), some (.inl x), some (.inl y), none], [.inl (-2)], σ)) rfl ?_
        refine wp_ret hM rfl (rfl) ?_
        have hr1 := rti_2 (v := v) (l := l) (a := a) (b := b) (x := x) (y := y) c6 c16 c28
        have hi := ins_k hr1 (by decide)
        rw [hi.1, hi.2.1, hi.2.2]
        exact ⟨rfl, h0, Fm.rf⟩
    · replace c16 := b01_eq0 (cmp_ne_f c16)
      refine wp_go 1 hM (fr' := (20, [some (.inr 30), some (.inl a), some (.inl b), some (.inl x), some (.inl y), none], [.inl (-1)], σ)) rfl ?_
      refine wp_ret hM rfl (rfl) ?_
      have hr1 := rti_1 (v := v) (l := l) (a := a) (b := b) (x := x) (y := y) (by first | exact Or.inl c6 | exact Or.inr c16)
      have hi := ins_k hr1 (by decide)
      rw [hi.1, hi.2.1, hi.2.2]
      exact ⟨rfl, h0, Fm.rf⟩

set_option maxRecDepth 100000 in
set_option maxHeartbeats 4000000 in
theorem sp_X6_turn (v : mz_G) (l : List tr3) (σ : mz_G) (a : Int) (b : Int) (h0 : MA σ v l) (h1 : GO v l) (h2 : mz_R a) (h3 : mz_R b) (h4 : GD v l) : mz_Cl shM 134 [.inr 30, .inl a, .inl b] σ (fun r σ' => r = some (rtt v l a b) ∧ MA σ' v (lTur v l a b) ∧ Fm σ σ') := by
  have hM : mz_meth[134]? = some mtX6_turn := rfl
  obtain ⟨hB, hSd, ⟨hP0, hP1⟩, ⟨hC0, hC1'⟩, hVr, hn30, hl2⟩ := id h1
  obtain ⟨hR, hT, hLen⟩ := id hB
  obtain ⟨⟨hW0, hW1⟩, ⟨hH0, hH1⟩, ⟨hn0, hn1⟩, hpt⟩ := id hR
  obtain ⟨⟨⟨hc1, hc2, hc3⟩, hcp, hcv⟩, hc4, hct⟩ := id h0
  have hWH := WH_bd hR
  refine mz_Cl.of hM ?_
  show mz_Wp shM none 134 (0, [some (.inr 30), some (.inl a), some (.inl b), none, none, none, none], [], σ) _
  refine wp_go 2 hM (fr' := (2, [some (.inr 30), some (.inl a), some (.inl b), none, none, none, none], [.inl a, .inr 30], σ)) rfl ?_
  refine wp_calld (v := 0) (idx := 151) (j := 123) (N := mtX6_isKnot) (as := [.inr 30, .inl a]) (rest := []) hM rfl (Or.inl ⟨rfl, rfl⟩) rfl (sp_X6_isKnot v l σ a (by first | (first | assumption | omega) | fail) (by first | (first | assumption | omega) | fail) (by first | (first | assumption | omega) | fail)) ?_
  show mz_Wp shM none 134 (5, [some (.inr 30), some (.inl a), some (.inl b), none, none, none, none], [.inl (b01 (isk v a))], σ) _
  refine wp_if (tgt := 16) hM rfl (by decide) b01_R (fun c5 => ?_) (fun c5 => ?_)
  · replace c5 := b01_eq0 (cmp_eq_t c5)
    refine wp_go 1 hM (fr' := (17, [some (.inr 30), some (.inl a), some (.inl b), none, none, none, none], [.inl 1], σ)) rfl ?_
    refine wp_ret hM rfl (rfl) ?_
    have hr1 := rtt_1 (v := v) (l := l) (a := a) (b := b) (by first | exact Or.inl c5 | exact Or.inr c13)
    refine ⟨by rw [hr1], ?_, Fm.rf⟩
    unfold lTur
    rw [hr1, if_neg (by decide)]
    exact h0
  · replace c5 := b01_ne0 (cmp_eq_f c5)
    refine wp_go 2 hM (fr' := (10, [some (.inr 30), some (.inl a), some (.inl b), none, none, none, none], [.inl b, .inr 30], σ)) rfl ?_
    refine wp_calld (v := 0) (idx := 151) (j := 123) (N := mtX6_isKnot) (as := [.inr 30, .inl b]) (rest := []) hM rfl (Or.inl ⟨rfl, rfl⟩) rfl (sp_X6_isKnot v l σ b (by first | (first | assumption | omega) | fail) (by first | (first | assumption | omega) | fail) (by first | (first | assumption | omega) | fail)) ?_
    show mz_Wp shM none 134 (13, [some (.inr 30), some (.inl a), some (.inl b), none, none, none, none], [.inl (b01 (isk v b))], σ) _
    refine wp_if (tgt := 18) hM rfl (by decide) b01_R (fun c13 => ?_) (fun c13 => ?_)
    · replace c13 := b01_ne0 (cmp_ne_t c13)
      refine wp_go 3 hM (fr' := (21, [some (.inr 30), some (.inl a), some (.inl b), none, none, none, none], [.inl b, .inl a, .inr 30], σ)) rfl ?_
      refine wp_calld (v := 0) (idx := 161) (j := 132) (N := mtX6_sides) (as := [.inr 30, .inl a, .inl b]) (rest := []) hM rfl (Or.inl ⟨rfl, rfl⟩) rfl (sp_X6_sides v l σ a b (by first | (first | assumption | omega) | fail) (by first | (first | assumption | omega) | fail) (by first | (first | assumption | omega) | fail) (by first | (first | assumption | omega) | fail)) ?_
      show mz_Wp shM none 134 (24, [some (.inr 30), some (.inl a), some (.inl b), none, none, none, none], [.inl (hld l a b)], σ) _
      first | (have hhb : 0 ≤ hld l a b ∧ hld l a b ≤ 2 := by unfold hld; have q1 := b01_01 (P := ¬ apx l a b = -1); have q2 := b01_01 (P := ¬ apx l b a = -1); omega) | skip
      refine wp_go 1 hM (fr' := (25, [some (.inr 30), some (.inl a), some (.inl b), none, none, none, none], [.inl 2, .inl (hld l a b)], σ)) rfl ?_
      refine wp_ic (tgt := 30) hM rfl (by decide) (by omega) (by decide) (fun c25 => ?_) (fun c25 => ?_)
      · replace c25 := cmp_eq_t c25
        refine wp_go 3 hM (fr' := (33, [some (.inr 30), some (.inl a), some (.inl b), none, none, none, none], [.inl b, .inl a, .inr 30], σ)) rfl ?_
        refine wp_calld (v := 0) (idx := 167) (j := 133) (N := mtX6_isTurnable) (as := [.inr 30, .inl a, .inl b]) (rest := []) hM rfl (Or.inl ⟨rfl, rfl⟩) rfl (sp_X6_isTurnable v l σ a b (by first | (first | assumption | exact hka.1 | exact c5.1 | exact c5.2 | exact c13.1 | exact c13.2) | fail) (by first | (first | assumption | exact hka.1 | exact c5.1 | exact c5.2 | exact c13.1 | exact c13.2) | fail) (by first | (first | assumption | exact hka.1 | exact c5.1 | exact c5.2 | exact c13.1 | exact c13.2) | fail) (by first | (first | assumption | exact hka.1 | exact c5.1 | exact c5.2 | exact c13.1 | exact c13.2) | fail) (by first | (first | assumption | exact hka.1 | exact c5.1 | exact c5.2 | exact c13.1 | exact c13.2) | fail) (by first | (first | assumption | exact hka.1 | exact c5.1 | exact c5.2 | exact c13.1 | exact c13.2) | fail)) ?_
        show mz_Wp shM none 134 (36, [some (.inr 30), some (.inl a), some (.inl b), none, none, none, none], [.inl (b01 (rtt v l a b = 0))], σ) _
        refine wp_if (tgt := 41) hM rfl (by decide) b01_R (fun c36 => ?_) (fun c36 => ?_)
        · replace c36 := b01_ne0 (cmp_ne_t c36)
          first | (obtain ⟨p9, hG9, -⟩ := id h4) | skip
          first | (have hdt := tur_dat hG9 c36) | skip
          first | (obtain ⟨hab, ⟨⟨i0, i1⟩, i2, i3⟩, ⟨⟨j0, j1⟩, j2, j3⟩, -⟩ := hdt) | skip
          first | (have hka : 0 ≤ a ∧ a < v 0 2 := c5) | skip
          first | (have hkb : 0 ≤ b ∧ b < v 0 2 := c13) | skip
          have hne : ¬ sid l a b = sid l b a := by
            intro z
            have hD := Pos_Dst hP0 _ (tg_mem i0 i1)
            rw [← z] at j2
            unfold edg at i2 j2
            omega
          first | (have e60 : thd (tg l (sid l a b)) a b = apx l a b := (thd_opp i2).trans i3) | skip
          have e70 : thd (tg l (sid l b a)) a b = apx l b a := by
            rw [← j3, ← thd_opp j2]
            unfold thd
            omega
          first | (have hgl := GD_len h4) | skip
          refine wp_go 3 hM (fr' := (44, [some (.inr 30), some (.inl a), some (.inl b), none, none, none, none], [.inl b, .inl a, .inr 30], σ)) rfl ?_
          refine wp_calld (v := 0) (idx := 158) (j := 130) (N := mtX6_side) (as := [.inr 30, .inl a, .inl b]) (rest := []) hM rfl (Or.inl ⟨rfl, rfl⟩) rfl (sp_X6_side v l σ a b (by first | (first | assumption | omega) | fail) (by first | (first | assumption | omega) | fail) (by first | (first | assumption | omega) | fail) (by first | (first | assumption | omega) | fail)) ?_
          show mz_Wp shM none 134 (47, [some (.inr 30), some (.inl a), some (.inl b), none, none, none, none], [.inl (sid l a b)], σ) _
          refine wp_go 4 hM (fr' := (51, [some (.inr 30), some (.inl a), some (.inl b), some (.inl (sid l a b)), none, none, none], [.inl a, .inl b, .inr 30], σ)) rfl ?_
          refine wp_calld (v := 0) (idx := 158) (j := 130) (N := mtX6_side) (as := [.inr 30, .inl b, .inl a]) (rest := []) hM rfl (Or.inl ⟨rfl, rfl⟩) rfl (sp_X6_side v l σ b a (by first | (first | assumption | omega) | fail) (by first | (first | assumption | omega) | fail) (by first | (first | assumption | omega) | fail) (by first | (first | assumption | omega) | fail)) ?_
          show mz_Wp shM none 134 (54, [some (.inr 30), some (.inl a), some (.inl b), some (.inl (sid l a b)), none, none, none], [.inl (sid l b a)], σ) _
          refine wp_go 5 hM (fr' := (60, [some (.inr 30), some (.inl a), some (.inl b), some (.inl (sid l a b)), some (.inl (sid l b a)), none, none], [.inl b, .inl a, .inl (sid l a b), .inr 30], σ)) rfl ?_
          refine wp_calld (v := 0) (idx := 164) (j := 131) (N := mtX6_third) (as := [.inr 30, .inl (sid l a b), .inl a, .inl b]) (rest := []) hM rfl (Or.inl ⟨rfl, rfl⟩) rfl (sp_X6_third v l σ (sid l a b) a b (by first | (first | assumption | omega) | fail) (by first | (first | assumption | omega) | fail) (by first | (first | assumption | omega) | fail) (by first | (first | assumption | omega) | fail)) ?_
          show mz_Wp shM none 134 (63, [some (.inr 30), some (.inl a), some (.inl b), some (.inl (sid l a b)), some (.inl (sid l b a)), none, none], [.inl (thd (tg l (sid l a b)) a b)], σ) _
          first | (rw [e60]) | skip
          refine wp_go 5 hM (fr' := (70, [some (.inr 30), some (.inl a), some (.inl b), some (.inl (sid l a b)), some (.inl (sid l b a)), some (.inl (apx l a b)), none], [.inl b, .inl a, .inl (sid l b a), .inr 30], σ)) rfl ?_
          refine wp_calld (v := 0) (idx := 164) (j := 131) (N := mtX6_third) (as := [.inr 30, .inl (sid l b a), .inl a, .inl b]) (rest := []) hM rfl (Or.inl ⟨rfl, rfl⟩) rfl (sp_X6_third v l σ (sid l b a) a b (by first | (first | assumption | omega) | fail) (by first | (first | assumption | omega) | fail) (by first | (first | assumption | omega) | fail) (by first | (first | assumption | omega) | fail)) ?_
          show mz_Wp shM none 134 (73, [some (.inr 30), some (.inl a), some (.inl b), some (.inl (sid l a b)), some (.inl (sid l b a)), some (.inl (apx l a b)), none], [.inl (thd (tg l (sid l b a)) a b)], σ) _
          first | (rw [e70]) | skip
          refine wp_go 4 hM (fr' := (79, [some (.inr 30), some (.inl a), some (.inl b), some (.inl (sid l a b)), some (.inl (sid l b a)), some (.inl (apx l a b)), some (.inl (apx l b a))], [.inl (sid l b a), .inl (sid l a b), .inr 30], σ)) rfl ?_
          refine wp_ic (tgt := 86) hM rfl (by decide) (by omega) (by omega) (fun c79 => ?_) (fun c79 => ?_)
          · replace c79 := cmp_le_t c79
            first | (obtain ⟨mx, hmx⟩ : ∃ q : Int, q = sid l b a := ⟨_, rfl⟩) | skip
            refine wp_go 1 hM (fr' := (88, [some (.inr 30), some (.inl a), some (.inl b), some (.inl (sid l a b)), some (.inl (sid l b a)), some (.inl (apx l a b)), some (.inl (apx l b a))], [.inl (sid l b a), .inr 30], σ)) rfl ?_
            refine wp_call (v := 0) (idx := 148) (j := 109) (N := mtX6_drops) (as := [.inr 30, .inl (sid l b a)]) (rest := []) hM rfl (Or.inl ⟨rfl, rfl⟩) rfl (sp_X6_drops l σ (sid l b a) (by first | (first | exact h0.2 | omega) | fail) (by first | (first | exact h0.2 | omega) | fail) (by first | (first | exact h0.2 | omega) | fail) (by first | (first | exact h0.2 | omega) | fail)) ?_
            rintro r0 σ_88 ⟨rfl, ht_88, hf_88⟩
            show mz_Wp shM none 134 (91, [some (.inr 30), some (.inl a), some (.inl b), some (.inl (sid l a b)), some (.inl (sid l b a)), some (.inl (apx l a b)), some (.inl (apx l b a))], [], σ_88) _
            first | (rw [← hmx] at ht_88) | skip
            first | (have hA8 : MT σ_88 (drp l mx) := ht_88) | skip
            first | (have hd8 := drp_len (l := l) (t := mx)) | skip
            refine wp_go 3 hM (fr' := (95, [some (.inr 30), some (.inl a), some (.inl b), some (.inl (sid l a b)), some (.inl (sid l b a)), some (.inl (apx l a b)), some (.inl (apx l b a))], [.inl (sid l b a), .inl (sid l a b), .inr 30], σ_88)) rfl ?_
            refine wp_ic (tgt := 103) hM rfl (by decide) (by omega) (by omega) (fun c95 => ?_) (fun c95 => ?_)
            · replace c95 := cmp_le_t c95
              first | (obtain ⟨mn, hmn⟩ : ∃ q : Int, q = sid l a b := ⟨_, rfl⟩) | skip
              refine wp_go 1 hM (fr' := (104, [some (.inr 30), some (.inl a), some (.inl b), some (.inl (sid l a b)), some (.inl (sid l b a)), some (.inl (apx l a b)), some (.inl (apx l b a))], [.inl (sid l a b), .inr 30], σ_88)) rfl ?_
              refine wp_call (v := 0) (idx := 148) (j := 109) (N := mtX6_drops) (as := [.inr 30, .inl (sid l a b)]) (rest := []) hM rfl (Or.inl ⟨rfl, rfl⟩) rfl (sp_X6_drops (drp l mx) σ_88 (sid l a b) (by first | (first | exact hA8 | omega) | fail) (by first | (first | exact hA8 | omega) | fail) (by first | (first | exact hA8 | omega) | fail) (by first | (first | exact hA8 | omega) | fail)) ?_
              rintro r0 σ_104 ⟨rfl, ht_104, hf_104⟩
              show mz_Wp shM none 134 (107, [some (.inr 30), some (.inl a), some (.inl b), some (.inl (sid l a b)), some (.inl (sid l b a)), some (.inl (apx l a b)), some (.inl (apx l b a))], [], σ_104) _
              first | (rw [← hmn] at ht_104) | skip
              first | (have hlt : mn < mx := by omega) | skip
              first | (have hd2 := drp2 (l := l) (mx := mx) (mn := mn) (by omega) hlt (by omega)) | skip
              have hpp : l.Perm (tg l (sid l a b) :: tg l (sid l b a) :: (drp (drp l mx) mn)) := by
                first
                | (rw [← hmx, ← hmn]; exact hd2.1)
                | (rw [← hmx, ← hmn]; exact hd2.1.trans (List.Perm.swap _ _ _))
                | (exfalso; omega)
              first | (have htn := tur_new h4 c36 hpp) | skip
              refine wp_go 4 hM (fr' := (113, [some (.inr 30), some (.inl a), some (.inl b), some (.inl (sid l a b)), some (.inl (sid l b a)), some (.inl (apx l a b)), some (.inl (apx l b a))], [.inl (apx l a b), .inl (apx l b a), .inl a, .inr 30], σ_104)) rfl ?_
              refine wp_call (v := 0) (idx := 72) (j := 108) (N := mtX6_adds) (as := [.inr 30, .inl a, .inl (apx l b a), .inl (apx l a b)]) (rest := []) hM rfl (Or.inl ⟨rfl, rfl⟩) rfl (sp_X6_adds (drp (drp l mx) mn) σ_104 a (apx l b a) (apx l a b) (by first | (first | exact ht_104 | (have q := htn.2.2.2.2; omega)) | fail) (by first | (first | exact ht_104 | (have q := htn.2.2.2.2; omega)) | fail)) ?_
              rintro r0 σ_113 ⟨rfl, ht_113, hf_113⟩
              show mz_Wp shM none 134 (116, [some (.inr 30), some (.inl a), some (.inl b), some (.inl (sid l a b)), some (.inl (sid l b a)), some (.inl (apx l a b)), some (.inl (apx l b a))], [], σ_113) _
              refine wp_go 4 hM (fr' := (122, [some (.inr 30), some (.inl a), some (.inl b), some (.inl (sid l a b)), some (.inl (sid l b a)), some (.inl (apx l a b)), some (.inl (apx l b a))], [.inl (apx l a b), .inl b, .inl (apx l b a), .inr 30], σ_113)) rfl ?_
              refine wp_call (v := 0) (idx := 72) (j := 108) (N := mtX6_adds) (as := [.inr 30, .inl (apx l b a), .inl b, .inl (apx l a b)]) (rest := []) hM rfl (Or.inl ⟨rfl, rfl⟩) rfl (sp_X6_adds ((drp (drp l mx) mn) ++ [(a, apx l b a, apx l a b)]) σ_113 (apx l b a) b (apx l a b) (by first | (first | exact ht_113 | (have q := htn.2.2.2.2; rw [List.length_append]; simp only [List.length_cons, List.length_nil]; omega)) | fail) (by first | (first | exact ht_113 | (have q := htn.2.2.2.2; rw [List.length_append]; simp only [List.length_cons, List.length_nil]; omega)) | fail)) ?_
              rintro r0 σ_122 ⟨rfl, ht_122, hf_122⟩
              show mz_Wp shM none 134 (125, [some (.inr 30), some (.inl a), some (.inl b), some (.inl (sid l a b)), some (.inl (sid l b a)), some (.inl (apx l a b)), some (.inl (apx l b a))], [], σ_122) _
              refine wp_go 1 hM (fr' := (126, [some (.inr 30), some (.inl a), some (.inl b), some (.inl (sid l a b)), some (.inl (sid l b a)), some (.inl (apx l a b)), some (.inl (apx l b a))], [.inr 30], σ_122)) rfl ?_
              refine wp_call (v := 0) (idx := 145) (j := 115) (N := mtX6_sorts) (as := [.inr 30]) (rest := []) hM rfl (Or.inl ⟨rfl, rfl⟩) rfl (sp_X6_sorts v ((drp (drp l mx) mn) ++ [(a, apx l b a, apx l a b)] ++ [(apx l b a, b, apx l a b)]) (lTur v l a b) σ_122  (by first | (exact MA_Fr h0 (((hf_88.tr hf_104).tr hf_113).tr hf_122) ht_122) | fail) (by first | (exact htn.1) | fail) (by first | (exact htn.2.1) | fail) (by first | (exact htn.2.2.1) | fail) (by first | (exact htn.2.2.2.1) | fail)) ?_
              rintro r0 σ_126 ⟨rfl, hA_126, hf_126⟩
              show mz_Wp shM none 134 (129, [some (.inr 30), some (.inl a), some (.inl b), some (.inl (sid l a b)), some (.inl (sid l b a)), some (.inl (apx l a b)), some (.inl (apx l b a))], [], σ_126) _
              refine wp_go 1 hM (fr' := (130, [some (.inr 30), some (.inl a), some (.inl b), some (.inl (sid l a b)), some (.inl (sid l b a)), some (.inl (apx l a b)), some (.inl (apx l b a))], [.inl 0], σ_126)) rfl ?_
              refine wp_ret hM rfl (rfl) ?_
              first | (exact ⟨by rw [c36], hA_126, Fm_Fr ((((hf_88.tr hf_104).tr hf_113).tr hf_122).tr hf_126)⟩) | fail
            · replace c95 := cmp_le_f c95
              first | (obtain ⟨mn, hmn⟩ : ∃ q : Int, q = sid l b a := ⟨_, rfl⟩) | skip
              refine wp_go 2 hM (fr' := (104, [some (.inr 30), some (.inl a), some (.inl b), some (.inl (sid l a b)), some (.inl (sid l b a)), some (.inl (apx l a b)), some (.inl (apx l b a))], [.inl (sid l b a), .inr 30], σ_88)) rfl ?_
              refine wp_call (v := 0) (idx := 148) (j := 109) (N := mtX6_drops) (as := [.inr 30, .inl (sid l b a)]) (rest := []) hM rfl (Or.inl ⟨rfl, rfl⟩) rfl (sp_X6_drops (drp l mx) σ_88 (sid l b a) (by first | (first | exact hA8 | omega) | fail) (by first | (first | exact hA8 | omega) | fail) (by first | (first | exact hA8 | omega) | fail) (by first | (first | exact hA8 | omega) | fail)) ?_
              rintro r0 σ_104 ⟨rfl, ht_104, hf_104⟩
              show mz_Wp shM none 134 (107, [some (.inr 30), some (.inl a), some (.inl b), some (.inl (sid l a b)), some (.inl (sid l b a)), some (.inl (apx l a b)), some (.inl (apx l b a))], [], σ_104) _
              first | (rw [← hmn] at ht_104) | skip
              first | (have hlt : mn < mx := by omega) | skip
              first | (have hd2 := drp2 (l := l) (mx := mx) (mn := mn) (by omega) hlt (by omega)) | skip
              have hpp : l.Perm (tg l (sid l a b) :: tg l (sid l b a) :: (drp (drp l mx) mn)) := by
                first
                | (rw [← hmx, ← hmn]; exact hd2.1)
                | (rw [← hmx, ← hmn]; exact hd2.1.trans (List.Perm.swap _ _ _))
                | (exfalso; omega)
              first | (have htn := tur_new h4 c36 hpp) | skip
              refine wp_go 4 hM (fr' := (113, [some (.inr 30), some (.inl a), some (.inl b), some (.inl (sid l a b)), some (.inl (sid l b a)), some (.inl (apx l a b)), some (.inl (apx l b a))], [.inl (apx l a b), .inl (apx l b a), .inl a, .inr 30], σ_104)) rfl ?_
              refine wp_call (v := 0) (idx := 72) (j := 108) (N := mtX6_adds) (as := [.inr 30, .inl a, .inl (apx l b a), .inl (apx l a b)]) (rest := []) hM rfl (Or.inl ⟨rfl, rfl⟩) rfl (sp_X6_adds (drp (drp l mx) mn) σ_104 a (apx l b a) (apx l a b) (by first | (first | exact ht_104 | (have q := htn.2.2.2.2; omega)) | fail) (by first | (first | exact ht_104 | (have q := htn.2.2.2.2; omega)) | fail)) ?_
              rintro r0 σ_113 ⟨rfl, ht_113, hf_113⟩
              show mz_Wp shM none 134 (116, [some (.inr 30), some (.inl a), some (.inl b), some (.inl (sid l a b)), some (.inl (sid l b a)), some (.inl (apx l a b)), some (.inl (apx l b a))], [], σ_113) _
              refine wp_go 4 hM (fr' := (122, [some (.inr 30), some (.inl a), some (.inl b), some (.inl (sid l a b)), some (.inl (sid l b a)), some (.inl (apx l a b)), some (.inl (apx l b a))], [.inl (apx l a b), .inl b, .inl (apx l b a), .inr 30], σ_113)) rfl ?_
              refine wp_call (v := 0) (idx := 72) (j := 108) (N := mtX6_adds) (as := [.inr 30, .inl (apx l b a), .inl b, .inl (apx l a b)]) (rest := []) hM rfl (Or.inl ⟨rfl, rfl⟩) rfl (sp_X6_adds ((drp (drp l mx) mn) ++ [(a, apx l b a, apx l a b)]) σ_113 (apx l b a) b (apx l a b) (by first | (first | exact ht_113 | (have q := htn.2.2.2.2; rw [List.length_append]; simp only [List.length_cons, List.length_nil]; omega)) | fail) (by first | (first | exact ht_113 | (have q := htn.2.2.2.2; rw [List.length_append]; simp only [List.length_cons, List.length_nil]; omega)) | fail)) ?_
              rintro r0 σ_122 ⟨rfl, ht_122, hf_122⟩
              show mz_Wp shM none 134 (125, [some (.inr 30), some (.inl a), some (.inl b), some (.inl (sid l a b)), some (.inl (sid l b a)), some (.inl (apx l a b)), some (.inl (apx l b a))], [], σ_122) _
              refine wp_go 1 hM (fr' := (126, [some (.inr 30), some (.inl a), some (.inl b), some (.inl (sid l a b)), some (.inl (sid l b a)), some (.inl (apx l a b)), some (.inl (apx l b a))], [.inr 30], σ_122)) rfl ?_
              refine wp_call (v := 0) (idx := 145) (j := 115) (N := mtX6_sorts) (as := [.inr 30]) (rest := []) hM rfl (Or.inl ⟨rfl, rfl⟩) rfl (sp_X6_sorts v ((drp (drp l mx) mn) ++ [(a, apx l b a, apx l a b)] ++ [(apx l b a, b, apx l a b)]) (lTur v l a b) σ_122  (by first | (exact MA_Fr h0 (((hf_88.tr hf_104).tr hf_113).tr hf_122) ht_122) | fail) (by first | (exact htn.1) | fail) (by first | (exact htn.2.1) | fail) (by first | (exact htn.2.2.1) | fail) (by first | (exact htn.2.2.2.1) | fail)) ?_
              rintro r0 σ_126 ⟨rfl, hA_126, hf_126⟩
              show mz_Wp shM none 134 (129, [some (.inr 30), some (.inl a), some (.inl b), some (.inl (sid l a b)), some (.inl (sid l b a)), some (.inl (apx l a b)), some (.inl (apx l b a))], [], σ_126) _
              refine wp_go 1 hM (fr' := (130, [some (.inr 30), some (.inl a), some (.inl b), some (.inl (sid l a b)), some (.inl (sid l b a)), some (.inl (apx l a b)), some (.inl (apx l b a))], [.inl 0], σ_126)) rfl ?_
              refine wp_ret hM rfl (rfl) ?_
              first | (exact ⟨by rw [c36], hA_126, Fm_Fr ((((hf_88.tr hf_104).tr hf_113).tr hf_122).tr hf_126)⟩) | fail
          · replace c79 := cmp_le_f c79
            first | (obtain ⟨mx, hmx⟩ : ∃ q : Int, q = sid l a b := ⟨_, rfl⟩) | skip
            refine wp_go 2 hM (fr' := (88, [some (.inr 30), some (.inl a), some (.inl b), some (.inl (sid l a b)), some (.inl (sid l b a)), some (.inl (apx l a b)), some (.inl (apx l b a))], [.inl (sid l a b), .inr 30], σ)) rfl ?_
            refine wp_call (v := 0) (idx := 148) (j := 109) (N := mtX6_drops) (as := [.inr 30, .inl (sid l a b)]) (rest := []) hM rfl (Or.inl ⟨rfl, rfl⟩) rfl (sp_X6_drops l σ (sid l a b) (by first | (first | exact h0.2 | omega) | fail) (by first | (first | exact h0.2 | omega) | fail) (by first | (first | exact h0.2 | omega) | fail) (by first | (first | exact h0.2 | omega) | fail)) ?_
            rintro r0 σ_88 ⟨rfl, ht_88, hf_88⟩
            show mz_Wp shM none 134 (91, [some (.inr 30), some (.inl a), some (.inl b), some (.inl (sid l a b)), some (.inl (sid l b a)), some (.inl (apx l a b)), some (.inl (apx l b a))], [], σ_88) _
            first | (rw [← hmx] at ht_88) | skip
            first | (have hA8 : MT σ_88 (drp l mx) := ht_88) | skip
            first | (have hd8 := drp_len (l := l) (t := mx)) | skip
            refine wp_go 3 hM (fr' := (95, [some (.inr 30), some (.inl a), some (.inl b), some (.inl (sid l a b)), some (.inl (sid l b a)), some (.inl (apx l a b)), some (.inl (apx l b a))], [.inl (sid l b a), .inl (sid l a b), .inr 30], σ_88)) rfl ?_
            refine wp_ic (tgt := 103) hM rfl (by decide) (by omega) (by omega) (fun c95 => ?_) (fun c95 => ?_)
            · replace c95 := cmp_le_t c95
              first | (obtain ⟨mn, hmn⟩ : ∃ q : Int, q = sid l a b := ⟨_, rfl⟩) | skip
              refine wp_go 1 hM (fr' := (104, [some (.inr 30), some (.inl a), some (.inl b), some (.inl (sid l a b)), some (.inl (sid l b a)), some (.inl (apx l a b)), some (.inl (apx l b a))], [.inl (sid l a b), .inr 30], σ_88)) rfl ?_
              refine wp_call (v := 0) (idx := 148) (j := 109) (N := mtX6_drops) (as := [.inr 30, .inl (sid l a b)]) (rest := []) hM rfl (Or.inl ⟨rfl, rfl⟩) rfl (sp_X6_drops (drp l mx) σ_88 (sid l a b) (by first | (first | exact hA8 | omega) | fail) (by first | (first | exact hA8 | omega) | fail) (by first | (first | exact hA8 | omega) | fail) (by first | (first | exact hA8 | omega) | fail)) ?_
              rintro r0 σ_104 ⟨rfl, ht_104, hf_104⟩
              show mz_Wp shM none 134 (107, [some (.inr 30), some (.inl a), some (.inl b), some (.inl (sid l a b)), some (.inl (sid l b a)), some (.inl (apx l a b)), some (.inl (apx l b a))], [], σ_104) _
              first | (rw [← hmn] at ht_104) | skip
              first | (have hlt : mn < mx := by omega) | skip
              first | (have hd2 := drp2 (l := l) (mx := mx) (mn := mn) (by omega) hlt (by omega)) | skip
              have hpp : l.Perm (tg l (sid l a b) :: tg l (sid l b a) :: (drp (drp l mx) mn)) := by
                first
                | (rw [← hmx, ← hmn]; exact hd2.1)
                | (rw [← hmx, ← hmn]; exact hd2.1.trans (List.Perm.swap _ _ _))
                | (exfalso; omega)
              first | (have htn := tur_new h4 c36 hpp) | skip
              refine wp_go 4 hM (fr' := (113, [some (.inr 30), some (.inl a), some (.inl b), some (.inl (sid l a b)), some (.inl (sid l b a)), some (.inl (apx l a b)), some (.inl (apx l b a))], [.inl (apx l a b), .inl (apx l b a), .inl a, .inr 30], σ_104)) rfl ?_
              refine wp_call (v := 0) (idx := 72) (j := 108) (N := mtX6_adds) (as := [.inr 30, .inl a, .inl (apx l b a), .inl (apx l a b)]) (rest := []) hM rfl (Or.inl ⟨rfl, rfl⟩) rfl (sp_X6_adds (drp (drp l mx) mn) σ_104 a (apx l b a) (apx l a b) (by first | (first | exact ht_104 | (have q := htn.2.2.2.2; omega)) | fail) (by first | (first | exact ht_104 | (have q := htn.2.2.2.2; omega)) | fail)) ?_
              rintro r0 σ_113 ⟨rfl, ht_113, hf_113⟩
              show mz_Wp shM none 134 (116, [some (.inr 30), some (.inl a), some (.inl b), some (.inl (sid l a b)), some (.inl (sid l b a)), some (.inl (apx l a b)), some (.inl (apx l b a))], [], σ_113) _
              refine wp_go 4 hM (fr' := (122, [some (.inr 30), some (.inl a), some (.inl b), some (.inl (sid l a b)), some (.inl (sid l b a)), some (.inl (apx l a b)), some (.inl (apx l b a))], [.inl (apx l a b), .inl b, .inl (apx l b a), .inr 30], σ_113)) rfl ?_
              refine wp_call (v := 0) (idx := 72) (j := 108) (N := mtX6_adds) (as := [.inr 30, .inl (apx l b a), .inl b, .inl (apx l a b)]) (rest := []) hM rfl (Or.inl ⟨rfl, rfl⟩) rfl (sp_X6_adds ((drp (drp l mx) mn) ++ [(a, apx l b a, apx l a b)]) σ_113 (apx l b a) b (apx l a b) (by first | (first | exact ht_113 | (have q := htn.2.2.2.2; rw [List.length_append]; simp only [List.length_cons, List.length_nil]; omega)) | fail) (by first | (first | exact ht_113 | (have q := htn.2.2.2.2; rw [List.length_append]; simp only [List.length_cons, List.length_nil]; omega)) | fail)) ?_
              rintro r0 σ_122 ⟨rfl, ht_122, hf_122⟩
              show mz_Wp shM none 134 (125, [some (.inr 30), some (.inl a), some (.inl b), some (.inl (sid l a b)), some (.inl (sid l b a)), some (.inl (apx l a b)), some (.inl (apx l b a))], [], σ_122) _
              refine wp_go 1 hM (fr' := (126, [some (.inr 30), some (.inl a), some (.inl b), some (.inl (sid l a b)), some (.inl (sid l b a)), some (.inl (apx l a b)), some (.inl (apx l b a))], [.inr 30], σ_122)) rfl ?_
              refine wp_call (v := 0) (idx := 145) (j := 115) (N := mtX6_sorts) (as := [.inr 30]) (rest := []) hM rfl (Or.inl ⟨rfl, rfl⟩) rfl (sp_X6_sorts v ((drp (drp l mx) mn) ++ [(a, apx l b a, apx l a b)] ++ [(apx l b a, b, apx l a b)]) (lTur v l a b) σ_122  (by first | (exact MA_Fr h0 (((hf_88.tr hf_104).tr hf_113).tr hf_122) ht_122) | fail) (by first | (exact htn.1) | fail) (by first | (exact htn.2.1) | fail) (by first | (exact htn.2.2.1) | fail) (by first | (exact htn.2.2.2.1) | fail)) ?_
              rintro r0 σ_126 ⟨rfl, hA_126, hf_126⟩
              show mz_Wp shM none 134 (129, [some (.inr 30), some (.inl a), some (.inl b), some (.inl (sid l a b)), some (.inl (sid l b a)), some (.inl (apx l a b)), some (.inl (apx l b a))], [], σ_126) _
              refine wp_go 1 hM (fr' := (130, [some (.inr 30), some (.inl a), some (.inl b), some (.inl (sid l a b)), some (.inl (sid l b a)), some (.inl (apx l a b)), some (.inl (apx l b a))], [.inl 0], σ_126)) rfl ?_
              refine wp_ret hM rfl (rfl) ?_
              first | (exact ⟨by rw [c36], hA_126, Fm_Fr ((((hf_88.tr hf_104).tr hf_113).tr hf_122).tr hf_126)⟩) | fail
            · replace c95 := cmp_le_f c95
              first | (obtain ⟨mn, hmn⟩ : ∃ q : Int, q = sid l b a := ⟨_, rfl⟩) | skip
              refine wp_go 2 hM (fr' := (104, [some (.inr 30), some (.inl a), some (.inl b), some (.inl (sid l a b)), some (.inl (sid l b a)), some (.inl (apx l a b)), some (.inl (apx l b a))], [.inl (sid l b a), .inr 30], σ_88)) rfl ?_
              refine wp_call (v := 0) (idx := 148) (j := 109) (N := mtX6_drops) (as := [.inr 30, .inl (sid l b a)]) (rest := []) hM rfl (Or.inl ⟨rfl, rfl⟩) rfl (sp_X6_drops (drp l mx) σ_88 (sid l b a) (by first | (first | exact hA8 | omega) | fail) (by first | (first | exact hA8 | omega) | fail) (by first | (first | exact hA8 | omega) | fail) (by first | (first | exact hA8 | omega) | fail)) ?_
              rintro r0 σ_104 ⟨rfl, ht_104, hf_104⟩
              show mz_Wp shM none 134 (107, [some (.inr 30), some (.inl a), some (.inl b), some (.inl (sid l a b)), some (.inl (sid l b a)), some (.inl (apx l a b)), some (.inl (apx l b a))], [], σ_104) _
              first | (rw [← hmn] at ht_104) | skip
              first | (have hlt : mn < mx := by omega) | skip
              first | (have hd2 := drp2 (l := l) (mx := mx) (mn := mn) (by omega) hlt (by omega)) | skip
              have hpp : l.Perm (tg l (sid l a b) :: tg l (sid l b a) :: (drp (drp l mx) mn)) := by
                first
                | (rw [← hmx, ← hmn]; exact hd2.1)
                | (rw [← hmx, ← hmn]; exact hd2.1.trans (List.Perm.swap _ _ _))
                | (exfalso; omega)
              first | (have htn := tur_new h4 c36 hpp) | skip
              refine wp_go 4 hM (fr' := (113, [some (.inr 30), some (.inl a), some (.inl b), some (.inl (sid l a b)), some (.inl (sid l b a)), some (.inl (apx l a b)), some (.inl (apx l b a))], [.inl (apx l a b), .inl (apx l b a), .inl a, .inr 30], σ_104)) rfl ?_
              refine wp_call (v := 0) (idx := 72) (j := 108) (N := mtX6_adds) (as := [.inr 30, .inl a, .inl (apx l b a), .inl (apx l a b)]) (rest := []) hM rfl (Or.inl ⟨rfl, rfl⟩) rfl (sp_X6_adds (drp (drp l mx) mn) σ_104 a (apx l b a) (apx l a b) (by first | (first | exact ht_104 | (have q := htn.2.2.2.2; omega)) | fail) (by first | (first | exact ht_104 | (have q := htn.2.2.2.2; omega)) | fail)) ?_
              rintro r0 σ_113 ⟨rfl, ht_113, hf_113⟩
              show mz_Wp shM none 134 (116, [some (.inr 30), some (.inl a), some (.inl b), some (.inl (sid l a b)), some (.inl (sid l b a)), some (.inl (apx l a b)), some (.inl (apx l b a))], [], σ_113) _
              refine wp_go 4 hM (fr' := (122, [some (.inr 30), some (.inl a), some (.inl b), some (.inl (sid l a b)), some (.inl (sid l b a)), some (.inl (apx l a b)), some (.inl (apx l b a))], [.inl (apx l a b), .inl b, .inl (apx l b a), .inr 30], σ_113)) rfl ?_
              refine wp_call (v := 0) (idx := 72) (j := 108) (N := mtX6_adds) (as := [.inr 30, .inl (apx l b a), .inl b, .inl (apx l a b)]) (rest := []) hM rfl (Or.inl ⟨rfl, rfl⟩) rfl (sp_X6_adds ((drp (drp l mx) mn) ++ [(a, apx l b a, apx l a b)]) σ_113 (apx l b a) b (apx l a b) (by first | (first | exact ht_113 | (have q := htn.2.2.2.2; rw [List.length_append]; simp only [List.length_cons, List.length_nil]; omega)) | fail) (by first | (first | exact ht_113 | (have q := htn.2.2.2.2; rw [List.length_append]; simp only [List.length_cons, List.length_nil]; omega)) | fail)) ?_
              rintro r0 σ_122 ⟨rfl, ht_122, hf_122⟩
              show mz_Wp shM none 134 (125, [some (.inr 30), some (.inl a), some (.inl b), some (.inl (sid l a b)), some (.inl (sid l b a)), some (.inl (apx l a b)), some (.inl (apx l b a))], [], σ_122) _
              refine wp_go 1 hM (fr' := (126, [some (.inr 30), some (.inl a), some (.inl b), some (.inl (sid l a b)), some (.inl (sid l b a)), some (.inl (apx l a b)), some (.inl (apx l b a))], [.inr 30], σ_122)) rfl ?_
              refine wp_call (v := 0) (idx := 145) (j := 115) (N := mtX6_sorts) (as := [.inr 30]) (rest := []) hM rfl (Or.inl ⟨rfl, rfl⟩) rfl (sp_X6_sorts v ((drp (drp l mx) mn) ++ [(a, apx l b a, apx l a b)] ++ [(apx l b a, b, apx l a b)]) (lTur v l a b) σ_122  (by first | (exact MA_Fr h0 (((hf_88.tr hf_104).tr hf_113).tr hf_122) ht_122) | fail) (by first | (exact htn.1) | fail) (by first | (exact htn.2.1) | fail) (by first | (exact htn.2.2.1) | fail) (by first | (exact htn.2.2.2.1) | fail)) ?_
              rintro r0 σ_126 ⟨rfl, hA_126, hf_126⟩
              show mz_Wp shM none 134 (129, [some (.inr 30), some (.inl a), some (.inl b), some (.inl (sid l a b)), some (.inl (sid l b a)), some (.inl (apx l a b)), some (.inl (apx l b a))], [], σ_126) _
              refine wp_go 1 hM (fr' := (130, [some (.inr 30), some (.inl a), some (.inl b), some (.inl (sid l a b)), some (.inl (sid l b a)), some (.inl (apx l a b)), some (.inl (apx l b a))], [.inl 0], σ_126)) rfl ?_
              refine wp_ret hM rfl (rfl) ?_
              first | (exact ⟨by rw [c36], hA_126, Fm_Fr ((((hf_88.tr hf_104).tr hf_113).tr hf_122).tr hf_126)⟩) | fail
        · replace c36 := b01_eq0 (cmp_ne_f c36)
          refine wp_go 1 hM (fr' := (40, [some (.inr 30), some (.inl a), some (.inl b), none, none, none, none], [.inl 4], σ)) rfl ?_
          refine wp_ret hM rfl (rfl) ?_
          have hr1 := rtt_4 (v := v) (l := l) (a := a) (b := b) c5 c13 c25 c36
          refine ⟨by rw [hr1], ?_, Fm.rf⟩
          unfold lTur
          rw [hr1, if_neg (by decide)]
          exact h0
      · replace c25 := cmp_eq_f c25
        refine wp_go 1 hM (fr' := (29, [some (.inr 30), some (.inl a), some (.inl b), none, none, none, none], [.inl 2], σ)) rfl ?_
        refine wp_ret hM rfl (rfl) ?_
        have hr1 := rtt_2 (v := v) (l := l) (a := a) (b := b) c5 c13 c25
        refine ⟨by rw [hr1], ?_, Fm.rf⟩
        unfold lTur
        rw [hr1, if_neg (by decide)]
        exact h0
    · replace c13 := b01_eq0 (cmp_ne_f c13)
      refine wp_go 1 hM (fr' := (17, [some (.inr 30), some (.inl a), some (.inl b), none, none, none, none], [.inl 1], σ)) rfl ?_
      refine wp_ret hM rfl (rfl) ?_
      have hr1 := rtt_1 (v := v) (l := l) (a := a) (b := b) (by first | exact Or.inl c5 | exact Or.inr c13)
      refine ⟨by rw [hr1], ?_, Fm.rf⟩
      unfold lTur
      rw [hr1, if_neg (by decide)]
      exact h0
