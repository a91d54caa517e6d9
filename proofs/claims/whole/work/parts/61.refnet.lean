/-! the reference: rows kept, dropped, changed, sorted -/
set_option maxRecDepth 100000 in
set_option maxHeartbeats 4000000 in
theorem sp_X6_corner  (σ : mz_G) (k : Int) (x : Int) (y : Int) (h0 : 0 ≤ k) (h1 : k < 31) : mz_Cl shM 104 [.inr 30, .inl k, .inl x, .inl y] σ (fun r σ' => r = none ∧ σ' = crn σ k x y) := by
  have hM : mz_meth[104]? = some mtX6_corner := rfl
  refine mz_Cl.of hM ?_
  show mz_Wp shM none 104 (0, [some (.inr 30), some (.inl k), some (.inl x), some (.inl y)], [], σ) _
  refine wp_go 4 hM (fr' := (6, [some (.inr 30), some (.inl k), some (.inl x), some (.inl y)], [.inl x, .inl k, .inr 31], σ)) rfl ?_
  refine wp_as (n := 31) hM rfl rfl (by omega) (by omega) ?_
  refine wp_go 4 hM (fr' := (13, [some (.inr 30), some (.inl k), some (.inl x), some (.inl y)], [.inl y, .inl k, .inr 32], (mz_up σ 31 (k).toNat x))) rfl ?_
  refine wp_as (n := 31) hM rfl rfl (by omega) (by omega) ?_
  refine wp_go 4 hM (fr' := (20, [some (.inr 30), some (.inl k), some (.inl x), some (.inl y)], [.inl x, .inl k, .inr 33], (mz_up (mz_up σ 31 (k).toNat x) 32 (k).toNat y))) rfl ?_
  refine wp_as (n := 31) hM rfl rfl (by omega) (by omega) ?_
  refine wp_go 4 hM (fr' := (27, [some (.inr 30), some (.inl k), some (.inl x), some (.inl y)], [.inl y, .inl k, .inr 34], (mz_up (mz_up (mz_up σ 31 (k).toNat x) 32 (k).toNat y) 33 (k).toNat x))) rfl ?_
  refine wp_as (n := 31) hM rfl rfl (by omega) (by omega) ?_
  refine wp_retv hM rfl rfl ?_
  first | (exact ⟨rfl, rfl⟩) | fail

set_option maxRecDepth 100000 in
set_option maxHeartbeats 4000000 in
theorem sp_X6_adds (l : List tr3) (σ : mz_G) (a : Int) (b : Int) (c : Int) (h0 : MT σ l) (h1 : (l.length : Int) < 60) : mz_Cl shM 108 [.inr 30, .inl a, .inl b, .inl c] σ (fun r σ' => r = none ∧ MT σ' (l ++ [(a, b, c)]) ∧ Fr σ σ') := by
  have hM : mz_meth[108]? = some mtX6_adds := rfl
  have hc4 := h0.1
  refine mz_Cl.of hM ?_
  show mz_Wp shM none 108 (0, [some (.inr 30), some (.inl a), some (.inl b), some (.inl c)], [], σ) _
  refine wp_go 7 hM (fr' := (11, [some (.inr 30), some (.inl a), some (.inl b), some (.inl c)], [.inl a, .inl (3 * (σ 30 3)), .inr 35], σ)) rfl ?_
  refine wp_as (n := 180) hM rfl rfl (by omega) (by omega) ?_
  refine wp_go 9 hM (fr' := (25, [some (.inr 30), some (.inl a), some (.inl b), some (.inl c)], [.inl b, .inl ((3 * (σ 30 3)) + 1), .inr 35], (mz_up σ 35 (3 * (σ 30 3)).toNat a))) rfl ?_
  refine wp_as (n := 180) hM rfl rfl (by omega) (by omega) ?_
  refine wp_go 9 hM (fr' := (39, [some (.inr 30), some (.inl a), some (.inl b), some (.inl c)], [.inl c, .inl ((3 * (σ 30 3)) + 2), .inr 35], (mz_up (mz_up σ 35 (3 * (σ 30 3)).toNat a) 35 ((3 * (σ 30 3)) + 1).toNat b))) rfl ?_
  refine wp_as (n := 180) hM rfl rfl (by omega) (by omega) ?_
  refine wp_go 6 hM (fr' := (50, [some (.inr 30), some (.inl a), some (.inl b), some (.inl c)], [], (mz_up (mz_up (mz_up (mz_up σ 35 (3 * (σ 30 3)).toNat a) 35 ((3 * (σ 30 3)) + 1).toNat b) 35 ((3 * (σ 30 3)) + 2).toNat c) 30 3 ((σ 30 3) + 1)))) rfl ?_
  refine wp_retv hM rfl rfl ?_
  first | (exact ⟨rfl, MT_add h0 rfl, Fr_add⟩) | fail

set_option maxRecDepth 100000 in
set_option maxHeartbeats 4000000 in
theorem sp_X6_begins (w h : Int) (σ : mz_G)  (h0 : σ 30 0 = w) (h1 : σ 30 1 = h) (h2 : 2 ≤ w ∧ w ≤ 20) (h3 : 2 ≤ h ∧ h ≤ 20) : mz_Cl shM 105 [.inr 30] σ (fun r σ' => r = none ∧ MA σ' (vbg w h (fun _ => 0)) [(0, 1, 2), (0, 2, 3)] ∧ Fm σ σ') := by
  have hM : mz_meth[105]? = some mtX6_begins := rfl
  refine mz_Cl.of hM ?_
  show mz_Wp shM none 105 (0, [some (.inr 30), none], [], σ) _
  refine wp_go 2 hM (fr' := (2, [some (.inr 30), some (.inl 0)], [], σ)) rfl ?_
  have loop2 : ∀ (fuel : Nat) (k : Int) (σ1 : mz_G), (0 ≤ k) → (k ≤ 400) → (σ1 = fil σ 36 k.toNat 0) → ((400 - k : Int) < fuel) → mz_Wp shM none 105 (2, [some (.inr 30), some (.inl k)], [], σ1) (fun r σ' => r = none ∧ MA σ' (vbg w h (fun _ => 0)) [(0, 1, 2), (0, 2, 3)] ∧ Fm σ σ') := by
    intro fuel
    induction fuel with
    | zero =>
      intro k σ1 hv2_0 hv2_1 hv2_2 hf2
      exfalso
      omega
    | succ fuel ih2 =>
      intro k σ1 hv2_0 hv2_1 hv2_2 hf2
      refine wp_go 2 hM (fr' := (6, [some (.inr 30), some (.inl k)], [.inl 400, .inl k], σ1)) rfl ?_
      refine wp_ic (tgt := 22) hM rfl (by decide) (by omega) (by omega) (fun c6 => ?_) (fun c6 => ?_)
      · replace c6 := cmp_ge_t c6
        first | (have hk4 : k = 400 := by omega) | skip
        first | (have e0 : σ1 30 0 = w := by rw [hv2_2]; exact h0) | skip
        first | (have e1 : σ1 30 1 = h := by rw [hv2_2]; exact h1) | skip
        refine wp_go 7 hM (fr' := (31, [some (.inr 30), some (.inl k)], [.inl 0, .inl 0, .inl 0, .inr 30], (mz_up σ1 30 2 4))) rfl ?_
        refine wp_call (v := 0) (idx := 65) (j := 104) (N := mtX6_corner) (as := [.inr 30, .inl 0, .inl 0, .inl 0]) (rest := []) hM rfl (Or.inl ⟨rfl, rfl⟩) rfl (sp_X6_corner  (mz_up σ1 30 2 4) 0 0 0 (by omega) (by omega)) ?_
        rintro r0 σ_31 ⟨rfl, hc_31⟩
        show mz_Wp shM none 105 (34, [some (.inr 30), some (.inl k)], [], σ_31) _
        first | (have ea0 : σ_31 30 0 = w := by rw [hc_31, crn_get.2 _ _ (Or.inr (by decide)), up_ni (by decide)]; exact e0) | skip
        first | (have ea1 : σ_31 30 1 = h := by rw [hc_31, crn_get.2 _ _ (Or.inr (by decide)), up_ni (by decide)]; exact e1) | skip
        refine wp_go 7 hM (fr' := (43, [some (.inr 30), some (.inl k)], [.inl 0, .inl ((σ_31 30 0) - 1), .inl 1, .inr 30], σ_31)) rfl ?_
        refine wp_call (v := 0) (idx := 65) (j := 104) (N := mtX6_corner) (as := [.inr 30, .inl 1, .inl ((σ_31 30 0) - 1), .inl 0]) (rest := []) hM rfl (Or.inl ⟨rfl, rfl⟩) rfl (sp_X6_corner  σ_31 1 ((σ_31 30 0) - 1) 0 (by omega) (by omega)) ?_
        rintro r0 σ_43 ⟨rfl, hc_43⟩
        show mz_Wp shM none 105 (46, [some (.inr 30), some (.inl k)], [], σ_43) _
        first | (have eb0 : σ_43 30 0 = w := by rw [hc_43, crn_get.2 _ _ (Or.inr (by decide))]; exact ea0) | skip
        first | (have eb1 : σ_43 30 1 = h := by rw [hc_43, crn_get.2 _ _ (Or.inr (by decide))]; exact ea1) | skip
        refine wp_go 10 hM (fr' := (60, [some (.inr 30), some (.inl k)], [.inl ((σ_43 30 1) - 1), .inl ((σ_43 30 0) - 1), .inl 2, .inr 30], σ_43)) rfl ?_
        refine wp_call (v := 0) (idx := 65) (j := 104) (N := mtX6_corner) (as := [.inr 30, .inl 2, .inl ((σ_43 30 0) - 1), .inl ((σ_43 30 1) - 1)]) (rest := []) hM rfl (Or.inl ⟨rfl, rfl⟩) rfl (sp_X6_corner  σ_43 2 ((σ_43 30 0) - 1) ((σ_43 30 1) - 1) (by omega) (by omega)) ?_
        rintro r0 σ_60 ⟨rfl, hc_60⟩
        show mz_Wp shM none 105 (63, [some (.inr 30), some (.inl k)], [], σ_60) _
        first | (have ec1 : σ_60 30 1 = h := by rw [hc_60, crn_get.2 _ _ (Or.inr (by decide))]; exact eb1) | skip
        refine wp_go 7 hM (fr' := (72, [some (.inr 30), some (.inl k)], [.inl ((σ_60 30 1) - 1), .inl 0, .inl 3, .inr 30], σ_60)) rfl ?_
        refine wp_call (v := 0) (idx := 65) (j := 104) (N := mtX6_corner) (as := [.inr 30, .inl 3, .inl 0, .inl ((σ_60 30 1) - 1)]) (rest := []) hM rfl (Or.inl ⟨rfl, rfl⟩) rfl (sp_X6_corner  σ_60 3 0 ((σ_60 30 1) - 1) (by omega) (by omega)) ?_
        rintro r0 σ_72 ⟨rfl, hc_72⟩
        show mz_Wp shM none 105 (75, [some (.inr 30), some (.inl k)], [], σ_72) _
        refine wp_go 7 hM (fr' := (84, [some (.inr 30), some (.inl k)], [.inl 2, .inl 1, .inl 0, .inr 30], (mz_up σ_72 30 3 0))) rfl ?_
        refine wp_call (v := 0) (idx := 72) (j := 108) (N := mtX6_adds) (as := [.inr 30, .inl 0, .inl 1, .inl 2]) (rest := []) hM rfl (Or.inl ⟨rfl, rfl⟩) rfl (sp_X6_adds [] (mz_up σ_72 30 3 0) 0 1 2 (by first | (first | exact ⟨up_eq, fun t x hx => by simp at hx⟩ | simp) | fail) (by first | (first | exact ⟨up_eq, fun t x hx => by simp at hx⟩ | simp) | fail)) ?_
        rintro r0 σ_84 ⟨rfl, ht_84, hf_84⟩
        show mz_Wp shM none 105 (87, [some (.inr 30), some (.inl k)], [], σ_84) _
        refine wp_go 4 hM (fr' := (91, [some (.inr 30), some (.inl k)], [.inl 3, .inl 2, .inl 0, .inr 30], σ_84)) rfl ?_
        refine wp_call (v := 0) (idx := 72) (j := 108) (N := mtX6_adds) (as := [.inr 30, .inl 0, .inl 2, .inl 3]) (rest := []) hM rfl (Or.inl ⟨rfl, rfl⟩) rfl (sp_X6_adds [(0, 1, 2)] σ_84 0 2 3 (by first | (first | exact ht_84 | simp) | fail) (by first | (first | exact ht_84 | simp) | fail)) ?_
        rintro r0 σ_91 ⟨rfl, ht_91, hf_91⟩
        show mz_Wp shM none 105 (94, [some (.inr 30), some (.inl k)], [], σ_91) _
        refine wp_retv hM rfl rfl ?_
        have hfin := MA_beg h2 h3 h0 h1 hk4 hv2_2 hc_31 hc_43 hc_60 hc_72 (by rw [ea0]) (by rw [eb0]) (by rw [eb1]) (by rw [ec1]) (hf_84.tr hf_91) ht_91
        exact ⟨rfl, hfin.1, hfin.2⟩
      · replace c6 := cmp_ge_f c6
        refine wp_go 4 hM (fr' := (15, [some (.inr 30), some (.inl k)], [.inl 0, .inl k, .inr 36], σ1)) rfl ?_
        refine wp_as (n := 400) hM rfl rfl (by omega) (by omega) ?_
        refine wp_go 2 hM (fr' := (2, [some (.inr 30), some (.inl (k + 1))], [], (mz_up σ1 36 (k).toNat 0))) rfl ?_
        exact ih2 (k + 1) (mz_up σ1 36 (k).toNat 0) (by omega) (by omega) (by first | (rw [hv2_2]; exact fil_s hv2_0) | fail) (by omega)
  exact loop2 402 0 σ (by omega) (by omega) (by first | (exact fil_0.symm) | fail) (by omega)

set_option maxRecDepth 100000 in
set_option maxHeartbeats 4000000 in
theorem sp_X6_size (v : mz_G) (l : List tr3) (σ : mz_G) (w : Int) (h : Int) (h0 : MA σ v l) (h1 : GO v l) (h2 : mz_R w) (h3 : mz_R h) : mz_Cl shM 144 [.inr 30, .inl w, .inl h] σ (fun r σ' => r = some (b01 (szo w h)) ∧ MA σ' (vSiz v w h) (lSiz l w h) ∧ Fm σ σ') := by
  have hM : mz_meth[144]? = some mtX6_size := rfl
  obtain ⟨hB, hSd, ⟨hP0, hP1⟩, ⟨hC0, hC1'⟩, hVr, hn30, hl2⟩ := id h1
  obtain ⟨hR, hT, hLen⟩ := id hB
  obtain ⟨⟨hW0, hW1⟩, ⟨hH0, hH1⟩, ⟨hn0, hn1⟩, hpt⟩ := id hR
  obtain ⟨⟨⟨hc1, hc2, hc3⟩, hcp, hcv⟩, hc4, hct⟩ := id h0
  have hWH := WH_bd hR
  refine mz_Cl.of hM ?_
  show mz_Wp shM none 144 (0, [some (.inr 30), some (.inl w), some (.inl h)], [], σ) _
  refine wp_go 3 hM (fr' := (4, [some (.inr 30), some (.inl w), some (.inl h)], [.inl 20, .inl 2, .inl w], σ)) rfl ?_
  refine wp_calld (v := 1) (idx := 116) (j := 103) (N := mtX6_isIn) (as := [.inl w, .inl 2, .inl 20]) (rest := []) hM rfl (Or.inr ⟨rfl, rfl⟩) rfl (sp_X6_isIn  σ w 2 20 (by first | (first | assumption | decide) | fail) (by first | (first | assumption | decide) | fail) (by first | (first | assumption | decide) | fail)) ?_
  show mz_Wp shM none 144 (7, [some (.inr 30), some (.inl w), some (.inl h)], [.inl (b01 (2 ≤ w ∧ w ≤ 20))], σ) _
  refine wp_if (tgt := 20) hM rfl (by decide) b01_R (fun c7 => ?_) (fun c7 => ?_)
  · replace c7 := b01_eq0 (cmp_eq_t c7)
    refine wp_go 1 hM (fr' := (21, [some (.inr 30), some (.inl w), some (.inl h)], [.inl 0], σ)) rfl ?_
    refine wp_ret hM rfl (rfl) ?_
    have hno : ¬ szo w h := by unfold szo; omega
    exact ⟨by rw [b01_f hno], by unfold vSiz lSiz; rw [if_neg hno, if_neg hno]; exact h0, Fm.rf⟩
  · replace c7 := b01_ne0 (cmp_eq_f c7)
    refine wp_go 3 hM (fr' := (14, [some (.inr 30), some (.inl w), some (.inl h)], [.inl 20, .inl 2, .inl h], σ)) rfl ?_
    refine wp_calld (v := 1) (idx := 116) (j := 103) (N := mtX6_isIn) (as := [.inl h, .inl 2, .inl 20]) (rest := []) hM rfl (Or.inr ⟨rfl, rfl⟩) rfl (sp_X6_isIn  σ h 2 20 (by first | (first | assumption | decide) | fail) (by first | (first | assumption | decide) | fail) (by first | (first | assumption | decide) | fail)) ?_
    show mz_Wp shM none 144 (17, [some (.inr 30), some (.inl w), some (.inl h)], [.inl (b01 (2 ≤ h ∧ h ≤ 20))], σ) _
    refine wp_if (tgt := 22) hM rfl (by decide) b01_R (fun c17 => ?_) (fun c17 => ?_)
    · replace c17 := b01_ne0 (cmp_ne_t c17)
      refine wp_go 7 hM (fr' := (33, [some (.inr 30), some (.inl w), some (.inl h)], [.inr 30], (mz_up (mz_up σ 30 0 w) 30 1 h))) rfl ?_
      refine wp_call (v := 0) (idx := 59) (j := 105) (N := mtX6_begins) (as := [.inr 30]) (rest := []) hM rfl (Or.inl ⟨rfl, rfl⟩) rfl (sp_X6_begins w h (mz_up (mz_up σ 30 0 w) 30 1 h)  (by first | (first | exact up_eq | exact (up_ni (by decide)).trans up_eq | omega) | fail) (by first | (first | exact up_eq | exact (up_ni (by decide)).trans up_eq | omega) | fail) (by first | (first | exact up_eq | exact (up_ni (by decide)).trans up_eq | omega) | fail) (by first | (first | exact up_eq | exact (up_ni (by decide)).trans up_eq | omega) | fail)) ?_
      rintro r0 σ_33 ⟨rfl, hA_33, hf_33⟩
      show mz_Wp shM none 144 (36, [some (.inr 30), some (.inl w), some (.inl h)], [], σ_33) _
      refine wp_go 1 hM (fr' := (37, [some (.inr 30), some (.inl w), some (.inl h)], [.inl 1], σ_33)) rfl ?_
      refine wp_ret hM rfl (rfl) ?_
      have hyes : szo w h := by unfold szo; omega
      refine ⟨by rw [b01_t hyes], ?_, ((Fm_up (by decide)).tr (Fm_up (by decide))).tr hf_33⟩
      unfold vSiz lSiz
      rw [if_pos hyes, if_pos hyes]
      exact hA_33
    · replace c17 := b01_eq0 (cmp_ne_f c17)
      refine wp_go 1 hM (fr' := (21, [some (.inr 30), some (.inl w), some (.inl h)], [.inl 0], σ)) rfl ?_
      refine wp_ret hM rfl (rfl) ?_
      have hno : ¬ szo w h := by unfold szo; omega
      exact ⟨by rw [b01_f hno], by unfold vSiz lSiz; rw [if_neg hno, if_neg hno]; exact h0, Fm.rf⟩

set_option maxRecDepth 100000 in
set_option maxHeartbeats 4000000 in
theorem sp_X6_keeps  (σ : mz_G)   : mz_Cl shM 106 [.inr 30] σ (fun r σ' => r = none ∧ Kt σ σ' ∧ Fq σ σ') := by
  have hM : mz_meth[106]? = some mtX6_keeps := rfl
  refine mz_Cl.of hM ?_
  show mz_Wp shM none 106 (0, [some (.inr 30), none], [], σ) _
  refine wp_go 2 hM (fr' := (2, [some (.inr 30), some (.inl 0)], [], σ)) rfl ?_
  have loop2 : ∀ (fuel : Nat) (k : Int) (σ1 : mz_G), (0 ≤ k) → (k ≤ 31) → (K1 σ σ1 k) → ((31 - k : Int) < fuel) → mz_Wp shM none 106 (2, [some (.inr 30), some (.inl k)], [], σ1) (fun r σ' => r = none ∧ Kt σ σ' ∧ Fq σ σ') := by
    intro fuel
    induction fuel with
    | zero =>
      intro k σ1 hv2_0 hv2_1 hv2_2 hf2
      exfalso
      omega
    | succ fuel ih2 =>
      intro k σ1 hv2_0 hv2_1 hv2_2 hf2
      refine wp_go 2 hM (fr' := (5, [some (.inr 30), some (.inl k)], [.inl 31, .inl k], σ1)) rfl ?_
      refine wp_ic (tgt := 62) hM rfl (by decide) (by omega) (by omega) (fun c5 => ?_) (fun c5 => ?_)
      · replace c5 := cmp_ge_t c5
        refine wp_go 2 hM (fr' := (64, [some (.inr 30), some (.inl 0)], [], σ1)) rfl ?_
        have loop64 : ∀ (fuel : Nat) (j : Int) (σ2 : mz_G), (0 ≤ j) → (j ≤ 180) → (K2 σ1 σ2 j) → ((180 - j : Int) < fuel) → mz_Wp shM none 106 (64, [some (.inr 30), some (.inl j)], [], σ2) (fun r σ' => r = none ∧ Kt σ σ' ∧ Fq σ σ') := by
          intro fuel
          induction fuel with
          | zero =>
            intro j σ2 hv64_0 hv64_1 hv64_2 hf64
            exfalso
            omega
          | succ fuel ih64 =>
            intro j σ2 hv64_0 hv64_1 hv64_2 hf64
            refine wp_go 2 hM (fr' := (68, [some (.inr 30), some (.inl j)], [.inl 180, .inl j], σ2)) rfl ?_
            refine wp_ic (tgt := 89) hM rfl (by decide) (by omega) (by omega) (fun c68 => ?_) (fun c68 => ?_)
            · replace c68 := cmp_ge_t c68
              refine wp_go 8 hM (fr' := (105, [some (.inr 30), some (.inl j)], [], (mz_up (mz_up σ2 30 16 (σ2 30 2)) 30 17 (σ2 30 3)))) rfl ?_
              refine wp_retv hM rfl rfl ?_
              have hfin := Kt_of hv2_2 (by omega) hv64_2 (by omega) rfl rfl
              exact ⟨rfl, hfin.1, hfin.2⟩
            · replace c68 := cmp_ge_f c68
              refine wp_go 6 hM (fr' := (81, [some (.inr 30), some (.inl j)], [.inl j, .inr 35, .inl j, .inr 42], σ2)) rfl ?_
              refine wp_al (n := 180) hM rfl (by decide) rfl (by omega) (by omega) ?_
              refine wp_as (n := 180) hM rfl rfl (by omega) (by omega) ?_
              refine wp_go 2 hM (fr' := (64, [some (.inr 30), some (.inl (j + 1))], [], (mz_up σ2 42 (j).toNat (σ2 35 (j).toNat)))) rfl ?_
              exact ih64 (j + 1) (mz_up σ2 42 (j).toNat (σ2 35 (j).toNat)) (by omega) (by omega) (by first | (exact K2_s hv64_2 hv64_0 rfl) | fail) (by omega)
        exact loop64 182 0 σ1 (by omega) (by omega) (by first | (exact K2_0) | fail) (by omega)
      · replace c5 := cmp_ge_f c5
        refine wp_go 6 hM (fr' := (18, [some (.inr 30), some (.inl k)], [.inl k, .inr 33, .inl k, .inr 38], σ1)) rfl ?_
        refine wp_al (n := 31) hM rfl (by decide) rfl (by omega) (by omega) ?_
        refine wp_as (n := 31) hM rfl rfl (by omega) (by omega) ?_
        refine wp_go 6 hM (fr' := (30, [some (.inr 30), some (.inl k)], [.inl k, .inr 34, .inl k, .inr 39], (mz_up σ1 38 (k).toNat (σ1 33 (k).toNat)))) rfl ?_
        refine wp_al (n := 31) hM rfl (by decide) rfl (by omega) (by omega) ?_
        show mz_Wp shM none 106 (31, [some (.inr 30), some (.inl k)], [.inl (σ1 34 (k).toNat), .inl k, .inr 39], (mz_up σ1 38 (k).toNat (σ1 33 (k).toNat))) _
        refine wp_as (n := 31) hM rfl rfl (by omega) (by omega) ?_
        refine wp_go 6 hM (fr' := (42, [some (.inr 30), some (.inl k)], [.inl k, .inr 31, .inl k, .inr 40], (mz_up (mz_up σ1 38 (k).toNat (σ1 33 (k).toNat)) 39 (k).toNat (σ1 34 (k).toNat)))) rfl ?_
        refine wp_al (n := 31) hM rfl (by decide) rfl (by omega) (by omega) ?_
        show mz_Wp shM none 106 (43, [some (.inr 30), some (.inl k)], [.inl (σ1 31 (k).toNat), .inl k, .inr 40], (mz_up (mz_up σ1 38 (k).toNat (σ1 33 (k).toNat)) 39 (k).toNat (σ1 34 (k).toNat))) _
        refine wp_as (n := 31) hM rfl rfl (by omega) (by omega) ?_
        refine wp_go 6 hM (fr' := (54, [some (.inr 30), some (.inl k)], [.inl k, .inr 32, .inl k, .inr 41], (mz_up (mz_up (mz_up σ1 38 (k).toNat (σ1 33 (k).toNat)) 39 (k).toNat (σ1 34 (k).toNat)) 40 (k).toNat (σ1 31 (k).toNat)))) rfl ?_
        refine wp_al (n := 31) hM rfl (by decide) rfl (by omega) (by omega) ?_
        show mz_Wp shM none 106 (55, [some (.inr 30), some (.inl k)], [.inl (σ1 32 (k).toNat), .inl k, .inr 41], (mz_up (mz_up (mz_up σ1 38 (k).toNat (σ1 33 (k).toNat)) 39 (k).toNat (σ1 34 (k).toNat)) 40 (k).toNat (σ1 31 (k).toNat))) _
        refine wp_as (n := 31) hM rfl rfl (by omega) (by omega) ?_
        refine wp_go 2 hM (fr' := (2, [some (.inr 30), some (.inl (k + 1))], [], (mz_up (mz_up (mz_up (mz_up σ1 38 (k).toNat (σ1 33 (k).toNat)) 39 (k).toNat (σ1 34 (k).toNat)) 40 (k).toNat (σ1 31 (k).toNat)) 41 (k).toNat (σ1 32 (k).toNat)))) rfl ?_
        exact ih2 (k + 1) (mz_up (mz_up (mz_up (mz_up σ1 38 (k).toNat (σ1 33 (k).toNat)) 39 (k).toNat (σ1 34 (k).toNat)) 40 (k).toNat (σ1 31 (k).toNat)) 41 (k).toNat (σ1 32 (k).toNat)) (by omega) (by omega) (by first | (exact K1_s hv2_2 hv2_0 rfl rfl rfl rfl) | fail) (by omega)
  exact loop2 33 0 σ (by omega) (by omega) (by first | (exact K1_0) | fail) (by omega)

set_option maxRecDepth 100000 in
set_option maxHeartbeats 4000000 in
theorem sp_X6_comesBack (v : mz_G) (l : List tr3) (σ0 : mz_G) (σ : mz_G)  (h0 : MA σ0 v l) (h1 : Bs v l) (h2 : Kt σ0 σ) (h3 : σ 30 0 = σ0 30 0 ∧ σ 30 1 = σ0 30 1) (h4 : ∀ i, σ 36 i = σ0 36 i) : mz_Cl shM 107 [.inr 30] σ (fun r σ' => r = none ∧ MA σ' v l ∧ Fm σ σ') := by
  have hM : mz_meth[107]? = some mtX6_comesBack := rfl
  refine mz_Cl.of hM ?_
  show mz_Wp shM none 107 (0, [some (.inr 30), none], [], σ) _
  refine wp_go 2 hM (fr' := (2, [some (.inr 30), some (.inl 0)], [], σ)) rfl ?_
  have loop2 : ∀ (fuel : Nat) (k : Int) (σ1 : mz_G), (0 ≤ k) → (k ≤ 31) → (B1 σ σ1 k) → ((31 - k : Int) < fuel) → mz_Wp shM none 107 (2, [some (.inr 30), some (.inl k)], [], σ1) (fun r σ' => r = none ∧ MA σ' v l ∧ Fm σ σ') := by
    intro fuel
    induction fuel with
    | zero =>
      intro k σ1 hv2_0 hv2_1 hv2_2 hf2
      exfalso
      omega
    | succ fuel ih2 =>
      intro k σ1 hv2_0 hv2_1 hv2_2 hf2
      refine wp_go 2 hM (fr' := (5, [some (.inr 30), some (.inl k)], [.inl 31, .inl k], σ1)) rfl ?_
      refine wp_ic (tgt := 62) hM rfl (by decide) (by omega) (by omega) (fun c5 => ?_) (fun c5 => ?_)
      · replace c5 := cmp_ge_t c5
        refine wp_go 2 hM (fr' := (64, [some (.inr 30), some (.inl 0)], [], σ1)) rfl ?_
        have loop64 : ∀ (fuel : Nat) (j : Int) (σ2 : mz_G), (0 ≤ j) → (j ≤ 180) → (B2 σ1 σ2 j) → ((180 - j : Int) < fuel) → mz_Wp shM none 107 (64, [some (.inr 30), some (.inl j)], [], σ2) (fun r σ' => r = none ∧ MA σ' v l ∧ Fm σ σ') := by
          intro fuel
          induction fuel with
          | zero =>
            intro j σ2 hv64_0 hv64_1 hv64_2 hf64
            exfalso
            omega
          | succ fuel ih64 =>
            intro j σ2 hv64_0 hv64_1 hv64_2 hf64
            refine wp_go 2 hM (fr' := (68, [some (.inr 30), some (.inl j)], [.inl 180, .inl j], σ2)) rfl ?_
            refine wp_ic (tgt := 89) hM rfl (by decide) (by omega) (by omega) (fun c68 => ?_) (fun c68 => ?_)
            · replace c68 := cmp_ge_t c68
              refine wp_go 8 hM (fr' := (105, [some (.inr 30), some (.inl j)], [], (mz_up (mz_up σ2 30 2 (σ2 30 16)) 30 3 (σ2 30 17)))) rfl ?_
              refine wp_retv hM rfl rfl ?_
              refine ⟨rfl, MA_back h0 h1 h2 h3 h4 hv2_2 (by omega) hv64_2 (by omega) rfl rfl, fun c i a => ?_⟩
              rw [up_ne (by omega), up_ne (by omega), hv64_2.2 _ _ (by omega), hv2_2.2 _ _ (by omega)]
            · replace c68 := cmp_ge_f c68
              refine wp_go 6 hM (fr' := (81, [some (.inr 30), some (.inl j)], [.inl j, .inr 42, .inl j, .inr 35], σ2)) rfl ?_
              refine wp_al (n := 180) hM rfl (by decide) rfl (by omega) (by omega) ?_
              refine wp_as (n := 180) hM rfl rfl (by omega) (by omega) ?_
              refine wp_go 2 hM (fr' := (64, [some (.inr 30), some (.inl (j + 1))], [], (mz_up σ2 35 (j).toNat (σ2 42 (j).toNat)))) rfl ?_
              exact ih64 (j + 1) (mz_up σ2 35 (j).toNat (σ2 42 (j).toNat)) (by omega) (by omega) (by first | (exact B2_s hv64_2 hv64_0 rfl) | fail) (by omega)
        exact loop64 182 0 σ1 (by omega) (by omega) (by first | (exact B2_0) | fail) (by omega)
      · replace c5 := cmp_ge_f c5
        refine wp_go 6 hM (fr' := (18, [some (.inr 30), some (.inl k)], [.inl k, .inr 38, .inl k, .inr 33], σ1)) rfl ?_
        refine wp_al (n := 31) hM rfl (by decide) rfl (by omega) (by omega) ?_
        refine wp_as (n := 31) hM rfl rfl (by omega) (by omega) ?_
        refine wp_go 6 hM (fr' := (30, [some (.inr 30), some (.inl k)], [.inl k, .inr 39, .inl k, .inr 34], (mz_up σ1 33 (k).toNat (σ1 38 (k).toNat)))) rfl ?_
        refine wp_al (n := 31) hM rfl (by decide) rfl (by omega) (by omega) ?_
        show mz_Wp shM none 107 (31, [some (.inr 30), some (.inl k)], [.inl (σ1 39 (k).toNat), .inl k, .inr 34], (mz_up σ1 33 (k).toNat (σ1 38 (k).toNat))) _
        refine wp_as (n := 31) hM rfl rfl (by omega) (by omega) ?_
        refine wp_go 6 hM (fr' := (42, [some (.inr 30), some (.inl k)], [.inl k, .inr 40, .inl k, .inr 31], (mz_up (mz_up σ1 33 (k).toNat (σ1 38 (k).toNat)) 34 (k).toNat (σ1 39 (k).toNat)))) rfl ?_
        refine wp_al (n := 31) hM rfl (by decide) rfl (by omega) (by omega) ?_
        show mz_Wp shM none 107 (43, [some (.inr 30), some (.inl k)], [.inl (σ1 40 (k).toNat), .inl k, .inr 31], (mz_up (mz_up σ1 33 (k).toNat (σ1 38 (k).toNat)) 34 (k).toNat (σ1 39 (k).toNat))) _
        refine wp_as (n := 31) hM rfl rfl (by omega) (by omega) ?_
        refine wp_go 6 hM (fr' := (54, [some (.inr 30), some (.inl k)], [.inl k, .inr 41, .inl k, .inr 32], (mz_up (mz_up (mz_up σ1 33 (k).toNat (σ1 38 (k).toNat)) 34 (k).toNat (σ1 39 (k).toNat)) 31 (k).toNat (σ1 40 (k).toNat)))) rfl ?_
        refine wp_al (n := 31) hM rfl (by decide) rfl (by omega) (by omega) ?_
        show mz_Wp shM none 107 (55, [some (.inr 30), some (.inl k)], [.inl (σ1 41 (k).toNat), .inl k, .inr 32], (mz_up (mz_up (mz_up σ1 33 (k).toNat (σ1 38 (k).toNat)) 34 (k).toNat (σ1 39 (k).toNat)) 31 (k).toNat (σ1 40 (k).toNat))) _
        refine wp_as (n := 31) hM rfl rfl (by omega) (by omega) ?_
        refine wp_go 2 hM (fr' := (2, [some (.inr 30), some (.inl (k + 1))], [], (mz_up (mz_up (mz_up (mz_up σ1 33 (k).toNat (σ1 38 (k).toNat)) 34 (k).toNat (σ1 39 (k).toNat)) 31 (k).toNat (σ1 40 (k).toNat)) 32 (k).toNat (σ1 41 (k).toNat)))) rfl ?_
        exact ih2 (k + 1) (mz_up (mz_up (mz_up (mz_up σ1 33 (k).toNat (σ1 38 (k).toNat)) 34 (k).toNat (σ1 39 (k).toNat)) 31 (k).toNat (σ1 40 (k).toNat)) 32 (k).toNat (σ1 41 (k).toNat)) (by omega) (by omega) (by first | (exact B1_s hv2_2 hv2_0 rfl rfl rfl rfl) | fail) (by omega)
  exact loop2 33 0 σ (by omega) (by omega) (by first | (exact B1_0) | fail) (by omega)

set_option maxRecDepth 100000 in
set_option maxHeartbeats 4000000 in
theorem sp_X6_drops (l : List tr3) (σ : mz_G) (t : Int) (h0 : MT σ l) (h1 : 0 ≤ t) (h2 : t < (l.length : Int)) (h3 : (l.length : Int) ≤ 60) : mz_Cl shM 109 [.inr 30, .inl t] σ (fun r σ' => r = none ∧ MT σ' (drp l t) ∧ Fr σ σ') := by
  have hM : mz_meth[109]? = some mtX6_drops := rfl
  have hc4 := h0.1
  refine mz_Cl.of hM ?_
  show mz_Wp shM none 109 (0, [some (.inr 30), some (.inl t), none], [], σ) _
  refine wp_go 8 hM (fr' := (12, [some (.inr 30), some (.inl t), some (.inl 0)], [], (mz_up σ 30 3 ((σ 30 3) - 1)))) rfl ?_
  have loop12 : ∀ (fuel : Nat) (k : Int) (σ1 : mz_G), (0 ≤ k) → (k ≤ 3) → (DI σ σ1 t ((l.length : Int) - 1) k) → ((3 - k : Int) < fuel) → mz_Wp shM none 109 (12, [some (.inr 30), some (.inl t), some (.inl k)], [], σ1) (fun r σ' => r = none ∧ MT σ' (drp l t) ∧ Fr σ σ') := by
    intro fuel
    induction fuel with
    | zero =>
      intro k σ1 hv12_0 hv12_1 hv12_2 hf12
      exfalso
      omega
    | succ fuel ih12 =>
      intro k σ1 hv12_0 hv12_1 hv12_2 hf12
      have hm : σ1 30 3 = (l.length : Int) - 1 := hv12_2.2.1
      refine wp_go 2 hM (fr' := (14, [some (.inr 30), some (.inl t), some (.inl k)], [.inl 3, .inl k], σ1)) rfl ?_
      refine wp_ic (tgt := 46) hM rfl (by decide) (by omega) (by omega) (fun c14 => ?_) (fun c14 => ?_)
      · replace c14 := cmp_ge_t c14
        refine wp_retv hM rfl rfl ?_
        first | (exact ⟨rfl, DI_end h0 h1 h2 (by rw [show (3 : Int) = k from by omega]; exact hv12_2), hv12_2.2.2⟩) | fail
      · replace c14 := cmp_ge_f c14
        refine wp_go 15 hM (fr' := (38, [some (.inr 30), some (.inl t), some (.inl k)], [.inl ((3 * (σ1 30 3)) + k), .inr 35, .inl ((3 * t) + k), .inr 35], σ1)) rfl ?_
        refine wp_al (n := 180) hM rfl (by decide) rfl (by first | (rw [hm]; omega) | fail) (by first | (rw [hm]; omega) | fail) ?_
        refine wp_as (n := 180) hM rfl rfl (by omega) (by omega) ?_
        refine wp_go 2 hM (fr' := (12, [some (.inr 30), some (.inl t), some (.inl (k + 1))], [], (mz_up σ1 35 ((3 * t) + k).toNat (σ1 35 ((3 * (σ1 30 3)) + k).toNat)))) rfl ?_
        exact ih12 (k + 1) (mz_up σ1 35 ((3 * t) + k).toNat (σ1 35 ((3 * (σ1 30 3)) + k).toNat)) (by omega) (by omega) (by first | (exact DI_s hv12_2 h1 (by omega) hv12_0 (by rw [hm])) | fail) (by omega)
  exact loop12 5 0 (mz_up σ 30 3 ((σ 30 3) - 1)) (by omega) (by omega) (by first | (exact DI_0 (by rw [hc4])) | fail) (by omega)

set_option maxRecDepth 100000 in
set_option maxHeartbeats 4000000 in
theorem sp_X6_key (v : mz_G) (l : List tr3) (σ : mz_G) (t : Int) (h0 : MA σ v l) (h1 : Bs v l) (h2 : 0 ≤ t) (h3 : t < (l.length : Int)) : mz_Cl shM 116 [.inr 30, .inl t] σ (fun r σ' => r = some ((100 * (tg l t).1 + (tg l t).2.1) * 100 + (tg l t).2.2) ∧ σ' = σ) := by
  have hM : mz_meth[116]? = some mtX6_key := rfl
  obtain ⟨hR, hT, hLen⟩ := id h1
  obtain ⟨⟨hW0, hW1⟩, ⟨hH0, hH1⟩, ⟨hn0, hn1⟩, hpt⟩ := id hR
  obtain ⟨⟨⟨hc1, hc2, hc3⟩, hcp, hcv⟩, hc4, hct⟩ := id h0
  have hWH := WH_bd hR
  refine mz_Cl.of hM ?_
  show mz_Wp shM none 116 (0, [some (.inr 30), some (.inl t)], [], σ) _
  refine wp_go 4 hM (fr' := (5, [some (.inr 30), some (.inl t)], [.inl 0, .inl t, .inr 30, .inl 100], σ)) rfl ?_
  refine wp_calld (v := 0) (idx := 85) (j := 111) (N := mtX6_at) (as := [.inr 30, .inl t, .inl 0]) (rest := [.inl 100]) hM rfl (Or.inl ⟨rfl, rfl⟩) rfl (sp_X6_at_0 v l σ t (by first | (first | assumption | omega) | fail) (by first | (first | assumption | omega) | fail) (by first | (first | assumption | omega) | fail) (by first | (first | assumption | omega) | fail)) ?_
  show mz_Wp shM none 116 (8, [some (.inr 30), some (.inl t)], [.inl ((tg l t).1), .inl 100], σ) _
  refine wp_go 4 hM (fr' := (12, [some (.inr 30), some (.inl t)], [.inl 1, .inl t, .inr 30, .inl (100 * ((tg l t).1))], σ)) rfl ?_
  refine wp_calld (v := 0) (idx := 85) (j := 111) (N := mtX6_at) (as := [.inr 30, .inl t, .inl 1]) (rest := [.inl (100 * ((tg l t).1))]) hM rfl (Or.inl ⟨rfl, rfl⟩) rfl (sp_X6_at_1 v l σ t (by first | (first | assumption | omega) | fail) (by first | (first | assumption | omega) | fail) (by first | (first | assumption | omega) | fail) (by first | (first | assumption | omega) | fail)) ?_
  show mz_Wp shM none 116 (15, [some (.inr 30), some (.inl t)], [.inl ((tg l t).2.1), .inl (100 * ((tg l t).1))], σ) _
  refine wp_go 6 hM (fr' := (22, [some (.inr 30), some (.inl t)], [.inl 2, .inl t, .inr 30, .inl (((100 * ((tg l t).1)) + ((tg l t).2.1)) * 100)], σ)) rfl ?_
  refine wp_calld (v := 0) (idx := 85) (j := 111) (N := mtX6_at) (as := [.inr 30, .inl t, .inl 2]) (rest := [.inl (((100 * ((tg l t).1)) + ((tg l t).2.1)) * 100)]) hM rfl (Or.inl ⟨rfl, rfl⟩) rfl (sp_X6_at_2 v l σ t (by first | (first | assumption | omega) | fail) (by first | (first | assumption | omega) | fail) (by first | (first | assumption | omega) | fail) (by first | (first | assumption | omega) | fail)) ?_
  show mz_Wp shM none 116 (25, [some (.inr 30), some (.inl t)], [.inl ((tg l t).2.2), .inl (((100 * ((tg l t).1)) + ((tg l t).2.1)) * 100)], σ) _
  refine wp_go 1 hM (fr' := (26, [some (.inr 30), some (.inl t)], [.inl ((((100 * ((tg l t).1)) + ((tg l t).2.1)) * 100) + ((tg l t).2.2))], σ)) rfl ?_
  refine wp_ret hM rfl (rfl) ?_
  first | (exact ⟨rfl, rfl⟩) | fail

set_option maxRecDepth 100000 in
set_option maxHeartbeats 4000000 in
theorem sp_X6_changes (l : List tr3) (σ : mz_G) (a : Int) (b : Int) (h0 : MT σ l) (h1 : 0 ≤ a ∧ a < (l.length : Int)) (h2 : 0 ≤ b ∧ b < (l.length : Int)) (h3 : ¬ a = b) (h4 : (l.length : Int) ≤ 60) : mz_Cl shM 117 [.inr 30, .inl a, .inl b] σ (fun r σ' => r = none ∧ MT σ' (swp l a b) ∧ Fr σ σ') := by
  have hM : mz_meth[117]? = some mtX6_changes := rfl
  refine mz_Cl.of hM ?_
  show mz_Wp shM none 117 (0, [some (.inr 30), some (.inl a), some (.inl b), none, none], [], σ) _
  refine wp_go 2 hM (fr' := (2, [some (.inr 30), some (.inl a), some (.inl b), some (.inl 0), none], [], σ)) rfl ?_
  have loop2 : ∀ (fuel : Nat) (k : Int) (σ1 : mz_G) (d2_4 : Option mz_V), (0 ≤ k) → (k ≤ 3) → (WI σ σ1 a b k) → ((3 - k : Int) < fuel) → mz_Wp shM none 117 (2, [some (.inr 30), some (.inl a), some (.inl b), some (.inl k), d2_4], [], σ1) (fun r σ' => r = none ∧ MT σ' (swp l a b) ∧ Fr σ σ') := by
    intro fuel
    induction fuel with
    | zero =>
      intro k σ1 d2_4 hv2_0 hv2_1 hv2_2 hf2
      exfalso
      omega
    | succ fuel ih2 =>
      intro k σ1 d2_4 hv2_0 hv2_1 hv2_2 hf2
      refine wp_go 2 hM (fr' := (4, [some (.inr 30), some (.inl a), some (.inl b), some (.inl k), d2_4], [.inl 3, .inl k], σ1)) rfl ?_
      refine wp_ic (tgt := 57) hM rfl (by decide) (by omega) (by omega) (fun c4 => ?_) (fun c4 => ?_)
      · replace c4 := cmp_ge_t c4
        refine wp_retv hM rfl rfl ?_
        first | (exact ⟨rfl, WI_end h0 h1 h2 h3 (by rw [show (3 : Int) = k from by omega]; exact hv2_2), fun c i p q => hv2_2.2 c i p⟩) | fail
      · replace c4 := cmp_ge_f c4
        refine wp_go 7 hM (fr' := (16, [some (.inr 30), some (.inl a), some (.inl b), some (.inl k), d2_4], [.inl ((3 * a) + k), .inr 35], σ1)) rfl ?_
        refine wp_al (n := 180) hM rfl (by decide) rfl (by omega) (by omega) ?_
        refine wp_go 15 hM (fr' := (37, [some (.inr 30), some (.inl a), some (.inl b), some (.inl k), some (.inl (σ1 35 ((3 * a) + k).toNat))], [.inl ((3 * b) + k), .inr 35, .inl ((3 * a) + k), .inr 35], σ1)) rfl ?_
        refine wp_al (n := 180) hM rfl (by decide) rfl (by omega) (by omega) ?_
        refine wp_as (n := 180) hM rfl rfl (by omega) (by omega) ?_
        refine wp_go 8 hM (fr' := (50, [some (.inr 30), some (.inl a), some (.inl b), some (.inl k), some (.inl (σ1 35 ((3 * a) + k).toNat))], [.inl (σ1 35 ((3 * a) + k).toNat), .inl ((3 * b) + k), .inr 35], (mz_up σ1 35 ((3 * a) + k).toNat (σ1 35 ((3 * b) + k).toNat)))) rfl ?_
        refine wp_as (n := 180) hM rfl rfl (by omega) (by omega) ?_
        refine wp_go 2 hM (fr' := (2, [some (.inr 30), some (.inl a), some (.inl b), some (.inl (k + 1)), some (.inl (σ1 35 ((3 * a) + k).toNat))], [], (mz_up (mz_up σ1 35 ((3 * a) + k).toNat (σ1 35 ((3 * b) + k).toNat)) 35 ((3 * b) + k).toNat (σ1 35 ((3 * a) + k).toNat)))) rfl ?_
        exact ih2 (k + 1) (mz_up (mz_up σ1 35 ((3 * a) + k).toNat (σ1 35 ((3 * b) + k).toNat)) 35 ((3 * b) + k).toNat (σ1 35 ((3 * a) + k).toNat)) (some (.inl (σ1 35 ((3 * a) + k).toNat))) (by omega) (by omega) (by first | (exact WI_s hv2_2 h1.1 h2.1 h3 hv2_0 (by omega) rfl rfl) | fail) (by omega)
  exact loop2 5 0 σ (none) (by omega) (by omega) (by first | (exact WI_0) | fail) (by omega)

set_option maxRecDepth 100000 in
set_option maxHeartbeats 4000000 in
theorem sp_X6_sorts (v : mz_G) (l l' : List tr3) (σ : mz_G)  (h0 : MA σ v l) (h1 : Bs v l) (h2 : Dst l) (h3 : Sd l') (h4 : l'.Perm (l.map n3)) : mz_Cl shM 115 [.inr 30] σ (fun r σ' => r = none ∧ MA σ' v l' ∧ Fr σ σ') := by
  have hM : mz_meth[115]? = some mtX6_sorts := rfl
  obtain ⟨hR, hT, hLen⟩ := id h1
  obtain ⟨⟨hW0, hW1⟩, ⟨hH0, hH1⟩, ⟨hn0, hn1⟩, hpt⟩ := id hR
  obtain ⟨⟨⟨hc1, hc2, hc3⟩, hcp, hcv⟩, hc4, hct⟩ := id h0
  have hWH := WH_bd hR
  refine mz_Cl.of hM ?_
  show mz_Wp shM none 115 (0, [some (.inr 30), none, none], [], σ) _
  refine wp_go 2 hM (fr' := (2, [some (.inr 30), some (.inl 0), none], [], σ)) rfl ?_
  have loop2 : ∀ (fuel : Nat) (t : Int) (σ1 : mz_G) (d2_2 : Option mz_V), (0 ≤ t) → (t ≤ (l.length : Int)) → (MA σ1 v (nmT l t)) → (Fr σ σ1) → (((l.length : Int) - t : Int) < fuel) → mz_Wp shM none 115 (2, [some (.inr 30), some (.inl t), d2_2], [], σ1) (fun r σ' => r = none ∧ MA σ' v l' ∧ Fr σ σ') := by
    intro fuel
    induction fuel with
    | zero =>
      intro t σ1 d2_2 hv2_0 hv2_1 hv2_2 hv2_3 hf2
      exfalso
      omega
    | succ fuel ih2 =>
      intro t σ1 d2_2 hv2_0 hv2_1 hv2_2 hv2_3 hf2
      have hn1 : σ1 30 3 = (l.length : Int) := by rw [hv2_2.2.1, nmT_len]
      refine wp_go 3 hM (fr' := (7, [some (.inr 30), some (.inl t), d2_2], [.inl (σ1 30 3), .inl t], σ1)) rfl ?_
      refine wp_ic (tgt := 97) hM rfl (by decide) (by omega) (by first | (rw [hn1]; omega) | fail) (fun c7 => ?_) (fun c7 => ?_)
      · replace c7 := cmp_ge_t c7
        first | (have htl : t = (l.length : Int) := by omega) | skip
        first | (have hTn : Rt (v 0 2) (l.map n3) := by rw [← nmT_all (l := l) htl]; exact nmT_Rt hT) | skip
        first | (have hSI : SI v l σ σ1 1 := ⟨nmT l t, hv2_2, by rw [nmT_all htl], SO_1, hv2_3⟩) | skip
        refine wp_go 2 hM (fr' := (99, [some (.inr 30), some (.inl 1), d2_2], [], σ1)) rfl ?_
        have loop99 : ∀ (fuel : Nat) (i : Int) (σ3 : mz_G) (d99_2 : Option mz_V), (1 ≤ i) → (i ≤ (l.length : Int) + 1) → (SI v l σ σ3 i) → (((l.length : Int) + 2 - i : Int) < fuel) → mz_Wp shM none 115 (99, [some (.inr 30), some (.inl i), d99_2], [], σ3) (fun r σ' => r = none ∧ MA σ' v l' ∧ Fr σ σ') := by
          intro fuel
          induction fuel with
          | zero =>
            intro i σ3 d99_2 hv99_0 hv99_1 hv99_2 hf99
            exfalso
            omega
          | succ fuel ih99 =>
            intro i σ3 d99_2 hv99_0 hv99_1 hv99_2 hf99
            obtain ⟨L, hA3, hp3, hs3, hf3⟩ := hv99_2
            have hl3 : L.length = l.length := by rw [hp3.length_eq, List.length_map]
            have hn3 : σ3 30 3 = (l.length : Int) := by rw [hA3.2.1, hl3]
            refine wp_go 3 hM (fr' := (104, [some (.inr 30), some (.inl i), d99_2], [.inl (σ3 30 3), .inl i], σ3)) rfl ?_
            refine wp_ic (tgt := 148) hM rfl (by decide) (by omega) (by first | (rw [hn3]; omega) | fail) (fun c104 => ?_) (fun c104 => ?_)
            · replace c104 := cmp_ge_t c104
              refine wp_retv hM rfl rfl ?_
              have hso : Sd L := SO_Sd (fun a b q0 q1 q2 => hs3 a b q0 q1 (by omega))
              have heq : L = l' := sd_eq (fun x hx => by have := perm_Rt hTn hp3 x hx; omega) hso h3 (hp3.trans h4.symm)
              rw [← heq]
              exact ⟨rfl, hA3, hf3⟩
            · replace c104 := cmp_ge_f c104
              first | (have hiL : i < (l.length : Int) := by omega) | skip
              refine wp_go 2 hM (fr' := (109, [some (.inr 30), some (.inl i), some (.inl i)], [], σ3)) rfl ?_
              have loop109 : ∀ (fuel : Nat) (k : Int) (σ4 : mz_G), (0 ≤ k) → (k ≤ i) → (SJ2 v l σ σ4 i k) → ((k : Int) < fuel) → mz_Wp shM none 115 (109, [some (.inr 30), some (.inl i), some (.inl k)], [], σ4) (fun r σ' => r = none ∧ MA σ' v l' ∧ Fr σ σ') := by
                intro fuel
                induction fuel with
                | zero =>
                  intro k σ4 hv109_0 hv109_1 hv109_2 hf109
                  exfalso
                  omega
                | succ fuel ih109 =>
                  intro k σ4 hv109_0 hv109_1 hv109_2 hf109
                  obtain ⟨L4, hA4, hp4, hs4, hf4⟩ := hv109_2
                  have hl4 : L4.length = l.length := by rw [hp4.length_eq, List.length_map]
                  have hT4 : Rt (v 0 2) L4 := perm_Rt hTn hp4
                  have hB4 : Bs v L4 := ⟨hR, hT4, by omega⟩
                  refine wp_go 1 hM (fr' := (110, [some (.inr 30), some (.inl i), some (.inl k)], [.inl k], σ4)) rfl ?_
                  refine wp_if (tgt := 142) hM rfl (by decide) (by omega) (fun c110 => ?_) (fun c110 => ?_)
                  · replace c110 := cmp_le_t c110
                    refine wp_go 2 hM (fr' := (99, [some (.inr 30), some (.inl (i + 1)), some (.inl k)], [], σ4)) rfl ?_
                    exact ih99 (i + 1) σ4 (some (.inl k)) (by omega) (by omega) (by first | (exact ⟨L4, hA4, hp4, SK_end hs4 (by omega) (by omega) (by first | exact Or.inl (by omega) | exact Or.inr (by omega)), hf4⟩) | fail) (by omega)
                  · replace c110 := cmp_le_f c110
                    first | (have hr1 := Rt_at hT4 (t := k) (by omega) (by omega)) | skip
                    first | (have hr2 := Rt_at hT4 (t := k - 1) (by omega) (by omega)) | skip
                    first | (have hkp := key_pk (x := tg L4 k) (y := tg L4 (k - 1)) (by omega) (by omega)) | skip
                    refine wp_go 2 hM (fr' := (115, [some (.inr 30), some (.inl i), some (.inl k)], [.inl k, .inr 30], σ4)) rfl ?_
                    refine wp_calld (v := 0) (idx := 96) (j := 116) (N := mtX6_key) (as := [.inr 30, .inl k]) (rest := []) hM rfl (Or.inl ⟨rfl, rfl⟩) rfl (sp_X6_key v L4 σ4 k (by first | (first | assumption | omega) | fail) (by first | (first | assumption | omega) | fail) (by first | (first | assumption | omega) | fail) (by first | (first | assumption | omega) | fail)) ?_
                    show mz_Wp shM none 115 (118, [some (.inr 30), some (.inl i), some (.inl k)], [.inl ((100 * (tg L4 k).1 + (tg L4 k).2.1) * 100 + (tg L4 k).2.2)], σ4) _
                    refine wp_go 4 hM (fr' := (122, [some (.inr 30), some (.inl i), some (.inl k)], [.inl (k - 1), .inr 30, .inl ((100 * (tg L4 k).1 + (tg L4 k).2.1) * 100 + (tg L4 k).2.2)], σ4)) rfl ?_
                    refine wp_calld (v := 0) (idx := 96) (j := 116) (N := mtX6_key) (as := [.inr 30, .inl (k - 1)]) (rest := [.inl ((100 * (tg L4 k).1 + (tg L4 k).2.1) * 100 + (tg L4 k).2.2)]) hM rfl (Or.inl ⟨rfl, rfl⟩) rfl (sp_X6_key v L4 σ4 (k - 1) (by first | (first | assumption | omega) | fail) (by first | (first | assumption | omega) | fail) (by first | (first | assumption | omega) | fail) (by first | (first | assumption | omega) | fail)) ?_
                    show mz_Wp shM none 115 (125, [some (.inr 30), some (.inl i), some (.inl k)], [.inl ((100 * (tg L4 (k - 1)).1 + (tg L4 (k - 1)).2.1) * 100 + (tg L4 (k - 1)).2.2), .inl ((100 * (tg L4 k).1 + (tg L4 k).2.1) * 100 + (tg L4 k).2.2)], σ4) _
                    refine wp_ic (tgt := 142) hM rfl (by decide) (by omega) (by omega) (fun c125 => ?_) (fun c125 => ?_)
                    · replace c125 := cmp_ge_t c125
                      refine wp_go 2 hM (fr' := (99, [some (.inr 30), some (.inl (i + 1)), some (.inl k)], [], σ4)) rfl ?_
                      exact ih99 (i + 1) σ4 (some (.inl k)) (by omega) (by omega) (by first | (exact ⟨L4, hA4, hp4, SK_end hs4 (by omega) (by omega) (by first | exact Or.inl (by omega) | exact Or.inr (by omega)), hf4⟩) | fail) (by omega)
                    · replace c125 := cmp_ge_f c125
                      refine wp_go 5 hM (fr' := (133, [some (.inr 30), some (.inl i), some (.inl k)], [.inl (k - 1), .inl k, .inr 30], σ4)) rfl ?_
                      refine wp_call (v := 0) (idx := 100) (j := 117) (N := mtX6_changes) (as := [.inr 30, .inl k, .inl (k - 1)]) (rest := []) hM rfl (Or.inl ⟨rfl, rfl⟩) rfl (sp_X6_changes L4 σ4 k (k - 1) (by first | (first | exact hA4.2 | omega) | fail) (by first | (first | exact hA4.2 | omega) | fail) (by first | (first | exact hA4.2 | omega) | fail) (by first | (first | exact hA4.2 | omega) | fail) (by first | (first | exact hA4.2 | omega) | fail)) ?_
                      rintro r0 σ_133 ⟨rfl, ht_133, hf_133⟩
                      show mz_Wp shM none 115 (136, [some (.inr 30), some (.inl i), some (.inl k)], [], σ_133) _
                      refine wp_go 2 hM (fr' := (109, [some (.inr 30), some (.inl i), some (.inl (k + (-1)))], [], σ_133)) rfl ?_
                      exact ih109 (k + (-1)) σ_133 (by omega) (by omega) (by first | (exact ⟨_, MA_Fr hA4 hf_133 ht_133, (swp_perm (by omega) (by omega) (by omega)).symm.trans hp4, SK_s hs4 (by omega) (by omega) (by omega) (hkp.mp (by omega)), hf4.tr hf_133⟩) | fail) (by omega)
              exact loop109 65 i σ3 (by omega) (by omega) (by first | (exact ⟨L, hA3, hp3, SK_0 hs3, hf3⟩) | fail) (by omega)
        exact loop99 65 1 σ1 (d2_2) (by omega) (by omega) (by first | (exact hSI) | fail) (by omega)
      · replace c7 := cmp_ge_f c7
        first | (have htt := Rt_at hT hv2_0 (show t < (l.length : Int) by omega)) | skip
        first | (have hdd := h2 _ (tg_mem hv2_0 (show t < (l.length : Int) by omega))) | skip
        first | (have hrow : rw3 σ1 t = tg l t := by have g := MT_at hv2_2.2 hv2_0 (show t < ((nmT l t).length : Int) by rw [nmT_len]; omega); rw [nmT_get hv2_0 (by omega)] at g; unfold rw3; rw [g.1, g.2.1, g.2.2]) | skip
        have loop10 : ∀ (fuel : Nat)  (σ2 : mz_G) (d10_2 : Option mz_V), (MA σ2 v ((nmT l t).set t.toNat (rw3 σ2 t))) → (n3 (rw3 σ2 t) = n3 (tg l t)) → (¬ (rw3 σ2 t).1 = (rw3 σ2 t).2.1 ∧ ¬ (rw3 σ2 t).2.1 = (rw3 σ2 t).2.2 ∧ ¬ (rw3 σ2 t).2.2 = (rw3 σ2 t).1) → ((0 ≤ (rw3 σ2 t).1 ∧ (rw3 σ2 t).1 < v 0 2) ∧ (0 ≤ (rw3 σ2 t).2.1 ∧ (rw3 σ2 t).2.1 < v 0 2) ∧ (0 ≤ (rw3 σ2 t).2.2 ∧ (rw3 σ2 t).2.2 < v 0 2)) → (Fr σ σ2) → ((rk (rw3 σ2 t).1 (rw3 σ2 t).2.1 (rw3 σ2 t).2.2 : Int) < fuel) → mz_Wp shM none 115 (10, [some (.inr 30), some (.inl t), d10_2], [], σ2) (fun r σ' => r = none ∧ MA σ' v l' ∧ Fr σ σ') := by
          intro fuel
          induction fuel with
          | zero =>
            intro  σ2 d10_2 hv10_0 hv10_1 hv10_2 hv10_3 hv10_4 hf10
            exfalso
            have hrk := rk_bd (a := (rw3 σ2 t).1) (b := (rw3 σ2 t).2.1) (c := (rw3 σ2 t).2.2)
            omega
          | succ fuel ih10 =>
            intro  σ2 d10_2 hv10_0 hv10_1 hv10_2 hv10_3 hv10_4 hf10
            have hlen2 : ((((nmT l t).set t.toNat (rw3 σ2 t)).length : Nat) : Int) = (l.length : Int) := by rw [List.length_set, nmT_len]
            have hB2 : Bs v ((nmT l t).set t.toNat (rw3 σ2 t)) := ⟨hR, set_Rt (nmT_Rt hT) hv10_3, by omega⟩
            have hg2 : tg ((nmT l t).set t.toNat (rw3 σ2 t)) t = (rw3 σ2 t) := set_tg hv2_0 (by rw [nmT_len]; omega)
            have hrk := rk_bd (a := (rw3 σ2 t).1) (b := (rw3 σ2 t).2.1) (c := (rw3 σ2 t).2.2)
            have hnn := hR.2.2.1
            refine wp_go 3 hM (fr' := (13, [some (.inr 30), some (.inl t), d10_2], [.inl 0, .inl t, .inr 30], σ2)) rfl ?_
            refine wp_calld (v := 0) (idx := 85) (j := 111) (N := mtX6_at) (as := [.inr 30, .inl t, .inl 0]) (rest := []) hM rfl (Or.inl ⟨rfl, rfl⟩) rfl (sp_X6_at_0 v ((nmT l t).set t.toNat (rw3 σ2 t)) σ2 t (by first | (first | assumption | omega) | fail) (by first | (first | assumption | omega) | fail) (by first | (first | assumption | omega) | fail) (by first | (first | assumption | omega) | fail)) ?_
            show mz_Wp shM none 115 (16, [some (.inr 30), some (.inl t), d10_2], [.inl ((tg ((nmT l t).set t.toNat (rw3 σ2 t)) t).1)], σ2) _
            first | (rw [hg2]) | skip
            refine wp_go 3 hM (fr' := (19, [some (.inr 30), some (.inl t), d10_2], [.inl 1, .inl t, .inr 30, .inl ((rw3 σ2 t).1)], σ2)) rfl ?_
            refine wp_calld (v := 0) (idx := 85) (j := 111) (N := mtX6_at) (as := [.inr 30, .inl t, .inl 1]) (rest := [.inl ((rw3 σ2 t).1)]) hM rfl (Or.inl ⟨rfl, rfl⟩) rfl (sp_X6_at_1 v ((nmT l t).set t.toNat (rw3 σ2 t)) σ2 t (by first | (first | assumption | omega) | fail) (by first | (first | assumption | omega) | fail) (by first | (first | assumption | omega) | fail) (by first | (first | assumption | omega) | fail)) ?_
            show mz_Wp shM none 115 (22, [some (.inr 30), some (.inl t), d10_2], [.inl ((tg ((nmT l t).set t.toNat (rw3 σ2 t)) t).2.1), .inl ((rw3 σ2 t).1)], σ2) _
            first | (rw [hg2]) | skip
            refine wp_ic (tgt := 40) hM rfl (by decide) (by omega) (by omega) (fun c22 => ?_) (fun c22 => ?_)
            · replace c22 := cmp_gt_t c22
              refine wp_go 3 hM (fr' := (43, [some (.inr 30), some (.inl t), d10_2], [.inl 0, .inl t, .inr 30], σ2)) rfl ?_
              refine wp_calld (v := 0) (idx := 85) (j := 111) (N := mtX6_at) (as := [.inr 30, .inl t, .inl 0]) (rest := []) hM rfl (Or.inl ⟨rfl, rfl⟩) rfl (sp_X6_at_0 v ((nmT l t).set t.toNat (rw3 σ2 t)) σ2 t (by first | (first | assumption | omega) | fail) (by first | (first | assumption | omega) | fail) (by first | (first | assumption | omega) | fail) (by first | (first | assumption | omega) | fail)) ?_
              show mz_Wp shM none 115 (46, [some (.inr 30), some (.inl t), d10_2], [.inl ((tg ((nmT l t).set t.toNat (rw3 σ2 t)) t).1)], σ2) _
              first | (rw [hg2]) | skip
              refine wp_go 9 hM (fr' := (57, [some (.inr 30), some (.inl t), some (.inl ((rw3 σ2 t).1))], [.inl 1, .inl t, .inr 30, .inl (3 * t), .inr 35], σ2)) rfl ?_
              refine wp_calld (v := 0) (idx := 85) (j := 111) (N := mtX6_at) (as := [.inr 30, .inl t, .inl 1]) (rest := [.inl (3 * t), .inr 35]) hM rfl (Or.inl ⟨rfl, rfl⟩) rfl (sp_X6_at_1 v ((nmT l t).set t.toNat (rw3 σ2 t)) σ2 t (by first | (first | assumption | omega) | fail) (by first | (first | assumption | omega) | fail) (by first | (first | assumption | omega) | fail) (by first | (first | assumption | omega) | fail)) ?_
              show mz_Wp shM none 115 (60, [some (.inr 30), some (.inl t), some (.inl ((rw3 σ2 t).1))], [.inl ((tg ((nmT l t).set t.toNat (rw3 σ2 t)) t).2.1), .inl (3 * t), .inr 35], σ2) _
              first | (rw [hg2]) | skip
              refine wp_as (n := 180) hM rfl rfl (by omega) (by omega) ?_
              have hA7 : MA (mz_up σ2 35 (3 * t).toNat (rw3 σ2 t).2.1) v (((nmT l t).set t.toNat (rw3 σ2 t)).set t.toNat ((rw3 σ2 t).2.1, (rw3 σ2 t).2.1, (rw3 σ2 t).2.2)) := by
                have q := MA_row1 (a := (rw3 σ2 t).2.1) hv10_0 hv2_0 (show t < ((((nmT l t).set t.toNat (rw3 σ2 t)).length : Nat) : Int) by omega)
                rw [hg2] at q
                exact q
              first | (have hB7 : Bs v (((nmT l t).set t.toNat (rw3 σ2 t)).set t.toNat ((rw3 σ2 t).2.1, (rw3 σ2 t).2.1, (rw3 σ2 t).2.2)) := ⟨hR, set_Rt hB2.2.1 ⟨hv10_3.2.1, hv10_3.2.1, hv10_3.2.2⟩, by rw [List.length_set]; omega⟩) | skip
              first | (have hg7 : tg (((nmT l t).set t.toNat (rw3 σ2 t)).set t.toNat ((rw3 σ2 t).2.1, (rw3 σ2 t).2.1, (rw3 σ2 t).2.2)) t = ((rw3 σ2 t).2.1, (rw3 σ2 t).2.1, (rw3 σ2 t).2.2) := set_tg hv2_0 (by omega)) | skip
              first | (have hlen7 : (((((nmT l t).set t.toNat (rw3 σ2 t)).set t.toNat ((rw3 σ2 t).2.1, (rw3 σ2 t).2.1, (rw3 σ2 t).2.2)).length : Nat) : Int) = (l.length : Int) := by rw [List.length_set]; omega) | skip
              refine wp_go 10 hM (fr' := (73, [some (.inr 30), some (.inl t), some (.inl ((rw3 σ2 t).1))], [.inl 2, .inl t, .inr 30, .inl ((3 * t) + 1), .inr 35], (mz_up σ2 35 (3 * t).toNat ((rw3 σ2 t).2.1)))) rfl ?_
              refine wp_calld (v := 0) (idx := 85) (j := 111) (N := mtX6_at) (as := [.inr 30, .inl t, .inl 2]) (rest := [.inl ((3 * t) + 1), .inr 35]) hM rfl (Or.inl ⟨rfl, rfl⟩) rfl (sp_X6_at_2 v (((nmT l t).set t.toNat (rw3 σ2 t)).set t.toNat ((rw3 σ2 t).2.1, (rw3 σ2 t).2.1, (rw3 σ2 t).2.2)) (mz_up σ2 35 (3 * t).toNat ((rw3 σ2 t).2.1)) t (by first | (first | assumption | omega) | fail) (by first | (first | assumption | omega) | fail) (by first | (first | assumption | omega) | fail) (by first | (first | assumption | omega) | fail)) ?_
              show mz_Wp shM none 115 (76, [some (.inr 30), some (.inl t), some (.inl ((rw3 σ2 t).1))], [.inl ((tg (((nmT l t).set t.toNat (rw3 σ2 t)).set t.toNat ((rw3 σ2 t).2.1, (rw3 σ2 t).2.1, (rw3 σ2 t).2.2)) t).2.2), .inl ((3 * t) + 1), .inr 35], (mz_up σ2 35 (3 * t).toNat ((rw3 σ2 t).2.1))) _
              first | (rw [hg7]) | skip
              refine wp_as (n := 180) hM rfl rfl (by omega) (by omega) ?_
              refine wp_go 8 hM (fr' := (87, [some (.inr 30), some (.inl t), some (.inl ((rw3 σ2 t).1))], [.inl ((rw3 σ2 t).1), .inl ((3 * t) + 2), .inr 35], (mz_up (mz_up σ2 35 (3 * t).toNat ((rw3 σ2 t).2.1)) 35 ((3 * t) + 1).toNat ((rw3 σ2 t).2.2)))) rfl ?_
              refine wp_as (n := 180) hM rfl rfl (by omega) (by omega) ?_
              refine wp_go 1 hM (fr' := (10, [some (.inr 30), some (.inl t), some (.inl ((rw3 σ2 t).1))], [], (mz_up (mz_up (mz_up σ2 35 (3 * t).toNat ((rw3 σ2 t).2.1)) 35 ((3 * t) + 1).toNat ((rw3 σ2 t).2.2)) 35 ((3 * t) + 2).toNat ((rw3 σ2 t).1)))) rfl ?_
              exact ih10 (mz_up (mz_up (mz_up σ2 35 (3 * t).toNat ((rw3 σ2 t).2.1)) 35 ((3 * t) + 1).toNat ((rw3 σ2 t).2.2)) 35 ((3 * t) + 2).toNat ((rw3 σ2 t).1)) (some (.inl ((rw3 σ2 t).1))) (by first | (rw [rw3_up hv2_0]; have q := MA_row3 (a := (rw3 σ2 t).2.1) (b := (rw3 σ2 t).2.2) (c := (rw3 σ2 t).1) hv10_0 hv2_0 (show t < ((((nmT l t).set t.toNat (rw3 σ2 t)).length : Nat) : Int) by omega); rw [List.set_set] at q; exact q) | fail) (by first | (rw [rw3_up hv2_0]; exact (n3_rot hv10_2).trans hv10_1) | fail) (by first | (rw [rw3_up hv2_0]; exact ⟨hv10_2.2.1, hv10_2.2.2, hv10_2.1⟩) | fail) (by first | (rw [rw3_up hv2_0]; exact ⟨hv10_3.2.1, hv10_3.2.2, hv10_3.1⟩) | fail) (by first | (exact Fr_3 hv10_4) | fail) (by first | (rw [rw3_up hv2_0]; have q := rk_s hv10_2 (by omega); show rk (rw3 σ2 t).2.1 (rw3 σ2 t).2.2 (rw3 σ2 t).1 < _; omega) | fail)
            · replace c22 := cmp_gt_f c22
              refine wp_go 3 hM (fr' := (28, [some (.inr 30), some (.inl t), d10_2], [.inl 0, .inl t, .inr 30], σ2)) rfl ?_
              refine wp_calld (v := 0) (idx := 85) (j := 111) (N := mtX6_at) (as := [.inr 30, .inl t, .inl 0]) (rest := []) hM rfl (Or.inl ⟨rfl, rfl⟩) rfl (sp_X6_at_0 v ((nmT l t).set t.toNat (rw3 σ2 t)) σ2 t (by first | (first | assumption | omega) | fail) (by first | (first | assumption | omega) | fail) (by first | (first | assumption | omega) | fail) (by first | (first | assumption | omega) | fail)) ?_
              show mz_Wp shM none 115 (31, [some (.inr 30), some (.inl t), d10_2], [.inl ((tg ((nmT l t).set t.toNat (rw3 σ2 t)) t).1)], σ2) _
              first | (rw [hg2]) | skip
              refine wp_go 3 hM (fr' := (34, [some (.inr 30), some (.inl t), d10_2], [.inl 2, .inl t, .inr 30, .inl ((rw3 σ2 t).1)], σ2)) rfl ?_
              refine wp_calld (v := 0) (idx := 85) (j := 111) (N := mtX6_at) (as := [.inr 30, .inl t, .inl 2]) (rest := [.inl ((rw3 σ2 t).1)]) hM rfl (Or.inl ⟨rfl, rfl⟩) rfl (sp_X6_at_2 v ((nmT l t).set t.toNat (rw3 σ2 t)) σ2 t (by first | (first | assumption | omega) | fail) (by first | (first | assumption | omega) | fail) (by first | (first | assumption | omega) | fail) (by first | (first | assumption | omega) | fail)) ?_
              show mz_Wp shM none 115 (37, [some (.inr 30), some (.inl t), d10_2], [.inl ((tg ((nmT l t).set t.toNat (rw3 σ2 t)) t).2.2), .inl ((rw3 σ2 t).1)], σ2) _
              first | (rw [hg2]) | skip
              refine wp_ic (tgt := 91) hM rfl (by decide) (by omega) (by omega) (fun c37 => ?_) (fun c37 => ?_)
              · replace c37 := cmp_le_t c37
                refine wp_go 2 hM (fr' := (2, [some (.inr 30), some (.inl (t + 1)), d10_2], [], σ2)) rfl ?_
                exact ih2 (t + 1) σ2 (d10_2) (by omega) (by omega) (by first | (have q := n3_le (x := (rw3 σ2 t)) (by omega); have z := nmT_s (l := l) hv2_0 (show t < (l.length : Int) by omega); rw [← hv10_1, q] at z; rw [← z]; exact hv10_0) | fail) (by first | (exact hv10_4) | fail) (by omega)
              · replace c37 := cmp_le_f c37
                refine wp_go 3 hM (fr' := (43, [some (.inr 30), some (.inl t), d10_2], [.inl 0, .inl t, .inr 30], σ2)) rfl ?_
                refine wp_calld (v := 0) (idx := 85) (j := 111) (N := mtX6_at) (as := [.inr 30, .inl t, .inl 0]) (rest := []) hM rfl (Or.inl ⟨rfl, rfl⟩) rfl (sp_X6_at_0 v ((nmT l t).set t.toNat (rw3 σ2 t)) σ2 t (by first | (first | assumption | omega) | fail) (by first | (first | assumption | omega) | fail) (by first | (first | assumption | omega) | fail) (by first | (first | assumption | omega) | fail)) ?_
                show mz_Wp shM none 115 (46, [some (.inr 30), some (.inl t), d10_2], [.inl ((tg ((nmT l t).set t.toNat (rw3 σ2 t)) t).1)], σ2) _
                first | (rw [hg2]) | skip
                refine wp_go 9 hM (fr' := (57, [some (.inr 30), some (.inl t), some (.inl ((rw3 σ2 t).1))], [.inl 1, .inl t, .inr 30, .inl (3 * t), .inr 35], σ2)) rfl ?_
                refine wp_calld (v := 0) (idx := 85) (j := 111) (N := mtX6_at) (as := [.inr 30, .inl t, .inl 1]) (rest := [.inl (3 * t), .inr 35]) hM rfl (Or.inl ⟨rfl, rfl⟩) rfl (sp_X6_at_1 v ((nmT l t).set t.toNat (rw3 σ2 t)) σ2 t (by first | (first | assumption | omega) | fail) (by first | (first | assumption | omega) | fail) (by first | (first | assumption | omega) | fail) (by first | (first | assumption | omega) | fail)) ?_
                show mz_Wp shM none 115 (60, [some (.inr 30), some (.inl t), some (.inl ((rw3 σ2 t).1))], [.inl ((tg ((nmT l t).set t.toNat (rw3 σ2 t)) t).2.1), .inl (3 * t), .inr 35], σ2) _
                first | (rw [hg2]) | skip
                refine wp_as (n := 180) hM rfl rfl (by omega) (by omega) ?_
                have hA7 : MA (mz_up σ2 35 (3 * t).toNat (rw3 σ2 t).2.1) v (((nmT l t).set t.toNat (rw3 σ2 t)).set t.toNat ((rw3 σ2 t).2.1, (rw3 σ2 t).2.1, (rw3 σ2 t).2.2)) := by
                  have q := MA_row1 (a := (rw3 σ2 t).2.1) hv10_0 hv2_0 (show t < ((((nmT l t).set t.toNat (rw3 σ2 t)).length : Nat) : Int) by omega)
                  rw [hg2] at q
                  exact q
                first | (have hB7 : Bs v (((nmT l t).set t.toNat (rw3 σ2 t)).set t.toNat ((rw3 σ2 t).2.1, (rw3 σ2 t).2.1, (rw3 σ2 t).2.2)) := ⟨hR, set_Rt hB2.2.1 ⟨hv10_3.2.1, hv10_3.2.1, hv10_3.2.2⟩, by rw [List.length_set]; omega⟩) | skip
                first | (have hg7 : tg (((nmT l t).set t.toNat (rw3 σ2 t)).set t.toNat ((rw3 σ2 t).2.1, (rw3 σ2 t).2.1, (rw3 σ2 t).2.2)) t = ((rw3 σ2 t).2.1, (rw3 σ2 t).2.1, (rw3 σ2 t).2.2) := set_tg hv2_0 (by omega)) | skip
                first | (have hlen7 : (((((nmT l t).set t.toNat (rw3 σ2 t)).set t.toNat ((rw3 σ2 t).2.1, (rw3 σ2 t).2.1, (rw3 σ2 t).2.2)).length : Nat) : Int) = (l.length : Int) := by rw [List.length_set]; omega) | skip
                refine wp_go 10 hM (fr' := (73, [some (.inr 30), some (.inl t), some (.inl ((rw3 σ2 t).1))], [.inl 2, .inl t, .inr 30, .inl ((3 * t) + 1), .inr 35], (mz_up σ2 35 (3 * t).toNat ((rw3 σ2 t).2.1)))) rfl ?_
                refine wp_calld (v := 0) (idx := 85) (j := 111) (N := mtX6_at) (as := [.inr 30, .inl t, .inl 2]) (rest := [.inl ((3 * t) + 1), .inr 35]) hM rfl (Or.inl ⟨rfl, rfl⟩) rfl (sp_X6_at_2 v (((nmT l t).set t.toNat (rw3 σ2 t)).set t.toNat ((rw3 σ2 t).2.1, (rw3 σ2 t).2.1, (rw3 σ2 t).2.2)) (mz_up σ2 35 (3 * t).toNat ((rw3 σ2 t).2.1)) t (by first | (first | assumption | omega) | fail) (by first | (first | assumption | omega) | fail) (by first | (first | assumption | omega) | fail) (by first | (first | assumption | omega) | fail)) ?_
                show mz_Wp shM none 115 (76, [some (.inr 30), some (.inl t), some (.inl ((rw3 σ2 t).1))], [.inl ((tg (((nmT l t).set t.toNat (rw3 σ2 t)).set t.toNat ((rw3 σ2 t).2.1, (rw3 σ2 t).2.1, (rw3 σ2 t).2.2)) t).2.2), .inl ((3 * t) + 1), .inr 35], (mz_up σ2 35 (3 * t).toNat ((rw3 σ2 t).2.1))) _
                first | (rw [hg7]) | skip
                refine wp_as (n := 180) hM rfl rfl (by omega) (by omega) ?_
                refine wp_go 8 hM (fr' := (87, [some (.inr 30), some (.inl t), some (.inl ((rw3 σ2 t).1))], [.inl ((rw3 σ2 t).1), .inl ((3 * t) + 2), .inr 35], (mz_up (mz_up σ2 35 (3 * t).toNat ((rw3 σ2 t).2.1)) 35 ((3 * t) + 1).toNat ((rw3 σ2 t).2.2)))) rfl ?_
                refine wp_as (n := 180) hM rfl rfl (by omega) (by omega) ?_
                refine wp_go 1 hM (fr' := (10, [some (.inr 30), some (.inl t), some (.inl ((rw3 σ2 t).1))], [], (mz_up (mz_up (mz_up σ2 35 (3 * t).toNat ((rw3 σ2 t).2.1)) 35 ((3 * t) + 1).toNat ((rw3 σ2 t).2.2)) 35 ((3 * t) + 2).toNat ((rw3 σ2 t).1)))) rfl ?_
                exact ih10 (mz_up (mz_up (mz_up σ2 35 (3 * t).toNat ((rw3 σ2 t).2.1)) 35 ((3 * t) + 1).toNat ((rw3 σ2 t).2.2)) 35 ((3 * t) + 2).toNat ((rw3 σ2 t).1)) (some (.inl ((rw3 σ2 t).1))) (by first | (rw [rw3_up hv2_0]; have q := MA_row3 (a := (rw3 σ2 t).2.1) (b := (rw3 σ2 t).2.2) (c := (rw3 σ2 t).1) hv10_0 hv2_0 (show t < ((((nmT l t).set t.toNat (rw3 σ2 t)).length : Nat) : Int) by omega); rw [List.set_set] at q; exact q) | fail) (by first | (rw [rw3_up hv2_0]; exact (n3_rot hv10_2).trans hv10_1) | fail) (by first | (rw [rw3_up hv2_0]; exact ⟨hv10_2.2.1, hv10_2.2.2, hv10_2.1⟩) | fail) (by first | (rw [rw3_up hv2_0]; exact ⟨hv10_3.2.1, hv10_3.2.2, hv10_3.1⟩) | fail) (by first | (exact Fr_3 hv10_4) | fail) (by first | (rw [rw3_up hv2_0]; have q := rk_s hv10_2 (by omega); show rk (rw3 σ2 t).2.1 (rw3 σ2 t).2.2 (rw3 σ2 t).1 < _; omega) | fail)
        exact loop10 4 σ1 (d2_2) (by first | (rw [hrow, show (nmT l t).set t.toNat (tg l t) = nmT l t from by have := set_self (l := nmT l t) hv2_0 (by rw [nmT_len]; omega); rw [nmT_get hv2_0 (by omega)] at this; exact this]; exact hv2_2) | fail) (by first | (rw [hrow]) | fail) (by first | (rw [hrow]; exact hdd) | fail) (by first | (rw [hrow]; exact htt) | fail) (by first | (exact hv2_3) | fail) (by first | (have := rk_bd (a := (rw3 σ1 t).1) (b := (rw3 σ1 t).2.1) (c := (rw3 σ1 t).2.2); omega) | fail)
  exact loop2 65 0 σ (none) (by omega) (by omega) (by first | (rw [nmT_0]; exact h0) | fail) (by first | (exact Fr.rf) | fail) (by omega)
