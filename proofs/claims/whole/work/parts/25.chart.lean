set_option maxRecDepth 100000 in
set_option maxHeartbeats 4000000 in
theorem sp_X3_measure_8_w (v : mz_G) (l : List tr3) (σ : mz_G) (t : Int) (x : Int) (y : Int) (h0 : CA σ v l) (h1 : Bs v l) (h2 : 0 ≤ t) (h3 : t < (l.length : Int)) (h4 : dot v x y) : mz_Cl shA 48 [.inr 3, .inr 1, .inr 8, .inl t, .inl x, .inl y] σ (fun r σ' => r = none ∧ MS σ' v l 0 t x y ∧ Fs σ σ') := by
  refine (sp_X3_measure_8 v l σ t x y h0 h1 h2 h3 h4).mono (fun r σ' h => ⟨h.1, ?_, ?_⟩)
  · rw [h.2]
    refine ⟨by simp [mz_up], by simp [mz_up], by simp [mz_up], by simp [mz_up], ?_⟩
    rw [up_eq, sh_sum]
  · rw [h.2]
    exact (((Fs_up.tr Fs_up).tr Fs_up).tr Fs_up).tr Fs_up

set_option maxRecDepth 100000 in
set_option maxHeartbeats 4000000 in
theorem sp_X3_mix_8_w (v : mz_G) (l : List tr3) (t x y : Int) (σ : mz_G)  (h0 : CA σ v l) (h1 : Bs v l) (h2 : 0 ≤ t) (h3 : t < (l.length : Int)) (h4 : dot v x y) (h5 : hol v 1 (tg l t) x y) (h6 : MS σ v l 1 t x y) : mz_Cl shA 50 [.inr 3, .inr 1, .inr 8] σ (fun r σ' => r = none ∧ MX σ' v l 1 t x y ∧ MS σ' v l 1 t x y ∧ Fs σ σ') := by
  obtain ⟨m0, m1, m2, m3, m4⟩ := id h6
  have hs := sh_sum (v := v) (q := 1) (t := tg l t) (x := x) (y := y)
  have nb := nX_bd h1.1 (q := 1) (by decide) (Rt_at h1.2.1 h2 h3) h4 h5
  obtain ⟨p1, p2, p3⟩ := id h5
  refine (sp_X3_mix_8 v l σ h0 h1 (by omega) (by omega) (by omega) (by omega) (by omega) (by omega) (by omega)).mono (fun r σ' h => ⟨h.1, ?_, ?_, h.2.2.2⟩)
  · have eX : sX σ v l 0 = nX v 1 (tg l t) x y := by unfold sX nX; rw [m0, m1, m2, m3]
    have eY : sY σ v l 0 = nY v 1 (tg l t) x y := by unfold sY nY; rw [m0, m1, m2, m3]
    have eG : sG σ v l 0 = fG v 1 (tg l t) x y := by unfold sG fG; rw [eX, eY, m4]
    obtain ⟨a1, a2, a3⟩ := h.2.1
    rw [eX, eG] at a1
    rw [eY, eG] at a2
    rw [m4, eG] at a3
    exact ⟨a1, a2, a3⟩
  · have hi := h.2.2.1
    exact ⟨(hi 0 (by decide)).trans m0, (hi 1 (by decide)).trans m1, (hi 2 (by decide)).trans m2, (hi 3 (by decide)).trans m3, (hi 4 (by decide)).trans m4⟩

set_option maxRecDepth 100000 in
set_option maxHeartbeats 4000000 in
theorem sp_X3_measure_9_w (v : mz_G) (l : List tr3) (σ : mz_G) (t : Int) (x : Int) (y : Int) (h0 : CA σ v l) (h1 : Bs v l) (h2 : 0 ≤ t) (h3 : t < (l.length : Int)) (h4 : dot v x y) : mz_Cl shA 48 [.inr 3, .inr 1, .inr 9, .inl t, .inl x, .inl y] σ (fun r σ' => r = none ∧ MS σ' v l 1 t x y ∧ Fs σ σ') := by
  refine (sp_X3_measure_9 v l σ t x y h0 h1 h2 h3 h4).mono (fun r σ' h => ⟨h.1, ?_, ?_⟩)
  · rw [h.2]
    refine ⟨by simp [mz_up], by simp [mz_up], by simp [mz_up], by simp [mz_up], ?_⟩
    rw [up_eq, sh_sum]
  · rw [h.2]
    exact (((Fs_up.tr Fs_up).tr Fs_up).tr Fs_up).tr Fs_up

set_option maxRecDepth 100000 in
set_option maxHeartbeats 4000000 in
theorem sp_X3_mix_9_w (v : mz_G) (l : List tr3) (t x y : Int) (σ : mz_G)  (h0 : CA σ v l) (h1 : Bs v l) (h2 : 0 ≤ t) (h3 : t < (l.length : Int)) (h4 : dot v x y) (h5 : hol v 0 (tg l t) x y) (h6 : MS σ v l 0 t x y) : mz_Cl shA 50 [.inr 3, .inr 1, .inr 9] σ (fun r σ' => r = none ∧ MX σ' v l 0 t x y ∧ MS σ' v l 0 t x y ∧ Fs σ σ') := by
  obtain ⟨m0, m1, m2, m3, m4⟩ := id h6
  have hs := sh_sum (v := v) (q := 0) (t := tg l t) (x := x) (y := y)
  have nb := nX_bd h1.1 (q := 0) (by decide) (Rt_at h1.2.1 h2 h3) h4 h5
  obtain ⟨p1, p2, p3⟩ := id h5
  refine (sp_X3_mix_9 v l σ h0 h1 (by omega) (by omega) (by omega) (by omega) (by omega) (by omega) (by omega)).mono (fun r σ' h => ⟨h.1, ?_, ?_, h.2.2.2⟩)
  · have eX : sX σ v l 1 = nX v 0 (tg l t) x y := by unfold sX nX; rw [m0, m1, m2, m3]
    have eY : sY σ v l 1 = nY v 0 (tg l t) x y := by unfold sY nY; rw [m0, m1, m2, m3]
    have eG : sG σ v l 1 = fG v 0 (tg l t) x y := by unfold sG fG; rw [eX, eY, m4]
    obtain ⟨a1, a2, a3⟩ := h.2.1
    rw [eX, eG] at a1
    rw [eY, eG] at a2
    rw [m4, eG] at a3
    exact ⟨a1, a2, a3⟩
  · have hi := h.2.2.1
    exact ⟨(hi 0 (by decide)).trans m0, (hi 1 (by decide)).trans m1, (hi 2 (by decide)).trans m2, (hi 3 (by decide)).trans m3, (hi 4 (by decide)).trans m4⟩

set_option maxRecDepth 100000 in
set_option maxHeartbeats 4000000 in
theorem sp_X5_dotNearSpot (v : mz_G) (l : List tr3) (x y : Int) (σ : mz_G)  (h0 : CA σ v l) (h1 : GO v l) (h2 : dot v x y) (h3 : MX σ v l 1 (lie v l 1 x y) x y) : mz_Cl shA 94 [.inr 0] σ (fun r σ' => r = some (nea v l x y) ∧ σ' = σ) := by
  have hM : mz_meth[94]? = some mtX5_dotNearSpot := rfl
  obtain ⟨hB, hSd, ⟨hP0, hP1⟩, ⟨hC0, hC1'⟩, hVr, hn30, hl2⟩ := id h1
  have f := f_bd hB (q := 1) (by decide) hP1 hC1' h2
  have hni := nea_in h1 h2
  obtain ⟨m1, m2, m3⟩ := id h3
  have m1 : σ 3 5 = fX v l 1 x y := m1
  have m2 : σ 3 6 = fY v l 1 x y := m2
  have m3 : σ 3 7 = fB v l 1 x y := m3
  obtain ⟨d1, d2, d3, d4⟩ := id hni.1
  have hW := hB.1.1
  have hH := hB.1.2.1
  refine mz_Cl.of hM ?_
  show mz_Wp shA none 94 (0, [some (.inr 0), none, none], [], σ) _
  refine wp_go 6 hM (fr' := (14, [some (.inr 0), none, none], [.inl (σ 3 7), .inl (σ 3 5)], σ)) rfl ?_
  refine wp_calld (v := 1) (idx := 267) (j := 100) (N := mtX5_rounded) (as := [.inl (σ 3 5), .inl (σ 3 7)]) (rest := []) hM rfl (Or.inr ⟨rfl, rfl⟩) rfl (sp_X5_rounded  σ (σ 3 5) (σ 3 7) (by first | assumption | (constructor <;> omega) | omega) (by first | assumption | (constructor <;> omega) | omega) (by first | assumption | (constructor <;> omega) | omega)) ?_
  show mz_Wp shA none 94 (17, [some (.inr 0), none, none], [.inl (rnd (σ 3 5) (σ 3 7))], σ) _
  rw [m1, m3]
  refine wp_go 7 hM (fr' := (32, [some (.inr 0), some (.inl (rnd (fX v l 1 x y) (fB v l 1 x y))), none], [.inl (σ 3 7), .inl (σ 3 6)], σ)) rfl ?_
  refine wp_calld (v := 1) (idx := 267) (j := 100) (N := mtX5_rounded) (as := [.inl (σ 3 6), .inl (σ 3 7)]) (rest := []) hM rfl (Or.inr ⟨rfl, rfl⟩) rfl (sp_X5_rounded  σ (σ 3 6) (σ 3 7) (by first | assumption | (constructor <;> omega) | omega) (by first | assumption | (constructor <;> omega) | omega) (by first | assumption | (constructor <;> omega) | omega)) ?_
  show mz_Wp shA none 94 (35, [some (.inr 0), some (.inl (rnd (fX v l 1 x y) (fB v l 1 x y))), none], [.inl (rnd (σ 3 6) (σ 3 7))], σ) _
  rw [m2, m3]
  refine wp_go 5 hM (fr' := (42, [some (.inr 0), some (.inl (rnd (fX v l 1 x y) (fB v l 1 x y))), some (.inl (rnd (fY v l 1 x y) (fB v l 1 x y)))], [.inl (rnd (fY v l 1 x y) (fB v l 1 x y)), .inl (rnd (fX v l 1 x y) (fB v l 1 x y)), .inr 1], σ)) rfl ?_
  refine wp_calld (v := 0) (idx := 57) (j := 9) (N := mtX1_isDot) (as := [.inr 1, .inl (rnd (fX v l 1 x y) (fB v l 1 x y)), .inl (rnd (fY v l 1 x y) (fB v l 1 x y))]) (rest := []) hM rfl (Or.inl ⟨rfl, rfl⟩) rfl (sp_X1_isDot v l σ (rnd (fX v l 1 x y) (fB v l 1 x y)) (rnd (fY v l 1 x y) (fB v l 1 x y)) (by first | assumption | omega) (by first | assumption | omega) (by first | assumption | omega) (by first | assumption | omega)) ?_
  show mz_Wp shA none 94 (45, [some (.inr 0), some (.inl (rnd (fX v l 1 x y) (fB v l 1 x y))), some (.inl (rnd (fY v l 1 x y) (fB v l 1 x y)))], [.inl (b01 (dot v (rnd (fX v l 1 x y) (fB v l 1 x y)) (rnd (fY v l 1 x y) (fB v l 1 x y))))], σ) _
  refine wp_if (tgt := 60) hM rfl (by decide) b01_R (fun c45 => ?_) (fun c45 => ?_)
  · replace c45 := b01_eq0 (cmp_eq_t c45)
    exact absurd hni.1 c45
  · replace c45 := b01_ne0 (cmp_eq_f c45)
    refine wp_go 4 hM (fr' := (54, [some (.inr 0), some (.inl (rnd (fX v l 1 x y) (fB v l 1 x y))), some (.inl (rnd (fY v l 1 x y) (fB v l 1 x y)))], [.inl (rnd (fY v l 1 x y) (fB v l 1 x y)), .inl (rnd (fX v l 1 x y) (fB v l 1 x y)), .inr 1], σ)) rfl ?_
    refine wp_calld (v := 0) (idx := 61) (j := 10) (N := mtX1_dotNumber) (as := [.inr 1, .inl (rnd (fX v l 1 x y) (fB v l 1 x y)), .inl (rnd (fY v l 1 x y) (fB v l 1 x y))]) (rest := []) hM rfl (Or.inl ⟨rfl, rfl⟩) rfl (sp_X1_dotNumber v l σ (rnd (fX v l 1 x y) (fB v l 1 x y)) (rnd (fY v l 1 x y) (fB v l 1 x y)) (by first | assumption | omega) (by first | assumption | omega)) ?_
    show mz_Wp shA none 94 (57, [some (.inr 0), some (.inl (rnd (fX v l 1 x y) (fB v l 1 x y))), some (.inl (rnd (fY v l 1 x y) (fB v l 1 x y)))], [.inl ((rnd (fY v l 1 x y) (fB v l 1 x y)) * v 0 0 + (rnd (fX v l 1 x y) (fB v l 1 x y)))], σ) _
    refine wp_go 1 hM (fr' := (61, [some (.inr 0), some (.inl (rnd (fX v l 1 x y) (fB v l 1 x y))), some (.inl (rnd (fY v l 1 x y) (fB v l 1 x y)))], [.inl ((rnd (fY v l 1 x y) (fB v l 1 x y)) * v 0 0 + (rnd (fX v l 1 x y) (fB v l 1 x y)))], σ)) rfl ?_
    refine wp_ret hM rfl (rfl) ?_
    exact ⟨rfl, rfl⟩

set_option maxRecDepth 100000 in
set_option maxHeartbeats 4000000 in
theorem sp_X5_chart (v : mz_G) (l : List tr3) (σ : mz_G)  (h0 : CS σ v l) (h1 : GO v l) : mz_Cl shA 92 [.inr 0] σ (fun r σ' => r = none ∧ CA σ' v l ∧ CC σ' v l ∧ Fh σ σ') := by
  have hM : mz_meth[92]? = some mtX5_chart := rfl
  have hA0 := h0.1
  obtain ⟨hB, hSd, ⟨hP0, hP1⟩, ⟨hC0, hC1'⟩, hVr, hn30, hl2⟩ := id h1
  obtain ⟨hR, hT, hLen⟩ := id hB
  obtain ⟨⟨hW0, hW1⟩, ⟨hH0, hH1⟩, ⟨hn0, hn1⟩, hpt⟩ := id hR
  obtain ⟨⟨hc1, hc2, hc3, hc4⟩, hcp, hct, hcv⟩ := id hA0
  have hWH := WH_bd hR
  have h07 : σ 0 7 = 0 ∨ σ 0 7 = 1 := h0.2.elim Or.inl (fun q => Or.inr q.1)
  refine mz_Cl.of hM ?_
  show mz_Wp shA none 92 (0, [some (.inr 0), none, none, none], [], σ) _
  refine wp_go 2 hM (fr' := (4, [some (.inr 0), none, none, none], [.inl (σ 0 7)], σ)) rfl ?_
  refine wp_if (tgt := 8) hM rfl (by decide) (by omega) (fun c4 => ?_) (fun c4 => ?_)
  · replace c4 := cmp_eq_t c4
    refine wp_go 4 hM (fr' := (16, [some (.inr 0), none, none, none], [.inr 1, .inr 2], σ)) rfl ?_
    refine wp_call (v := 0) (idx := 258) (j := 0) (N := mtX0_fill) (as := [.inr 2, .inr 1]) (rest := []) hM rfl (Or.inl ⟨rfl, rfl⟩) rfl (sp_X0_fill v l σ  (by first | assumption | omega) (by first | assumption | omega) (by first | assumption | omega)) ?_
    rintro r0 σ_16 ⟨rfl, hli_16, hf_16⟩
    show mz_Wp shA none 92 (19, [some (.inr 0), none, none, none], [], σ_16) _
    have hA16 := CA_Fc hA0 hf_16
    have hlie : ∀ a b : Int, dot v a b → σ_16 14 (b * v 0 0 + a).toNat = lie v l 1 a b := fun a b hab => (hli_16 a b hab).1
    refine wp_go 2 hM (fr' := (21, [some (.inr 0), some (.inl 0), none, none], [], σ_16)) rfl ?_
    have loop21 : ∀ (fuel : Nat) (y : Int) (σ1 : mz_G) (d21_2 d21_3 : Option mz_V), (0 ≤ y) → (y ≤ v 0 1) → (NR σ1 v l (y * v 0 0)) → ((∀ c i, ¬ c = 3 → ¬ c = 5 → σ1 c i = σ_16 c i) ∧ True) → ((v 0 1 - y : Int) < fuel) → mz_Wp shA none 92 (21, [some (.inr 0), some (.inl y), d21_2, d21_3], [], σ1) (fun r σ' => r = none ∧ CA σ' v l ∧ CC σ' v l ∧ Fh σ σ') := by
      intro fuel
      induction fuel with
      | zero =>
        intro y σ1 d21_2 d21_3 hv21_0 hv21_1 hv21_2 hv21_3 hf21
        exfalso
        omega
      | succ fuel ih21 =>
        intro y σ1 d21_2 d21_3 hv21_0 hv21_1 hv21_2 hv21_3 hf21
        have hA1 : CA σ1 v l := CA_ext hA16 (fun i hi => hv21_3.1 1 i (by decide) (by decide)) (hv21_3.1 11 1 (by decide) (by decide)) (fun c hc i => hv21_3.1 c i (by omega) (by omega))
        have hw1 : σ1 1 8 = v 0 0 := hA1.1.1
        have hh1 : σ1 1 9 = v 0 1 := hA1.1.2.1
        refine wp_go 4 hM (fr' := (29, [some (.inr 0), some (.inl y), d21_2, d21_3], [.inl (σ1 1 9), .inl y], σ1)) rfl ?_
        refine wp_ic (tgt := 124) hM rfl (by decide) (by omega) (by omega) (fun c29 => ?_) (fun c29 => ?_)
        · replace c29 := cmp_ge_t c29
          refine wp_go 3 hM (fr' := (129, [some (.inr 0), some (.inl y), d21_2, d21_3], [], (mz_up σ1 0 7 1))) rfl ?_
          refine wp_retv hM rfl rfl ?_
          have hyE : y = v 0 1 := by omega
          rw [hyE, Int.mul_comm] at hv21_2
          refine ⟨rfl, CA_up hA1 0 7 1 (by omega), ⟨up_eq, LI_ext hli_16 (fun i => by rw [up_ne (by decide)]; exact hv21_3.1 14 i (by decide) (by decide)) (fun i => by rw [up_ne (by decide)]; exact hv21_3.1 15 i (by decide) (by decide)), NR_ext hv21_2 (fun i => up_ne (by decide))⟩, ?_⟩
          intro c i a b d e f
          show (if c = 0 ∧ i = 7 then _ else _) = _
          rw [if_neg f, hv21_3.1 c i a b]
          exact hf_16 c i d e
        · replace c29 := cmp_ge_f c29
          refine wp_go 2 hM (fr' := (34, [some (.inr 0), some (.inl y), some (.inl 0), d21_3], [], σ1)) rfl ?_
          have loop34 : ∀ (fuel : Nat) (x : Int) (σ2 : mz_G) (d34_3 : Option mz_V), (0 ≤ x) → (x ≤ v 0 0) → (NR σ2 v l (y * v 0 0 + x)) → ((∀ c i, ¬ c = 3 → ¬ c = 5 → σ2 c i = σ_16 c i) ∧ True) → ((v 0 0 - x : Int) < fuel) → mz_Wp shA none 92 (34, [some (.inr 0), some (.inl y), some (.inl x), d34_3], [], σ2) (fun r σ' => r = none ∧ CA σ' v l ∧ CC σ' v l ∧ Fh σ σ') := by
            intro fuel
            induction fuel with
            | zero =>
              intro x σ2 d34_3 hv34_0 hv34_1 hv34_2 hv34_3 hf34
              exfalso
              omega
            | succ fuel ih34 =>
              intro x σ2 d34_3 hv34_0 hv34_1 hv34_2 hv34_3 hf34
              have hA2 : CA σ2 v l := CA_ext hA16 (fun i hi => hv34_3.1 1 i (by decide) (by decide)) (hv34_3.1 11 1 (by decide) (by decide)) (fun c hc i => hv34_3.1 c i (by omega) (by omega))
              have hw2 : σ2 1 8 = v 0 0 := hA2.1.1
              refine wp_go 4 hM (fr' := (42, [some (.inr 0), some (.inl y), some (.inl x), d34_3], [.inl (σ2 1 8), .inl x], σ2)) rfl ?_
              refine wp_ic (tgt := 118) hM rfl (by decide) (by omega) (by omega) (fun c42 => ?_) (fun c42 => ?_)
              · replace c42 := cmp_ge_t c42
                refine wp_go 2 hM (fr' := (21, [some (.inr 0), some (.inl (y + 1)), some (.inl x), d34_3], [], σ2)) rfl ?_
                exact ih21 (y + 1) σ2 (some (.inl x)) (d34_3) (by omega) (by omega) (by rw [show (y + 1) * v 0 0 = y * v 0 0 + x from by rw [Int.add_mul, Int.one_mul]; omega]; exact hv34_2) (by exact hv34_3) (by omega)
              · replace c42 := cmp_ge_f c42
                have hd : dot v x y := ⟨hv34_0, by omega, hv21_0, by omega⟩
                have hdi := dn_in hR hd
                have hL := lie_at hC1' hd
                have hne := ne_dot (l := l) hR hd
                refine wp_go 4 hM (fr' := (51, [some (.inr 0), some (.inl y), some (.inl x), d34_3], [.inl y, .inl x, .inr 1], σ2)) rfl ?_
                refine wp_calld (v := 0) (idx := 61) (j := 10) (N := mtX1_dotNumber) (as := [.inr 1, .inl x, .inl y]) (rest := []) hM rfl (Or.inl ⟨rfl, rfl⟩) rfl (sp_X1_dotNumber v l σ2 x y (by first | assumption | omega) (by first | assumption | omega)) ?_
                show mz_Wp shA none 92 (54, [some (.inr 0), some (.inl y), some (.inl x), d34_3], [.inl (y * v 0 0 + x)], σ2) _
                refine wp_go 12 hM (fr' := (78, [some (.inr 0), some (.inl y), some (.inl x), some (.inl (y * v 0 0 + x))], [.inl (y * v 0 0 + x), .inr 14, .inr 9, .inr 1, .inr 3], σ2)) rfl ?_
                refine wp_al (n := 400) hM rfl (by decide) rfl (by omega) (by omega) ?_
                rw [show σ2 14 (y * v 0 0 + x).toNat = lie v l 1 x y from by rw [hv34_3.1 14 _ (by decide) (by decide)]; exact hlie x y hd]
                refine wp_go 2 hM (fr' := (81, [some (.inr 0), some (.inl y), some (.inl x), some (.inl (y * v 0 0 + x))], [.inl y, .inl x, .inl (lie v l 1 x y), .inr 9, .inr 1, .inr 3], σ2)) rfl ?_
                refine wp_call (v := 0) (idx := 222) (j := 48) (N := mtX3_measure) (as := [.inr 3, .inr 1, .inr 9, .inl (lie v l 1 x y), .inl x, .inl y]) (rest := []) hM rfl (Or.inl ⟨rfl, rfl⟩) rfl (sp_X3_measure_9_w v l σ2 (lie v l 1 x y) x y (by first | assumption | exact hL.2.1 | exact hL.1) (by first | assumption | exact hL.2.1 | exact hL.1) (by first | assumption | exact hL.2.1 | exact hL.1) (by first | assumption | exact hL.2.1 | exact hL.1) (by first | assumption | exact hL.2.1 | exact hL.1)) ?_
                rintro r0 σ_81 ⟨rfl, hm_81, hf_81⟩
                show mz_Wp shA none 92 (84, [some (.inr 0), some (.inl y), some (.inl x), some (.inl (y * v 0 0 + x))], [], σ_81) _
                have hA81 := CA_Fs hA2 hf_81
                refine wp_go 7 hM (fr' := (99, [some (.inr 0), some (.inl y), some (.inl x), some (.inl (y * v 0 0 + x))], [.inr 8, .inr 1, .inr 3], σ_81)) rfl ?_
                refine wp_call (v := 0) (idx := 215) (j := 50) (N := mtX3_mix) (as := [.inr 3, .inr 1, .inr 8]) (rest := []) hM rfl (Or.inl ⟨rfl, rfl⟩) rfl (sp_X3_mix_8_w v l (lie v l 1 x y) x y σ_81  (by first | assumption | exact hL.2.2 | exact hL.2.1 | exact hL.1) (by first | assumption | exact hL.2.2 | exact hL.2.1 | exact hL.1) (by first | assumption | exact hL.2.2 | exact hL.2.1 | exact hL.1) (by first | assumption | exact hL.2.2 | exact hL.2.1 | exact hL.1) (by first | assumption | exact hL.2.2 | exact hL.2.1 | exact hL.1) (by first | assumption | exact hL.2.2 | exact hL.2.1 | exact hL.1) (by first | assumption | exact hL.2.2 | exact hL.2.1 | exact hL.1)) ?_
                rintro r0 σ_99 ⟨rfl, hx_99, hm_99, hf_99⟩
                show mz_Wp shA none 92 (102, [some (.inr 0), some (.inl y), some (.inl x), some (.inl (y * v 0 0 + x))], [], σ_99) _
                have hA99 := CA_Fs hA81 hf_99
                refine wp_go 4 hM (fr' := (108, [some (.inr 0), some (.inl y), some (.inl x), some (.inl (y * v 0 0 + x))], [.inr 0, .inl (y * v 0 0 + x), .inr 5], σ_99)) rfl ?_
                refine wp_calld (v := 0) (idx := 261) (j := 94) (N := mtX5_dotNearSpot) (as := [.inr 0]) (rest := [.inl (y * v 0 0 + x), .inr 5]) hM rfl (Or.inl ⟨rfl, rfl⟩) rfl (sp_X5_dotNearSpot v l x y σ_99  (by first | assumption | exact hx_99) (by first | assumption | exact hx_99) (by first | assumption | exact hx_99) (by first | assumption | exact hx_99)) ?_
                show mz_Wp shA none 92 (111, [some (.inr 0), some (.inl y), some (.inl x), some (.inl (y * v 0 0 + x))], [.inl (nea v l x y), .inl (y * v 0 0 + x), .inr 5], σ_99) _
                rw [← hne]
                refine wp_as (n := 400) hM rfl rfl (by omega) (by omega) ?_
                refine wp_go 2 hM (fr' := (34, [some (.inr 0), some (.inl y), some (.inl (x + 1)), some (.inl (y * v 0 0 + x))], [], (mz_up σ_99 5 (y * v 0 0 + x).toNat (ne v l (y * v 0 0 + x))))) rfl ?_
                exact ih34 (x + 1) (mz_up σ_99 5 (y * v 0 0 + x).toNat (ne v l (y * v 0 0 + x))) (some (.inl (y * v 0 0 + x))) (by omega) (by omega) (by
                  intro d a b
                  by_cases q : d = y * v 0 0 + x
                  · subst q; exact up_eq
                  · rw [up_ni (by omega), hf_99 5 _ (by decide), hf_81 5 _ (by decide)]; exact hv34_2 d a (by omega)) (by exact ⟨fun c i a b => by rw [up_ne b, hf_99 c i a, hf_81 c i a]; exact hv34_3.1 c i a b, trivial⟩) (by omega)
          exact loop34 22 0 σ1 (d21_3) (by omega) (by omega) (by rw [Int.add_zero]; exact hv21_2) (by exact hv21_3) (by omega)
    exact loop21 22 0 σ_16 (none) (none) (by omega) (by omega) (by exact fun d a b => by omega) (by exact ⟨fun _ _ _ _ => rfl, trivial⟩) (by omega)
  · replace c4 := cmp_eq_f c4
    refine wp_retv hM rfl rfl ?_
    exact ⟨rfl, hA0, h0.2.elim (fun q => absurd q (by omega)) id, Fh.rf⟩
