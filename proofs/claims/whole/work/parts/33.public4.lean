set_option maxRecDepth 100000 in
set_option maxHeartbeats 4000000 in
theorem sp_X5_room (v : mz_G) (l : List tr3) (σ : mz_G) (k : Int) (i : Int) (h0 : CS σ v l) (h1 : GO v l) (h2 : mz_R k) (h3 : mz_R i) : mz_Cl shA 88 [.inr 0, .inl k, .inl i] σ (fun r σ' => r = some (aRoom v l k i) ∧ CS σ' v l ∧ Fk σ σ') := by
  have hM : mz_meth[88]? = some mtX5_room := rfl
  have hA0 := h0.1
  obtain ⟨hB, hSd, ⟨hP0, hP1⟩, ⟨hC0, hC1'⟩, hVr, hn30, hl2⟩ := id h1
  obtain ⟨hR, hT, hLen⟩ := id hB
  obtain ⟨⟨hW0, hW1⟩, ⟨hH0, hH1⟩, ⟨hn0, hn1⟩, hpt⟩ := id hR
  obtain ⟨⟨hc1, hc2, hc3, hc4⟩, hcp, hct, hcv⟩ := id hA0
  have hWH := WH_bd hR
  refine mz_Cl.of hM ?_
  show mz_Wp shA none 88 (0, [some (.inr 0), some (.inl k), some (.inl i), none, none, none], [], σ) _
  refine wp_go 3 hM (fr' := (5, [some (.inr 0), some (.inl k), some (.inl i), none, none, none], [.inl k, .inr 1], σ)) rfl ?_
  refine wp_calld (v := 0) (idx := 137) (j := 12) (N := mtX1_isKnot) (as := [.inr 1, .inl k]) (rest := []) hM rfl (Or.inl ⟨rfl, rfl⟩) rfl (sp_X1_isKnot v l σ k (by first | (first | assumption | omega) | fail) (by first | (first | assumption | omega) | fail) (by first | (first | assumption | omega) | fail)) ?_
  show mz_Wp shA none 88 (8, [some (.inr 0), some (.inl k), some (.inl i), none, none, none], [.inl (b01 (isk v k))], σ) _
  refine wp_if (tgt := 16) hM rfl (by decide) b01_R (fun c8 => ?_) (fun c8 => ?_)
  · replace c8 := b01_eq0 (cmp_eq_t c8)
    refine wp_go 1 hM (fr' := (17, [some (.inr 0), some (.inl k), some (.inl i), none, none, none], [.inl (-1)], σ)) rfl ?_
    refine wp_ret hM rfl (rfl) ?_
    first | (exact ⟨by unfold aRoom; rw [if_pos (by first | exact Or.inl c8 | exact Or.inr (by omega))], h0, Fk.rf⟩) | fail
  · replace c8 := b01_ne0 (cmp_eq_f c8)
    first | (unfold isk at c8) | skip
    refine wp_go 2 hM (fr' := (13, [some (.inr 0), some (.inl k), some (.inl i), none, none, none], [.inl (-1), .inl i], σ)) rfl ?_
    refine wp_ic (tgt := 18) hM rfl (by decide) (by omega) (by omega) (fun c13 => ?_) (fun c13 => ?_)
    · replace c13 := cmp_ge_t c13
      refine wp_go 3 hM (fr' := (23, [some (.inr 0), some (.inl k), some (.inl i), none, none, none], [.inl k, .inr 1], σ)) rfl ?_
      refine wp_call (v := 0) (idx := 241) (j := 33) (N := mtX1_linkOf) (as := [.inr 1, .inl k]) (rest := []) hM rfl (Or.inl ⟨rfl, rfl⟩) rfl (sp_X1_linkOf v l σ k (by first | (first | assumption | omega) | fail) (by first | (first | assumption | omega) | fail) (by first | (first | assumption | omega) | fail)) ?_
      rintro r0 σ_23 ⟨rfl, hk_23, hf_23⟩
      show mz_Wp shA none 88 (26, [some (.inr 0), some (.inl k), some (.inl i), none, none, none], [], σ_23) _
      first | (have hC_23 := CA_Fl hA0 hf_23) | skip
      first | (have hLr := Lr_lk (k := k) hT) | skip
      first | (have hlen := flT_len (f := lk1 k) (l := l) (t := (l.length : Int)) (c := 1) (fun x => lk1_le) (by omega)) | skip
      first | (rw [flT_all rfl] at hlen) | skip
      first | (have hlen2 : ((lkOf l k).length : Int) ≤ 64 := by unfold lkOf; omega) | skip
      have hnd : ¬ (¬ isk v k ∨ i < -1) := by
        intro q
        rcases q with q | q
        · exact q (by unfold isk; omega)
        · omega
      first | (have hc1' : σ_23 1 8 = v 0 0 := hC_23.1.1) | skip
      first | (have hc2' : σ_23 1 9 = v 0 1 := hC_23.1.2.1) | skip
      refine wp_go 4 hM (fr' := (31, [some (.inr 0), some (.inl k), some (.inl i), some (.inl 0), some (.inl 0), none], [], σ_23)) rfl ?_
      have loop31 : ∀ (fuel : Nat) (f : Int) (y : Int) (d31_5 : Option mz_V), (0 ≤ y) → (y ≤ v 0 1) → (f = sumI (y * v 0 0) (rmB v (lkOf l k) k)) → (fstI (y * v 0 0) (fun d => rmB v (lkOf l k) k d = 1 ∧ sumI d (rmB v (lkOf l k) k) = i) = -1) → (0 ≤ f ∧ f ≤ 400) → ((v 0 1 - y : Int) < fuel) → mz_Wp shA none 88 (31, [some (.inr 0), some (.inl k), some (.inl i), some (.inl f), some (.inl y), d31_5], [], σ_23) (fun r σ' => r = some (aRoom v l k i) ∧ CS σ' v l ∧ Fk σ σ') := by
        intro fuel
        induction fuel with
        | zero =>
          intro f y d31_5 hv31_0 hv31_1 hv31_2 hv31_3 hv31_4 hf31
          exfalso
          omega
        | succ fuel ih31 =>
          intro f y d31_5 hv31_0 hv31_1 hv31_2 hv31_3 hv31_4 hf31
          have hyW : 0 ≤ y * v 0 0 := Int.mul_nonneg hv31_0 (by omega)
          refine wp_go 4 hM (fr' := (40, [some (.inr 0), some (.inl k), some (.inl i), some (.inl f), some (.inl y), d31_5], [.inl (σ_23 1 9), .inl y], σ_23)) rfl ?_
          refine wp_ic (tgt := 105) hM rfl (by decide) (by omega) (by omega) (fun c40 => ?_) (fun c40 => ?_)
          · replace c40 := cmp_ge_t c40
            refine wp_go 2 hM (fr' := (107, [some (.inr 0), some (.inl k), some (.inl i), some (.inl f), some (.inl y), d31_5], [.inl (-1), .inl i], σ_23)) rfl ?_
            refine wp_ic (tgt := 114) hM rfl (by decide) (by omega) (by omega) (fun c107 => ?_) (fun c107 => ?_)
            · replace c107 := cmp_ne_t c107
              refine wp_go 1 hM (fr' := (115, [some (.inr 0), some (.inl k), some (.inl i), some (.inl f), some (.inl y), d31_5], [.inl (-1)], σ_23)) rfl ?_
              refine wp_ret hM rfl (rfl) ?_
              have hyE : y * v 0 0 = v 0 0 * v 0 1 := by rw [show y = v 0 1 by omega, Int.mul_comm]
              rw [hyE] at hv31_2 hv31_3
              refine ⟨?_, CS_Fl h0 hf_23, Fk_Fl hf_23⟩
              unfold aRoom
              rw [if_neg hnd]
              first | rw [if_pos c107, hv31_2] | rw [if_neg c107, hv31_3]
            · replace c107 := cmp_ne_f c107
              refine wp_go 2 hM (fr' := (115, [some (.inr 0), some (.inl k), some (.inl i), some (.inl f), some (.inl y), d31_5], [.inl f], σ_23)) rfl ?_
              refine wp_ret hM rfl (rfl) ?_
              have hyE : y * v 0 0 = v 0 0 * v 0 1 := by rw [show y = v 0 1 by omega, Int.mul_comm]
              rw [hyE] at hv31_2 hv31_3
              refine ⟨?_, CS_Fl h0 hf_23, Fk_Fl hf_23⟩
              unfold aRoom
              rw [if_neg hnd]
              first | rw [if_pos c107, hv31_2] | rw [if_neg c107, hv31_3]
          · replace c40 := cmp_ge_f c40
            refine wp_go 2 hM (fr' := (46, [some (.inr 0), some (.inl k), some (.inl i), some (.inl f), some (.inl y), some (.inl 0)], [], σ_23)) rfl ?_
            have loop46 : ∀ (fuel : Nat) (f : Int) (x : Int), (0 ≤ x) → (x ≤ v 0 0) → (f = sumI (y * v 0 0 + x) (rmB v (lkOf l k) k)) → (fstI (y * v 0 0 + x) (fun d => rmB v (lkOf l k) k d = 1 ∧ sumI d (rmB v (lkOf l k) k) = i) = -1) → ((v 0 0 - x : Int) < fuel) → mz_Wp shA none 88 (46, [some (.inr 0), some (.inl k), some (.inl i), some (.inl f), some (.inl y), some (.inl x)], [], σ_23) (fun r σ' => r = some (aRoom v l k i) ∧ CS σ' v l ∧ Fk σ σ') := by
              intro fuel
              induction fuel with
              | zero =>
                intro f x hv46_0 hv46_1 hv46_2 hv46_3 hf46
                exfalso
                omega
              | succ fuel ih46 =>
                intro f x hv46_0 hv46_1 hv46_2 hv46_3 hf46
                have hs : sumI (y * v 0 0 + x + 1) (rmB v (lkOf l k) k) = sumI (y * v 0 0 + x) (rmB v (lkOf l k) k) + (rmB v (lkOf l k) k) (y * v 0 0 + x) := sumI_s (by omega)
                have hbd := sumI_bd (t := y * v 0 0 + x) (a := 0) (b := 1) (f := (rmB v (lkOf l k) k)) (by omega) (fun d _ _ => rmB_bd)
                have hyt : y * v 0 0 ≤ (v 0 1 - 1) * v 0 0 := Int.mul_le_mul_of_nonneg_right (by omega) (by omega)
                have hyt2 : (v 0 1 - 1) * v 0 0 = v 0 0 * v 0 1 - v 0 0 := by rw [Int.sub_mul, Int.mul_comm (v 0 1), Int.one_mul]
                refine wp_go 4 hM (fr' := (55, [some (.inr 0), some (.inl k), some (.inl i), some (.inl f), some (.inl y), some (.inl x)], [.inl (σ_23 1 8), .inl x], σ_23)) rfl ?_
                refine wp_ic (tgt := 99) hM rfl (by decide) (by omega) (by omega) (fun c55 => ?_) (fun c55 => ?_)
                · replace c55 := cmp_ge_t c55
                  refine wp_go 2 hM (fr' := (31, [some (.inr 0), some (.inl k), some (.inl i), some (.inl f), some (.inl (y + 1)), some (.inl x)], [], σ_23)) rfl ?_
                  exact ih31 f (y + 1) (some (.inl x)) (by omega) (by omega) (by first | (rw [show (y + 1) * v 0 0 = y * v 0 0 + x from by rw [Int.add_mul, Int.one_mul]; omega]; exact hv46_2) | fail) (by first | (rw [show (y + 1) * v 0 0 = y * v 0 0 + x from by rw [Int.add_mul, Int.one_mul]; omega]; exact hv46_3) | fail) (by omega) (by omega)
                · replace c55 := cmp_ge_f c55
                  first | (have hd : dot v x y := ⟨hv46_0, by omega, hv31_0, by omega⟩) | skip
                  first | (have hdi := dn_in hR hd) | skip
                  first | (have hmv := dvm hR hd) | skip
                  first | (have hrm : rmB v (lkOf l k) k (y * v 0 0 + x) = b01 (rbl v (lkOf l k) k x y = 0 ∨ rbl v (lkOf l k) k x y = 2) := by unfold rmB; rw [hmv.1, hmv.2]) | skip
                  refine wp_go 5 hM (fr' := (67, [some (.inr 0), some (.inl k), some (.inl i), some (.inl f), some (.inl y), some (.inl x)], [.inl y, .inl x, .inl k, .inr 1], σ_23)) rfl ?_
                  refine wp_calld (v := 0) (idx := 244) (j := 35) (N := mtX1_isRoom) (as := [.inr 1, .inl k, .inl x, .inl y]) (rest := []) hM rfl (Or.inl ⟨rfl, rfl⟩) rfl (sp_X1_isRoom v l (lkOf l k) σ_23 k x y (by first | (first | assumption | omega) | fail) (by first | (first | assumption | omega) | fail) (by first | (first | assumption | omega) | fail) (by first | (first | assumption | omega) | fail) (by first | (first | assumption | omega) | fail) (by first | (first | assumption | omega) | fail) (by first | (first | assumption | omega) | fail) (by first | (first | assumption | omega) | fail) (by first | (first | assumption | omega) | fail)) ?_
                  show mz_Wp shA none 88 (70, [some (.inr 0), some (.inl k), some (.inl i), some (.inl f), some (.inl y), some (.inl x)], [.inl (b01 (rbl v (lkOf l k) k x y = 0 ∨ rbl v (lkOf l k) k x y = 2))], σ_23) _
                  refine wp_if (tgt := 93) hM rfl (by decide) b01_R (fun c70 => ?_) (fun c70 => ?_)
                  · replace c70 := b01_eq0 (cmp_eq_t c70)
                    refine wp_go 2 hM (fr' := (46, [some (.inr 0), some (.inl k), some (.inl i), some (.inl f), some (.inl y), some (.inl (x + 1))], [], σ_23)) rfl ?_
                    exact ih46 f (x + 1) (by omega) (by omega) (by first | (rw [← Int.add_assoc, hs, hrm]; first | (rw [b01_t c70]; omega) | (rw [b01_f c70]; omega)) | fail) (by first | (rw [← Int.add_assoc]; exact fstI_no (by omega) hv46_3 (by intro q; have q1 := q.1; have q2 := q.2; rw [hrm] at q1; first | (rw [b01_f c70] at q1; omega) | (rw [← hv46_2] at q2; omega))) | fail) (by omega)
                  · replace c70 := b01_ne0 (cmp_eq_f c70)
                    refine wp_go 2 hM (fr' := (75, [some (.inr 0), some (.inl k), some (.inl i), some (.inl f), some (.inl y), some (.inl x)], [.inl i, .inl f], σ_23)) rfl ?_
                    refine wp_ic (tgt := 90) hM rfl (by decide) (by omega) (by omega) (fun c75 => ?_) (fun c75 => ?_)
                    · replace c75 := cmp_ne_t c75
                      refine wp_go 3 hM (fr' := (46, [some (.inr 0), some (.inl k), some (.inl i), some (.inl (f + 1)), some (.inl y), some (.inl (x + 1))], [], σ_23)) rfl ?_
                      exact ih46 (f + 1) (x + 1) (by omega) (by omega) (by first | (rw [← Int.add_assoc, hs, hrm]; first | (rw [b01_t c70]; omega) | (rw [b01_f c70]; omega)) | fail) (by first | (rw [← Int.add_assoc]; exact fstI_no (by omega) hv46_3 (by intro q; have q1 := q.1; have q2 := q.2; rw [hrm] at q1; first | (rw [b01_f c70] at q1; omega) | (rw [← hv46_2] at q2; omega))) | fail) (by omega)
                    · replace c75 := cmp_ne_f c75
                      refine wp_go 4 hM (fr' := (86, [some (.inr 0), some (.inl k), some (.inl i), some (.inl f), some (.inl y), some (.inl x)], [.inl y, .inl x, .inr 1], σ_23)) rfl ?_
                      refine wp_calld (v := 0) (idx := 61) (j := 10) (N := mtX1_dotNumber) (as := [.inr 1, .inl x, .inl y]) (rest := []) hM rfl (Or.inl ⟨rfl, rfl⟩) rfl (sp_X1_dotNumber v l σ_23 x y (by first | (first | assumption | omega) | fail) (by first | (first | assumption | omega) | fail)) ?_
                      show mz_Wp shA none 88 (89, [some (.inr 0), some (.inl k), some (.inl i), some (.inl f), some (.inl y), some (.inl x)], [.inl (y * v 0 0 + x)], σ_23) _
                      refine wp_ret hM rfl (rfl) ?_
                      first | (exact ⟨by unfold aRoom; rw [if_neg hnd, if_neg (by omega), fstI_yes (t := y * v 0 0 + x) (by omega) hdi.2.1 hv46_3 ⟨by rw [hrm, b01_t c70], by omega⟩], CS_Fl h0 hf_23, Fk_Fl hf_23⟩) | fail
            exact loop46 22 f 0 (by omega) (by omega) (by first | (rw [Int.add_zero]; exact hv31_2) | fail) (by first | (rw [Int.add_zero]; exact hv31_3) | fail) (by omega)
      exact loop31 22 0 0 (none) (by omega) (by omega) (by first | (rw [Int.zero_mul]; rfl) | fail) (by first | (rw [Int.zero_mul]; rfl) | fail) (by omega) (by omega)
    · replace c13 := cmp_ge_f c13
      refine wp_go 1 hM (fr' := (17, [some (.inr 0), some (.inl k), some (.inl i), none, none, none], [.inl (-1)], σ)) rfl ?_
      refine wp_ret hM rfl (rfl) ?_
      first | (exact ⟨by unfold aRoom; rw [if_pos (by first | exact Or.inl c8 | exact Or.inr (by omega))], h0, Fk.rf⟩) | fail

set_option maxRecDepth 100000 in
set_option maxHeartbeats 4000000 in
theorem sp_X5_reach (v : mz_G) (l : List tr3) (σ : mz_G) (k : Int) (a : Int) (b : Int) (h0 : CS σ v l) (h1 : GO v l) (h2 : mz_R k) (h3 : mz_R a) (h4 : mz_R b) : mz_Cl shA 89 [.inr 0, .inl k, .inl a, .inl b] σ (fun r σ' => r = some (aReach v l k a b) ∧ CS σ' v l ∧ Fk σ σ') := by
  have hM : mz_meth[89]? = some mtX5_reach := rfl
  have hA0 := h0.1
  obtain ⟨hB, hSd, ⟨hP0, hP1⟩, ⟨hC0, hC1'⟩, hVr, hn30, hl2⟩ := id h1
  obtain ⟨hR, hT, hLen⟩ := id hB
  obtain ⟨⟨hW0, hW1⟩, ⟨hH0, hH1⟩, ⟨hn0, hn1⟩, hpt⟩ := id hR
  obtain ⟨⟨hc1, hc2, hc3, hc4⟩, hcp, hct, hcv⟩ := id hA0
  have hWH := WH_bd hR
  refine mz_Cl.of hM ?_
  show mz_Wp shA none 89 (0, [some (.inr 0), some (.inl k), some (.inl a), some (.inl b), none, none, none, none, none], [], σ) _
  refine wp_go 2 hM (fr' := (3, [some (.inr 0), some (.inl k), some (.inl a), some (.inl b), none, none, none, none, none], [.inl (-3), .inl a], σ)) rfl ?_
  refine wp_ic (tgt := 26) hM rfl (by decide) (by omega) (by omega) (fun c3 => ?_) (fun c3 => ?_)
  · replace c3 := cmp_lt_t c3
    refine wp_go 5 hM (fr' := (34, [some (.inr 0), some (.inl k), some (.inl a), some (.inl b), some (.inl 0), none, none, none, none], [.inl k, .inr 1], σ)) rfl ?_
    refine wp_calld (v := 0) (idx := 137) (j := 12) (N := mtX1_isKnot) (as := [.inr 1, .inl k]) (rest := []) hM rfl (Or.inl ⟨rfl, rfl⟩) rfl (sp_X1_isKnot v l σ k (by first | (first | assumption | omega) | fail) (by first | (first | assumption | omega) | fail) (by first | (first | assumption | omega) | fail)) ?_
    show mz_Wp shA none 89 (37, [some (.inr 0), some (.inl k), some (.inl a), some (.inl b), some (.inl 0), none, none, none, none], [.inl (b01 (isk v k))], σ) _
    refine wp_if (tgt := 53) hM rfl (by decide) b01_R (fun c37 => ?_) (fun c37 => ?_)
    · replace c37 := b01_eq0 (cmp_eq_t c37)
      refine wp_go 1 hM (fr' := (54, [some (.inr 0), some (.inl k), some (.inl a), some (.inl b), some (.inl 0), none, none, none, none], [.inl (-1)], σ)) rfl ?_
      refine wp_ret hM rfl (rfl) ?_
      first | (exact ⟨by unfold aReach; rw [if_pos (by first | exact Or.inl c37 | exact Or.inr (by omega))], h0, Fk.rf⟩) | fail
    · replace c37 := b01_ne0 (cmp_eq_f c37)
      first | (unfold isk at c37) | skip
      refine wp_go 1 hM (fr' := (42, [some (.inr 0), some (.inl k), some (.inl a), some (.inl b), some (.inl 0), none, none, none, none], [.inl 0], σ)) rfl ?_
      refine wp_if (tgt := 53) hM rfl (by decide) (by omega) (fun c42 => ?_) (fun c42 => ?_)
      · replace c42 := cmp_eq_t c42
        refine wp_go 1 hM (fr' := (54, [some (.inr 0), some (.inl k), some (.inl a), some (.inl b), some (.inl 0), none, none, none, none], [.inl (-1)], σ)) rfl ?_
        refine wp_ret hM rfl (rfl) ?_
        first | (exact ⟨by unfold aReach; rw [if_pos (by first | exact Or.inl c37 | exact Or.inr (by omega))], h0, Fk.rf⟩) | fail
      · replace c42 := cmp_eq_f c42
        refine wp_go 1 hM (fr' := (46, [some (.inr 0), some (.inl k), some (.inl a), some (.inl b), some (.inl 0), none, none, none, none], [.inl a], σ)) rfl ?_
        refine wp_if (tgt := 55) hM rfl (by decide) (by omega) (fun c46 => ?_) (fun c46 => ?_)
        · replace c46 := cmp_ne_t c46
          refine wp_go 3 hM (fr' := (60, [some (.inr 0), some (.inl k), some (.inl a), some (.inl b), some (.inl 0), none, none, none, none], [.inl k, .inr 1], σ)) rfl ?_
          refine wp_call (v := 0) (idx := 241) (j := 33) (N := mtX1_linkOf) (as := [.inr 1, .inl k]) (rest := []) hM rfl (Or.inl ⟨rfl, rfl⟩) rfl (sp_X1_linkOf v l σ k (by first | (first | assumption | omega) | fail) (by first | (first | assumption | omega) | fail) (by first | (first | assumption | omega) | fail)) ?_
          rintro r0 σ_60 ⟨rfl, hk_60, hf_60⟩
          show mz_Wp shA none 89 (63, [some (.inr 0), some (.inl k), some (.inl a), some (.inl b), some (.inl 0), none, none, none, none], [], σ_60) _
          first | (have hC_60 := CA_Fl hA0 hf_60) | skip
          first | (have hLr := Lr_lk (k := k) hT) | skip
          first | (have hlen := flT_len (f := lk1 k) (l := l) (t := (l.length : Int)) (c := 1) (fun x => lk1_le) (by omega)) | skip
          first | (rw [flT_all rfl] at hlen) | skip
          first | (have hlen2 : ((lkOf l k).length : Int) ≤ 64 := by unfold lkOf; omega) | skip
          first | (have hk := CA_pt hC_60 c37.1 c37.2) | skip
          first | (have hr := Rg_pt hR c37.1 c37.2) | skip
          first | (have hnd : ¬ (¬ isk v k ∨ ¬ (-3 ≤ a ∧ a ≤ 3 ∧ -3 ≤ b ∧ b ≤ 3) ∨ (a = 0 ∧ b = 0)) := by unfold isk; omega) | skip
          refine wp_go 5 hM (fr' := (74, [some (.inr 0), some (.inl k), some (.inl a), some (.inl b), some (.inl 0), none, none, none, none], [.inl k, .inr 18], σ_60)) rfl ?_
          refine wp_al (n := 32) hM rfl (by decide) rfl (by omega) (by omega) ?_
          first | (rw [hk.2.2.1]) | skip
          refine wp_go 6 hM (fr' := (88, [some (.inr 0), some (.inl k), some (.inl a), some (.inl b), some (.inl 0), some (.inl (gx v 1 k)), none, none, none], [.inl k, .inr 19], σ_60)) rfl ?_
          refine wp_al (n := 32) hM rfl (by decide) rfl (by omega) (by omega) ?_
          first | (rw [hk.2.2.2]) | skip
          refine wp_go 5 hM (fr' := (97, [some (.inr 0), some (.inl k), some (.inl a), some (.inl b), some (.inl 0), some (.inl (gx v 1 k)), some (.inl (gy v 1 k)), some (.inl 0), some (.inl 1)], [], σ_60)) rfl ?_
          have loop97 : ∀ (fuel : Nat) (f : Int) (i : Int), (1 ≤ i) → (i ≤ 21) → (f = i - 1) → (fstI (i - 1) (fun j => ¬ rbl v (lkOf l k) k (gx v 1 k + (j + 1) * a) (gy v 1 k + (j + 1) * b) = 0) = -1) → ((21 - i : Int) < fuel) → mz_Wp shA none 89 (97, [some (.inr 0), some (.inl k), some (.inl a), some (.inl b), some (.inl 0), some (.inl (gx v 1 k)), some (.inl (gy v 1 k)), some (.inl f), some (.inl i)], [], σ_60) (fun r σ' => r = some (aReach v l k a b) ∧ CS σ' v l ∧ Fk σ σ') := by
            intro fuel
            induction fuel with
            | zero =>
              intro f i hv97_0 hv97_1 hv97_2 hv97_3 hf97
              exfalso
              omega
            | succ fuel ih97 =>
              intro f i hv97_0 hv97_1 hv97_2 hv97_3 hf97
              have ma := mul_bd (a := i) (b := a) (m := 21) (k := 3) (by omega) (by omega) (by omega) (by omega)
              have mb := mul_bd (a := i) (b := b) (m := 21) (k := 3) (by omega) (by omega) (by omega) (by omega)
              have hrb := rbl_bd (v := v) (m := lkOf l k) (k := k) (x := gx v 1 k + i * a) (y := gy v 1 k + i * b)
              refine wp_go 2 hM (fr' := (101, [some (.inr 0), some (.inl k), some (.inl a), some (.inl b), some (.inl 0), some (.inl (gx v 1 k)), some (.inl (gy v 1 k)), some (.inl f), some (.inl i)], [.inl 20, .inl i], σ_60)) rfl ?_
              refine wp_ic (tgt := 142) hM rfl (by decide) (by omega) (by omega) (fun c101 => ?_) (fun c101 => ?_)
              · replace c101 := cmp_gt_t c101
                refine wp_go 1 hM (fr' := (144, [some (.inr 0), some (.inl k), some (.inl a), some (.inl b), some (.inl 0), some (.inl (gx v 1 k)), some (.inl (gy v 1 k)), some (.inl f), some (.inl i)], [.inl f], σ_60)) rfl ?_
                refine wp_ret hM rfl (rfl) ?_
                first | (first | exact ⟨by unfold aReach rcN; rw [if_neg hnd, show (20 : Int) = i - 1 by omega, hv97_3, if_pos rfl, hv97_2], CS_Fl h0 hf_60, Fk_Fl hf_60⟩ | exact ⟨by unfold aReach rcN; rw [if_neg hnd, fstI_yes (t := i - 1) (P := (fun j => ¬ rbl v (lkOf l k) k (gx v 1 k + (j + 1) * a) (gy v 1 k + (j + 1) * b) = 0)) (by omega) (by omega) hv97_3 (by show ¬ _ = 0; rw [show i - 1 + 1 = i by omega]; omega), if_neg (by omega), hv97_2], CS_Fl h0 hf_60, Fk_Fl hf_60⟩) | fail
              · replace c101 := cmp_gt_f c101
                refine wp_go 13 hM (fr' := (123, [some (.inr 0), some (.inl k), some (.inl a), some (.inl b), some (.inl 0), some (.inl (gx v 1 k)), some (.inl (gy v 1 k)), some (.inl f), some (.inl i)], [.inl ((gy v 1 k) + (i * b)), .inl ((gx v 1 k) + (i * a)), .inl k, .inr 1], σ_60)) rfl ?_
                refine wp_calld (v := 0) (idx := 248) (j := 34) (N := mtX1_reasonByLink) (as := [.inr 1, .inl k, .inl ((gx v 1 k) + (i * a)), .inl ((gy v 1 k) + (i * b))]) (rest := []) hM rfl (Or.inl ⟨rfl, rfl⟩) rfl (sp_X1_reasonByLink v l (lkOf l k) σ_60 k ((gx v 1 k) + (i * a)) ((gy v 1 k) + (i * b)) (by first | (first | assumption | omega) | fail) (by first | (first | assumption | omega) | fail) (by first | (first | assumption | omega) | fail) (by first | (first | assumption | omega) | fail) (by first | (first | assumption | omega) | fail) (by first | (first | assumption | omega) | fail) (by first | (first | assumption | omega) | fail) (by first | (first | assumption | omega) | fail) (by first | (first | assumption | omega) | fail)) ?_
                show mz_Wp shA none 89 (126, [some (.inr 0), some (.inl k), some (.inl a), some (.inl b), some (.inl 0), some (.inl (gx v 1 k)), some (.inl (gy v 1 k)), some (.inl f), some (.inl i)], [.inl (rbl v (lkOf l k) k ((gx v 1 k) + (i * a)) ((gy v 1 k) + (i * b)))], σ_60) _
                refine wp_if (tgt := 132) hM rfl (by decide) (by omega) (fun c126 => ?_) (fun c126 => ?_)
                · replace c126 := cmp_eq_t c126
                  refine wp_go 4 hM (fr' := (97, [some (.inr 0), some (.inl k), some (.inl a), some (.inl b), some (.inl 0), some (.inl (gx v 1 k)), some (.inl (gy v 1 k)), some (.inl i), some (.inl (i + 1))], [], σ_60)) rfl ?_
                  exact ih97 i (i + 1) (by omega) (by omega) (by omega) (by first | (rw [show i + 1 - 1 = (i - 1) + 1 by omega]; exact fstI_no (by omega) hv97_3 (by rw [show i - 1 + 1 = i by omega]; omega)) | fail) (by omega)
                · replace c126 := cmp_eq_f c126
                  refine wp_go 2 hM (fr' := (144, [some (.inr 0), some (.inl k), some (.inl a), some (.inl b), some (.inl 0), some (.inl (gx v 1 k)), some (.inl (gy v 1 k)), some (.inl f), some (.inl i)], [.inl f], σ_60)) rfl ?_
                  refine wp_ret hM rfl (rfl) ?_
                  first | (first | exact ⟨by unfold aReach rcN; rw [if_neg hnd, show (20 : Int) = i - 1 by omega, hv97_3, if_pos rfl, hv97_2], CS_Fl h0 hf_60, Fk_Fl hf_60⟩ | exact ⟨by unfold aReach rcN; rw [if_neg hnd, fstI_yes (t := i - 1) (P := (fun j => ¬ rbl v (lkOf l k) k (gx v 1 k + (j + 1) * a) (gy v 1 k + (j + 1) * b) = 0)) (by omega) (by omega) hv97_3 (by show ¬ _ = 0; rw [show i - 1 + 1 = i by omega]; omega), if_neg (by omega), hv97_2], CS_Fl h0 hf_60, Fk_Fl hf_60⟩) | fail
          exact loop97 22 0 1 (by omega) (by omega) (by omega) (by rfl) (by omega)
        · replace c46 := cmp_ne_f c46
          refine wp_go 1 hM (fr' := (50, [some (.inr 0), some (.inl k), some (.inl a), some (.inl b), some (.inl 0), none, none, none, none], [.inl b], σ)) rfl ?_
          refine wp_if (tgt := 55) hM rfl (by decide) (by omega) (fun c50 => ?_) (fun c50 => ?_)
          · replace c50 := cmp_ne_t c50
            refine wp_go 3 hM (fr' := (60, [some (.inr 0), some (.inl k), some (.inl a), some (.inl b), some (.inl 0), none, none, none, none], [.inl k, .inr 1], σ)) rfl ?_
            refine wp_call (v := 0) (idx := 241) (j := 33) (N := mtX1_linkOf) (as := [.inr 1, .inl k]) (rest := []) hM rfl (Or.inl ⟨rfl, rfl⟩) rfl (sp_X1_linkOf v l σ k (by first | (first | assumption | omega) | fail) (by first | (first | assumption | omega) | fail) (by first | (first | assumption | omega) | fail)) ?_
            rintro r0 σ_60 ⟨rfl, hk_60, hf_60⟩
            show mz_Wp shA none 89 (63, [some (.inr 0), some (.inl k), some (.inl a), some (.inl b), some (.inl 0), none, none, none, none], [], σ_60) _
            first | (have hC_60 := CA_Fl hA0 hf_60) | skip
            first | (have hLr := Lr_lk (k := k) hT) | skip
            first | (have hlen := flT_len (f := lk1 k) (l := l) (t := (l.length : Int)) (c := 1) (fun x => lk1_le) (by omega)) | skip
            first | (rw [flT_all rfl] at hlen) | skip
            first | (have hlen2 : ((lkOf l k).length : Int) ≤ 64 := by unfold lkOf; omega) | skip
            first | (have hk := CA_pt hC_60 c37.1 c37.2) | skip
            first | (have hr := Rg_pt hR c37.1 c37.2) | skip
            first | (have hnd : ¬ (¬ isk v k ∨ ¬ (-3 ≤ a ∧ a ≤ 3 ∧ -3 ≤ b ∧ b ≤ 3) ∨ (a = 0 ∧ b = 0)) := by unfold isk; omega) | skip
            refine wp_go 5 hM (fr' := (74, [some (.inr 0), some (.inl k), some (.inl a), some (.inl b), some (.inl 0), none, none, none, none], [.inl k, .inr 18], σ_60)) rfl ?_
            refine wp_al (n := 32) hM rfl (by decide) rfl (by omega) (by omega) ?_
            first | (rw [hk.2.2.1]) | skip
            refine wp_go 6 hM (fr' := (88, [some (.inr 0), some (.inl k), some (.inl a), some (.inl b), some (.inl 0), some (.inl (gx v 1 k)), none, none, none], [.inl k, .inr 19], σ_60)) rfl ?_
            refine wp_al (n := 32) hM rfl (by decide) rfl (by omega) (by omega) ?_
            first | (rw [hk.2.2.2]) | skip
            refine wp_go 5 hM (fr' := (97, [some (.inr 0), some (.inl k), some (.inl a), some (.inl b), some (.inl 0), some (.inl (gx v 1 k)), some (.inl (gy v 1 k)), some (.inl 0), some (.inl 1)], [], σ_60)) rfl ?_
            have loop97 : ∀ (fuel : Nat) (f : Int) (i : Int), (1 ≤ i) → (i ≤ 21) → (f = i - 1) → (fstI (i - 1) (fun j => ¬ rbl v (lkOf l k) k (gx v 1 k + (j + 1) * a) (gy v 1 k + (j + 1) * b) = 0) = -1) → ((21 - i : Int) < fuel) → mz_Wp shA none 89 (97, [some (.inr 0), some (.inl k), some (.inl a), some (.inl b), some (.inl 0), some (.inl (gx v 1 k)), some (.inl (gy v 1 k)), some (.inl f), some (.inl i)], [], σ_60) (fun r σ' => r = some (aReach v l k a b) ∧ CS σ' v l ∧ Fk σ σ') := by
              intro fuel
              induction fuel with
              | zero =>
                intro f i hv97_0 hv97_1 hv97_2 hv97_3 hf97
                exfalso
                omega
              | succ fuel ih97 =>
                intro f i hv97_0 hv97_1 hv97_2 hv97_3 hf97
                have ma := mul_bd (a := i) (b := a) (m := 21) (k := 3) (by omega) (by omega) (by omega) (by omega)
                have mb := mul_bd (a := i) (b := b) (m := 21) (k := 3) (by omega) (by omega) (by omega) (by omega)
                have hrb := rbl_bd (v := v) (m := lkOf l k) (k := k) (x := gx v 1 k + i * a) (y := gy v 1 k + i * b)
                refine wp_go 2 hM (fr' := (101, [some (.inr 0), some (.inl k), some (.inl a), some (.inl b), some (.inl 0), some (.inl (gx v 1 k)), some (.inl (gy v 1 k)), some (.inl f), some (.inl i)], [.inl 20, .inl i], σ_60)) rfl ?_
                refine wp_ic (tgt := 142) hM rfl (by decide) (by omega) (by omega) (fun c101 => ?_) (fun c101 => ?_)
                · replace c101 := cmp_gt_t c101
                  refine wp_go 1 hM (fr' := (144, [some (.inr 0), some (.inl k), some (.inl a), some (.inl b), some (.inl 0), some (.inl (gx v 1 k)), some (.inl (gy v 1 k)), some (.inl f), some (.inl i)], [.inl f], σ_60)) rfl ?_
                  refine wp_ret hM rfl (rfl) ?_
                  first | (first | exact ⟨by unfold aReach rcN; rw [if_neg hnd, show (20 : Int) = i - 1 by omega, hv97_3, if_pos rfl, hv97_2], CS_Fl h0 hf_60, Fk_Fl hf_60⟩ | exact ⟨by unfold aReach rcN; rw [if_neg hnd, fstI_yes (t := i - 1) (P := (fun j => ¬ rbl v (lkOf l k) k (gx v 1 k + (j + 1) * a) (gy v 1 k + (j + 1) * b) = 0)) (by omega) (by omega) hv97_3 (by show ¬ _ = 0; rw [show i - 1 + 1 = i by omega]; omega), if_neg (by omega), hv97_2], CS_Fl h0 hf_60, Fk_Fl hf_60⟩) | fail
                · replace c101 := cmp_gt_f c101
                  refine wp_go 13 hM (fr' := (123, [some (.inr 0), some (.inl k), some (.inl a), some (.inl b), some (.inl 0), some (.inl (gx v 1 k)), some (.inl (gy v 1 k)), some (.inl f), some (.inl i)], [.inl ((gy v 1 k) + (i * b)), .inl ((gx v 1 k) + (i * a)), .inl k, .inr 1], σ_60)) rfl ?_
                  refine wp_calld (v := 0) (idx := 248) (j := 34) (N := mtX1_reasonByLink) (as := [.inr 1, .inl k, .inl ((gx v 1 k) + (i * a)), .inl ((gy v 1 k) + (i * b))]) (rest := []) hM rfl (Or.inl ⟨rfl, rfl⟩) rfl (sp_X1_reasonByLink v l (lkOf l k) σ_60 k ((gx v 1 k) + (i * a)) ((gy v 1 k) + (i * b)) (by first | (first | assumption | omega) | fail) (by first | (first | assumption | omega) | fail) (by first | (first | assumption | omega) | fail) (by first | (first | assumption | omega) | fail) (by first | (first | assumption | omega) | fail) (by first | (first | assumption | omega) | fail) (by first | (first | assumption | omega) | fail) (by first | (first | assumption | omega) | fail) (by first | (first | assumption | omega) | fail)) ?_
                  show mz_Wp shA none 89 (126, [some (.inr 0), some (.inl k), some (.inl a), some (.inl b), some (.inl 0), some (.inl (gx v 1 k)), some (.inl (gy v 1 k)), some (.inl f), some (.inl i)], [.inl (rbl v (lkOf l k) k ((gx v 1 k) + (i * a)) ((gy v 1 k) + (i * b)))], σ_60) _
                  refine wp_if (tgt := 132) hM rfl (by decide) (by omega) (fun c126 => ?_) (fun c126 => ?_)
                  · replace c126 := cmp_eq_t c126
                    refine wp_go 4 hM (fr' := (97, [some (.inr 0), some (.inl k), some (.inl a), some (.inl b), some (.inl 0), some (.inl (gx v 1 k)), some (.inl (gy v 1 k)), some (.inl i), some (.inl (i + 1))], [], σ_60)) rfl ?_
                    exact ih97 i (i + 1) (by omega) (by omega) (by omega) (by first | (rw [show i + 1 - 1 = (i - 1) + 1 by omega]; exact fstI_no (by omega) hv97_3 (by rw [show i - 1 + 1 = i by omega]; omega)) | fail) (by omega)
                  · replace c126 := cmp_eq_f c126
                    refine wp_go 2 hM (fr' := (144, [some (.inr 0), some (.inl k), some (.inl a), some (.inl b), some (.inl 0), some (.inl (gx v 1 k)), some (.inl (gy v 1 k)), some (.inl f), some (.inl i)], [.inl f], σ_60)) rfl ?_
                    refine wp_ret hM rfl (rfl) ?_
                    first | (first | exact ⟨by unfold aReach rcN; rw [if_neg hnd, show (20 : Int) = i - 1 by omega, hv97_3, if_pos rfl, hv97_2], CS_Fl h0 hf_60, Fk_Fl hf_60⟩ | exact ⟨by unfold aReach rcN; rw [if_neg hnd, fstI_yes (t := i - 1) (P := (fun j => ¬ rbl v (lkOf l k) k (gx v 1 k + (j + 1) * a) (gy v 1 k + (j + 1) * b) = 0)) (by omega) (by omega) hv97_3 (by show ¬ _ = 0; rw [show i - 1 + 1 = i by omega]; omega), if_neg (by omega), hv97_2], CS_Fl h0 hf_60, Fk_Fl hf_60⟩) | fail
            exact loop97 22 0 1 (by omega) (by omega) (by omega) (by rfl) (by omega)
          · replace c50 := cmp_ne_f c50
            refine wp_go 1 hM (fr' := (54, [some (.inr 0), some (.inl k), some (.inl a), some (.inl b), some (.inl 0), none, none, none, none], [.inl (-1)], σ)) rfl ?_
            refine wp_ret hM rfl (rfl) ?_
            first | (exact ⟨by unfold aReach; rw [if_pos (by first | exact Or.inl c37 | exact Or.inr (by omega))], h0, Fk.rf⟩) | fail
  · replace c3 := cmp_lt_f c3
    refine wp_go 2 hM (fr' := (8, [some (.inr 0), some (.inl k), some (.inl a), some (.inl b), none, none, none, none, none], [.inl 3, .inl a], σ)) rfl ?_
    refine wp_ic (tgt := 26) hM rfl (by decide) (by omega) (by omega) (fun c8 => ?_) (fun c8 => ?_)
    · replace c8 := cmp_gt_t c8
      refine wp_go 5 hM (fr' := (34, [some (.inr 0), some (.inl k), some (.inl a), some (.inl b), some (.inl 0), none, none, none, none], [.inl k, .inr 1], σ)) rfl ?_
      refine wp_calld (v := 0) (idx := 137) (j := 12) (N := mtX1_isKnot) (as := [.inr 1, .inl k]) (rest := []) hM rfl (Or.inl ⟨rfl, rfl⟩) rfl (sp_X1_isKnot v l σ k (by first | (first | assumption | omega) | fail) (by first | (first | assumption | omega) | fail) (by first | (first | assumption | omega) | fail)) ?_
      show mz_Wp shA none 89 (37, [some (.inr 0), some (.inl k), some (.inl a), some (.inl b), some (.inl 0), none, none, none, none], [.inl (b01 (isk v k))], σ) _
      refine wp_if (tgt := 53) hM rfl (by decide) b01_R (fun c37 => ?_) (fun c37 => ?_)
      · replace c37 := b01_eq0 (cmp_eq_t c37)
        refine wp_go 1 hM (fr' := (54, [some (.inr 0), some (.inl k), some (.inl a), some (.inl b), some (.inl 0), none, none, none, none], [.inl (-1)], σ)) rfl ?_
        refine wp_ret hM rfl (rfl) ?_
        first | (exact ⟨by unfold aReach; rw [if_pos (by first | exact Or.inl c37 | exact Or.inr (by omega))], h0, Fk.rf⟩) | fail
      · replace c37 := b01_ne0 (cmp_eq_f c37)
        first | (unfold isk at c37) | skip
        refine wp_go 1 hM (fr' := (42, [some (.inr 0), some (.inl k), some (.inl a), some (.inl b), some (.inl 0), none, none, none, none], [.inl 0], σ)) rfl ?_
        refine wp_if (tgt := 53) hM rfl (by decide) (by omega) (fun c42 => ?_) (fun c42 => ?_)
        · replace c42 := cmp_eq_t c42
          refine wp_go 1 hM (fr' := (54, [some (.inr 0), some (.inl k), some (.inl a), some (.inl b), some (.inl 0), none, none, none, none], [.inl (-1)], σ)) rfl ?_
          refine wp_ret hM rfl (rfl) ?_
          first | (exact ⟨by unfold aReach; rw [if_pos (by first | exact Or.inl c37 | exact Or.inr (by omega))], h0, Fk.rf⟩) | fail
        · replace c42 := cmp_eq_f c42
          refine wp_go 1 hM (fr' := (46, [some (.inr 0), some (.inl k), some (.inl a), some (.inl b), some (.inl 0), none, none, none, none], [.inl a], σ)) rfl ?_
          refine wp_if (tgt := 55) hM rfl (by decide) (by omega) (fun c46 => ?_) (fun c46 => ?_)
          · replace c46 := cmp_ne_t c46
            refine wp_go 3 hM (fr' := (60, [some (.inr 0), some (.inl k), some (.inl a), some (.inl b), some (.inl 0), none, none, none, none], [.inl k, .inr 1], σ)) rfl ?_
            refine wp_call (v := 0) (idx := 241) (j := 33) (N := mtX1_linkOf) (as := [.inr 1, .inl k]) (rest := []) hM rfl (Or.inl ⟨rfl, rfl⟩) rfl (sp_X1_linkOf v l σ k (by first | (first | assumption | omega) | fail) (by first | (first | assumption | omega) | fail) (by first | (first | assumption | omega) | fail)) ?_
            rintro r0 σ_60 ⟨rfl, hk_60, hf_60⟩
            show mz_Wp shA none 89 (63, [some (.inr 0), some (.inl k), some (.inl a), some (.inl b), some (.inl 0), none, none, none, none], [], σ_60) _
            first | (have hC_60 := CA_Fl hA0 hf_60) | skip
            first | (have hLr := Lr_lk (k := k) hT) | skip
            first | (have hlen := flT_len (f := lk1 k) (l := l) (t := (l.length : Int)) (c := 1) (fun x => lk1_le) (by omega)) | skip
            first | (rw [flT_all rfl] at hlen) | skip
            first | (have hlen2 : ((lkOf l k).length : Int) ≤ 64 := by unfold lkOf; omega) | skip
            first | (have hk := CA_pt hC_60 c37.1 c37.2) | skip
            first | (have hr := Rg_pt hR c37.1 c37.2) | skip
            first | (have hnd : ¬ (¬ isk v k ∨ ¬ (-3 ≤ a ∧ a ≤ 3 ∧ -3 ≤ b ∧ b ≤ 3) ∨ (a = 0 ∧ b = 0)) := by unfold isk; omega) | skip
            refine wp_go 5 hM (fr' := (74, [some (.inr 0), some (.inl k), some (.inl a), some (.inl b), some (.inl 0), none, none, none, none], [.inl k, .inr 18], σ_60)) rfl ?_
            refine wp_al (n := 32) hM rfl (by decide) rfl (by omega) (by omega) ?_
            first | (rw [hk.2.2.1]) | skip
            refine wp_go 6 hM (fr' := (88, [some (.inr 0), some (.inl k), some (.inl a), some (.inl b), some (.inl 0), some (.inl (gx v 1 k)), none, none, none], [.inl k, .inr 19], σ_60)) rfl ?_
            refine wp_al (n := 32) hM rfl (by decide) rfl (by omega) (by omega) ?_
            first | (rw [hk.2.2.2]) | skip
            refine wp_go 5 hM (fr' := (97, [some (.inr 0), some (.inl k), some (.inl a), some (.inl b), some (.inl 0), some (.inl (gx v 1 k)), some (.inl (gy v 1 k)), some (.inl 0), some (.inl 1)], [], σ_60)) rfl ?_
            have loop97 : ∀ (fuel : Nat) (f : Int) (i : Int), (1 ≤ i) → (i ≤ 21) → (f = i - 1) → (fstI (i - 1) (fun j => ¬ rbl v (lkOf l k) k (gx v 1 k + (j + 1) * a) (gy v 1 k + (j + 1) * b) = 0) = -1) → ((21 - i : Int) < fuel) → mz_Wp shA none 89 (97, [some (.inr 0), some (.inl k), some (.inl a), some (.inl b), some (.inl 0), some (.inl (gx v 1 k)), some (.inl (gy v 1 k)), some (.inl f), some (.inl i)], [], σ_60) (fun r σ' => r = some (aReach v l k a b) ∧ CS σ' v l ∧ Fk σ σ') := by
              intro fuel
              induction fuel with
              | zero =>
                intro f i hv97_0 hv97_1 hv97_2 hv97_3 hf97
                exfalso
                omega
              | succ fuel ih97 =>
                intro f i hv97_0 hv97_1 hv97_2 hv97_3 hf97
                have ma := mul_bd (a := i) (b := a) (m := 21) (k := 3) (by omega) (by omega) (by omega) (by omega)
                have mb := mul_bd (a := i) (b := b) (m := 21) (k := 3) (by omega) (by omega) (by omega) (by omega)
                have hrb := rbl_bd (v := v) (m := lkOf l k) (k := k) (x := gx v 1 k + i * a) (y := gy v 1 k + i * b)
                refine wp_go 2 hM (fr' := (101, [some (.inr 0), some (.inl k), some (.inl a), some (.inl b), some (.inl 0), some (.inl (gx v 1 k)), some (.inl (gy v 1 k)), some (.inl f), some (.inl i)], [.inl 20, .inl i], σ_60)) rfl ?_
                refine wp_ic (tgt := 142) hM rfl (by decide) (by omega) (by omega) (fun c101 => ?_) (fun c101 => ?_)
                · replace c101 := cmp_gt_t c101
                  refine wp_go 1 hM (fr' := (144, [some (.inr 0), some (.inl k), some (.inl a), some (.inl b), some (.inl 0), some (.inl (gx v 1 k)), some (.inl (gy v 1 k)), some (.inl f), some (.inl i)], [.inl f], σ_60)) rfl ?_
                  refine wp_ret hM rfl (rfl) ?_
                  first | (first | exact ⟨by unfold aReach rcN; rw [if_neg hnd, show (20 : Int) = i - 1 by omega, hv97_3, if_pos rfl, hv97_2], CS_Fl h0 hf_60, Fk_Fl hf_60⟩ | exact ⟨by unfold aReach rcN; rw [if_neg hnd, fstI_yes (t := i - 1) (P := (fun j => ¬ rbl v (lkOf l k) k (gx v 1 k + (j + 1) * a) (gy v 1 k + (j + 1) * b) = 0)) (by omega) (by omega) hv97_3 (by show ¬ _ = 0; rw [show i - 1 + 1 = i by omega]; omega), if_neg (by omega), hv97_2], CS_Fl h0 hf_60, Fk_Fl hf_60⟩) | fail
                · replace c101 := cmp_gt_f c101
                  refine wp_go 13 hM (fr' := (123, [some (.inr 0), some (.inl k), some (.inl a), some (.inl b), some (.inl 0), some (.inl (gx v 1 k)), some (.inl (gy v 1 k)), some (.inl f), some (.inl i)], [.inl ((gy v 1 k) + (i * b)), .inl ((gx v 1 k) + (i * a)), .inl k, .inr 1], σ_60)) rfl ?_
                  refine wp_calld (v := 0) (idx := 248) (j := 34) (N := mtX1_reasonByLink) (as := [.inr 1, .inl k, .inl ((gx v 1 k) + (i * a)), .inl ((gy v 1 k) + (i * b))]) (rest := []) hM rfl (Or.inl ⟨rfl, rfl⟩) rfl (sp_X1_reasonByLink v l (lkOf l k) σ_60 k ((gx v 1 k) + (i * a)) ((gy v 1 k) + (i * b)) (by first | (first | assumption | omega) | fail) (by first | (first | assumption | omega) | fail) (by first | (first | assumption | omega) | fail) (by first | (first | assumption | omega) | fail) (by first | (first | assumption | omega) | fail) (by first | (first | assumption | omega) | fail) (by first | (first | assumption | omega) | fail) (by first | (first | assumption | omega) | fail) (by first | (first | assumption | omega) | fail)) ?_
                  show mz_Wp shA none 89 (126, [some (.inr 0), some (.inl k), some (.inl a), some (.inl b), some (.inl 0), some (.inl (gx v 1 k)), some (.inl (gy v 1 k)), some (.inl f), some (.inl i)], [.inl (rbl v (lkOf l k) k ((gx v 1 k) + (i * a)) ((gy v 1 k) + (i * b)))], σ_60) _
                  refine wp_if (tgt := 132) hM rfl (by decide) (by omega) (fun c126 => ?_) (fun c126 => ?_)
                  · replace c126 := cmp_eq_t c126
                    refine wp_go 4 hM (fr' := (97, [some (.inr 0), some (.inl k), some (.inl a), some (.inl b), some (.inl 0), some (.inl (gx v 1 k)), some (.inl (gy v 1 k)), some (.inl i), some (.inl (i + 1))], [], σ_60)) rfl ?_
                    exact ih97 i (i + 1) (by omega) (by omega) (by omega) (by first | (rw [show i + 1 - 1 = (i - 1) + 1 by omega]; exact fstI_no (by omega) hv97_3 (by rw [show i - 1 + 1 = i by omega]; omega)) | fail) (by omega)
                  · replace c126 := cmp_eq_f c126
                    refine wp_go 2 hM (fr' := (144, [some (.inr 0), some (.inl k), some (.inl a), some (.inl b), some (.inl 0), some (.inl (gx v 1 k)), some (.inl (gy v 1 k)), some (.inl f), some (.inl i)], [.inl f], σ_60)) rfl ?_
                    refine wp_ret hM rfl (rfl) ?_
                    first | (first | exact ⟨by unfold aReach rcN; rw [if_neg hnd, show (20 : Int) = i - 1 by omega, hv97_3, if_pos rfl, hv97_2], CS_Fl h0 hf_60, Fk_Fl hf_60⟩ | exact ⟨by unfold aReach rcN; rw [if_neg hnd, fstI_yes (t := i - 1) (P := (fun j => ¬ rbl v (lkOf l k) k (gx v 1 k + (j + 1) * a) (gy v 1 k + (j + 1) * b) = 0)) (by omega) (by omega) hv97_3 (by show ¬ _ = 0; rw [show i - 1 + 1 = i by omega]; omega), if_neg (by omega), hv97_2], CS_Fl h0 hf_60, Fk_Fl hf_60⟩) | fail
            exact loop97 22 0 1 (by omega) (by omega) (by omega) (by rfl) (by omega)
          · replace c46 := cmp_ne_f c46
            refine wp_go 1 hM (fr' := (50, [some (.inr 0), some (.inl k), some (.inl a), some (.inl b), some (.inl 0), none, none, none, none], [.inl b], σ)) rfl ?_
            refine wp_if (tgt := 55) hM rfl (by decide) (by omega) (fun c50 => ?_) (fun c50 => ?_)
            · replace c50 := cmp_ne_t c50
              refine wp_go 3 hM (fr' := (60, [some (.inr 0), some (.inl k), some (.inl a), some (.inl b), some (.inl 0), none, none, none, none], [.inl k, .inr 1], σ)) rfl ?_
              refine wp_call (v := 0) (idx := 241) (j := 33) (N := mtX1_linkOf) (as := [.inr 1, .inl k]) (rest := []) hM rfl (Or.inl ⟨rfl, rfl⟩) rfl (sp_X1_linkOf v l σ k (by first | (first | assumption | omega) | fail) (by first | (first | assumption | omega) | fail) (by first | (first | assumption | omega) | fail)) ?_
              rintro r0 σ_60 ⟨rfl, hk_60, hf_60⟩
              show mz_Wp shA none 89 (63, [some (.inr 0), some (.inl k), some (.inl a), some (.inl b), some (.inl 0), none, none, none, none], [], σ_60) _
              first | (have hC_60 := CA_Fl hA0 hf_60) | skip
              first | (have hLr := Lr_lk (k := k) hT) | skip
              first | (have hlen := flT_len (f := lk1 k) (l := l) (t := (l.length : Int)) (c := 1) (fun x => lk1_le) (by omega)) | skip
              first | (rw [flT_all rfl] at hlen) | skip
              first | (have hlen2 : ((lkOf l k).length : Int) ≤ 64 := by unfold lkOf; omega) | skip
              first | (have hk := CA_pt hC_60 c37.1 c37.2) | skip
              first | (have hr := Rg_pt hR c37.1 c37.2) | skip
              first | (have hnd : ¬ (¬ isk v k ∨ ¬ (-3 ≤ a ∧ a ≤ 3 ∧ -3 ≤ b ∧ b ≤ 3) ∨ (a = 0 ∧ b = 0)) := by unfold isk; omega) | skip
              refine wp_go 5 hM (fr' := (74, [some (.inr 0), some (.inl k), some (.inl a), some (.inl b), some (.inl 0), none, none, none, none], [.inl k, .inr 18], σ_60)) rfl ?_
              refine wp_al (n := 32) hM rfl (by decide) rfl (by omega) (by omega) ?_
              first | (rw [hk.2.2.1]) | skip
              refine wp_go 6 hM (fr' := (88, [some (.inr 0), some (.inl k), some (.inl a), some (.inl b), some (.inl 0), some (.inl (gx v 1 k)), none, none, none], [.inl k, .inr 19], σ_60)) rfl ?_
              refine wp_al (n := 32) hM rfl (by decide) rfl (by omega) (by omega) ?_
              first | (rw [hk.2.2.2]) | skip
              refine wp_go 5 hM (fr' := (97, [some (.inr 0), some (.inl k), some (.inl a), some (.inl b), some (.inl 0), some (.inl (gx v 1 k)), some (.inl (gy v 1 k)), some (.inl 0), some (.inl 1)], [], σ_60)) rfl ?_
              have loop97 : ∀ (fuel : Nat) (f : Int) (i : Int), (1 ≤ i) → (i ≤ 21) → (f = i - 1) → (fstI (i - 1) (fun j => ¬ rbl v (lkOf l k) k (gx v 1 k + (j + 1) * a) (gy v 1 k + (j + 1) * b) = 0) = -1) → ((21 - i : Int) < fuel) → mz_Wp shA none 89 (97, [some (.inr 0), some (.inl k), some (.inl a), some (.inl b), some (.inl 0), some (.inl (gx v 1 k)), some (.inl (gy v 1 k)), some (.inl f), some (.inl i)], [], σ_60) (fun r σ' => r = some (aReach v l k a b) ∧ CS σ' v l ∧ Fk σ σ') := by
                intro fuel
                induction fuel with
                | zero =>
                  intro f i hv97_0 hv97_1 hv97_2 hv97_3 hf97
                  exfalso
                  omega
                | succ fuel ih97 =>
                  intro f i hv97_0 hv97_1 hv97_2 hv97_3 hf97
                  have ma := mul_bd (a := i) (b := a) (m := 21) (k := 3) (by omega) (by omega) (by omega) (by omega)
                  have mb := mul_bd (a := i) (b := b) (m := 21) (k := 3) (by omega) (by omega) (by omega) (by omega)
                  have hrb := rbl_bd (v := v) (m := lkOf l k) (k := k) (x := gx v 1 k + i * a) (y := gy v 1 k + i * b)
                  refine wp_go 2 hM (fr' := (101, [some (.inr 0), some (.inl k), some (.inl a), some (.inl b), some (.inl 0), some (.inl (gx v 1 k)), some (.inl (gy v 1 k)), some (.inl f), some (.inl i)], [.inl 20, .inl i], σ_60)) rfl ?_
                  refine wp_ic (tgt := 142) hM rfl (by decide) (by omega) (by omega) (fun c101 => ?_) (fun c101 => ?_)
                  · replace c101 := cmp_gt_t c101
                    refine wp_go 1 hM (fr' := (144, [some (.inr 0), some (.inl k), some (.inl a), some (.inl b), some (.inl 0), some (.inl (gx v 1 k)), some (.inl (gy v 1 k)), some (.inl f), some (.inl i)], [.inl f], σ_60)) rfl ?_
                    refine wp_ret hM rfl (rfl) ?_
                    first | (first | exact ⟨by unfold aReach rcN; rw [if_neg hnd, show (20 : Int) = i - 1 by omega, hv97_3, if_pos rfl, hv97_2], CS_Fl h0 hf_60, Fk_Fl hf_60⟩ | exact ⟨by unfold aReach rcN; rw [if_neg hnd, fstI_yes (t := i - 1) (P := (fun j => ¬ rbl v (lkOf l k) k (gx v 1 k + (j + 1) * a) (gy v 1 k + (j + 1) * b) = 0)) (by omega) (by omega) hv97_3 (by show ¬ _ = 0; rw [show i - 1 + 1 = i by omega]; omega), if_neg (by omega), hv97_2], CS_Fl h0 hf_60, Fk_Fl hf_60⟩) | fail
                  · replace c101 := cmp_gt_f c101
                    refine wp_go 13 hM (fr' := (123, [some (.inr 0), some (.inl k), some (.inl a), some (.inl b), some (.inl 0), some (.inl (gx v 1 k)), some (.inl (gy v 1 k)), some (.inl f), some (.inl i)], [.inl ((gy v 1 k) + (i * b)), .inl ((gx v 1 k) + (i * a)), .inl k, .inr 1], σ_60)) rfl ?_
                    refine wp_calld (v := 0) (idx := 248) (j := 34) (N := mtX1_reasonByLink) (as := [.inr 1, .inl k, .inl ((gx v 1 k) + (i * a)), .inl ((gy v 1 k) + (i * b))]) (rest := []) hM rfl (Or.inl ⟨rfl, rfl⟩) rfl (sp_X1_reasonByLink v l (lkOf l k) σ_60 k ((gx v 1 k) + (i * a)) ((gy v 1 k) + (i * b)) (by first | (first | assumption | omega) | fail) (by first | (first | assumption | omega) | fail) (by first | (first | assumption | omega) | fail) (by first | (first | assumption | omega) | fail) (by first | (first | assumption | omega) | fail) (by first | (first | assumption | omega) | fail) (by first | (first | assumption | omega) | fail) (by first | (first | assumption | omega) | fail) (by first | (first | assumption | omega) | fail)) ?_
                    show mz_Wp shA none 89 (126, [some (.inr 0), some (.inl k), some (.inl a), some (.inl b), some (.inl 0), some (.inl (gx v 1 k)), some (.inl (gy v 1 k)), some (.inl f), some (.inl i)], [.inl (rbl v (lkOf l k) k ((gx v 1 k) + (i * a)) ((gy v 1 k) + (i * b)))], σ_60) _
                    refine wp_if (tgt := 132) hM rfl (by decide) (by omega) (fun c126 => ?_) (fun c126 => ?_)
                    · replace c126 := cmp_eq_t c126
                      refine wp_go 4 hM (fr' := (97, [some (.inr 0), some (.inl k), some (.inl a), some (.inl b), some (.inl 0), some (.inl (gx v 1 k)), some (.inl (gy v 1 k)), some (.inl i), some (.inl (i + 1))], [], σ_60)) rfl ?_
                      exact ih97 i (i + 1) (by omega) (by omega) (by omega) (by first | (rw [show i + 1 - 1 = (i - 1) + 1 by omega]; exact fstI_no (by omega) hv97_3 (by rw [show i - 1 + 1 = i by omega]; omega)) | fail) (by omega)
                    · replace c126 := cmp_eq_f c126
                      refine wp_go 2 hM (fr' := (144, [some (.inr 0), some (.inl k), some (.inl a), some (.inl b), some (.inl 0), some (.inl (gx v 1 k)), some (.inl (gy v 1 k)), some (.inl f), some (.inl i)], [.inl f], σ_60)) rfl ?_
                      refine wp_ret hM rfl (rfl) ?_
                      first | (first | exact ⟨by unfold aReach rcN; rw [if_neg hnd, show (20 : Int) = i - 1 by omega, hv97_3, if_pos rfl, hv97_2], CS_Fl h0 hf_60, Fk_Fl hf_60⟩ | exact ⟨by unfold aReach rcN; rw [if_neg hnd, fstI_yes (t := i - 1) (P := (fun j => ¬ rbl v (lkOf l k) k (gx v 1 k + (j + 1) * a) (gy v 1 k + (j + 1) * b) = 0)) (by omega) (by omega) hv97_3 (by show ¬ _ = 0; rw [show i - 1 + 1 = i by omega]; omega), if_neg (by omega), hv97_2], CS_Fl h0 hf_60, Fk_Fl hf_60⟩) | fail
              exact loop97 22 0 1 (by omega) (by omega) (by omega) (by rfl) (by omega)
            · replace c50 := cmp_ne_f c50
              refine wp_go 1 hM (fr' := (54, [some (.inr 0), some (.inl k), some (.inl a), some (.inl b), some (.inl 0), none, none, none, none], [.inl (-1)], σ)) rfl ?_
              refine wp_ret hM rfl (rfl) ?_
              first | (exact ⟨by unfold aReach; rw [if_pos (by first | exact Or.inl c37 | exact Or.inr (by omega))], h0, Fk.rf⟩) | fail
    · replace c8 := cmp_gt_f c8
      refine wp_go 2 hM (fr' := (14, [some (.inr 0), some (.inl k), some (.inl a), some (.inl b), none, none, none, none, none], [.inl (-3), .inl b], σ)) rfl ?_
      refine wp_ic (tgt := 26) hM rfl (by decide) (by omega) (by omega) (fun c14 => ?_) (fun c14 => ?_)
      · replace c14 := cmp_lt_t c14
        refine wp_go 5 hM (fr' := (34, [some (.inr 0), some (.inl k), some (.inl a), some (.inl b), some (.inl 0), none, none, none, none], [.inl k, .inr 1], σ)) rfl ?_
        refine wp_calld (v := 0) (idx := 137) (j := 12) (N := mtX1_isKnot) (as := [.inr 1, .inl k]) (rest := []) hM rfl (Or.inl ⟨rfl, rfl⟩) rfl (sp_X1_isKnot v l σ k (by first | (first | assumption | omega) | fail) (by first | (first | assumption | omega) | fail) (by first | (first | assumption | omega) | fail)) ?_
        show mz_Wp shA none 89 (37, [some (.inr 0), some (.inl k), some (.inl a), some (.inl b), some (.inl 0), none, none, none, none], [.inl (b01 (isk v k))], σ) _
        refine wp_if (tgt := 53) hM rfl (by decide) b01_R (fun c37 => ?_) (fun c37 => ?_)
        · replace c37 := b01_eq0 (cmp_eq_t c37)
          refine wp_go 1 hM (fr' := (54, [some (.inr 0), some (.inl k), some (.inl a), some (.inl b), some (.inl 0), none, none, none, none], [.inl (-1)], σ)) rfl ?_
          refine wp_ret hM rfl (rfl) ?_
          first | (exact ⟨by unfold aReach; rw [if_pos (by first | exact Or.inl c37 | exact Or.inr (by omega))], h0, Fk.rf⟩) | fail
        · replace c37 := b01_ne0 (cmp_eq_f c37)
          first | (unfold isk at c37) | skip
          refine wp_go 1 hM (fr' := (42, [some (.inr 0), some (.inl k), some (.inl a), some (.inl b), some (.inl 0), none, none, none, none], [.inl 0], σ)) rfl ?_
          refine wp_if (tgt := 53) hM rfl (by decide) (by omega) (fun c42 => ?_) (fun c42 => ?_)
          · replace c42 := cmp_eq_t c42
            refine wp_go 1 hM (fr' := (54, [some (.inr 0), some (.inl k), some (.inl a), some (.inl b), some (.inl 0), none, none, none, none], [.inl (-1)], σ)) rfl ?_
            refine wp_ret hM rfl (rfl) ?_
            first | (exact ⟨by unfold aReach; rw [if_pos (by first | exact Or.inl c37 | exact Or.inr (by omega))], h0, Fk.rf⟩) | fail
          · replace c42 := cmp_eq_f c42
            refine wp_go 1 hM (fr' := (46, [some (.inr 0), some (.inl k), some (.inl a), some (.inl b), some (.inl 0), none, none, none, none], [.inl a], σ)) rfl ?_
            refine wp_if (tgt := 55) hM rfl (by decide) (by omega) (fun c46 => ?_) (fun c46 => ?_)
            · replace c46 := cmp_ne_t c46
              refine wp_go 3 hM (fr' := (60, [some (.inr 0), some (.inl k), some (.inl a), some (.inl b), some (.inl 0), none, none, none, none], [.inl k, .inr 1], σ)) rfl ?_
              refine wp_call (v := 0) (idx := 241) (j := 33) (N := mtX1_linkOf) (as := [.inr 1, .inl k]) (rest := []) hM rfl (Or.inl ⟨rfl, rfl⟩) rfl (sp_X1_linkOf v l σ k (by first | (first | assumption | omega) | fail) (by first | (first | assumption | omega) | fail) (by first | (first | assumption | omega) | fail)) ?_
              rintro r0 σ_60 ⟨rfl, hk_60, hf_60⟩
              show mz_Wp shA none 89 (63, [some (.inr 0), some (.inl k), some (.inl a), some (.inl b), some (.inl 0), none, none, none, none], [], σ_60) _
              first | (have hC_60 := CA_Fl hA0 hf_60) | skip
              first | (have hLr := Lr_lk (k := k) hT) | skip
              first | (have hlen := flT_len (f := lk1 k) (l := l) (t := (l.length : Int)) (c := 1) (fun x => lk1_le) (by omega)) | skip
              first | (rw [flT_all rfl] at hlen) | skip
              first | (have hlen2 : ((lkOf l k).length : Int) ≤ 64 := by unfold lkOf; omega) | skip
              first | (have hk := CA_pt hC_60 c37.1 c37.2) | skip
              first | (have hr := Rg_pt hR c37.1 c37.2) | skip
              first | (have hnd : ¬ (¬ isk v k ∨ ¬ (-3 ≤ a ∧ a ≤ 3 ∧ -3 ≤ b ∧ b ≤ 3) ∨ (a = 0 ∧ b = 0)) := by unfold isk; omega) | skip
              refine wp_go 5 hM (fr' := (74, [some (.inr 0), some (.inl k), some (.inl a), some (.inl b), some (.inl 0), none, none, none, none], [.inl k, .inr 18], σ_60)) rfl ?_
              refine wp_al (n := 32) hM rfl (by decide) rfl (by omega) (by omega) ?_
              first | (rw [hk.2.2.1]) | skip
              refine wp_go 6 hM (fr' := (88, [some (.inr 0), some (.inl k), some (.inl a), some (.inl b), some (.inl 0), some (.inl (gx v 1 k)), none, none, none], [.inl k, .inr 19], σ_60)) rfl ?_
              refine wp_al (n := 32) hM rfl (by decide) rfl (by omega) (by omega) ?_
              first | (rw [hk.2.2.2]) | skip
              refine wp_go 5 hM (fr' := (97, [some (.inr 0), some (.inl k), some (.inl a), some (.inl b), some (.inl 0), some (.inl (gx v 1 k)), some (.inl (gy v 1 k)), some (.inl 0), some (.inl 1)], [], σ_60)) rfl ?_
              have loop97 : ∀ (fuel : Nat) (f : Int) (i : Int), (1 ≤ i) → (i ≤ 21) → (f = i - 1) → (fstI (i - 1) (fun j => ¬ rbl v (lkOf l k) k (gx v 1 k + (j + 1) * a) (gy v 1 k + (j + 1) * b) = 0) = -1) → ((21 - i : Int) < fuel) → mz_Wp shA none 89 (97, [some (.inr 0), some (.inl k), some (.inl a), some (.inl b), some (.inl 0), some (.inl (gx v 1 k)), some (.inl (gy v 1 k)), some (.inl f), some (.inl i)], [], σ_60) (fun r σ' => r = some (aReach v l k a b) ∧ CS σ' v l ∧ Fk σ σ') := by
                intro fuel
                induction fuel with
                | zero =>
                  intro f i hv97_0 hv97_1 hv97_2 hv97_3 hf97
                  exfalso
                  omega
                | succ fuel ih97 =>
                  intro f i hv97_0 hv97_1 hv97_2 hv97_3 hf97
                  have ma := mul_bd (a := i) (b := a) (m := 21) (k := 3) (by omega) (by omega) (by omega) (by omega)
                  have mb := mul_bd (a := i) (b := b) (m := 21) (k := 3) (by omega) (by omega) (by omega) (by omega)
                  have hrb := rbl_bd (v := v) (m := lkOf l k) (k := k) (x := gx v 1 k + i * a) (y := gy v 1 k + i * b)
                  refine wp_go 2 hM (fr' := (101, [some (.inr 0), some (.inl k), some (.inl a), some (.inl b), some (.inl 0), some (.inl (gx v 1 k)), some (.inl (gy v 1 k)), some (.inl f), some (.inl i)], [.inl 20, .inl i], σ_60)) rfl ?_
                  refine wp_ic (tgt := 142) hM rfl (by decide) (by omega) (by omega) (fun c101 => ?_) (fun c101 => ?_)
                  · replace c101 := cmp_gt_t c101
                    refine wp_go 1 hM (fr' := (144, [some (.inr 0), some (.inl k), some (.inl a), some (.inl b), some (.inl 0), some (.inl (gx v 1 k)), some (.inl (gy v 1 k)), some (.inl f), some (.inl i)], [.inl f], σ_60)) rfl ?_
                    refine wp_ret hM rfl (rfl) ?_
                    first | (first | exact ⟨by unfold aReach rcN; rw [if_neg hnd, show (20 : Int) = i - 1 by omega, hv97_3, if_pos rfl, hv97_2], CS_Fl h0 hf_60, Fk_Fl hf_60⟩ | exact ⟨by unfold aReach rcN; rw [if_neg hnd, fstI_yes (t := i - 1) (P := (fun j => ¬ rbl v (lkOf l k) k (gx v 1 k + (j + 1) * a) (gy v 1 k + (j + 1) * b) = 0)) (by omega) (by omega) hv97_3 (by show ¬ _ = 0; rw [show i - 1 + 1 = i by omega]; omega), if_neg (by omega), hv97_2], CS_Fl h0 hf_60, Fk_Fl hf_60⟩) | fail
                  · replace c101 := cmp_gt_f c101
                    refine wp_go 13 hM (fr' := (123, [some (.inr 0), some (.inl k), some (.inl a), some (.inl b), some (.inl 0), some (.inl (gx v 1 k)), some (.inl (gy v 1 k)), some (.inl f), some (.inl i)], [.inl ((gy v 1 k) + (i * b)), .inl ((gx v 1 k) + (i * a)), .inl k, .inr 1], σ_60)) rfl ?_
                    refine wp_calld (v := 0) (idx := 248) (j := 34) (N := mtX1_reasonByLink) (as := [.inr 1, .inl k, .inl ((gx v 1 k) + (i * a)), .inl ((gy v 1 k) + (i * b))]) (rest := []) hM rfl (Or.inl ⟨rfl, rfl⟩) rfl (sp_X1_reasonByLink v l (lkOf l k) σ_60 k ((gx v 1 k) + (i * a)) ((gy v 1 k) + (i * b)) (by first | (first | assumption | omega) | fail) (by first | (first | assumption | omega) | fail) (by first | (first | assumption | omega) | fail) (by first | (first | assumption | omega) | fail) (by first | (first | assumption | omega) | fail) (by first | (first | assumption | omega) | fail) (by first | (first | assumption | omega) | fail) (by first | (first | assumption | omega) | fail) (by first | (first | assumption | omega) | fail)) ?_
                    show mz_Wp shA none 89 (126, [some (.inr 0), some (.inl k), some (.inl a), some (.inl b), some (.inl 0), some (.inl (gx v 1 k)), some (.inl (gy v 1 k)), some (.inl f), some (.inl i)], [.inl (rbl v (lkOf l k) k ((gx v 1 k) + (i * a)) ((gy v 1 k) + (i * b)))], σ_60) _
                    refine wp_if (tgt := 132) hM rfl (by decide) (by omega) (fun c126 => ?_) (fun c126 => ?_)
                    · replace c126 := cmp_eq_t c126
                      refine wp_go 4 hM (fr' := (97, [some (.inr 0), some (.inl k), some (.inl a), some (.inl b), some (.inl 0), some (.inl (gx v 1 k)), some (.inl (gy v 1 k)), some (.inl i), some (.inl (i + 1))], [], σ_60)) rfl ?_
                      exact ih97 i (i + 1) (by omega) (by omega) (by omega) (by first | (rw [show i + 1 - 1 = (i - 1) + 1 by omega]; exact fstI_no (by omega) hv97_3 (by rw [show i - 1 + 1 = i by omega]; omega)) | fail) (by omega)
                    · replace c126 := cmp_eq_f c126
                      refine wp_go 2 hM (fr' := (144, [some (.inr 0), some (.inl k), some (.inl a), some (.inl b), some (.inl 0), some (.inl (gx v 1 k)), some (.inl (gy v 1 k)), some (.inl f), some (.inl i)], [.inl f], σ_60)) rfl ?_
                      refine wp_ret hM rfl (rfl) ?_
                      first | (first | exact ⟨by unfold aReach rcN; rw [if_neg hnd, show (20 : Int) = i - 1 by omega, hv97_3, if_pos rfl, hv97_2], CS_Fl h0 hf_60, Fk_Fl hf_60⟩ | exact ⟨by unfold aReach rcN; rw [if_neg hnd, fstI_yes (t := i - 1) (P := (fun j => ¬ rbl v (lkOf l k) k (gx v 1 k + (j + 1) * a) (gy v 1 k + (j + 1) * b) = 0)) (by omega) (by omega) hv97_3 (by show ¬ _ = 0; rw [show i - 1 + 1 = i by omega]; omega), if_neg (by omega), hv97_2], CS_Fl h0 hf_60, Fk_Fl hf_60⟩) | fail
              exact loop97 22 0 1 (by omega) (by omega) (by omega) (by rfl) (by omega)
            · replace c46 := cmp_ne_f c46
              refine wp_go 1 hM (fr' := (50, [some (.inr 0), some (.inl k), some (.inl a), some (.inl b), some (.inl 0), none, none, none, none], [.inl b], σ)) rfl ?_
              refine wp_if (tgt := 55) hM rfl (by decide) (by omega) (fun c50 => ?_) (fun c50 => ?_)
              · replace c50 := cmp_ne_t c50
                refine wp_go 3 hM (fr' := (60, [some (.inr 0), some (.inl k), some (.inl a), some (.inl b), some (.inl 0), none, none, none, none], [.inl k, .inr 1], σ)) rfl ?_
                refine wp_call (v := 0) (idx := 241) (j := 33) (N := mtX1_linkOf) (as := [.inr 1, .inl k]) (rest := []) hM rfl (Or.inl ⟨rfl, rfl⟩) rfl (sp_X1_linkOf v l σ k (by first | (first | assumption | omega) | fail) (by first | (first | assumption | omega) | fail) (by first | (first | assumption | omega) | fail)) ?_
                rintro r0 σ_60 ⟨rfl, hk_60, hf_60⟩
                show mz_Wp shA none 89 (63, [some (.inr 0), some (.inl k), some (.inl a), some (.inl b), some (.inl 0), none, none, none, none], [], σ_60) _
                first | (have hC_60 := CA_Fl hA0 hf_60) | skip
                first | (have hLr := Lr_lk (k := k) hT) | skip
                first | (have hlen := flT_len (f := lk1 k) (l := l) (t := (l.length : Int)) (c := 1) (fun x => lk1_le) (by omega)) | skip
                first | (rw [flT_all rfl] at hlen) | skip
                first | (have hlen2 : ((lkOf l k).length : Int) ≤ 64 := by unfold lkOf; omega) | skip
                first | (have hk := CA_pt hC_60 c37.1 c37.2) | skip
                first | (have hr := Rg_pt hR c37.1 c37.2) | skip
                first | (have hnd : ¬ (¬ isk v k ∨ ¬ (-3 ≤ a ∧ a ≤ 3 ∧ -3 ≤ b ∧ b ≤ 3) ∨ (a = 0 ∧ b = 0)) := by unfold isk; omega) | skip
                refine wp_go 5 hM (fr' := (74, [some (.inr 0), some (.inl k), some (.inl a), some (.inl b), some (.inl 0), none, none, none, none], [.inl k, .inr 18], σ_60)) rfl ?_
                refine wp_al (n := 32) hM rfl (by decide) rfl (by omega) (by omega) ?_
                first | (rw [hk.2.2.1]) | skip
                refine wp_go 6 hM (fr' := (88, [some (.inr 0), some (.inl k), some (.inl a), some (.inl b), some (.inl 0), some (.inl (gx v 1 k)), none, none, none], [.inl k, .inr 19], σ_60)) rfl ?_
                refine wp_al (n := 32) hM rfl (by decide) rfl (by omega) (by omega) ?_
                first | (rw [hk.2.2.2]) | skip
                refine wp_go 5 hM (fr' := (97, [some (.inr 0), some (.inl k), some (.inl a), some (.inl b), some (.inl 0), some (.inl (gx v 1 k)), some (.inl (gy v 1 k)), some (.inl 0), some (.inl 1)], [], σ_60)) rfl ?_
                have loop97 : ∀ (fuel : Nat) (f : Int) (i : Int), (1 ≤ i) → (i ≤ 21) → (f = i - 1) → (fstI (i - 1) (fun j => ¬ rbl v (lkOf l k) k (gx v 1 k + (j + 1) * a) (gy v 1 k + (j + 1) * b) = 0) = -1) → ((21 - i : Int) < fuel) → mz_Wp shA none 89 (97, [some (.inr 0), some (.inl k), some (.inl a), some (.inl b), some (.inl 0), some (.inl (gx v 1 k)), some (.inl (gy v 1 k)), some (.inl f), some (.inl i)], [], σ_60) (fun r σ' => r = some (aReach v l k a b) ∧ CS σ' v l ∧ Fk σ σ') := by
                  intro fuel
                  induction fuel with
                  | zero =>
                    intro f i hv97_0 hv97_1 hv97_2 hv97_3 hf97
                    exfalso
                    omega
                  | succ fuel ih97 =>
                    intro f i hv97_0 hv97_1 hv97_2 hv97_3 hf97
                    have ma := mul_bd (a := i) (b := a) (m := 21) (k := 3) (by omega) (by omega) (by omega) (by omega)
                    have mb := mul_bd (a := i) (b := b) (m := 21) (k := 3) (by omega) (by omega) (by omega) (by omega)
                    have hrb := rbl_bd (v := v) (m := lkOf l k) (k := k) (x := gx v 1 k + i * a) (y := gy v 1 k + i * b)
                    refine wp_go 2 hM (fr' := (101, [some (.inr 0), some (.inl k), some (.inl a), some (.inl b), some (.inl 0), some (.inl (gx v 1 k)), some (.inl (gy v 1 k)), some (.inl f), some (.inl i)], [.inl 20, .inl i], σ_60)) rfl ?_
                    refine wp_ic (tgt := 142) hM rfl (by decide) (by omega) (by omega) (fun c101 => ?_) (fun c101 => ?_)
                    · replace c101 := cmp_gt_t c101
                      refine wp_go 1 hM (fr' := (144, [some (.inr 0), some (.inl k), some (.inl a), some (.inl b), some (.inl 0), some (.inl (gx v 1 k)), some (.inl (gy v 1 k)), some (.inl f), some (.inl i)], [.inl f], σ_60)) rfl ?_
                      refine wp_ret hM rfl (rfl) ?_
                      first | (first | exact ⟨by unfold aReach rcN; rw [if_neg hnd, show (20 : Int) = i - 1 by omega, hv97_3, if_pos rfl, hv97_2], CS_Fl h0 hf_60, Fk_Fl hf_60⟩ | exact ⟨by unfold aReach rcN; rw [if_neg hnd, fstI_yes (t := i - 1) (P := (fun j => ¬ rbl v (lkOf l k) k (gx v 1 k + (j + 1) * a) (gy v 1 k + (j + 1) * b) = 0)) (by omega) (by omega) hv97_3 (by show ¬ _ = 0; rw [show i - 1 + 1 = i by omega]; omega), if_neg (by omega), hv97_2], CS_Fl h0 hf_60, Fk_Fl hf_60⟩) | fail
                    · replace c101 := cmp_gt_f c101
                      refine wp_go 13 hM (fr' := (123, [some (.inr 0), some (.inl k), some (.inl a), some (.inl b), some (.inl 0), some (.inl (gx v 1 k)), some (.inl (gy v 1 k)), some (.inl f), some (.inl i)], [.inl ((gy v 1 k) + (i * b)), .inl ((gx v 1 k) + (i * a)), .inl k, .inr 1], σ_60)) rfl ?_
                      refine wp_calld (v := 0) (idx := 248) (j := 34) (N := mtX1_reasonByLink) (as := [.inr 1, .inl k, .inl ((gx v 1 k) + (i * a)), .inl ((gy v 1 k) + (i * b))]) (rest := []) hM rfl (Or.inl ⟨rfl, rfl⟩) rfl (sp_X1_reasonByLink v l (lkOf l k) σ_60 k ((gx v 1 k) + (i * a)) ((gy v 1 k) + (i * b)) (by first | (first | assumption | omega) | fail) (by first | (first | assumption | omega) | fail) (by first | (first | assumption | omega) | fail) (by first | (first | assumption | omega) | fail) (by first | (first | assumption | omega) | fail) (by first | (first | assumption | omega) | fail) (by first | (first | assumption | omega) | fail) (by first | (first | assumption | omega) | fail) (by first | (first | assumption | omega) | fail)) ?_
                      show mz_Wp shA none 89 (126, [some (.inr 0), some (.inl k), some (.inl a), some (.inl b), some (.inl 0), some (.inl (gx v 1 k)), some (.inl (gy v 1 k)), some (.inl f), some (.inl i)], [.inl (rbl v (lkOf l k) k ((gx v 1 k) + (i * a)) ((gy v 1 k) + (i * b)))], σ_60) _
                      refine wp_if (tgt := 132) hM rfl (by decide) (by omega) (fun c126 => ?_) (fun c126 => ?_)
                      · replace c126 := cmp_eq_t c126
                        refine wp_go 4 hM (fr' := (97, [some (.inr 0), some (.inl k), some (.inl a), some (.inl b), some (.inl 0), some (.inl (gx v 1 k)), some (.inl (gy v 1 k)), some (.inl i), some (.inl (i + 1))], [], σ_60)) rfl ?_
                        exact ih97 i (i + 1) (by omega) (by omega) (by omega) (by first | (rw [show i + 1 - 1 = (i - 1) + 1 by omega]; exact fstI_no (by omega) hv97_3 (by rw [show i - 1 + 1 = i by omega]; omega)) | fail) (by omega)
                      · replace c126 := cmp_eq_f c126
                        refine wp_go 2 hM (fr' := (144, [some (.inr 0), some (.inl k), some (.inl a), some (.inl b), some (.inl 0), some (.inl (gx v 1 k)), some (.inl (gy v 1 k)), some (.inl f), some (.inl i)], [.inl f], σ_60)) rfl ?_
                        refine wp_ret hM rfl (rfl) ?_
                        first | (first | exact ⟨by unfold aReach rcN; rw [if_neg hnd, show (20 : Int) = i - 1 by omega, hv97_3, if_pos rfl, hv97_2], CS_Fl h0 hf_60, Fk_Fl hf_60⟩ | exact ⟨by unfold aReach rcN; rw [if_neg hnd, fstI_yes (t := i - 1) (P := (fun j => ¬ rbl v (lkOf l k) k (gx v 1 k + (j + 1) * a) (gy v 1 k + (j + 1) * b) = 0)) (by omega) (by omega) hv97_3 (by show ¬ _ = 0; rw [show i - 1 + 1 = i by omega]; omega), if_neg (by omega), hv97_2], CS_Fl h0 hf_60, Fk_Fl hf_60⟩) | fail
                exact loop97 22 0 1 (by omega) (by omega) (by omega) (by rfl) (by omega)
              · replace c50 := cmp_ne_f c50
                refine wp_go 1 hM (fr' := (54, [some (.inr 0), some (.inl k), some (.inl a), some (.inl b), some (.inl 0), none, none, none, none], [.inl (-1)], σ)) rfl ?_
                refine wp_ret hM rfl (rfl) ?_
                first | (exact ⟨by unfold aReach; rw [if_pos (by first | exact Or.inl c37 | exact Or.inr (by omega))], h0, Fk.rf⟩) | fail
      · replace c14 := cmp_lt_f c14
        refine wp_go 2 hM (fr' := (19, [some (.inr 0), some (.inl k), some (.inl a), some (.inl b), none, none, none, none, none], [.inl 3, .inl b], σ)) rfl ?_
        refine wp_ic (tgt := 26) hM rfl (by decide) (by omega) (by omega) (fun c19 => ?_) (fun c19 => ?_)
        · replace c19 := cmp_gt_t c19
          refine wp_go 5 hM (fr' := (34, [some (.inr 0), some (.inl k), some (.inl a), some (.inl b), some (.inl 0), none, none, none, none], [.inl k, .inr 1], σ)) rfl ?_
          refine wp_calld (v := 0) (idx := 137) (j := 12) (N := mtX1_isKnot) (as := [.inr 1, .inl k]) (rest := []) hM rfl (Or.inl ⟨rfl, rfl⟩) rfl (sp_X1_isKnot v l σ k (by first | (first | assumption | omega) | fail) (by first | (first | assumption | omega) | fail) (by first | (first | assumption | omega) | fail)) ?_
          show mz_Wp shA none 89 (37, [some (.inr 0), some (.inl k), some (.inl a), some (.inl b), some (.inl 0), none, none, none, none], [.inl (b01 (isk v k))], σ) _
          refine wp_if (tgt := 53) hM rfl (by decide) b01_R (fun c37 => ?_) (fun c37 => ?_)
          · replace c37 := b01_eq0 (cmp_eq_t c37)
            refine wp_go 1 hM (fr' := (54, [some (.inr 0), some (.inl k), some (.inl a), some (.inl b), some (.inl 0), none, none, none, none], [.inl (-1)], σ)) rfl ?_
            refine wp_ret hM rfl (rfl) ?_
            first | (exact ⟨by unfold aReach; rw [if_pos (by first | exact Or.inl c37 | exact Or.inr (by omega))], h0, Fk.rf⟩) | fail
          · replace c37 := b01_ne0 (cmp_eq_f c37)
            first | (unfold isk at c37) | skip
            refine wp_go 1 hM (fr' := (42, [some (.inr 0), some (.inl k), some (.inl a), some (.inl b), some (.inl 0), none, none, none, none], [.inl 0], σ)) rfl ?_
            refine wp_if (tgt := 53) hM rfl (by decide) (by omega) (fun c42 => ?_) (fun c42 => ?_)
            · replace c42 := cmp_eq_t c42
              refine wp_go 1 hM (fr' := (54, [some (.inr 0), some (.inl k), some (.inl a), some (.inl b), some (.inl 0), none, none, none, none], [.inl (-1)], σ)) rfl ?_
              refine wp_ret hM rfl (rfl) ?_
              first | (exact ⟨by unfold aReach; rw [if_pos (by first | exact Or.inl c37 | exact Or.inr (by omega))], h0, Fk.rf⟩) | fail
            · replace c42 := cmp_eq_f c42
              refine wp_go 1 hM (fr' := (46, [some (.inr 0), some (.inl k), some (.inl a), some (.inl b), some (.inl 0), none, none, none, none], [.inl a], σ)) rfl ?_
              refine wp_if (tgt := 55) hM rfl (by decide) (by omega) (fun c46 => ?_) (fun c46 => ?_)
              · replace c46 := cmp_ne_t c46
                refine wp_go 3 hM (fr' := (60, [some (.inr 0), some (.inl k), some (.inl a), some (.inl b), some (.inl 0), none, none, none, none], [.inl k, .inr 1], σ)) rfl ?_
                refine wp_call (v := 0) (idx := 241) (j := 33) (N := mtX1_linkOf) (as := [.inr 1, .inl k]) (rest := []) hM rfl (Or.inl ⟨rfl, rfl⟩) rfl (sp_X1_linkOf v l σ k (by first | (first | assumption | omega) | fail) (by first | (first | assumption | omega) | fail) (by first | (first | assumption | omega) | fail)) ?_
                rintro r0 σ_60 ⟨rfl, hk_60, hf_60⟩
                show mz_Wp shA none 89 (63, [some (.inr 0), some (.inl k), some (.inl a), some (.inl b), some (.inl 0), none, none, none, none], [], σ_60) _
                first | (have hC_60 := CA_Fl hA0 hf_60) | skip
                first | (have hLr := Lr_lk (k := k) hT) | skip
                first | (have hlen := flT_len (f := lk1 k) (l := l) (t := (l.length : Int)) (c := 1) (fun x => lk1_le) (by omega)) | skip
                first | (rw [flT_all rfl] at hlen) | skip
                first | (have hlen2 : ((lkOf l k).length : Int) ≤ 64 := by unfold lkOf; omega) | skip
                first | (have hk := CA_pt hC_60 c37.1 c37.2) | skip
                first | (have hr := Rg_pt hR c37.1 c37.2) | skip
                first | (have hnd : ¬ (¬ isk v k ∨ ¬ (-3 ≤ a ∧ a ≤ 3 ∧ -3 ≤ b ∧ b ≤ 3) ∨ (a = 0 ∧ b = 0)) := by unfold isk; omega) | skip
                refine wp_go 5 hM (fr' := (74, [some (.inr 0), some (.inl k), some (.inl a), some (.inl b), some (.inl 0), none, none, none, none], [.inl k, .inr 18], σ_60)) rfl ?_
                refine wp_al (n := 32) hM rfl (by decide) rfl (by omega) (by omega) ?_
                first | (rw [hk.2.2.1]) | skip
                refine wp_go 6 hM (fr' := (88, [some (.inr 0), some (.inl k), some (.inl a), some (.inl b), some (.inl 0), some (.inl (gx v 1 k)), none, none, none], [.inl k, .inr 19], σ_60)) rfl ?_
                refine wp_al (n := 32) hM rfl (by decide) rfl (by omega) (by omega) ?_
                first | (rw [hk.2.2.2]) | skip
                refine wp_go 5 hM (fr' := (97, [some (.inr 0), some (.inl k), some (.inl a), some (.inl b), some (.inl 0), some (.inl (gx v 1 k)), some (.inl (gy v 1 k)), some (.inl 0), some (.inl 1)], [], σ_60)) rfl ?_
                have loop97 : ∀ (fuel : Nat) (f : Int) (i : Int), (1 ≤ i) → (i ≤ 21) → (f = i - 1) → (fstI (i - 1) (fun j => ¬ rbl v (lkOf l k) k (gx v 1 k + (j + 1) * a) (gy v 1 k + (j + 1) * b) = 0) = -1) → ((21 - i : Int) < fuel) → mz_Wp shA none 89 (97, [some (.inr 0), some (.inl k), some (.inl a), some (.inl b), some (.inl 0), some (.inl (gx v 1 k)), some (.inl (gy v 1 k)), some (.inl f), some (.inl i)], [], σ_60) (fun r σ' => r = some (aReach v l k a b) ∧ CS σ' v l ∧ Fk σ σ') := by
                  intro fuel
                  induction fuel with
                  | zero =>
                    intro f i hv97_0 hv97_1 hv97_2 hv97_3 hf97
                    exfalso
                    omega
                  | succ fuel ih97 =>
                    intro f i hv97_0 hv97_1 hv97_2 hv97_3 hf97
                    have ma := mul_bd (a := i) (b := a) (m := 21) (k := 3) (by omega) (by omega) (by omega) (by omega)
                    have mb := mul_bd (a := i) (b := b) (m := 21) (k := 3) (by omega) (by omega) (by omega) (by omega)
                    have hrb := rbl_bd (v := v) (m := lkOf l k) (k := k) (x := gx v 1 k + i * a) (y := gy v 1 k + i * b)
                    refine wp_go 2 hM (fr' := (101, [some (.inr 0), some (.inl k), some (.inl a), some (.inl b), some (.inl 0), some (.inl (gx v 1 k)), some (.inl (gy v 1 k)), some (.inl f), some (.inl i)], [.inl 20, .inl i], σ_60)) rfl ?_
                    refine wp_ic (tgt := 142) hM rfl (by decide) (by omega) (by omega) (fun c101 => ?_) (fun c101 => ?_)
                    · replace c101 := cmp_gt_t c101
                      refine wp_go 1 hM (fr' := (144, [some (.inr 0), some (.inl k), some (.inl a), some (.inl b), some (.inl 0), some (.inl (gx v 1 k)), some (.inl (gy v 1 k)), some (.inl f), some (.inl i)], [.inl f], σ_60)) rfl ?_
                      refine wp_ret hM rfl (rfl) ?_
                      first | (first | exact ⟨by unfold aReach rcN; rw [if_neg hnd, show (20 : Int) = i - 1 by omega, hv97_3, if_pos rfl, hv97_2], CS_Fl h0 hf_60, Fk_Fl hf_60⟩ | exact ⟨by unfold aReach rcN; rw [if_neg hnd, fstI_yes (t := i - 1) (P := (fun j => ¬ rbl v (lkOf l k) k (gx v 1 k + (j + 1) * a) (gy v 1 k + (j + 1) * b) = 0)) (by omega) (by omega) hv97_3 (by show ¬ _ = 0; rw [show i - 1 + 1 = i by omega]; omega), if_neg (by omega), hv97_2], CS_Fl h0 hf_60, Fk_Fl hf_60⟩) | fail
                    · replace c101 := cmp_gt_f c101
                      refine wp_go 13 hM (fr' := (123, [some (.inr 0), some (.inl k), some (.inl a), some (.inl b), some (.inl 0), some (.inl (gx v 1 k)), some (.inl (gy v 1 k)), some (.inl f), some (.inl i)], [.inl ((gy v 1 k) + (i * b)), .inl ((gx v 1 k) + (i * a)), .inl k, .inr 1], σ_60)) rfl ?_
                      refine wp_calld (v := 0) (idx := 248) (j := 34) (N := mtX1_reasonByLink) (as := [.inr 1, .inl k, .inl ((gx v 1 k) + (i * a)), .inl ((gy v 1 k) + (i * b))]) (rest := []) hM rfl (Or.inl ⟨rfl, rfl⟩) rfl (sp_X1_reasonByLink v l (lkOf l k) σ_60 k ((gx v 1 k) + (i * a)) ((gy v 1 k) + (i * b)) (by first | (first | assumption | omega) | fail) (by first | (first | assumption | omega) | fail) (by first | (first | assumption | omega) | fail) (by first | (first | assumption | omega) | fail) (by first | (first | assumption | omega) | fail) (by first | (first | assumption | omega) | fail) (by first | (first | assumption | omega) | fail) (by first | (first | assumption | omega) | fail) (by first | (first | assumption | omega) | fail)) ?_
                      show mz_Wp shA none 89 (126, [some (.inr 0), some (.inl k), some (.inl a), some (.inl b), some (.inl 0), some (.inl (gx v 1 k)), some (.inl (gy v 1 k)), some (.inl f), some (.inl i)], [.inl (rbl v (lkOf l k) k ((gx v 1 k) + (i * a)) ((gy v 1 k) + (i * b)))], σ_60) _
                      refine wp_if (tgt := 132) hM rfl (by decide) (by omega) (fun c126 => ?_) (fun c126 => ?_)
                      · replace c126 := cmp_eq_t c126
                        refine wp_go 4 hM (fr' := (97, [some (.inr 0), some (.inl k), some (.inl a), some (.inl b), some (.inl 0), some (.inl (gx v 1 k)), some (.inl (gy v 1 k)), some (.inl i), some (.inl (i + 1))], [], σ_60)) rfl ?_
                        exact ih97 i (i + 1) (by omega) (by omega) (by omega) (by first | (rw [show i + 1 - 1 = (i - 1) + 1 by omega]; exact fstI_no (by omega) hv97_3 (by rw [show i - 1 + 1 = i by omega]; omega)) | fail) (by omega)
                      · replace c126 := cmp_eq_f c126
                        refine wp_go 2 hM (fr' := (144, [some (.inr 0), some (.inl k), some (.inl a), some (.inl b), some (.inl 0), some (.inl (gx v 1 k)), some (.inl (gy v 1 k)), some (.inl f), some (.inl i)], [.inl f], σ_60)) rfl ?_
                        refine wp_ret hM rfl (rfl) ?_
                        first | (first | exact ⟨by unfold aReach rcN; rw [if_neg hnd, show (20 : Int) = i - 1 by omega, hv97_3, if_pos rfl, hv97_2], CS_Fl h0 hf_60, Fk_Fl hf_60⟩ | exact ⟨by unfold aReach rcN; rw [if_neg hnd, fstI_yes (t := i - 1) (P := (fun j => ¬ rbl v (lkOf l k) k (gx v 1 k + (j + 1) * a) (gy v 1 k + (j + 1) * b) = 0)) (by omega) (by omega) hv97_3 (by show ¬ _ = 0; rw [show i - 1 + 1 = i by omega]; omega), if_neg (by omega), hv97_2], CS_Fl h0 hf_60, Fk_Fl hf_60⟩) | fail
                exact loop97 22 0 1 (by omega) (by omega) (by omega) (by rfl) (by omega)
              · replace c46 := cmp_ne_f c46
                refine wp_go 1 hM (fr' := (50, [some (.inr 0), some (.inl k), some (.inl a), some (.inl b), some (.inl 0), none, none, none, none], [.inl b], σ)) rfl ?_
                refine wp_if (tgt := 55) hM rfl (by decide) (by omega) (fun c50 => ?_) (fun c50 => ?_)
                · replace c50 := cmp_ne_t c50
                  refine wp_go 3 hM (fr' := (60, [some (.inr 0), some (.inl k), some (.inl a), some (.inl b), some (.inl 0), none, none, none, none], [.inl k, .inr 1], σ)) rfl ?_
                  refine wp_call (v := 0) (idx := 241) (j := 33) (N := mtX1_linkOf) (as := [.inr 1, .inl k]) (rest := []) hM rfl (Or.inl ⟨rfl, rfl⟩) rfl (sp_X1_linkOf v l σ k (by first | (first | assumption | omega) | fail) (by first | (first | assumption | omega) | fail) (by first | (first | assumption | omega) | fail)) ?_
                  rintro r0 σ_60 ⟨rfl, hk_60, hf_60⟩
                  show mz_Wp shA none 89 (63, [some (.inr 0), some (.inl k), some (.inl a), some (.inl b), some (.inl 0), none, none, none, none], [], σ_60) _
                  first | (have hC_60 := CA_Fl hA0 hf_60) | skip
                  first | (have hLr := Lr_lk (k := k) hT) | skip
                  first | (have hlen := flT_len (f := lk1 k) (l := l) (t := (l.length : Int)) (c := 1) (fun x => lk1_le) (by omega)) | skip
                  first | (rw [flT_all rfl] at hlen) | skip
                  first | (have hlen2 : ((lkOf l k).length : Int) ≤ 64 := by unfold lkOf; omega) | skip
                  first | (have hk := CA_pt hC_60 c37.1 c37.2) | skip
                  first | (have hr := Rg_pt hR c37.1 c37.2) | skip
                  first | (have hnd : ¬ (¬ isk v k ∨ ¬ (-3 ≤ a ∧ a ≤ 3 ∧ -3 ≤ b ∧ b ≤ 3) ∨ (a = 0 ∧ b = 0)) := by unfold isk; omega) | skip
                  refine wp_go 5 hM (fr' := (74, [some (.inr 0), some (.inl k), some (.inl a), some (.inl b), some (.inl 0), none, none, none, none], [.inl k, .inr 18], σ_60)) rfl ?_
                  refine wp_al (n := 32) hM rfl (by decide) rfl (by omega) (by omega) ?_
                  first | (rw [hk.2.2.1]) | skip
                  refine wp_go 6 hM (fr' := (88, [some (.inr 0), some (.inl k), some (.inl a), some (.inl b), some (.inl 0), some (.inl (gx v 1 k)), none, none, none], [.inl k, .inr 19], σ_60)) rfl ?_
                  refine wp_al (n := 32) hM rfl (by decide) rfl (by omega) (by omega) ?_
                  first | (rw [hk.2.2.2]) | skip
                  refine wp_go 5 hM (fr' := (97, [some (.inr 0), some (.inl k), some (.inl a), some (.inl b), some (.inl 0), some (.inl (gx v 1 k)), some (.inl (gy v 1 k)), some (.inl 0), some (.inl 1)], [], σ_60)) rfl ?_
                  have loop97 : ∀ (fuel : Nat) (f : Int) (i : Int), (1 ≤ i) → (i ≤ 21) → (f = i - 1) → (fstI (i - 1) (fun j => ¬ rbl v (lkOf l k) k (gx v 1 k + (j + 1) * a) (gy v 1 k + (j + 1) * b) = 0) = -1) → ((21 - i : Int) < fuel) → mz_Wp shA none 89 (97, [some (.inr 0), some (.inl k), some (.inl a), some (.inl b), some (.inl 0), some (.inl (gx v 1 k)), some (.inl (gy v 1 k)), some (.inl f), some (.inl i)], [], σ_60) (fun r σ' => r = some (aReach v l k a b) ∧ CS σ' v l ∧ Fk σ σ') := by
                    intro fuel
                    induction fuel with
                    | zero =>
                      intro f i hv97_0 hv97_1 hv97_2 hv97_3 hf97
                      exfalso
                      omega
                    | succ fuel ih97 =>
                      intro f i hv97_0 hv97_1 hv97_2 hv97_3 hf97
                      have ma := mul_bd (a := i) (b := a) (m := 21) (k := 3) (by omega) (by omega) (by omega) (by omega)
                      have mb := mul_bd (a := i) (b := b) (m := 21) (k := 3) (by omega) (by omega) (by omega) (by omega)
                      have hrb := rbl_bd (v := v) (m := lkOf l k) (k := k) (x := gx v 1 k + i * a) (y := gy v 1 k + i * b)
                      refine wp_go 2 hM (fr' := (101, [some (.inr 0), some (.inl k), some (.inl a), some (.inl b), some (.inl 0), some (.inl (gx v 1 k)), some (.inl (gy v 1 k)), some (.inl f), some (.inl i)], [.inl 20, .inl i], σ_60)) rfl ?_
                      refine wp_ic (tgt := 142) hM rfl (by decide) (by omega) (by omega) (fun c101 => ?_) (fun c101 => ?_)
                      · replace c101 := cmp_gt_t c101
                        refine wp_go 1 hM (fr' := (144, [some (.inr 0), some (.inl k), some (.inl a), some (.inl b), some (.inl 0), some (.inl (gx v 1 k)), some (.inl (gy v 1 k)), some (.inl f), some (.inl i)], [.inl f], σ_60)) rfl ?_
                        refine wp_ret hM rfl (rfl) ?_
                        first | (first | exact ⟨by unfold aReach rcN; rw [if_neg hnd, show (20 : Int) = i - 1 by omega, hv97_3, if_pos rfl, hv97_2], CS_Fl h0 hf_60, Fk_Fl hf_60⟩ | exact ⟨by unfold aReach rcN; rw [if_neg hnd, fstI_yes (t := i - 1) (P := (fun j => ¬ rbl v (lkOf l k) k (gx v 1 k + (j + 1) * a) (gy v 1 k + (j + 1) * b) = 0)) (by omega) (by omega) hv97_3 (by show ¬ _ = 0; rw [show i - 1 + 1 = i by omega]; omega), if_neg (by omega), hv97_2], CS_Fl h0 hf_60, Fk_Fl hf_60⟩) | fail
                      · replace c101 := cmp_gt_f c101
                        refine wp_go 13 hM (fr' := (123, [some (.inr 0), some (.inl k), some (.inl a), some (.inl b), some (.inl 0), some (.inl (gx v 1 k)), some (.inl (gy v 1 k)), some (.inl f), some (.inl i)], [.inl ((gy v 1 k) + (i * b)), .inl ((gx v 1 k) + (i * a)), .inl k, .inr 1], σ_60)) rfl ?_
                        refine wp_calld (v := 0) (idx := 248) (j := 34) (N := mtX1_reasonByLink) (as := [.inr 1, .inl k, .inl ((gx v 1 k) + (i * a)), .inl ((gy v 1 k) + (i * b))]) (rest := []) hM rfl (Or.inl ⟨rfl, rfl⟩) rfl (sp_X1_reasonByLink v l (lkOf l k) σ_60 k ((gx v 1 k) + (i * a)) ((gy v 1 k) + (i * b)) (by first | (first | assumption | omega) | fail) (by first | (first | assumption | omega) | fail) (by first | (first | assumption | omega) | fail) (by first | (first | assumption | omega) | fail) (by first | (first | assumption | omega) | fail) (by first | (first | assumption | omega) | fail) (by first | (first | assumption | omega) | fail) (by first | (first | assumption | omega) | fail) (by first | (first | assumption | omega) | fail)) ?_
                        show mz_Wp shA none 89 (126, [some (.inr 0), some (.inl k), some (.inl a), some (.inl b), some (.inl 0), some (.inl (gx v 1 k)), some (.inl (gy v 1 k)), some (.inl f), some (.inl i)], [.inl (rbl v (lkOf l k) k ((gx v 1 k) + (i * a)) ((gy v 1 k) + (i * b)))], σ_60) _
                        refine wp_if (tgt := 132) hM rfl (by decide) (by omega) (fun c126 => ?_) (fun c126 => ?_)
                        · replace c126 := cmp_eq_t c126
                          refine wp_go 4 hM (fr' := (97, [some (.inr 0), some (.inl k), some (.inl a), some (.inl b), some (.inl 0), some (.inl (gx v 1 k)), some (.inl (gy v 1 k)), some (.inl i), some (.inl (i + 1))], [], σ_60)) rfl ?_
                          exact ih97 i (i + 1) (by omega) (by omega) (by omega) (by first | (rw [show i + 1 - 1 = (i - 1) + 1 by omega]; exact fstI_no (by omega) hv97_3 (by rw [show i - 1 + 1 = i by omega]; omega)) | fail) (by omega)
                        · replace c126 := cmp_eq_f c126
                          refine wp_go 2 hM (fr' := (144, [some (.inr 0), some (.inl k), some (.inl a), some (.inl b), some (.inl 0), some (.inl (gx v 1 k)), some (.inl (gy v 1 k)), some (.inl f), some (.inl i)], [.inl f], σ_60)) rfl ?_
                          refine wp_ret hM rfl (rfl) ?_
                          first | (first | exact ⟨by unfold aReach rcN; rw [if_neg hnd, show (20 : Int) = i - 1 by omega, hv97_3, if_pos rfl, hv97_2], CS_Fl h0 hf_60, Fk_Fl hf_60⟩ | exact ⟨by unfold aReach rcN; rw [if_neg hnd, fstI_yes (t := i - 1) (P := (fun j => ¬ rbl v (lkOf l k) k (gx v 1 k + (j + 1) * a) (gy v 1 k + (j + 1) * b) = 0)) (by omega) (by omega) hv97_3 (by show ¬ _ = 0; rw [show i - 1 + 1 = i by omega]; omega), if_neg (by omega), hv97_2], CS_Fl h0 hf_60, Fk_Fl hf_60⟩) | fail
                  exact loop97 22 0 1 (by omega) (by omega) (by omega) (by rfl) (by omega)
                · replace c50 := cmp_ne_f c50
                  refine wp_go 1 hM (fr' := (54, [some (.inr 0), some (.inl k), some (.inl a), some (.inl b), some (.inl 0), none, none, none, none], [.inl (-1)], σ)) rfl ?_
                  refine wp_ret hM rfl (rfl) ?_
                  first | (exact ⟨by unfold aReach; rw [if_pos (by first | exact Or.inl c37 | exact Or.inr (by omega))], h0, Fk.rf⟩) | fail
        · replace c19 := cmp_gt_f c19
          refine wp_go 6 hM (fr' := (34, [some (.inr 0), some (.inl k), some (.inl a), some (.inl b), some (.inl 1), none, none, none, none], [.inl k, .inr 1], σ)) rfl ?_
          refine wp_calld (v := 0) (idx := 137) (j := 12) (N := mtX1_isKnot) (as := [.inr 1, .inl k]) (rest := []) hM rfl (Or.inl ⟨rfl, rfl⟩) rfl (sp_X1_isKnot v l σ k (by first | (first | assumption | omega) | fail) (by first | (first | assumption | omega) | fail) (by first | (first | assumption | omega) | fail)) ?_
          show mz_Wp shA none 89 (37, [some (.inr 0), some (.inl k), some (.inl a), some (.inl b), some (.inl 1), none, none, none, none], [.inl (b01 (isk v k))], σ) _
          refine wp_if (tgt := 53) hM rfl (by decide) b01_R (fun c37 => ?_) (fun c37 => ?_)
          · replace c37 := b01_eq0 (cmp_eq_t c37)
            refine wp_go 1 hM (fr' := (54, [some (.inr 0), some (.inl k), some (.inl a), some (.inl b), some (.inl 1), none, none, none, none], [.inl (-1)], σ)) rfl ?_
            refine wp_ret hM rfl (rfl) ?_
            first | (exact ⟨by unfold aReach; rw [if_pos (by first | exact Or.inl c37 | exact Or.inr (by omega))], h0, Fk.rf⟩) | fail
          · replace c37 := b01_ne0 (cmp_eq_f c37)
            first | (unfold isk at c37) | skip
            refine wp_go 1 hM (fr' := (42, [some (.inr 0), some (.inl k), some (.inl a), some (.inl b), some (.inl 1), none, none, none, none], [.inl 1], σ)) rfl ?_
            refine wp_if (tgt := 53) hM rfl (by decide) (by omega) (fun c42 => ?_) (fun c42 => ?_)
            · replace c42 := cmp_eq_t c42
              refine wp_go 1 hM (fr' := (54, [some (.inr 0), some (.inl k), some (.inl a), some (.inl b), some (.inl 1), none, none, none, none], [.inl (-1)], σ)) rfl ?_
              refine wp_ret hM rfl (rfl) ?_
              first | (exact ⟨by unfold aReach; rw [if_pos (by first | exact Or.inl c37 | exact Or.inr (by omega))], h0, Fk.rf⟩) | fail
            · replace c42 := cmp_eq_f c42
              refine wp_go 1 hM (fr' := (46, [some (.inr 0), some (.inl k), some (.inl a), some (.inl b), some (.inl 1), none, none, none, none], [.inl a], σ)) rfl ?_
              refine wp_if (tgt := 55) hM rfl (by decide) (by omega) (fun c46 => ?_) (fun c46 => ?_)
              · replace c46 := cmp_ne_t c46
                refine wp_go 3 hM (fr' := (60, [some (.inr 0), some (.inl k), some (.inl a), some (.inl b), some (.inl 1), none, none, none, none], [.inl k, .inr 1], σ)) rfl ?_
                refine wp_call (v := 0) (idx := 241) (j := 33) (N := mtX1_linkOf) (as := [.inr 1, .inl k]) (rest := []) hM rfl (Or.inl ⟨rfl, rfl⟩) rfl (sp_X1_linkOf v l σ k (by first | (first | assumption | omega) | fail) (by first | (first | assumption | omega) | fail) (by first | (first | assumption | omega) | fail)) ?_
                rintro r0 σ_60 ⟨rfl, hk_60, hf_60⟩
                show mz_Wp shA none 89 (63, [some (.inr 0), some (.inl k), some (.inl a), some (.inl b), some (.inl 1), none, none, none, none], [], σ_60) _
                first | (have hC_60 := CA_Fl hA0 hf_60) | skip
                first | (have hLr := Lr_lk (k := k) hT) | skip
                first | (have hlen := flT_len (f := lk1 k) (l := l) (t := (l.length : Int)) (c := 1) (fun x => lk1_le) (by omega)) | skip
                first | (rw [flT_all rfl] at hlen) | skip
                first | (have hlen2 : ((lkOf l k).length : Int) ≤ 64 := by unfold lkOf; omega) | skip
                first | (have hk := CA_pt hC_60 c37.1 c37.2) | skip
                first | (have hr := Rg_pt hR c37.1 c37.2) | skip
                first | (have hnd : ¬ (¬ isk v k ∨ ¬ (-3 ≤ a ∧ a ≤ 3 ∧ -3 ≤ b ∧ b ≤ 3) ∨ (a = 0 ∧ b = 0)) := by unfold isk; omega) | skip
                refine wp_go 5 hM (fr' := (74, [some (.inr 0), some (.inl k), some (.inl a), some (.inl b), some (.inl 1), none, none, none, none], [.inl k, .inr 18], σ_60)) rfl ?_
                refine wp_al (n := 32) hM rfl (by decide) rfl (by omega) (by omega) ?_
                first | (rw [hk.2.2.1]) | skip
                refine wp_go 6 hM (fr' := (88, [some (.inr 0), some (.inl k), some (.inl a), some (.inl b), some (.inl 1), some (.inl (gx v 1 k)), none, none, none], [.inl k, .inr 19], σ_60)) rfl ?_
                refine wp_al (n := 32) hM rfl (by decide) rfl (by omega) (by omega) ?_
                first | (rw [hk.2.2.2]) | skip
                refine wp_go 5 hM (fr' := (97, [some (.inr 0), some (.inl k), some (.inl a), some (.inl b), some (.inl 1), some (.inl (gx v 1 k)), some (.inl (gy v 1 k)), some (.inl 0), some (.inl 1)], [], σ_60)) rfl ?_
                have loop97 : ∀ (fuel : Nat) (f : Int) (i : Int), (1 ≤ i) → (i ≤ 21) → (f = i - 1) → (fstI (i - 1) (fun j => ¬ rbl v (lkOf l k) k (gx v 1 k + (j + 1) * a) (gy v 1 k + (j + 1) * b) = 0) = -1) → ((21 - i : Int) < fuel) → mz_Wp shA none 89 (97, [some (.inr 0), some (.inl k), some (.inl a), some (.inl b), some (.inl 1), some (.inl (gx v 1 k)), some (.inl (gy v 1 k)), some (.inl f), some (.inl i)], [], σ_60) (fun r σ' => r = some (aReach v l k a b) ∧ CS σ' v l ∧ Fk σ σ') := by
                  intro fuel
                  induction fuel with
                  | zero =>
                    intro f i hv97_0 hv97_1 hv97_2 hv97_3 hf97
                    exfalso
                    omega
                  | succ fuel ih97 =>
                    intro f i hv97_0 hv97_1 hv97_2 hv97_3 hf97
                    have ma := mul_bd (a := i) (b := a) (m := 21) (k := 3) (by omega) (by omega) (by omega) (by omega)
                    have mb := mul_bd (a := i) (b := b) (m := 21) (k := 3) (by omega) (by omega) (by omega) (by omega)
                    have hrb := rbl_bd (v := v) (m := lkOf l k) (k := k) (x := gx v 1 k + i * a) (y := gy v 1 k + i * b)
                    refine wp_go 2 hM (fr' := (101, [some (.inr 0), some (.inl k), some (.inl a), some (.inl b), some (.inl 1), some (.inl (gx v 1 k)), some (.inl (gy v 1 k)), some (.inl f), some (.inl i)], [.inl 20, .inl i], σ_60)) rfl ?_
                    refine wp_ic (tgt := 142) hM rfl (by decide) (by omega) (by omega) (fun c101 => ?_) (fun c101 => ?_)
                    · replace c101 := cmp_gt_t c101
                      refine wp_go 1 hM (fr' := (144, [some (.inr 0), some (.inl k), some (.inl a), some (.inl b), some (.inl 1), some (.inl (gx v 1 k)), some (.inl (gy v 1 k)), some (.inl f), some (.inl i)], [.inl f], σ_60)) rfl ?_
                      refine wp_ret hM rfl (rfl) ?_
                      first | (first | exact ⟨by unfold aReach rcN; rw [if_neg hnd, show (20 : Int) = i - 1 by omega, hv97_3, if_pos rfl, hv97_2], CS_Fl h0 hf_60, Fk_Fl hf_60⟩ | exact ⟨by unfold aReach rcN; rw [if_neg hnd, fstI_yes (t := i - 1) (P := (fun j => ¬ rbl v (lkOf l k) k (gx v 1 k + (j + 1) * a) (gy v 1 k + (j + 1) * b) = 0)) (by omega) (by omega) hv97_3 (by show ¬ _ = 0; rw [show i - 1 + 1 = i by omega]; omega), if_neg (by omega), hv97_2], CS_Fl h0 hf_60, Fk_Fl hf_60⟩) | fail
                    · replace c101 := cmp_gt_f c101
                      refine wp_go 13 hM (fr' := (123, [some (.inr 0), some (.inl k), some (.inl a), some (.inl b), some (.inl 1), some (.inl (gx v 1 k)), some (.inl (gy v 1 k)), some (.inl f), some (.inl i)], [.inl ((gy v 1 k) + (i * b)), .inl ((gx v 1 k) + (i * a)), .inl k, .inr 1], σ_60)) rfl ?_
                      refine wp_calld (v := 0) (idx := 248) (j := 34) (N := mtX1_reasonByLink) (as := [.inr 1, .inl k, .inl ((gx v 1 k) + (i * a)), .inl ((gy v 1 k) + (i * b))]) (rest := []) hM rfl (Or.inl ⟨rfl, rfl⟩) rfl (sp_X1_reasonByLink v l (lkOf l k) σ_60 k ((gx v 1 k) + (i * a)) ((gy v 1 k) + (i * b)) (by first | (first | assumption | omega) | fail) (by first | (first | assumption | omega) | fail) (by first | (first | assumption | omega) | fail) (by first | (first | assumption | omega) | fail) (by first | (first | assumption | omega) | fail) (by first | (first | assumption | omega) | fail) (by first | (first | assumption | omega) | fail) (by first | (first | assumption | omega) | fail) (by first | (first | assumption | omega) | fail)) ?_
                      show mz_Wp shA none 89 (126, [some (.inr 0), some (.inl k), some (.inl a), some (.inl b), some (.inl 1), some (.inl (gx v 1 k)), some (.inl (gy v 1 k)), some (.inl f), some (.inl i)], [.inl (rbl v (lkOf l k) k ((gx v 1 k) + (i * a)) ((gy v 1 k) + (i * b)))], σ_60) _
                      refine wp_if (tgt := 132) hM rfl (by decide) (by omega) (fun c126 => ?_) (fun c126 => ?_)
                      · replace c126 := cmp_eq_t c126
                        refine wp_go 4 hM (fr' := (97, [some (.inr 0), some (.inl k), some (.inl a), some (.inl b), some (.inl 1), some (.inl (gx v 1 k)), some (.inl (gy v 1 k)), some (.inl i), some (.inl (i + 1))], [], σ_60)) rfl ?_
                        exact ih97 i (i + 1) (by omega) (by omega) (by omega) (by first | (rw [show i + 1 - 1 = (i - 1) + 1 by omega]; exact fstI_no (by omega) hv97_3 (by rw [show i - 1 + 1 = i by omega]; omega)) | fail) (by omega)
                      · replace c126 := cmp_eq_f c126
                        refine wp_go 2 hM (fr' := (144, [some (.inr 0), some (.inl k), some (.inl a), some (.inl b), some (.inl 1), some (.inl (gx v 1 k)), some (.inl (gy v 1 k)), some (.inl f), some (.inl i)], [.inl f], σ_60)) rfl ?_
                        refine wp_ret hM rfl (rfl) ?_
                        first | (first | exact ⟨by unfold aReach rcN; rw [if_neg hnd, show (20 : Int) = i - 1 by omega, hv97_3, if_pos rfl, hv97_2], CS_Fl h0 hf_60, Fk_Fl hf_60⟩ | exact ⟨by unfold aReach rcN; rw [if_neg hnd, fstI_yes (t := i - 1) (P := (fun j => ¬ rbl v (lkOf l k) k (gx v 1 k + (j + 1) * a) (gy v 1 k + (j + 1) * b) = 0)) (by omega) (by omega) hv97_3 (by show ¬ _ = 0; rw [show i - 1 + 1 = i by omega]; omega), if_neg (by omega), hv97_2], CS_Fl h0 hf_60, Fk_Fl hf_60⟩) | fail
                exact loop97 22 0 1 (by omega) (by omega) (by omega) (by rfl) (by omega)
              · replace c46 := cmp_ne_f c46
                refine wp_go 1 hM (fr' := (50, [some (.inr 0), some (.inl k), some (.inl a), some (.inl b), some (.inl 1), none, none, none, none], [.inl b], σ)) rfl ?_
                refine wp_if (tgt := 55) hM rfl (by decide) (by omega) (fun c50 => ?_) (fun c50 => ?_)
                · replace c50 := cmp_ne_t c50
                  refine wp_go 3 hM (fr' := (60, [some (.inr 0), some (.inl k), some (.inl a), some (.inl b), some (.inl 1), none, none, none, none], [.inl k, .inr 1], σ)) rfl ?_
                  refine wp_call (v := 0) (idx := 241) (j := 33) (N := mtX1_linkOf) (as := [.inr 1, .inl k]) (rest := []) hM rfl (Or.inl ⟨rfl, rfl⟩) rfl (sp_X1_linkOf v l σ k (by first | (first | assumption | omega) | fail) (by first | (first | assumption | omega) | fail) (by first | (first | assumption | omega) | fail)) ?_
                  rintro r0 σ_60 ⟨rfl, hk_60, hf_60⟩
                  show mz_Wp shA none 89 (63, [some (.inr 0), some (.inl k), some (.inl a), some (.inl b), some (.inl 1), none, none, none, none], [], σ_60) _
                  first | (have hC_60 := CA_Fl hA0 hf_60) | skip
                  first | (have hLr := Lr_lk (k := k) hT) | skip
                  first | (have hlen := flT_len (f := lk1 k) (l := l) (t := (l.length : Int)) (c := 1) (fun x => lk1_le) (by omega)) | skip
                  first | (rw [flT_all rfl] at hlen) | skip
                  first | (have hlen2 : ((lkOf l k).length : Int) ≤ 64 := by unfold lkOf; omega) | skip
                  first | (have hk := CA_pt hC_60 c37.1 c37.2) | skip
                  first | (have hr := Rg_pt hR c37.1 c37.2) | skip
                  first | (have hnd : ¬ (¬ isk v k ∨ ¬ (-3 ≤ a ∧ a ≤ 3 ∧ -3 ≤ b ∧ b ≤ 3) ∨ (a = 0 ∧ b = 0)) := by unfold isk; omega) | skip
                  refine wp_go 5 hM (fr' := (74, [some (.inr 0), some (.inl k), some (.inl a), some (.inl b), some (.inl 1), none, none, none, none], [.inl k, .inr 18], σ_60)) rfl ?_
                  refine wp_al (n := 32) hM rfl (by decide) rfl (by omega) (by omega) ?_
                  first | (rw [hk.2.2.1]) | skip
                  refine wp_go 6 hM (fr' := (88, [some (.inr 0), some (.inl k), some (.inl a), some (.inl b), some (.inl 1), some (.inl (gx v 1 k)), none, none, none], [.inl k, .inr 19], σ_60)) rfl ?_
                  refine wp_al (n := 32) hM rfl (by decide) rfl (by omega) (by omega) ?_
                  first | (rw [hk.2.2.2]) | skip
                  refine wp_go 5 hM (fr' := (97, [some (.inr 0), some (.inl k), some (.inl a), some (.inl b), some (.inl 1), some (.inl (gx v 1 k)), some (.inl (gy v 1 k)), some (.inl 0), some (.inl 1)], [], σ_60)) rfl ?_
                  have loop97 : ∀ (fuel : Nat) (f : Int) (i : Int), (1 ≤ i) → (i ≤ 21) → (f = i - 1) → (fstI (i - 1) (fun j => ¬ rbl v (lkOf l k) k (gx v 1 k + (j + 1) * a) (gy v 1 k + (j + 1) * b) = 0) = -1) → ((21 - i : Int) < fuel) → mz_Wp shA none 89 (97, [some (.inr 0), some (.inl k), some (.inl a), some (.inl b), some (.inl 1), some (.inl (gx v 1 k)), some (.inl (gy v 1 k)), some (.inl f), some (.inl i)], [], σ_60) (fun r σ' => r = some (aReach v l k a b) ∧ CS σ' v l ∧ Fk σ σ') := by
                    intro fuel
                    induction fuel with
                    | zero =>
                      intro f i hv97_0 hv97_1 hv97_2 hv97_3 hf97
                      exfalso
                      omega
                    | succ fuel ih97 =>
                      intro f i hv97_0 hv97_1 hv97_2 hv97_3 hf97
                      have ma := mul_bd (a := i) (b := a) (m := 21) (k := 3) (by omega) (by omega) (by omega) (by omega)
                      have mb := mul_bd (a := i) (b := b) (m := 21) (k := 3) (by omega) (by omega) (by omega) (by omega)
                      have hrb := rbl_bd (v := v) (m := lkOf l k) (k := k) (x := gx v 1 k + i * a) (y := gy v 1 k + i * b)
                      refine wp_go 2 hM (fr' := (101, [some (.inr 0), some (.inl k), some (.inl a), some (.inl b), some (.inl 1), some (.inl (gx v 1 k)), some (.inl (gy v 1 k)), some (.inl f), some (.inl i)], [.inl 20, .inl i], σ_60)) rfl ?_
                      refine wp_ic (tgt := 142) hM rfl (by decide) (by omega) (by omega) (fun c101 => ?_) (fun c101 => ?_)
                      · replace c101 := cmp_gt_t c101
                        refine wp_go 1 hM (fr' := (144, [some (.inr 0), some (.inl k), some (.inl a), some (.inl b), some (.inl 1), some (.inl (gx v 1 k)), some (.inl (gy v 1 k)), some (.inl f), some (.inl i)], [.inl f], σ_60)) rfl ?_
                        refine wp_ret hM rfl (rfl) ?_
                        first | (first | exact ⟨by unfold aReach rcN; rw [if_neg hnd, show (20 : Int) = i - 1 by omega, hv97_3, if_pos rfl, hv97_2], CS_Fl h0 hf_60, Fk_Fl hf_60⟩ | exact ⟨by unfold aReach rcN; rw [if_neg hnd, fstI_yes (t := i - 1) (P := (fun j => ¬ rbl v (lkOf l k) k (gx v 1 k + (j + 1) * a) (gy v 1 k + (j + 1) * b) = 0)) (by omega) (by omega) hv97_3 (by show ¬ _ = 0; rw [show i - 1 + 1 = i by omega]; omega), if_neg (by omega), hv97_2], CS_Fl h0 hf_60, Fk_Fl hf_60⟩) | fail
                      · replace c101 := cmp_gt_f c101
                        refine wp_go 13 hM (fr' := (123, [some (.inr 0), some (.inl k), some (.inl a), some (.inl b), some (.inl 1), some (.inl (gx v 1 k)), some (.inl (gy v 1 k)), some (.inl f), some (.inl i)], [.inl ((gy v 1 k) + (i * b)), .inl ((gx v 1 k) + (i * a)), .inl k, .inr 1], σ_60)) rfl ?_
                        refine wp_calld (v := 0) (idx := 248) (j := 34) (N := mtX1_reasonByLink) (as := [.inr 1, .inl k, .inl ((gx v 1 k) + (i * a)), .inl ((gy v 1 k) + (i * b))]) (rest := []) hM rfl (Or.inl ⟨rfl, rfl⟩) rfl (sp_X1_reasonByLink v l (lkOf l k) σ_60 k ((gx v 1 k) + (i * a)) ((gy v 1 k) + (i * b)) (by first | (first | assumption | omega) | fail) (by first | (first | assumption | omega) | fail) (by first | (first | assumption | omega) | fail) (by first | (first | assumption | omega) | fail) (by first | (first | assumption | omega) | fail) (by first | (first | assumption | omega) | fail) (by first | (first | assumption | omega) | fail) (by first | (first | assumption | omega) | fail) (by first | (first | assumption | omega) | fail)) ?_
                        show mz_Wp shA none 89 (126, [some (.inr 0), some (.inl k), some (.inl a), some (.inl b), some (.inl 1), some (.inl (gx v 1 k)), some (.inl (gy v 1 k)), some (.inl f), some (.inl i)], [.inl (rbl v (lkOf l k) k ((gx v 1 k) + (i * a)) ((gy v 1 k) + (i * b)))], σ_60) _
                        refine wp_if (tgt := 132) hM rfl (by decide) (by omega) (fun c126 => ?_) (fun c126 => ?_)
                        · replace c126 := cmp_eq_t c126
                          refine wp_go 4 hM (fr' := (97, [some (.inr 0), some (.inl k), some (.inl a), some (.inl b), some (.inl 1), some (.inl (gx v 1 k)), some (.inl (gy v 1 k)), some (.inl i), some (.inl (i + 1))], [], σ_60)) rfl ?_
                          exact ih97 i (i + 1) (by omega) (by omega) (by omega) (by first | (rw [show i + 1 - 1 = (i - 1) + 1 by omega]; exact fstI_no (by omega) hv97_3 (by rw [show i - 1 + 1 = i by omega]; omega)) | fail) (by omega)
                        · replace c126 := cmp_eq_f c126
                          refine wp_go 2 hM (fr' := (144, [some (.inr 0), some (.inl k), some (.inl a), some (.inl b), some (.inl 1), some (.inl (gx v 1 k)), some (.inl (gy v 1 k)), some (.inl f), some (.inl i)], [.inl f], σ_60)) rfl ?_
                          refine wp_ret hM rfl (rfl) ?_
                          first | (first | exact ⟨by unfold aReach rcN; rw [if_neg hnd, show (20 : Int) = i - 1 by omega, hv97_3, if_pos rfl, hv97_2], CS_Fl h0 hf_60, Fk_Fl hf_60⟩ | exact ⟨by unfold aReach rcN; rw [if_neg hnd, fstI_yes (t := i - 1) (P := (fun j => ¬ rbl v (lkOf l k) k (gx v 1 k + (j + 1) * a) (gy v 1 k + (j + 1) * b) = 0)) (by omega) (by omega) hv97_3 (by show ¬ _ = 0; rw [show i - 1 + 1 = i by omega]; omega), if_neg (by omega), hv97_2], CS_Fl h0 hf_60, Fk_Fl hf_60⟩) | fail
                  exact loop97 22 0 1 (by omega) (by omega) (by omega) (by rfl) (by omega)
                · replace c50 := cmp_ne_f c50
                  refine wp_go 1 hM (fr' := (54, [some (.inr 0), some (.inl k), some (.inl a), some (.inl b), some (.inl 1), none, none, none, none], [.inl (-1)], σ)) rfl ?_
                  refine wp_ret hM rfl (rfl) ?_
                  first | (exact ⟨by unfold aReach; rw [if_pos (by first | exact Or.inl c37 | exact Or.inr (by omega))], h0, Fk.rf⟩) | fail

set_option maxRecDepth 100000 in
set_option maxHeartbeats 4000000 in
theorem sp_X5_stretch (v : mz_G) (l : List tr3) (σ : mz_G) (w : Int) (h0 : CS σ v l) (h1 : GO v l) (h2 : mz_R w) : mz_Cl shA 91 [.inr 0, .inl w] σ (fun r σ' => r = some (aStretch v l w) ∧ CS σ' v l ∧ Fk σ σ') := by
  have hM : mz_meth[91]? = some mtX5_stretch := rfl
  have hA0 := h0.1
  obtain ⟨hB, hSd, ⟨hP0, hP1⟩, ⟨hC0, hC1'⟩, hVr, hn30, hl2⟩ := id h1
  obtain ⟨hR, hT, hLen⟩ := id hB
  obtain ⟨⟨hW0, hW1⟩, ⟨hH0, hH1⟩, ⟨hn0, hn1⟩, hpt⟩ := id hR
  obtain ⟨⟨hc1, hc2, hc3, hc4⟩, hcp, hct, hcv⟩ := id hA0
  have hWH := WH_bd hR
  have hxb : ∀ b : Int, 0 ≤ exI v l b (l.length : Int) ∧ exI v l b (l.length : Int) < (l.length : Int) := fun b => exI_bd (by omega)
  have ht1 : ∀ b : Int, -722 ≤ tar v 1 (tg l (exI v l b (l.length : Int))) ∧ tar v 1 (tg l (exI v l b (l.length : Int))) ≤ 722 := fun b => tar_bd (l := l) (q := 1) hR (by decide) (Rt_at hT (hxb b).1 (hxb b).2)
  have ht0 : ∀ b : Int, -722 ≤ tar v 0 (tg l (exI v l b (l.length : Int))) ∧ tar v 0 (tg l (exI v l b (l.length : Int))) ≤ 722 := fun b => tar_bd (l := l) (q := 0) hR (by decide) (Rt_at hT (hxb b).1 (hxb b).2)
  have hp1 : ∀ b : Int, 0 < tar v 1 (tg l (exI v l b (l.length : Int))) := fun b => hP1 _ (tg_mem (hxb b).1 (hxb b).2)
  have hp0 : ∀ b : Int, 0 < tar v 0 (tg l (exI v l b (l.length : Int))) := fun b => hP0 _ (tg_mem (hxb b).1 (hxb b).2)
  have a1 := hxb 0
  have a2 := hxb 1
  have a3 := ht1 0
  have a4 := ht1 1
  have a5 := ht0 0
  have a6 := ht0 1
  have a7 := hp1 0
  have a8 := hp1 1
  have a9 := hp0 0
  have a10 := hp0 1
  have g0 := gcd_le (show 0 ≤ tar v 1 (tg l (exI v l 0 (l.length : Int))) by omega) (show 0 ≤ tar v 0 (tg l (exI v l 0 (l.length : Int))) by omega)
  have g1 := gcd_le (show 0 ≤ tar v 1 (tg l (exI v l 1 (l.length : Int))) by omega) (show 0 ≤ tar v 0 (tg l (exI v l 1 (l.length : Int))) by omega)
  refine mz_Cl.of hM ?_
  show mz_Wp shA none 91 (0, [some (.inr 0), some (.inl w), none, none, none, none, none], [], σ) _
  refine wp_go 1 hM (fr' := (1, [some (.inr 0), some (.inl w), none, none, none, none, none], [.inl w], σ)) rfl ?_
  refine wp_if (tgt := 9) hM rfl (by decide) (by omega) (fun c1 => ?_) (fun c1 => ?_)
  · replace c1 := cmp_lt_t c1
    refine wp_go 1 hM (fr' := (10, [some (.inr 0), some (.inl w), none, none, none, none, none], [.inl (-1)], σ)) rfl ?_
    refine wp_ret hM rfl (rfl) ?_
    first | (exact ⟨by unfold aStretch; rw [if_pos (by omega)], h0, Fk.rf⟩) | fail
  · replace c1 := cmp_lt_f c1
    refine wp_go 2 hM (fr' := (6, [some (.inr 0), some (.inl w), none, none, none, none, none], [.inl 5, .inl w], σ)) rfl ?_
    refine wp_ic (tgt := 11) hM rfl (by decide) (by omega) (by omega) (fun c6 => ?_) (fun c6 => ?_)
    · replace c6 := cmp_le_t c6
      refine wp_go 2 hM (fr' := (13, [some (.inr 0), some (.inl w), none, none, none, none, none], [.inl 1, .inl w], σ)) rfl ?_
      refine wp_ic (tgt := 21) hM rfl (by decide) (by omega) (by omega) (fun c13 => ?_) (fun c13 => ?_)
      · replace c13 := cmp_eq_t c13
        refine wp_go 6 hM (fr' := (32, [some (.inr 0), some (.inl w), some (.inl 1), none, none, none, none], [.inl 1, .inr 1], σ)) rfl ?_
        refine wp_calld (v := 0) (idx := 254) (j := 23) (N := mtX1_extremeTriangle) (as := [.inr 1, .inl 1]) (rest := []) hM rfl (Or.inl ⟨rfl, rfl⟩) rfl (sp_X1_extremeTriangle v l σ 1 (by first | (first | assumption | omega) | fail) (by first | (first | assumption | omega) | fail) (by first | (first | assumption | omega) | fail) (by first | (first | assumption | omega) | fail)) ?_
        show mz_Wp shA none 91 (35, [some (.inr 0), some (.inl w), some (.inl 1), none, none, none, none], [.inl (exI v l 1 (l.length : Int))], σ) _
        refine wp_go 3 hM (fr' := (38, [some (.inr 0), some (.inl w), some (.inl 1), some (.inl (exI v l 1 (l.length : Int))), none, none, none], [.inl 2, .inl w], σ)) rfl ?_
        refine wp_ic (tgt := 43) hM rfl (by decide) (by omega) (by omega) (fun c38 => ?_) (fun c38 => ?_)
        · replace c38 := cmp_ge_t c38
          refine wp_go 6 hM (fr' := (55, [some (.inr 0), some (.inl w), some (.inl 1), some (.inl (exI v l 1 (l.length : Int))), none, none, none], [.inl (exI v l 1 (l.length : Int)), .inr 9, .inr 1], σ)) rfl ?_
          refine wp_calld (v := 0) (idx := 165) (j := 15) (N := mtX1_areaOf) (as := [.inr 1, .inr 9, .inl (exI v l 1 (l.length : Int))]) (rest := []) hM rfl (Or.inl ⟨rfl, rfl⟩) rfl (sp_X1_areaOf_9 v l σ (exI v l 1 (l.length : Int)) (by first | (first | assumption | exact a1.1 | exact a1.2 | exact a2.1 | exact a2.2 | omega) | fail) (by first | (first | assumption | exact a1.1 | exact a1.2 | exact a2.1 | exact a2.2 | omega) | fail) (by first | (first | assumption | exact a1.1 | exact a1.2 | exact a2.1 | exact a2.2 | omega) | fail) (by first | (first | assumption | exact a1.1 | exact a1.2 | exact a2.1 | exact a2.2 | omega) | fail)) ?_
          show mz_Wp shA none 91 (58, [some (.inr 0), some (.inl w), some (.inl 1), some (.inl (exI v l 1 (l.length : Int))), none, none, none], [.inl (tar v 1 (tg l (exI v l 1 (l.length : Int))))], σ) _
          refine wp_go 7 hM (fr' := (72, [some (.inr 0), some (.inl w), some (.inl 1), some (.inl (exI v l 1 (l.length : Int))), some (.inl (tar v 1 (tg l (exI v l 1 (l.length : Int))))), none, none], [.inl (exI v l 1 (l.length : Int)), .inr 8, .inr 1], σ)) rfl ?_
          refine wp_calld (v := 0) (idx := 165) (j := 15) (N := mtX1_areaOf) (as := [.inr 1, .inr 8, .inl (exI v l 1 (l.length : Int))]) (rest := []) hM rfl (Or.inl ⟨rfl, rfl⟩) rfl (sp_X1_areaOf_8 v l σ (exI v l 1 (l.length : Int)) (by first | (first | assumption | exact a1.1 | exact a1.2 | exact a2.1 | exact a2.2 | omega) | fail) (by first | (first | assumption | exact a1.1 | exact a1.2 | exact a2.1 | exact a2.2 | omega) | fail) (by first | (first | assumption | exact a1.1 | exact a1.2 | exact a2.1 | exact a2.2 | omega) | fail) (by first | (first | assumption | exact a1.1 | exact a1.2 | exact a2.1 | exact a2.2 | omega) | fail)) ?_
          show mz_Wp shA none 91 (75, [some (.inr 0), some (.inl w), some (.inl 1), some (.inl (exI v l 1 (l.length : Int))), some (.inl (tar v 1 (tg l (exI v l 1 (l.length : Int))))), none, none], [.inl (tar v 0 (tg l (exI v l 1 (l.length : Int))))], σ) _
          refine wp_go 3 hM (fr' := (79, [some (.inr 0), some (.inl w), some (.inl 1), some (.inl (exI v l 1 (l.length : Int))), some (.inl (tar v 1 (tg l (exI v l 1 (l.length : Int))))), some (.inl (tar v 0 (tg l (exI v l 1 (l.length : Int))))), none], [.inl 2, .inl w], σ)) rfl ?_
          refine wp_ic (tgt := 87) hM rfl (by decide) (by omega) (by omega) (fun c79 => ?_) (fun c79 => ?_)
          · replace c79 := cmp_eq_t c79
            refine wp_go 4 hM (fr' := (96, [some (.inr 0), some (.inl w), some (.inl 1), some (.inl (exI v l 1 (l.length : Int))), some (.inl (tar v 1 (tg l (exI v l 1 (l.length : Int))))), some (.inl (tar v 0 (tg l (exI v l 1 (l.length : Int))))), some (.inl 1)], [.inl 1], σ)) rfl ?_
            refine wp_if (tgt := 104) hM rfl (by decide) (by omega) (fun c96 => ?_) (fun c96 => ?_)
            · replace c96 := cmp_eq_t c96
              refine wp_go 3 hM (fr' := (110, [some (.inr 0), some (.inl w), some (.inl 1), some (.inl (exI v l 1 (l.length : Int))), some (.inl (tar v 1 (tg l (exI v l 1 (l.length : Int))))), some (.inl (tar v 0 (tg l (exI v l 1 (l.length : Int))))), some (.inl 1)], [.inl (tar v 0 (tg l (exI v l 1 (l.length : Int)))), .inl (tar v 1 (tg l (exI v l 1 (l.length : Int)))), .inl (tar v 0 (tg l (exI v l 1 (l.length : Int))))], σ)) rfl ?_
              refine wp_calld (v := 1) (idx := 232) (j := 101) (N := mtX5_divisorOf) (as := [.inl (tar v 1 (tg l (exI v l 1 (l.length : Int)))), .inl (tar v 0 (tg l (exI v l 1 (l.length : Int))))]) (rest := [.inl (tar v 0 (tg l (exI v l 1 (l.length : Int))))]) hM rfl (Or.inr ⟨rfl, rfl⟩) rfl (sp_X5_divisorOf  σ (tar v 1 (tg l (exI v l 1 (l.length : Int)))) (tar v 0 (tg l (exI v l 1 (l.length : Int)))) (by first | (first | assumption | omega) | fail) (by first | (first | assumption | omega) | fail) (by first | (first | assumption | omega) | fail) (by first | (first | assumption | omega) | fail)) ?_
              show mz_Wp shA none 91 (113, [some (.inr 0), some (.inl w), some (.inl 1), some (.inl (exI v l 1 (l.length : Int))), some (.inl (tar v 1 (tg l (exI v l 1 (l.length : Int))))), some (.inl (tar v 0 (tg l (exI v l 1 (l.length : Int))))), some (.inl 1)], [.inl (Int.gcd (tar v 1 (tg l (exI v l 1 (l.length : Int)))) (tar v 0 (tg l (exI v l 1 (l.length : Int)))) : Int), .inl (tar v 0 (tg l (exI v l 1 (l.length : Int))))], σ) _
              refine wp_calld (v := 1) (idx := 235) (j := 102) (N := mtX5_shortened) (as := [.inl (tar v 0 (tg l (exI v l 1 (l.length : Int)))), .inl (Int.gcd (tar v 1 (tg l (exI v l 1 (l.length : Int)))) (tar v 0 (tg l (exI v l 1 (l.length : Int)))) : Int)]) (rest := []) hM rfl (Or.inr ⟨rfl, rfl⟩) rfl (sp_X5_shortened  σ (tar v 0 (tg l (exI v l 1 (l.length : Int)))) (Int.gcd (tar v 1 (tg l (exI v l 1 (l.length : Int)))) (tar v 0 (tg l (exI v l 1 (l.length : Int)))) : Int) (by omega) (by omega)) ?_
              show mz_Wp shA none 91 (116, [some (.inr 0), some (.inl w), some (.inl 1), some (.inl (exI v l 1 (l.length : Int))), some (.inl (tar v 1 (tg l (exI v l 1 (l.length : Int))))), some (.inl (tar v 0 (tg l (exI v l 1 (l.length : Int))))), some (.inl 1)], [.inl (shq (tar v 0 (tg l (exI v l 1 (l.length : Int)))) (Int.gcd (tar v 1 (tg l (exI v l 1 (l.length : Int)))) (tar v 0 (tg l (exI v l 1 (l.length : Int)))) : Int))], σ) _
              refine wp_ret hM rfl (rfl) ?_
              refine ⟨?_, h0, Fk.rf⟩
              unfold aStretch stG stT
              repeat' split
              all_goals first | rfl | (exfalso; omega)
            · replace c96 := cmp_eq_f c96
              refine wp_go 4 hM (fr' := (110, [some (.inr 0), some (.inl w), some (.inl 1), some (.inl (exI v l 1 (l.length : Int))), some (.inl (tar v 1 (tg l (exI v l 1 (l.length : Int))))), some (.inl (tar v 0 (tg l (exI v l 1 (l.length : Int))))), some (.inl 1)], [.inl (tar v 0 (tg l (exI v l 1 (l.length : Int)))), .inl (tar v 1 (tg l (exI v l 1 (l.length : Int)))), .inl (tar v 1 (tg l (exI v l 1 (l.length : Int))))], σ)) rfl ?_
              refine wp_calld (v := 1) (idx := 232) (j := 101) (N := mtX5_divisorOf) (as := [.inl (tar v 1 (tg l (exI v l 1 (l.length : Int)))), .inl (tar v 0 (tg l (exI v l 1 (l.length : Int))))]) (rest := [.inl (tar v 1 (tg l (exI v l 1 (l.length : Int))))]) hM rfl (Or.inr ⟨rfl, rfl⟩) rfl (sp_X5_divisorOf  σ (tar v 1 (tg l (exI v l 1 (l.length : Int)))) (tar v 0 (tg l (exI v l 1 (l.length : Int)))) (by first | (first | assumption | omega) | fail) (by first | (first | assumption | omega) | fail) (by first | (first | assumption | omega) | fail) (by first | (first | assumption | omega) | fail)) ?_
              show mz_Wp shA none 91 (113, [some (.inr 0), some (.inl w), some (.inl 1), some (.inl (exI v l 1 (l.length : Int))), some (.inl (tar v 1 (tg l (exI v l 1 (l.length : Int))))), some (.inl (tar v 0 (tg l (exI v l 1 (l.length : Int))))), some (.inl 1)], [.inl (Int.gcd (tar v 1 (tg l (exI v l 1 (l.length : Int)))) (tar v 0 (tg l (exI v l 1 (l.length : Int)))) : Int), .inl (tar v 1 (tg l (exI v l 1 (l.length : Int))))], σ) _
              refine wp_calld (v := 1) (idx := 235) (j := 102) (N := mtX5_shortened) (as := [.inl (tar v 1 (tg l (exI v l 1 (l.length : Int)))), .inl (Int.gcd (tar v 1 (tg l (exI v l 1 (l.length : Int)))) (tar v 0 (tg l (exI v l 1 (l.length : Int)))) : Int)]) (rest := []) hM rfl (Or.inr ⟨rfl, rfl⟩) rfl (sp_X5_shortened  σ (tar v 1 (tg l (exI v l 1 (l.length : Int)))) (Int.gcd (tar v 1 (tg l (exI v l 1 (l.length : Int)))) (tar v 0 (tg l (exI v l 1 (l.length : Int)))) : Int) (by omega) (by omega)) ?_
              show mz_Wp shA none 91 (116, [some (.inr 0), some (.inl w), some (.inl 1), some (.inl (exI v l 1 (l.length : Int))), some (.inl (tar v 1 (tg l (exI v l 1 (l.length : Int))))), some (.inl (tar v 0 (tg l (exI v l 1 (l.length : Int))))), some (.inl 1)], [.inl (shq (tar v 1 (tg l (exI v l 1 (l.length : Int)))) (Int.gcd (tar v 1 (tg l (exI v l 1 (l.length : Int)))) (tar v 0 (tg l (exI v l 1 (l.length : Int)))) : Int))], σ) _
              refine wp_ret hM rfl (rfl) ?_
              refine ⟨?_, h0, Fk.rf⟩
              unfold aStretch stG stT
              repeat' split
              all_goals first | rfl | (exfalso; omega)
          · replace c79 := cmp_eq_f c79
            refine wp_go 2 hM (fr' := (84, [some (.inr 0), some (.inl w), some (.inl 1), some (.inl (exI v l 1 (l.length : Int))), some (.inl (tar v 1 (tg l (exI v l 1 (l.length : Int))))), some (.inl (tar v 0 (tg l (exI v l 1 (l.length : Int))))), none], [.inl 4, .inl w], σ)) rfl ?_
            refine wp_ic (tgt := 91) hM rfl (by decide) (by omega) (by omega) (fun c84 => ?_) (fun c84 => ?_)
            · replace c84 := cmp_ne_t c84
              refine wp_go 3 hM (fr' := (96, [some (.inr 0), some (.inl w), some (.inl 1), some (.inl (exI v l 1 (l.length : Int))), some (.inl (tar v 1 (tg l (exI v l 1 (l.length : Int))))), some (.inl (tar v 0 (tg l (exI v l 1 (l.length : Int))))), some (.inl 0)], [.inl 0], σ)) rfl ?_
              refine wp_if (tgt := 104) hM rfl (by decide) (by omega) (fun c96 => ?_) (fun c96 => ?_)
              · replace c96 := cmp_eq_t c96
                refine wp_go 3 hM (fr' := (110, [some (.inr 0), some (.inl w), some (.inl 1), some (.inl (exI v l 1 (l.length : Int))), some (.inl (tar v 1 (tg l (exI v l 1 (l.length : Int))))), some (.inl (tar v 0 (tg l (exI v l 1 (l.length : Int))))), some (.inl 0)], [.inl (tar v 0 (tg l (exI v l 1 (l.length : Int)))), .inl (tar v 1 (tg l (exI v l 1 (l.length : Int)))), .inl (tar v 0 (tg l (exI v l 1 (l.length : Int))))], σ)) rfl ?_
                refine wp_calld (v := 1) (idx := 232) (j := 101) (N := mtX5_divisorOf) (as := [.inl (tar v 1 (tg l (exI v l 1 (l.length : Int)))), .inl (tar v 0 (tg l (exI v l 1 (l.length : Int))))]) (rest := [.inl (tar v 0 (tg l (exI v l 1 (l.length : Int))))]) hM rfl (Or.inr ⟨rfl, rfl⟩) rfl (sp_X5_divisorOf  σ (tar v 1 (tg l (exI v l 1 (l.length : Int)))) (tar v 0 (tg l (exI v l 1 (l.length : Int)))) (by first | (first | assumption | omega) | fail) (by first | (first | assumption | omega) | fail) (by first | (first | assumption | omega) | fail) (by first | (first | assumption | omega) | fail)) ?_
                show mz_Wp shA none 91 (113, [some (.inr 0), some (.inl w), some (.inl 1), some (.inl (exI v l 1 (l.length : Int))), some (.inl (tar v 1 (tg l (exI v l 1 (l.length : Int))))), some (.inl (tar v 0 (tg l (exI v l 1 (l.length : Int))))), some (.inl 0)], [.inl (Int.gcd (tar v 1 (tg l (exI v l 1 (l.length : Int)))) (tar v 0 (tg l (exI v l 1 (l.length : Int)))) : Int), .inl (tar v 0 (tg l (exI v l 1 (l.length : Int))))], σ) _
                refine wp_calld (v := 1) (idx := 235) (j := 102) (N := mtX5_shortened) (as := [.inl (tar v 0 (tg l (exI v l 1 (l.length : Int)))), .inl (Int.gcd (tar v 1 (tg l (exI v l 1 (l.length : Int)))) (tar v 0 (tg l (exI v l 1 (l.length : Int)))) : Int)]) (rest := []) hM rfl (Or.inr ⟨rfl, rfl⟩) rfl (sp_X5_shortened  σ (tar v 0 (tg l (exI v l 1 (l.length : Int)))) (Int.gcd (tar v 1 (tg l (exI v l 1 (l.length : Int)))) (tar v 0 (tg l (exI v l 1 (l.length : Int)))) : Int) (by omega) (by omega)) ?_
                show mz_Wp shA none 91 (116, [some (.inr 0), some (.inl w), some (.inl 1), some (.inl (exI v l 1 (l.length : Int))), some (.inl (tar v 1 (tg l (exI v l 1 (l.length : Int))))), some (.inl (tar v 0 (tg l (exI v l 1 (l.length : Int))))), some (.inl 0)], [.inl (shq (tar v 0 (tg l (exI v l 1 (l.length : Int)))) (Int.gcd (tar v 1 (tg l (exI v l 1 (l.length : Int)))) (tar v 0 (tg l (exI v l 1 (l.length : Int)))) : Int))], σ) _
                refine wp_ret hM rfl (rfl) ?_
                refine ⟨?_, h0, Fk.rf⟩
                unfold aStretch stG stT
                repeat' split
                all_goals first | rfl | (exfalso; omega)
              · replace c96 := cmp_eq_f c96
                refine wp_go 4 hM (fr' := (110, [some (.inr 0), some (.inl w), some (.inl 1), some (.inl (exI v l 1 (l.length : Int))), some (.inl (tar v 1 (tg l (exI v l 1 (l.length : Int))))), some (.inl (tar v 0 (tg l (exI v l 1 (l.length : Int))))), some (.inl 0)], [.inl (tar v 0 (tg l (exI v l 1 (l.length : Int)))), .inl (tar v 1 (tg l (exI v l 1 (l.length : Int)))), .inl (tar v 1 (tg l (exI v l 1 (l.length : Int))))], σ)) rfl ?_
                refine wp_calld (v := 1) (idx := 232) (j := 101) (N := mtX5_divisorOf) (as := [.inl (tar v 1 (tg l (exI v l 1 (l.length : Int)))), .inl (tar v 0 (tg l (exI v l 1 (l.length : Int))))]) (rest := [.inl (tar v 1 (tg l (exI v l 1 (l.length : Int))))]) hM rfl (Or.inr ⟨rfl, rfl⟩) rfl (sp_X5_divisorOf  σ (tar v 1 (tg l (exI v l 1 (l.length : Int)))) (tar v 0 (tg l (exI v l 1 (l.length : Int)))) (by first | (first | assumption | omega) | fail) (by first | (first | assumption | omega) | fail) (by first | (first | assumption | omega) | fail) (by first | (first | assumption | omega) | fail)) ?_
                show mz_Wp shA none 91 (113, [some (.inr 0), some (.inl w), some (.inl 1), some (.inl (exI v l 1 (l.length : Int))), some (.inl (tar v 1 (tg l (exI v l 1 (l.length : Int))))), some (.inl (tar v 0 (tg l (exI v l 1 (l.length : Int))))), some (.inl 0)], [.inl (Int.gcd (tar v 1 (tg l (exI v l 1 (l.length : Int)))) (tar v 0 (tg l (exI v l 1 (l.length : Int)))) : Int), .inl (tar v 1 (tg l (exI v l 1 (l.length : Int))))], σ) _
                refine wp_calld (v := 1) (idx := 235) (j := 102) (N := mtX5_shortened) (as := [.inl (tar v 1 (tg l (exI v l 1 (l.length : Int)))), .inl (Int.gcd (tar v 1 (tg l (exI v l 1 (l.length : Int)))) (tar v 0 (tg l (exI v l 1 (l.length : Int)))) : Int)]) (rest := []) hM rfl (Or.inr ⟨rfl, rfl⟩) rfl (sp_X5_shortened  σ (tar v 1 (tg l (exI v l 1 (l.length : Int)))) (Int.gcd (tar v 1 (tg l (exI v l 1 (l.length : Int)))) (tar v 0 (tg l (exI v l 1 (l.length : Int)))) : Int) (by omega) (by omega)) ?_
                show mz_Wp shA none 91 (116, [some (.inr 0), some (.inl w), some (.inl 1), some (.inl (exI v l 1 (l.length : Int))), some (.inl (tar v 1 (tg l (exI v l 1 (l.length : Int))))), some (.inl (tar v 0 (tg l (exI v l 1 (l.length : Int))))), some (.inl 0)], [.inl (shq (tar v 1 (tg l (exI v l 1 (l.length : Int)))) (Int.gcd (tar v 1 (tg l (exI v l 1 (l.length : Int)))) (tar v 0 (tg l (exI v l 1 (l.length : Int)))) : Int))], σ) _
                refine wp_ret hM rfl (rfl) ?_
                refine ⟨?_, h0, Fk.rf⟩
                unfold aStretch stG stT
                repeat' split
                all_goals first | rfl | (exfalso; omega)
            · replace c84 := cmp_ne_f c84
              refine wp_go 4 hM (fr' := (96, [some (.inr 0), some (.inl w), some (.inl 1), some (.inl (exI v l 1 (l.length : Int))), some (.inl (tar v 1 (tg l (exI v l 1 (l.length : Int))))), some (.inl (tar v 0 (tg l (exI v l 1 (l.length : Int))))), some (.inl 1)], [.inl 1], σ)) rfl ?_
              refine wp_if (tgt := 104) hM rfl (by decide) (by omega) (fun c96 => ?_) (fun c96 => ?_)
              · replace c96 := cmp_eq_t c96
                refine wp_go 3 hM (fr' := (110, [some (.inr 0), some (.inl w), some (.inl 1), some (.inl (exI v l 1 (l.length : Int))), some (.inl (tar v 1 (tg l (exI v l 1 (l.length : Int))))), some (.inl (tar v 0 (tg l (exI v l 1 (l.length : Int))))), some (.inl 1)], [.inl (tar v 0 (tg l (exI v l 1 (l.length : Int)))), .inl (tar v 1 (tg l (exI v l 1 (l.length : Int)))), .inl (tar v 0 (tg l (exI v l 1 (l.length : Int))))], σ)) rfl ?_
                refine wp_calld (v := 1) (idx := 232) (j := 101) (N := mtX5_divisorOf) (as := [.inl (tar v 1 (tg l (exI v l 1 (l.length : Int)))), .inl (tar v 0 (tg l (exI v l 1 (l.length : Int))))]) (rest := [.inl (tar v 0 (tg l (exI v l 1 (l.length : Int))))]) hM rfl (Or.inr ⟨rfl, rfl⟩) rfl (sp_X5_divisorOf  σ (tar v 1 (tg l (exI v l 1 (l.length : Int)))) (tar v 0 (tg l (exI v l 1 (l.length : Int)))) (by first | (first | assumption | omega) | fail) (by first | (first | assumption | omega) | fail) (by first | (first | assumption | omega) | fail) (by first | (first | assumption | omega) | fail)) ?_
                show mz_Wp shA none 91 (113, [some (.inr 0), some (.inl w), some (.inl 1), some (.inl (exI v l 1 (l.length : Int))), some (.inl (tar v 1 (tg l (exI v l 1 (l.length : Int))))), some (.inl (tar v 0 (tg l (exI v l 1 (l.length : Int))))), some (.inl 1)], [.inl (Int.gcd (tar v 1 (tg l (exI v l 1 (l.length : Int)))) (tar v 0 (tg l (exI v l 1 (l.length : Int)))) : Int), .inl (tar v 0 (tg l (exI v l 1 (l.length : Int))))], σ) _
                refine wp_calld (v := 1) (idx := 235) (j := 102) (N := mtX5_shortened) (as := [.inl (tar v 0 (tg l (exI v l 1 (l.length : Int)))), .inl (Int.gcd (tar v 1 (tg l (exI v l 1 (l.length : Int)))) (tar v 0 (tg l (exI v l 1 (l.length : Int)))) : Int)]) (rest := []) hM rfl (Or.inr ⟨rfl, rfl⟩) rfl (sp_X5_shortened  σ (tar v 0 (tg l (exI v l 1 (l.length : Int)))) (Int.gcd (tar v 1 (tg l (exI v l 1 (l.length : Int)))) (tar v 0 (tg l (exI v l 1 (l.length : Int)))) : Int) (by omega) (by omega)) ?_
                show mz_Wp shA none 91 (116, [some (.inr 0), some (.inl w), some (.inl 1), some (.inl (exI v l 1 (l.length : Int))), some (.inl (tar v 1 (tg l (exI v l 1 (l.length : Int))))), some (.inl (tar v 0 (tg l (exI v l 1 (l.length : Int))))), some (.inl 1)], [.inl (shq (tar v 0 (tg l (exI v l 1 (l.length : Int)))) (Int.gcd (tar v 1 (tg l (exI v l 1 (l.length : Int)))) (tar v 0 (tg l (exI v l 1 (l.length : Int)))) : Int))], σ) _
                refine wp_ret hM rfl (rfl) ?_
                refine ⟨?_, h0, Fk.rf⟩
                unfold aStretch stG stT
                repeat' split
                all_goals first | rfl | (exfalso; omega)
              · replace c96 := cmp_eq_f c96
                refine wp_go 4 hM (fr' := (110, [some (.inr 0), some (.inl w), some (.inl 1), some (.inl (exI v l 1 (l.length : Int))), some (.inl (tar v 1 (tg l (exI v l 1 (l.length : Int))))), some (.inl (tar v 0 (tg l (exI v l 1 (l.length : Int))))), some (.inl 1)], [.inl (tar v 0 (tg l (exI v l 1 (l.length : Int)))), .inl (tar v 1 (tg l (exI v l 1 (l.length : Int)))), .inl (tar v 1 (tg l (exI v l 1 (l.length : Int))))], σ)) rfl ?_
                refine wp_calld (v := 1) (idx := 232) (j := 101) (N := mtX5_divisorOf) (as := [.inl (tar v 1 (tg l (exI v l 1 (l.length : Int)))), .inl (tar v 0 (tg l (exI v l 1 (l.length : Int))))]) (rest := [.inl (tar v 1 (tg l (exI v l 1 (l.length : Int))))]) hM rfl (Or.inr ⟨rfl, rfl⟩) rfl (sp_X5_divisorOf  σ (tar v 1 (tg l (exI v l 1 (l.length : Int)))) (tar v 0 (tg l (exI v l 1 (l.length : Int)))) (by first | (first | assumption | omega) | fail) (by first | (first | assumption | omega) | fail) (by first | (first | assumption | omega) | fail) (by first | (first | assumption | omega) | fail)) ?_
                show mz_Wp shA none 91 (113, [some (.inr 0), some (.inl w), some (.inl 1), some (.inl (exI v l 1 (l.length : Int))), some (.inl (tar v 1 (tg l (exI v l 1 (l.length : Int))))), some (.inl (tar v 0 (tg l (exI v l 1 (l.length : Int))))), some (.inl 1)], [.inl (Int.gcd (tar v 1 (tg l (exI v l 1 (l.length : Int)))) (tar v 0 (tg l (exI v l 1 (l.length : Int)))) : Int), .inl (tar v 1 (tg l (exI v l 1 (l.length : Int))))], σ) _
                refine wp_calld (v := 1) (idx := 235) (j := 102) (N := mtX5_shortened) (as := [.inl (tar v 1 (tg l (exI v l 1 (l.length : Int)))), .inl (Int.gcd (tar v 1 (tg l (exI v l 1 (l.length : Int)))) (tar v 0 (tg l (exI v l 1 (l.length : Int)))) : Int)]) (rest := []) hM rfl (Or.inr ⟨rfl, rfl⟩) rfl (sp_X5_shortened  σ (tar v 1 (tg l (exI v l 1 (l.length : Int)))) (Int.gcd (tar v 1 (tg l (exI v l 1 (l.length : Int)))) (tar v 0 (tg l (exI v l 1 (l.length : Int)))) : Int) (by omega) (by omega)) ?_
                show mz_Wp shA none 91 (116, [some (.inr 0), some (.inl w), some (.inl 1), some (.inl (exI v l 1 (l.length : Int))), some (.inl (tar v 1 (tg l (exI v l 1 (l.length : Int))))), some (.inl (tar v 0 (tg l (exI v l 1 (l.length : Int))))), some (.inl 1)], [.inl (shq (tar v 1 (tg l (exI v l 1 (l.length : Int)))) (Int.gcd (tar v 1 (tg l (exI v l 1 (l.length : Int)))) (tar v 0 (tg l (exI v l 1 (l.length : Int)))) : Int))], σ) _
                refine wp_ret hM rfl (rfl) ?_
                refine ⟨?_, h0, Fk.rf⟩
                unfold aStretch stG stT
                repeat' split
                all_goals first | rfl | (exfalso; omega)
        · replace c38 := cmp_ge_f c38
          refine wp_go 1 hM (fr' := (42, [some (.inr 0), some (.inl w), some (.inl 1), some (.inl (exI v l 1 (l.length : Int))), none, none, none], [.inl (exI v l 1 (l.length : Int))], σ)) rfl ?_
          refine wp_ret hM rfl (rfl) ?_
          refine ⟨?_, h0, Fk.rf⟩
          unfold aStretch stT
          repeat' split
          all_goals first | rfl | (exfalso; omega)
      · replace c13 := cmp_eq_f c13
        refine wp_go 2 hM (fr' := (18, [some (.inr 0), some (.inl w), none, none, none, none, none], [.inl 4, .inl w], σ)) rfl ?_
        refine wp_ic (tgt := 25) hM rfl (by decide) (by omega) (by omega) (fun c18 => ?_) (fun c18 => ?_)
        · replace c18 := cmp_lt_t c18
          refine wp_go 5 hM (fr' := (32, [some (.inr 0), some (.inl w), some (.inl 0), none, none, none, none], [.inl 0, .inr 1], σ)) rfl ?_
          refine wp_calld (v := 0) (idx := 254) (j := 23) (N := mtX1_extremeTriangle) (as := [.inr 1, .inl 0]) (rest := []) hM rfl (Or.inl ⟨rfl, rfl⟩) rfl (sp_X1_extremeTriangle v l σ 0 (by first | (first | assumption | omega) | fail) (by first | (first | assumption | omega) | fail) (by first | (first | assumption | omega) | fail) (by first | (first | assumption | omega) | fail)) ?_
          show mz_Wp shA none 91 (35, [some (.inr 0), some (.inl w), some (.inl 0), none, none, none, none], [.inl (exI v l 0 (l.length : Int))], σ) _
          refine wp_go 3 hM (fr' := (38, [some (.inr 0), some (.inl w), some (.inl 0), some (.inl (exI v l 0 (l.length : Int))), none, none, none], [.inl 2, .inl w], σ)) rfl ?_
          refine wp_ic (tgt := 43) hM rfl (by decide) (by omega) (by omega) (fun c38 => ?_) (fun c38 => ?_)
          · replace c38 := cmp_ge_t c38
            refine wp_go 6 hM (fr' := (55, [some (.inr 0), some (.inl w), some (.inl 0), some (.inl (exI v l 0 (l.length : Int))), none, none, none], [.inl (exI v l 0 (l.length : Int)), .inr 9, .inr 1], σ)) rfl ?_
            refine wp_calld (v := 0) (idx := 165) (j := 15) (N := mtX1_areaOf) (as := [.inr 1, .inr 9, .inl (exI v l 0 (l.length : Int))]) (rest := []) hM rfl (Or.inl ⟨rfl, rfl⟩) rfl (sp_X1_areaOf_9 v l σ (exI v l 0 (l.length : Int)) (by first | (first | assumption | exact a1.1 | exact a1.2 | exact a2.1 | exact a2.2 | omega) | fail) (by first | (first | assumption | exact a1.1 | exact a1.2 | exact a2.1 | exact a2.2 | omega) | fail) (by first | (first | assumption | exact a1.1 | exact a1.2 | exact a2.1 | exact a2.2 | omega) | fail) (by first | (first | assumption | exact a1.1 | exact a1.2 | exact a2.1 | exact a2.2 | omega) | fail)) ?_
            show mz_Wp shA none 91 (58, [some (.inr 0), some (.inl w), some (.inl 0), some (.inl (exI v l 0 (l.length : Int))), none, none, none], [.inl (tar v 1 (tg l (exI v l 0 (l.length : Int))))], σ) _
            refine wp_go 7 hM (fr' := (72, [some (.inr 0), some (.inl w), some (.inl 0), some (.inl (exI v l 0 (l.length : Int))), some (.inl (tar v 1 (tg l (exI v l 0 (l.length : Int))))), none, none], [.inl (exI v l 0 (l.length : Int)), .inr 8, .inr 1], σ)) rfl ?_
            refine wp_calld (v := 0) (idx := 165) (j := 15) (N := mtX1_areaOf) (as := [.inr 1, .inr 8, .inl (exI v l 0 (l.length : Int))]) (rest := []) hM rfl (Or.inl ⟨rfl, rfl⟩) rfl (sp_X1_areaOf_8 v l σ (exI v l 0 (l.length : Int)) (by first | (first | assumption | exact a1.1 | exact a1.2 | exact a2.1 | exact a2.2 | omega) | fail) (by first | (first | assumption | exact a1.1 | exact a1.2 | exact a2.1 | exact a2.2 | omega) | fail) (by first | (first | assumption | exact a1.1 | exact a1.2 | exact a2.1 | exact a2.2 | omega) | fail) (by first | (first | assumption | exact a1.1 | exact a1.2 | exact a2.1 | exact a2.2 | omega) | fail)) ?_
            show mz_Wp shA none 91 (75, [some (.inr 0), some (.inl w), some (.inl 0), some (.inl (exI v l 0 (l.length : Int))), some (.inl (tar v 1 (tg l (exI v l 0 (l.length : Int))))), none, none], [.inl (tar v 0 (tg l (exI v l 0 (l.length : Int))))], σ) _
            refine wp_go 3 hM (fr' := (79, [some (.inr 0), some (.inl w), some (.inl 0), some (.inl (exI v l 0 (l.length : Int))), some (.inl (tar v 1 (tg l (exI v l 0 (l.length : Int))))), some (.inl (tar v 0 (tg l (exI v l 0 (l.length : Int))))), none], [.inl 2, .inl w], σ)) rfl ?_
            refine wp_ic (tgt := 87) hM rfl (by decide) (by omega) (by omega) (fun c79 => ?_) (fun c79 => ?_)
            · replace c79 := cmp_eq_t c79
              refine wp_go 4 hM (fr' := (96, [some (.inr 0), some (.inl w), some (.inl 0), some (.inl (exI v l 0 (l.length : Int))), some (.inl (tar v 1 (tg l (exI v l 0 (l.length : Int))))), some (.inl (tar v 0 (tg l (exI v l 0 (l.length : Int))))), some (.inl 1)], [.inl 1], σ)) rfl ?_
              refine wp_if (tgt := 104) hM rfl (by decide) (by omega) (fun c96 => ?_) (fun c96 => ?_)
              · replace c96 := cmp_eq_t c96
                refine wp_go 3 hM (fr' := (110, [some (.inr 0), some (.inl w), some (.inl 0), some (.inl (exI v l 0 (l.length : Int))), some (.inl (tar v 1 (tg l (exI v l 0 (l.length : Int))))), some (.inl (tar v 0 (tg l (exI v l 0 (l.length : Int))))), some (.inl 1)], [.inl (tar v 0 (tg l (exI v l 0 (l.length : Int)))), .inl (tar v 1 (tg l (exI v l 0 (l.length : Int)))), .inl (tar v 0 (tg l (exI v l 0 (l.length : Int))))], σ)) rfl ?_
                refine wp_calld (v := 1) (idx := 232) (j := 101) (N := mtX5_divisorOf) (as := [.inl (tar v 1 (tg l (exI v l 0 (l.length : Int)))), .inl (tar v 0 (tg l (exI v l 0 (l.length : Int))))]) (rest := [.inl (tar v 0 (tg l (exI v l 0 (l.length : Int))))]) hM rfl (Or.inr ⟨rfl, rfl⟩) rfl (sp_X5_divisorOf  σ (tar v 1 (tg l (exI v l 0 (l.length : Int)))) (tar v 0 (tg l (exI v l 0 (l.length : Int)))) (by first | (first | assumption | omega) | fail) (by first | (first | assumption | omega) | fail) (by first | (first | assumption | omega) | fail) (by first | (first | assumption | omega) | fail)) ?_
                show mz_Wp shA none 91 (113, [some (.inr 0), some (.inl w), some (.inl 0), some (.inl (exI v l 0 (l.length : Int))), some (.inl (tar v 1 (tg l (exI v l 0 (l.length : Int))))), some (.inl (tar v 0 (tg l (exI v l 0 (l.length : Int))))), some (.inl 1)], [.inl (Int.gcd (tar v 1 (tg l (exI v l 0 (l.length : Int)))) (tar v 0 (tg l (exI v l 0 (l.length : Int)))) : Int), .inl (tar v 0 (tg l (exI v l 0 (l.length : Int))))], σ) _
                refine wp_calld (v := 1) (idx := 235) (j := 102) (N := mtX5_shortened) (as := [.inl (tar v 0 (tg l (exI v l 0 (l.length : Int)))), .inl (Int.gcd (tar v 1 (tg l (exI v l 0 (l.length : Int)))) (tar v 0 (tg l (exI v l 0 (l.length : Int)))) : Int)]) (rest := []) hM rfl (Or.inr ⟨rfl, rfl⟩) rfl (sp_X5_shortened  σ (tar v 0 (tg l (exI v l 0 (l.length : Int)))) (Int.gcd (tar v 1 (tg l (exI v l 0 (l.length : Int)))) (tar v 0 (tg l (exI v l 0 (l.length : Int)))) : Int) (by omega) (by omega)) ?_
                show mz_Wp shA none 91 (116, [some (.inr 0), some (.inl w), some (.inl 0), some (.inl (exI v l 0 (l.length : Int))), some (.inl (tar v 1 (tg l (exI v l 0 (l.length : Int))))), some (.inl (tar v 0 (tg l (exI v l 0 (l.length : Int))))), some (.inl 1)], [.inl (shq (tar v 0 (tg l (exI v l 0 (l.length : Int)))) (Int.gcd (tar v 1 (tg l (exI v l 0 (l.length : Int)))) (tar v 0 (tg l (exI v l 0 (l.length : Int)))) : Int))], σ) _
                refine wp_ret hM rfl (rfl) ?_
                refine ⟨?_, h0, Fk.rf⟩
                unfold aStretch stG stT
                repeat' split
                all_goals first | rfl | (exfalso; omega)
              · replace c96 := cmp_eq_f c96
                refine wp_go 4 hM (fr' := (110, [some (.inr 0), some (.inl w), some (.inl 0), some (.inl (exI v l 0 (l.length : Int))), some (.inl (tar v 1 (tg l (exI v l 0 (l.length : Int))))), some (.inl (tar v 0 (tg l (exI v l 0 (l.length : Int))))), some (.inl 1)], [.inl (tar v 0 (tg l (exI v l 0 (l.length : Int)))), .inl (tar v 1 (tg l (exI v l 0 (l.length : Int)))), .inl (tar v 1 (tg l (exI v l 0 (l.length : Int))))], σ)) rfl ?_
                refine wp_calld (v := 1) (idx := 232) (j := 101) (N := mtX5_divisorOf) (as := [.inl (tar v 1 (tg l (exI v l 0 (l.length : Int)))), .inl (tar v 0 (tg l (exI v l 0 (l.length : Int))))]) (rest := [.inl (tar v 1 (tg l (exI v l 0 (l.length : Int))))]) hM rfl (Or.inr ⟨rfl, rfl⟩) rfl (sp_X5_divisorOf  σ (tar v 1 (tg l (exI v l 0 (l.length : Int)))) (tar v 0 (tg l (exI v l 0 (l.length : Int)))) (by first | (first | assumption | omega) | fail) (by first | (first | assumption | omega) | fail) (by first | (first | assumption | omega) | fail) (by first | (first | assumption | omega) | fail)) ?_
                show mz_Wp shA none 91 (113, [some (.inr 0), some (.inl w), some (.inl 0), some (.inl (exI v l 0 (l.length : Int))), some (.inl (tar v 1 (tg l (exI v l 0 (l.length : Int))))), some (.inl (tar v 0 (tg l (exI v l 0 (l.length : Int))))), some (.inl 1)], [.inl (Int.gcd (tar v 1 (tg l (exI v l 0 (l.length : Int)))) (tar v 0 (tg l (exI v l 0 (l.length : Int)))) : Int), .inl (tar v 1 (tg l (exI v l 0 (l.length : Int))))], σ) _
                refine wp_calld (v := 1) (idx := 235) (j := 102) (N := mtX5_shortened) (as := [.inl (tar v 1 (tg l (exI v l 0 (l.length : Int)))), .inl (Int.gcd (tar v 1 (tg l (exI v l 0 (l.length : Int)))) (tar v 0 (tg l (exI v l 0 (l.length : Int)))) : Int)]) (rest := []) hM rfl (Or.inr ⟨rfl, rfl⟩) rfl (sp_X5_shortened  σ (tar v 1 (tg l (exI v l 0 (l.length : Int)))) (Int.gcd (tar v 1 (tg l (exI v l 0 (l.length : Int)))) (tar v 0 (tg l (exI v l 0 (l.length : Int)))) : Int) (by omega) (by omega)) ?_
                show mz_Wp shA none 91 (116, [some (.inr 0), some (.inl w), some (.inl 0), some (.inl (exI v l 0 (l.length : Int))), some (.inl (tar v 1 (tg l (exI v l 0 (l.length : Int))))), some (.inl (tar v 0 (tg l (exI v l 0 (l.length : Int))))), some (.inl 1)], [.inl (shq (tar v 1 (tg l (exI v l 0 (l.length : Int)))) (Int.gcd (tar v 1 (tg l (exI v l 0 (l.length : Int)))) (tar v 0 (tg l (exI v l 0 (l.length : Int)))) : Int))], σ) _
                refine wp_ret hM rfl (rfl) ?_
                refine ⟨?_, h0, Fk.rf⟩
                unfold aStretch stG stT
                repeat' split
                all_goals first | rfl | (exfalso; omega)
            · replace c79 := cmp_eq_f c79
              refine wp_go 2 hM (fr' := (84, [some (.inr 0), some (.inl w), some (.inl 0), some (.inl (exI v l 0 (l.length : Int))), some (.inl (tar v 1 (tg l (exI v l 0 (l.length : Int))))), some (.inl (tar v 0 (tg l (exI v l 0 (l.length : Int))))), none], [.inl 4, .inl w], σ)) rfl ?_
              refine wp_ic (tgt := 91) hM rfl (by decide) (by omega) (by omega) (fun c84 => ?_) (fun c84 => ?_)
              · replace c84 := cmp_ne_t c84
                refine wp_go 3 hM (fr' := (96, [some (.inr 0), some (.inl w), some (.inl 0), some (.inl (exI v l 0 (l.length : Int))), some (.inl (tar v 1 (tg l (exI v l 0 (l.length : Int))))), some (.inl (tar v 0 (tg l (exI v l 0 (l.length : Int))))), some (.inl 0)], [.inl 0], σ)) rfl ?_
                refine wp_if (tgt := 104) hM rfl (by decide) (by omega) (fun c96 => ?_) (fun c96 => ?_)
                · replace c96 := cmp_eq_t c96
                  refine wp_go 3 hM (fr' := (110, [some (.inr 0), some (.inl w), some (.inl 0), some (.inl (exI v l 0 (l.length : Int))), some (.inl (tar v 1 (tg l (exI v l 0 (l.length : Int))))), some (.inl (tar v 0 (tg l (exI v l 0 (l.length : Int))))), some (.inl 0)], [.inl (tar v 0 (tg l (exI v l 0 (l.length : Int)))), .inl (tar v 1 (tg l (exI v l 0 (l.length : Int)))), .inl (tar v 0 (tg l (exI v l 0 (l.length : Int))))], σ)) rfl ?_
                  refine wp_calld (v := 1) (idx := 232) (j := 101) (N := mtX5_divisorOf) (as := [.inl (tar v 1 (tg l (exI v l 0 (l.length : Int)))), .inl (tar v 0 (tg l (exI v l 0 (l.length : Int))))]) (rest := [.inl (tar v 0 (tg l (exI v l 0 (l.length : Int))))]) hM rfl (Or.inr ⟨rfl, rfl⟩) rfl (sp_X5_divisorOf  σ (tar v 1 (tg l (exI v l 0 (l.length : Int)))) (tar v 0 (tg l (exI v l 0 (l.length : Int)))) (by first | (first | assumption | omega) | fail) (by first | (first | assumption | omega) | fail) (by first | (first | assumption | omega) | fail) (by first | (first | assumption | omega) | fail)) ?_
                  show mz_Wp shA none 91 (113, [some (.inr 0), some (.inl w), some (.inl 0), some (.inl (exI v l 0 (l.length : Int))), some (.inl (tar v 1 (tg l (exI v l 0 (l.length : Int))))), some (.inl (tar v 0 (tg l (exI v l 0 (l.length : Int))))), some (.inl 0)], [.inl (Int.gcd (tar v 1 (tg l (exI v l 0 (l.length : Int)))) (tar v 0 (tg l (exI v l 0 (l.length : Int)))) : Int), .inl (tar v 0 (tg l (exI v l 0 (l.length : Int))))], σ) _
                  refine wp_calld (v := 1) (idx := 235) (j := 102) (N := mtX5_shortened) (as := [.inl (tar v 0 (tg l (exI v l 0 (l.length : Int)))), .inl (Int.gcd (tar v 1 (tg l (exI v l 0 (l.length : Int)))) (tar v 0 (tg l (exI v l 0 (l.length : Int)))) : Int)]) (rest := []) hM rfl (Or.inr ⟨rfl, rfl⟩) rfl (sp_X5_shortened  σ (tar v 0 (tg l (exI v l 0 (l.length : Int)))) (Int.gcd (tar v 1 (tg l (exI v l 0 (l.length : Int)))) (tar v 0 (tg l (exI v l 0 (l.length : Int)))) : Int) (by omega) (by omega)) ?_
                  show mz_Wp shA none 91 (116, [some (.inr 0), some (.inl w), some (.inl 0), some (.inl (exI v l 0 (l.length : Int))), some (.inl (tar v 1 (tg l (exI v l 0 (l.length : Int))))), some (.inl (tar v 0 (tg l (exI v l 0 (l.length : Int))))), some (.inl 0)], [.inl (shq (tar v 0 (tg l (exI v l 0 (l.length : Int)))) (Int.gcd (tar v 1 (tg l (exI v l 0 (l.length : Int)))) (tar v 0 (tg l (exI v l 0 (l.length : Int)))) : Int))], σ) _
                  refine wp_ret hM rfl (rfl) ?_
                  refine ⟨?_, h0, Fk.rf⟩
                  unfold aStretch stG stT
                  repeat' split
                  all_goals first | rfl | (exfalso; omega)
                · replace c96 := cmp_eq_f c96
                  refine wp_go 4 hM (fr' := (110, [some (.inr 0), some (.inl w), some (.inl 0), some (.inl (exI v l 0 (l.length : Int))), some (.inl (tar v 1 (tg l (exI v l 0 (l.length : Int))))), some (.inl (tar v 0 (tg l (exI v l 0 (l.length : Int))))), some (.inl 0)], [.inl (tar v 0 (tg l (exI v l 0 (l.length : Int)))), .inl (tar v 1 (tg l (exI v l 0 (l.length : Int)))), .inl (tar v 1 (tg l (exI v l 0 (l.length : Int))))], σ)) rfl ?_
                  refine wp_calld (v := 1) (idx := 232) (j := 101) (N := mtX5_divisorOf) (as := [.inl (tar v 1 (tg l (exI v l 0 (l.length : Int)))), .inl (tar v 0 (tg l (exI v l 0 (l.length : Int))))]) (rest := [.inl (tar v 1 (tg l (exI v l 0 (l.length : Int))))]) hM rfl (Or.inr ⟨rfl, rfl⟩) rfl (sp_X5_divisorOf  σ (tar v 1 (tg l (exI v l 0 (l.length : Int)))) (tar v 0 (tg l (exI v l 0 (l.length : Int)))) (by first | (first | assumption | omega) | fail) (by first | (first | assumption | omega) | fail) (by first | (first | assumption | omega) | fail) (by first | (first | assumption | omega) | fail)) ?_
                  show mz_Wp shA none 91 (113, [some (.inr 0), some (.inl w), some (.inl 0), some (.inl (exI v l 0 (l.length : Int))), some (.inl (tar v 1 (tg l (exI v l 0 (l.length : Int))))), some (.inl (tar v 0 (tg l (exI v l 0 (l.length : Int))))), some (.inl 0)], [.inl (Int.gcd (tar v 1 (tg l (exI v l 0 (l.length : Int)))) (tar v 0 (tg l (exI v l 0 (l.length : Int)))) : Int), .inl (tar v 1 (tg l (exI v l 0 (l.length : Int))))], σ) _
                  refine wp_calld (v := 1) (idx := 235) (j := 102) (N := mtX5_shortened) (as := [.inl (tar v 1 (tg l (exI v l 0 (l.length : Int)))), .inl (Int.gcd (tar v 1 (tg l (exI v l 0 (l.length : Int)))) (tar v 0 (tg l (exI v l 0 (l.length : Int)))) : Int)]) (rest := []) hM rfl (Or.inr ⟨rfl, rfl⟩) rfl (sp_X5_shortened  σ (tar v 1 (tg l (exI v l 0 (l.length : Int)))) (Int.gcd (tar v 1 (tg l (exI v l 0 (l.length : Int)))) (tar v 0 (tg l (exI v l 0 (l.length : Int)))) : Int) (by omega) (by omega)) ?_
                  show mz_Wp shA none 91 (116, [some (.inr 0), some (.inl w), some (.inl 0), some (.inl (exI v l 0 (l.length : Int))), some (.inl (tar v 1 (tg l (exI v l 0 (l.length : Int))))), some (.inl (tar v 0 (tg l (exI v l 0 (l.length : Int))))), some (.inl 0)], [.inl (shq (tar v 1 (tg l (exI v l 0 (l.length : Int)))) (Int.gcd (tar v 1 (tg l (exI v l 0 (l.length : Int)))) (tar v 0 (tg l (exI v l 0 (l.length : Int)))) : Int))], σ) _
                  refine wp_ret hM rfl (rfl) ?_
                  refine ⟨?_, h0, Fk.rf⟩
                  unfold aStretch stG stT
                  repeat' split
                  all_goals first | rfl | (exfalso; omega)
              · replace c84 := cmp_ne_f c84
                refine wp_go 4 hM (fr' := (96, [some (.inr 0), some (.inl w), some (.inl 0), some (.inl (exI v l 0 (l.length : Int))), some (.inl (tar v 1 (tg l (exI v l 0 (l.length : Int))))), some (.inl (tar v 0 (tg l (exI v l 0 (l.length : Int))))), some (.inl 1)], [.inl 1], σ)) rfl ?_
                refine wp_if (tgt := 104) hM rfl (by decide) (by omega) (fun c96 => ?_) (fun c96 => ?_)
                · replace c96 := cmp_eq_t c96
                  refine wp_go 3 hM (fr' := (110, [some (.inr 0), some (.inl w), some (.inl 0), some (.inl (exI v l 0 (l.length : Int))), some (.inl (tar v 1 (tg l (exI v l 0 (l.length : Int))))), some (.inl (tar v 0 (tg l (exI v l 0 (l.length : Int))))), some (.inl 1)], [.inl (tar v 0 (tg l (exI v l 0 (l.length : Int)))), .inl (tar v 1 (tg l (exI v l 0 (l.length : Int)))), .inl (tar v 0 (tg l (exI v l 0 (l.length : Int))))], σ)) rfl ?_
                  refine wp_calld (v := 1) (idx := 232) (j := 101) (N := mtX5_divisorOf) (as := [.inl (tar v 1 (tg l (exI v l 0 (l.length : Int)))), .inl (tar v 0 (tg l (exI v l 0 (l.length : Int))))]) (rest := [.inl (tar v 0 (tg l (exI v l 0 (l.length : Int))))]) hM rfl (Or.inr ⟨rfl, rfl⟩) rfl (sp_X5_divisorOf  σ (tar v 1 (tg l (exI v l 0 (l.length : Int)))) (tar v 0 (tg l (exI v l 0 (l.length : Int)))) (by first | (first | assumption | omega) | fail) (by first | (first | assumption | omega) | fail) (by first | (first | assumption | omega) | fail) (by first | (first | assumption | omega) | fail)) ?_
                  show mz_Wp shA none 91 (113, [some (.inr 0), some (.inl w), some (.inl 0), some (.inl (exI v l 0 (l.length : Int))), some (.inl (tar v 1 (tg l (exI v l 0 (l.length : Int))))), some (.inl (tar v 0 (tg l (exI v l 0 (l.length : Int))))), some (.inl 1)], [.inl (Int.gcd (tar v 1 (tg l (exI v l 0 (l.length : Int)))) (tar v 0 (tg l (exI v l 0 (l.length : Int)))) : Int), .inl (tar v 0 (tg l (exI v l 0 (l.length : Int))))], σ) _
                  refine wp_calld (v := 1) (idx := 235) (j := 102) (N := mtX5_shortened) (as := [.inl (tar v 0 (tg l (exI v l 0 (l.length : Int)))), .inl (Int.gcd (tar v 1 (tg l (exI v l 0 (l.length : Int)))) (tar v 0 (tg l (exI v l 0 (l.length : Int)))) : Int)]) (rest := []) hM rfl (Or.inr ⟨rfl, rfl⟩) rfl (sp_X5_shortened  σ (tar v 0 (tg l (exI v l 0 (l.length : Int)))) (Int.gcd (tar v 1 (tg l (exI v l 0 (l.length : Int)))) (tar v 0 (tg l (exI v l 0 (l.length : Int)))) : Int) (by omega) (by omega)) ?_
                  show mz_Wp shA none 91 (116, [some (.inr 0), some (.inl w), some (.inl 0), some (.inl (exI v l 0 (l.length : Int))), some (.inl (tar v 1 (tg l (exI v l 0 (l.length : Int))))), some (.inl (tar v 0 (tg l (exI v l 0 (l.length : Int))))), some (.inl 1)], [.inl (shq (tar v 0 (tg l (exI v l 0 (l.length : Int)))) (Int.gcd (tar v 1 (tg l (exI v l 0 (l.length : Int)))) (tar v 0 (tg l (exI v l 0 (l.length : Int)))) : Int))], σ) _
                  refine wp_ret hM rfl (rfl) ?_
                  refine ⟨?_, h0, Fk.rf⟩
                  unfold aStretch stG stT
                  repeat' split
                  all_goals first | rfl | (exfalso; omega)
                · replace c96 := cmp_eq_f c96
                  refine wp_go 4 hM (fr' := (110, [some (.inr 0), some (.inl w), some (.inl 0), some (.inl (exI v l 0 (l.length : Int))), some (.inl (tar v 1 (tg l (exI v l 0 (l.length : Int))))), some (.inl (tar v 0 (tg l (exI v l 0 (l.length : Int))))), some (.inl 1)], [.inl (tar v 0 (tg l (exI v l 0 (l.length : Int)))), .inl (tar v 1 (tg l (exI v l 0 (l.length : Int)))), .inl (tar v 1 (tg l (exI v l 0 (l.length : Int))))], σ)) rfl ?_
                  refine wp_calld (v := 1) (idx := 232) (j := 101) (N := mtX5_divisorOf) (as := [.inl (tar v 1 (tg l (exI v l 0 (l.length : Int)))), .inl (tar v 0 (tg l (exI v l 0 (l.length : Int))))]) (rest := [.inl (tar v 1 (tg l (exI v l 0 (l.length : Int))))]) hM rfl (Or.inr ⟨rfl, rfl⟩) rfl (sp_X5_divisorOf  σ (tar v 1 (tg l (exI v l 0 (l.length : Int)))) (tar v 0 (tg l (exI v l 0 (l.length : Int)))) (by first | (first | assumption | omega) | fail) (by first | (first | assumption | omega) | fail) (by first | (first | assumption | omega) | fail) (by first | (first | assumption | omega) | fail)) ?_
                  show mz_Wp shA none 91 (113, [some (.inr 0), some (.inl w), some (.inl 0), some (.inl (exI v l 0 (l.length : Int))), some (.inl (tar v 1 (tg l (exI v l 0 (l.length : Int))))), some (.inl (tar v 0 (tg l (exI v l 0 (l.length : Int))))), some (.inl 1)], [.inl (Int.gcd (tar v 1 (tg l (exI v l 0 (l.length : Int)))) (tar v 0 (tg l (exI v l 0 (l.length : Int)))) : Int), .inl (tar v 1 (tg l (exI v l 0 (l.length : Int))))], σ) _
                  refine wp_calld (v := 1) (idx := 235) (j := 102) (N := mtX5_shortened) (as := [.inl (tar v 1 (tg l (exI v l 0 (l.length : Int)))), .inl (Int.gcd (tar v 1 (tg l (exI v l 0 (l.length : Int)))) (tar v 0 (tg l (exI v l 0 (l.length : Int)))) : Int)]) (rest := []) hM rfl (Or.inr ⟨rfl, rfl⟩) rfl (sp_X5_shortened  σ (tar v 1 (tg l (exI v l 0 (l.length : Int)))) (Int.gcd (tar v 1 (tg l (exI v l 0 (l.length : Int)))) (tar v 0 (tg l (exI v l 0 (l.length : Int)))) : Int) (by omega) (by omega)) ?_
                  show mz_Wp shA none 91 (116, [some (.inr 0), some (.inl w), some (.inl 0), some (.inl (exI v l 0 (l.length : Int))), some (.inl (tar v 1 (tg l (exI v l 0 (l.length : Int))))), some (.inl (tar v 0 (tg l (exI v l 0 (l.length : Int))))), some (.inl 1)], [.inl (shq (tar v 1 (tg l (exI v l 0 (l.length : Int)))) (Int.gcd (tar v 1 (tg l (exI v l 0 (l.length : Int)))) (tar v 0 (tg l (exI v l 0 (l.length : Int)))) : Int))], σ) _
                  refine wp_ret hM rfl (rfl) ?_
                  refine ⟨?_, h0, Fk.rf⟩
                  unfold aStretch stG stT
                  repeat' split
                  all_goals first | rfl | (exfalso; omega)
          · replace c38 := cmp_ge_f c38
            refine wp_go 1 hM (fr' := (42, [some (.inr 0), some (.inl w), some (.inl 0), some (.inl (exI v l 0 (l.length : Int))), none, none, none], [.inl (exI v l 0 (l.length : Int))], σ)) rfl ?_
            refine wp_ret hM rfl (rfl) ?_
            refine ⟨?_, h0, Fk.rf⟩
            unfold aStretch stT
            repeat' split
            all_goals first | rfl | (exfalso; omega)
        · replace c18 := cmp_lt_f c18
          refine wp_go 6 hM (fr' := (32, [some (.inr 0), some (.inl w), some (.inl 1), none, none, none, none], [.inl 1, .inr 1], σ)) rfl ?_
          refine wp_calld (v := 0) (idx := 254) (j := 23) (N := mtX1_extremeTriangle) (as := [.inr 1, .inl 1]) (rest := []) hM rfl (Or.inl ⟨rfl, rfl⟩) rfl (sp_X1_extremeTriangle v l σ 1 (by first | (first | assumption | omega) | fail) (by first | (first | assumption | omega) | fail) (by first | (first | assumption | omega) | fail) (by first | (first | assumption | omega) | fail)) ?_
          show mz_Wp shA none 91 (35, [some (.inr 0), some (.inl w), some (.inl 1), none, none, none, none], [.inl (exI v l 1 (l.length : Int))], σ) _
          refine wp_go 3 hM (fr' := (38, [some (.inr 0), some (.inl w), some (.inl 1), some (.inl (exI v l 1 (l.length : Int))), none, none, none], [.inl 2, .inl w], σ)) rfl ?_
          refine wp_ic (tgt := 43) hM rfl (by decide) (by omega) (by omega) (fun c38 => ?_) (fun c38 => ?_)
          · replace c38 := cmp_ge_t c38
            refine wp_go 6 hM (fr' := (55, [some (.inr 0), some (.inl w), some (.inl 1), some (.inl (exI v l 1 (l.length : Int))), none, none, none], [.inl (exI v l 1 (l.length : Int)), .inr 9, .inr 1], σ)) rfl ?_
            refine wp_calld (v := 0) (idx := 165) (j := 15) (N := mtX1_areaOf) (as := [.inr 1, .inr 9, .inl (exI v l 1 (l.length : Int))]) (rest := []) hM rfl (Or.inl ⟨rfl, rfl⟩) rfl (sp_X1_areaOf_9 v l σ (exI v l 1 (l.length : Int)) (by first | (first | assumption | exact a1.1 | exact a1.2 | exact a2.1 | exact a2.2 | omega) | fail) (by first | (first | assumption | exact a1.1 | exact a1.2 | exact a2.1 | exact a2.2 | omega) | fail) (by first | (first | assumption | exact a1.1 | exact a1.2 | exact a2.1 | exact a2.2 | omega) | fail) (by first | (first | assumption | exact a1.1 | exact a1.2 | exact a2.1 | exact a2.2 | omega) | fail)) ?_
            show mz_Wp shA none 91 (58, [some (.inr 0), some (.inl w), some (.inl 1), some (.inl (exI v l 1 (l.length : Int))), none, none, none], [.inl (tar v 1 (tg l (exI v l 1 (l.length : Int))))], σ) _
            refine wp_go 7 hM (fr' := (72, [some (.inr 0), some (.inl w), some (.inl 1), some (.inl (exI v l 1 (l.length : Int))), some (.inl (tar v 1 (tg l (exI v l 1 (l.length : Int))))), none, none], [.inl (exI v l 1 (l.length : Int)), .inr 8, .inr 1], σ)) rfl ?_
            refine wp_calld (v := 0) (idx := 165) (j := 15) (N := mtX1_areaOf) (as := [.inr 1, .inr 8, .inl (exI v l 1 (l.length : Int))]) (rest := []) hM rfl (Or.inl ⟨rfl, rfl⟩) rfl (sp_X1_areaOf_8 v l σ (exI v l 1 (l.length : Int)) (by first | (first | assumption | exact a1.1 | exact a1.2 | exact a2.1 | exact a2.2 | omega) | fail) (by first | (first | assumption | exact a1.1 | exact a1.2 | exact a2.1 | exact a2.2 | omega) | fail) (by first | (first | assumption | exact a1.1 | exact a1.2 | exact a2.1 | exact a2.2 | omega) | fail) (by first | (first | assumption | exact a1.1 | exact a1.2 | exact a2.1 | exact a2.2 | omega) | fail)) ?_
            show mz_Wp shA none 91 (75, [some (.inr 0), some (.inl w), some (.inl 1), some (.inl (exI v l 1 (l.length : Int))), some (.inl (tar v 1 (tg l (exI v l 1 (l.length : Int))))), none, none], [.inl (tar v 0 (tg l (exI v l 1 (l.length : Int))))], σ) _
            refine wp_go 3 hM (fr' := (79, [some (.inr 0), some (.inl w), some (.inl 1), some (.inl (exI v l 1 (l.length : Int))), some (.inl (tar v 1 (tg l (exI v l 1 (l.length : Int))))), some (.inl (tar v 0 (tg l (exI v l 1 (l.length : Int))))), none], [.inl 2, .inl w], σ)) rfl ?_
            refine wp_ic (tgt := 87) hM rfl (by decide) (by omega) (by omega) (fun c79 => ?_) (fun c79 => ?_)
            · replace c79 := cmp_eq_t c79
              refine wp_go 4 hM (fr' := (96, [some (.inr 0), some (.inl w), some (.inl 1), some (.inl (exI v l 1 (l.length : Int))), some (.inl (tar v 1 (tg l (exI v l 1 (l.length : Int))))), some (.inl (tar v 0 (tg l (exI v l 1 (l.length : Int))))), some (.inl 1)], [.inl 1], σ)) rfl ?_
              refine wp_if (tgt := 104) hM rfl (by decide) (by omega) (fun c96 => ?_) (fun c96 => ?_)
              · replace c96 := cmp_eq_t c96
                refine wp_go 3 hM (fr' := (110, [some (.inr 0), some (.inl w), some (.inl 1), some (.inl (exI v l 1 (l.length : Int))), some (.inl (tar v 1 (tg l (exI v l 1 (l.length : Int))))), some (.inl (tar v 0 (tg l (exI v l 1 (l.length : Int))))), some (.inl 1)], [.inl (tar v 0 (tg l (exI v l 1 (l.length : Int)))), .inl (tar v 1 (tg l (exI v l 1 (l.length : Int)))), .inl (tar v 0 (tg l (exI v l 1 (l.length : Int))))], σ)) rfl ?_
                refine wp_calld (v := 1) (idx := 232) (j := 101) (N := mtX5_divisorOf) (as := [.inl (tar v 1 (tg l (exI v l 1 (l.length : Int)))), .inl (tar v 0 (tg l (exI v l 1 (l.length : Int))))]) (rest := [.inl (tar v 0 (tg l (exI v l 1 (l.length : Int))))]) hM rfl (Or.inr ⟨rfl, rfl⟩) rfl (sp_X5_divisorOf  σ (tar v 1 (tg l (exI v l 1 (l.length : Int)))) (tar v 0 (tg l (exI v l 1 (l.length : Int)))) (by first | (first | assumption | omega) | fail) (by first | (first | assumption | omega) | fail) (by first | (first | assumption | omega) | fail) (by first | (first | assumption | omega) | fail)) ?_
                show mz_Wp shA none 91 (113, [some (.inr 0), some (.inl w), some (.inl 1), some (.inl (exI v l 1 (l.length : Int))), some (.inl (tar v 1 (tg l (exI v l 1 (l.length : Int))))), some (.inl (tar v 0 (tg l (exI v l 1 (l.length : Int))))), some (.inl 1)], [.inl (Int.gcd (tar v 1 (tg l (exI v l 1 (l.length : Int)))) (tar v 0 (tg l (exI v l 1 (l.length : Int)))) : Int), .inl (tar v 0 (tg l (exI v l 1 (l.length : Int))))], σ) _
                refine wp_calld (v := 1) (idx := 235) (j := 102) (N := mtX5_shortened) (as := [.inl (tar v 0 (tg l (exI v l 1 (l.length : Int)))), .inl (Int.gcd (tar v 1 (tg l (exI v l 1 (l.length : Int)))) (tar v 0 (tg l (exI v l 1 (l.length : Int)))) : Int)]) (rest := []) hM rfl (Or.inr ⟨rfl, rfl⟩) rfl (sp_X5_shortened  σ (tar v 0 (tg l (exI v l 1 (l.length : Int)))) (Int.gcd (tar v 1 (tg l (exI v l 1 (l.length : Int)))) (tar v 0 (tg l (exI v l 1 (l.length : Int)))) : Int) (by omega) (by omega)) ?_
                show mz_Wp shA none 91 (116, [some (.inr 0), some (.inl w), some (.inl 1), some (.inl (exI v l 1 (l.length : Int))), some (.inl (tar v 1 (tg l (exI v l 1 (l.length : Int))))), some (.inl (tar v 0 (tg l (exI v l 1 (l.length : Int))))), some (.inl 1)], [.inl (shq (tar v 0 (tg l (exI v l 1 (l.length : Int)))) (Int.gcd (tar v 1 (tg l (exI v l 1 (l.length : Int)))) (tar v 0 (tg l (exI v l 1 (l.length : Int)))) : Int))], σ) _
                refine wp_ret hM rfl (rfl) ?_
                refine ⟨?_, h0, Fk.rf⟩
                unfold aStretch stG stT
                repeat' split
                all_goals first | rfl | (exfalso; omega)
              · replace c96 := cmp_eq_f c96
                refine wp_go 4 hM (fr' := (110, [some (.inr 0), some (.inl w), some (.inl 1), some (.inl (exI v l 1 (l.length : Int))), some (.inl (tar v 1 (tg l (exI v l 1 (l.length : Int))))), some (.inl (tar v 0 (tg l (exI v l 1 (l.length : Int))))), some (.inl 1)], [.inl (tar v 0 (tg l (exI v l 1 (l.length : Int)))), .inl (tar v 1 (tg l (exI v l 1 (l.length : Int)))), .inl (tar v 1 (tg l (exI v l 1 (l.length : Int))))], σ)) rfl ?_
                refine wp_calld (v := 1) (idx := 232) (j := 101) (N := mtX5_divisorOf) (as := [.inl (tar v 1 (tg l (exI v l 1 (l.length : Int)))), .inl (tar v 0 (tg l (exI v l 1 (l.length : Int))))]) (rest := [.inl (tar v 1 (tg l (exI v l 1 (l.length : Int))))]) hM rfl (Or.inr ⟨rfl, rfl⟩) rfl (sp_X5_divisorOf  σ (tar v 1 (tg l (exI v l 1 (l.length : Int)))) (tar v 0 (tg l (exI v l 1 (l.length : Int)))) (by first | (first | assumption | omega) | fail) (by first | (first | assumption | omega) | fail) (by first | (first | assumption | omega) | fail) (by first | (first | assumption | omega) | fail)) ?_
                show mz_Wp shA none 91 (113, [some (.inr 0), some (.inl w), some (.inl 1), some (.inl (exI v l 1 (l.length : Int))), some (.inl (tar v 1 (tg l (exI v l 1 (l.length : Int))))), some (.inl (tar v 0 (tg l (exI v l 1 (l.length : Int))))), some (.inl 1)], [.inl (Int.gcd (tar v 1 (tg l (exI v l 1 (l.length : Int)))) (tar v 0 (tg l (exI v l 1 (l.length : Int)))) : Int), .inl (tar v 1 (tg l (exI v l 1 (l.length : Int))))], σ) _
                refine wp_calld (v := 1) (idx := 235) (j := 102) (N := mtX5_shortened) (as := [.inl (tar v 1 (tg l (exI v l 1 (l.length : Int)))), .inl (Int.gcd (tar v 1 (tg l (exI v l 1 (l.length : Int)))) (tar v 0 (tg l (exI v l 1 (l.length : Int)))) : Int)]) (rest := []) hM rfl (Or.inr ⟨rfl, rfl⟩) rfl (sp_X5_shortened  σ (tar v 1 (tg l (exI v l 1 (l.length : Int)))) (Int.gcd (tar v 1 (tg l (exI v l 1 (l.length : Int)))) (tar v 0 (tg l (exI v l 1 (l.length : Int)))) : Int) (by omega) (by omega)) ?_
                show mz_Wp shA none 91 (116, [some (.inr 0), some (.inl w), some (.inl 1), some (.inl (exI v l 1 (l.length : Int))), some (.inl (tar v 1 (tg l (exI v l 1 (l.length : Int))))), some (.inl (tar v 0 (tg l (exI v l 1 (l.length : Int))))), some (.inl 1)], [.inl (shq (tar v 1 (tg l (exI v l 1 (l.length : Int)))) (Int.gcd (tar v 1 (tg l (exI v l 1 (l.length : Int)))) (tar v 0 (tg l (exI v l 1 (l.length : Int)))) : Int))], σ) _
                refine wp_ret hM rfl (rfl) ?_
                refine ⟨?_, h0, Fk.rf⟩
                unfold aStretch stG stT
                repeat' split
                all_goals first | rfl | (exfalso; omega)
            · replace c79 := cmp_eq_f c79
              refine wp_go 2 hM (fr' := (84, [some (.inr 0), some (.inl w), some (.inl 1), some (.inl (exI v l 1 (l.length : Int))), some (.inl (tar v 1 (tg l (exI v l 1 (l.length : Int))))), some (.inl (tar v 0 (tg l (exI v l 1 (l.length : Int))))), none], [.inl 4, .inl w], σ)) rfl ?_
              refine wp_ic (tgt := 91) hM rfl (by decide) (by omega) (by omega) (fun c84 => ?_) (fun c84 => ?_)
              · replace c84 := cmp_ne_t c84
                refine wp_go 3 hM (fr' := (96, [some (.inr 0), some (.inl w), some (.inl 1), some (.inl (exI v l 1 (l.length : Int))), some (.inl (tar v 1 (tg l (exI v l 1 (l.length : Int))))), some (.inl (tar v 0 (tg l (exI v l 1 (l.length : Int))))), some (.inl 0)], [.inl 0], σ)) rfl ?_
                refine wp_if (tgt := 104) hM rfl (by decide) (by omega) (fun c96 => ?_) (fun c96 => ?_)
                · replace c96 := cmp_eq_t c96
                  refine wp_go 3 hM (fr' := (110, [some (.inr 0), some (.inl w), some (.inl 1), some (.inl (exI v l 1 (l.length : Int))), some (.inl (tar v 1 (tg l (exI v l 1 (l.length : Int))))), some (.inl (tar v 0 (tg l (exI v l 1 (l.length : Int))))), some (.inl 0)], [.inl (tar v 0 (tg l (exI v l 1 (l.length : Int)))), .inl (tar v 1 (tg l (exI v l 1 (l.length : Int)))), .inl (tar v 0 (tg l (exI v l 1 (l.length : Int))))], σ)) rfl ?_
                  refine wp_calld (v := 1) (idx := 232) (j := 101) (N := mtX5_divisorOf) (as := [.inl (tar v 1 (tg l (exI v l 1 (l.length : Int)))), .inl (tar v 0 (tg l (exI v l 1 (l.length : Int))))]) (rest := [.inl (tar v 0 (tg l (exI v l 1 (l.length : Int))))]) hM rfl (Or.inr ⟨rfl, rfl⟩) rfl (sp_X5_divisorOf  σ (tar v 1 (tg l (exI v l 1 (l.length : Int)))) (tar v 0 (tg l (exI v l 1 (l.length : Int)))) (by first | (first | assumption | omega) | fail) (by first | (first | assumption | omega) | fail) (by first | (first | assumption | omega) | fail) (by first | (first | assumption | omega) | fail)) ?_
                  show mz_Wp shA none 91 (113, [some (.inr 0), some (.inl w), some (.inl 1), some (.inl (exI v l 1 (l.length : Int))), some (.inl (tar v 1 (tg l (exI v l 1 (l.length : Int))))), some (.inl (tar v 0 (tg l (exI v l 1 (l.length : Int))))), some (.inl 0)], [.inl (Int.gcd (tar v 1 (tg l (exI v l 1 (l.length : Int)))) (tar v 0 (tg l (exI v l 1 (l.length : Int)))) : Int), .inl (tar v 0 (tg l (exI v l 1 (l.length : Int))))], σ) _
                  refine wp_calld (v := 1) (idx := 235) (j := 102) (N := mtX5_shortened) (as := [.inl (tar v 0 (tg l (exI v l 1 (l.length : Int)))), .inl (Int.gcd (tar v 1 (tg l (exI v l 1 (l.length : Int)))) (tar v 0 (tg l (exI v l 1 (l.length : Int)))) : Int)]) (rest := []) hM rfl (Or.inr ⟨rfl, rfl⟩) rfl (sp_X5_shortened  σ (tar v 0 (tg l (exI v l 1 (l.length : Int)))) (Int.gcd (tar v 1 (tg l (exI v l 1 (l.length : Int)))) (tar v 0 (tg l (exI v l 1 (l.length : Int)))) : Int) (by omega) (by omega)) ?_
                  show mz_Wp shA none 91 (116, [some (.inr 0), some (.inl w), some (.inl 1), some (.inl (exI v l 1 (l.length : Int))), some (.inl (tar v 1 (tg l (exI v l 1 (l.length : Int))))), some (.inl (tar v 0 (tg l (exI v l 1 (l.length : Int))))), some (.inl 0)], [.inl (shq (tar v 0 (tg l (exI v l 1 (l.length : Int)))) (Int.gcd (tar v 1 (tg l (exI v l 1 (l.length : Int)))) (tar v 0 (tg l (exI v l 1 (l.length : Int)))) : Int))], σ) _
                  refine wp_ret hM rfl (rfl) ?_
                  refine ⟨?_, h0, Fk.rf⟩
                  unfold aStretch stG stT
                  repeat' split
                  all_goals first | rfl | (exfalso; omega)
                · replace c96 := cmp_eq_f c96
                  refine wp_go 4 hM (fr' := (110, [some (.inr 0), some (.inl w), some (.inl 1), some (.inl (exI v l 1 (l.length : Int))), some (.inl (tar v 1 (tg l (exI v l 1 (l.length : Int))))), some (.inl (tar v 0 (tg l (exI v l 1 (l.length : Int))))), some (.inl 0)], [.inl (tar v 0 (tg l (exI v l 1 (l.length : Int)))), .inl (tar v 1 (tg l (exI v l 1 (l.length : Int)))), .inl (tar v 1 (tg l (exI v l 1 (l.length : Int))))], σ)) rfl ?_
                  refine wp_calld (v := 1) (idx := 232) (j := 101) (N := mtX5_divisorOf) (as := [.inl (tar v 1 (tg l (exI v l 1 (l.length : Int)))), .inl (tar v 0 (tg l (exI v l 1 (l.length : Int))))]) (rest := [.inl (tar v 1 (tg l (exI v l 1 (l.length : Int))))]) hM rfl (Or.inr ⟨rfl, rfl⟩) rfl (sp_X5_divisorOf  σ (tar v 1 (tg l (exI v l 1 (l.length : Int)))) (tar v 0 (tg l (exI v l 1 (l.length : Int)))) (by first | (first | assumption | omega) | fail) (by first | (first | assumption | omega) | fail) (by first | (first | assumption | omega) | fail) (by first | (first | assumption | omega) | fail)) ?_
                  show mz_Wp shA none 91 (113, [some (.inr 0), some (.inl w), some (.inl 1), some (.inl (exI v l 1 (l.length : Int))), some (.inl (tar v 1 (tg l (exI v l 1 (l.length : Int))))), some (.inl (tar v 0 (tg l (exI v l 1 (l.length : Int))))), some (.inl 0)], [.inl (Int.gcd (tar v 1 (tg l (exI v l 1 (l.length : Int)))) (tar v 0 (tg l (exI v l 1 (l.length : Int)))) : Int), .inl (tar v 1 (tg l (exI v l 1 (l.length : Int))))], σ) _
                  refine wp_calld (v := 1) (idx := 235) (j := 102) (N := mtX5_shortened) (as := [.inl (tar v 1 (tg l (exI v l 1 (l.length : Int)))), .inl (Int.gcd (tar v 1 (tg l (exI v l 1 (l.length : Int)))) (tar v 0 (tg l (exI v l 1 (l.length : Int)))) : Int)]) (rest := []) hM rfl (Or.inr ⟨rfl, rfl⟩) rfl (sp_X5_shortened  σ (tar v 1 (tg l (exI v l 1 (l.length : Int)))) (Int.gcd (tar v 1 (tg l (exI v l 1 (l.length : Int)))) (tar v 0 (tg l (exI v l 1 (l.length : Int)))) : Int) (by omega) (by omega)) ?_
                  show mz_Wp shA none 91 (116, [some (.inr 0), some (.inl w), some (.inl 1), some (.inl (exI v l 1 (l.length : Int))), some (.inl (tar v 1 (tg l (exI v l 1 (l.length : Int))))), some (.inl (tar v 0 (tg l (exI v l 1 (l.length : Int))))), some (.inl 0)], [.inl (shq (tar v 1 (tg l (exI v l 1 (l.length : Int)))) (Int.gcd (tar v 1 (tg l (exI v l 1 (l.length : Int)))) (tar v 0 (tg l (exI v l 1 (l.length : Int)))) : Int))], σ) _
                  refine wp_ret hM rfl (rfl) ?_
                  refine ⟨?_, h0, Fk.rf⟩
                  unfold aStretch stG stT
                  repeat' split
                  all_goals first | rfl | (exfalso; omega)
              · replace c84 := cmp_ne_f c84
                refine wp_go 4 hM (fr' := (96, [some (.inr 0), some (.inl w), some (.inl 1), some (.inl (exI v l 1 (l.length : Int))), some (.inl (tar v 1 (tg l (exI v l 1 (l.length : Int))))), some (.inl (tar v 0 (tg l (exI v l 1 (l.length : Int))))), some (.inl 1)], [.inl 1], σ)) rfl ?_
                refine wp_if (tgt := 104) hM rfl (by decide) (by omega) (fun c96 => ?_) (fun c96 => ?_)
                · replace c96 := cmp_eq_t c96
                  refine wp_go 3 hM (fr' := (110, [some (.inr 0), some (.inl w), some (.inl 1), some (.inl (exI v l 1 (l.length : Int))), some (.inl (tar v 1 (tg l (exI v l 1 (l.length : Int))))), some (.inl (tar v 0 (tg l (exI v l 1 (l.length : Int))))), some (.inl 1)], [.inl (tar v 0 (tg l (exI v l 1 (l.length : Int)))), .inl (tar v 1 (tg l (exI v l 1 (l.length : Int)))), .inl (tar v 0 (tg l (exI v l 1 (l.length : Int))))], σ)) rfl ?_
                  refine wp_calld (v := 1) (idx := 232) (j := 101) (N := mtX5_divisorOf) (as := [.inl (tar v 1 (tg l (exI v l 1 (l.length : Int)))), .inl (tar v 0 (tg l (exI v l 1 (l.length : Int))))]) (rest := [.inl (tar v 0 (tg l (exI v l 1 (l.length : Int))))]) hM rfl (Or.inr ⟨rfl, rfl⟩) rfl (sp_X5_divisorOf  σ (tar v 1 (tg l (exI v l 1 (l.length : Int)))) (tar v 0 (tg l (exI v l 1 (l.length : Int)))) (by first | (first | assumption | omega) | fail) (by first | (first | assumption | omega) | fail) (by first | (first | assumption | omega) | fail) (by first | (first | assumption | omega) | fail)) ?_
                  show mz_Wp shA none 91 (113, [some (.inr 0), some (.inl w), some (.inl 1), some (.inl (exI v l 1 (l.length : Int))), some (.inl (tar v 1 (tg l (exI v l 1 (l.length : Int))))), some (.inl (tar v 0 (tg l (exI v l 1 (l.length : Int))))), some (.inl 1)], [.inl (Int.gcd (tar v 1 (tg l (exI v l 1 (l.length : Int)))) (tar v 0 (tg l (exI v l 1 (l.length : Int)))) : Int), .inl (tar v 0 (tg l (exI v l 1 (l.length : Int))))], σ) _
                  refine wp_calld (v := 1) (idx := 235) (j := 102) (N := mtX5_shortened) (as := [.inl (tar v 0 (tg l (exI v l 1 (l.length : Int)))), .inl (Int.gcd (tar v 1 (tg l (exI v l 1 (l.length : Int)))) (tar v 0 (tg l (exI v l 1 (l.length : Int)))) : Int)]) (rest := []) hM rfl (Or.inr ⟨rfl, rfl⟩) rfl (sp_X5_shortened  σ (tar v 0 (tg l (exI v l 1 (l.length : Int)))) (Int.gcd (tar v 1 (tg l (exI v l 1 (l.length : Int)))) (tar v 0 (tg l (exI v l 1 (l.length : Int)))) : Int) (by omega) (by omega)) ?_
                  show mz_Wp shA none 91 (116, [some (.inr 0), some (.inl w), some (.inl 1), some (.inl (exI v l 1 (l.length : Int))), some (.inl (tar v 1 (tg l (exI v l 1 (l.length : Int))))), some (.inl (tar v 0 (tg l (exI v l 1 (l.length : Int))))), some (.inl 1)], [.inl (shq (tar v 0 (tg l (exI v l 1 (l.length : Int)))) (Int.gcd (tar v 1 (tg l (exI v l 1 (l.length : Int)))) (tar v 0 (tg l (exI v l 1 (l.length : Int)))) : Int))], σ) _
                  refine wp_ret hM rfl (rfl) ?_
                  refine ⟨?_, h0, Fk.rf⟩
                  unfold aStretch stG stT
                  repeat' split
                  all_goals first | rfl | (exfalso; omega)
                · replace c96 := cmp_eq_f c96
                  refine wp_go 4 hM (fr' := (110, [some (.inr 0), some (.inl w), some (.inl 1), some (.inl (exI v l 1 (l.length : Int))), some (.inl (tar v 1 (tg l (exI v l 1 (l.length : Int))))), some (.inl (tar v 0 (tg l (exI v l 1 (l.length : Int))))), some (.inl 1)], [.inl (tar v 0 (tg l (exI v l 1 (l.length : Int)))), .inl (tar v 1 (tg l (exI v l 1 (l.length : Int)))), .inl (tar v 1 (tg l (exI v l 1 (l.length : Int))))], σ)) rfl ?_
                  refine wp_calld (v := 1) (idx := 232) (j := 101) (N := mtX5_divisorOf) (as := [.inl (tar v 1 (tg l (exI v l 1 (l.length : Int)))), .inl (tar v 0 (tg l (exI v l 1 (l.length : Int))))]) (rest := [.inl (tar v 1 (tg l (exI v l 1 (l.length : Int))))]) hM rfl (Or.inr ⟨rfl, rfl⟩) rfl (sp_X5_divisorOf  σ (tar v 1 (tg l (exI v l 1 (l.length : Int)))) (tar v 0 (tg l (exI v l 1 (l.length : Int)))) (by first | (first | assumption | omega) | fail) (by first | (first | assumption | omega) | fail) (by first | (first | assumption | omega) | fail) (by first | (first | assumption | omega) | fail)) ?_
                  show mz_Wp shA none 91 (113, [some (.inr 0), some (.inl w), some (.inl 1), some (.inl (exI v l 1 (l.length : Int))), some (.inl (tar v 1 (tg l (exI v l 1 (l.length : Int))))), some (.inl (tar v 0 (tg l (exI v l 1 (l.length : Int))))), some (.inl 1)], [.inl (Int.gcd (tar v 1 (tg l (exI v l 1 (l.length : Int)))) (tar v 0 (tg l (exI v l 1 (l.length : Int)))) : Int), .inl (tar v 1 (tg l (exI v l 1 (l.length : Int))))], σ) _
                  refine wp_calld (v := 1) (idx := 235) (j := 102) (N := mtX5_shortened) (as := [.inl (tar v 1 (tg l (exI v l 1 (l.length : Int)))), .inl (Int.gcd (tar v 1 (tg l (exI v l 1 (l.length : Int)))) (tar v 0 (tg l (exI v l 1 (l.length : Int)))) : Int)]) (rest := []) hM rfl (Or.inr ⟨rfl, rfl⟩) rfl (sp_X5_shortened  σ (tar v 1 (tg l (exI v l 1 (l.length : Int)))) (Int.gcd (tar v 1 (tg l (exI v l 1 (l.length : Int)))) (tar v 0 (tg l (exI v l 1 (l.length : Int)))) : Int) (by omega) (by omega)) ?_
                  show mz_Wp shA none 91 (116, [some (.inr 0), some (.inl w), some (.inl 1), some (.inl (exI v l 1 (l.length : Int))), some (.inl (tar v 1 (tg l (exI v l 1 (l.length : Int))))), some (.inl (tar v 0 (tg l (exI v l 1 (l.length : Int))))), some (.inl 1)], [.inl (shq (tar v 1 (tg l (exI v l 1 (l.length : Int)))) (Int.gcd (tar v 1 (tg l (exI v l 1 (l.length : Int)))) (tar v 0 (tg l (exI v l 1 (l.length : Int)))) : Int))], σ) _
                  refine wp_ret hM rfl (rfl) ?_
                  refine ⟨?_, h0, Fk.rf⟩
                  unfold aStretch stG stT
                  repeat' split
                  all_goals first | rfl | (exfalso; omega)
          · replace c38 := cmp_ge_f c38
            refine wp_go 1 hM (fr' := (42, [some (.inr 0), some (.inl w), some (.inl 1), some (.inl (exI v l 1 (l.length : Int))), none, none, none], [.inl (exI v l 1 (l.length : Int))], σ)) rfl ?_
            refine wp_ret hM rfl (rfl) ?_
            refine ⟨?_, h0, Fk.rf⟩
            unfold aStretch stT
            repeat' split
            all_goals first | rfl | (exfalso; omega)
    · replace c6 := cmp_le_f c6
      refine wp_go 1 hM (fr' := (10, [some (.inr 0), some (.inl w), none, none, none, none, none], [.inl (-1)], σ)) rfl ?_
      refine wp_ret hM rfl (rfl) ?_
      first | (exact ⟨by unfold aStretch; rw [if_pos (by omega)], h0, Fk.rf⟩) | fail

set_option maxRecDepth 100000 in
set_option maxHeartbeats 4000000 in
theorem sp_X5_loops (v : mz_G) (l : List tr3) (σ : mz_G)  (h0 : CS σ v l) (h1 : GO v l) : mz_Cl shA 87 [.inr 0] σ (fun r σ' => r = some (aLoops v l) ∧ CS σ' v l ∧ Fk σ σ') := by
  have hM : mz_meth[87]? = some mtX5_loops := rfl
  have hA0 := h0.1
  obtain ⟨hB, hSd, ⟨hP0, hP1⟩, ⟨hC0, hC1'⟩, hVr, hn30, hl2⟩ := id h1
  obtain ⟨hR, hT, hLen⟩ := id hB
  obtain ⟨⟨hW0, hW1⟩, ⟨hH0, hH1⟩, ⟨hn0, hn1⟩, hpt⟩ := id hR
  obtain ⟨⟨hc1, hc2, hc3, hc4⟩, hcp, hct, hcv⟩ := id hA0
  have hWH := WH_bd hR
  refine mz_Cl.of hM ?_
  show mz_Wp shA none 87 (0, [some (.inr 0), none, none, none, none], [], σ) _
  refine wp_go 1 hM (fr' := (1, [some (.inr 0), none, none, none, none], [.inr 0], σ)) rfl ?_
  refine wp_call (v := 0) (idx := 81) (j := 92) (N := mtX5_chart) (as := [.inr 0]) (rest := []) hM rfl (Or.inl ⟨rfl, rfl⟩) rfl (sp_X5_chart v l σ  (by first | (first | assumption | omega) | fail) (by first | (first | assumption | omega) | fail)) ?_
  rintro r0 σ_1 ⟨rfl, hA_1, hCC_1, hf_1⟩
  show mz_Wp shA none 87 (4, [some (.inr 0), none, none, none, none], [], σ_1) _
  refine wp_go 1 hM (fr' := (5, [some (.inr 0), none, none, none, none], [.inr 0], σ_1)) rfl ?_
  refine wp_call (v := 0) (idx := 238) (j := 97) (N := mtX5_countUses) (as := [.inr 0]) (rest := []) hM rfl (Or.inl ⟨rfl, rfl⟩) rfl (sp_X5_countUses v l σ_1  (by first | (first | assumption | omega) | fail) (by first | (first | assumption | omega) | fail) (by first | (first | assumption | omega) | fail)) ?_
  rintro r0 σ_5 ⟨rfl, hu_5, hf_5⟩
  show mz_Wp shA none 87 (8, [some (.inr 0), none, none, none, none], [], σ_5) _
  first | (have hA5 := CA_Fu hA_1 hf_5) | skip
  first | (have hCC5 := CC_Fu hCC_1 hf_5) | skip
  first | (have hne : ∀ d, 0 ≤ d → d < v 0 0 * v 0 1 → 0 ≤ ne v l d ∧ ne v l d < v 0 0 * v 0 1 := fun d a b => ne_in h1 a b) | skip
  refine wp_go 2 hM (fr' := (12, [some (.inr 0), none, none, none, none], [.inr 1], σ_5)) rfl ?_
  refine wp_calld (v := 0) (idx := 134) (j := 11) (N := mtX1_dots) (as := [.inr 1]) (rest := []) hM rfl (Or.inl ⟨rfl, rfl⟩) rfl (sp_X1_dots v l σ_5  (by first | (first | assumption | omega) | fail) (by first | (first | assumption | omega) | fail)) ?_
  show mz_Wp shA none 87 (15, [some (.inr 0), none, none, none, none], [.inl (v 0 0 * v 0 1)], σ_5) _
  refine wp_go 5 hM (fr' := (20, [some (.inr 0), some (.inl (v 0 0 * v 0 1)), some (.inl 0), some (.inl 0), none], [], σ_5)) rfl ?_
  have loop20 : ∀ (fuel : Nat) (w : Int) (d : Int) (σ1 : mz_G), (0 ≤ d) → (d ≤ v 0 0 * v 0 1) → (PQ (fun p : Int => σ1 7 p.toNat) (fun e : Int => σ_5 6 e.toNat) d w) → (∀ c i, ¬ c = 7 → σ1 c i = σ_5 c i) → ((v 0 0 * v 0 1 - d : Int) < fuel) → mz_Wp shA none 87 (20, [some (.inr 0), some (.inl (v 0 0 * v 0 1)), some (.inl w), some (.inl d), none], [], σ1) (fun r σ' => r = some (aLoops v l) ∧ CS σ' v l ∧ Fk σ σ') := by
    intro fuel
    induction fuel with
    | zero =>
      intro w d σ1 hv20_0 hv20_1 hv20_2 hv20_3 hf20
      exfalso
      omega
    | succ fuel ih20 =>
      intro w d σ1 hv20_0 hv20_1 hv20_2 hv20_3 hf20
      obtain ⟨pw0, pw1⟩ := id hv20_2.1
      refine wp_go 2 hM (fr' := (22, [some (.inr 0), some (.inl (v 0 0 * v 0 1)), some (.inl w), some (.inl d), none], [.inl (v 0 0 * v 0 1), .inl d], σ1)) rfl ?_
      refine wp_ic (tgt := 50) hM rfl (by decide) (by omega) (by omega) (fun c22 => ?_) (fun c22 => ?_)
      · replace c22 := cmp_ge_t c22
        refine wp_go 2 hM (fr' := (52, [some (.inr 0), some (.inl (v 0 0 * v 0 1)), some (.inl w), some (.inl 0), none], [], σ1)) rfl ?_
        have loop52 : ∀ (fuel : Nat) (w : Int) (i : Int) (σ2 : mz_G) (d52_4 : Option mz_V), (PL (ne v l) (v 0 0 * v 0 1) (fun p : Int => σ2 7 p.toNat) (fun e : Int => σ2 6 e.toNat) i w) → (∀ c i, ¬ c = 6 → ¬ c = 7 → σ2 c i = σ_5 c i) → ((v 0 0 * v 0 1 - i : Int) < fuel) → mz_Wp shA none 87 (52, [some (.inr 0), some (.inl (v 0 0 * v 0 1)), some (.inl w), some (.inl i), d52_4], [], σ2) (fun r σ' => r = some (aLoops v l) ∧ CS σ' v l ∧ Fk σ σ') := by
          intro fuel
          induction fuel with
          | zero =>
            intro w i σ2 d52_4 hv52_0 hv52_1 hf52
            exfalso
            have z1 := hv52_0.2.1
            have z2 := hv52_0.1.1
            omega
          | succ fuel ih52 =>
            intro w i σ2 d52_4 hv52_0 hv52_1 hf52
            obtain ⟨⟨⟨qw0, qw1⟩, qb, -⟩, ⟨qi0, qi1⟩, -⟩ := id hv52_0
            refine wp_go 2 hM (fr' := (54, [some (.inr 0), some (.inl (v 0 0 * v 0 1)), some (.inl w), some (.inl i), d52_4], [.inl w, .inl i], σ2)) rfl ?_
            refine wp_ic (tgt := 118) hM rfl (by decide) (by omega) (by omega) (fun c54 => ?_) (fun c54 => ?_)
            · replace c54 := cmp_ge_t c54
              refine wp_go 3 hM (fr' := (121, [some (.inr 0), some (.inl (v 0 0 * v 0 1)), some (.inl w), some (.inl i), d52_4], [.inl ((v 0 0 * v 0 1) - w)], σ2)) rfl ?_
              refine wp_ret hM rfl (rfl) ?_
              have hiw : i = w := by omega
              rw [hiw] at hv52_0
              exact ⟨by rw [PL_ans h1 hv52_0], CS_ext (CS_CC hA5 hCC5) (fun c i a b => hv52_1 c i (by omega) (by omega)), ((Fk_Fh hf_1).tr (Fk_Fu hf_5)).tr (fun c i a => hv52_1 c i (by omega) (by omega))⟩
            · replace c54 := cmp_ge_f c54
              refine wp_go 2 hM (fr' := (59, [some (.inr 0), some (.inl (v 0 0 * v 0 1)), some (.inl w), some (.inl i), d52_4], [.inl (v 0 0 * v 0 1), .inl i], σ2)) rfl ?_
              refine wp_ic (tgt := 118) hM rfl (by decide) (by omega) (by omega) (fun c59 => ?_) (fun c59 => ?_)
              · replace c59 := cmp_ge_t c59
                refine wp_go 3 hM (fr' := (121, [some (.inr 0), some (.inl (v 0 0 * v 0 1)), some (.inl w), some (.inl i), d52_4], [.inl ((v 0 0 * v 0 1) - w)], σ2)) rfl ?_
                refine wp_ret hM rfl (rfl) ?_
                have hiw : i = w := by omega
                rw [hiw] at hv52_0
                exact ⟨by rw [PL_ans h1 hv52_0], CS_ext (CS_CC hA5 hCC5) (fun c i a b => hv52_1 c i (by omega) (by omega)), ((Fk_Fh hf_1).tr (Fk_Fu hf_5)).tr (fun c i a => hv52_1 c i (by omega) (by omega))⟩
              · replace c59 := cmp_ge_f c59
                first | (have hqi := qb i qi0 (by omega)) | skip
                refine wp_go 5 hM (fr' := (71, [some (.inr 0), some (.inl (v 0 0 * v 0 1)), some (.inl w), some (.inl i), d52_4], [.inl i, .inr 7, .inr 5], σ2)) rfl ?_
                refine wp_al (n := 400) hM rfl (by decide) rfl (by omega) (by omega) ?_
                obtain ⟨z, ez⟩ : ∃ q : Int, q = σ2 7 (i).toNat := ⟨_, rfl⟩
                rw [← ez]
                first | (have hz : 0 ≤ z ∧ z < v 0 0 * v 0 1 := by rw [ez]; exact ⟨hqi.1, hqi.2.1⟩) | skip
                refine wp_al (n := 400) hM rfl (by decide) rfl (by omega) (by omega) ?_
                obtain ⟨y, ey⟩ : ∃ q : Int, q = σ2 5 (z).toNat := ⟨_, rfl⟩
                rw [← ey]
                first | (have hy : y = ne v l z := by rw [ey, hv52_1 5 _ (by decide) (by decide)]; exact hCC5.2.2 z hz.1 hz.2) | skip
                first | (have hyb := hne z hz.1 hz.2) | skip
                first | (rw [← hy] at hyb) | skip
                first | (have hge : 1 ≤ σ2 6 y.toNat := by rw [hy, ez]; exact PL_ge hne hv52_0 (by omega)) | skip
                first | (have hbd : 0 ≤ σ2 6 y.toNat ∧ σ2 6 y.toNat ≤ v 0 0 * v 0 1 := PL_bd hv52_0 hyb.1 hyb.2) | skip
                first | (have hwl := PL_lt hne hv52_0 (show i < w by omega)) | skip
                first | (have hyf : y = ne v l (σ2 7 i.toNat) := by rw [hy, ez]) | skip
                refine wp_go 5 hM (fr' := (82, [some (.inr 0), some (.inl (v 0 0 * v 0 1)), some (.inl w), some (.inl i), some (.inl y)], [.inl y, .inr 6, .inl y, .inr 6], σ2)) rfl ?_
                refine wp_al (n := 400) hM rfl (by decide) rfl (by omega) (by omega) ?_
                refine wp_go 2 hM (fr' := (85, [some (.inr 0), some (.inl (v 0 0 * v 0 1)), some (.inl w), some (.inl i), some (.inl y)], [.inl ((σ2 6 (y).toNat) - 1), .inl y, .inr 6], σ2)) rfl ?_
                refine wp_as (n := 400) hM rfl rfl (by omega) (by omega) ?_
                refine wp_go 3 hM (fr' := (92, [some (.inr 0), some (.inl (v 0 0 * v 0 1)), some (.inl w), some (.inl i), some (.inl y)], [.inl y, .inr 6], (mz_up σ2 6 (y).toNat ((σ2 6 (y).toNat) - 1)))) rfl ?_
                refine wp_al (n := 400) hM rfl (by decide) rfl (by omega) (by omega) ?_
                obtain ⟨s, es⟩ : ∃ q : Int, q = (mz_up σ2 6 (y).toNat ((σ2 6 (y).toNat) - 1)) 6 (y).toNat := ⟨_, rfl⟩
                rw [← es]
                first | (have hs : s = σ2 6 y.toNat - 1 := by rw [es]; exact up_eq) | skip
                refine wp_if (tgt := 112) hM rfl (by decide) (by omega) (fun c93 => ?_) (fun c93 => ?_)
                · replace c93 := cmp_ne_t c93
                  refine wp_go 2 hM (fr' := (52, [some (.inr 0), some (.inl (v 0 0 * v 0 1)), some (.inl w), some (.inl (i + 1)), some (.inl y)], [], (mz_up σ2 6 (y).toNat ((σ2 6 (y).toNat) - 1)))) rfl ?_
                  exact ih52 w (i + 1) (mz_up σ2 6 (y).toNat ((σ2 6 (y).toNat) - 1)) (some (.inl y)) (by first | (first | (rw [show (fun p : Int => mz_up σ2 6 y.toNat (σ2 6 y.toNat - 1) 7 p.toNat) = (fun p : Int => σ2 7 p.toNat) from funext (fun p => up_ne (by decide))]; exact PL_n hne hv52_0 (by omega) (fun e a b => by show mz_up σ2 6 y.toNat _ 6 e.toNat = _; rw [← hyf]; by_cases q : e = y; (rw [if_pos q, q]; exact up_eq); (rw [if_neg q]; exact up_ni (by omega))) (by show ¬ mz_up σ2 6 y.toNat _ 6 (ne v l (σ2 7 i.toNat)).toNat = 0; rw [← hyf, up_eq]; omega)) | exact PL_y hne hv52_0 (by omega) (fun p a b => by show mz_up _ 7 w.toNat y 7 p.toNat = _; rw [up_ni (by omega), up_ne (by decide)]) (by show mz_up _ 7 w.toNat y 7 w.toNat = _; rw [up_eq]; exact hyf) (fun e a b => by show mz_up _ 7 w.toNat y 6 e.toNat = _; rw [up_ne (by decide), ← hyf]; by_cases q : e = y; (rw [if_pos q, q]; exact up_eq); (rw [if_neg q]; exact up_ni (by omega))) (by show mz_up _ 7 w.toNat y 6 (ne v l (σ2 7 i.toNat)).toNat = 0; rw [← hyf, up_ne (by decide), up_eq]; omega)) | fail) (by first | (first | exact fun c i a b => by rw [up_ne a]; exact hv52_1 c i a b | exact fun c i a b => by rw [up_ne b, up_ne a]; exact hv52_1 c i a b) | fail) (by omega)
                · replace c93 := cmp_ne_f c93
                  refine wp_go 2 hM (fr' := (98, [some (.inr 0), some (.inl (v 0 0 * v 0 1)), some (.inl w), some (.inl i), some (.inl y)], [.inl (v 0 0 * v 0 1), .inl w], (mz_up σ2 6 (y).toNat ((σ2 6 (y).toNat) - 1)))) rfl ?_
                  refine wp_ic (tgt := 112) hM rfl (by decide) (by omega) (by omega) (fun c98 => ?_) (fun c98 => ?_)
                  · replace c98 := cmp_ge_t c98
                    omega
                  · replace c98 := cmp_ge_f c98
                    refine wp_go 4 hM (fr' := (108, [some (.inr 0), some (.inl (v 0 0 * v 0 1)), some (.inl w), some (.inl i), some (.inl y)], [.inl y, .inl w, .inr 7], (mz_up σ2 6 (y).toNat ((σ2 6 (y).toNat) - 1)))) rfl ?_
                    refine wp_as (n := 400) hM rfl rfl (by omega) (by omega) ?_
                    refine wp_go 3 hM (fr' := (52, [some (.inr 0), some (.inl (v 0 0 * v 0 1)), some (.inl (w + 1)), some (.inl (i + 1)), some (.inl y)], [], (mz_up (mz_up σ2 6 (y).toNat ((σ2 6 (y).toNat) - 1)) 7 (w).toNat y))) rfl ?_
                    exact ih52 (w + 1) (i + 1) (mz_up (mz_up σ2 6 (y).toNat ((σ2 6 (y).toNat) - 1)) 7 (w).toNat y) (some (.inl y)) (by first | (first | (rw [show (fun p : Int => mz_up σ2 6 y.toNat (σ2 6 y.toNat - 1) 7 p.toNat) = (fun p : Int => σ2 7 p.toNat) from funext (fun p => up_ne (by decide))]; exact PL_n hne hv52_0 (by omega) (fun e a b => by show mz_up σ2 6 y.toNat _ 6 e.toNat = _; rw [← hyf]; by_cases q : e = y; (rw [if_pos q, q]; exact up_eq); (rw [if_neg q]; exact up_ni (by omega))) (by show ¬ mz_up σ2 6 y.toNat _ 6 (ne v l (σ2 7 i.toNat)).toNat = 0; rw [← hyf, up_eq]; omega)) | exact PL_y hne hv52_0 (by omega) (fun p a b => by show mz_up _ 7 w.toNat y 7 p.toNat = _; rw [up_ni (by omega), up_ne (by decide)]) (by show mz_up _ 7 w.toNat y 7 w.toNat = _; rw [up_eq]; exact hyf) (fun e a b => by show mz_up _ 7 w.toNat y 6 e.toNat = _; rw [up_ne (by decide), ← hyf]; by_cases q : e = y; (rw [if_pos q, q]; exact up_eq); (rw [if_neg q]; exact up_ni (by omega))) (by show mz_up _ 7 w.toNat y 6 (ne v l (σ2 7 i.toNat)).toNat = 0; rw [← hyf, up_ne (by decide), up_eq]; omega)) | fail) (by first | (first | exact fun c i a b => by rw [up_ne a]; exact hv52_1 c i a b | exact fun c i a b => by rw [up_ne b, up_ne a]; exact hv52_1 c i a b) | fail) (by omega)
        exact loop52 402 w 0 σ1 (none) (by first | (exact PL_0 hne (PQ_c (by rw [show v 0 0 * v 0 1 = d from by omega]; exact hv20_2) (fun _ _ _ => rfl) (fun e _ _ => hv20_3 6 _ (by decide))) (fun e a b => by show σ1 6 e.toNat = _; rw [hv20_3 6 _ (by decide)]; exact hu_5 e a b)) | fail) (by first | (exact fun c i a b => hv20_3 c i b) | fail) (by omega)
      · replace c22 := cmp_ge_f c22
        first | (have hub := us_bd (v := v) (l := l) (D := v 0 0 * v 0 1) (e := d) (by omega)) | skip
        refine wp_go 3 hM (fr' := (30, [some (.inr 0), some (.inl (v 0 0 * v 0 1)), some (.inl w), some (.inl d), none], [.inl d, .inr 6], σ1)) rfl ?_
        refine wp_al (n := 400) hM rfl (by decide) rfl (by omega) (by omega) ?_
        first | (rw [show σ1 6 d.toNat = us v l (v 0 0 * v 0 1) d from by rw [hv20_3 6 _ (by decide)]; exact hu_5 d hv20_0 (by omega)]) | skip
        refine wp_if (tgt := 44) hM rfl (by decide) (by omega) (fun c31 => ?_) (fun c31 => ?_)
        · replace c31 := cmp_ne_t c31
          refine wp_go 2 hM (fr' := (20, [some (.inr 0), some (.inl (v 0 0 * v 0 1)), some (.inl w), some (.inl (d + 1)), none], [], σ1)) rfl ?_
          exact ih20 w (d + 1) σ1 (by omega) (by omega) (by first | (first | exact PQ_n hv20_2 (fun q => c31 (by rw [← hu_5 d hv20_0 (by omega)]; exact q)) | exact PQ_y hv20_2 (by show σ_5 6 d.toNat = 0; rw [hu_5 d hv20_0 (by omega)]; exact c31) (fun p a b => up_ni (by omega)) up_eq) | fail) (by first | (first | exact hv20_3 | exact fun c i a => by rw [up_ne a]; exact hv20_3 c i a) | fail) (by omega)
        · replace c31 := cmp_ne_f c31
          refine wp_go 4 hM (fr' := (40, [some (.inr 0), some (.inl (v 0 0 * v 0 1)), some (.inl w), some (.inl d), none], [.inl d, .inl w, .inr 7], σ1)) rfl ?_
          refine wp_as (n := 400) hM rfl rfl (by omega) (by omega) ?_
          refine wp_go 3 hM (fr' := (20, [some (.inr 0), some (.inl (v 0 0 * v 0 1)), some (.inl (w + 1)), some (.inl (d + 1)), none], [], (mz_up σ1 7 (w).toNat d))) rfl ?_
          exact ih20 (w + 1) (d + 1) (mz_up σ1 7 (w).toNat d) (by omega) (by omega) (by first | (first | exact PQ_n hv20_2 (fun q => c31 (by rw [← hu_5 d hv20_0 (by omega)]; exact q)) | exact PQ_y hv20_2 (by show σ_5 6 d.toNat = 0; rw [hu_5 d hv20_0 (by omega)]; exact c31) (fun p a b => up_ni (by omega)) up_eq) | fail) (by first | (first | exact hv20_3 | exact fun c i a => by rw [up_ne a]; exact hv20_3 c i a) | fail) (by omega)
  exact loop20 402 0 0 σ_5 (by omega) (by omega) (by first | (exact PQ_0) | fail) (by first | (exact fun _ _ _ => rfl) | fail) (by omega)
