set_option maxRecDepth 100000 in
set_option maxHeartbeats 4000000 in
theorem sp_X1_takeOut (v : mz_G) (l : List tr3) (σ : mz_G) (k : Int) (h0 : CA σ v l) (h1 : Bs v l) (h2 : Sd l) (h3 : 0 ≤ k) (h4 : k < v 0 2) (h5 : v 0 2 ≤ 30) : mz_Cl shA 40 [.inr 1, .inl k] σ (fun r σ' => r = none ∧ CA σ' (vcl v k) ((cov (lkOf l k) (l.filter (fun z => !decide (hasK z k)))).map (cl1 k)) ∧ Fn σ σ') := by
  have hM : mz_meth[40]? = some mtX1_takeOut := rfl
  obtain ⟨hR, hT, hLen⟩ := id h1
  obtain ⟨⟨hW0, hW1⟩, ⟨hH0, hH1⟩, ⟨hn0, hn1⟩, hpt⟩ := id hR
  obtain ⟨⟨hc1, hc2, hc3, hc4⟩, hcp, hct, hcv⟩ := id h0
  refine mz_Cl.of hM ?_
  show mz_Wp shA none 40 (0, [some (.inr 1), some (.inl k), none], [], σ) _
  refine wp_go 2 hM (fr' := (2, [some (.inr 1), some (.inl k), none], [.inl k, .inr 1], σ)) rfl ?_
  refine wp_call (v := 0) (idx := 143) (j := 33) (N := mtX1_linkOf) (as := [.inr 1, .inl k]) (rest := []) hM rfl (Or.inl ⟨rfl, rfl⟩) rfl (sp_X1_linkOf v l σ k (by first | assumption | omega) (by first | assumption | omega) (by first | assumption | omega)) ?_
  rintro r0 σ_2 ⟨rfl, hk_2, hf_2⟩
  show mz_Wp shA none 40 (5, [some (.inr 1), some (.inl k), none], [], σ_2) _
  have hC_2 := CA_Fl h0 hf_2
  have hT_2 : σ_2 11 1 = (l.length : Int) := hC_2.1.2.2.2
  refine wp_go 6 hM (fr' := (15, [some (.inr 1), some (.inl k), some (.inl ((σ_2 11 1) - 1))], [], σ_2)) rfl ?_
  have loop15 : ∀ (fuel : Nat) (t : Int) (σ1 : mz_G), (-1 ≤ t) → (t < (l.length : Int)) → (CT σ1 (rmT (fun z => hasK z k) l t)) → (Ft σ_2 σ1) → (CA σ1 v (rmT (fun z => hasK z k) l t)) → ((t + 1 : Int) < fuel) → mz_Wp shA none 40 (15, [some (.inr 1), some (.inl k), some (.inl t)], [], σ1) (fun r σ' => r = none ∧ CA σ' (vcl v k) ((cov (lkOf l k) (l.filter (fun z => !decide (hasK z k)))).map (cl1 k)) ∧ Fn σ σ') := by
    intro fuel
    induction fuel with
    | zero =>
      intro t σ1 hv15_0 hv15_1 hv15_2 hv15_3 hv15_4 hf15
      exfalso
      omega
    | succ fuel ih15 =>
      intro t σ1 hv15_0 hv15_1 hv15_2 hv15_3 hv15_4 hf15
      have hB1 : Bs v (rmT (fun z => hasK z k) l t) := sub_Bs h1 rmT_sub
      have hS1 : Sd (rmT (fun z => hasK z k) l t) := sub_Sd h2 rmT_sub
      have hR1 : Rt 32 (rmT (fun z => hasK z k) l t) := Rt_up hB1.2.1 (by omega)
      have hN1 := hB1.2.2
      refine wp_go 1 hM (fr' := (16, [some (.inr 1), some (.inl k), some (.inl t)], [.inl t], σ1)) rfl ?_
      refine wp_if (tgt := 45) hM rfl (by decide) (by omega) (fun c16 => ?_) (fun c16 => ?_)
      · replace c16 := cmp_lt_t c16
        have hend : t = -1 := by omega
        rw [hend, rmT_end] at hv15_2 hv15_4
        have hL_1 : LK σ1 (lkOf l k) := LK_Ft hk_2 hv15_3
        have hLr := Lr_lk (k := k) hT
        have hlen := flT_len (f := lk1 k) (l := l) (t := (l.length : Int)) (c := 1) (fun x => lk1_le) (by omega)
        rw [flT_all rfl] at hlen
        have hlen2 : ((lkOf l k).length : Int) ≤ 64 := by unfold lkOf; omega
        have hSf : Sd (l.filter (fun z => !decide (hasK z k))) := sub_Sd h2 List.filter_sublist
        have hRf : Rt 32 (l.filter (fun z => !decide (hasK z k))) := Rt_up (sub_Rt hT List.filter_sublist) (by omega)
        have hNf : ((l.filter (fun z => !decide (hasK z k))).length : Int) ≤ 60 := by have := List.length_filter_le (fun z => !decide (hasK z k)) l; omega
        have hE32 : ∀ e ∈ lkOf l k, (0 ≤ e.1 ∧ e.1 < 32) ∧ (0 ≤ e.2 ∧ e.2 < 32) := fun e he => by have := hLr e he; omega
        have hRc : Rt 32 (cov (lkOf l k) (l.filter (fun z => !decide (hasK z k)))) := by
          unfold cov
          split
          · exact hRf
          next q =>
            rcases fstI_spec ((lkOf l k).length : Int) (fun i => ¬ fstI ((lkOf l k).length : Int) (fun j => (mg (lkOf l k) i).2 = (mg (lkOf l k) j).1) = -1) with ⟨g1, -⟩ | ⟨g1, g2, g3, -⟩
            · exact absurd g1 q
            · rcases fstI_spec ((lkOf l k).length : Int) (fun j => (mg (lkOf l k) (cvi (lkOf l k))).2 = (mg (lkOf l k) j).1) with ⟨f1, -⟩ | ⟨f1, f2, -, -⟩
              · exact absurd f1 g3
              · have r1 := hE32 _ (List.mem_of_getElem? (mg_get (m := lkOf l k) (i := cvi (lkOf l k)) g1 g2))
                have r2 := hE32 _ (List.mem_of_getElem? (mg_get (m := lkOf l k) (i := cvj (lkOf l k) (cvi (lkOf l k))) f1 f2))
                exact ins_Rt hRf (nrm_rg r1.1 r1.2 r2.2)
        have hNc : ((cov (lkOf l k) (l.filter (fun z => !decide (hasK z k)))).length : Int) ≤ 64 := by
          unfold cov
          split
          · omega
          · rw [ins_len]; omega
        refine wp_go 1 hM (fr' := (46, [some (.inr 1), some (.inl k), some (.inl t)], [.inr 1], σ1)) rfl ?_
        refine wp_call (v := 0) (idx := 161) (j := 41) (N := mtX1_coverLink) (as := [.inr 1]) (rest := []) hM rfl (Or.inl ⟨rfl, rfl⟩) rfl (sp_X1_coverLink (l.filter (fun z => !decide (hasK z k))) (lkOf l k) σ1  (by first | assumption | omega) (by first | assumption | omega) (by first | assumption | omega) (by first | assumption | omega) (by first | assumption | omega) (by first | assumption | omega) (by first | assumption | omega)) ?_
        rintro r0 σ_46 ⟨rfl, ht_46, hf_46⟩
        show mz_Wp shA none 40 (49, [some (.inr 1), some (.inl k), some (.inl t)], [], σ_46) _
        refine wp_go 3 hM (fr' := (54, [some (.inr 1), some (.inl k), some (.inl t)], [.inl k, .inr 11], σ_46)) rfl ?_
        refine wp_call (v := 0) (idx := 164) (j := 62) (N := mtX4_close) (as := [.inr 11, .inl k]) (rest := []) hM rfl (Or.inl ⟨rfl, rfl⟩) rfl (sp_X4_close (cov (lkOf l k) (l.filter (fun z => !decide (hasK z k)))) σ_46 k (by first | assumption | omega) (by first | assumption | omega) (by first | assumption | omega) (by first | assumption | omega) (by first | assumption | omega)) ?_
        rintro r0 σ_54 ⟨rfl, ht_54, hf_54⟩
        show mz_Wp shA none 40 (57, [some (.inr 1), some (.inl k), some (.inl t)], [], σ_54) _
        refine wp_go 3 hM (fr' := (62, [some (.inr 1), some (.inl k), some (.inl t)], [.inl k, .inr 8], σ_54)) rfl ?_
        refine wp_call (v := 0) (idx := 167) (j := 47) (N := mtX2_close) (as := [.inr 8, .inl k]) (rest := []) hM rfl (Or.inl ⟨rfl, rfl⟩) rfl (sp_X2_close_8  σ_54 k (by first | assumption | omega) (by first | assumption | omega)) ?_
        rintro r0 σ_62 ⟨rfl, hp_62⟩
        show mz_Wp shA none 40 (65, [some (.inr 1), some (.inl k), some (.inl t)], [], σ_62) _
        refine wp_go 3 hM (fr' := (70, [some (.inr 1), some (.inl k), some (.inl t)], [.inl k, .inr 9], σ_62)) rfl ?_
        refine wp_call (v := 0) (idx := 167) (j := 47) (N := mtX2_close) (as := [.inr 9, .inl k]) (rest := []) hM rfl (Or.inl ⟨rfl, rfl⟩) rfl (sp_X2_close_9  σ_62 k (by first | assumption | omega) (by first | assumption | omega)) ?_
        rintro r0 σ_70 ⟨rfl, hp_70⟩
        show mz_Wp shA none 40 (73, [some (.inr 1), some (.inl k), some (.inl t)], [], σ_70) _
        refine wp_go 6 hM (fr' := (83, [some (.inr 1), some (.inl k), some (.inl t)], [], (mz_up σ_70 1 7 ((σ_70 1 7) - 1)))) rfl ?_
        refine wp_retv hM rfl rfl ?_
        have hF1 := hf_46.tr hf_54
        have hC5 := CA_Ft hv15_4 hF1 ht_54
        have hn5 : σ_54 1 7 = v 0 2 := hC5.1.2.2.1
        obtain ⟨p1, p2, p3⟩ := hp_62
        obtain ⟨q1, q2, q3⟩ := hp_70
        have hn7 : σ_70 1 7 = v 0 2 := by rw [q3 1 7 (by decide) (by decide), p3 1 7 (by decide) (by decide)]; exact hn5
        have key : ∀ c j, ¬ c = 16 → ¬ c = 17 → ¬ c = 18 → ¬ c = 19 → σ_70 c j = σ_54 c j := fun c j a1 a2 a3 a4 => by rw [q3 c j a3 a4, p3 c j a1 a2]
        refine ⟨rfl, CA_vcl hC5 hR ⟨h3, h4⟩ (fun c hc => ?_) (by simp [mz_up, hn7]) ⟨by simp [mz_up, key], by simp [mz_up, key], by simp [mz_up, key]⟩ (fun c hc j => by rcases hc with rfl | rfl <;> simp [mz_up, key]), ?_⟩
        · rcases hc with rfl | rfl | rfl | rfl
          · refine ⟨fun j hj => ?_, fun j hj hj2 => ?_⟩
            · rw [up_ne (by decide), q3 16 j (by decide) (by decide)]; exact (p1 j (Or.inl hj)).1
            · rw [up_ne (by decide), q3 16 j (by decide) (by decide)]; exact (p2 j hj hj2).1
          · refine ⟨fun j hj => ?_, fun j hj hj2 => ?_⟩
            · rw [up_ne (by decide), q3 17 j (by decide) (by decide)]; exact (p1 j (Or.inl hj)).2
            · rw [up_ne (by decide), q3 17 j (by decide) (by decide)]; exact (p2 j hj hj2).2
          · refine ⟨fun j hj => ?_, fun j hj hj2 => ?_⟩
            · rw [up_ne (by decide), (q1 j (Or.inl hj)).1, p3 18 j (by decide) (by decide)]
            · rw [up_ne (by decide), (q2 j hj hj2).1, p3 18 (j + 1) (by decide) (by decide)]
          · refine ⟨fun j hj => ?_, fun j hj hj2 => ?_⟩
            · rw [up_ne (by decide), (q1 j (Or.inl hj)).2, p3 19 j (by decide) (by decide)]
            · rw [up_ne (by decide), (q2 j hj hj2).2, p3 19 (j + 1) (by decide) (by decide)]
        · refine Fn.tr (Fn_Fl hf_2) (Fn.tr (Fn_Ft hv15_3) (Fn.tr (Fn_Ft hF1) (Fn.tr ?_ (Fn_up (by simp)))))
          exact fun c i a => key c i (by omega) (by omega) (by omega) (by omega)
      · replace c16 := cmp_lt_f c16
        have hlt := rmT_lt (P := (fun z => hasK z k)) (l := l) (t := t) (by omega) (by omega)
        have hgt := rmT_get (P := (fun z => hasK z k)) (l := l) (t := t) (by omega) (by omega)
        refine wp_go 4 hM (fr' := (25, [some (.inr 1), some (.inl k), some (.inl t)], [.inl k, .inl t, .inr 11], σ1)) rfl ?_
        refine wp_calld (v := 0) (idx := 70) (j := 57) (N := mtX4_has) (as := [.inr 11, .inl t, .inl k]) (rest := []) hM rfl (Or.inl ⟨rfl, rfl⟩) rfl (sp_X4_has v (rmT (fun z => hasK z k) l t) σ1 t k (by first | assumption | omega) (by first | assumption | omega) (by first | assumption | omega) (by first | assumption | omega) (by first | assumption | omega)) ?_
        show mz_Wp shA none 40 (28, [some (.inr 1), some (.inl k), some (.inl t)], [.inl (b01 (hasK (tg (rmT (fun z => hasK z k) l t) t) k))], σ1) _
        rw [hgt]
        refine wp_if (tgt := 39) hM rfl (by decide) b01_R (fun c28 => ?_) (fun c28 => ?_)
        · replace c28 := b01_eq0 (cmp_eq_t c28)
          refine wp_go 2 hM (fr' := (15, [some (.inr 1), some (.inl k), some (.inl (t + (-1)))], [], σ1)) rfl ?_
          exact ih15 (t + (-1)) σ1 (by omega) (by omega) (by first | (rw [← rmT_yes (by omega) (by omega) c28]; exact ht_36) | (rw [rmT_no (by omega) (by omega) c28]; exact hv15_2)) (by first | exact hv15_3.tr hf_36 | exact hv15_3) (by first | (refine CA_Ft hv15_4 hf_36 ?_; rw [← rmT_yes (by omega) (by omega) c28]; exact ht_36) | (rw [rmT_no (by omega) (by omega) c28]; exact hv15_4)) (by omega)
        · replace c28 := b01_ne0 (cmp_eq_f c28)
          refine wp_go 3 hM (fr' := (36, [some (.inr 1), some (.inl k), some (.inl t)], [.inl t, .inr 11], σ1)) rfl ?_
          refine wp_call (v := 0) (idx := 128) (j := 59) (N := mtX4_remove) (as := [.inr 11, .inl t]) (rest := []) hM rfl (Or.inl ⟨rfl, rfl⟩) rfl (sp_X4_remove (rmT (fun z => hasK z k) l t) σ1 t (by first | assumption | omega) (by first | assumption | omega) (by first | assumption | omega) (by first | assumption | omega) (by first | assumption | omega)) ?_
          rintro r0 σ_36 ⟨rfl, ht_36, hf_36⟩
          show mz_Wp shA none 40 (39, [some (.inr 1), some (.inl k), some (.inl t)], [], σ_36) _
          refine wp_go 2 hM (fr' := (15, [some (.inr 1), some (.inl k), some (.inl (t + (-1)))], [], σ_36)) rfl ?_
          exact ih15 (t + (-1)) σ_36 (by omega) (by omega) (by first | (rw [← rmT_yes (by omega) (by omega) c28]; exact ht_36) | (rw [rmT_no (by omega) (by omega) c28]; exact hv15_2)) (by first | exact hv15_3.tr hf_36 | exact hv15_3) (by first | (refine CA_Ft hv15_4 hf_36 ?_; rw [← rmT_yes (by omega) (by omega) c28]; exact ht_36) | (rw [rmT_no (by omega) (by omega) c28]; exact hv15_4)) (by omega)
  exact loop15 70 ((σ_2 11 1) - 1) σ_2 (by omega) (by omega) (by rw [rmT_0 (by omega)]; exact CA_CT hC_2) (by exact Ft.rf) (by rw [rmT_0 (by omega)]; exact hC_2) (by omega)

set_option maxRecDepth 100000 in
set_option maxHeartbeats 4000000 in
theorem sp_X2_area_10_v (v : mz_G) (l : List tr3) (w : Int) (σ : mz_G) (a : Int) (b : Int) (c : Int) (h0 : CA σ v l) (h1 : Bs v l) (h2 : WY σ v w (v 0 2)) (h3 : 0 ≤ a) (h4 : a < v 0 2) (h5 : 0 ≤ b) (h6 : b < v 0 2) (h7 : 0 ≤ c) (h8 : c < v 0 2) : mz_Cl shA 44 [.inr 10, .inl a, .inl b, .inl c] σ (fun r σ' => r = some (ar (wx v w a) (wy v w a) (wx v w b) (wy v w b) (wx v w c) (wy v w c)) ∧ σ' = σ) := by
  have ha := WY_at h2 h3 h4
  have hb := WY_at h2 h5 h6
  have hc := WY_at h2 h7 h8
  have hn := h1.1.2.2.1.2
  refine (sp_X2_area_10 σ a b c h3 (by omega) h5 (by omega) h7 (by omega)).mono (fun r σ' h => ⟨?_, h.2⟩)
  rw [h.1, ha.1, ha.2, hb.1, hb.2, hc.1, hc.2]

set_option maxRecDepth 100000 in
set_option maxHeartbeats 4000000 in
theorem sp_X1_areaOf_10 (v : mz_G) (l : List tr3) (w : Int) (σ : mz_G) (t : Int) (h0 : CA σ v l) (h1 : Bs v l) (h2 : WY σ v w (v 0 2)) (h3 : 0 ≤ t) (h4 : t < (l.length : Int)) : mz_Cl shA 15 [.inr 1, .inr 10, .inl t] σ (fun r σ' => r = some (war v w (tg l t)) ∧ σ' = σ) := by
  have hM : mz_meth[15]? = some mtX1_areaOf := rfl
  obtain ⟨hR, hT, hLen⟩ := id h1
  obtain ⟨⟨hW0, hW1⟩, ⟨hH0, hH1⟩, ⟨hn0, hn1⟩, hpt⟩ := id hR
  obtain ⟨⟨hc1, hc2, hc3, hc4⟩, hcp, hct, hcv⟩ := id h0
  have ht := Rt_at hT h3 h4
  refine mz_Cl.of hM ?_
  show mz_Wp shA none 15 (0, [some (.inr 1), some (.inr 10), some (.inl t)], [], σ) _
  refine wp_go 4 hM (fr' := (6, [some (.inr 1), some (.inr 10), some (.inl t)], [.inl t, .inr 11, .inr 10], σ)) rfl ?_
  refine wp_calld (v := 0) (idx := 74) (j := 54) (N := mtX4_first) (as := [.inr 11, .inl t]) (rest := [.inr 10]) hM rfl (Or.inl ⟨rfl, rfl⟩) rfl (sp_X4_first_v v l σ t (by first | assumption | omega) (by first | assumption | omega) (by first | assumption | omega) (by first | assumption | omega)) ?_
  show mz_Wp shA none 15 (9, [some (.inr 1), some (.inr 10), some (.inl t)], [.inl ((tg l t).1), .inr 10], σ) _
  refine wp_go 3 hM (fr' := (14, [some (.inr 1), some (.inr 10), some (.inl t)], [.inl t, .inr 11, .inl ((tg l t).1), .inr 10], σ)) rfl ?_
  refine wp_calld (v := 0) (idx := 78) (j := 55) (N := mtX4_second) (as := [.inr 11, .inl t]) (rest := [.inl ((tg l t).1), .inr 10]) hM rfl (Or.inl ⟨rfl, rfl⟩) rfl (sp_X4_second_v v l σ t (by first | assumption | omega) (by first | assumption | omega) (by first | assumption | omega) (by first | assumption | omega)) ?_
  show mz_Wp shA none 15 (17, [some (.inr 1), some (.inr 10), some (.inl t)], [.inl ((tg l t).2.1), .inl ((tg l t).1), .inr 10], σ) _
  refine wp_go 3 hM (fr' := (22, [some (.inr 1), some (.inr 10), some (.inl t)], [.inl t, .inr 11, .inl ((tg l t).2.1), .inl ((tg l t).1), .inr 10], σ)) rfl ?_
  refine wp_calld (v := 0) (idx := 81) (j := 56) (N := mtX4_third) (as := [.inr 11, .inl t]) (rest := [.inl ((tg l t).2.1), .inl ((tg l t).1), .inr 10]) hM rfl (Or.inl ⟨rfl, rfl⟩) rfl (sp_X4_third_v v l σ t (by first | assumption | omega) (by first | assumption | omega) (by first | assumption | omega) (by first | assumption | omega)) ?_
  show mz_Wp shA none 15 (25, [some (.inr 1), some (.inr 10), some (.inl t)], [.inl ((tg l t).2.2), .inl ((tg l t).2.1), .inl ((tg l t).1), .inr 10], σ) _
  refine wp_calld (v := 0) (idx := 84) (j := 44) (N := mtX2_area) (as := [.inr 10, .inl ((tg l t).1), .inl ((tg l t).2.1), .inl ((tg l t).2.2)]) (rest := []) hM rfl (Or.inl ⟨rfl, rfl⟩) rfl (sp_X2_area_10_v v l w σ ((tg l t).1) ((tg l t).2.1) ((tg l t).2.2) (by first | assumption | omega) (by first | assumption | omega) (by first | assumption | omega) (by first | assumption | omega) (by first | assumption | omega) (by first | assumption | omega) (by first | assumption | omega) (by first | assumption | omega) (by first | assumption | omega)) ?_
  show mz_Wp shA none 15 (28, [some (.inr 1), some (.inr 10), some (.inl t)], [.inl (ar (wx v w (((tg l t).1))) (wy v w (((tg l t).1))) (wx v w (((tg l t).2.1))) (wy v w (((tg l t).2.1))) (wx v w (((tg l t).2.2))) (wy v w (((tg l t).2.2))))], σ) _
  refine wp_ret hM rfl (rfl) ?_
  exact ⟨rfl, rfl⟩

set_option maxRecDepth 100000 in
set_option maxHeartbeats 4000000 in
theorem sp_X1_bentTriangles (v : mz_G) (l : List tr3) (σ : mz_G) (t : Int) (h0 : CA σ v l) (h1 : Bs v l) (h2 : 0 ≤ t) (h3 : t ≤ 8) : mz_Cl shA 22 [.inr 1, .inl t] σ (fun r σ' => r = some (sumI (l.length : Int) (fun i => b01 (war v t (tg l i) ≤ 0))) ∧ Fw σ σ') := by
  have hM : mz_meth[22]? = some mtX1_bentTriangles := rfl
  obtain ⟨hR, hT, hLen⟩ := id h1
  obtain ⟨⟨hW0, hW1⟩, ⟨hH0, hH1⟩, ⟨hn0, hn1⟩, hpt⟩ := id hR
  obtain ⟨⟨hc1, hc2, hc3, hc4⟩, hcp, hct, hcv⟩ := id h0
  refine mz_Cl.of hM ?_
  show mz_Wp shA none 22 (0, [some (.inr 1), some (.inl t), none, none, none], [], σ) _
  refine wp_go 2 hM (fr' := (2, [some (.inr 1), some (.inl t), some (.inl 0), none, none], [], σ)) rfl ?_
  have loop2 : ∀ (fuel : Nat) (k : Int) (σ1 : mz_G) (d2_3 d2_4 : Option mz_V), (0 ≤ k) → (k ≤ v 0 2) → (WY σ1 v t k) → (Fw σ σ1) → ((v 0 2 - k : Int) < fuel) → mz_Wp shA none 22 (2, [some (.inr 1), some (.inl t), some (.inl k), d2_3, d2_4], [], σ1) (fun r σ' => r = some (sumI (l.length : Int) (fun i => b01 (war v t (tg l i) ≤ 0))) ∧ Fw σ σ') := by
    intro fuel
    induction fuel with
    | zero =>
      intro k σ1 d2_3 d2_4 hv2_0 hv2_1 hv2_2 hv2_3 hf2
      exfalso
      omega
    | succ fuel ih2 =>
      intro k σ1 d2_3 d2_4 hv2_0 hv2_1 hv2_2 hv2_3 hf2
      have hC1 := CA_Fw h0 hv2_3
      have hn_1 : σ1 1 7 = v 0 2 := hC1.1.2.2.1
      have hT_1 : σ1 11 1 = (l.length : Int) := hC1.1.2.2.2
      refine wp_go 3 hM (fr' := (7, [some (.inr 1), some (.inl t), some (.inl k), d2_3, d2_4], [.inl (σ1 1 7), .inl k], σ1)) rfl ?_
      refine wp_ic (tgt := 82) hM rfl (by decide) (by omega) (by omega) (fun c7 => ?_) (fun c7 => ?_)
      · replace c7 := cmp_ge_t c7
        have hWY : WY σ1 v t (v 0 2) := by rw [show v 0 2 = k from by omega]; exact hv2_2
        refine wp_go 4 hM (fr' := (86, [some (.inr 1), some (.inl t), some (.inl 0), some (.inl 0), d2_4], [], σ1)) rfl ?_
        have loop86 : ∀ (fuel : Nat) (f : Int) (u : Int), (0 ≤ u) → (u ≤ (l.length : Int)) → (f = sumI u (fun i => b01 (war v t (tg l i) ≤ 0))) → (((l.length : Int) - u : Int) < fuel) → mz_Wp shA none 22 (86, [some (.inr 1), some (.inl t), some (.inl f), some (.inl u), d2_4], [], σ1) (fun r σ' => r = some (sumI (l.length : Int) (fun i => b01 (war v t (tg l i) ≤ 0))) ∧ Fw σ σ') := by
          intro fuel
          induction fuel with
          | zero =>
            intro f u hv86_0 hv86_1 hv86_2 hf86
            exfalso
            omega
          | succ fuel ih86 =>
            intro f u hv86_0 hv86_1 hv86_2 hf86
            have hs : sumI (u + 1) (fun i => b01 (war v t (tg l i) ≤ 0)) = sumI u (fun i => b01 (war v t (tg l i) ≤ 0)) + b01 (war v t (tg l u) ≤ 0) := sumI_s hv86_0
            have hb := sumI_bd (a := 0) (b := 1) (f := (fun i => b01 (war v t (tg l i) ≤ 0))) hv86_0 (fun i _ _ => by rcases b01_01 (P := war v t (tg l i) ≤ 0) with q | q <;> omega)
            refine wp_go 4 hM (fr' := (94, [some (.inr 1), some (.inl t), some (.inl f), some (.inl u), d2_4], [.inl (σ1 11 1), .inl u], σ1)) rfl ?_
            refine wp_ic (tgt := 118) hM rfl (by decide) (by omega) (by omega) (fun c94 => ?_) (fun c94 => ?_)
            · replace c94 := cmp_ge_t c94
              refine wp_go 1 hM (fr' := (119, [some (.inr 1), some (.inl t), some (.inl f), some (.inl u), d2_4], [.inl f], σ1)) rfl ?_
              refine wp_ret hM rfl (rfl) ?_
              exact ⟨by rw [hv86_2, show u = (l.length : Int) from by omega], hv2_3⟩
            · replace c94 := cmp_ge_f c94
              have hwb := war_bd (t := t) hR ⟨h2, h3⟩ (Rt_at hT hv86_0 (show u < (l.length : Int) by omega))
              refine wp_go 4 hM (fr' := (103, [some (.inr 1), some (.inl t), some (.inl f), some (.inl u), d2_4], [.inl u, .inr 10, .inr 1], σ1)) rfl ?_
              refine wp_calld (v := 0) (idx := 107) (j := 15) (N := mtX1_areaOf) (as := [.inr 1, .inr 10, .inl u]) (rest := []) hM rfl (Or.inl ⟨rfl, rfl⟩) rfl (sp_X1_areaOf_10 v l t σ1 u (by first | assumption | omega) (by first | assumption | omega) (by first | assumption | omega) (by first | assumption | omega) (by first | assumption | omega)) ?_
              show mz_Wp shA none 22 (106, [some (.inr 1), some (.inl t), some (.inl f), some (.inl u), d2_4], [.inl (war v t (tg l u))], σ1) _
              refine wp_if (tgt := 112) hM rfl (by decide) (by omega) (fun c106 => ?_) (fun c106 => ?_)
              · replace c106 := cmp_gt_t c106
                refine wp_go 2 hM (fr' := (86, [some (.inr 1), some (.inl t), some (.inl f), some (.inl (u + 1)), d2_4], [], σ1)) rfl ?_
                exact ih86 f (u + 1) (by omega) (by omega) (by rw [hs]; first | (rw [b01_t c106]; omega) | (rw [b01_f (by omega)]; omega)) (by omega)
              · replace c106 := cmp_gt_f c106
                refine wp_go 3 hM (fr' := (86, [some (.inr 1), some (.inl t), some (.inl (f + 1)), some (.inl (u + 1)), d2_4], [], σ1)) rfl ?_
                exact ih86 (f + 1) (u + 1) (by omega) (by omega) (by rw [hs]; first | (rw [b01_t c106]; omega) | (rw [b01_f (by omega)]; omega)) (by omega)
        exact loop86 65 0 0 (by omega) (by omega) (by rfl) (by omega)
      · replace c7 := cmp_ge_f c7
        have hk := CA_pt hC1 hv2_0 (show k < v 0 2 by omega)
        refine wp_go 7 hM (fr' := (22, [some (.inr 1), some (.inl t), some (.inl k), d2_3, d2_4], [.inl k, .inr 16, .inl (8 - t)], σ1)) rfl ?_
        refine wp_al (n := 32) hM rfl (by decide) rfl (by omega) (by omega) ?_
        rw [hk.1]
        refine wp_go 6 hM (fr' := (33, [some (.inr 1), some (.inl t), some (.inl k), d2_3, d2_4], [.inl k, .inr 18, .inl t, .inl ((8 - t) * (gx v 0 k))], σ1)) rfl ?_
        refine wp_al (n := 32) hM rfl (by decide) rfl (by omega) (by omega) ?_
        rw [hk.2.2.1]
        refine wp_go 10 hM (fr' := (49, [some (.inr 1), some (.inl t), some (.inl k), some (.inl (((8 - t) * (gx v 0 k)) + (t * (gx v 1 k)))), d2_4], [.inl k, .inr 17, .inl (8 - t)], σ1)) rfl ?_
        refine wp_al (n := 32) hM rfl (by decide) rfl (by omega) (by omega) ?_
        rw [hk.2.1]
        refine wp_go 6 hM (fr' := (60, [some (.inr 1), some (.inl t), some (.inl k), some (.inl (((8 - t) * (gx v 0 k)) + (t * (gx v 1 k)))), d2_4], [.inl k, .inr 19, .inl t, .inl ((8 - t) * (gy v 0 k))], σ1)) rfl ?_
        refine wp_al (n := 32) hM rfl (by decide) rfl (by omega) (by omega) ?_
        rw [hk.2.2.2]
        refine wp_go 8 hM (fr' := (73, [some (.inr 1), some (.inl t), some (.inl k), some (.inl (((8 - t) * (gx v 0 k)) + (t * (gx v 1 k)))), some (.inl (((8 - t) * (gy v 0 k)) + (t * (gy v 1 k))))], [.inl (((8 - t) * (gy v 0 k)) + (t * (gy v 1 k))), .inl (((8 - t) * (gx v 0 k)) + (t * (gx v 1 k))), .inl k, .inr 10], σ1)) rfl ?_
        refine wp_calld (v := 0) (idx := 61) (j := 42) (N := mtX2_put) (as := [.inr 10, .inl k, .inl (((8 - t) * (gx v 0 k)) + (t * (gx v 1 k))), .inl (((8 - t) * (gy v 0 k)) + (t * (gy v 1 k)))]) (rest := []) hM rfl (Or.inl ⟨rfl, rfl⟩) rfl (sp_X2_put_10  σ1 k (((8 - t) * (gx v 0 k)) + (t * (gx v 1 k))) (((8 - t) * (gy v 0 k)) + (t * (gy v 1 k))) (by first | assumption | omega) (by first | assumption | omega)) ?_
        show mz_Wp shA none 22 (76, [some (.inr 1), some (.inl t), some (.inl k), some (.inl (((8 - t) * (gx v 0 k)) + (t * (gx v 1 k)))), some (.inl (((8 - t) * (gy v 0 k)) + (t * (gy v 1 k))))], [], (mz_up (mz_up σ1 20 (k).toNat (((8 - t) * (gx v 0 k)) + (t * (gx v 1 k)))) 21 (k).toNat (((8 - t) * (gy v 0 k)) + (t * (gy v 1 k))))) _
        refine wp_go 2 hM (fr' := (2, [some (.inr 1), some (.inl t), some (.inl (k + 1)), some (.inl (((8 - t) * (gx v 0 k)) + (t * (gx v 1 k)))), some (.inl (((8 - t) * (gy v 0 k)) + (t * (gy v 1 k))))], [], (mz_up (mz_up σ1 20 (k).toNat (((8 - t) * (gx v 0 k)) + (t * (gx v 1 k)))) 21 (k).toNat (((8 - t) * (gy v 0 k)) + (t * (gy v 1 k)))))) rfl ?_
        exact ih2 (k + 1) (mz_up (mz_up σ1 20 (k).toNat (((8 - t) * (gx v 0 k)) + (t * (gx v 1 k)))) 21 (k).toNat (((8 - t) * (gy v 0 k)) + (t * (gy v 1 k)))) (some (.inl (((8 - t) * (gx v 0 k)) + (t * (gx v 1 k))))) (some (.inl (((8 - t) * (gy v 0 k)) + (t * (gy v 1 k))))) (by omega) (by omega) (by exact WY_s hv2_2 hv2_0) (by exact fun c i a b => by rw [up_ne b, up_ne a]; exact hv2_3 c i a b) (by omega)
  exact loop2 33 0 σ (none) (none) (by omega) (by omega) (by exact fun k hk => by omega) (by exact fun _ _ _ _ => rfl) (by omega)

set_option maxRecDepth 100000 in
set_option maxHeartbeats 4000000 in
theorem sp_X5_divisorOf  (σ : mz_G) (a : Int) (b : Int) (h0 : 0 ≤ a) (h1 : a ≤ 2147483647) (h2 : 0 ≤ b) (h3 : b ≤ 2147483647) : mz_Cl shA 101 [.inl a, .inl b] σ (fun r σ' => r = some (Int.gcd a b : Int) ∧ σ' = σ) := by
  have hM : mz_meth[101]? = some mtX5_divisorOf := rfl
  refine mz_Cl.of hM ?_
  show mz_Wp shA none 101 (0, [some (.inl a), some (.inl b), none, none, none, none], [], σ) _
  refine wp_go 6 hM (fr' := (7, [some (.inl a), some (.inl b), some (.inl a), some (.inl b), some (.inl 0), none], [], σ)) rfl ?_
  have loop7 : ∀ (fuel : Nat) (x : Int) (y : Int) (i : Int) (d7_5 : Option mz_V), (0 ≤ i) → (i ≤ 64) → (0 ≤ x ∧ x ≤ 2147483647) → (0 ≤ y ∧ y ≤ 2147483647) → (Int.gcd x y = Int.gcd a b) → (DvP i x y) → ((64 - i : Int) < fuel) → mz_Wp shA none 101 (7, [some (.inl a), some (.inl b), some (.inl x), some (.inl y), some (.inl i), d7_5], [], σ) (fun r σ' => r = some (Int.gcd a b : Int) ∧ σ' = σ) := by
    intro fuel
    induction fuel with
    | zero =>
      intro x y i d7_5 hv7_0 hv7_1 hv7_2 hv7_3 hv7_4 hv7_5 hf7
      exfalso
      omega
    | succ fuel ih7 =>
      intro x y i d7_5 hv7_0 hv7_1 hv7_2 hv7_3 hv7_4 hv7_5 hf7
      refine wp_go 2 hM (fr' := (11, [some (.inl a), some (.inl b), some (.inl x), some (.inl y), some (.inl i), d7_5], [.inl 64, .inl i], σ)) rfl ?_
      refine wp_ic (tgt := 34) hM rfl (by decide) (by omega) (by omega) (fun c11 => ?_) (fun c11 => ?_)
      · replace c11 := cmp_ge_t c11
        refine wp_go 1 hM (fr' := (35, [some (.inl a), some (.inl b), some (.inl x), some (.inl y), some (.inl i), d7_5], [.inl x], σ)) rfl ?_
        refine wp_ret hM rfl (rfl) ?_
        first | exact ⟨by rw [← hv7_4, c15, gcd_x0 hv7_2.1], rfl⟩ | exact ⟨by rw [← hv7_4, DvP_end (by rw [show i = 64 from by omega] at hv7_5; exact hv7_5) hv7_2.1 hv7_3.1, gcd_x0 hv7_2.1], rfl⟩
      · replace c11 := cmp_ge_f c11
        refine wp_go 1 hM (fr' := (15, [some (.inl a), some (.inl b), some (.inl x), some (.inl y), some (.inl i), d7_5], [.inl y], σ)) rfl ?_
        refine wp_if (tgt := 34) hM rfl (by decide) (by omega) (fun c15 => ?_) (fun c15 => ?_)
        · replace c15 := cmp_eq_t c15
          refine wp_go 1 hM (fr' := (35, [some (.inl a), some (.inl b), some (.inl x), some (.inl y), some (.inl i), d7_5], [.inl x], σ)) rfl ?_
          refine wp_ret hM rfl (rfl) ?_
          first | exact ⟨by rw [← hv7_4, c15, gcd_x0 hv7_2.1], rfl⟩ | exact ⟨by rw [← hv7_4, DvP_end (by rw [show i = 64 from by omega] at hv7_5; exact hv7_5) hv7_2.1 hv7_3.1, gcd_x0 hv7_2.1], rfl⟩
        · replace c15 := cmp_eq_f c15
          have htm := tmod_nn hv7_2.1 (show 0 < y by omega)
          refine wp_go 2 hM (fr' := (20, [some (.inl a), some (.inl b), some (.inl x), some (.inl y), some (.inl i), d7_5], [.inl y, .inl x], σ)) rfl ?_
          refine wp_rem hM rfl (by omega) (by omega) (by omega) ?_
          refine wp_go 7 hM (fr' := (7, [some (.inl a), some (.inl b), some (.inl y), some (.inl (x.tmod y)), some (.inl (i + 1)), some (.inl (x.tmod y))], [], σ)) rfl ?_
          exact ih7 y (x.tmod y) (i + 1) (some (.inl (x.tmod y))) (by omega) (by omega) (by omega) (by omega) (by rw [gcd_step]; exact hv7_4) (by exact DvP_s hv7_5 hv7_0 (by omega) hv7_2 ⟨by omega, hv7_3.2⟩) (by omega)
  exact loop7 70 a b 0 (none) (by omega) (by omega) (by omega) (by omega) (by rfl) (by exact Or.inl rfl) (by omega)

set_option maxRecDepth 100000 in
set_option maxHeartbeats 4000000 in
theorem sp_X5_shortened  (σ : mz_G) (a : Int) (d : Int) (h0 : mz_R a) (h1 : mz_R d) : mz_Cl shA 102 [.inl a, .inl d] σ (fun r σ' => r = some (shq a d) ∧ σ' = σ) := by
  have hM : mz_meth[102]? = some mtX5_shortened := rfl
  refine mz_Cl.of hM ?_
  show mz_Wp shA none 102 (0, [some (.inl a), some (.inl d)], [], σ) _
  refine wp_go 2 hM (fr' := (2, [some (.inl a), some (.inl d)], [.inl 1, .inl d], σ)) rfl ?_
  refine wp_ic (tgt := 11) hM rfl (by decide) (by omega) (by omega) (fun c2 => ?_) (fun c2 => ?_)
  · replace c2 := cmp_le_t c2
    refine wp_go 1 hM (fr' := (12, [some (.inl a), some (.inl d)], [.inl a], σ)) rfl ?_
    refine wp_ret hM rfl (rfl) ?_
    exact ⟨by unfold shq; first | rw [if_pos (by omega)] | rw [if_neg (by omega)], rfl⟩
  · replace c2 := cmp_le_f c2
    refine wp_go 2 hM (fr' := (7, [some (.inl a), some (.inl d)], [.inl d, .inl a], σ)) rfl ?_
    refine wp_div hM rfl (by omega) (by omega) (by omega) ?_
    refine wp_go 1 hM (fr' := (12, [some (.inl a), some (.inl d)], [.inl (a.tdiv d)], σ)) rfl ?_
    refine wp_ret hM rfl (rfl) ?_
    exact ⟨by unfold shq; first | rw [if_pos (by omega)] | rw [if_neg (by omega)], rfl⟩

set_option maxRecDepth 100000 in
set_option maxHeartbeats 4000000 in
theorem sp_X5_rounded  (σ : mz_G) (a : Int) (b : Int) (h0 : 0 ≤ a) (h1 : a ≤ 1000000) (h2 : mz_R b) : mz_Cl shA 100 [.inl a, .inl b] σ (fun r σ' => r = some (rnd a b) ∧ σ' = σ) := by
  have hM : mz_meth[100]? = some mtX5_rounded := rfl
  refine mz_Cl.of hM ?_
  show mz_Wp shA none 100 (0, [some (.inl a), some (.inl b), none, none], [], σ) _
  refine wp_go 1 hM (fr' := (1, [some (.inl a), some (.inl b), none, none], [.inl b], σ)) rfl ?_
  refine wp_if (tgt := 6) hM rfl (by decide) (by omega) (fun c1 => ?_) (fun c1 => ?_)
  · replace c1 := cmp_gt_t c1
    have htm := tmod_nn h0 (show 0 < b by omega)
    refine wp_go 2 hM (fr' := (8, [some (.inl a), some (.inl b), none, none], [.inl b, .inl a], σ)) rfl ?_
    refine wp_div hM rfl (by omega) (by omega) (by omega) ?_
    refine wp_go 3 hM (fr' := (12, [some (.inl a), some (.inl b), some (.inl (a.tdiv b)), none], [.inl b, .inl a], σ)) rfl ?_
    refine wp_rem hM rfl (by omega) (by omega) (by omega) ?_
    refine wp_go 5 hM (fr' := (18, [some (.inl a), some (.inl b), some (.inl (a.tdiv b)), some (.inl (a.tmod b))], [.inl b, .inl (2 * (a.tmod b))], σ)) rfl ?_
    refine wp_ic (tgt := 27) hM rfl (by decide) (by omega) (by omega) (fun c18 => ?_) (fun c18 => ?_)
    · replace c18 := cmp_le_t c18
      refine wp_go 1 hM (fr' := (28, [some (.inl a), some (.inl b), some (.inl (a.tdiv b)), some (.inl (a.tmod b))], [.inl (a.tdiv b)], σ)) rfl ?_
      refine wp_ret hM rfl (rfl) ?_
      exact ⟨by unfold rnd; rw [if_neg (by omega)]; first | rw [if_pos (by omega)] | rw [if_neg (by omega)], rfl⟩
    · replace c18 := cmp_le_f c18
      refine wp_go 4 hM (fr' := (28, [some (.inl a), some (.inl b), some (.inl (a.tdiv b)), some (.inl (a.tmod b))], [.inl ((a.tdiv b) + 1)], σ)) rfl ?_
      refine wp_ret hM rfl (rfl) ?_
      exact ⟨by unfold rnd; rw [if_neg (by omega)]; first | rw [if_pos (by omega)] | rw [if_neg (by omega)], rfl⟩
  · replace c1 := cmp_gt_f c1
    refine wp_go 1 hM (fr' := (5, [some (.inl a), some (.inl b), none, none], [.inl 0], σ)) rfl ?_
    refine wp_ret hM rfl (rfl) ?_
    exact ⟨by unfold rnd; rw [if_pos (by omega)], rfl⟩

set_option maxRecDepth 100000 in
set_option maxHeartbeats 4000000 in
theorem sp_X3_measure_8 (v : mz_G) (l : List tr3) (σ : mz_G) (t : Int) (x : Int) (y : Int) (h0 : CA σ v l) (h1 : Bs v l) (h2 : 0 ≤ t) (h3 : t < (l.length : Int)) (h4 : dot v x y) : mz_Cl shA 48 [.inr 3, .inr 1, .inr 8, .inl t, .inl x, .inl y] σ (fun r σ' => r = none ∧ σ' = (mz_up (mz_up (mz_up (mz_up (mz_up σ 3 0 t) 3 1 (sh0 v 0 (tg l t) x y)) 3 2 (sh1 v 0 (tg l t) x y)) 3 3 (sh2 v 0 (tg l t) x y)) 3 4 (sh0 v 0 (tg l t) x y + sh1 v 0 (tg l t) x y + sh2 v 0 (tg l t) x y))) := by
  have hM : mz_meth[48]? = some mtX3_measure := rfl
  obtain ⟨hR, hT, hLen⟩ := id h1
  obtain ⟨⟨hW0, hW1⟩, ⟨hH0, hH1⟩, ⟨hn0, hn1⟩, hpt⟩ := id hR
  obtain ⟨⟨hc1, hc2, hc3, hc4⟩, hcp, hct, hcv⟩ := id h0
  have ht := Rt_at hT h2 h3
  refine mz_Cl.of hM ?_
  show mz_Wp shA none 48 (0, [some (.inr 3), some (.inr 1), some (.inr 8), some (.inl t), some (.inl x), some (.inl y), none, none, none], [], σ) _
  refine wp_go 3 hM (fr' := (5, [some (.inr 3), some (.inr 1), some (.inr 8), some (.inl t), some (.inl x), some (.inl y), none, none, none], [.inl t, .inr 11], σ)) rfl ?_
  refine wp_calld (v := 0) (idx := 42) (j := 53) (N := mtX4_isOne) (as := [.inr 11, .inl t]) (rest := []) hM rfl (Or.inl ⟨rfl, rfl⟩) rfl (sp_X4_isOne  σ t (by first | assumption | omega) (by first | assumption | omega)) ?_
  show mz_Wp shA none 48 (8, [some (.inr 3), some (.inr 1), some (.inr 8), some (.inl t), some (.inl x), some (.inl y), none, none, none], [.inl (b01 (0 ≤ t ∧ t < σ 11 1))], σ) _
  refine wp_if (tgt := 12) hM rfl (by decide) b01_R (fun c8 => ?_) (fun c8 => ?_)
  · replace c8 := b01_ne0 (cmp_ne_t c8)
    refine wp_go 6 hM (fr' := (22, [some (.inr 3), some (.inr 1), some (.inr 8), some (.inl t), some (.inl x), some (.inl y), none, none, none], [.inl t, .inr 11], (mz_up σ 3 0 t))) rfl ?_
    refine wp_calld (v := 0) (idx := 48) (j := 54) (N := mtX4_first) (as := [.inr 11, .inl t]) (rest := []) hM rfl (Or.inl ⟨rfl, rfl⟩) rfl (sp_X4_first_v v l (mz_up σ 3 0 t) t (by first | assumption | omega | (repeat first | assumption | refine CA_up ?_ _ _ _ (by omega))) (by first | assumption | omega | (repeat first | assumption | refine CA_up ?_ _ _ _ (by omega))) (by first | assumption | omega | (repeat first | assumption | refine CA_up ?_ _ _ _ (by omega))) (by first | assumption | omega | (repeat first | assumption | refine CA_up ?_ _ _ _ (by omega)))) ?_
    show mz_Wp shA none 48 (25, [some (.inr 3), some (.inr 1), some (.inr 8), some (.inl t), some (.inl x), some (.inl y), none, none, none], [.inl ((tg l t).1)], (mz_up σ 3 0 t)) _
    refine wp_go 4 hM (fr' := (32, [some (.inr 3), some (.inr 1), some (.inr 8), some (.inl t), some (.inl x), some (.inl y), some (.inl ((tg l t).1)), none, none], [.inl t, .inr 11], (mz_up σ 3 0 t))) rfl ?_
    refine wp_calld (v := 0) (idx := 51) (j := 55) (N := mtX4_second) (as := [.inr 11, .inl t]) (rest := []) hM rfl (Or.inl ⟨rfl, rfl⟩) rfl (sp_X4_second_v v l (mz_up σ 3 0 t) t (by first | assumption | omega | (repeat first | assumption | refine CA_up ?_ _ _ _ (by omega))) (by first | assumption | omega | (repeat first | assumption | refine CA_up ?_ _ _ _ (by omega))) (by first | assumption | omega | (repeat first | assumption | refine CA_up ?_ _ _ _ (by omega))) (by first | assumption | omega | (repeat first | assumption | refine CA_up ?_ _ _ _ (by omega)))) ?_
    show mz_Wp shA none 48 (35, [some (.inr 3), some (.inr 1), some (.inr 8), some (.inl t), some (.inl x), some (.inl y), some (.inl ((tg l t).1)), none, none], [.inl ((tg l t).2.1)], (mz_up σ 3 0 t)) _
    refine wp_go 4 hM (fr' := (42, [some (.inr 3), some (.inr 1), some (.inr 8), some (.inl t), some (.inl x), some (.inl y), some (.inl ((tg l t).1)), some (.inl ((tg l t).2.1)), none], [.inl t, .inr 11], (mz_up σ 3 0 t))) rfl ?_
    refine wp_calld (v := 0) (idx := 53) (j := 56) (N := mtX4_third) (as := [.inr 11, .inl t]) (rest := []) hM rfl (Or.inl ⟨rfl, rfl⟩) rfl (sp_X4_third_v v l (mz_up σ 3 0 t) t (by first | assumption | omega | (repeat first | assumption | refine CA_up ?_ _ _ _ (by omega))) (by first | assumption | omega | (repeat first | assumption | refine CA_up ?_ _ _ _ (by omega))) (by first | assumption | omega | (repeat first | assumption | refine CA_up ?_ _ _ _ (by omega))) (by first | assumption | omega | (repeat first | assumption | refine CA_up ?_ _ _ _ (by omega)))) ?_
    show mz_Wp shA none 48 (45, [some (.inr 3), some (.inr 1), some (.inr 8), some (.inl t), some (.inl x), some (.inl y), some (.inl ((tg l t).1)), some (.inl ((tg l t).2.1)), none], [.inl ((tg l t).2.2)], (mz_up σ 3 0 t)) _
    refine wp_go 7 hM (fr' := (57, [some (.inr 3), some (.inr 1), some (.inr 8), some (.inl t), some (.inl x), some (.inl y), some (.inl ((tg l t).1)), some (.inl ((tg l t).2.1)), some (.inl ((tg l t).2.2))], [.inl ((tg l t).2.2), .inl ((tg l t).2.1), .inl y, .inl x, .inr 8, .inr 3], (mz_up σ 3 0 t))) rfl ?_
    refine wp_calld (v := 0) (idx := 55) (j := 45) (N := mtX2_areaWith) (as := [.inr 8, .inl x, .inl y, .inl ((tg l t).2.1), .inl ((tg l t).2.2)]) (rest := [.inr 3]) hM rfl (Or.inl ⟨rfl, rfl⟩) rfl (sp_X2_areaWith_8_v v l (mz_up σ 3 0 t) x y ((tg l t).2.1) ((tg l t).2.2) (by first | assumption | omega | (repeat first | assumption | refine CA_up ?_ _ _ _ (by omega))) (by first | assumption | omega | (repeat first | assumption | refine CA_up ?_ _ _ _ (by omega))) (by first | assumption | omega | (repeat first | assumption | refine CA_up ?_ _ _ _ (by omega))) (by first | assumption | omega | (repeat first | assumption | refine CA_up ?_ _ _ _ (by omega))) (by first | assumption | omega | (repeat first | assumption | refine CA_up ?_ _ _ _ (by omega))) (by first | assumption | omega | (repeat first | assumption | refine CA_up ?_ _ _ _ (by omega)))) ?_
    show mz_Wp shA none 48 (60, [some (.inr 3), some (.inr 1), some (.inr 8), some (.inl t), some (.inl x), some (.inl y), some (.inl ((tg l t).1)), some (.inl ((tg l t).2.1)), some (.inl ((tg l t).2.2))], [.inl (ar (x) (y) (gx v 0 (((tg l t).2.1))) (gy v 0 (((tg l t).2.1))) (gx v 0 (((tg l t).2.2))) (gy v 0 (((tg l t).2.2)))), .inr 3], (mz_up σ 3 0 t)) _
    refine wp_go 7 hM (fr' := (73, [some (.inr 3), some (.inr 1), some (.inr 8), some (.inl t), some (.inl x), some (.inl y), some (.inl ((tg l t).1)), some (.inl ((tg l t).2.1)), some (.inl ((tg l t).2.2))], [.inl ((tg l t).1), .inl ((tg l t).2.2), .inl y, .inl x, .inr 8, .inr 3], (mz_up (mz_up σ 3 0 t) 3 1 (ar (x) (y) (gx v 0 (((tg l t).2.1))) (gy v 0 (((tg l t).2.1))) (gx v 0 (((tg l t).2.2))) (gy v 0 (((tg l t).2.2))))))) rfl ?_
    refine wp_calld (v := 0) (idx := 55) (j := 45) (N := mtX2_areaWith) (as := [.inr 8, .inl x, .inl y, .inl ((tg l t).2.2), .inl ((tg l t).1)]) (rest := [.inr 3]) hM rfl (Or.inl ⟨rfl, rfl⟩) rfl (sp_X2_areaWith_8_v v l (mz_up (mz_up σ 3 0 t) 3 1 (ar (x) (y) (gx v 0 (((tg l t).2.1))) (gy v 0 (((tg l t).2.1))) (gx v 0 (((tg l t).2.2))) (gy v 0 (((tg l t).2.2))))) x y ((tg l t).2.2) ((tg l t).1) (by first | assumption | omega | (repeat first | assumption | refine CA_up ?_ _ _ _ (by omega))) (by first | assumption | omega | (repeat first | assumption | refine CA_up ?_ _ _ _ (by omega))) (by first | assumption | omega | (repeat first | assumption | refine CA_up ?_ _ _ _ (by omega))) (by first | assumption | omega | (repeat first | assumption | refine CA_up ?_ _ _ _ (by omega))) (by first | assumption | omega | (repeat first | assumption | refine CA_up ?_ _ _ _ (by omega))) (by first | assumption | omega | (repeat first | assumption | refine CA_up ?_ _ _ _ (by omega)))) ?_
    show mz_Wp shA none 48 (76, [some (.inr 3), some (.inr 1), some (.inr 8), some (.inl t), some (.inl x), some (.inl y), some (.inl ((tg l t).1)), some (.inl ((tg l t).2.1)), some (.inl ((tg l t).2.2))], [.inl (ar (x) (y) (gx v 0 (((tg l t).2.2))) (gy v 0 (((tg l t).2.2))) (gx v 0 (((tg l t).1))) (gy v 0 (((tg l t).1)))), .inr 3], (mz_up (mz_up σ 3 0 t) 3 1 (ar (x) (y) (gx v 0 (((tg l t).2.1))) (gy v 0 (((tg l t).2.1))) (gx v 0 (((tg l t).2.2))) (gy v 0 (((tg l t).2.2)))))) _
    refine wp_go 7 hM (fr' := (89, [some (.inr 3), some (.inr 1), some (.inr 8), some (.inl t), some (.inl x), some (.inl y), some (.inl ((tg l t).1)), some (.inl ((tg l t).2.1)), some (.inl ((tg l t).2.2))], [.inl ((tg l t).2.1), .inl ((tg l t).1), .inl y, .inl x, .inr 8, .inr 3], (mz_up (mz_up (mz_up σ 3 0 t) 3 1 (ar (x) (y) (gx v 0 (((tg l t).2.1))) (gy v 0 (((tg l t).2.1))) (gx v 0 (((tg l t).2.2))) (gy v 0 (((tg l t).2.2))))) 3 2 (ar (x) (y) (gx v 0 (((tg l t).2.2))) (gy v 0 (((tg l t).2.2))) (gx v 0 (((tg l t).1))) (gy v 0 (((tg l t).1))))))) rfl ?_
    refine wp_calld (v := 0) (idx := 55) (j := 45) (N := mtX2_areaWith) (as := [.inr 8, .inl x, .inl y, .inl ((tg l t).1), .inl ((tg l t).2.1)]) (rest := [.inr 3]) hM rfl (Or.inl ⟨rfl, rfl⟩) rfl (sp_X2_areaWith_8_v v l (mz_up (mz_up (mz_up σ 3 0 t) 3 1 (ar (x) (y) (gx v 0 (((tg l t).2.1))) (gy v 0 (((tg l t).2.1))) (gx v 0 (((tg l t).2.2))) (gy v 0 (((tg l t).2.2))))) 3 2 (ar (x) (y) (gx v 0 (((tg l t).2.2))) (gy v 0 (((tg l t).2.2))) (gx v 0 (((tg l t).1))) (gy v 0 (((tg l t).1))))) x y ((tg l t).1) ((tg l t).2.1) (by first | assumption | omega | (repeat first | assumption | refine CA_up ?_ _ _ _ (by omega))) (by first | assumption | omega | (repeat first | assumption | refine CA_up ?_ _ _ _ (by omega))) (by first | assumption | omega | (repeat first | assumption | refine CA_up ?_ _ _ _ (by omega))) (by first | assumption | omega | (repeat first | assumption | refine CA_up ?_ _ _ _ (by omega))) (by first | assumption | omega | (repeat first | assumption | refine CA_up ?_ _ _ _ (by omega))) (by first | assumption | omega | (repeat first | assumption | refine CA_up ?_ _ _ _ (by omega)))) ?_
    show mz_Wp shA none 48 (92, [some (.inr 3), some (.inr 1), some (.inr 8), some (.inl t), some (.inl x), some (.inl y), some (.inl ((tg l t).1)), some (.inl ((tg l t).2.1)), some (.inl ((tg l t).2.2))], [.inl (ar (x) (y) (gx v 0 (((tg l t).1))) (gy v 0 (((tg l t).1))) (gx v 0 (((tg l t).2.1))) (gy v 0 (((tg l t).2.1)))), .inr 3], (mz_up (mz_up (mz_up σ 3 0 t) 3 1 (ar (x) (y) (gx v 0 (((tg l t).2.1))) (gy v 0 (((tg l t).2.1))) (gx v 0 (((tg l t).2.2))) (gy v 0 (((tg l t).2.2))))) 3 2 (ar (x) (y) (gx v 0 (((tg l t).2.2))) (gy v 0 (((tg l t).2.2))) (gx v 0 (((tg l t).1))) (gy v 0 (((tg l t).1)))))) _
    refine wp_go 11 hM (fr' := (113, [some (.inr 3), some (.inr 1), some (.inr 8), some (.inl t), some (.inl x), some (.inl y), some (.inl ((tg l t).1)), some (.inl ((tg l t).2.1)), some (.inl ((tg l t).2.2))], [], (mz_up (mz_up (mz_up (mz_up (mz_up σ 3 0 t) 3 1 (ar (x) (y) (gx v 0 (((tg l t).2.1))) (gy v 0 (((tg l t).2.1))) (gx v 0 (((tg l t).2.2))) (gy v 0 (((tg l t).2.2))))) 3 2 (ar (x) (y) (gx v 0 (((tg l t).2.2))) (gy v 0 (((tg l t).2.2))) (gx v 0 (((tg l t).1))) (gy v 0 (((tg l t).1))))) 3 3 (ar (x) (y) (gx v 0 (((tg l t).1))) (gy v 0 (((tg l t).1))) (gx v 0 (((tg l t).2.1))) (gy v 0 (((tg l t).2.1))))) 3 4 (((ar (x) (y) (gx v 0 (((tg l t).2.1))) (gy v 0 (((tg l t).2.1))) (gx v 0 (((tg l t).2.2))) (gy v 0 (((tg l t).2.2)))) + (ar (x) (y) (gx v 0 (((tg l t).2.2))) (gy v 0 (((tg l t).2.2))) (gx v 0 (((tg l t).1))) (gy v 0 (((tg l t).1))))) + (ar (x) (y) (gx v 0 (((tg l t).1))) (gy v 0 (((tg l t).1))) (gx v 0 (((tg l t).2.1))) (gy v 0 (((tg l t).2.1)))))))) rfl ?_
    refine wp_retv hM rfl rfl ?_
    exact ⟨rfl, rfl⟩
  · replace c8 := b01_eq0 (cmp_ne_f c8)
    omega

set_option maxRecDepth 100000 in
set_option maxHeartbeats 4000000 in
theorem sp_X3_measure_9 (v : mz_G) (l : List tr3) (σ : mz_G) (t : Int) (x : Int) (y : Int) (h0 : CA σ v l) (h1 : Bs v l) (h2 : 0 ≤ t) (h3 : t < (l.length : Int)) (h4 : dot v x y) : mz_Cl shA 48 [.inr 3, .inr 1, .inr 9, .inl t, .inl x, .inl y] σ (fun r σ' => r = none ∧ σ' = (mz_up (mz_up (mz_up (mz_up (mz_up σ 3 0 t) 3 1 (sh0 v 1 (tg l t) x y)) 3 2 (sh1 v 1 (tg l t) x y)) 3 3 (sh2 v 1 (tg l t) x y)) 3 4 (sh0 v 1 (tg l t) x y + sh1 v 1 (tg l t) x y + sh2 v 1 (tg l t) x y))) := by
  have hM : mz_meth[48]? = some mtX3_measure := rfl
  obtain ⟨hR, hT, hLen⟩ := id h1
  obtain ⟨⟨hW0, hW1⟩, ⟨hH0, hH1⟩, ⟨hn0, hn1⟩, hpt⟩ := id hR
  obtain ⟨⟨hc1, hc2, hc3, hc4⟩, hcp, hct, hcv⟩ := id h0
  have ht := Rt_at hT h2 h3
  refine mz_Cl.of hM ?_
  show mz_Wp shA none 48 (0, [some (.inr 3), some (.inr 1), some (.inr 9), some (.inl t), some (.inl x), some (.inl y), none, none, none], [], σ) _
  refine wp_go 3 hM (fr' := (5, [some (.inr 3), some (.inr 1), some (.inr 9), some (.inl t), some (.inl x), some (.inl y), none, none, none], [.inl t, .inr 11], σ)) rfl ?_
  refine wp_calld (v := 0) (idx := 42) (j := 53) (N := mtX4_isOne) (as := [.inr 11, .inl t]) (rest := []) hM rfl (Or.inl ⟨rfl, rfl⟩) rfl (sp_X4_isOne  σ t (by first | assumption | omega) (by first | assumption | omega)) ?_
  show mz_Wp shA none 48 (8, [some (.inr 3), some (.inr 1), some (.inr 9), some (.inl t), some (.inl x), some (.inl y), none, none, none], [.inl (b01 (0 ≤ t ∧ t < σ 11 1))], σ) _
  refine wp_if (tgt := 12) hM rfl (by decide) b01_R (fun c8 => ?_) (fun c8 => ?_)
  · replace c8 := b01_ne0 (cmp_ne_t c8)
    refine wp_go 6 hM (fr' := (22, [some (.inr 3), some (.inr 1), some (.inr 9), some (.inl t), some (.inl x), some (.inl y), none, none, none], [.inl t, .inr 11], (mz_up σ 3 0 t))) rfl ?_
    refine wp_calld (v := 0) (idx := 48) (j := 54) (N := mtX4_first) (as := [.inr 11, .inl t]) (rest := []) hM rfl (Or.inl ⟨rfl, rfl⟩) rfl (sp_X4_first_v v l (mz_up σ 3 0 t) t (by first | assumption | omega | (repeat first | assumption | refine CA_up ?_ _ _ _ (by omega))) (by first | assumption | omega | (repeat first | assumption | refine CA_up ?_ _ _ _ (by omega))) (by first | assumption | omega | (repeat first | assumption | refine CA_up ?_ _ _ _ (by omega))) (by first | assumption | omega | (repeat first | assumption | refine CA_up ?_ _ _ _ (by omega)))) ?_
    show mz_Wp shA none 48 (25, [some (.inr 3), some (.inr 1), some (.inr 9), some (.inl t), some (.inl x), some (.inl y), none, none, none], [.inl ((tg l t).1)], (mz_up σ 3 0 t)) _
    refine wp_go 4 hM (fr' := (32, [some (.inr 3), some (.inr 1), some (.inr 9), some (.inl t), some (.inl x), some (.inl y), some (.inl ((tg l t).1)), none, none], [.inl t, .inr 11], (mz_up σ 3 0 t))) rfl ?_
    refine wp_calld (v := 0) (idx := 51) (j := 55) (N := mtX4_second) (as := [.inr 11, .inl t]) (rest := []) hM rfl (Or.inl ⟨rfl, rfl⟩) rfl (sp_X4_second_v v l (mz_up σ 3 0 t) t (by first | assumption | omega | (repeat first | assumption | refine CA_up ?_ _ _ _ (by omega))) (by first | assumption | omega | (repeat first | assumption | refine CA_up ?_ _ _ _ (by omega))) (by first | assumption | omega | (repeat first | assumption | refine CA_up ?_ _ _ _ (by omega))) (by first | assumption | omega | (repeat first | assumption | refine CA_up ?_ _ _ _ (by omega)))) ?_
    show mz_Wp shA none 48 (35, [some (.inr 3), some (.inr 1), some (.inr 9), some (.inl t), some (.inl x), some (.inl y), some (.inl ((tg l t).1)), none, none], [.inl ((tg l t).2.1)], (mz_up σ 3 0 t)) _
    refine wp_go 4 hM (fr' := (42, [some (.inr 3), some (.inr 1), some (.inr 9), some (.inl t), some (.inl x), some (.inl y), some (.inl ((tg l t).1)), some (.inl ((tg l t).2.1)), none], [.inl t, .inr 11], (mz_up σ 3 0 t))) rfl ?_
    refine wp_calld (v := 0) (idx := 53) (j := 56) (N := mtX4_third) (as := [.inr 11, .inl t]) (rest := []) hM rfl (Or.inl ⟨rfl, rfl⟩) rfl (sp_X4_third_v v l (mz_up σ 3 0 t) t (by first | assumption | omega | (repeat first | assumption | refine CA_up ?_ _ _ _ (by omega))) (by first | assumption | omega | (repeat first | assumption | refine CA_up ?_ _ _ _ (by omega))) (by first | assumption | omega | (repeat first | assumption | refine CA_up ?_ _ _ _ (by omega))) (by first | assumption | omega | (repeat first | assumption | refine CA_up ?_ _ _ _ (by omega)))) ?_
    show mz_Wp shA none 48 (45, [some (.inr 3), some (.inr 1), some (.inr 9), some (.inl t), some (.inl x), some (.inl y), some (.inl ((tg l t).1)), some (.inl ((tg l t).2.1)), none], [.inl ((tg l t).2.2)], (mz_up σ 3 0 t)) _
    refine wp_go 7 hM (fr' := (57, [some (.inr 3), some (.inr 1), some (.inr 9), some (.inl t), some (.inl x), some (.inl y), some (.inl ((tg l t).1)), some (.inl ((tg l t).2.1)), some (.inl ((tg l t).2.2))], [.inl ((tg l t).2.2), .inl ((tg l t).2.1), .inl y, .inl x, .inr 9, .inr 3], (mz_up σ 3 0 t))) rfl ?_
    refine wp_calld (v := 0) (idx := 55) (j := 45) (N := mtX2_areaWith) (as := [.inr 9, .inl x, .inl y, .inl ((tg l t).2.1), .inl ((tg l t).2.2)]) (rest := [.inr 3]) hM rfl (Or.inl ⟨rfl, rfl⟩) rfl (sp_X2_areaWith_9_v v l (mz_up σ 3 0 t) x y ((tg l t).2.1) ((tg l t).2.2) (by first | assumption | omega | (repeat first | assumption | refine CA_up ?_ _ _ _ (by omega))) (by first | assumption | omega | (repeat first | assumption | refine CA_up ?_ _ _ _ (by omega))) (by first | assumption | omega | (repeat first | assumption | refine CA_up ?_ _ _ _ (by omega))) (by first | assumption | omega | (repeat first | assumption | refine CA_up ?_ _ _ _ (by omega))) (by first | assumption | omega | (repeat first | assumption | refine CA_up ?_ _ _ _ (by omega))) (by first | assumption | omega | (repeat first | assumption | refine CA_up ?_ _ _ _ (by omega)))) ?_
    show mz_Wp shA none 48 (60, [some (.inr 3), some (.inr 1), some (.inr 9), some (.inl t), some (.inl x), some (.inl y), some (.inl ((tg l t).1)), some (.inl ((tg l t).2.1)), some (.inl ((tg l t).2.2))], [.inl (ar (x) (y) (gx v 1 (((tg l t).2.1))) (gy v 1 (((tg l t).2.1))) (gx v 1 (((tg l t).2.2))) (gy v 1 (((tg l t).2.2)))), .inr 3], (mz_up σ 3 0 t)) _
    refine wp_go 7 hM (fr' := (73, [some (.inr 3), some (.inr 1), some (.inr 9), some (.inl t), some (.inl x), some (.inl y), some (.inl ((tg l t).1)), some (.inl ((tg l t).2.1)), some (.inl ((tg l t).2.2))], [.inl ((tg l t).1), .inl ((tg l t).2.2), .inl y, .inl x, .inr 9, .inr 3], (mz_up (mz_up σ 3 0 t) 3 1 (ar (x) (y) (gx v 1 (((tg l t).2.1))) (gy v 1 (((tg l t).2.1))) (gx v 1 (((tg l t).2.2))) (gy v 1 (((tg l t).2.2))))))) rfl ?_
    refine wp_calld (v := 0) (idx := 55) (j := 45) (N := mtX2_areaWith) (as := [.inr 9, .inl x, .inl y, .inl ((tg l t).2.2), .inl ((tg l t).1)]) (rest := [.inr 3]) hM rfl (Or.inl ⟨rfl, rfl⟩) rfl (sp_X2_areaWith_9_v v l (mz_up (mz_up σ 3 0 t) 3 1 (ar (x) (y) (gx v 1 (((tg l t).2.1))) (gy v 1 (((tg l t).2.1))) (gx v 1 (((tg l t).2.2))) (gy v 1 (((tg l t).2.2))))) x y ((tg l t).2.2) ((tg l t).1) (by first | assumption | omega | (repeat first | assumption | refine CA_up ?_ _ _ _ (by omega))) (by first | assumption | omega | (repeat first | assumption | refine CA_up ?_ _ _ _ (by omega))) (by first | assumption | omega | (repeat first | assumption | refine CA_up ?_ _ _ _ (by omega))) (by first | assumption | omega | (repeat first | assumption | refine CA_up ?_ _ _ _ (by omega))) (by first | assumption | omega | (repeat first | assumption | refine CA_up ?_ _ _ _ (by omega))) (by first | assumption | omega | (repeat first | assumption | refine CA_up ?_ _ _ _ (by omega)))) ?_
    show mz_Wp shA none 48 (76, [some (.inr 3), some (.inr 1), some (.inr 9), some (.inl t), some (.inl x), some (.inl y), some (.inl ((tg l t).1)), some (.inl ((tg l t).2.1)), some (.inl ((tg l t).2.2))], [.inl (ar (x) (y) (gx v 1 (((tg l t).2.2))) (gy v 1 (((tg l t).2.2))) (gx v 1 (((tg l t).1))) (gy v 1 (((tg l t).1)))), .inr 3], (mz_up (mz_up σ 3 0 t) 3 1 (ar (x) (y) (gx v 1 (((tg l t).2.1))) (gy v 1 (((tg l t).2.1))) (gx v 1 (((tg l t).2.2))) (gy v 1 (((tg l t).2.2)))))) _
    refine wp_go 7 hM (fr' := (89, [some (.inr 3), some (.inr 1), some (.inr 9), some (.inl t), some (.inl x), some (.inl y), some (.inl ((tg l t).1)), some (.inl ((tg l t).2.1)), some (.inl ((tg l t).2.2))], [.inl ((tg l t).2.1), .inl ((tg l t).1), .inl y, .inl x, .inr 9, .inr 3], (mz_up (mz_up (mz_up σ 3 0 t) 3 1 (ar (x) (y) (gx v 1 (((tg l t).2.1))) (gy v 1 (((tg l t).2.1))) (gx v 1 (((tg l t).2.2))) (gy v 1 (((tg l t).2.2))))) 3 2 (ar (x) (y) (gx v 1 (((tg l t).2.2))) (gy v 1 (((tg l t).2.2))) (gx v 1 (((tg l t).1))) (gy v 1 (((tg l t).1))))))) rfl ?_
    refine wp_calld (v := 0) (idx := 55) (j := 45) (N := mtX2_areaWith) (as := [.inr 9, .inl x, .inl y, .inl ((tg l t).1), .inl ((tg l t).2.1)]) (rest := [.inr 3]) hM rfl (Or.inl ⟨rfl, rfl⟩) rfl (sp_X2_areaWith_9_v v l (mz_up (mz_up (mz_up σ 3 0 t) 3 1 (ar (x) (y) (gx v 1 (((tg l t).2.1))) (gy v 1 (((tg l t).2.1))) (gx v 1 (((tg l t).2.2))) (gy v 1 (((tg l t).2.2))))) 3 2 (ar (x) (y) (gx v 1 (((tg l t).2.2))) (gy v 1 (((tg l t).2.2))) (gx v 1 (((tg l t).1))) (gy v 1 (((tg l t).1))))) x y ((tg l t).1) ((tg l t).2.1) (by first | assumption | omega | (repeat first | assumption | refine CA_up ?_ _ _ _ (by omega))) (by first | assumption | omega | (repeat first | assumption | refine CA_up ?_ _ _ _ (by omega))) (by first | assumption | omega | (repeat first | assumption | refine CA_up ?_ _ _ _ (by omega))) (by first | assumption | omega | (repeat first | assumption | refine CA_up ?_ _ _ _ (by omega))) (by first | assumption | omega | (repeat first | assumption | refine CA_up ?_ _ _ _ (by omega))) (by first | assumption | omega | (repeat first | assumption | refine CA_up ?_ _ _ _ (by omega)))) ?_
    show mz_Wp shA none 48 (92, [some (.inr 3), some (.inr 1), some (.inr 9), some (.inl t), some (.inl x), some (.inl y), some (.inl ((tg l t).1)), some (.inl ((tg l t).2.1)), some (.inl ((tg l t).2.2))], [.inl (ar (x) (y) (gx v 1 (((tg l t).1))) (gy v 1 (((tg l t).1))) (gx v 1 (((tg l t).2.1))) (gy v 1 (((tg l t).2.1)))), .inr 3], (mz_up (mz_up (mz_up σ 3 0 t) 3 1 (ar (x) (y) (gx v 1 (((tg l t).2.1))) (gy v 1 (((tg l t).2.1))) (gx v 1 (((tg l t).2.2))) (gy v 1 (((tg l t).2.2))))) 3 2 (ar (x) (y) (gx v 1 (((tg l t).2.2))) (gy v 1 (((tg l t).2.2))) (gx v 1 (((tg l t).1))) (gy v 1 (((tg l t).1)))))) _
    refine wp_go 11 hM (fr' := (113, [some (.inr 3), some (.inr 1), some (.inr 9), some (.inl t), some (.inl x), some (.inl y), some (.inl ((tg l t).1)), some (.inl ((tg l t).2.1)), some (.inl ((tg l t).2.2))], [], (mz_up (mz_up (mz_up (mz_up (mz_up σ 3 0 t) 3 1 (ar (x) (y) (gx v 1 (((tg l t).2.1))) (gy v 1 (((tg l t).2.1))) (gx v 1 (((tg l t).2.2))) (gy v 1 (((tg l t).2.2))))) 3 2 (ar (x) (y) (gx v 1 (((tg l t).2.2))) (gy v 1 (((tg l t).2.2))) (gx v 1 (((tg l t).1))) (gy v 1 (((tg l t).1))))) 3 3 (ar (x) (y) (gx v 1 (((tg l t).1))) (gy v 1 (((tg l t).1))) (gx v 1 (((tg l t).2.1))) (gy v 1 (((tg l t).2.1))))) 3 4 (((ar (x) (y) (gx v 1 (((tg l t).2.1))) (gy v 1 (((tg l t).2.1))) (gx v 1 (((tg l t).2.2))) (gy v 1 (((tg l t).2.2)))) + (ar (x) (y) (gx v 1 (((tg l t).2.2))) (gy v 1 (((tg l t).2.2))) (gx v 1 (((tg l t).1))) (gy v 1 (((tg l t).1))))) + (ar (x) (y) (gx v 1 (((tg l t).1))) (gy v 1 (((tg l t).1))) (gx v 1 (((tg l t).2.1))) (gy v 1 (((tg l t).2.1)))))))) rfl ?_
    refine wp_retv hM rfl rfl ?_
    exact ⟨rfl, rfl⟩
  · replace c8 := b01_eq0 (cmp_ne_f c8)
    omega
