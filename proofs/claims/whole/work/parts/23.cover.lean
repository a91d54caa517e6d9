set_option maxRecDepth 100000 in
set_option maxHeartbeats 4000000 in
theorem sp_X3_mix_8 (v : mz_G) (l : List tr3) (σ : mz_G)  (h0 : CA σ v l) (h1 : Bs v l) (h2 : 0 ≤ σ 3 0) (h3 : σ 3 0 < (l.length : Int)) (h4 : 0 ≤ σ 3 1) (h5 : 0 ≤ σ 3 2) (h6 : 0 ≤ σ 3 3) (h7 : σ 3 1 + σ 3 2 + σ 3 3 = σ 3 4) (h8 : σ 3 4 ≤ 722) : mz_Cl shA 50 [.inr 3, .inr 1, .inr 8] σ (fun r σ' => r = none ∧ (σ' 3 5 = shq (sX σ v l 0) (sG σ v l 0) ∧ σ' 3 6 = shq (sY σ v l 0) (sG σ v l 0) ∧ σ' 3 7 = shq (σ 3 4) (sG σ v l 0)) ∧ (∀ i, i < 5 → σ' 3 i = σ 3 i) ∧ Fs σ σ') := by
  have hM : mz_meth[50]? = some mtX3_mix := rfl
  obtain ⟨hR, hT, hLen⟩ := id h1
  obtain ⟨⟨hW0, hW1⟩, ⟨hH0, hH1⟩, ⟨hn0, hn1⟩, hpt⟩ := id hR
  obtain ⟨⟨hc1, hc2, hc3, hc4⟩, hcp, hct, hcv⟩ := id h0
  have ht := Rt_at hT h2 h3
  have k1 := CA_pt h0 ht.1.1 ht.1.2
  have k2 := CA_pt h0 ht.2.1.1 ht.2.1.2
  have k3 := CA_pt h0 ht.2.2.1 ht.2.2.2
  have r1 := Rg_q hR (q := 0) (by decide) ht.1.1 ht.1.2
  have r2 := Rg_q hR (q := 0) (by decide) ht.2.1.1 ht.2.1.2
  have r3 := Rg_q hR (q := 0) (by decide) ht.2.2.1 ht.2.2.2
  have mX := mix_bd h4 h5 h6 h7 (a := gx v 0 (tg l (σ 3 0)).1) (b := gx v 0 (tg l (σ 3 0)).2.1) (c := gx v 0 (tg l (σ 3 0)).2.2) (by omega) (by omega) (by omega)
  have mY := mix_bd h4 h5 h6 h7 (a := gy v 0 (tg l (σ 3 0)).1) (b := gy v 0 (tg l (σ 3 0)).2.1) (c := gy v 0 (tg l (σ 3 0)).2.2) (by omega) (by omega) (by omega)
  have g1 := gcd_le mX.1 mY.1
  have g2 := gcd_le g1.1 (show 0 ≤ σ 3 4 by omega)
  refine mz_Cl.of hM ?_
  show mz_Wp shA none 50 (0, [some (.inr 3), some (.inr 1), some (.inr 8), none, none, none, none], [], σ) _
  refine wp_go 4 hM (fr' := (8, [some (.inr 3), some (.inr 1), some (.inr 8), none, none, none, none], [.inl (σ 3 0), .inr 11], σ)) rfl ?_
  refine wp_calld (v := 0) (idx := 42) (j := 53) (N := mtX4_isOne) (as := [.inr 11, .inl (σ 3 0)]) (rest := []) hM rfl (Or.inl ⟨rfl, rfl⟩) rfl (sp_X4_isOne  σ (σ 3 0) (by first | assumption | omega) (by first | assumption | omega)) ?_
  show mz_Wp shA none 50 (11, [some (.inr 3), some (.inr 1), some (.inr 8), none, none, none, none], [.inl (b01 (0 ≤ (σ 3 0) ∧ (σ 3 0) < σ 11 1))], σ) _
  refine wp_if (tgt := 15) hM rfl (by decide) b01_R (fun c11 => ?_) (fun c11 => ?_)
  · replace c11 := b01_ne0 (cmp_ne_t c11)
    refine wp_go 4 hM (fr' := (23, [some (.inr 3), some (.inr 1), some (.inr 8), none, none, none, none], [.inl (σ 3 0), .inr 11], σ)) rfl ?_
    refine wp_calld (v := 0) (idx := 48) (j := 54) (N := mtX4_first) (as := [.inr 11, .inl (σ 3 0)]) (rest := []) hM rfl (Or.inl ⟨rfl, rfl⟩) rfl (sp_X4_first_v v l σ (σ 3 0) (by first | assumption | omega | (repeat first | assumption | refine CA_up ?_ _ _ _ (by omega))) (by first | assumption | omega | (repeat first | assumption | refine CA_up ?_ _ _ _ (by omega))) (by first | assumption | omega | (repeat first | assumption | refine CA_up ?_ _ _ _ (by omega))) (by first | assumption | omega | (repeat first | assumption | refine CA_up ?_ _ _ _ (by omega)))) ?_
    show mz_Wp shA none 50 (26, [some (.inr 3), some (.inr 1), some (.inr 8), none, none, none, none], [.inl ((tg l (σ 3 0)).1)], σ) _
    refine wp_go 5 hM (fr' := (35, [some (.inr 3), some (.inr 1), some (.inr 8), some (.inl ((tg l (σ 3 0)).1)), none, none, none], [.inl (σ 3 0), .inr 11], σ)) rfl ?_
    refine wp_calld (v := 0) (idx := 51) (j := 55) (N := mtX4_second) (as := [.inr 11, .inl (σ 3 0)]) (rest := []) hM rfl (Or.inl ⟨rfl, rfl⟩) rfl (sp_X4_second_v v l σ (σ 3 0) (by first | assumption | omega | (repeat first | assumption | refine CA_up ?_ _ _ _ (by omega))) (by first | assumption | omega | (repeat first | assumption | refine CA_up ?_ _ _ _ (by omega))) (by first | assumption | omega | (repeat first | assumption | refine CA_up ?_ _ _ _ (by omega))) (by first | assumption | omega | (repeat first | assumption | refine CA_up ?_ _ _ _ (by omega)))) ?_
    show mz_Wp shA none 50 (38, [some (.inr 3), some (.inr 1), some (.inr 8), some (.inl ((tg l (σ 3 0)).1)), none, none, none], [.inl ((tg l (σ 3 0)).2.1)], σ) _
    refine wp_go 5 hM (fr' := (48, [some (.inr 3), some (.inr 1), some (.inr 8), some (.inl ((tg l (σ 3 0)).1)), some (.inl ((tg l (σ 3 0)).2.1)), none, none], [.inl (σ 3 0), .inr 11], σ)) rfl ?_
    refine wp_calld (v := 0) (idx := 53) (j := 56) (N := mtX4_third) (as := [.inr 11, .inl (σ 3 0)]) (rest := []) hM rfl (Or.inl ⟨rfl, rfl⟩) rfl (sp_X4_third_v v l σ (σ 3 0) (by first | assumption | omega | (repeat first | assumption | refine CA_up ?_ _ _ _ (by omega))) (by first | assumption | omega | (repeat first | assumption | refine CA_up ?_ _ _ _ (by omega))) (by first | assumption | omega | (repeat first | assumption | refine CA_up ?_ _ _ _ (by omega))) (by first | assumption | omega | (repeat first | assumption | refine CA_up ?_ _ _ _ (by omega)))) ?_
    show mz_Wp shA none 50 (51, [some (.inr 3), some (.inr 1), some (.inr 8), some (.inl ((tg l (σ 3 0)).1)), some (.inl ((tg l (σ 3 0)).2.1)), none, none], [.inl ((tg l (σ 3 0)).2.2)], σ) _
    refine wp_go 7 hM (fr' := (63, [some (.inr 3), some (.inr 1), some (.inr 8), some (.inl ((tg l (σ 3 0)).1)), some (.inl ((tg l (σ 3 0)).2.1)), some (.inl ((tg l (σ 3 0)).2.2)), none], [.inl ((tg l (σ 3 0)).1), .inr 16, .inl (σ 3 1), .inr 3], σ)) rfl ?_
    refine wp_al (n := 32) hM rfl (by decide) rfl (by omega) (by omega) ?_
    rw [k1.1]
    refine wp_go 6 hM (fr' := (75, [some (.inr 3), some (.inr 1), some (.inr 8), some (.inl ((tg l (σ 3 0)).1)), some (.inl ((tg l (σ 3 0)).2.1)), some (.inl ((tg l (σ 3 0)).2.2)), none], [.inl ((tg l (σ 3 0)).2.1), .inr 16, .inl (σ 3 2), .inl ((σ 3 1) * (gx v 0 (tg l (σ 3 0)).1)), .inr 3], σ)) rfl ?_
    refine wp_al (n := 32) hM rfl (by decide) rfl (by omega) (by omega) ?_
    rw [k2.1]
    refine wp_go 7 hM (fr' := (88, [some (.inr 3), some (.inr 1), some (.inr 8), some (.inl ((tg l (σ 3 0)).1)), some (.inl ((tg l (σ 3 0)).2.1)), some (.inl ((tg l (σ 3 0)).2.2)), none], [.inl ((tg l (σ 3 0)).2.2), .inr 16, .inl (σ 3 3), .inl (((σ 3 1) * (gx v 0 (tg l (σ 3 0)).1)) + ((σ 3 2) * (gx v 0 (tg l (σ 3 0)).2.1))), .inr 3], σ)) rfl ?_
    refine wp_al (n := 32) hM rfl (by decide) rfl (by omega) (by omega) ?_
    rw [k3.1]
    refine wp_go 9 hM (fr' := (104, [some (.inr 3), some (.inr 1), some (.inr 8), some (.inl ((tg l (σ 3 0)).1)), some (.inl ((tg l (σ 3 0)).2.1)), some (.inl ((tg l (σ 3 0)).2.2)), none], [.inl ((tg l (σ 3 0)).1), .inr 17, .inl (σ 3 1), .inr 3], (mz_up σ 3 5 ((((σ 3 1) * (gx v 0 (tg l (σ 3 0)).1)) + ((σ 3 2) * (gx v 0 (tg l (σ 3 0)).2.1))) + ((σ 3 3) * (gx v 0 (tg l (σ 3 0)).2.2)))))) rfl ?_
    refine wp_al (n := 32) hM rfl (by decide) rfl (by omega) (by omega) ?_
    show mz_Wp shA none 50 (105, [some (.inr 3), some (.inr 1), some (.inr 8), some (.inl ((tg l (σ 3 0)).1)), some (.inl ((tg l (σ 3 0)).2.1)), some (.inl ((tg l (σ 3 0)).2.2)), none], [.inl (σ 17 ((tg l (σ 3 0)).1).toNat), .inl (σ 3 1), .inr 3], (mz_up σ 3 5 ((((σ 3 1) * (gx v 0 (tg l (σ 3 0)).1)) + ((σ 3 2) * (gx v 0 (tg l (σ 3 0)).2.1))) + ((σ 3 3) * (gx v 0 (tg l (σ 3 0)).2.2))))) _
    rw [k1.2.1]
    refine wp_go 6 hM (fr' := (116, [some (.inr 3), some (.inr 1), some (.inr 8), some (.inl ((tg l (σ 3 0)).1)), some (.inl ((tg l (σ 3 0)).2.1)), some (.inl ((tg l (σ 3 0)).2.2)), none], [.inl ((tg l (σ 3 0)).2.1), .inr 17, .inl (σ 3 2), .inl ((σ 3 1) * (gy v 0 (tg l (σ 3 0)).1)), .inr 3], (mz_up σ 3 5 ((((σ 3 1) * (gx v 0 (tg l (σ 3 0)).1)) + ((σ 3 2) * (gx v 0 (tg l (σ 3 0)).2.1))) + ((σ 3 3) * (gx v 0 (tg l (σ 3 0)).2.2)))))) rfl ?_
    refine wp_al (n := 32) hM rfl (by decide) rfl (by omega) (by omega) ?_
    show mz_Wp shA none 50 (117, [some (.inr 3), some (.inr 1), some (.inr 8), some (.inl ((tg l (σ 3 0)).1)), some (.inl ((tg l (σ 3 0)).2.1)), some (.inl ((tg l (σ 3 0)).2.2)), none], [.inl (σ 17 ((tg l (σ 3 0)).2.1).toNat), .inl (σ 3 2), .inl ((σ 3 1) * (gy v 0 (tg l (σ 3 0)).1)), .inr 3], (mz_up σ 3 5 ((((σ 3 1) * (gx v 0 (tg l (σ 3 0)).1)) + ((σ 3 2) * (gx v 0 (tg l (σ 3 0)).2.1))) + ((σ 3 3) * (gx v 0 (tg l (σ 3 0)).2.2))))) _
    rw [k2.2.1]
    refine wp_go 7 hM (fr' := (129, [some (.inr 3), some (.inr 1), some (.inr 8), some (.inl ((tg l (σ 3 0)).1)), some (.inl ((tg l (σ 3 0)).2.1)), some (.inl ((tg l (σ 3 0)).2.2)), none], [.inl ((tg l (σ 3 0)).2.2), .inr 17, .inl (σ 3 3), .inl (((σ 3 1) * (gy v 0 (tg l (σ 3 0)).1)) + ((σ 3 2) * (gy v 0 (tg l (σ 3 0)).2.1))), .inr 3], (mz_up σ 3 5 ((((σ 3 1) * (gx v 0 (tg l (σ 3 0)).1)) + ((σ 3 2) * (gx v 0 (tg l (σ 3 0)).2.1))) + ((σ 3 3) * (gx v 0 (tg l (σ 3 0)).2.2)))))) rfl ?_
    refine wp_al (n := 32) hM rfl (by decide) rfl (by omega) (by omega) ?_
    show mz_Wp shA none 50 (130, [some (.inr 3), some (.inr 1), some (.inr 8), some (.inl ((tg l (σ 3 0)).1)), some (.inl ((tg l (σ 3 0)).2.1)), some (.inl ((tg l (σ 3 0)).2.2)), none], [.inl (σ 17 ((tg l (σ 3 0)).2.2).toNat), .inl (σ 3 3), .inl (((σ 3 1) * (gy v 0 (tg l (σ 3 0)).1)) + ((σ 3 2) * (gy v 0 (tg l (σ 3 0)).2.1))), .inr 3], (mz_up σ 3 5 ((((σ 3 1) * (gx v 0 (tg l (σ 3 0)).1)) + ((σ 3 2) * (gx v 0 (tg l (σ 3 0)).2.1))) + ((σ 3 3) * (gx v 0 (tg l (σ 3 0)).2.2))))) _
    rw [k3.2.1]
    refine wp_go 7 hM (fr' := (143, [some (.inr 3), some (.inr 1), some (.inr 8), some (.inl ((tg l (σ 3 0)).1)), some (.inl ((tg l (σ 3 0)).2.1)), some (.inl ((tg l (σ 3 0)).2.2)), none], [.inl ((((σ 3 1) * (gy v 0 (tg l (σ 3 0)).1)) + ((σ 3 2) * (gy v 0 (tg l (σ 3 0)).2.1))) + ((σ 3 3) * (gy v 0 (tg l (σ 3 0)).2.2))), .inl ((((σ 3 1) * (gx v 0 (tg l (σ 3 0)).1)) + ((σ 3 2) * (gx v 0 (tg l (σ 3 0)).2.1))) + ((σ 3 3) * (gx v 0 (tg l (σ 3 0)).2.2)))], (mz_up (mz_up σ 3 5 ((((σ 3 1) * (gx v 0 (tg l (σ 3 0)).1)) + ((σ 3 2) * (gx v 0 (tg l (σ 3 0)).2.1))) + ((σ 3 3) * (gx v 0 (tg l (σ 3 0)).2.2)))) 3 6 ((((σ 3 1) * (gy v 0 (tg l (σ 3 0)).1)) + ((σ 3 2) * (gy v 0 (tg l (σ 3 0)).2.1))) + ((σ 3 3) * (gy v 0 (tg l (σ 3 0)).2.2)))))) rfl ?_
    refine wp_calld (v := 1) (idx := 61) (j := 101) (N := mtX5_divisorOf) (as := [.inl ((((σ 3 1) * (gx v 0 (tg l (σ 3 0)).1)) + ((σ 3 2) * (gx v 0 (tg l (σ 3 0)).2.1))) + ((σ 3 3) * (gx v 0 (tg l (σ 3 0)).2.2))), .inl ((((σ 3 1) * (gy v 0 (tg l (σ 3 0)).1)) + ((σ 3 2) * (gy v 0 (tg l (σ 3 0)).2.1))) + ((σ 3 3) * (gy v 0 (tg l (σ 3 0)).2.2)))]) (rest := []) hM rfl (Or.inr ⟨rfl, rfl⟩) rfl (sp_X5_divisorOf  (mz_up (mz_up σ 3 5 ((((σ 3 1) * (gx v 0 (tg l (σ 3 0)).1)) + ((σ 3 2) * (gx v 0 (tg l (σ 3 0)).2.1))) + ((σ 3 3) * (gx v 0 (tg l (σ 3 0)).2.2)))) 3 6 ((((σ 3 1) * (gy v 0 (tg l (σ 3 0)).1)) + ((σ 3 2) * (gy v 0 (tg l (σ 3 0)).2.1))) + ((σ 3 3) * (gy v 0 (tg l (σ 3 0)).2.2)))) ((((σ 3 1) * (gx v 0 (tg l (σ 3 0)).1)) + ((σ 3 2) * (gx v 0 (tg l (σ 3 0)).2.1))) + ((σ 3 3) * (gx v 0 (tg l (σ 3 0)).2.2))) ((((σ 3 1) * (gy v 0 (tg l (σ 3 0)).1)) + ((σ 3 2) * (gy v 0 (tg l (σ 3 0)).2.1))) + ((σ 3 3) * (gy v 0 (tg l (σ 3 0)).2.2))) (by first | assumption | omega) (by first | assumption | omega) (by first | assumption | omega) (by first | assumption | omega)) ?_
    show mz_Wp shA none 50 (146, [some (.inr 3), some (.inr 1), some (.inr 8), some (.inl ((tg l (σ 3 0)).1)), some (.inl ((tg l (σ 3 0)).2.1)), some (.inl ((tg l (σ 3 0)).2.2)), none], [.inl (Int.gcd ((((σ 3 1) * (gx v 0 (tg l (σ 3 0)).1)) + ((σ 3 2) * (gx v 0 (tg l (σ 3 0)).2.1))) + ((σ 3 3) * (gx v 0 (tg l (σ 3 0)).2.2))) ((((σ 3 1) * (gy v 0 (tg l (σ 3 0)).1)) + ((σ 3 2) * (gy v 0 (tg l (σ 3 0)).2.1))) + ((σ 3 3) * (gy v 0 (tg l (σ 3 0)).2.2))) : Int)], (mz_up (mz_up σ 3 5 ((((σ 3 1) * (gx v 0 (tg l (σ 3 0)).1)) + ((σ 3 2) * (gx v 0 (tg l (σ 3 0)).2.1))) + ((σ 3 3) * (gx v 0 (tg l (σ 3 0)).2.2)))) 3 6 ((((σ 3 1) * (gy v 0 (tg l (σ 3 0)).1)) + ((σ 3 2) * (gy v 0 (tg l (σ 3 0)).2.1))) + ((σ 3 3) * (gy v 0 (tg l (σ 3 0)).2.2))))) _
    refine wp_go 2 hM (fr' := (150, [some (.inr 3), some (.inr 1), some (.inr 8), some (.inl ((tg l (σ 3 0)).1)), some (.inl ((tg l (σ 3 0)).2.1)), some (.inl ((tg l (σ 3 0)).2.2)), none], [.inl (σ 3 4), .inl (Int.gcd ((((σ 3 1) * (gx v 0 (tg l (σ 3 0)).1)) + ((σ 3 2) * (gx v 0 (tg l (σ 3 0)).2.1))) + ((σ 3 3) * (gx v 0 (tg l (σ 3 0)).2.2))) ((((σ 3 1) * (gy v 0 (tg l (σ 3 0)).1)) + ((σ 3 2) * (gy v 0 (tg l (σ 3 0)).2.1))) + ((σ 3 3) * (gy v 0 (tg l (σ 3 0)).2.2))) : Int)], (mz_up (mz_up σ 3 5 ((((σ 3 1) * (gx v 0 (tg l (σ 3 0)).1)) + ((σ 3 2) * (gx v 0 (tg l (σ 3 0)).2.1))) + ((σ 3 3) * (gx v 0 (tg l (σ 3 0)).2.2)))) 3 6 ((((σ 3 1) * (gy v 0 (tg l (σ 3 0)).1)) + ((σ 3 2) * (gy v 0 (tg l (σ 3 0)).2.1))) + ((σ 3 3) * (gy v 0 (tg l (σ 3 0)).2.2)))))) rfl ?_
    refine wp_calld (v := 1) (idx := 61) (j := 101) (N := mtX5_divisorOf) (as := [.inl (Int.gcd ((((σ 3 1) * (gx v 0 (tg l (σ 3 0)).1)) + ((σ 3 2) * (gx v 0 (tg l (σ 3 0)).2.1))) + ((σ 3 3) * (gx v 0 (tg l (σ 3 0)).2.2))) ((((σ 3 1) * (gy v 0 (tg l (σ 3 0)).1)) + ((σ 3 2) * (gy v 0 (tg l (σ 3 0)).2.1))) + ((σ 3 3) * (gy v 0 (tg l (σ 3 0)).2.2))) : Int), .inl (σ 3 4)]) (rest := []) hM rfl (Or.inr ⟨rfl, rfl⟩) rfl (sp_X5_divisorOf  (mz_up (mz_up σ 3 5 ((((σ 3 1) * (gx v 0 (tg l (σ 3 0)).1)) + ((σ 3 2) * (gx v 0 (tg l (σ 3 0)).2.1))) + ((σ 3 3) * (gx v 0 (tg l (σ 3 0)).2.2)))) 3 6 ((((σ 3 1) * (gy v 0 (tg l (σ 3 0)).1)) + ((σ 3 2) * (gy v 0 (tg l (σ 3 0)).2.1))) + ((σ 3 3) * (gy v 0 (tg l (σ 3 0)).2.2)))) (Int.gcd ((((σ 3 1) * (gx v 0 (tg l (σ 3 0)).1)) + ((σ 3 2) * (gx v 0 (tg l (σ 3 0)).2.1))) + ((σ 3 3) * (gx v 0 (tg l (σ 3 0)).2.2))) ((((σ 3 1) * (gy v 0 (tg l (σ 3 0)).1)) + ((σ 3 2) * (gy v 0 (tg l (σ 3 0)).2.1))) + ((σ 3 3) * (gy v 0 (tg l (σ 3 0)).2.2))) : Int) (σ 3 4) (by first | assumption | omega) (by first | assumption | omega) (by first | assumption | omega) (by first | assumption | omega)) ?_
    show mz_Wp shA none 50 (153, [some (.inr 3), some (.inr 1), some (.inr 8), some (.inl ((tg l (σ 3 0)).1)), some (.inl ((tg l (σ 3 0)).2.1)), some (.inl ((tg l (σ 3 0)).2.2)), none], [.inl (Int.gcd (Int.gcd ((((σ 3 1) * (gx v 0 (tg l (σ 3 0)).1)) + ((σ 3 2) * (gx v 0 (tg l (σ 3 0)).2.1))) + ((σ 3 3) * (gx v 0 (tg l (σ 3 0)).2.2))) ((((σ 3 1) * (gy v 0 (tg l (σ 3 0)).1)) + ((σ 3 2) * (gy v 0 (tg l (σ 3 0)).2.1))) + ((σ 3 3) * (gy v 0 (tg l (σ 3 0)).2.2))) : Int) (σ 3 4) : Int)], (mz_up (mz_up σ 3 5 ((((σ 3 1) * (gx v 0 (tg l (σ 3 0)).1)) + ((σ 3 2) * (gx v 0 (tg l (σ 3 0)).2.1))) + ((σ 3 3) * (gx v 0 (tg l (σ 3 0)).2.2)))) 3 6 ((((σ 3 1) * (gy v 0 (tg l (σ 3 0)).1)) + ((σ 3 2) * (gy v 0 (tg l (σ 3 0)).2.1))) + ((σ 3 3) * (gy v 0 (tg l (σ 3 0)).2.2))))) _
    refine wp_go 5 hM (fr' := (162, [some (.inr 3), some (.inr 1), some (.inr 8), some (.inl ((tg l (σ 3 0)).1)), some (.inl ((tg l (σ 3 0)).2.1)), some (.inl ((tg l (σ 3 0)).2.2)), some (.inl (Int.gcd (Int.gcd ((((σ 3 1) * (gx v 0 (tg l (σ 3 0)).1)) + ((σ 3 2) * (gx v 0 (tg l (σ 3 0)).2.1))) + ((σ 3 3) * (gx v 0 (tg l (σ 3 0)).2.2))) ((((σ 3 1) * (gy v 0 (tg l (σ 3 0)).1)) + ((σ 3 2) * (gy v 0 (tg l (σ 3 0)).2.1))) + ((σ 3 3) * (gy v 0 (tg l (σ 3 0)).2.2))) : Int) (σ 3 4) : Int))], [.inl (Int.gcd (Int.gcd ((((σ 3 1) * (gx v 0 (tg l (σ 3 0)).1)) + ((σ 3 2) * (gx v 0 (tg l (σ 3 0)).2.1))) + ((σ 3 3) * (gx v 0 (tg l (σ 3 0)).2.2))) ((((σ 3 1) * (gy v 0 (tg l (σ 3 0)).1)) + ((σ 3 2) * (gy v 0 (tg l (σ 3 0)).2.1))) + ((σ 3 3) * (gy v 0 (tg l (σ 3 0)).2.2))) : Int) (σ 3 4) : Int), .inl ((((σ 3 1) * (gx v 0 (tg l (σ 3 0)).1)) + ((σ 3 2) * (gx v 0 (tg l (σ 3 0)).2.1))) + ((σ 3 3) * (gx v 0 (tg l (σ 3 0)).2.2))), .inr 3], (mz_up (mz_up σ 3 5 ((((σ 3 1) * (gx v 0 (tg l (σ 3 0)).1)) + ((σ 3 2) * (gx v 0 (tg l (σ 3 0)).2.1))) + ((σ 3 3) * (gx v 0 (tg l (σ 3 0)).2.2)))) 3 6 ((((σ 3 1) * (gy v 0 (tg l (σ 3 0)).1)) + ((σ 3 2) * (gy v 0 (tg l (σ 3 0)).2.1))) + ((σ 3 3) * (gy v 0 (tg l (σ 3 0)).2.2)))))) rfl ?_
    refine wp_calld (v := 1) (idx := 65) (j := 102) (N := mtX5_shortened) (as := [.inl ((((σ 3 1) * (gx v 0 (tg l (σ 3 0)).1)) + ((σ 3 2) * (gx v 0 (tg l (σ 3 0)).2.1))) + ((σ 3 3) * (gx v 0 (tg l (σ 3 0)).2.2))), .inl (Int.gcd (Int.gcd ((((σ 3 1) * (gx v 0 (tg l (σ 3 0)).1)) + ((σ 3 2) * (gx v 0 (tg l (σ 3 0)).2.1))) + ((σ 3 3) * (gx v 0 (tg l (σ 3 0)).2.2))) ((((σ 3 1) * (gy v 0 (tg l (σ 3 0)).1)) + ((σ 3 2) * (gy v 0 (tg l (σ 3 0)).2.1))) + ((σ 3 3) * (gy v 0 (tg l (σ 3 0)).2.2))) : Int) (σ 3 4) : Int)]) (rest := [.inr 3]) hM rfl (Or.inr ⟨rfl, rfl⟩) rfl (sp_X5_shortened  (mz_up (mz_up σ 3 5 ((((σ 3 1) * (gx v 0 (tg l (σ 3 0)).1)) + ((σ 3 2) * (gx v 0 (tg l (σ 3 0)).2.1))) + ((σ 3 3) * (gx v 0 (tg l (σ 3 0)).2.2)))) 3 6 ((((σ 3 1) * (gy v 0 (tg l (σ 3 0)).1)) + ((σ 3 2) * (gy v 0 (tg l (σ 3 0)).2.1))) + ((σ 3 3) * (gy v 0 (tg l (σ 3 0)).2.2)))) ((((σ 3 1) * (gx v 0 (tg l (σ 3 0)).1)) + ((σ 3 2) * (gx v 0 (tg l (σ 3 0)).2.1))) + ((σ 3 3) * (gx v 0 (tg l (σ 3 0)).2.2))) (Int.gcd (Int.gcd ((((σ 3 1) * (gx v 0 (tg l (σ 3 0)).1)) + ((σ 3 2) * (gx v 0 (tg l (σ 3 0)).2.1))) + ((σ 3 3) * (gx v 0 (tg l (σ 3 0)).2.2))) ((((σ 3 1) * (gy v 0 (tg l (σ 3 0)).1)) + ((σ 3 2) * (gy v 0 (tg l (σ 3 0)).2.1))) + ((σ 3 3) * (gy v 0 (tg l (σ 3 0)).2.2))) : Int) (σ 3 4) : Int) (by first | assumption | omega) (by first | assumption | omega)) ?_
    show mz_Wp shA none 50 (165, [some (.inr 3), some (.inr 1), some (.inr 8), some (.inl ((tg l (σ 3 0)).1)), some (.inl ((tg l (σ 3 0)).2.1)), some (.inl ((tg l (σ 3 0)).2.2)), some (.inl (Int.gcd (Int.gcd ((((σ 3 1) * (gx v 0 (tg l (σ 3 0)).1)) + ((σ 3 2) * (gx v 0 (tg l (σ 3 0)).2.1))) + ((σ 3 3) * (gx v 0 (tg l (σ 3 0)).2.2))) ((((σ 3 1) * (gy v 0 (tg l (σ 3 0)).1)) + ((σ 3 2) * (gy v 0 (tg l (σ 3 0)).2.1))) + ((σ 3 3) * (gy v 0 (tg l (σ 3 0)).2.2))) : Int) (σ 3 4) : Int))], [.inl (shq ((((σ 3 1) * (gx v 0 (tg l (σ 3 0)).1)) + ((σ 3 2) * (gx v 0 (tg l (σ 3 0)).2.1))) + ((σ 3 3) * (gx v 0 (tg l (σ 3 0)).2.2))) (Int.gcd (Int.gcd ((((σ 3 1) * (gx v 0 (tg l (σ 3 0)).1)) + ((σ 3 2) * (gx v 0 (tg l (σ 3 0)).2.1))) + ((σ 3 3) * (gx v 0 (tg l (σ 3 0)).2.2))) ((((σ 3 1) * (gy v 0 (tg l (σ 3 0)).1)) + ((σ 3 2) * (gy v 0 (tg l (σ 3 0)).2.1))) + ((σ 3 3) * (gy v 0 (tg l (σ 3 0)).2.2))) : Int) (σ 3 4) : Int)), .inr 3], (mz_up (mz_up σ 3 5 ((((σ 3 1) * (gx v 0 (tg l (σ 3 0)).1)) + ((σ 3 2) * (gx v 0 (tg l (σ 3 0)).2.1))) + ((σ 3 3) * (gx v 0 (tg l (σ 3 0)).2.2)))) 3 6 ((((σ 3 1) * (gy v 0 (tg l (σ 3 0)).1)) + ((σ 3 2) * (gy v 0 (tg l (σ 3 0)).2.1))) + ((σ 3 3) * (gy v 0 (tg l (σ 3 0)).2.2))))) _
    refine wp_go 5 hM (fr' := (175, [some (.inr 3), some (.inr 1), some (.inr 8), some (.inl ((tg l (σ 3 0)).1)), some (.inl ((tg l (σ 3 0)).2.1)), some (.inl ((tg l (σ 3 0)).2.2)), some (.inl (Int.gcd (Int.gcd ((((σ 3 1) * (gx v 0 (tg l (σ 3 0)).1)) + ((σ 3 2) * (gx v 0 (tg l (σ 3 0)).2.1))) + ((σ 3 3) * (gx v 0 (tg l (σ 3 0)).2.2))) ((((σ 3 1) * (gy v 0 (tg l (σ 3 0)).1)) + ((σ 3 2) * (gy v 0 (tg l (σ 3 0)).2.1))) + ((σ 3 3) * (gy v 0 (tg l (σ 3 0)).2.2))) : Int) (σ 3 4) : Int))], [.inl (Int.gcd (Int.gcd ((((σ 3 1) * (gx v 0 (tg l (σ 3 0)).1)) + ((σ 3 2) * (gx v 0 (tg l (σ 3 0)).2.1))) + ((σ 3 3) * (gx v 0 (tg l (σ 3 0)).2.2))) ((((σ 3 1) * (gy v 0 (tg l (σ 3 0)).1)) + ((σ 3 2) * (gy v 0 (tg l (σ 3 0)).2.1))) + ((σ 3 3) * (gy v 0 (tg l (σ 3 0)).2.2))) : Int) (σ 3 4) : Int), .inl ((((σ 3 1) * (gy v 0 (tg l (σ 3 0)).1)) + ((σ 3 2) * (gy v 0 (tg l (σ 3 0)).2.1))) + ((σ 3 3) * (gy v 0 (tg l (σ 3 0)).2.2))), .inr 3], (mz_up (mz_up (mz_up σ 3 5 ((((σ 3 1) * (gx v 0 (tg l (σ 3 0)).1)) + ((σ 3 2) * (gx v 0 (tg l (σ 3 0)).2.1))) + ((σ 3 3) * (gx v 0 (tg l (σ 3 0)).2.2)))) 3 6 ((((σ 3 1) * (gy v 0 (tg l (σ 3 0)).1)) + ((σ 3 2) * (gy v 0 (tg l (σ 3 0)).2.1))) + ((σ 3 3) * (gy v 0 (tg l (σ 3 0)).2.2)))) 3 5 (shq ((((σ 3 1) * (gx v 0 (tg l (σ 3 0)).1)) + ((σ 3 2) * (gx v 0 (tg l (σ 3 0)).2.1))) + ((σ 3 3) * (gx v 0 (tg l (σ 3 0)).2.2))) (Int.gcd (Int.gcd ((((σ 3 1) * (gx v 0 (tg l (σ 3 0)).1)) + ((σ 3 2) * (gx v 0 (tg l (σ 3 0)).2.1))) + ((σ 3 3) * (gx v 0 (tg l (σ 3 0)).2.2))) ((((σ 3 1) * (gy v 0 (tg l (σ 3 0)).1)) + ((σ 3 2) * (gy v 0 (tg l (σ 3 0)).2.1))) + ((σ 3 3) * (gy v 0 (tg l (σ 3 0)).2.2))) : Int) (σ 3 4) : Int))))) rfl ?_
    refine wp_calld (v := 1) (idx := 65) (j := 102) (N := mtX5_shortened) (as := [.inl ((((σ 3 1) * (gy v 0 (tg l (σ 3 0)).1)) + ((σ 3 2) * (gy v 0 (tg l (σ 3 0)).2.1))) + ((σ 3 3) * (gy v 0 (tg l (σ 3 0)).2.2))), .inl (Int.gcd (Int.gcd ((((σ 3 1) * (gx v 0 (tg l (σ 3 0)).1)) + ((σ 3 2) * (gx v 0 (tg l (σ 3 0)).2.1))) + ((σ 3 3) * (gx v 0 (tg l (σ 3 0)).2.2))) ((((σ 3 1) * (gy v 0 (tg l (σ 3 0)).1)) + ((σ 3 2) * (gy v 0 (tg l (σ 3 0)).2.1))) + ((σ 3 3) * (gy v 0 (tg l (σ 3 0)).2.2))) : Int) (σ 3 4) : Int)]) (rest := [.inr 3]) hM rfl (Or.inr ⟨rfl, rfl⟩) rfl (sp_X5_shortened  (mz_up (mz_up (mz_up σ 3 5 ((((σ 3 1) * (gx v 0 (tg l (σ 3 0)).1)) + ((σ 3 2) * (gx v 0 (tg l (σ 3 0)).2.1))) + ((σ 3 3) * (gx v 0 (tg l (σ 3 0)).2.2)))) 3 6 ((((σ 3 1) * (gy v 0 (tg l (σ 3 0)).1)) + ((σ 3 2) * (gy v 0 (tg l (σ 3 0)).2.1))) + ((σ 3 3) * (gy v 0 (tg l (σ 3 0)).2.2)))) 3 5 (shq ((((σ 3 1) * (gx v 0 (tg l (σ 3 0)).1)) + ((σ 3 2) * (gx v 0 (tg l (σ 3 0)).2.1))) + ((σ 3 3) * (gx v 0 (tg l (σ 3 0)).2.2))) (Int.gcd (Int.gcd ((((σ 3 1) * (gx v 0 (tg l (σ 3 0)).1)) + ((σ 3 2) * (gx v 0 (tg l (σ 3 0)).2.1))) + ((σ 3 3) * (gx v 0 (tg l (σ 3 0)).2.2))) ((((σ 3 1) * (gy v 0 (tg l (σ 3 0)).1)) + ((σ 3 2) * (gy v 0 (tg l (σ 3 0)).2.1))) + ((σ 3 3) * (gy v 0 (tg l (σ 3 0)).2.2))) : Int) (σ 3 4) : Int))) ((((σ 3 1) * (gy v 0 (tg l (σ 3 0)).1)) + ((σ 3 2) * (gy v 0 (tg l (σ 3 0)).2.1))) + ((σ 3 3) * (gy v 0 (tg l (σ 3 0)).2.2))) (Int.gcd (Int.gcd ((((σ 3 1) * (gx v 0 (tg l (σ 3 0)).1)) + ((σ 3 2) * (gx v 0 (tg l (σ 3 0)).2.1))) + ((σ 3 3) * (gx v 0 (tg l (σ 3 0)).2.2))) ((((σ 3 1) * (gy v 0 (tg l (σ 3 0)).1)) + ((σ 3 2) * (gy v 0 (tg l (σ 3 0)).2.1))) + ((σ 3 3) * (gy v 0 (tg l (σ 3 0)).2.2))) : Int) (σ 3 4) : Int) (by first | assumption | omega) (by first | assumption | omega)) ?_
    show mz_Wp shA none 50 (178, [some (.inr 3), some (.inr 1), some (.inr 8), some (.inl ((tg l (σ 3 0)).1)), some (.inl ((tg l (σ 3 0)).2.1)), some (.inl ((tg l (σ 3 0)).2.2)), some (.inl (Int.gcd (Int.gcd ((((σ 3 1) * (gx v 0 (tg l (σ 3 0)).1)) + ((σ 3 2) * (gx v 0 (tg l (σ 3 0)).2.1))) + ((σ 3 3) * (gx v 0 (tg l (σ 3 0)).2.2))) ((((σ 3 1) * (gy v 0 (tg l (σ 3 0)).1)) + ((σ 3 2) * (gy v 0 (tg l (σ 3 0)).2.1))) + ((σ 3 3) * (gy v 0 (tg l (σ 3 0)).2.2))) : Int) (σ 3 4) : Int))], [.inl (shq ((((σ 3 1) * (gy v 0 (tg l (σ 3 0)).1)) + ((σ 3 2) * (gy v 0 (tg l (σ 3 0)).2.1))) + ((σ 3 3) * (gy v 0 (tg l (σ 3 0)).2.2))) (Int.gcd (Int.gcd ((((σ 3 1) * (gx v 0 (tg l (σ 3 0)).1)) + ((σ 3 2) * (gx v 0 (tg l (σ 3 0)).2.1))) + ((σ 3 3) * (gx v 0 (tg l (σ 3 0)).2.2))) ((((σ 3 1) * (gy v 0 (tg l (σ 3 0)).1)) + ((σ 3 2) * (gy v 0 (tg l (σ 3 0)).2.1))) + ((σ 3 3) * (gy v 0 (tg l (σ 3 0)).2.2))) : Int) (σ 3 4) : Int)), .inr 3], (mz_up (mz_up (mz_up σ 3 5 ((((σ 3 1) * (gx v 0 (tg l (σ 3 0)).1)) + ((σ 3 2) * (gx v 0 (tg l (σ 3 0)).2.1))) + ((σ 3 3) * (gx v 0 (tg l (σ 3 0)).2.2)))) 3 6 ((((σ 3 1) * (gy v 0 (tg l (σ 3 0)).1)) + ((σ 3 2) * (gy v 0 (tg l (σ 3 0)).2.1))) + ((σ 3 3) * (gy v 0 (tg l (σ 3 0)).2.2)))) 3 5 (shq ((((σ 3 1) * (gx v 0 (tg l (σ 3 0)).1)) + ((σ 3 2) * (gx v 0 (tg l (σ 3 0)).2.1))) + ((σ 3 3) * (gx v 0 (tg l (σ 3 0)).2.2))) (Int.gcd (Int.gcd ((((σ 3 1) * (gx v 0 (tg l (σ 3 0)).1)) + ((σ 3 2) * (gx v 0 (tg l (σ 3 0)).2.1))) + ((σ 3 3) * (gx v 0 (tg l (σ 3 0)).2.2))) ((((σ 3 1) * (gy v 0 (tg l (σ 3 0)).1)) + ((σ 3 2) * (gy v 0 (tg l (σ 3 0)).2.1))) + ((σ 3 3) * (gy v 0 (tg l (σ 3 0)).2.2))) : Int) (σ 3 4) : Int)))) _
    refine wp_go 5 hM (fr' := (188, [some (.inr 3), some (.inr 1), some (.inr 8), some (.inl ((tg l (σ 3 0)).1)), some (.inl ((tg l (σ 3 0)).2.1)), some (.inl ((tg l (σ 3 0)).2.2)), some (.inl (Int.gcd (Int.gcd ((((σ 3 1) * (gx v 0 (tg l (σ 3 0)).1)) + ((σ 3 2) * (gx v 0 (tg l (σ 3 0)).2.1))) + ((σ 3 3) * (gx v 0 (tg l (σ 3 0)).2.2))) ((((σ 3 1) * (gy v 0 (tg l (σ 3 0)).1)) + ((σ 3 2) * (gy v 0 (tg l (σ 3 0)).2.1))) + ((σ 3 3) * (gy v 0 (tg l (σ 3 0)).2.2))) : Int) (σ 3 4) : Int))], [.inl (Int.gcd (Int.gcd ((((σ 3 1) * (gx v 0 (tg l (σ 3 0)).1)) + ((σ 3 2) * (gx v 0 (tg l (σ 3 0)).2.1))) + ((σ 3 3) * (gx v 0 (tg l (σ 3 0)).2.2))) ((((σ 3 1) * (gy v 0 (tg l (σ 3 0)).1)) + ((σ 3 2) * (gy v 0 (tg l (σ 3 0)).2.1))) + ((σ 3 3) * (gy v 0 (tg l (σ 3 0)).2.2))) : Int) (σ 3 4) : Int), .inl (σ 3 4), .inr 3], (mz_up (mz_up (mz_up (mz_up σ 3 5 ((((σ 3 1) * (gx v 0 (tg l (σ 3 0)).1)) + ((σ 3 2) * (gx v 0 (tg l (σ 3 0)).2.1))) + ((σ 3 3) * (gx v 0 (tg l (σ 3 0)).2.2)))) 3 6 ((((σ 3 1) * (gy v 0 (tg l (σ 3 0)).1)) + ((σ 3 2) * (gy v 0 (tg l (σ 3 0)).2.1))) + ((σ 3 3) * (gy v 0 (tg l (σ 3 0)).2.2)))) 3 5 (shq ((((σ 3 1) * (gx v 0 (tg l (σ 3 0)).1)) + ((σ 3 2) * (gx v 0 (tg l (σ 3 0)).2.1))) + ((σ 3 3) * (gx v 0 (tg l (σ 3 0)).2.2))) (Int.gcd (Int.gcd ((((σ 3 1) * (gx v 0 (tg l (σ 3 0)).1)) + ((σ 3 2) * (gx v 0 (tg l (σ 3 0)).2.1))) + ((σ 3 3) * (gx v 0 (tg l (σ 3 0)).2.2))) ((((σ 3 1) * (gy v 0 (tg l (σ 3 0)).1)) + ((σ 3 2) * (gy v 0 (tg l (σ 3 0)).2.1))) + ((σ 3 3) * (gy v 0 (tg l (σ 3 0)).2.2))) : Int) (σ 3 4) : Int))) 3 6 (shq ((((σ 3 1) * (gy v 0 (tg l (σ 3 0)).1)) + ((σ 3 2) * (gy v 0 (tg l (σ 3 0)).2.1))) + ((σ 3 3) * (gy v 0 (tg l (σ 3 0)).2.2))) (Int.gcd (Int.gcd ((((σ 3 1) * (gx v 0 (tg l (σ 3 0)).1)) + ((σ 3 2) * (gx v 0 (tg l (σ 3 0)).2.1))) + ((σ 3 3) * (gx v 0 (tg l (σ 3 0)).2.2))) ((((σ 3 1) * (gy v 0 (tg l (σ 3 0)).1)) + ((σ 3 2) * (gy v 0 (tg l (σ 3 0)).2.1))) + ((σ 3 3) * (gy v 0 (tg l (σ 3 0)).2.2))) : Int) (σ 3 4) : Int))))) rfl ?_
    refine wp_calld (v := 1) (idx := 65) (j := 102) (N := mtX5_shortened) (as := [.inl (σ 3 4), .inl (Int.gcd (Int.gcd ((((σ 3 1) * (gx v 0 (tg l (σ 3 0)).1)) + ((σ 3 2) * (gx v 0 (tg l (σ 3 0)).2.1))) + ((σ 3 3) * (gx v 0 (tg l (σ 3 0)).2.2))) ((((σ 3 1) * (gy v 0 (tg l (σ 3 0)).1)) + ((σ 3 2) * (gy v 0 (tg l (σ 3 0)).2.1))) + ((σ 3 3) * (gy v 0 (tg l (σ 3 0)).2.2))) : Int) (σ 3 4) : Int)]) (rest := [.inr 3]) hM rfl (Or.inr ⟨rfl, rfl⟩) rfl (sp_X5_shortened  (mz_up (mz_up (mz_up (mz_up σ 3 5 ((((σ 3 1) * (gx v 0 (tg l (σ 3 0)).1)) + ((σ 3 2) * (gx v 0 (tg l (σ 3 0)).2.1))) + ((σ 3 3) * (gx v 0 (tg l (σ 3 0)).2.2)))) 3 6 ((((σ 3 1) * (gy v 0 (tg l (σ 3 0)).1)) + ((σ 3 2) * (gy v 0 (tg l (σ 3 0)).2.1))) + ((σ 3 3) * (gy v 0 (tg l (σ 3 0)).2.2)))) 3 5 (shq ((((σ 3 1) * (gx v 0 (tg l (σ 3 0)).1)) + ((σ 3 2) * (gx v 0 (tg l (σ 3 0)).2.1))) + ((σ 3 3) * (gx v 0 (tg l (σ 3 0)).2.2))) (Int.gcd (Int.gcd ((((σ 3 1) * (gx v 0 (tg l (σ 3 0)).1)) + ((σ 3 2) * (gx v 0 (tg l (σ 3 0)).2.1))) + ((σ 3 3) * (gx v 0 (tg l (σ 3 0)).2.2))) ((((σ 3 1) * (gy v 0 (tg l (σ 3 0)).1)) + ((σ 3 2) * (gy v 0 (tg l (σ 3 0)).2.1))) + ((σ 3 3) * (gy v 0 (tg l (σ 3 0)).2.2))) : Int) (σ 3 4) : Int))) 3 6 (shq ((((σ 3 1) * (gy v 0 (tg l (σ 3 0)).1)) + ((σ 3 2) * (gy v 0 (tg l (σ 3 0)).2.1))) + ((σ 3 3) * (gy v 0 (tg l (σ 3 0)).2.2))) (Int.gcd (Int.gcd ((((σ 3 1) * (gx v 0 (tg l (σ 3 0)).1)) + ((σ 3 2) * (gx v 0 (tg l (σ 3 0)).2.1))) + ((σ 3 3) * (gx v 0 (tg l (σ 3 0)).2.2))) ((((σ 3 1) * (gy v 0 (tg l (σ 3 0)).1)) + ((σ 3 2) * (gy v 0 (tg l (σ 3 0)).2.1))) + ((σ 3 3) * (gy v 0 (tg l (σ 3 0)).2.2))) : Int) (σ 3 4) : Int))) (σ 3 4) (Int.gcd (Int.gcd ((((σ 3 1) * (gx v 0 (tg l (σ 3 0)).1)) + ((σ 3 2) * (gx v 0 (tg l (σ 3 0)).2.1))) + ((σ 3 3) * (gx v 0 (tg l (σ 3 0)).2.2))) ((((σ 3 1) * (gy v 0 (tg l (σ 3 0)).1)) + ((σ 3 2) * (gy v 0 (tg l (σ 3 0)).2.1))) + ((σ 3 3) * (gy v 0 (tg l (σ 3 0)).2.2))) : Int) (σ 3 4) : Int) (by first | assumption | omega) (by first | assumption | omega)) ?_
    show mz_Wp shA none 50 (191, [some (.inr 3), some (.inr 1), some (.inr 8), some (.inl ((tg l (σ 3 0)).1)), some (.inl ((tg l (σ 3 0)).2.1)), some (.inl ((tg l (σ 3 0)).2.2)), some (.inl (Int.gcd (Int.gcd ((((σ 3 1) * (gx v 0 (tg l (σ 3 0)).1)) + ((σ 3 2) * (gx v 0 (tg l (σ 3 0)).2.1))) + ((σ 3 3) * (gx v 0 (tg l (σ 3 0)).2.2))) ((((σ 3 1) * (gy v 0 (tg l (σ 3 0)).1)) + ((σ 3 2) * (gy v 0 (tg l (σ 3 0)).2.1))) + ((σ 3 3) * (gy v 0 (tg l (σ 3 0)).2.2))) : Int) (σ 3 4) : Int))], [.inl (shq (σ 3 4) (Int.gcd (Int.gcd ((((σ 3 1) * (gx v 0 (tg l (σ 3 0)).1)) + ((σ 3 2) * (gx v 0 (tg l (σ 3 0)).2.1))) + ((σ 3 3) * (gx v 0 (tg l (σ 3 0)).2.2))) ((((σ 3 1) * (gy v 0 (tg l (σ 3 0)).1)) + ((σ 3 2) * (gy v 0 (tg l (σ 3 0)).2.1))) + ((σ 3 3) * (gy v 0 (tg l (σ 3 0)).2.2))) : Int) (σ 3 4) : Int)), .inr 3], (mz_up (mz_up (mz_up (mz_up σ 3 5 ((((σ 3 1) * (gx v 0 (tg l (σ 3 0)).1)) + ((σ 3 2) * (gx v 0 (tg l (σ 3 0)).2.1))) + ((σ 3 3) * (gx v 0 (tg l (σ 3 0)).2.2)))) 3 6 ((((σ 3 1) * (gy v 0 (tg l (σ 3 0)).1)) + ((σ 3 2) * (gy v 0 (tg l (σ 3 0)).2.1))) + ((σ 3 3) * (gy v 0 (tg l (σ 3 0)).2.2)))) 3 5 (shq ((((σ 3 1) * (gx v 0 (tg l (σ 3 0)).1)) + ((σ 3 2) * (gx v 0 (tg l (σ 3 0)).2.1))) + ((σ 3 3) * (gx v 0 (tg l (σ 3 0)).2.2))) (Int.gcd (Int.gcd ((((σ 3 1) * (gx v 0 (tg l (σ 3 0)).1)) + ((σ 3 2) * (gx v 0 (tg l (σ 3 0)).2.1))) + ((σ 3 3) * (gx v 0 (tg l (σ 3 0)).2.2))) ((((σ 3 1) * (gy v 0 (tg l (σ 3 0)).1)) + ((σ 3 2) * (gy v 0 (tg l (σ 3 0)).2.1))) + ((σ 3 3) * (gy v 0 (tg l (σ 3 0)).2.2))) : Int) (σ 3 4) : Int))) 3 6 (shq ((((σ 3 1) * (gy v 0 (tg l (σ 3 0)).1)) + ((σ 3 2) * (gy v 0 (tg l (σ 3 0)).2.1))) + ((σ 3 3) * (gy v 0 (tg l (σ 3 0)).2.2))) (Int.gcd (Int.gcd ((((σ 3 1) * (gx v 0 (tg l (σ 3 0)).1)) + ((σ 3 2) * (gx v 0 (tg l (σ 3 0)).2.1))) + ((σ 3 3) * (gx v 0 (tg l (σ 3 0)).2.2))) ((((σ 3 1) * (gy v 0 (tg l (σ 3 0)).1)) + ((σ 3 2) * (gy v 0 (tg l (σ 3 0)).2.1))) + ((σ 3 3) * (gy v 0 (tg l (σ 3 0)).2.2))) : Int) (σ 3 4) : Int)))) _
    refine wp_go 1 hM (fr' := (194, [some (.inr 3), some (.inr 1), some (.inr 8), some (.inl ((tg l (σ 3 0)).1)), some (.inl ((tg l (σ 3 0)).2.1)), some (.inl ((tg l (σ 3 0)).2.2)), some (.inl (Int.gcd (Int.gcd ((((σ 3 1) * (gx v 0 (tg l (σ 3 0)).1)) + ((σ 3 2) * (gx v 0 (tg l (σ 3 0)).2.1))) + ((σ 3 3) * (gx v 0 (tg l (σ 3 0)).2.2))) ((((σ 3 1) * (gy v 0 (tg l (σ 3 0)).1)) + ((σ 3 2) * (gy v 0 (tg l (σ 3 0)).2.1))) + ((σ 3 3) * (gy v 0 (tg l (σ 3 0)).2.2))) : Int) (σ 3 4) : Int))], [], (mz_up (mz_up (mz_up (mz_up (mz_up σ 3 5 ((((σ 3 1) * (gx v 0 (tg l (σ 3 0)).1)) + ((σ 3 2) * (gx v 0 (tg l (σ 3 0)).2.1))) + ((σ 3 3) * (gx v 0 (tg l (σ 3 0)).2.2)))) 3 6 ((((σ 3 1) * (gy v 0 (tg l (σ 3 0)).1)) + ((σ 3 2) * (gy v 0 (tg l (σ 3 0)).2.1))) + ((σ 3 3) * (gy v 0 (tg l (σ 3 0)).2.2)))) 3 5 (shq ((((σ 3 1) * (gx v 0 (tg l (σ 3 0)).1)) + ((σ 3 2) * (gx v 0 (tg l (σ 3 0)).2.1))) + ((σ 3 3) * (gx v 0 (tg l (σ 3 0)).2.2))) (Int.gcd (Int.gcd ((((σ 3 1) * (gx v 0 (tg l (σ 3 0)).1)) + ((σ 3 2) * (gx v 0 (tg l (σ 3 0)).2.1))) + ((σ 3 3) * (gx v 0 (tg l (σ 3 0)).2.2))) ((((σ 3 1) * (gy v 0 (tg l (σ 3 0)).1)) + ((σ 3 2) * (gy v 0 (tg l (σ 3 0)).2.1))) + ((σ 3 3) * (gy v 0 (tg l (σ 3 0)).2.2))) : Int) (σ 3 4) : Int))) 3 6 (shq ((((σ 3 1) * (gy v 0 (tg l (σ 3 0)).1)) + ((σ 3 2) * (gy v 0 (tg l (σ 3 0)).2.1))) + ((σ 3 3) * (gy v 0 (tg l (σ 3 0)).2.2))) (Int.gcd (Int.gcd ((((σ 3 1) * (gx v 0 (tg l (σ 3 0)).1)) + ((σ 3 2) * (gx v 0 (tg l (σ 3 0)).2.1))) + ((σ 3 3) * (gx v 0 (tg l (σ 3 0)).2.2))) ((((σ 3 1) * (gy v 0 (tg l (σ 3 0)).1)) + ((σ 3 2) * (gy v 0 (tg l (σ 3 0)).2.1))) + ((σ 3 3) * (gy v 0 (tg l (σ 3 0)).2.2))) : Int) (σ 3 4) : Int))) 3 7 (shq (σ 3 4) (Int.gcd (Int.gcd ((((σ 3 1) * (gx v 0 (tg l (σ 3 0)).1)) + ((σ 3 2) * (gx v 0 (tg l (σ 3 0)).2.1))) + ((σ 3 3) * (gx v 0 (tg l (σ 3 0)).2.2))) ((((σ 3 1) * (gy v 0 (tg l (σ 3 0)).1)) + ((σ 3 2) * (gy v 0 (tg l (σ 3 0)).2.1))) + ((σ 3 3) * (gy v 0 (tg l (σ 3 0)).2.2))) : Int) (σ 3 4) : Int))))) rfl ?_
    refine wp_retv hM rfl rfl ?_
    refine ⟨rfl, ⟨by simp [mz_up]; rfl, by simp [mz_up]; rfl, by simp [mz_up]; rfl⟩, fun i hi => ?_, ((((Fs_up.tr Fs_up).tr Fs_up).tr Fs_up).tr Fs_up)⟩
    rcases (show i = 0 ∨ i = 1 ∨ i = 2 ∨ i = 3 ∨ i = 4 by omega) with rfl | rfl | rfl | rfl | rfl <;> simp [mz_up]
  · replace c11 := b01_eq0 (cmp_ne_f c11)
    omega

set_option maxRecDepth 100000 in
set_option maxHeartbeats 4000000 in
theorem sp_X3_mix_9 (v : mz_G) (l : List tr3) (σ : mz_G)  (h0 : CA σ v l) (h1 : Bs v l) (h2 : 0 ≤ σ 3 0) (h3 : σ 3 0 < (l.length : Int)) (h4 : 0 ≤ σ 3 1) (h5 : 0 ≤ σ 3 2) (h6 : 0 ≤ σ 3 3) (h7 : σ 3 1 + σ 3 2 + σ 3 3 = σ 3 4) (h8 : σ 3 4 ≤ 722) : mz_Cl shA 50 [.inr 3, .inr 1, .inr 9] σ (fun r σ' => r = none ∧ (σ' 3 5 = shq (sX σ v l 1) (sG σ v l 1) ∧ σ' 3 6 = shq (sY σ v l 1) (sG σ v l 1) ∧ σ' 3 7 = shq (σ 3 4) (sG σ v l 1)) ∧ (∀ i, i < 5 → σ' 3 i = σ 3 i) ∧ Fs σ σ') := by
  have hM : mz_meth[50]? = some mtX3_mix := rfl
  obtain ⟨hR, hT, hLen⟩ := id h1
  obtain ⟨⟨hW0, hW1⟩, ⟨hH0, hH1⟩, ⟨hn0, hn1⟩, hpt⟩ := id hR
  obtain ⟨⟨hc1, hc2, hc3, hc4⟩, hcp, hct, hcv⟩ := id h0
  have ht := Rt_at hT h2 h3
  have k1 := CA_pt h0 ht.1.1 ht.1.2
  have k2 := CA_pt h0 ht.2.1.1 ht.2.1.2
  have k3 := CA_pt h0 ht.2.2.1 ht.2.2.2
  have r1 := Rg_q hR (q := 1) (by decide) ht.1.1 ht.1.2
  have r2 := Rg_q hR (q := 1) (by decide) ht.2.1.1 ht.2.1.2
  have r3 := Rg_q hR (q := 1) (by decide) ht.2.2.1 ht.2.2.2
  have mX := mix_bd h4 h5 h6 h7 (a := gx v 1 (tg l (σ 3 0)).1) (b := gx v 1 (tg l (σ 3 0)).2.1) (c := gx v 1 (tg l (σ 3 0)).2.2) (by omega) (by omega) (by omega)
  have mY := mix_bd h4 h5 h6 h7 (a := gy v 1 (tg l (σ 3 0)).1) (b := gy v 1 (tg l (σ 3 0)).2.1) (c := gy v 1 (tg l (σ 3 0)).2.2) (by omega) (by omega) (by omega)
  have g1 := gcd_le mX.1 mY.1
  have g2 := gcd_le g1.1 (show 0 ≤ σ 3 4 by omega)
  refine mz_Cl.of hM ?_
  show mz_Wp shA none 50 (0, [some (.inr 3), some (.inr 1), some (.inr 9), none, none, none, none], [], σ) _
  refine wp_go 4 hM (fr' := (8, [some (.inr 3), some (.inr 1), some (.inr 9), none, none, none, none], [.inl (σ 3 0), .inr 11], σ)) rfl ?_
  refine wp_calld (v := 0) (idx := 42) (j := 53) (N := mtX4_isOne) (as := [.inr 11, .inl (σ 3 0)]) (rest := []) hM rfl (Or.inl ⟨rfl, rfl⟩) rfl (sp_X4_isOne  σ (σ 3 0) (by first | assumption | omega) (by first | assumption | omega)) ?_
  show mz_Wp shA none 50 (11, [some (.inr 3), some (.inr 1), some (.inr 9), none, none, none, none], [.inl (b01 (0 ≤ (σ 3 0) ∧ (σ 3 0) < σ 11 1))], σ) _
  refine wp_if (tgt := 15) hM rfl (by decide) b01_R (fun c11 => ?_) (fun c11 => ?_)
  · replace c11 := b01_ne0 (cmp_ne_t c11)
    refine wp_go 4 hM (fr' := (23, [some (.inr 3), some (.inr 1), some (.inr 9), none, none, none, none], [.inl (σ 3 0), .inr 11], σ)) rfl ?_
    refine wp_calld (v := 0) (idx := 48) (j := 54) (N := mtX4_first) (as := [.inr 11, .inl (σ 3 0)]) (rest := []) hM rfl (Or.inl ⟨rfl, rfl⟩) rfl (sp_X4_first_v v l σ (σ 3 0) (by first | assumption | omega | (repeat first | assumption | refine CA_up ?_ _ _ _ (by omega))) (by first | assumption | omega | (repeat first | assumption | refine CA_up ?_ _ _ _ (by omega))) (by first | assumption | omega | (repeat first | assumption | refine CA_up ?_ _ _ _ (by omega))) (by first | assumption | omega | (repeat first | assumption | refine CA_up ?_ _ _ _ (by omega)))) ?_
    show mz_Wp shA none 50 (26, [some (.inr 3), some (.inr 1), some (.inr 9), none, none, none, none], [.inl ((tg l (σ 3 0)).1)], σ) _
    refine wp_go 5 hM (fr' := (35, [some (.inr 3), some (.inr 1), some (.inr 9), some (.inl ((tg l (σ 3 0)).1)), none, none, none], [.inl (σ 3 0), .inr 11], σ)) rfl ?_
    refine wp_calld (v := 0) (idx := 51) (j := 55) (N := mtX4_second) (as := [.inr 11, .inl (σ 3 0)]) (rest := []) hM rfl (Or.inl ⟨rfl, rfl⟩) rfl (sp_X4_second_v v l σ (σ 3 0) (by first | assumption | omega | (repeat first | assumption | refine CA_up ?_ _ _ _ (by omega))) (by first | assumption | omega | (repeat first | assumption | refine CA_up ?_ _ _ _ (by omega))) (by first | assumption | omega | (repeat first | assumption | refine CA_up ?_ _ _ _ (by omega))) (by first | assumption | omega | (repeat first | assumption | refine CA_up ?_ _ _ _ (by omega)))) ?_
    show mz_Wp shA none 50 (38, [some (.inr 3), some (.inr 1), some (.inr 9), some (.inl ((tg l (σ 3 0)).1)), none, none, none], [.inl ((tg l (σ 3 0)).2.1)], σ) _
    refine wp_go 5 hM (fr' := (48, [some (.inr 3), some (.inr 1), some (.inr 9), some (.inl ((tg l (σ 3 0)).1)), some (.inl ((tg l (σ 3 0)).2.1)), none, none], [.inl (σ 3 0), .inr 11], σ)) rfl ?_
    refine wp_calld (v := 0) (idx := 53) (j := 56) (N := mtX4_third) (as := [.inr 11, .inl (σ 3 0)]) (rest := []) hM rfl (Or.inl ⟨rfl, rfl⟩) rfl (sp_X4_third_v v l σ (σ 3 0) (by first | assumption | omega | (repeat first | assumption | refine CA_up ?_ _ _ _ (by omega))) (by first | assumption | omega | (repeat first | assumption | refine CA_up ?_ _ _ _ (by omega))) (by first | assumption | omega | (repeat first | assumption | refine CA_up ?_ _ _ _ (by omega))) (by first | assumption | omega | (repeat first | assumption | refine CA_up ?_ _ _ _ (by omega)))) ?_
    show mz_Wp shA none 50 (51, [some (.inr 3), some (.inr 1), some (.inr 9), some (.inl ((tg l (σ 3 0)).1)), some (.inl ((tg l (σ 3 0)).2.1)), none, none], [.inl ((tg l (σ 3 0)).2.2)], σ) _
    refine wp_go 7 hM (fr' := (63, [some (.inr 3), some (.inr 1), some (.inr 9), some (.inl ((tg l (σ 3 0)).1)), some (.inl ((tg l (σ 3 0)).2.1)), some (.inl ((tg l (σ 3 0)).2.2)), none], [.inl ((tg l (σ 3 0)).1), .inr 18, .inl (σ 3 1), .inr 3], σ)) rfl ?_
    refine wp_al (n := 32) hM rfl (by decide) rfl (by omega) (by omega) ?_
    rw [k1.2.2.1]
    refine wp_go 6 hM (fr' := (75, [some (.inr 3), some (.inr 1), some (.inr 9), some (.inl ((tg l (σ 3 0)).1)), some (.inl ((tg l (σ 3 0)).2.1)), some (.inl ((tg l (σ 3 0)).2.2)), none], [.inl ((tg l (σ 3 0)).2.1), .inr 18, .inl (σ 3 2), .inl ((σ 3 1) * (gx v 1 (tg l (σ 3 0)).1)), .inr 3], σ)) rfl ?_
    refine wp_al (n := 32) hM rfl (by decide) rfl (by omega) (by omega) ?_
    rw [k2.2.2.1]
    refine wp_go 7 hM (fr' := (88, [some (.inr 3), some (.inr 1), some (.inr 9), some (.inl ((tg l (σ 3 0)).1)), some (.inl ((tg l (σ 3 0)).2.1)), some (.inl ((tg l (σ 3 0)).2.2)), none], [.inl ((tg l (σ 3 0)).2.2), .inr 18, .inl (σ 3 3), .inl (((σ 3 1) * (gx v 1 (tg l (σ 3 0)).1)) + ((σ 3 2) * (gx v 1 (tg l (σ 3 0)).2.1))), .inr 3], σ)) rfl ?_
    refine wp_al (n := 32) hM rfl (by decide) rfl (by omega) (by omega) ?_
    rw [k3.2.2.1]
    refine wp_go 9 hM (fr' := (104, [some (.inr 3), some (.inr 1), some (.inr 9), some (.inl ((tg l (σ 3 0)).1)), some (.inl ((tg l (σ 3 0)).2.1)), some (.inl ((tg l (σ 3 0)).2.2)), none], [.inl ((tg l (σ 3 0)).1), .inr 19, .inl (σ 3 1), .inr 3], (mz_up σ 3 5 ((((σ 3 1) * (gx v 1 (tg l (σ 3 0)).1)) + ((σ 3 2) * (gx v 1 (tg l (σ 3 0)).2.1))) + ((σ 3 3) * (gx v 1 (tg l (σ 3 0)).2.2)))))) rfl ?_
    refine wp_al (n := 32) hM rfl (by decide) rfl (by omega) (by omega) ?_
    show mz_Wp shA none 50 (105, [some (.inr 3), some (.inr 1), some (.inr 9), some (.inl ((tg l (σ 3 0)).1)), some (.inl ((tg l (σ 3 0)).2.1)), some (.inl ((tg l (σ 3 0)).2.2)), none], [.inl (σ 19 ((tg l (σ 3 0)).1).toNat), .inl (σ 3 1), .inr 3], (mz_up σ 3 5 ((((σ 3 1) * (gx v 1 (tg l (σ 3 0)).1)) + ((σ 3 2) * (gx v 1 (tg l (σ 3 0)).2.1))) + ((σ 3 3) * (gx v 1 (tg l (σ 3 0)).2.2))))) _
    rw [k1.2.2.2]
    refine wp_go 6 hM (fr' := (116, [some (.inr 3), some (.inr 1), some (.inr 9), some (.inl ((tg l (σ 3 0)).1)), some (.inl ((tg l (σ 3 0)).2.1)), some (.inl ((tg l (σ 3 0)).2.2)), none], [.inl ((tg l (σ 3 0)).2.1), .inr 19, .inl (σ 3 2), .inl ((σ 3 1) * (gy v 1 (tg l (σ 3 0)).1)), .inr 3], (mz_up σ 3 5 ((((σ 3 1) * (gx v 1 (tg l (σ 3 0)).1)) + ((σ 3 2) * (gx v 1 (tg l (σ 3 0)).2.1))) + ((σ 3 3) * (gx v 1 (tg l (σ 3 0)).2.2)))))) rfl ?_
    refine wp_al (n := 32) hM rfl (by decide) rfl (by omega) (by omega) ?_
    show mz_Wp shA none 50 (117, [some (.inr 3), some (.inr 1), some (.inr 9), some (.inl ((tg l (σ 3 0)).1)), some (.inl ((tg l (σ 3 0)).2.1)), some (.inl ((tg l (σ 3 0)).2.2)), none], [.inl (σ 19 ((tg l (σ 3 0)).2.1).toNat), .inl (σ 3 2), .inl ((σ 3 1) * (gy v 1 (tg l (σ 3 0)).1)), .inr 3], (mz_up σ 3 5 ((((σ 3 1) * (gx v 1 (tg l (σ 3 0)).1)) + ((σ 3 2) * (gx v 1 (tg l (σ 3 0)).2.1))) + ((σ 3 3) * (gx v 1 (tg l (σ 3 0)).2.2))))) _
    rw [k2.2.2.2]
    refine wp_go 7 hM (fr' := (129, [some (.inr 3), some (.inr 1), some (.inr 9), some (.inl ((tg l (σ 3 0)).1)), some (.inl ((tg l (σ 3 0)).2.1)), some (.inl ((tg l (σ 3 0)).2.2)), none], [.inl ((tg l (σ 3 0)).2.2), .inr 19, .inl (σ 3 3), .inl (((σ 3 1) * (gy v 1 (tg l (σ 3 0)).1)) + ((σ 3 2) * (gy v 1 (tg l (σ 3 0)).2.1))), .inr 3], (mz_up σ 3 5 ((((σ 3 1) * (gx v 1 (tg l (σ 3 0)).1)) + ((σ 3 2) * (gx v 1 (tg l (σ 3 0)).2.1))) + ((σ 3 3) * (gx v 1 (tg l (σ 3 0)).2.2)))))) rfl ?_
    refine wp_al (n := 32) hM rfl (by decide) rfl (by omega) (by omega) ?_
    show mz_Wp shA none 50 (130, [some (.inr 3), some (.inr 1), some (.inr 9), some (.inl ((tg l (σ 3 0)).1)), some (.inl ((tg l (σ 3 0)).2.1)), some (.inl ((tg l (σ 3 0)).2.2)), none], [.inl (σ 19 ((tg l (σ 3 0)).2.2).toNat), .inl (σ 3 3), .inl (((σ 3 1) * (gy v 1 (tg l (σ 3 0)).1)) + ((σ 3 2) * (gy v 1 (tg l (σ 3 0)).2.1))), .inr 3], (mz_up σ 3 5 ((((σ 3 1) * (gx v 1 (tg l (σ 3 0)).1)) + ((σ 3 2) * (gx v 1 (tg l (σ 3 0)).2.1))) + ((σ 3 3) * (gx v 1 (tg l (σ 3 0)).2.2))))) _
    rw [k3.2.2.2]
    refine wp_go 7 hM (fr' := (143, [some (.inr 3), some (.inr 1), some (.inr 9), some (.inl ((tg l (σ 3 0)).1)), some (.inl ((tg l (σ 3 0)).2.1)), some (.inl ((tg l (σ 3 0)).2.2)), none], [.inl ((((σ 3 1) * (gy v 1 (tg l (σ 3 0)).1)) + ((σ 3 2) * (gy v 1 (tg l (σ 3 0)).2.1))) + ((σ 3 3) * (gy v 1 (tg l (σ 3 0)).2.2))), .inl ((((σ 3 1) * (gx v 1 (tg l (σ 3 0)).1)) + ((σ 3 2) * (gx v 1 (tg l (σ 3 0)).2.1))) + ((σ 3 3) * (gx v 1 (tg l (σ 3 0)).2.2)))], (mz_up (mz_up σ 3 5 ((((σ 3 1) * (gx v 1 (tg l (σ 3 0)).1)) + ((σ 3 2) * (gx v 1 (tg l (σ 3 0)).2.1))) + ((σ 3 3) * (gx v 1 (tg l (σ 3 0)).2.2)))) 3 6 ((((σ 3 1) * (gy v 1 (tg l (σ 3 0)).1)) + ((σ 3 2) * (gy v 1 (tg l (σ 3 0)).2.1))) + ((σ 3 3) * (gy v 1 (tg l (σ 3 0)).2.2)))))) rfl ?_
    refine wp_calld (v := 1) (idx := 61) (j := 101) (N := mtX5_divisorOf) (as := [.inl ((((σ 3 1) * (gx v 1 (tg l (σ 3 0)).1)) + ((σ 3 2) * (gx v 1 (tg l (σ 3 0)).2.1))) + ((σ 3 3) * (gx v 1 (tg l (σ 3 0)).2.2))), .inl ((((σ 3 1) * (gy v 1 (tg l (σ 3 0)).1)) + ((σ 3 2) * (gy v 1 (tg l (σ 3 0)).2.1))) + ((σ 3 3) * (gy v 1 (tg l (σ 3 0)).2.2)))]) (rest := []) hM rfl (Or.inr ⟨rfl, rfl⟩) rfl (sp_X5_divisorOf  (mz_up (mz_up σ 3 5 ((((σ 3 1) * (gx v 1 (tg l (σ 3 0)).1)) + ((σ 3 2) * (gx v 1 (tg l (σ 3 0)).2.1))) + ((σ 3 3) * (gx v 1 (tg l (σ 3 0)).2.2)))) 3 6 ((((σ 3 1) * (gy v 1 (tg l (σ 3 0)).1)) + ((σ 3 2) * (gy v 1 (tg l (σ 3 0)).2.1))) + ((σ 3 3) * (gy v 1 (tg l (σ 3 0)).2.2)))) ((((σ 3 1) * (gx v 1 (tg l (σ 3 0)).1)) + ((σ 3 2) * (gx v 1 (tg l (σ 3 0)).2.1))) + ((σ 3 3) * (gx v 1 (tg l (σ 3 0)).2.2))) ((((σ 3 1) * (gy v 1 (tg l (σ 3 0)).1)) + ((σ 3 2) * (gy v 1 (tg l (σ 3 0)).2.1))) + ((σ 3 3) * (gy v 1 (tg l (σ 3 0)).2.2))) (by first | assumption | omega) (by first | assumption | omega) (by first | assumption | omega) (by first | assumption | omega)) ?_
    show mz_Wp shA none 50 (146, [some (.inr 3), some (.inr 1), some (.inr 9), some (.inl ((tg l (σ 3 0)).1)), some (.inl ((tg l (σ 3 0)).2.1)), some (.inl ((tg l (σ 3 0)).2.2)), none], [.inl (Int.gcd ((((σ 3 1) * (gx v 1 (tg l (σ 3 0)).1)) + ((σ 3 2) * (gx v 1 (tg l (σ 3 0)).2.1))) + ((σ 3 3) * (gx v 1 (tg l (σ 3 0)).2.2))) ((((σ 3 1) * (gy v 1 (tg l (σ 3 0)).1)) + ((σ 3 2) * (gy v 1 (tg l (σ 3 0)).2.1))) + ((σ 3 3) * (gy v 1 (tg l (σ 3 0)).2.2))) : Int)], (mz_up (mz_up σ 3 5 ((((σ 3 1) * (gx v 1 (tg l (σ 3 0)).1)) + ((σ 3 2) * (gx v 1 (tg l (σ 3 0)).2.1))) + ((σ 3 3) * (gx v 1 (tg l (σ 3 0)).2.2)))) 3 6 ((((σ 3 1) * (gy v 1 (tg l (σ 3 0)).1)) + ((σ 3 2) * (gy v 1 (tg l (σ 3 0)).2.1))) + ((σ 3 3) * (gy v 1 (tg l (σ 3 0)).2.2))))) _
    refine wp_go 2 hM (fr' := (150, [some (.inr 3), some (.inr 1), some (.inr 9), some (.inl ((tg l (σ 3 0)).1)), some (.inl ((tg l (σ 3 0)).2.1)), some (.inl ((tg l (σ 3 0)).2.2)), none], [.inl (σ 3 4), .inl (Int.gcd ((((σ 3 1) * (gx v 1 (tg l (σ 3 0)).1)) + ((σ 3 2) * (gx v 1 (tg l (σ 3 0)).2.1))) + ((σ 3 3) * (gx v 1 (tg l (σ 3 0)).2.2))) ((((σ 3 1) * (gy v 1 (tg l (σ 3 0)).1)) + ((σ 3 2) * (gy v 1 (tg l (σ 3 0)).2.1))) + ((σ 3 3) * (gy v 1 (tg l (σ 3 0)).2.2))) : Int)], (mz_up (mz_up σ 3 5 ((((σ 3 1) * (gx v 1 (tg l (σ 3 0)).1)) + ((σ 3 2) * (gx v 1 (tg l (σ 3 0)).2.1))) + ((σ 3 3) * (gx v 1 (tg l (σ 3 0)).2.2)))) 3 6 ((((σ 3 1) * (gy v 1 (tg l (σ 3 0)).1)) + ((σ 3 2) * (gy v 1 (tg l (σ 3 0)).2.1))) + ((σ 3 3) * (gy v 1 (tg l (σ 3 0)).2.2)))))) rfl ?_
    refine wp_calld (v := 1) (idx := 61) (j := 101) (N := mtX5_divisorOf) (as := [.inl (Int.gcd ((((σ 3 1) * (gx v 1 (tg l (σ 3 0)).1)) + ((σ 3 2) * (gx v 1 (tg l (σ 3 0)).2.1))) + ((σ 3 3) * (gx v 1 (tg l (σ 3 0)).2.2))) ((((σ 3 1) * (gy v 1 (tg l (σ 3 0)).1)) + ((σ 3 2) * (gy v 1 (tg l (σ 3 0)).2.1))) + ((σ 3 3) * (gy v 1 (tg l (σ 3 0)).2.2))) : Int), .inl (σ 3 4)]) (rest := []) hM rfl (Or.inr ⟨rfl, rfl⟩) rfl (sp_X5_divisorOf  (mz_up (mz_up σ 3 5 ((((σ 3 1) * (gx v 1 (tg l (σ 3 0)).1)) + ((σ 3 2) * (gx v 1 (tg l (σ 3 0)).2.1))) + ((σ 3 3) * (gx v 1 (tg l (σ 3 0)).2.2)))) 3 6 ((((σ 3 1) * (gy v 1 (tg l (σ 3 0)).1)) + ((σ 3 2) * (gy v 1 (tg l (σ 3 0)).2.1))) + ((σ 3 3) * (gy v 1 (tg l (σ 3 0)).2.2)))) (Int.gcd ((((σ 3 1) * (gx v 1 (tg l (σ 3 0)).1)) + ((σ 3 2) * (gx v 1 (tg l (σ 3 0)).2.1))) + ((σ 3 3) * (gx v 1 (tg l (σ 3 0)).2.2))) ((((σ 3 1) * (gy v 1 (tg l (σ 3 0)).1)) + ((σ 3 2) * (gy v 1 (tg l (σ 3 0)).2.1))) + ((σ 3 3) * (gy v 1 (tg l (σ 3 0)).2.2))) : Int) (σ 3 4) (by first | assumption | omega) (by first | assumption | omega) (by first | assumption | omega) (by first | assumption | omega)) ?_
    show mz_Wp shA none 50 (153, [some (.inr 3), some (.inr 1), some (.inr 9), some (.inl ((tg l (σ 3 0)).1)), some (.inl ((tg l (σ 3 0)).2.1)), some (.inl ((tg l (σ 3 0)).2.2)), none], [.inl (Int.gcd (Int.gcd ((((σ 3 1) * (gx v 1 (tg l (σ 3 0)).1)) + ((σ 3 2) * (gx v 1 (tg l (σ 3 0)).2.1))) + ((σ 3 3) * (gx v 1 (tg l (σ 3 0)).2.2))) ((((σ 3 1) * (gy v 1 (tg l (σ 3 0)).1)) + ((σ 3 2) * (gy v 1 (tg l (σ 3 0)).2.1))) + ((σ 3 3) * (gy v 1 (tg l (σ 3 0)).2.2))) : Int) (σ 3 4) : Int)], (mz_up (mz_up σ 3 5 ((((σ 3 1) * (gx v 1 (tg l (σ 3 0)).1)) + ((σ 3 2) * (gx v 1 (tg l (σ 3 0)).2.1))) + ((σ 3 3) * (gx v 1 (tg l (σ 3 0)).2.2)))) 3 6 ((((σ 3 1) * (gy v 1 (tg l (σ 3 0)).1)) + ((σ 3 2) * (gy v 1 (tg l (σ 3 0)).2.1))) + ((σ 3 3) * (gy v 1 (tg l (σ 3 0)).2.2))))) _
    refine wp_go 5 hM (fr' := (162, [some (.inr 3), some (.inr 1), some (.inr 9), some (.inl ((tg l (σ 3 0)).1)), some (.inl ((tg l (σ 3 0)).2.1)), some (.inl ((tg l (σ 3 0)).2.2)), some (.inl (Int.gcd (Int.gcd ((((σ 3 1) * (gx v 1 (tg l (σ 3 0)).1)) + ((σ 3 2) * (gx v 1 (tg l (σ 3 0)).2.1))) + ((σ 3 3) * (gx v 1 (tg l (σ 3 0)).2.2))) ((((σ 3 1) * (gy v 1 (tg l (σ 3 0)).1)) + ((σ 3 2) * (gy v 1 (tg l (σ 3 0)).2.1))) + ((σ 3 3) * (gy v 1 (tg l (σ 3 0)).2.2))) : Int) (σ 3 4) : Int))], [.inl (Int.gcd (Int.gcd ((((σ 3 1) * (gx v 1 (tg l (σ 3 0)).1)) + ((σ 3 2) * (gx v 1 (tg l (σ 3 0)).2.1))) + ((σ 3 3) * (gx v 1 (tg l (σ 3 0)).2.2))) ((((σ 3 1) * (gy v 1 (tg l (σ 3 0)).1)) + ((σ 3 2) * (gy v 1 (tg l (σ 3 0)).2.1))) + ((σ 3 3) * (gy v 1 (tg l (σ 3 0)).2.2))) : Int) (σ 3 4) : Int), .inl ((((σ 3 1) * (gx v 1 (tg l (σ 3 0)).1)) + ((σ 3 2) * (gx v 1 (tg l (σ 3 0)).2.1))) + ((σ 3 3) * (gx v 1 (tg l (σ 3 0)).2.2))), .inr 3], (mz_up (mz_up σ 3 5 ((((σ 3 1) * (gx v 1 (tg l (σ 3 0)).1)) + ((σ 3 2) * (gx v 1 (tg l (σ 3 0)).2.1))) + ((σ 3 3) * (gx v 1 (tg l (σ 3 0)).2.2)))) 3 6 ((((σ 3 1) * (gy v 1 (tg l (σ 3 0)).1)) + ((σ 3 2) * (gy v 1 (tg l (σ 3 0)).2.1))) + ((σ 3 3) * (gy v 1 (tg l (σ 3 0)).2.2)))))) rfl ?_
    refine wp_calld (v := 1) (idx := 65) (j := 102) (N := mtX5_shortened) (as := [.inl ((((σ 3 1) * (gx v 1 (tg l (σ 3 0)).1)) + ((σ 3 2) * (gx v 1 (tg l (σ 3 0)).2.1))) + ((σ 3 3) * (gx v 1 (tg l (σ 3 0)).2.2))), .inl (Int.gcd (Int.gcd ((((σ 3 1) * (gx v 1 (tg l (σ 3 0)).1)) + ((σ 3 2) * (gx v 1 (tg l (σ 3 0)).2.1))) + ((σ 3 3) * (gx v 1 (tg l (σ 3 0)).2.2))) ((((σ 3 1) * (gy v 1 (tg l (σ 3 0)).1)) + ((σ 3 2) * (gy v 1 (tg l (σ 3 0)).2.1))) + ((σ 3 3) * (gy v 1 (tg l (σ 3 0)).2.2))) : Int) (σ 3 4) : Int)]) (rest := [.inr 3]) hM rfl (Or.inr ⟨rfl, rfl⟩) rfl (sp_X5_shortened  (mz_up (mz_up σ 3 5 ((((σ 3 1) * (gx v 1 (tg l (σ 3 0)).1)) + ((σ 3 2) * (gx v 1 (tg l (σ 3 0)).2.1))) + ((σ 3 3) * (gx v 1 (tg l (σ 3 0)).2.2)))) 3 6 ((((σ 3 1) * (gy v 1 (tg l (σ 3 0)).1)) + ((σ 3 2) * (gy v 1 (tg l (σ 3 0)).2.1))) + ((σ 3 3) * (gy v 1 (tg l (σ 3 0)).2.2)))) ((((σ 3 1) * (gx v 1 (tg l (σ 3 0)).1)) + ((σ 3 2) * (gx v 1 (tg l (σ 3 0)).2.1))) + ((σ 3 3) * (gx v 1 (tg l (σ 3 0)).2.2))) (Int.gcd (Int.gcd ((((σ 3 1) * (gx v 1 (tg l (σ 3 0)).1)) + ((σ 3 2) * (gx v 1 (tg l (σ 3 0)).2.1))) + ((σ 3 3) * (gx v 1 (tg l (σ 3 0)).2.2))) ((((σ 3 1) * (gy v 1 (tg l (σ 3 0)).1)) + ((σ 3 2) * (gy v 1 (tg l (σ 3 0)).2.1))) + ((σ 3 3) * (gy v 1 (tg l (σ 3 0)).2.2))) : Int) (σ 3 4) : Int) (by first | assumption | omega) (by first | assumption | omega)) ?_
    show mz_Wp shA none 50 (165, [some (.inr 3), some (.inr 1), some (.inr 9), some (.inl ((tg l (σ 3 0)).1)), some (.inl ((tg l (σ 3 0)).2.1)), some (.inl ((tg l (σ 3 0)).2.2)), some (.inl (Int.gcd (Int.gcd ((((σ 3 1) * (gx v 1 (tg l (σ 3 0)).1)) + ((σ 3 2) * (gx v 1 (tg l (σ 3 0)).2.1))) + ((σ 3 3) * (gx v 1 (tg l (σ 3 0)).2.2))) ((((σ 3 1) * (gy v 1 (tg l (σ 3 0)).1)) + ((σ 3 2) * (gy v 1 (tg l (σ 3 0)).2.1))) + ((σ 3 3) * (gy v 1 (tg l (σ 3 0)).2.2))) : Int) (σ 3 4) : Int))], [.inl (shq ((((σ 3 1) * (gx v 1 (tg l (σ 3 0)).1)) + ((σ 3 2) * (gx v 1 (tg l (σ 3 0)).2.1))) + ((σ 3 3) * (gx v 1 (tg l (σ 3 0)).2.2))) (Int.gcd (Int.gcd ((((σ 3 1) * (gx v 1 (tg l (σ 3 0)).1)) + ((σ 3 2) * (gx v 1 (tg l (σ 3 0)).2.1))) + ((σ 3 3) * (gx v 1 (tg l (σ 3 0)).2.2))) ((((σ 3 1) * (gy v 1 (tg l (σ 3 0)).1)) + ((σ 3 2) * (gy v 1 (tg l (σ 3 0)).2.1))) + ((σ 3 3) * (gy v 1 (tg l (σ 3 0)).2.2))) : Int) (σ 3 4) : Int)), .inr 3], (mz_up (mz_up σ 3 5 ((((σ 3 1) * (gx v 1 (tg l (σ 3 0)).1)) + ((σ 3 2) * (gx v 1 (tg l (σ 3 0)).2.1))) + ((σ 3 3) * (gx v 1 (tg l (σ 3 0)).2.2)))) 3 6 ((((σ 3 1) * (gy v 1 (tg l (σ 3 0)).1)) + ((σ 3 2) * (gy v 1 (tg l (σ 3 0)).2.1))) + ((σ 3 3) * (gy v 1 (tg l (σ 3 0)).2.2))))) _
    refine wp_go 5 hM (fr' := (175, [some (.inr 3), some (.inr 1), some (.inr 9), some (.inl ((tg l (σ 3 0)).1)), some (.inl ((tg l (σ 3 0)).2.1)), some (.inl ((tg l (σ 3 0)).2.2)), some (.inl (Int.gcd (Int.gcd ((((σ 3 1) * (gx v 1 (tg l (σ 3 0)).1)) + ((σ 3 2) * (gx v 1 (tg l (σ 3 0)).2.1))) + ((σ 3 3) * (gx v 1 (tg l (σ 3 0)).2.2))) ((((σ 3 1) * (gy v 1 (tg l (σ 3 0)).1)) + ((σ 3 2) * (gy v 1 (tg l (σ 3 0)).2.1))) + ((σ 3 3) * (gy v 1 (tg l (σ 3 0)).2.2))) : Int) (σ 3 4) : Int))], [.inl (Int.gcd (Int.gcd ((((σ 3 1) * (gx v 1 (tg l (σ 3 0)).1)) + ((σ 3 2) * (gx v 1 (tg l (σ 3 0)).2.1))) + ((σ 3 3) * (gx v 1 (tg l (σ 3 0)).2.2))) ((((σ 3 1) * (gy v 1 (tg l (σ 3 0)).1)) + ((σ 3 2) * (gy v 1 (tg l (σ 3 0)).2.1))) + ((σ 3 3) * (gy v 1 (tg l (σ 3 0)).2.2))) : Int) (σ 3 4) : Int), .inl ((((σ 3 1) * (gy v 1 (tg l (σ 3 0)).1)) + ((σ 3 2) * (gy v 1 (tg l (σ 3 0)).2.1))) + ((σ 3 3) * (gy v 1 (tg l (σ 3 0)).2.2))), .inr 3], (mz_up (mz_up (mz_up σ 3 5 ((((σ 3 1) * (gx v 1 (tg l (σ 3 0)).1)) + ((σ 3 2) * (gx v 1 (tg l (σ 3 0)).2.1))) + ((σ 3 3) * (gx v 1 (tg l (σ 3 0)).2.2)))) 3 6 ((((σ 3 1) * (gy v 1 (tg l (σ 3 0)).1)) + ((σ 3 2) * (gy v 1 (tg l (σ 3 0)).2.1))) + ((σ 3 3) * (gy v 1 (tg l (σ 3 0)).2.2)))) 3 5 (shq ((((σ 3 1) * (gx v 1 (tg l (σ 3 0)).1)) + ((σ 3 2) * (gx v 1 (tg l (σ 3 0)).2.1))) + ((σ 3 3) * (gx v 1 (tg l (σ 3 0)).2.2))) (Int.gcd (Int.gcd ((((σ 3 1) * (gx v 1 (tg l (σ 3 0)).1)) + ((σ 3 2) * (gx v 1 (tg l (σ 3 0)).2.1))) + ((σ 3 3) * (gx v 1 (tg l (σ 3 0)).2.2))) ((((σ 3 1) * (gy v 1 (tg l (σ 3 0)).1)) + ((σ 3 2) * (gy v 1 (tg l (σ 3 0)).2.1))) + ((σ 3 3) * (gy v 1 (tg l (σ 3 0)).2.2))) : Int) (σ 3 4) : Int))))) rfl ?_
    refine wp_calld (v := 1) (idx := 65) (j := 102) (N := mtX5_shortened) (as := [.inl ((((σ 3 1) * (gy v 1 (tg l (σ 3 0)).1)) + ((σ 3 2) * (gy v 1 (tg l (σ 3 0)).2.1))) + ((σ 3 3) * (gy v 1 (tg l (σ 3 0)).2.2))), .inl (Int.gcd (Int.gcd ((((σ 3 1) * (gx v 1 (tg l (σ 3 0)).1)) + ((σ 3 2) * (gx v 1 (tg l (σ 3 0)).2.1))) + ((σ 3 3) * (gx v 1 (tg l (σ 3 0)).2.2))) ((((σ 3 1) * (gy v 1 (tg l (σ 3 0)).1)) + ((σ 3 2) * (gy v 1 (tg l (σ 3 0)).2.1))) + ((σ 3 3) * (gy v 1 (tg l (σ 3 0)).2.2))) : Int) (σ 3 4) : Int)]) (rest := [.inr 3]) hM rfl (Or.inr ⟨rfl, rfl⟩) rfl (sp_X5_shortened  (mz_up (mz_up (mz_up σ 3 5 ((((σ 3 1) * (gx v 1 (tg l (σ 3 0)).1)) + ((σ 3 2) * (gx v 1 (tg l (σ 3 0)).2.1))) + ((σ 3 3) * (gx v 1 (tg l (σ 3 0)).2.2)))) 3 6 ((((σ 3 1) * (gy v 1 (tg l (σ 3 0)).1)) + ((σ 3 2) * (gy v 1 (tg l (σ 3 0)).2.1))) + ((σ 3 3) * (gy v 1 (tg l (σ 3 0)).2.2)))) 3 5 (shq ((((σ 3 1) * (gx v 1 (tg l (σ 3 0)).1)) + ((σ 3 2) * (gx v 1 (tg l (σ 3 0)).2.1))) + ((σ 3 3) * (gx v 1 (tg l (σ 3 0)).2.2))) (Int.gcd (Int.gcd ((((σ 3 1) * (gx v 1 (tg l (σ 3 0)).1)) + ((σ 3 2) * (gx v 1 (tg l (σ 3 0)).2.1))) + ((σ 3 3) * (gx v 1 (tg l (σ 3 0)).2.2))) ((((σ 3 1) * (gy v 1 (tg l (σ 3 0)).1)) + ((σ 3 2) * (gy v 1 (tg l (σ 3 0)).2.1))) + ((σ 3 3) * (gy v 1 (tg l (σ 3 0)).2.2))) : Int) (σ 3 4) : Int))) ((((σ 3 1) * (gy v 1 (tg l (σ 3 0)).1)) + ((σ 3 2) * (gy v 1 (tg l (σ 3 0)).2.1))) + ((σ 3 3) * (gy v 1 (tg l (σ 3 0)).2.2))) (Int.gcd (Int.gcd ((((σ 3 1) * (gx v 1 (tg l (σ 3 0)).1)) + ((σ 3 2) * (gx v 1 (tg l (σ 3 0)).2.1))) + ((σ 3 3) * (gx v 1 (tg l (σ 3 0)).2.2))) ((((σ 3 1) * (gy v 1 (tg l (σ 3 0)).1)) + ((σ 3 2) * (gy v 1 (tg l (σ 3 0)).2.1))) + ((σ 3 3) * (gy v 1 (tg l (σ 3 0)).2.2))) : Int) (σ 3 4) : Int) (by first | assumption | omega) (by first | assumption | omega)) ?_
    show mz_Wp shA none 50 (178, [some (.inr 3), some (.inr 1), some (.inr 9), some (.inl ((tg l (σ 3 0)).1)), some (.inl ((tg l (σ 3 0)).2.1)), some (.inl ((tg l (σ 3 0)).2.2)), some (.inl (Int.gcd (Int.gcd ((((σ 3 1) * (gx v 1 (tg l (σ 3 0)).1)) + ((σ 3 2) * (gx v 1 (tg l (σ 3 0)).2.1))) + ((σ 3 3) * (gx v 1 (tg l (σ 3 0)).2.2))) ((((σ 3 1) * (gy v 1 (tg l (σ 3 0)).1)) + ((σ 3 2) * (gy v 1 (tg l (σ 3 0)).2.1))) + ((σ 3 3) * (gy v 1 (tg l (σ 3 0)).2.2))) : Int) (σ 3 4) : Int))], [.inl (shq ((((σ 3 1) * (gy v 1 (tg l (σ 3 0)).1)) + ((σ 3 2) * (gy v 1 (tg l (σ 3 0)).2.1))) + ((σ 3 3) * (gy v 1 (tg l (σ 3 0)).2.2))) (Int.gcd (Int.gcd ((((σ 3 1) * (gx v 1 (tg l (σ 3 0)).1)) + ((σ 3 2) * (gx v 1 (tg l (σ 3 0)).2.1))) + ((σ 3 3) * (gx v 1 (tg l (σ 3 0)).2.2))) ((((σ 3 1) * (gy v 1 (tg l (σ 3 0)).1)) + ((σ 3 2) * (gy v 1 (tg l (σ 3 0)).2.1))) + ((σ 3 3) * (gy v 1 (tg l (σ 3 0)).2.2))) : Int) (σ 3 4) : Int)), .inr 3], (mz_up (mz_up (mz_up σ 3 5 ((((σ 3 1) * (gx v 1 (tg l (σ 3 0)).1)) + ((σ 3 2) * (gx v 1 (tg l (σ 3 0)).2.1))) + ((σ 3 3) * (gx v 1 (tg l (σ 3 0)).2.2)))) 3 6 ((((σ 3 1) * (gy v 1 (tg l (σ 3 0)).1)) + ((σ 3 2) * (gy v 1 (tg l (σ 3 0)).2.1))) + ((σ 3 3) * (gy v 1 (tg l (σ 3 0)).2.2)))) 3 5 (shq ((((σ 3 1) * (gx v 1 (tg l (σ 3 0)).1)) + ((σ 3 2) * (gx v 1 (tg l (σ 3 0)).2.1))) + ((σ 3 3) * (gx v 1 (tg l (σ 3 0)).2.2))) (Int.gcd (Int.gcd ((((σ 3 1) * (gx v 1 (tg l (σ 3 0)).1)) + ((σ 3 2) * (gx v 1 (tg l (σ 3 0)).2.1))) + ((σ 3 3) * (gx v 1 (tg l (σ 3 0)).2.2))) ((((σ 3 1) * (gy v 1 (tg l (σ 3 0)).1)) + ((σ 3 2) * (gy v 1 (tg l (σ 3 0)).2.1))) + ((σ 3 3) * (gy v 1 (tg l (σ 3 0)).2.2))) : Int) (σ 3 4) : Int)))) _
    refine wp_go 5 hM (fr' := (188, [some (.inr 3), some (.inr 1), some (.inr 9), some (.inl ((tg l (σ 3 0)).1)), some (.inl ((tg l (σ 3 0)).2.1)), some (.inl ((tg l (σ 3 0)).2.2)), some (.inl (Int.gcd (Int.gcd ((((σ 3 1) * (gx v 1 (tg l (σ 3 0)).1)) + ((σ 3 2) * (gx v 1 (tg l (σ 3 0)).2.1))) + ((σ 3 3) * (gx v 1 (tg l (σ 3 0)).2.2))) ((((σ 3 1) * (gy v 1 (tg l (σ 3 0)).1)) + ((σ 3 2) * (gy v 1 (tg l (σ 3 0)).2.1))) + ((σ 3 3) * (gy v 1 (tg l (σ 3 0)).2.2))) : Int) (σ 3 4) : Int))], [.inl (Int.gcd (Int.gcd ((((σ 3 1) * (gx v 1 (tg l (σ 3 0)).1)) + ((σ 3 2) * (gx v 1 (tg l (σ 3 0)).2.1))) + ((σ 3 3) * (gx v 1 (tg l (σ 3 0)).2.2))) ((((σ 3 1) * (gy v 1 (tg l (σ 3 0)).1)) + ((σ 3 2) * (gy v 1 (tg l (σ 3 0)).2.1))) + ((σ 3 3) * (gy v 1 (tg l (σ 3 0)).2.2))) : Int) (σ 3 4) : Int), .inl (σ 3 4), .inr 3], (mz_up (mz_up (mz_up (mz_up σ 3 5 ((((σ 3 1) * (gx v 1 (tg l (σ 3 0)).1)) + ((σ 3 2) * (gx v 1 (tg l (σ 3 0)).2.1))) + ((σ 3 3) * (gx v 1 (tg l (σ 3 0)).2.2)))) 3 6 ((((σ 3 1) * (gy v 1 (tg l (σ 3 0)).1)) + ((σ 3 2) * (gy v 1 (tg l (σ 3 0)).2.1))) + ((σ 3 3) * (gy v 1 (tg l (σ 3 0)).2.2)))) 3 5 (shq ((((σ 3 1) * (gx v 1 (tg l (σ 3 0)).1)) + ((σ 3 2) * (gx v 1 (tg l (σ 3 0)).2.1))) + ((σ 3 3) * (gx v 1 (tg l (σ 3 0)).2.2))) (Int.gcd (Int.gcd ((((σ 3 1) * (gx v 1 (tg l (σ 3 0)).1)) + ((σ 3 2) * (gx v 1 (tg l (σ 3 0)).2.1))) + ((σ 3 3) * (gx v 1 (tg l (σ 3 0)).2.2))) ((((σ 3 1) * (gy v 1 (tg l (σ 3 0)).1)) + ((σ 3 2) * (gy v 1 (tg l (σ 3 0)).2.1))) + ((σ 3 3) * (gy v 1 (tg l (σ 3 0)).2.2))) : Int) (σ 3 4) : Int))) 3 6 (shq ((((σ 3 1) * (gy v 1 (tg l (σ 3 0)).1)) + ((σ 3 2) * (gy v 1 (tg l (σ 3 0)).2.1))) + ((σ 3 3) * (gy v 1 (tg l (σ 3 0)).2.2))) (Int.gcd (Int.gcd ((((σ 3 1) * (gx v 1 (tg l (σ 3 0)).1)) + ((σ 3 2) * (gx v 1 (tg l (σ 3 0)).2.1))) + ((σ 3 3) * (gx v 1 (tg l (σ 3 0)).2.2))) ((((σ 3 1) * (gy v 1 (tg l (σ 3 0)).1)) + ((σ 3 2) * (gy v 1 (tg l (σ 3 0)).2.1))) + ((σ 3 3) * (gy v 1 (tg l (σ 3 0)).2.2))) : Int) (σ 3 4) : Int))))) rfl ?_
    refine wp_calld (v := 1) (idx := 65) (j := 102) (N := mtX5_shortened) (as := [.inl (σ 3 4), .inl (Int.gcd (Int.gcd ((((σ 3 1) * (gx v 1 (tg l (σ 3 0)).1)) + ((σ 3 2) * (gx v 1 (tg l (σ 3 0)).2.1))) + ((σ 3 3) * (gx v 1 (tg l (σ 3 0)).2.2))) ((((σ 3 1) * (gy v 1 (tg l (σ 3 0)).1)) + ((σ 3 2) * (gy v 1 (tg l (σ 3 0)).2.1))) + ((σ 3 3) * (gy v 1 (tg l (σ 3 0)).2.2))) : Int) (σ 3 4) : Int)]) (rest := [.inr 3]) hM rfl (Or.inr ⟨rfl, rfl⟩) rfl (sp_X5_shortened  (mz_up (mz_up (mz_up (mz_up σ 3 5 ((((σ 3 1) * (gx v 1 (tg l (σ 3 0)).1)) + ((σ 3 2) * (gx v 1 (tg l (σ 3 0)).2.1))) + ((σ 3 3) * (gx v 1 (tg l (σ 3 0)).2.2)))) 3 6 ((((σ 3 1) * (gy v 1 (tg l (σ 3 0)).1)) + ((σ 3 2) * (gy v 1 (tg l (σ 3 0)).2.1))) + ((σ 3 3) * (gy v 1 (tg l (σ 3 0)).2.2)))) 3 5 (shq ((((σ 3 1) * (gx v 1 (tg l (σ 3 0)).1)) + ((σ 3 2) * (gx v 1 (tg l (σ 3 0)).2.1))) + ((σ 3 3) * (gx v 1 (tg l (σ 3 0)).2.2))) (Int.gcd (Int.gcd ((((σ 3 1) * (gx v 1 (tg l (σ 3 0)).1)) + ((σ 3 2) * (gx v 1 (tg l (σ 3 0)).2.1))) + ((σ 3 3) * (gx v 1 (tg l (σ 3 0)).2.2))) ((((σ 3 1) * (gy v 1 (tg l (σ 3 0)).1)) + ((σ 3 2) * (gy v 1 (tg l (σ 3 0)).2.1))) + ((σ 3 3) * (gy v 1 (tg l (σ 3 0)).2.2))) : Int) (σ 3 4) : Int))) 3 6 (shq ((((σ 3 1) * (gy v 1 (tg l (σ 3 0)).1)) + ((σ 3 2) * (gy v 1 (tg l (σ 3 0)).2.1))) + ((σ 3 3) * (gy v 1 (tg l (σ 3 0)).2.2))) (Int.gcd (Int.gcd ((((σ 3 1) * (gx v 1 (tg l (σ 3 0)).1)) + ((σ 3 2) * (gx v 1 (tg l (σ 3 0)).2.1))) + ((σ 3 3) * (gx v 1 (tg l (σ 3 0)).2.2))) ((((σ 3 1) * (gy v 1 (tg l (σ 3 0)).1)) + ((σ 3 2) * (gy v 1 (tg l (σ 3 0)).2.1))) + ((σ 3 3) * (gy v 1 (tg l (σ 3 0)).2.2))) : Int) (σ 3 4) : Int))) (σ 3 4) (Int.gcd (Int.gcd ((((σ 3 1) * (gx v 1 (tg l (σ 3 0)).1)) + ((σ 3 2) * (gx v 1 (tg l (σ 3 0)).2.1))) + ((σ 3 3) * (gx v 1 (tg l (σ 3 0)).2.2))) ((((σ 3 1) * (gy v 1 (tg l (σ 3 0)).1)) + ((σ 3 2) * (gy v 1 (tg l (σ 3 0)).2.1))) + ((σ 3 3) * (gy v 1 (tg l (σ 3 0)).2.2))) : Int) (σ 3 4) : Int) (by first | assumption | omega) (by first | assumption | omega)) ?_
    show mz_Wp shA none 50 (191, [some (.inr 3), some (.inr 1), some (.inr 9), some (.inl ((tg l (σ 3 0)).1)), some (.inl ((tg l (σ 3 0)).2.1)), some (.inl ((tg l (σ 3 0)).2.2)), some (.inl (Int.gcd (Int.gcd ((((σ 3 1) * (gx v 1 (tg l (σ 3 0)).1)) + ((σ 3 2) * (gx v 1 (tg l (σ 3 0)).2.1))) + ((σ 3 3) * (gx v 1 (tg l (σ 3 0)).2.2))) ((((σ 3 1) * (gy v 1 (tg l (σ 3 0)).1)) + ((σ 3 2) * (gy v 1 (tg l (σ 3 0)).2.1))) + ((σ 3 3) * (gy v 1 (tg l (σ 3 0)).2.2))) : Int) (σ 3 4) : Int))], [.inl (shq (σ 3 4) (Int.gcd (Int.gcd ((((σ 3 1) * (gx v 1 (tg l (σ 3 0)).1)) + ((σ 3 2) * (gx v 1 (tg l (σ 3 0)).2.1))) + ((σ 3 3) * (gx v 1 (tg l (σ 3 0)).2.2))) ((((σ 3 1) * (gy v 1 (tg l (σ 3 0)).1)) + ((σ 3 2) * (gy v 1 (tg l (σ 3 0)).2.1))) + ((σ 3 3) * (gy v 1 (tg l (σ 3 0)).2.2))) : Int) (σ 3 4) : Int)), .inr 3], (mz_up (mz_up (mz_up (mz_up σ 3 5 ((((σ 3 1) * (gx v 1 (tg l (σ 3 0)).1)) + ((σ 3 2) * (gx v 1 (tg l (σ 3 0)).2.1))) + ((σ 3 3) * (gx v 1 (tg l (σ 3 0)).2.2)))) 3 6 ((((σ 3 1) * (gy v 1 (tg l (σ 3 0)).1)) + ((σ 3 2) * (gy v 1 (tg l (σ 3 0)).2.1))) + ((σ 3 3) * (gy v 1 (tg l (σ 3 0)).2.2)))) 3 5 (shq ((((σ 3 1) * (gx v 1 (tg l (σ 3 0)).1)) + ((σ 3 2) * (gx v 1 (tg l (σ 3 0)).2.1))) + ((σ 3 3) * (gx v 1 (tg l (σ 3 0)).2.2))) (Int.gcd (Int.gcd ((((σ 3 1) * (gx v 1 (tg l (σ 3 0)).1)) + ((σ 3 2) * (gx v 1 (tg l (σ 3 0)).2.1))) + ((σ 3 3) * (gx v 1 (tg l (σ 3 0)).2.2))) ((((σ 3 1) * (gy v 1 (tg l (σ 3 0)).1)) + ((σ 3 2) * (gy v 1 (tg l (σ 3 0)).2.1))) + ((σ 3 3) * (gy v 1 (tg l (σ 3 0)).2.2))) : Int) (σ 3 4) : Int))) 3 6 (shq ((((σ 3 1) * (gy v 1 (tg l (σ 3 0)).1)) + ((σ 3 2) * (gy v 1 (tg l (σ 3 0)).2.1))) + ((σ 3 3) * (gy v 1 (tg l (σ 3 0)).2.2))) (Int.gcd (Int.gcd ((((σ 3 1) * (gx v 1 (tg l (σ 3 0)).1)) + ((σ 3 2) * (gx v 1 (tg l (σ 3 0)).2.1))) + ((σ 3 3) * (gx v 1 (tg l (σ 3 0)).2.2))) ((((σ 3 1) * (gy v 1 (tg l (σ 3 0)).1)) + ((σ 3 2) * (gy v 1 (tg l (σ 3 0)).2.1))) + ((σ 3 3) * (gy v 1 (tg l (σ 3 0)).2.2))) : Int) (σ 3 4) : Int)))) _
    refine wp_go 1 hM (fr' := (194, [some (.inr 3), some (.inr 1), some (.inr 9), some (.inl ((tg l (σ 3 0)).1)), some (.inl ((tg l (σ 3 0)).2.1)), some (.inl ((tg l (σ 3 0)).2.2)), some (.inl (Int.gcd (Int.gcd ((((σ 3 1) * (gx v 1 (tg l (σ 3 0)).1)) + ((σ 3 2) * (gx v 1 (tg l (σ 3 0)).2.1))) + ((σ 3 3) * (gx v 1 (tg l (σ 3 0)).2.2))) ((((σ 3 1) * (gy v 1 (tg l (σ 3 0)).1)) + ((σ 3 2) * (gy v 1 (tg l (σ 3 0)).2.1))) + ((σ 3 3) * (gy v 1 (tg l (σ 3 0)).2.2))) : Int) (σ 3 4) : Int))], [], (mz_up (mz_up (mz_up (mz_up (mz_up σ 3 5 ((((σ 3 1) * (gx v 1 (tg l (σ 3 0)).1)) + ((σ 3 2) * (gx v 1 (tg l (σ 3 0)).2.1))) + ((σ 3 3) * (gx v 1 (tg l (σ 3 0)).2.2)))) 3 6 ((((σ 3 1) * (gy v 1 (tg l (σ 3 0)).1)) + ((σ 3 2) * (gy v 1 (tg l (σ 3 0)).2.1))) + ((σ 3 3) * (gy v 1 (tg l (σ 3 0)).2.2)))) 3 5 (shq ((((σ 3 1) * (gx v 1 (tg l (σ 3 0)).1)) + ((σ 3 2) * (gx v 1 (tg l (σ 3 0)).2.1))) + ((σ 3 3) * (gx v 1 (tg l (σ 3 0)).2.2))) (Int.gcd (Int.gcd ((((σ 3 1) * (gx v 1 (tg l (σ 3 0)).1)) + ((σ 3 2) * (gx v 1 (tg l (σ 3 0)).2.1))) + ((σ 3 3) * (gx v 1 (tg l (σ 3 0)).2.2))) ((((σ 3 1) * (gy v 1 (tg l (σ 3 0)).1)) + ((σ 3 2) * (gy v 1 (tg l (σ 3 0)).2.1))) + ((σ 3 3) * (gy v 1 (tg l (σ 3 0)).2.2))) : Int) (σ 3 4) : Int))) 3 6 (shq ((((σ 3 1) * (gy v 1 (tg l (σ 3 0)).1)) + ((σ 3 2) * (gy v 1 (tg l (σ 3 0)).2.1))) + ((σ 3 3) * (gy v 1 (tg l (σ 3 0)).2.2))) (Int.gcd (Int.gcd ((((σ 3 1) * (gx v 1 (tg l (σ 3 0)).1)) + ((σ 3 2) * (gx v 1 (tg l (σ 3 0)).2.1))) + ((σ 3 3) * (gx v 1 (tg l (σ 3 0)).2.2))) ((((σ 3 1) * (gy v 1 (tg l (σ 3 0)).1)) + ((σ 3 2) * (gy v 1 (tg l (σ 3 0)).2.1))) + ((σ 3 3) * (gy v 1 (tg l (σ 3 0)).2.2))) : Int) (σ 3 4) : Int))) 3 7 (shq (σ 3 4) (Int.gcd (Int.gcd ((((σ 3 1) * (gx v 1 (tg l (σ 3 0)).1)) + ((σ 3 2) * (gx v 1 (tg l (σ 3 0)).2.1))) + ((σ 3 3) * (gx v 1 (tg l (σ 3 0)).2.2))) ((((σ 3 1) * (gy v 1 (tg l (σ 3 0)).1)) + ((σ 3 2) * (gy v 1 (tg l (σ 3 0)).2.1))) + ((σ 3 3) * (gy v 1 (tg l (σ 3 0)).2.2))) : Int) (σ 3 4) : Int))))) rfl ?_
    refine wp_retv hM rfl rfl ?_
    refine ⟨rfl, ⟨by simp [mz_up]; rfl, by simp [mz_up]; rfl, by simp [mz_up]; rfl⟩, fun i hi => ?_, ((((Fs_up.tr Fs_up).tr Fs_up).tr Fs_up).tr Fs_up)⟩
    rcases (show i = 0 ∨ i = 1 ∨ i = 2 ∨ i = 3 ∨ i = 4 by omega) with rfl | rfl | rfl | rfl | rfl <;> simp [mz_up]
  · replace c11 := b01_eq0 (cmp_ne_f c11)
    omega

set_option maxRecDepth 100000 in
set_option maxHeartbeats 4000000 in
theorem sp_X3_shortenShares  (σ : mz_G)  (h0 : 0 ≤ σ 3 1) (h1 : 0 ≤ σ 3 2) (h2 : 0 ≤ σ 3 3) (h3 : σ 3 1 ≤ 722) (h4 : σ 3 2 ≤ 722) (h5 : σ 3 3 ≤ 722) (h6 : 0 ≤ σ 3 4) (h7 : σ 3 4 ≤ 722) : mz_Cl shA 49 [.inr 3] σ (fun r σ' => r = none ∧ σ' = (mz_up (mz_up (mz_up (mz_up σ 3 1 (shq (σ 3 1) (Int.gcd (Int.gcd (σ 3 1) (σ 3 2)) (σ 3 3) : Int))) 3 2 (shq (σ 3 2) (Int.gcd (Int.gcd (σ 3 1) (σ 3 2)) (σ 3 3) : Int))) 3 3 (shq (σ 3 3) (Int.gcd (Int.gcd (σ 3 1) (σ 3 2)) (σ 3 3) : Int))) 3 4 (shq (σ 3 4) (Int.gcd (Int.gcd (σ 3 1) (σ 3 2)) (σ 3 3) : Int)))) := by
  have hM : mz_meth[49]? = some mtX3_shortenShares := rfl
  have g1 := gcd_le h0 h1
  have g2 := gcd_le g1.1 h2
  refine mz_Cl.of hM ?_
  show mz_Wp shA none 49 (0, [some (.inr 3), none], [], σ) _
  refine wp_go 4 hM (fr' := (8, [some (.inr 3), none], [.inl (σ 3 2), .inl (σ 3 1)], σ)) rfl ?_
  refine wp_calld (v := 1) (idx := 61) (j := 101) (N := mtX5_divisorOf) (as := [.inl (σ 3 1), .inl (σ 3 2)]) (rest := []) hM rfl (Or.inr ⟨rfl, rfl⟩) rfl (sp_X5_divisorOf  σ (σ 3 1) (σ 3 2) (by first | assumption | omega) (by first | assumption | omega) (by first | assumption | omega) (by first | assumption | omega)) ?_
  show mz_Wp shA none 49 (11, [some (.inr 3), none], [.inl (Int.gcd (σ 3 1) (σ 3 2) : Int)], σ) _
  refine wp_go 2 hM (fr' := (15, [some (.inr 3), none], [.inl (σ 3 3), .inl (Int.gcd (σ 3 1) (σ 3 2) : Int)], σ)) rfl ?_
  refine wp_calld (v := 1) (idx := 61) (j := 101) (N := mtX5_divisorOf) (as := [.inl (Int.gcd (σ 3 1) (σ 3 2) : Int), .inl (σ 3 3)]) (rest := []) hM rfl (Or.inr ⟨rfl, rfl⟩) rfl (sp_X5_divisorOf  σ (Int.gcd (σ 3 1) (σ 3 2) : Int) (σ 3 3) (by first | assumption | omega) (by first | assumption | omega) (by first | assumption | omega) (by first | assumption | omega)) ?_
  show mz_Wp shA none 49 (18, [some (.inr 3), none], [.inl (Int.gcd (Int.gcd (σ 3 1) (σ 3 2) : Int) (σ 3 3) : Int)], σ) _
  refine wp_go 5 hM (fr' := (25, [some (.inr 3), some (.inl (Int.gcd (Int.gcd (σ 3 1) (σ 3 2) : Int) (σ 3 3) : Int))], [.inl (Int.gcd (Int.gcd (σ 3 1) (σ 3 2) : Int) (σ 3 3) : Int), .inl (σ 3 1), .inr 3], σ)) rfl ?_
  refine wp_calld (v := 1) (idx := 65) (j := 102) (N := mtX5_shortened) (as := [.inl (σ 3 1), .inl (Int.gcd (Int.gcd (σ 3 1) (σ 3 2) : Int) (σ 3 3) : Int)]) (rest := [.inr 3]) hM rfl (Or.inr ⟨rfl, rfl⟩) rfl (sp_X5_shortened  σ (σ 3 1) (Int.gcd (Int.gcd (σ 3 1) (σ 3 2) : Int) (σ 3 3) : Int) (by first | assumption | omega) (by first | assumption | omega)) ?_
  show mz_Wp shA none 49 (28, [some (.inr 3), some (.inl (Int.gcd (Int.gcd (σ 3 1) (σ 3 2) : Int) (σ 3 3) : Int))], [.inl (shq (σ 3 1) (Int.gcd (Int.gcd (σ 3 1) (σ 3 2) : Int) (σ 3 3) : Int)), .inr 3], σ) _
  refine wp_go 5 hM (fr' := (37, [some (.inr 3), some (.inl (Int.gcd (Int.gcd (σ 3 1) (σ 3 2) : Int) (σ 3 3) : Int))], [.inl (Int.gcd (Int.gcd (σ 3 1) (σ 3 2) : Int) (σ 3 3) : Int), .inl (σ 3 2), .inr 3], (mz_up σ 3 1 (shq (σ 3 1) (Int.gcd (Int.gcd (σ 3 1) (σ 3 2) : Int) (σ 3 3) : Int))))) rfl ?_
  refine wp_calld (v := 1) (idx := 65) (j := 102) (N := mtX5_shortened) (as := [.inl (σ 3 2), .inl (Int.gcd (Int.gcd (σ 3 1) (σ 3 2) : Int) (σ 3 3) : Int)]) (rest := [.inr 3]) hM rfl (Or.inr ⟨rfl, rfl⟩) rfl (sp_X5_shortened  (mz_up σ 3 1 (shq (σ 3 1) (Int.gcd (Int.gcd (σ 3 1) (σ 3 2) : Int) (σ 3 3) : Int))) (σ 3 2) (Int.gcd (Int.gcd (σ 3 1) (σ 3 2) : Int) (σ 3 3) : Int) (by first | assumption | omega) (by first | assumption | omega)) ?_
  show mz_Wp shA none 49 (40, [some (.inr 3), some (.inl (Int.gcd (Int.gcd (σ 3 1) (σ 3 2) : Int) (σ 3 3) : Int))], [.inl (shq (σ 3 2) (Int.gcd (Int.gcd (σ 3 1) (σ 3 2) : Int) (σ 3 3) : Int)), .inr 3], (mz_up σ 3 1 (shq (σ 3 1) (Int.gcd (Int.gcd (σ 3 1) (σ 3 2) : Int) (σ 3 3) : Int)))) _
  refine wp_go 5 hM (fr' := (49, [some (.inr 3), some (.inl (Int.gcd (Int.gcd (σ 3 1) (σ 3 2) : Int) (σ 3 3) : Int))], [.inl (Int.gcd (Int.gcd (σ 3 1) (σ 3 2) : Int) (σ 3 3) : Int), .inl (σ 3 3), .inr 3], (mz_up (mz_up σ 3 1 (shq (σ 3 1) (Int.gcd (Int.gcd (σ 3 1) (σ 3 2) : Int) (σ 3 3) : Int))) 3 2 (shq (σ 3 2) (Int.gcd (Int.gcd (σ 3 1) (σ 3 2) : Int) (σ 3 3) : Int))))) rfl ?_
  refine wp_calld (v := 1) (idx := 65) (j := 102) (N := mtX5_shortened) (as := [.inl (σ 3 3), .inl (Int.gcd (Int.gcd (σ 3 1) (σ 3 2) : Int) (σ 3 3) : Int)]) (rest := [.inr 3]) hM rfl (Or.inr ⟨rfl, rfl⟩) rfl (sp_X5_shortened  (mz_up (mz_up σ 3 1 (shq (σ 3 1) (Int.gcd (Int.gcd (σ 3 1) (σ 3 2) : Int) (σ 3 3) : Int))) 3 2 (shq (σ 3 2) (Int.gcd (Int.gcd (σ 3 1) (σ 3 2) : Int) (σ 3 3) : Int))) (σ 3 3) (Int.gcd (Int.gcd (σ 3 1) (σ 3 2) : Int) (σ 3 3) : Int) (by first | assumption | omega) (by first | assumption | omega)) ?_
  show mz_Wp shA none 49 (52, [some (.inr 3), some (.inl (Int.gcd (Int.gcd (σ 3 1) (σ 3 2) : Int) (σ 3 3) : Int))], [.inl (shq (σ 3 3) (Int.gcd (Int.gcd (σ 3 1) (σ 3 2) : Int) (σ 3 3) : Int)), .inr 3], (mz_up (mz_up σ 3 1 (shq (σ 3 1) (Int.gcd (Int.gcd (σ 3 1) (σ 3 2) : Int) (σ 3 3) : Int))) 3 2 (shq (σ 3 2) (Int.gcd (Int.gcd (σ 3 1) (σ 3 2) : Int) (σ 3 3) : Int)))) _
  refine wp_go 5 hM (fr' := (61, [some (.inr 3), some (.inl (Int.gcd (Int.gcd (σ 3 1) (σ 3 2) : Int) (σ 3 3) : Int))], [.inl (Int.gcd (Int.gcd (σ 3 1) (σ 3 2) : Int) (σ 3 3) : Int), .inl (σ 3 4), .inr 3], (mz_up (mz_up (mz_up σ 3 1 (shq (σ 3 1) (Int.gcd (Int.gcd (σ 3 1) (σ 3 2) : Int) (σ 3 3) : Int))) 3 2 (shq (σ 3 2) (Int.gcd (Int.gcd (σ 3 1) (σ 3 2) : Int) (σ 3 3) : Int))) 3 3 (shq (σ 3 3) (Int.gcd (Int.gcd (σ 3 1) (σ 3 2) : Int) (σ 3 3) : Int))))) rfl ?_
  refine wp_calld (v := 1) (idx := 65) (j := 102) (N := mtX5_shortened) (as := [.inl (σ 3 4), .inl (Int.gcd (Int.gcd (σ 3 1) (σ 3 2) : Int) (σ 3 3) : Int)]) (rest := [.inr 3]) hM rfl (Or.inr ⟨rfl, rfl⟩) rfl (sp_X5_shortened  (mz_up (mz_up (mz_up σ 3 1 (shq (σ 3 1) (Int.gcd (Int.gcd (σ 3 1) (σ 3 2) : Int) (σ 3 3) : Int))) 3 2 (shq (σ 3 2) (Int.gcd (Int.gcd (σ 3 1) (σ 3 2) : Int) (σ 3 3) : Int))) 3 3 (shq (σ 3 3) (Int.gcd (Int.gcd (σ 3 1) (σ 3 2) : Int) (σ 3 3) : Int))) (σ 3 4) (Int.gcd (Int.gcd (σ 3 1) (σ 3 2) : Int) (σ 3 3) : Int) (by first | assumption | omega) (by first | assumption | omega)) ?_
  show mz_Wp shA none 49 (64, [some (.inr 3), some (.inl (Int.gcd (Int.gcd (σ 3 1) (σ 3 2) : Int) (σ 3 3) : Int))], [.inl (shq (σ 3 4) (Int.gcd (Int.gcd (σ 3 1) (σ 3 2) : Int) (σ 3 3) : Int)), .inr 3], (mz_up (mz_up (mz_up σ 3 1 (shq (σ 3 1) (Int.gcd (Int.gcd (σ 3 1) (σ 3 2) : Int) (σ 3 3) : Int))) 3 2 (shq (σ 3 2) (Int.gcd (Int.gcd (σ 3 1) (σ 3 2) : Int) (σ 3 3) : Int))) 3 3 (shq (σ 3 3) (Int.gcd (Int.gcd (σ 3 1) (σ 3 2) : Int) (σ 3 3) : Int)))) _
  refine wp_go 1 hM (fr' := (67, [some (.inr 3), some (.inl (Int.gcd (Int.gcd (σ 3 1) (σ 3 2) : Int) (σ 3 3) : Int))], [], (mz_up (mz_up (mz_up (mz_up σ 3 1 (shq (σ 3 1) (Int.gcd (Int.gcd (σ 3 1) (σ 3 2) : Int) (σ 3 3) : Int))) 3 2 (shq (σ 3 2) (Int.gcd (Int.gcd (σ 3 1) (σ 3 2) : Int) (σ 3 3) : Int))) 3 3 (shq (σ 3 3) (Int.gcd (Int.gcd (σ 3 1) (σ 3 2) : Int) (σ 3 3) : Int))) 3 4 (shq (σ 3 4) (Int.gcd (Int.gcd (σ 3 1) (σ 3 2) : Int) (σ 3 3) : Int))))) rfl ?_
  refine wp_retv hM rfl rfl ?_
  exact ⟨rfl, rfl⟩

set_option maxRecDepth 100000 in
set_option maxHeartbeats 4000000 in
theorem sp_X3_told  (σ : mz_G) (w : Int) (h0 : mz_R w) : mz_Cl shA 51 [.inr 3, .inl w] σ (fun r σ' => r = some (if w = 0 then σ 3 5 else if w = 1 then σ 3 6 else if w = 2 then σ 3 7 else -1) ∧ σ' = σ) := by
  have hM : mz_meth[51]? = some mtX3_told := rfl
  refine mz_Cl.of hM ?_
  show mz_Wp shA none 51 (0, [some (.inr 3), some (.inl w)], [], σ) _
  refine wp_go 1 hM (fr' := (1, [some (.inr 3), some (.inl w)], [.inl w], σ)) rfl ?_
  have hR1 : mz_R w := by omega
  rcases (show w = 0 ∨ w = 1 ∨ w = 2 ∨ (w < 0 ∨ 2 < w) by omega) with c1 | c1 | c1 | c1
  · refine wp_tsi (tgt := 28) (off := 27) hM rfl hR1 (by omega) (by rw [c1]; rfl) (by decide) ?_
    refine wp_go 2 hM (fr' := (32, [some (.inr 3), some (.inl w)], [.inl (σ 3 5)], σ)) rfl ?_
    refine wp_ret hM rfl (rfl) ?_
    exact ⟨by first | (rw [if_neg (by omega), if_neg (by omega), if_neg (by omega)]) | simp [c1], rfl⟩
  · refine wp_tsi (tgt := 33) (off := 32) hM rfl hR1 (by omega) (by rw [c1]; rfl) (by decide) ?_
    refine wp_go 2 hM (fr' := (37, [some (.inr 3), some (.inl w)], [.inl (σ 3 6)], σ)) rfl ?_
    refine wp_ret hM rfl (rfl) ?_
    exact ⟨by first | (rw [if_neg (by omega), if_neg (by omega), if_neg (by omega)]) | simp [c1], rfl⟩
  · refine wp_tsi (tgt := 38) (off := 37) hM rfl hR1 (by omega) (by rw [c1]; rfl) (by decide) ?_
    refine wp_go 2 hM (fr' := (42, [some (.inr 3), some (.inl w)], [.inl (σ 3 7)], σ)) rfl ?_
    refine wp_ret hM rfl (rfl) ?_
    exact ⟨by first | (rw [if_neg (by omega), if_neg (by omega), if_neg (by omega)]) | simp [c1], rfl⟩
  · refine wp_tso (tgt := 43) hM rfl (by decide) hR1 c1 ?_
    refine wp_go 1 hM (fr' := (44, [some (.inr 3), some (.inl w)], [.inl (-1)], σ)) rfl ?_
    refine wp_ret hM rfl (rfl) ?_
    exact ⟨by first | (rw [if_neg (by omega), if_neg (by omega), if_neg (by omega)]) | simp [c1], rfl⟩

set_option maxRecDepth 100000 in
set_option maxHeartbeats 4000000 in
theorem sp_X0_least  (σ : mz_G) (a : Int) (b : Int) (c : Int) (h0 : mz_R a) (h1 : mz_R b) (h2 : mz_R c) : mz_Cl shA 2 [.inl a, .inl b, .inl c] σ (fun r σ' => r = some (min a (min b c)) ∧ σ' = σ) := by
  have hM : mz_meth[2]? = some mtX0_least := rfl
  refine mz_Cl.of hM ?_
  show mz_Wp shA none 2 (0, [some (.inl a), some (.inl b), some (.inl c)], [], σ) _
  refine wp_go 3 hM (fr' := (3, [some (.inl a), some (.inl b), some (.inl c)], [.inl c, .inl b, .inl a], σ)) rfl ?_
  refine wp_calld (v := 1) (idx := 85) (j := 181) (N := mtJ9_min_7cf53) (as := [.inl b, .inl c]) (rest := [.inl a]) hM rfl (Or.inr ⟨rfl, rfl⟩) rfl (sp_J9_min_7cf53  σ b c (by first | assumption | omega) (by first | assumption | omega)) ?_
  show mz_Wp shA none 2 (6, [some (.inl a), some (.inl b), some (.inl c)], [.inl (min b c), .inl a], σ) _
  refine wp_calld (v := 1) (idx := 85) (j := 181) (N := mtJ9_min_7cf53) (as := [.inl a, .inl (min b c)]) (rest := []) hM rfl (Or.inr ⟨rfl, rfl⟩) rfl (sp_J9_min_7cf53  σ a (min b c) (by first | assumption | omega) (by first | assumption | omega)) ?_
  show mz_Wp shA none 2 (9, [some (.inl a), some (.inl b), some (.inl c)], [.inl (min a (min b c))], σ) _
  refine wp_ret hM rfl (rfl) ?_
  exact ⟨rfl, rfl⟩

set_option maxRecDepth 100000 in
set_option maxHeartbeats 4000000 in
theorem sp_X0_greatest  (σ : mz_G) (a : Int) (b : Int) (c : Int) (h0 : mz_R a) (h1 : mz_R b) (h2 : mz_R c) : mz_Cl shA 3 [.inl a, .inl b, .inl c] σ (fun r σ' => r = some (max a (max b c)) ∧ σ' = σ) := by
  have hM : mz_meth[3]? = some mtX0_greatest := rfl
  refine mz_Cl.of hM ?_
  show mz_Wp shA none 3 (0, [some (.inl a), some (.inl b), some (.inl c)], [], σ) _
  refine wp_go 3 hM (fr' := (3, [some (.inl a), some (.inl b), some (.inl c)], [.inl c, .inl b, .inl a], σ)) rfl ?_
  refine wp_calld (v := 1) (idx := 90) (j := 180) (N := mtJ9_max_7cf53) (as := [.inl b, .inl c]) (rest := [.inl a]) hM rfl (Or.inr ⟨rfl, rfl⟩) rfl (sp_J9_max_7cf53  σ b c (by first | assumption | omega) (by first | assumption | omega)) ?_
  show mz_Wp shA none 3 (6, [some (.inl a), some (.inl b), some (.inl c)], [.inl (max b c), .inl a], σ) _
  refine wp_calld (v := 1) (idx := 90) (j := 180) (N := mtJ9_max_7cf53) (as := [.inl a, .inl (max b c)]) (rest := []) hM rfl (Or.inr ⟨rfl, rfl⟩) rfl (sp_J9_max_7cf53  σ a (max b c) (by first | assumption | omega) (by first | assumption | omega)) ?_
  show mz_Wp shA none 3 (9, [some (.inl a), some (.inl b), some (.inl c)], [.inl (max a (max b c))], σ) _
  refine wp_ret hM rfl (rfl) ?_
  exact ⟨rfl, rfl⟩

set_option maxRecDepth 100000 in
set_option maxHeartbeats 4000000 in
theorem sp_X0_take  (σ : mz_G) (d : Int) (t : Int) (h0 : 0 ≤ d) (h1 : d < 400) (h2 : mz_R (σ 14 (d).toNat)) : mz_Cl shA 4 [.inr 2, .inl d, .inl t] σ (fun r σ' => r = none ∧ (∀ j, σ' 14 j = if j = (d).toNat then (if σ 14 j = -1 then t else σ 14 j) else σ 14 j) ∧ (∀ j, σ' 15 j = if j = (d).toNat then σ 15 j + 1 else σ 15 j) ∧ Fc σ σ') := by
  have hM : mz_meth[4]? = some mtX0_take := rfl
  refine mz_Cl.of hM ?_
  show mz_Wp shA none 4 (0, [some (.inr 2), some (.inl d), some (.inl t)], [], σ) _
  refine wp_go 3 hM (fr' := (5, [some (.inr 2), some (.inl d), some (.inl t)], [.inl d, .inr 14], σ)) rfl ?_
  refine wp_al (n := 400) hM rfl (by decide) rfl (by omega) (by omega) ?_
  refine wp_go 1 hM (fr' := (7, [some (.inr 2), some (.inl d), some (.inl t)], [.inl (-1), .inl (σ 14 (d).toNat)], σ)) rfl ?_
  refine wp_ic (tgt := 17) hM rfl (by decide) (by omega) (by omega) (fun c7 => ?_) (fun c7 => ?_)
  · replace c7 := cmp_ne_t c7
    refine wp_go 4 hM (fr' := (23, [some (.inr 2), some (.inl d), some (.inl t)], [.inl d, .inr 15, .inl d, .inr 15], σ)) rfl ?_
    refine wp_al (n := 400) hM rfl (by decide) rfl (by omega) (by omega) ?_
    refine wp_go 2 hM (fr' := (26, [some (.inr 2), some (.inl d), some (.inl t)], [.inl ((σ 15 (d).toNat) + 1), .inl d, .inr 15], σ)) rfl ?_
    refine wp_as (n := 400) hM rfl rfl (by omega) (by omega) ?_
    refine wp_retv hM rfl rfl ?_
    refine ⟨rfl, fun j => ?_, fun j => ?_, fun c i a b => by simp [mz_up, a, b]⟩
    · by_cases q : j = d.toNat
      · subst q
        simp [mz_up, c7]
      · simp [mz_up, q]
    · by_cases q : j = d.toNat
      · subst q
        simp [mz_up]
      · simp [mz_up, q]
  · replace c7 := cmp_ne_f c7
    refine wp_go 4 hM (fr' := (16, [some (.inr 2), some (.inl d), some (.inl t)], [.inl t, .inl d, .inr 14], σ)) rfl ?_
    refine wp_as (n := 400) hM rfl rfl (by omega) (by omega) ?_
    refine wp_go 4 hM (fr' := (23, [some (.inr 2), some (.inl d), some (.inl t)], [.inl d, .inr 15, .inl d, .inr 15], (mz_up σ 14 (d).toNat t))) rfl ?_
    refine wp_al (n := 400) hM rfl (by decide) rfl (by omega) (by omega) ?_
    show mz_Wp shA none 4 (24, [some (.inr 2), some (.inl d), some (.inl t)], [.inl (σ 15 (d).toNat), .inl d, .inr 15], (mz_up σ 14 (d).toNat t)) _
    refine wp_go 2 hM (fr' := (26, [some (.inr 2), some (.inl d), some (.inl t)], [.inl ((σ 15 (d).toNat) + 1), .inl d, .inr 15], (mz_up σ 14 (d).toNat t))) rfl ?_
    refine wp_as (n := 400) hM rfl rfl (by omega) (by omega) ?_
    refine wp_retv hM rfl rfl ?_
    refine ⟨rfl, fun j => ?_, fun j => ?_, fun c i a b => by simp [mz_up, a, b]⟩
    · by_cases q : j = d.toNat
      · subst q
        simp [mz_up, c7]
      · simp [mz_up, q]
    · by_cases q : j = d.toNat
      · subst q
        simp [mz_up]
      · simp [mz_up, q]

set_option maxRecDepth 100000 in
set_option maxHeartbeats 4000000 in
theorem sp_X0_lay (v : mz_G) (l : List tr3) (σ : mz_G) (t : Int) (h0 : CA σ v l) (h1 : Bs v l) (h2 : 0 ≤ t) (h3 : t < (l.length : Int)) (h4 : Pos v l 1) (h5 : LI σ v l t) : mz_Cl shA 1 [.inr 2, .inr 1, .inr 9, .inl t] σ (fun r σ' => r = none ∧ LI σ' v l (t + 1) ∧ Fc σ σ') := by
  have hM : mz_meth[1]? = some mtX0_lay := rfl
  obtain ⟨hR, hT, hLen⟩ := id h1
  obtain ⟨⟨hW0, hW1⟩, ⟨hH0, hH1⟩, ⟨hn0, hn1⟩, hpt⟩ := id hR
  obtain ⟨⟨hc1, hc2, hc3, hc4⟩, hcp, hct, hcv⟩ := id h0
  have ht := Rt_at hT h2 h3
  have k1 := CA_pt h0 ht.1.1 ht.1.2
  have k2 := CA_pt h0 ht.2.1.1 ht.2.1.2
  have k3 := CA_pt h0 ht.2.2.1 ht.2.2.2
  have r1 := Rg_pt hR ht.1.1 ht.1.2
  have r2 := Rg_pt hR ht.2.1.1 ht.2.1.2
  have r3 := Rg_pt hR ht.2.2.1 ht.2.2.2
  have hbx := fun (a b : Int) (hh : hol v 1 (tg l t) a b) => hol_box (h4 _ (tg_mem h2 h3)) hh
  refine mz_Cl.of hM ?_
  show mz_Wp shA none 1 (0, [some (.inr 2), some (.inr 1), some (.inr 9), some (.inl t), none, none, none, none, none, none, none, none, none], [], σ) _
  refine wp_go 3 hM (fr' := (5, [some (.inr 2), some (.inr 1), some (.inr 9), some (.inl t), none, none, none, none, none, none, none, none, none], [.inl t, .inr 11], σ)) rfl ?_
  refine wp_calld (v := 0) (idx := 44) (j := 54) (N := mtX4_first) (as := [.inr 11, .inl t]) (rest := []) hM rfl (Or.inl ⟨rfl, rfl⟩) rfl (sp_X4_first_v v l σ t (by first | assumption | omega) (by first | assumption | omega) (by first | assumption | omega) (by first | assumption | omega)) ?_
  show mz_Wp shA none 1 (8, [some (.inr 2), some (.inr 1), some (.inr 9), some (.inl t), none, none, none, none, none, none, none, none, none], [.inl ((tg l t).1)], σ) _
  refine wp_go 4 hM (fr' := (15, [some (.inr 2), some (.inr 1), some (.inr 9), some (.inl t), some (.inl ((tg l t).1)), none, none, none, none, none, none, none, none], [.inl t, .inr 11], σ)) rfl ?_
  refine wp_calld (v := 0) (idx := 48) (j := 55) (N := mtX4_second) (as := [.inr 11, .inl t]) (rest := []) hM rfl (Or.inl ⟨rfl, rfl⟩) rfl (sp_X4_second_v v l σ t (by first | assumption | omega) (by first | assumption | omega) (by first | assumption | omega) (by first | assumption | omega)) ?_
  show mz_Wp shA none 1 (18, [some (.inr 2), some (.inr 1), some (.inr 9), some (.inl t), some (.inl ((tg l t).1)), none, none, none, none, none, none, none, none], [.inl ((tg l t).2.1)], σ) _
  refine wp_go 4 hM (fr' := (25, [some (.inr 2), some (.inr 1), some (.inr 9), some (.inl t), some (.inl ((tg l t).1)), some (.inl ((tg l t).2.1)), none, none, none, none, none, none, none], [.inl t, .inr 11], σ)) rfl ?_
  refine wp_calld (v := 0) (idx := 51) (j := 56) (N := mtX4_third) (as := [.inr 11, .inl t]) (rest := []) hM rfl (Or.inl ⟨rfl, rfl⟩) rfl (sp_X4_third_v v l σ t (by first | assumption | omega) (by first | assumption | omega) (by first | assumption | omega) (by first | assumption | omega)) ?_
  show mz_Wp shA none 1 (28, [some (.inr 2), some (.inr 1), some (.inr 9), some (.inl t), some (.inl ((tg l t).1)), some (.inl ((tg l t).2.1)), none, none, none, none, none, none, none], [.inl ((tg l t).2.2)], σ) _
  refine wp_go 4 hM (fr' := (36, [some (.inr 2), some (.inr 1), some (.inr 9), some (.inl t), some (.inl ((tg l t).1)), some (.inl ((tg l t).2.1)), some (.inl ((tg l t).2.2)), none, none, none, none, none, none], [.inl ((tg l t).1), .inr 18], σ)) rfl ?_
  refine wp_al (n := 32) hM rfl (by decide) rfl (by omega) (by omega) ?_
  rw [k1.2.2.1]
  refine wp_go 3 hM (fr' := (43, [some (.inr 2), some (.inr 1), some (.inr 9), some (.inl t), some (.inl ((tg l t).1)), some (.inl ((tg l t).2.1)), some (.inl ((tg l t).2.2)), none, none, none, none, none, none], [.inl ((tg l t).2.1), .inr 18, .inl (gx v 1 (tg l t).1)], σ)) rfl ?_
  refine wp_al (n := 32) hM rfl (by decide) rfl (by omega) (by omega) ?_
  rw [k2.2.2.1]
  refine wp_go 3 hM (fr' := (50, [some (.inr 2), some (.inr 1), some (.inr 9), some (.inl t), some (.inl ((tg l t).1)), some (.inl ((tg l t).2.1)), some (.inl ((tg l t).2.2)), none, none, none, none, none, none], [.inl ((tg l t).2.2), .inr 18, .inl (gx v 1 (tg l t).2.1), .inl (gx v 1 (tg l t).1)], σ)) rfl ?_
  refine wp_al (n := 32) hM rfl (by decide) rfl (by omega) (by omega) ?_
  rw [k3.2.2.1]
  refine wp_calld (v := 1) (idx := 59) (j := 2) (N := mtX0_least) (as := [.inl (gx v 1 (tg l t).1), .inl (gx v 1 (tg l t).2.1), .inl (gx v 1 (tg l t).2.2)]) (rest := []) hM rfl (Or.inr ⟨rfl, rfl⟩) rfl (sp_X0_least  σ (gx v 1 (tg l t).1) (gx v 1 (tg l t).2.1) (gx v 1 (tg l t).2.2) (by first | assumption | omega) (by first | assumption | omega) (by first | assumption | omega)) ?_
  show mz_Wp shA none 1 (54, [some (.inr 2), some (.inr 1), some (.inr 9), some (.inl t), some (.inl ((tg l t).1)), some (.inl ((tg l t).2.1)), some (.inl ((tg l t).2.2)), none, none, none, none, none, none], [.inl (min (gx v 1 (tg l t).1) (min (gx v 1 (tg l t).2.1) (gx v 1 (tg l t).2.2)))], σ) _
  generalize elo : min (gx v 1 (tg l t).1) (min (gx v 1 (tg l t).2.1) (gx v 1 (tg l t).2.2)) = lo
  refine wp_go 4 hM (fr' := (62, [some (.inr 2), some (.inr 1), some (.inr 9), some (.inl t), some (.inl ((tg l t).1)), some (.inl ((tg l t).2.1)), some (.inl ((tg l t).2.2)), some (.inl lo), none, none, none, none, none], [.inl ((tg l t).1), .inr 18], σ)) rfl ?_
  refine wp_al (n := 32) hM rfl (by decide) rfl (by omega) (by omega) ?_
  rw [k1.2.2.1]
  refine wp_go 3 hM (fr' := (69, [some (.inr 2), some (.inr 1), some (.inr 9), some (.inl t), some (.inl ((tg l t).1)), some (.inl ((tg l t).2.1)), some (.inl ((tg l t).2.2)), some (.inl lo), none, none, none, none, none], [.inl ((tg l t).2.1), .inr 18, .inl (gx v 1 (tg l t).1)], σ)) rfl ?_
  refine wp_al (n := 32) hM rfl (by decide) rfl (by omega) (by omega) ?_
  rw [k2.2.2.1]
  refine wp_go 3 hM (fr' := (76, [some (.inr 2), some (.inr 1), some (.inr 9), some (.inl t), some (.inl ((tg l t).1)), some (.inl ((tg l t).2.1)), some (.inl ((tg l t).2.2)), some (.inl lo), none, none, none, none, none], [.inl ((tg l t).2.2), .inr 18, .inl (gx v 1 (tg l t).2.1), .inl (gx v 1 (tg l t).1)], σ)) rfl ?_
  refine wp_al (n := 32) hM rfl (by decide) rfl (by omega) (by omega) ?_
  rw [k3.2.2.1]
  refine wp_calld (v := 1) (idx := 63) (j := 3) (N := mtX0_greatest) (as := [.inl (gx v 1 (tg l t).1), .inl (gx v 1 (tg l t).2.1), .inl (gx v 1 (tg l t).2.2)]) (rest := []) hM rfl (Or.inr ⟨rfl, rfl⟩) rfl (sp_X0_greatest  σ (gx v 1 (tg l t).1) (gx v 1 (tg l t).2.1) (gx v 1 (tg l t).2.2) (by first | assumption | omega) (by first | assumption | omega) (by first | assumption | omega)) ?_
  show mz_Wp shA none 1 (80, [some (.inr 2), some (.inr 1), some (.inr 9), some (.inl t), some (.inl ((tg l t).1)), some (.inl ((tg l t).2.1)), some (.inl ((tg l t).2.2)), some (.inl lo), none, none, none, none, none], [.inl (max (gx v 1 (tg l t).1) (max (gx v 1 (tg l t).2.1) (gx v 1 (tg l t).2.2)))], σ) _
  generalize ehi : max (gx v 1 (tg l t).1) (max (gx v 1 (tg l t).2.1) (gx v 1 (tg l t).2.2)) = hi
  refine wp_go 4 hM (fr' := (88, [some (.inr 2), some (.inr 1), some (.inr 9), some (.inl t), some (.inl ((tg l t).1)), some (.inl ((tg l t).2.1)), some (.inl ((tg l t).2.2)), some (.inl lo), some (.inl hi), none, none, none, none], [.inl ((tg l t).1), .inr 19], σ)) rfl ?_
  refine wp_al (n := 32) hM rfl (by decide) rfl (by omega) (by omega) ?_
  rw [k1.2.2.2]
  refine wp_go 3 hM (fr' := (95, [some (.inr 2), some (.inr 1), some (.inr 9), some (.inl t), some (.inl ((tg l t).1)), some (.inl ((tg l t).2.1)), some (.inl ((tg l t).2.2)), some (.inl lo), some (.inl hi), none, none, none, none], [.inl ((tg l t).2.1), .inr 19, .inl (gy v 1 (tg l t).1)], σ)) rfl ?_
  refine wp_al (n := 32) hM rfl (by decide) rfl (by omega) (by omega) ?_
  rw [k2.2.2.2]
  refine wp_go 3 hM (fr' := (102, [some (.inr 2), some (.inr 1), some (.inr 9), some (.inl t), some (.inl ((tg l t).1)), some (.inl ((tg l t).2.1)), some (.inl ((tg l t).2.2)), some (.inl lo), some (.inl hi), none, none, none, none], [.inl ((tg l t).2.2), .inr 19, .inl (gy v 1 (tg l t).2.1), .inl (gy v 1 (tg l t).1)], σ)) rfl ?_
  refine wp_al (n := 32) hM rfl (by decide) rfl (by omega) (by omega) ?_
  rw [k3.2.2.2]
  refine wp_calld (v := 1) (idx := 59) (j := 2) (N := mtX0_least) (as := [.inl (gy v 1 (tg l t).1), .inl (gy v 1 (tg l t).2.1), .inl (gy v 1 (tg l t).2.2)]) (rest := []) hM rfl (Or.inr ⟨rfl, rfl⟩) rfl (sp_X0_least  σ (gy v 1 (tg l t).1) (gy v 1 (tg l t).2.1) (gy v 1 (tg l t).2.2) (by first | assumption | omega) (by first | assumption | omega) (by first | assumption | omega)) ?_
  show mz_Wp shA none 1 (106, [some (.inr 2), some (.inr 1), some (.inr 9), some (.inl t), some (.inl ((tg l t).1)), some (.inl ((tg l t).2.1)), some (.inl ((tg l t).2.2)), some (.inl lo), some (.inl hi), none, none, none, none], [.inl (min (gy v 1 (tg l t).1) (min (gy v 1 (tg l t).2.1) (gy v 1 (tg l t).2.2)))], σ) _
  generalize etp : min (gy v 1 (tg l t).1) (min (gy v 1 (tg l t).2.1) (gy v 1 (tg l t).2.2)) = tp
  refine wp_go 4 hM (fr' := (114, [some (.inr 2), some (.inr 1), some (.inr 9), some (.inl t), some (.inl ((tg l t).1)), some (.inl ((tg l t).2.1)), some (.inl ((tg l t).2.2)), some (.inl lo), some (.inl hi), some (.inl tp), none, none, none], [.inl ((tg l t).1), .inr 19], σ)) rfl ?_
  refine wp_al (n := 32) hM rfl (by decide) rfl (by omega) (by omega) ?_
  rw [k1.2.2.2]
  refine wp_go 3 hM (fr' := (121, [some (.inr 2), some (.inr 1), some (.inr 9), some (.inl t), some (.inl ((tg l t).1)), some (.inl ((tg l t).2.1)), some (.inl ((tg l t).2.2)), some (.inl lo), some (.inl hi), some (.inl tp), none, none, none], [.inl ((tg l t).2.1), .inr 19, .inl (gy v 1 (tg l t).1)], σ)) rfl ?_
  refine wp_al (n := 32) hM rfl (by decide) rfl (by omega) (by omega) ?_
  rw [k2.2.2.2]
  refine wp_go 3 hM (fr' := (128, [some (.inr 2), some (.inr 1), some (.inr 9), some (.inl t), some (.inl ((tg l t).1)), some (.inl ((tg l t).2.1)), some (.inl ((tg l t).2.2)), some (.inl lo), some (.inl hi), some (.inl tp), none, none, none], [.inl ((tg l t).2.2), .inr 19, .inl (gy v 1 (tg l t).2.1), .inl (gy v 1 (tg l t).1)], σ)) rfl ?_
  refine wp_al (n := 32) hM rfl (by decide) rfl (by omega) (by omega) ?_
  rw [k3.2.2.2]
  refine wp_calld (v := 1) (idx := 63) (j := 3) (N := mtX0_greatest) (as := [.inl (gy v 1 (tg l t).1), .inl (gy v 1 (tg l t).2.1), .inl (gy v 1 (tg l t).2.2)]) (rest := []) hM rfl (Or.inr ⟨rfl, rfl⟩) rfl (sp_X0_greatest  σ (gy v 1 (tg l t).1) (gy v 1 (tg l t).2.1) (gy v 1 (tg l t).2.2) (by first | assumption | omega) (by first | assumption | omega) (by first | assumption | omega)) ?_
  show mz_Wp shA none 1 (132, [some (.inr 2), some (.inr 1), some (.inr 9), some (.inl t), some (.inl ((tg l t).1)), some (.inl ((tg l t).2.1)), some (.inl ((tg l t).2.2)), some (.inl lo), some (.inl hi), some (.inl tp), none, none, none], [.inl (max (gy v 1 (tg l t).1) (max (gy v 1 (tg l t).2.1) (gy v 1 (tg l t).2.2)))], σ) _
  generalize ebt : max (gy v 1 (tg l t).1) (max (gy v 1 (tg l t).2.1) (gy v 1 (tg l t).2.2)) = bt
  have hlo : 0 ≤ lo ∧ lo ≤ 19 := by omega
  have hhi : 0 ≤ hi ∧ hi ≤ 19 ∧ lo ≤ hi := by omega
  have htp : 0 ≤ tp ∧ tp ≤ 19 := by omega
  have hbt : 0 ≤ bt ∧ bt ≤ 19 ∧ tp ≤ bt := by omega
  have hbx2 : ∀ a b : Int, hol v 1 (tg l t) a b → (lo ≤ a ∧ a ≤ hi) ∧ (tp ≤ b ∧ b ≤ bt) := fun a b hh => by have := hbx a b hh; omega
  refine wp_go 3 hM (fr' := (138, [some (.inr 2), some (.inr 1), some (.inr 9), some (.inl t), some (.inl ((tg l t).1)), some (.inl ((tg l t).2.1)), some (.inl ((tg l t).2.2)), some (.inl lo), some (.inl hi), some (.inl tp), some (.inl bt), some (.inl tp), none], [], σ)) rfl ?_
  have loop138 : ∀ (fuel : Nat) (y : Int) (σ1 : mz_G) (d138_12 : Option mz_V), (tp ≤ y) → (y ≤ bt + 1) → (LJ σ1 v l t lo y) → (Fc σ σ1) → ((bt + 1 - y : Int) < fuel) → mz_Wp shA none 1 (138, [some (.inr 2), some (.inr 1), some (.inr 9), some (.inl t), some (.inl ((tg l t).1)), some (.inl ((tg l t).2.1)), some (.inl ((tg l t).2.2)), some (.inl lo), some (.inl hi), some (.inl tp), some (.inl bt), some (.inl y), d138_12], [], σ1) (fun r σ' => r = none ∧ LI σ' v l (t + 1) ∧ Fc σ σ') := by
    intro fuel
    induction fuel with
    | zero =>
      intro y σ1 d138_12 hv138_0 hv138_1 hv138_2 hv138_3 hf138
      exfalso
      omega
    | succ fuel ih138 =>
      intro y σ1 d138_12 hv138_0 hv138_1 hv138_2 hv138_3 hf138
      refine wp_go 2 hM (fr' := (142, [some (.inr 2), some (.inr 1), some (.inr 9), some (.inl t), some (.inl ((tg l t).1)), some (.inl ((tg l t).2.1)), some (.inl ((tg l t).2.2)), some (.inl lo), some (.inl hi), some (.inl tp), some (.inl bt), some (.inl y), d138_12], [.inl bt, .inl y], σ1)) rfl ?_
      refine wp_ic (tgt := 205) hM rfl (by decide) (by omega) (by omega) (fun c142 => ?_) (fun c142 => ?_)
      · replace c142 := cmp_gt_t c142
        refine wp_retv hM rfl rfl ?_
        exact ⟨rfl, LJ_end h2 hv138_2 (fun a b _ hc hh => by have := hbx2 a b hh; omega), hv138_3⟩
      · replace c142 := cmp_gt_f c142
        refine wp_go 2 hM (fr' := (149, [some (.inr 2), some (.inr 1), some (.inr 9), some (.inl t), some (.inl ((tg l t).1)), some (.inl ((tg l t).2.1)), some (.inl ((tg l t).2.2)), some (.inl lo), some (.inl hi), some (.inl tp), some (.inl bt), some (.inl y), some (.inl lo)], [], σ1)) rfl ?_
        have loop149 : ∀ (fuel : Nat) (x : Int) (σ2 : mz_G), (lo ≤ x) → (x ≤ hi + 1) → (LJ σ2 v l t x y) → (Fc σ σ2) → ((hi + 1 - x : Int) < fuel) → mz_Wp shA none 1 (149, [some (.inr 2), some (.inr 1), some (.inr 9), some (.inl t), some (.inl ((tg l t).1)), some (.inl ((tg l t).2.1)), some (.inl ((tg l t).2.2)), some (.inl lo), some (.inl hi), some (.inl tp), some (.inl bt), some (.inl y), some (.inl x)], [], σ2) (fun r σ' => r = none ∧ LI σ' v l (t + 1) ∧ Fc σ σ') := by
          intro fuel
          induction fuel with
          | zero =>
            intro x σ2 hv149_0 hv149_1 hv149_2 hv149_3 hf149
            exfalso
            omega
          | succ fuel ih149 =>
            intro x σ2 hv149_0 hv149_1 hv149_2 hv149_3 hf149
            have hC2 := CA_Fc h0 hv149_3
            refine wp_go 2 hM (fr' := (153, [some (.inr 2), some (.inr 1), some (.inr 9), some (.inl t), some (.inl ((tg l t).1)), some (.inl ((tg l t).2.1)), some (.inl ((tg l t).2.2)), some (.inl lo), some (.inl hi), some (.inl tp), some (.inl bt), some (.inl y), some (.inl x)], [.inl hi, .inl x], σ2)) rfl ?_
            refine wp_ic (tgt := 199) hM rfl (by decide) (by omega) (by omega) (fun c153 => ?_) (fun c153 => ?_)
            · replace c153 := cmp_gt_t c153
              refine wp_go 2 hM (fr' := (138, [some (.inr 2), some (.inr 1), some (.inr 9), some (.inl t), some (.inl ((tg l t).1)), some (.inl ((tg l t).2.1)), some (.inl ((tg l t).2.2)), some (.inl lo), some (.inl hi), some (.inl tp), some (.inl bt), some (.inl (y + 1)), some (.inl x)], [], σ2)) rfl ?_
              exact ih138 (y + 1) σ2 (some (.inl x)) (by omega) (by omega) (by exact LJ_row h2 hv149_2 (fun a _ hc hh => by have := hbx2 a y hh; omega) (fun a _ hc hh => by have := hbx2 a (y + 1) hh; omega)) (by exact hv149_3) (by omega)
            · replace c153 := cmp_gt_f c153
              refine wp_go 3 hM (fr' := (161, [some (.inr 2), some (.inr 1), some (.inr 9), some (.inl t), some (.inl ((tg l t).1)), some (.inl ((tg l t).2.1)), some (.inl ((tg l t).2.2)), some (.inl lo), some (.inl hi), some (.inl tp), some (.inl bt), some (.inl y), some (.inl x)], [.inl y, .inl x, .inr 1], σ2)) rfl ?_
              refine wp_calld (v := 0) (idx := 69) (j := 9) (N := mtX1_isDot) (as := [.inr 1, .inl x, .inl y]) (rest := []) hM rfl (Or.inl ⟨rfl, rfl⟩) rfl (sp_X1_isDot v l σ2 x y (by first | assumption | omega) (by first | assumption | omega) (by first | assumption | omega) (by first | assumption | omega)) ?_
              show mz_Wp shA none 1 (164, [some (.inr 2), some (.inr 1), some (.inr 9), some (.inl t), some (.inl ((tg l t).1)), some (.inl ((tg l t).2.1)), some (.inl ((tg l t).2.2)), some (.inl lo), some (.inl hi), some (.inl tp), some (.inl bt), some (.inl y), some (.inl x)], [.inl (b01 (dot v x y))], σ2) _
              refine wp_if (tgt := 193) hM rfl (by decide) b01_R (fun c164 => ?_) (fun c164 => ?_)
              · replace c164 := b01_eq0 (cmp_eq_t c164)
                refine wp_go 2 hM (fr' := (149, [some (.inr 2), some (.inr 1), some (.inr 9), some (.inl t), some (.inl ((tg l t).1)), some (.inl ((tg l t).2.1)), some (.inl ((tg l t).2.2)), some (.inl lo), some (.inl hi), some (.inl tp), some (.inl bt), some (.inl y), some (.inl (x + 1))], [], σ2)) rfl ?_
                exact ih149 (x + 1) σ2 (by omega) (by omega) (by first | exact LJ_yes hR h2 hv149_2 c164 c177 h14_190 h15_190 | exact LJ_no h2 hv149_2 (Or.inr c177) | exact LJ_no h2 hv149_2 (Or.inl c164)) (by first | exact hv149_3.tr hf_190 | exact hv149_3) (by omega)
              · replace c164 := b01_ne0 (cmp_eq_f c164)
                have hdi := dn_in hR c164
                refine wp_go 5 hM (fr' := (174, [some (.inr 2), some (.inr 1), some (.inr 9), some (.inl t), some (.inl ((tg l t).1)), some (.inl ((tg l t).2.1)), some (.inl ((tg l t).2.2)), some (.inl lo), some (.inl hi), some (.inl tp), some (.inl bt), some (.inl y), some (.inl x)], [.inl y, .inl x, .inl t, .inr 9, .inr 1], σ2)) rfl ?_
                refine wp_calld (v := 0) (idx := 73) (j := 16) (N := mtX1_holds) (as := [.inr 1, .inr 9, .inl t, .inl x, .inl y]) (rest := []) hM rfl (Or.inl ⟨rfl, rfl⟩) rfl (sp_X1_holds_9 v l σ2 t x y (by first | assumption | omega) (by first | assumption | omega) (by first | assumption | omega) (by first | assumption | omega) (by first | assumption | omega)) ?_
                show mz_Wp shA none 1 (177, [some (.inr 2), some (.inr 1), some (.inr 9), some (.inl t), some (.inl ((tg l t).1)), some (.inl ((tg l t).2.1)), some (.inl ((tg l t).2.2)), some (.inl lo), some (.inl hi), some (.inl tp), some (.inl bt), some (.inl y), some (.inl x)], [.inl (b01 (hol v 1 (tg l t) x y))], σ2) _
                refine wp_if (tgt := 193) hM rfl (by decide) b01_R (fun c177 => ?_) (fun c177 => ?_)
                · replace c177 := b01_eq0 (cmp_eq_t c177)
                  refine wp_go 2 hM (fr' := (149, [some (.inr 2), some (.inr 1), some (.inr 9), some (.inl t), some (.inl ((tg l t).1)), some (.inl ((tg l t).2.1)), some (.inl ((tg l t).2.2)), some (.inl lo), some (.inl hi), some (.inl tp), some (.inl bt), some (.inl y), some (.inl (x + 1))], [], σ2)) rfl ?_
                  exact ih149 (x + 1) σ2 (by omega) (by omega) (by first | exact LJ_yes hR h2 hv149_2 c164 c177 h14_190 h15_190 | exact LJ_no h2 hv149_2 (Or.inr c177) | exact LJ_no h2 hv149_2 (Or.inl c164)) (by first | exact hv149_3.tr hf_190 | exact hv149_3) (by omega)
                · replace c177 := b01_ne0 (cmp_eq_f c177)
                  have h14r : mz_R (σ2 14 (y * v 0 0 + x).toNat) := by
                    have hL := (hv149_2 x y c164).1
                    rw [if_neg (by omega)] at hL
                    rw [hL]
                    rcases fstI_spec t (fun i => hol v 1 (tg l i) x y) with ⟨g1, -⟩ | ⟨g1, g2, -, -⟩
                    · unfold FL; rw [g1]; decide
                    · unfold FL; constructor <;> omega
                  refine wp_go 4 hM (fr' := (186, [some (.inr 2), some (.inr 1), some (.inr 9), some (.inl t), some (.inl ((tg l t).1)), some (.inl ((tg l t).2.1)), some (.inl ((tg l t).2.2)), some (.inl lo), some (.inl hi), some (.inl tp), some (.inl bt), some (.inl y), some (.inl x)], [.inl y, .inl x, .inr 1, .inr 2], σ2)) rfl ?_
                  refine wp_calld (v := 0) (idx := 77) (j := 10) (N := mtX1_dotNumber) (as := [.inr 1, .inl x, .inl y]) (rest := [.inr 2]) hM rfl (Or.inl ⟨rfl, rfl⟩) rfl (sp_X1_dotNumber v l σ2 x y (by first | assumption | omega) (by first | assumption | omega)) ?_
                  show mz_Wp shA none 1 (189, [some (.inr 2), some (.inr 1), some (.inr 9), some (.inl t), some (.inl ((tg l t).1)), some (.inl ((tg l t).2.1)), some (.inl ((tg l t).2.2)), some (.inl lo), some (.inl hi), some (.inl tp), some (.inl bt), some (.inl y), some (.inl x)], [.inl (y * v 0 0 + x), .inr 2], σ2) _
                  refine wp_go 1 hM (fr' := (190, [some (.inr 2), some (.inr 1), some (.inr 9), some (.inl t), some (.inl ((tg l t).1)), some (.inl ((tg l t).2.1)), some (.inl ((tg l t).2.2)), some (.inl lo), some (.inl hi), some (.inl tp), some (.inl bt), some (.inl y), some (.inl x)], [.inl t, .inl (y * v 0 0 + x), .inr 2], σ2)) rfl ?_
                  refine wp_call (v := 0) (idx := 81) (j := 4) (N := mtX0_take) (as := [.inr 2, .inl (y * v 0 0 + x), .inl t]) (rest := []) hM rfl (Or.inl ⟨rfl, rfl⟩) rfl (sp_X0_take  σ2 (y * v 0 0 + x) t (by first | assumption | omega) (by first | assumption | omega) (by first | assumption | omega)) ?_
                  rintro r0 σ_190 ⟨rfl, h14_190, h15_190, hf_190⟩
                  show mz_Wp shA none 1 (193, [some (.inr 2), some (.inr 1), some (.inr 9), some (.inl t), some (.inl ((tg l t).1)), some (.inl ((tg l t).2.1)), some (.inl ((tg l t).2.2)), some (.inl lo), some (.inl hi), some (.inl tp), some (.inl bt), some (.inl y), some (.inl x)], [], σ_190) _
                  refine wp_go 2 hM (fr' := (149, [some (.inr 2), some (.inr 1), some (.inr 9), some (.inl t), some (.inl ((tg l t).1)), some (.inl ((tg l t).2.1)), some (.inl ((tg l t).2.2)), some (.inl lo), some (.inl hi), some (.inl tp), some (.inl bt), some (.inl y), some (.inl (x + 1))], [], σ_190)) rfl ?_
                  exact ih149 (x + 1) σ_190 (by omega) (by omega) (by first | exact LJ_yes hR h2 hv149_2 c164 c177 h14_190 h15_190 | exact LJ_no h2 hv149_2 (Or.inr c177) | exact LJ_no h2 hv149_2 (Or.inl c164)) (by first | exact hv149_3.tr hf_190 | exact hv149_3) (by omega)
        exact loop149 30 lo σ1 (by omega) (by omega) (by exact hv138_2) (by exact hv138_3) (by omega)
  exact loop138 30 tp σ (none) (by omega) (by omega) (by exact LJ_0 h2 h5 (fun a b _ hc hh => by have := hbx2 a b hh; omega)) (by exact Fc.rf) (by omega)

set_option maxRecDepth 100000 in
set_option maxHeartbeats 4000000 in
theorem sp_X0_fill (v : mz_G) (l : List tr3) (σ : mz_G)  (h0 : CA σ v l) (h1 : Bs v l) (h2 : Pos v l 1) : mz_Cl shA 0 [.inr 2, .inr 1] σ (fun r σ' => r = none ∧ LI σ' v l (l.length : Int) ∧ Fc σ σ') := by
  have hM : mz_meth[0]? = some mtX0_fill := rfl
  obtain ⟨hR, hT, hLen⟩ := id h1
  obtain ⟨⟨hW0, hW1⟩, ⟨hH0, hH1⟩, ⟨hn0, hn1⟩, hpt⟩ := id hR
  obtain ⟨⟨hc1, hc2, hc3, hc4⟩, hcp, hct, hcv⟩ := id h0
  refine mz_Cl.of hM ?_
  show mz_Wp shA none 0 (0, [some (.inr 2), some (.inr 1), none], [], σ) _
  refine wp_go 3 hM (fr' := (5, [some (.inr 2), some (.inr 1), none], [.inl (-1), .inr 14], σ)) rfl ?_
  refine wp_calld (v := 1) (idx := 18) (j := 182) (N := mtJ7_fill_53178) (as := [.inr 14, .inl (-1)]) (rest := []) hM rfl (Or.inr ⟨rfl, rfl⟩) rfl (sp_J7_fill_53178_14  σ (-1) ) ?_
  show mz_Wp shA none 0 (8, [some (.inr 2), some (.inr 1), none], [], (fil σ 14 400 ((-1)))) _
  refine wp_go 3 hM (fr' := (13, [some (.inr 2), some (.inr 1), none], [.inl 0, .inr 15], (fil σ 14 400 ((-1))))) rfl ?_
  refine wp_calld (v := 1) (idx := 18) (j := 182) (N := mtJ7_fill_53178) (as := [.inr 15, .inl 0]) (rest := []) hM rfl (Or.inr ⟨rfl, rfl⟩) rfl (sp_J7_fill_53178_15  (fil σ 14 400 ((-1))) 0 ) ?_
  show mz_Wp shA none 0 (16, [some (.inr 2), some (.inr 1), none], [], (fil (fil σ 14 400 ((-1))) 15 400 (0))) _
  refine wp_go 2 hM (fr' := (18, [some (.inr 2), some (.inr 1), some (.inl 0)], [], (fil (fil σ 14 400 ((-1))) 15 400 (0)))) rfl ?_
  have loop18 : ∀ (fuel : Nat) (t : Int) (σ1 : mz_G), (0 ≤ t) → (t ≤ (l.length : Int)) → (LI σ1 v l t) → (Fc σ σ1) → (((l.length : Int) - t : Int) < fuel) → mz_Wp shA none 0 (18, [some (.inr 2), some (.inr 1), some (.inl t)], [], σ1) (fun r σ' => r = none ∧ LI σ' v l (l.length : Int) ∧ Fc σ σ') := by
    intro fuel
    induction fuel with
    | zero =>
      intro t σ1 hv18_0 hv18_1 hv18_2 hv18_3 hf18
      exfalso
      omega
    | succ fuel ih18 =>
      intro t σ1 hv18_0 hv18_1 hv18_2 hv18_3 hf18
      have hC1 := CA_Fc h0 hv18_3
      have hT_1 : σ1 11 1 = (l.length : Int) := hC1.1.2.2.2
      refine wp_go 4 hM (fr' := (26, [some (.inr 2), some (.inr 1), some (.inl t)], [.inl (σ1 11 1), .inl t], σ1)) rfl ?_
      refine wp_ic (tgt := 45) hM rfl (by decide) (by omega) (by omega) (fun c26 => ?_) (fun c26 => ?_)
      · replace c26 := cmp_ge_t c26
        refine wp_retv hM rfl rfl ?_
        exact ⟨rfl, by rw [show t = (l.length : Int) from by omega] at hv18_2; exact hv18_2, hv18_3⟩
      · replace c26 := cmp_ge_f c26
        refine wp_go 5 hM (fr' := (36, [some (.inr 2), some (.inr 1), some (.inl t)], [.inl t, .inr 9, .inr 1, .inr 2], σ1)) rfl ?_
        refine wp_call (v := 0) (idx := 40) (j := 1) (N := mtX0_lay) (as := [.inr 2, .inr 1, .inr 9, .inl t]) (rest := []) hM rfl (Or.inl ⟨rfl, rfl⟩) rfl (sp_X0_lay v l σ1 t (by first | assumption | omega) (by first | assumption | omega) (by first | assumption | omega) (by first | assumption | omega) (by first | assumption | omega) (by first | assumption | omega)) ?_
        rintro r0 σ_36 ⟨rfl, hli_36, hf_36⟩
        show mz_Wp shA none 0 (39, [some (.inr 2), some (.inr 1), some (.inl t)], [], σ_36) _
        refine wp_go 2 hM (fr' := (18, [some (.inr 2), some (.inr 1), some (.inl (t + 1))], [], σ_36)) rfl ?_
        exact ih18 (t + 1) σ_36 (by omega) (by omega) (by exact hli_36) (by exact hv18_3.tr hf_36) (by omega)
  exact loop18 65 0 (fil (fil σ 14 400 ((-1))) 15 400 (0)) (by omega) (by omega) (by exact fun a b hab => by have := dn_in hR hab; exact ⟨by show (if _ then _ else (if _ then _ else _)) = _; rw [if_neg (fun q => absurd q.1 (by decide)), if_pos ⟨rfl, by omega⟩]; rfl, by show (if _ then _ else _) = _; rw [if_pos ⟨rfl, by omega⟩]; rfl⟩) (by exact fun c i a b => by show (if _ then _ else (if _ then _ else _)) = _; rw [if_neg (fun q => b q.1), if_neg (fun q => a q.1)]) (by omega)

set_option maxRecDepth 100000 in
set_option maxHeartbeats 4000000 in
theorem sp_X0_dotsIn  (σ : mz_G) (t : Int) (n : Int) (h0 : mz_R t) (h1 : 0 ≤ n) (h2 : n ≤ 400) (h3 : ∀ d : Int, 0 ≤ d → d < n → mz_R (σ 14 d.toNat)) : mz_Cl shA 5 [.inr 2, .inl t, .inl n] σ (fun r σ' => r = some (sumI n (fun d => b01 (σ 14 d.toNat = t))) ∧ σ' = σ) := by
  have hM : mz_meth[5]? = some mtX0_dotsIn := rfl
  refine mz_Cl.of hM ?_
  show mz_Wp shA none 5 (0, [some (.inr 2), some (.inl t), some (.inl n), none, none], [], σ) _
  refine wp_go 4 hM (fr' := (5, [some (.inr 2), some (.inl t), some (.inl n), some (.inl 0), some (.inl 0)], [], σ)) rfl ?_
  have loop5 : ∀ (fuel : Nat) (f : Int) (d : Int), (0 ≤ d) → (d ≤ n) → (f = sumI d (fun i => b01 (σ 14 i.toNat = t))) → ((n - d : Int) < fuel) → mz_Wp shA none 5 (5, [some (.inr 2), some (.inl t), some (.inl n), some (.inl f), some (.inl d)], [], σ) (fun r σ' => r = some (sumI n (fun d => b01 (σ 14 d.toNat = t))) ∧ σ' = σ) := by
    intro fuel
    induction fuel with
    | zero =>
      intro f d hv5_0 hv5_1 hv5_2 hf5
      exfalso
      omega
    | succ fuel ih5 =>
      intro f d hv5_0 hv5_1 hv5_2 hf5
      have hs : sumI (d + 1) (fun i => b01 (σ 14 i.toNat = t)) = sumI d (fun i => b01 (σ 14 i.toNat = t)) + b01 (σ 14 d.toNat = t) := sumI_s hv5_0
      have hb := sumI_bd (a := 0) (b := 1) (f := (fun i => b01 (σ 14 i.toNat = t))) hv5_0 (fun i _ _ => by rcases b01_01 (P := σ 14 i.toNat = t) with q | q <;> omega)
      refine wp_go 2 hM (fr' := (8, [some (.inr 2), some (.inl t), some (.inl n), some (.inl f), some (.inl d)], [.inl n, .inl d], σ)) rfl ?_
      refine wp_ic (tgt := 39) hM rfl (by decide) (by omega) (by omega) (fun c8 => ?_) (fun c8 => ?_)
      · replace c8 := cmp_ge_t c8
        refine wp_go 1 hM (fr' := (40, [some (.inr 2), some (.inl t), some (.inl n), some (.inl f), some (.inl d)], [.inl f], σ)) rfl ?_
        refine wp_ret hM rfl (rfl) ?_
        exact ⟨by rw [hv5_2, show d = n from by omega], rfl⟩
      · replace c8 := cmp_ge_f c8
        have hr := h3 d hv5_0 c8
        refine wp_go 2 hM (fr' := (16, [some (.inr 2), some (.inl t), some (.inl n), some (.inl f), some (.inl d)], [.inl 400, .inl d], σ)) rfl ?_
        refine wp_ic (tgt := 39) hM rfl (by decide) (by omega) (by omega) (fun c16 => ?_) (fun c16 => ?_)
        · replace c16 := cmp_ge_t c16
          omega
        · replace c16 := cmp_ge_f c16
          refine wp_go 3 hM (fr' := (25, [some (.inr 2), some (.inl t), some (.inl n), some (.inl f), some (.inl d)], [.inl d, .inr 14], σ)) rfl ?_
          refine wp_al (n := 400) hM rfl (by decide) rfl (by omega) (by omega) ?_
          refine wp_go 1 hM (fr' := (27, [some (.inr 2), some (.inl t), some (.inl n), some (.inl f), some (.inl d)], [.inl t, .inl (σ 14 (d).toNat)], σ)) rfl ?_
          refine wp_ic (tgt := 33) hM rfl (by decide) (by exact hr) (by omega) (fun c27 => ?_) (fun c27 => ?_)
          · replace c27 := cmp_ne_t c27
            refine wp_go 2 hM (fr' := (5, [some (.inr 2), some (.inl t), some (.inl n), some (.inl f), some (.inl (d + 1))], [], σ)) rfl ?_
            exact ih5 f (d + 1) (by omega) (by omega) (by rw [hs]; first | (rw [b01_t c27]; omega) | (rw [b01_f c27]; omega)) (by omega)
          · replace c27 := cmp_ne_f c27
            refine wp_go 3 hM (fr' := (5, [some (.inr 2), some (.inl t), some (.inl n), some (.inl (f + 1)), some (.inl (d + 1))], [], σ)) rfl ?_
            exact ih5 (f + 1) (d + 1) (by omega) (by omega) (by rw [hs]; first | (rw [b01_t c27]; omega) | (rw [b01_f c27]; omega)) (by omega)
  exact loop5 402 0 0 (by omega) (by omega) (by rfl) (by omega)

set_option maxRecDepth 100000 in
set_option maxHeartbeats 4000000 in
theorem sp_X0_dotsOfMany  (σ : mz_G) (n : Int) (h0 : 0 ≤ n) (h1 : n ≤ 400) (h2 : ∀ d : Int, 0 ≤ d → d < n → mz_R (σ 15 d.toNat)) : mz_Cl shA 6 [.inr 2, .inl n] σ (fun r σ' => r = some (sumI n (fun d => b01 (1 < σ 15 d.toNat))) ∧ σ' = σ) := by
  have hM : mz_meth[6]? = some mtX0_dotsOfMany := rfl
  refine mz_Cl.of hM ?_
  show mz_Wp shA none 6 (0, [some (.inr 2), some (.inl n), none, none], [], σ) _
  refine wp_go 4 hM (fr' := (4, [some (.inr 2), some (.inl n), some (.inl 0), some (.inl 0)], [], σ)) rfl ?_
  have loop4 : ∀ (fuel : Nat) (f : Int) (d : Int), (0 ≤ d) → (d ≤ n) → (f = sumI d (fun i => b01 (1 < σ 15 i.toNat))) → ((n - d : Int) < fuel) → mz_Wp shA none 6 (4, [some (.inr 2), some (.inl n), some (.inl f), some (.inl d)], [], σ) (fun r σ' => r = some (sumI n (fun d => b01 (1 < σ 15 d.toNat))) ∧ σ' = σ) := by
    intro fuel
    induction fuel with
    | zero =>
      intro f d hv4_0 hv4_1 hv4_2 hf4
      exfalso
      omega
    | succ fuel ih4 =>
      intro f d hv4_0 hv4_1 hv4_2 hf4
      have hs : sumI (d + 1) (fun i => b01 (1 < σ 15 i.toNat)) = sumI d (fun i => b01 (1 < σ 15 i.toNat)) + b01 (1 < σ 15 d.toNat) := sumI_s hv4_0
      have hb := sumI_bd (a := 0) (b := 1) (f := (fun i => b01 (1 < σ 15 i.toNat))) hv4_0 (fun i _ _ => by rcases b01_01 (P := 1 < σ 15 i.toNat) with q | q <;> omega)
      refine wp_go 2 hM (fr' := (6, [some (.inr 2), some (.inl n), some (.inl f), some (.inl d)], [.inl n, .inl d], σ)) rfl ?_
      refine wp_ic (tgt := 35) hM rfl (by decide) (by omega) (by omega) (fun c6 => ?_) (fun c6 => ?_)
      · replace c6 := cmp_ge_t c6
        refine wp_go 1 hM (fr' := (36, [some (.inr 2), some (.inl n), some (.inl f), some (.inl d)], [.inl f], σ)) rfl ?_
        refine wp_ret hM rfl (rfl) ?_
        exact ⟨by rw [hv4_2, show d = n from by omega], rfl⟩
      · replace c6 := cmp_ge_f c6
        have hr := h2 d hv4_0 c6
        refine wp_go 2 hM (fr' := (13, [some (.inr 2), some (.inl n), some (.inl f), some (.inl d)], [.inl 400, .inl d], σ)) rfl ?_
        refine wp_ic (tgt := 35) hM rfl (by decide) (by omega) (by omega) (fun c13 => ?_) (fun c13 => ?_)
        · replace c13 := cmp_ge_t c13
          omega
        · replace c13 := cmp_ge_f c13
          refine wp_go 3 hM (fr' := (21, [some (.inr 2), some (.inl n), some (.inl f), some (.inl d)], [.inl d, .inr 15], σ)) rfl ?_
          refine wp_al (n := 400) hM rfl (by decide) rfl (by omega) (by omega) ?_
          refine wp_go 1 hM (fr' := (23, [some (.inr 2), some (.inl n), some (.inl f), some (.inl d)], [.inl 1, .inl (σ 15 (d).toNat)], σ)) rfl ?_
          refine wp_ic (tgt := 29) hM rfl (by decide) (by exact hr) (by omega) (fun c23 => ?_) (fun c23 => ?_)
          · replace c23 := cmp_le_t c23
            refine wp_go 2 hM (fr' := (4, [some (.inr 2), some (.inl n), some (.inl f), some (.inl (d + 1))], [], σ)) rfl ?_
            exact ih4 f (d + 1) (by omega) (by omega) (by rw [hs]; first | (rw [b01_t c23]; omega) | (rw [b01_f (by omega)]; omega)) (by omega)
          · replace c23 := cmp_le_f c23
            refine wp_go 3 hM (fr' := (4, [some (.inr 2), some (.inl n), some (.inl (f + 1)), some (.inl (d + 1))], [], σ)) rfl ?_
            exact ih4 (f + 1) (d + 1) (by omega) (by omega) (by rw [hs]; first | (rw [b01_t c23]; omega) | (rw [b01_f (by omega)]; omega)) (by omega)
  exact loop4 402 0 0 (by omega) (by omega) (by rfl) (by omega)
