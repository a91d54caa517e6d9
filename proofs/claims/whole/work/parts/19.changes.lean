set_option maxRecDepth 100000 in
set_option maxHeartbeats 4000000 in
theorem sp_X1_beginCorner  (σ : mz_G) (k : Int) (x : Int) (y : Int) (h0 : 0 ≤ k) (h1 : k < 32) : mz_Cl shA 8 [.inr 1, .inl k, .inl x, .inl y] σ (fun r σ' => r = none ∧ σ' = (mz_up (mz_up (mz_up (mz_up σ 16 (k).toNat x) 17 (k).toNat y) 18 (k).toNat x) 19 (k).toNat y)) := by
  have hM : mz_meth[8]? = some mtX1_beginCorner := rfl
  refine mz_Cl.of hM ?_
  show mz_Wp shA none 8 (0, [some (.inr 1), some (.inl k), some (.inl x), some (.inl y)], [], σ) _
  refine wp_go 5 hM (fr' := (7, [some (.inr 1), some (.inl k), some (.inl x), some (.inl y)], [.inl y, .inl x, .inl k, .inr 8], σ)) rfl ?_
  refine wp_calld (v := 0) (idx := 61) (j := 42) (N := mtX2_put) (as := [.inr 8, .inl k, .inl x, .inl y]) (rest := []) hM rfl (Or.inl ⟨rfl, rfl⟩) rfl (sp_X2_put_8  σ k x y (by first | assumption | omega) (by first | assumption | omega)) ?_
  show mz_Wp shA none 8 (10, [some (.inr 1), some (.inl k), some (.inl x), some (.inl y)], [], (mz_up (mz_up σ 16 (k).toNat x) 17 (k).toNat y)) _
  refine wp_go 5 hM (fr' := (17, [some (.inr 1), some (.inl k), some (.inl x), some (.inl y)], [.inl y, .inl x, .inl k, .inr 9], (mz_up (mz_up σ 16 (k).toNat x) 17 (k).toNat y))) rfl ?_
  refine wp_calld (v := 0) (idx := 61) (j := 42) (N := mtX2_put) (as := [.inr 9, .inl k, .inl x, .inl y]) (rest := []) hM rfl (Or.inl ⟨rfl, rfl⟩) rfl (sp_X2_put_9  (mz_up (mz_up σ 16 (k).toNat x) 17 (k).toNat y) k x y (by first | assumption | omega) (by first | assumption | omega)) ?_
  show mz_Wp shA none 8 (20, [some (.inr 1), some (.inl k), some (.inl x), some (.inl y)], [], (mz_up (mz_up (mz_up (mz_up σ 16 (k).toNat x) 17 (k).toNat y) 18 (k).toNat x) 19 (k).toNat y)) _
  refine wp_retv hM rfl rfl ?_
  exact ⟨rfl, rfl⟩

set_option maxRecDepth 100000 in
set_option maxHeartbeats 4000000 in
theorem sp_X1_begin  (σ : mz_G) (w : Int) (h : Int) (h0 : 2 ≤ w) (h1 : w ≤ 20) (h2 : 2 ≤ h) (h3 : h ≤ 20) : mz_Cl shA 7 [.inr 1, .inl w, .inl h] σ (fun r σ' => r = none ∧ CA σ' (vbg w h (σ 4)) [(0, 1, 2), (0, 2, 3)] ∧ Fn σ σ') := by
  have hM : mz_meth[7]? = some mtX1_begin := rfl
  refine mz_Cl.of hM ?_
  show mz_Wp shA none 7 (0, [some (.inr 1), some (.inl w), some (.inl h)], [], σ) _
  refine wp_go 10 hM (fr' := (14, [some (.inr 1), some (.inl w), some (.inl h)], [.inl 0, .inl 0, .inl 0, .inr 1], (mz_up (mz_up σ 1 8 w) 1 9 h))) rfl ?_
  refine wp_calld (v := 0) (idx := 51) (j := 8) (N := mtX1_beginCorner) (as := [.inr 1, .inl 0, .inl 0, .inl 0]) (rest := []) hM rfl (Or.inl ⟨rfl, rfl⟩) rfl (sp_X1_beginCorner  (mz_up (mz_up σ 1 8 w) 1 9 h) 0 0 0 (by first | assumption | omega) (by first | assumption | omega)) ?_
  show mz_Wp shA none 7 (17, [some (.inr 1), some (.inl w), some (.inl h)], [], (mz_up (mz_up (mz_up (mz_up (mz_up (mz_up σ 1 8 w) 1 9 h) 16 0 0) 17 0 0) 18 0 0) 19 0 0)) _
  refine wp_go 7 hM (fr' := (26, [some (.inr 1), some (.inl w), some (.inl h)], [.inl 0, .inl (w - 1), .inl 1, .inr 1], (mz_up (mz_up (mz_up (mz_up (mz_up (mz_up σ 1 8 w) 1 9 h) 16 0 0) 17 0 0) 18 0 0) 19 0 0))) rfl ?_
  refine wp_calld (v := 0) (idx := 51) (j := 8) (N := mtX1_beginCorner) (as := [.inr 1, .inl 1, .inl (w - 1), .inl 0]) (rest := []) hM rfl (Or.inl ⟨rfl, rfl⟩) rfl (sp_X1_beginCorner  (mz_up (mz_up (mz_up (mz_up (mz_up (mz_up σ 1 8 w) 1 9 h) 16 0 0) 17 0 0) 18 0 0) 19 0 0) 1 (w - 1) 0 (by first | assumption | omega) (by first | assumption | omega)) ?_
  show mz_Wp shA none 7 (29, [some (.inr 1), some (.inl w), some (.inl h)], [], (mz_up (mz_up (mz_up (mz_up (mz_up (mz_up (mz_up (mz_up (mz_up (mz_up σ 1 8 w) 1 9 h) 16 0 0) 17 0 0) 18 0 0) 19 0 0) 16 1 (w - 1)) 17 1 0) 18 1 (w - 1)) 19 1 0)) _
  refine wp_go 10 hM (fr' := (43, [some (.inr 1), some (.inl w), some (.inl h)], [.inl (h - 1), .inl (w - 1), .inl 2, .inr 1], (mz_up (mz_up (mz_up (mz_up (mz_up (mz_up (mz_up (mz_up (mz_up (mz_up σ 1 8 w) 1 9 h) 16 0 0) 17 0 0) 18 0 0) 19 0 0) 16 1 (w - 1)) 17 1 0) 18 1 (w - 1)) 19 1 0))) rfl ?_
  refine wp_calld (v := 0) (idx := 51) (j := 8) (N := mtX1_beginCorner) (as := [.inr 1, .inl 2, .inl (w - 1), .inl (h - 1)]) (rest := []) hM rfl (Or.inl ⟨rfl, rfl⟩) rfl (sp_X1_beginCorner  (mz_up (mz_up (mz_up (mz_up (mz_up (mz_up (mz_up (mz_up (mz_up (mz_up σ 1 8 w) 1 9 h) 16 0 0) 17 0 0) 18 0 0) 19 0 0) 16 1 (w - 1)) 17 1 0) 18 1 (w - 1)) 19 1 0) 2 (w - 1) (h - 1) (by first | assumption | omega) (by first | assumption | omega)) ?_
  show mz_Wp shA none 7 (46, [some (.inr 1), some (.inl w), some (.inl h)], [], (mz_up (mz_up (mz_up (mz_up (mz_up (mz_up (mz_up (mz_up (mz_up (mz_up (mz_up (mz_up (mz_up (mz_up σ 1 8 w) 1 9 h) 16 0 0) 17 0 0) 18 0 0) 19 0 0) 16 1 (w - 1)) 17 1 0) 18 1 (w - 1)) 19 1 0) 16 2 (w - 1)) 17 2 (h - 1)) 18 2 (w - 1)) 19 2 (h - 1))) _
  refine wp_go 7 hM (fr' := (55, [some (.inr 1), some (.inl w), some (.inl h)], [.inl (h - 1), .inl 0, .inl 3, .inr 1], (mz_up (mz_up (mz_up (mz_up (mz_up (mz_up (mz_up (mz_up (mz_up (mz_up (mz_up (mz_up (mz_up (mz_up σ 1 8 w) 1 9 h) 16 0 0) 17 0 0) 18 0 0) 19 0 0) 16 1 (w - 1)) 17 1 0) 18 1 (w - 1)) 19 1 0) 16 2 (w - 1)) 17 2 (h - 1)) 18 2 (w - 1)) 19 2 (h - 1)))) rfl ?_
  refine wp_calld (v := 0) (idx := 51) (j := 8) (N := mtX1_beginCorner) (as := [.inr 1, .inl 3, .inl 0, .inl (h - 1)]) (rest := []) hM rfl (Or.inl ⟨rfl, rfl⟩) rfl (sp_X1_beginCorner  (mz_up (mz_up (mz_up (mz_up (mz_up (mz_up (mz_up (mz_up (mz_up (mz_up (mz_up (mz_up (mz_up (mz_up σ 1 8 w) 1 9 h) 16 0 0) 17 0 0) 18 0 0) 19 0 0) 16 1 (w - 1)) 17 1 0) 18 1 (w - 1)) 19 1 0) 16 2 (w - 1)) 17 2 (h - 1)) 18 2 (w - 1)) 19 2 (h - 1)) 3 0 (h - 1) (by first | assumption | omega) (by first | assumption | omega)) ?_
  show mz_Wp shA none 7 (58, [some (.inr 1), some (.inl w), some (.inl h)], [], (mz_up (mz_up (mz_up (mz_up (mz_up (mz_up (mz_up (mz_up (mz_up (mz_up (mz_up (mz_up (mz_up (mz_up (mz_up (mz_up (mz_up (mz_up σ 1 8 w) 1 9 h) 16 0 0) 17 0 0) 18 0 0) 19 0 0) 16 1 (w - 1)) 17 1 0) 18 1 (w - 1)) 19 1 0) 16 2 (w - 1)) 17 2 (h - 1)) 18 2 (w - 1)) 19 2 (h - 1)) 16 3 0) 17 3 (h - 1)) 18 3 0) 19 3 (h - 1))) _
  refine wp_go 12 hM (fr' := (78, [some (.inr 1), some (.inl w), some (.inl h)], [.inl 2, .inl 1, .inl 0, .inr 11], (mz_up (mz_up (mz_up (mz_up (mz_up (mz_up (mz_up (mz_up (mz_up (mz_up (mz_up (mz_up (mz_up (mz_up (mz_up (mz_up (mz_up (mz_up (mz_up (mz_up σ 1 8 w) 1 9 h) 16 0 0) 17 0 0) 18 0 0) 19 0 0) 16 1 (w - 1)) 17 1 0) 18 1 (w - 1)) 19 1 0) 16 2 (w - 1)) 17 2 (h - 1)) 18 2 (w - 1)) 19 2 (h - 1)) 16 3 0) 17 3 (h - 1)) 18 3 0) 19 3 (h - 1)) 1 7 4) 11 1 0))) rfl ?_
  refine wp_call (v := 0) (idx := 58) (j := 58) (N := mtX4_add) (as := [.inr 11, .inl 0, .inl 1, .inl 2]) (rest := []) hM rfl (Or.inl ⟨rfl, rfl⟩) rfl (sp_X4_add [] (mz_up (mz_up (mz_up (mz_up (mz_up (mz_up (mz_up (mz_up (mz_up (mz_up (mz_up (mz_up (mz_up (mz_up (mz_up (mz_up (mz_up (mz_up (mz_up (mz_up σ 1 8 w) 1 9 h) 16 0 0) 17 0 0) 18 0 0) 19 0 0) 16 1 (w - 1)) 17 1 0) 18 1 (w - 1)) 19 1 0) 16 2 (w - 1)) 17 2 (h - 1)) 18 2 (w - 1)) 19 2 (h - 1)) 16 3 0) 17 3 (h - 1)) 18 3 0) 19 3 (h - 1)) 1 7 4) 11 1 0) 0 1 2 (by exact ⟨rfl, fun t x hx => by simp at hx⟩) (by exact fun x hx => absurd hx List.not_mem_nil) (by decide) (by exact List.Pairwise.nil) (by omega) (by omega) (by omega) (by omega) (by omega) (by omega)) ?_
  rintro r0 σ_78 ⟨rfl, ht_78, hf_78⟩
  show mz_Wp shA none 7 (81, [some (.inr 1), some (.inl w), some (.inl h)], [], σ_78) _
  have hs1 : Sd (ins (nrm 0 1 2) []) := ins_Sd List.Pairwise.nil
  have hr1 : Rt 32 (ins (nrm 0 1 2) []) := ins_Rt (fun x hx => absurd hx List.not_mem_nil) (nrm_rg (by omega) (by omega) (by omega))
  refine wp_go 5 hM (fr' := (88, [some (.inr 1), some (.inl w), some (.inl h)], [.inl 3, .inl 2, .inl 0, .inr 11], σ_78)) rfl ?_
  refine wp_call (v := 0) (idx := 58) (j := 58) (N := mtX4_add) (as := [.inr 11, .inl 0, .inl 2, .inl 3]) (rest := []) hM rfl (Or.inl ⟨rfl, rfl⟩) rfl (sp_X4_add (ins (nrm 0 1 2) []) σ_78 0 2 3 (by exact ht_78) (by exact hr1) (by rw [ins_len]; decide) (by exact hs1) (by omega) (by omega) (by omega) (by omega) (by omega) (by omega)) ?_
  rintro r0 σ_88 ⟨rfl, ht_88, hf_88⟩
  show mz_Wp shA none 7 (91, [some (.inr 1), some (.inl w), some (.inl h)], [], σ_88) _
  refine wp_retv hM rfl rfl ?_
  refine ⟨rfl, ?_, ?_⟩
  · have e : ins (nrm 0 2 3) (ins (nrm 0 1 2) []) = [(0, 1, 2), (0, 2, 3)] := by decide
    rw [e] at ht_88
    have hf := hf_78.tr hf_88
    refine ⟨⟨?_, ?_, ?_, ht_88.1⟩, fun k hk => ?_, ht_88.2, fun d _ => ?_⟩
    · rw [hf 1 8 (by decide) (by omega)]; simp [mz_up, vbg]
    · rw [hf 1 9 (by decide) (by omega)]; simp [mz_up, vbg]
    · rw [hf 1 7 (by decide) (by omega)]; simp [mz_up, vbg]
    · rw [hf 16 k (by decide) (by omega), hf 17 k (by decide) (by omega), hf 18 k (by decide) (by omega), hf 19 k (by decide) (by omega)]
      have hk4 : (k : Int) < 4 := hk
      rcases (show k = 0 ∨ k = 1 ∨ k = 2 ∨ k = 3 by omega) with rfl | rfl | rfl | rfl <;> simp [mz_up, vbg]
    · rw [hf 4 d (by decide) (by omega)]; simp [mz_up, vbg]
  · refine Fn.tr ?_ (Fn_Ft (hf_78.tr hf_88))
    intro c i a
    simp only [mz_up]
    repeat rw [if_neg (by omega)]

set_option maxRecDepth 100000 in
set_option maxHeartbeats 4000000 in
theorem sp_X1_putKnot (v : mz_G) (l : List tr3) (σ : mz_G) (a : Int) (b : Int) (x : Int) (y : Int) (h0 : CA σ v l) (h1 : Bs v l) (h2 : Sd l) (h3 : v 0 2 ≤ 30) (h4 : dot v a b) (h5 : ((lhOf v l a b).length : Int) ≤ 60) (h6 : ((l.filter (fun z => !decide (hol v 0 z a b))).length : Int) + ((lhOf v l a b).length : Int) ≤ 60) : mz_Cl shA 27 [.inr 1, .inl a, .inl b, .inl x, .inl y] σ (fun r σ' => r = some (v 0 2) ∧ CA σ' (vin v a b x y) (adN (v 0 2) (lhOf v l a b) (l.filter (fun z => !decide (hol v 0 z a b)))) ∧ Fn σ σ') := by
  have hM : mz_meth[27]? = some mtX1_putKnot := rfl
  obtain ⟨hR, hT, hLen⟩ := id h1
  obtain ⟨⟨hW0, hW1⟩, ⟨hH0, hH1⟩, ⟨hn0, hn1⟩, hpt⟩ := id hR
  obtain ⟨⟨hc1, hc2, hc3, hc4⟩, hcp, hct, hcv⟩ := id h0
  refine mz_Cl.of hM ?_
  show mz_Wp shA none 27 (0, [some (.inr 1), some (.inl a), some (.inl b), some (.inl x), some (.inl y), none, none], [], σ) _
  refine wp_go 3 hM (fr' := (3, [some (.inr 1), some (.inl a), some (.inl b), some (.inl x), some (.inl y), none, none], [.inl b, .inl a, .inr 1], σ)) rfl ?_
  refine wp_call (v := 0) (idx := 121) (j := 28) (N := mtX1_linkOfHome) (as := [.inr 1, .inl a, .inl b]) (rest := []) hM rfl (Or.inl ⟨rfl, rfl⟩) rfl (sp_X1_linkOfHome v l σ a b (by first | assumption | omega) (by first | assumption | omega) (by first | assumption | omega) (by first | assumption | omega)) ?_
  rintro r0 σ_3 ⟨rfl, hk_3, hf_3⟩
  show mz_Wp shA none 27 (6, [some (.inr 1), some (.inl a), some (.inl b), some (.inl x), some (.inl y), none, none], [], σ_3) _
  have hC_3 := CA_Fl h0 hf_3
  have hT_3 : σ_3 11 1 = (l.length : Int) := hC_3.1.2.2.2
  refine wp_go 6 hM (fr' := (17, [some (.inr 1), some (.inl a), some (.inl b), some (.inl x), some (.inl y), some (.inl ((σ_3 11 1) - 1)), none], [], σ_3)) rfl ?_
  have loop17 : ∀ (fuel : Nat) (t : Int) (σ1 : mz_G), (-1 ≤ t) → (t < (l.length : Int)) → (CT σ1 (rmT (fun z => hol v 0 z a b) l t)) → (Ft σ_3 σ1) → (CA σ1 v (rmT (fun z => hol v 0 z a b) l t)) → ((t + 1 : Int) < fuel) → mz_Wp shA none 27 (17, [some (.inr 1), some (.inl a), some (.inl b), some (.inl x), some (.inl y), some (.inl t), none], [], σ1) (fun r σ' => r = some (v 0 2) ∧ CA σ' (vin v a b x y) (adN (v 0 2) (lhOf v l a b) (l.filter (fun z => !decide (hol v 0 z a b)))) ∧ Fn σ σ') := by
    intro fuel
    induction fuel with
    | zero =>
      intro t σ1 hv17_0 hv17_1 hv17_2 hv17_3 hv17_4 hf17
      exfalso
      omega
    | succ fuel ih17 =>
      intro t σ1 hv17_0 hv17_1 hv17_2 hv17_3 hv17_4 hf17
      have hB1 : Bs v (rmT (fun z => hol v 0 z a b) l t) := sub_Bs h1 rmT_sub
      have hS1 : Sd (rmT (fun z => hol v 0 z a b) l t) := sub_Sd h2 rmT_sub
      have hR1 : Rt 32 (rmT (fun z => hol v 0 z a b) l t) := Rt_up hB1.2.1 (by omega)
      have hN1 := hB1.2.2
      refine wp_go 1 hM (fr' := (19, [some (.inr 1), some (.inl a), some (.inl b), some (.inl x), some (.inl y), some (.inl t), none], [.inl t], σ1)) rfl ?_
      refine wp_if (tgt := 52) hM rfl (by decide) (by omega) (fun c19 => ?_) (fun c19 => ?_)
      · replace c19 := cmp_lt_t c19
        have hend : t = -1 := by omega
        rw [hend, rmT_end] at hv17_2 hv17_4
        have hn_1 : σ1 1 7 = v 0 2 := hv17_4.1.2.2.1
        have hL_1 : LK σ1 (lhOf v l a b) := LK_Ft hk_3 hv17_3
        have hL6 : σ1 1 6 = ((lhOf v l a b).length : Int) := hL_1.1
        have hLr := Lr_lh (x := a) (y := b) hT
        refine wp_go 8 hM (fr' := (66, [some (.inr 1), some (.inl a), some (.inl b), some (.inl x), some (.inl y), some (.inl (σ1 1 7)), none], [.inl b, .inl a, .inl (σ1 1 7), .inr 8], σ1)) rfl ?_
        refine wp_calld (v := 0) (idx := 61) (j := 42) (N := mtX2_put) (as := [.inr 8, .inl (σ1 1 7), .inl a, .inl b]) (rest := []) hM rfl (Or.inl ⟨rfl, rfl⟩) rfl (sp_X2_put_8  σ1 (σ1 1 7) a b (by first | assumption | omega) (by first | assumption | omega)) ?_
        show mz_Wp shA none 27 (69, [some (.inr 1), some (.inl a), some (.inl b), some (.inl x), some (.inl y), some (.inl (σ1 1 7)), none], [], (mz_up (mz_up σ1 16 ((σ1 1 7)).toNat a) 17 ((σ1 1 7)).toNat b)) _
        refine wp_go 5 hM (fr' := (78, [some (.inr 1), some (.inl a), some (.inl b), some (.inl x), some (.inl y), some (.inl (σ1 1 7)), none], [.inl y, .inl x, .inl (σ1 1 7), .inr 9], (mz_up (mz_up σ1 16 ((σ1 1 7)).toNat a) 17 ((σ1 1 7)).toNat b))) rfl ?_
        refine wp_calld (v := 0) (idx := 61) (j := 42) (N := mtX2_put) (as := [.inr 9, .inl (σ1 1 7), .inl x, .inl y]) (rest := []) hM rfl (Or.inl ⟨rfl, rfl⟩) rfl (sp_X2_put_9  (mz_up (mz_up σ1 16 ((σ1 1 7)).toNat a) 17 ((σ1 1 7)).toNat b) (σ1 1 7) x y (by first | assumption | omega) (by first | assumption | omega)) ?_
        show mz_Wp shA none 27 (81, [some (.inr 1), some (.inl a), some (.inl b), some (.inl x), some (.inl y), some (.inl (σ1 1 7)), none], [], (mz_up (mz_up (mz_up (mz_up σ1 16 ((σ1 1 7)).toNat a) 17 ((σ1 1 7)).toNat b) 18 ((σ1 1 7)).toNat x) 19 ((σ1 1 7)).toNat y)) _
        refine wp_go 8 hM (fr' := (94, [some (.inr 1), some (.inl a), some (.inl b), some (.inl x), some (.inl y), some (.inl (σ1 1 7)), some (.inl 0)], [], (mz_up (mz_up (mz_up (mz_up (mz_up σ1 16 ((σ1 1 7)).toNat a) 17 ((σ1 1 7)).toNat b) 18 ((σ1 1 7)).toNat x) 19 ((σ1 1 7)).toNat y) 1 7 ((σ1 1 7) + 1)))) rfl ?_
        have loop94 : ∀ (fuel : Nat) (i : Int) (σ2 : mz_G), (0 ≤ i) → (i ≤ ((lhOf v l a b).length : Int)) → (CT σ2 (adN (v 0 2) ((lhOf v l a b).take i.toNat) (l.filter (fun z => !decide (hol v 0 z a b))))) → (Ft (mz_up (mz_up (mz_up (mz_up (mz_up σ1 16 (σ1 1 7).toNat a) 17 (σ1 1 7).toNat b) 18 (σ1 1 7).toNat x) 19 (σ1 1 7).toNat y) 1 7 (σ1 1 7 + 1)) σ2) → ((((lhOf v l a b).length : Int) - i : Int) < fuel) → mz_Wp shA none 27 (94, [some (.inr 1), some (.inl a), some (.inl b), some (.inl x), some (.inl y), some (.inl (σ1 1 7)), some (.inl i)], [], σ2) (fun r σ' => r = some (v 0 2) ∧ CA σ' (vin v a b x y) (adN (v 0 2) (lhOf v l a b) (l.filter (fun z => !decide (hol v 0 z a b)))) ∧ Fn σ σ') := by
          intro fuel
          induction fuel with
          | zero =>
            intro i σ2 hv94_0 hv94_1 hv94_2 hv94_3 hf94
            exfalso
            omega
          | succ fuel ih94 =>
            intro i σ2 hv94_0 hv94_1 hv94_2 hv94_3 hf94
            have hL2 : LK σ2 (lhOf v l a b) := LK_Ft (LK_Fx hL_1 (by simp [mz_up]) (fun j => by simp [mz_up]) (fun j => by simp [mz_up])) hv94_3
            have hL26 : σ2 1 6 = ((lhOf v l a b).length : Int) := hL2.1
            have hS2 : Sd (adN (v 0 2) ((lhOf v l a b).take i.toNat) (l.filter (fun z => !decide (hol v 0 z a b)))) := adN_Sd (sub_Sd h2 List.filter_sublist)
            have hR2 : Rt 32 (adN (v 0 2) ((lhOf v l a b).take i.toNat) (l.filter (fun z => !decide (hol v 0 z a b)))) := adN_Rt (Rt_up (sub_Rt hT List.filter_sublist) (by omega)) (by omega) (fun e he => by have := hLr e (List.mem_of_mem_take he); omega)
            have hN2 : ((adN (v 0 2) ((lhOf v l a b).take i.toNat) (l.filter (fun z => !decide (hol v 0 z a b)))).length : Int) < 64 := by rw [adN_len, List.length_take]; omega
            refine wp_go 3 hM (fr' := (100, [some (.inr 1), some (.inl a), some (.inl b), some (.inl x), some (.inl y), some (.inl (σ1 1 7)), some (.inl i)], [.inl (σ2 1 6), .inl i], σ2)) rfl ?_
            refine wp_ic (tgt := 132) hM rfl (by decide) (by omega) (by omega) (fun c100 => ?_) (fun c100 => ?_)
            · replace c100 := cmp_ge_t c100
              refine wp_go 1 hM (fr' := (134, [some (.inr 1), some (.inl a), some (.inl b), some (.inl x), some (.inl y), some (.inl (σ1 1 7)), some (.inl i)], [.inl (σ1 1 7)], σ2)) rfl ?_
              refine wp_ret hM rfl (rfl) ?_
              have hiE : i = ((lhOf v l a b).length : Int) := by omega
              rw [adN_all hiE] at hv94_2
              have ej : ∀ j : Nat, j = (σ1 1 7).toNat ↔ (j : Int) = v 0 2 := fun j => by omega
              refine ⟨by rw [hn_1], CA_Ft (CA_vin hv17_4 hR (fun j => by simp [mz_up, ej]) (fun j => by simp [mz_up, ej]) (fun j => by simp [mz_up, ej]) (fun j => by simp [mz_up, ej]) (by simp [mz_up, hn_1]) ⟨by simp [mz_up], by simp [mz_up], by simp [mz_up]⟩ (fun c hc j => by rcases hc with rfl | rfl <;> simp [mz_up])) hv94_3 hv94_2, ?_⟩
              refine Fn.tr (Fn_Fl hf_3) (Fn.tr (Fn_Ft hv17_3) (Fn.tr ?_ (Fn_Ft hv94_3)))
              exact ((((Fn_up (by simp)).tr (Fn_up (by simp))).tr (Fn_up (by simp))).tr (Fn_up (by simp))).tr (Fn_up (by simp))
            · replace c100 := cmp_ge_f c100
              have hli := LK_at hL2 hv94_0 (show i < ((lhOf v l a b).length : Int) by omega)
              have hlr := Lr_at hLr hv94_0 (show i < ((lhOf v l a b).length : Int) by omega)
              refine wp_go 5 hM (fr' := (113, [some (.inr 1), some (.inl a), some (.inl b), some (.inl x), some (.inl y), some (.inl (σ1 1 7)), some (.inl i)], [.inl i, .inr 12, .inr 11], σ2)) rfl ?_
              refine wp_al (n := 64) hM rfl (by decide) rfl (by omega) (by omega) ?_
              rw [hli.1]
              refine wp_go 3 hM (fr' := (120, [some (.inr 1), some (.inl a), some (.inl b), some (.inl x), some (.inl y), some (.inl (σ1 1 7)), some (.inl i)], [.inl i, .inr 13, .inl ((mg (lhOf v l a b) i).1), .inr 11], σ2)) rfl ?_
              refine wp_al (n := 64) hM rfl (by decide) rfl (by omega) (by omega) ?_
              rw [hli.2]
              refine wp_go 1 hM (fr' := (123, [some (.inr 1), some (.inl a), some (.inl b), some (.inl x), some (.inl y), some (.inl (σ1 1 7)), some (.inl i)], [.inl (σ1 1 7), .inl ((mg (lhOf v l a b) i).2), .inl ((mg (lhOf v l a b) i).1), .inr 11], σ2)) rfl ?_
              refine wp_call (v := 0) (idx := 58) (j := 58) (N := mtX4_add) (as := [.inr 11, .inl ((mg (lhOf v l a b) i).1), .inl ((mg (lhOf v l a b) i).2), .inl (σ1 1 7)]) (rest := []) hM rfl (Or.inl ⟨rfl, rfl⟩) rfl (sp_X4_add (adN (v 0 2) ((lhOf v l a b).take i.toNat) (l.filter (fun z => !decide (hol v 0 z a b)))) σ2 ((mg (lhOf v l a b) i).1) ((mg (lhOf v l a b) i).2) (σ1 1 7) (by first | assumption | omega) (by first | assumption | omega) (by first | assumption | omega) (by first | assumption | omega) (by first | assumption | omega) (by first | assumption | omega) (by first | assumption | omega) (by first | assumption | omega) (by first | assumption | omega) (by first | assumption | omega)) ?_
              rintro r0 σ_123 ⟨rfl, ht_123, hf_123⟩
              show mz_Wp shA none 27 (126, [some (.inr 1), some (.inl a), some (.inl b), some (.inl x), some (.inl y), some (.inl (σ1 1 7)), some (.inl i)], [], σ_123) _
              rw [hn_1] at ht_123
              refine wp_go 2 hM (fr' := (94, [some (.inr 1), some (.inl a), some (.inl b), some (.inl x), some (.inl y), some (.inl (σ1 1 7)), some (.inl (i + 1))], [], σ_123)) rfl ?_
              exact ih94 (i + 1) σ_123 (by omega) (by omega) (by rw [adN_s hv94_0 (by omega)]; exact ht_123) (by exact hv94_3.tr hf_123) (by omega)
        exact loop94 70 0 (mz_up (mz_up (mz_up (mz_up (mz_up σ1 16 ((σ1 1 7)).toNat a) 17 ((σ1 1 7)).toNat b) 18 ((σ1 1 7)).toNat x) 19 ((σ1 1 7)).toNat y) 1 7 ((σ1 1 7) + 1)) (by omega) (by omega) (by rw [adN_0]; exact ⟨by rw [← hv17_2.1]; simp [mz_up], fun t z hz => by rw [← hv17_2.2 t z hz]; simp [mz_up]⟩) (by exact Ft.rf) (by omega)
      · replace c19 := cmp_lt_f c19
        have hlt := rmT_lt (P := (fun z => hol v 0 z a b)) (l := l) (t := t) (by omega) (by omega)
        have hgt := rmT_get (P := (fun z => hol v 0 z a b)) (l := l) (t := t) (by omega) (by omega)
        refine wp_go 6 hM (fr' := (31, [some (.inr 1), some (.inl a), some (.inl b), some (.inl x), some (.inl y), some (.inl t), none], [.inl b, .inl a, .inl t, .inr 8, .inr 1], σ1)) rfl ?_
        refine wp_calld (v := 0) (idx := 92) (j := 16) (N := mtX1_holds) (as := [.inr 1, .inr 8, .inl t, .inl a, .inl b]) (rest := []) hM rfl (Or.inl ⟨rfl, rfl⟩) rfl (sp_X1_holds_8 v (rmT (fun z => hol v 0 z a b) l t) σ1 t a b (by first | assumption | omega) (by first | assumption | omega) (by first | assumption | omega) (by first | assumption | omega) (by first | assumption | omega)) ?_
        show mz_Wp shA none 27 (34, [some (.inr 1), some (.inl a), some (.inl b), some (.inl x), some (.inl y), some (.inl t), none], [.inl (b01 (hol v 0 (tg (rmT (fun z => hol v 0 z a b) l t) t) a b))], σ1) _
        rw [hgt]
        refine wp_if (tgt := 46) hM rfl (by decide) b01_R (fun c34 => ?_) (fun c34 => ?_)
        · replace c34 := b01_eq0 (cmp_eq_t c34)
          refine wp_go 2 hM (fr' := (17, [some (.inr 1), some (.inl a), some (.inl b), some (.inl x), some (.inl y), some (.inl (t + (-1))), none], [], σ1)) rfl ?_
          exact ih17 (t + (-1)) σ1 (by omega) (by omega) (by first | (rw [← rmT_yes (by omega) (by omega) c34]; exact ht_43) | (rw [rmT_no (by omega) (by omega) c34]; exact hv17_2)) (by first | exact hv17_3.tr hf_43 | exact hv17_3) (by first | (refine CA_Ft hv17_4 hf_43 ?_; rw [← rmT_yes (by omega) (by omega) c34]; exact ht_43) | (rw [rmT_no (by omega) (by omega) c34]; exact hv17_4)) (by omega)
        · replace c34 := b01_ne0 (cmp_eq_f c34)
          refine wp_go 3 hM (fr' := (43, [some (.inr 1), some (.inl a), some (.inl b), some (.inl x), some (.inl y), some (.inl t), none], [.inl t, .inr 11], σ1)) rfl ?_
          refine wp_call (v := 0) (idx := 128) (j := 59) (N := mtX4_remove) (as := [.inr 11, .inl t]) (rest := []) hM rfl (Or.inl ⟨rfl, rfl⟩) rfl (sp_X4_remove (rmT (fun z => hol v 0 z a b) l t) σ1 t (by first | assumption | omega) (by first | assumption | omega) (by first | assumption | omega) (by first | assumption | omega) (by first | assumption | omega)) ?_
          rintro r0 σ_43 ⟨rfl, ht_43, hf_43⟩
          show mz_Wp shA none 27 (46, [some (.inr 1), some (.inl a), some (.inl b), some (.inl x), some (.inl y), some (.inl t), none], [], σ_43) _
          refine wp_go 2 hM (fr' := (17, [some (.inr 1), some (.inl a), some (.inl b), some (.inl x), some (.inl y), some (.inl (t + (-1))), none], [], σ_43)) rfl ?_
          exact ih17 (t + (-1)) σ_43 (by omega) (by omega) (by first | (rw [← rmT_yes (by omega) (by omega) c34]; exact ht_43) | (rw [rmT_no (by omega) (by omega) c34]; exact hv17_2)) (by first | exact hv17_3.tr hf_43 | exact hv17_3) (by first | (refine CA_Ft hv17_4 hf_43 ?_; rw [← rmT_yes (by omega) (by omega) c34]; exact ht_43) | (rw [rmT_no (by omega) (by omega) c34]; exact hv17_4)) (by omega)
  exact loop17 70 ((σ_3 11 1) - 1) σ_3 (by omega) (by omega) (by rw [rmT_0 (by omega)]; exact CA_CT hC_3) (by exact Ft.rf) (by rw [rmT_0 (by omega)]; exact hC_3) (by omega)

set_option maxRecDepth 100000 in
set_option maxHeartbeats 4000000 in
theorem sp_X1_turnEdge (v : mz_G) (l : List tr3) (σ : mz_G) (a : Int) (b : Int) (h0 : CA σ v l) (h1 : Bs v l) (h2 : Sd l) (h3 : 0 ≤ a) (h4 : a < v 0 2) (h5 : 0 ≤ b) (h6 : b < v 0 2) (h7 : ¬ apx l a b = -1) (h8 : ¬ apx l b a = -1) (h9 : ((l.filter (fun z => !decide (hasK z a ∧ hasK z b))).length : Int) ≤ 58) : mz_Cl shA 38 [.inr 1, .inl a, .inl b] σ (fun r σ' => r = none ∧ CA σ' v (ins (nrm (apx l b a) b (apx l a b)) (ins (nrm a (apx l b a) (apx l a b)) (l.filter (fun z => !decide (hasK z a ∧ hasK z b))))) ∧ Ft σ σ') := by
  have hM : mz_meth[38]? = some mtX1_turnEdge := rfl
  obtain ⟨hR, hT, hLen⟩ := id h1
  obtain ⟨⟨hW0, hW1⟩, ⟨hH0, hH1⟩, ⟨hn0, hn1⟩, hpt⟩ := id hR
  obtain ⟨⟨hc1, hc2, hc3, hc4⟩, hcp, hct, hcv⟩ := id h0
  have ha1 := apx_bd (a := a) (b := b) hT hn1
  have ha2 := apx_bd (a := b) (b := a) hT hn1
  have hb1 := ha1.2.2 h7
  have hb2 := ha2.2.2 h8
  refine mz_Cl.of hM ?_
  show mz_Wp shA none 38 (0, [some (.inr 1), some (.inl a), some (.inl b), none, none, none], [], σ) _
  refine wp_go 4 hM (fr' := (6, [some (.inr 1), some (.inl a), some (.inl b), none, none, none], [.inl b, .inl a, .inr 11], σ)) rfl ?_
  refine wp_calld (v := 0) (idx := 149) (j := 60) (N := mtX4_apex) (as := [.inr 11, .inl a, .inl b]) (rest := []) hM rfl (Or.inl ⟨rfl, rfl⟩) rfl (sp_X4_apex v l σ a b (by first | assumption | omega) (by first | assumption | omega) (by first | assumption | omega) (by first | assumption | omega)) ?_
  show mz_Wp shA none 38 (9, [some (.inr 1), some (.inl a), some (.inl b), none, none, none], [.inl (apx l a b)], σ) _
  refine wp_go 5 hM (fr' := (16, [some (.inr 1), some (.inl a), some (.inl b), some (.inl (apx l a b)), none, none], [.inl a, .inl b, .inr 11], σ)) rfl ?_
  refine wp_calld (v := 0) (idx := 149) (j := 60) (N := mtX4_apex) (as := [.inr 11, .inl b, .inl a]) (rest := []) hM rfl (Or.inl ⟨rfl, rfl⟩) rfl (sp_X4_apex v l σ b a (by first | assumption | omega) (by first | assumption | omega) (by first | assumption | omega) (by first | assumption | omega)) ?_
  show mz_Wp shA none 38 (19, [some (.inr 1), some (.inl a), some (.inl b), some (.inl (apx l a b)), none, none], [.inl (apx l b a)], σ) _
  refine wp_go 7 hM (fr' := (32, [some (.inr 1), some (.inl a), some (.inl b), some (.inl (apx l a b)), some (.inl (apx l b a)), some (.inl ((σ 11 1) - 1))], [], σ)) rfl ?_
  have loop32 : ∀ (fuel : Nat) (t : Int) (σ1 : mz_G), (-1 ≤ t) → (t < (l.length : Int)) → (CT σ1 (rmT (fun z => hasK z a ∧ hasK z b) l t)) → (Ft σ σ1) → (CA σ1 v (rmT (fun z => hasK z a ∧ hasK z b) l t)) → ((t + 1 : Int) < fuel) → mz_Wp shA none 38 (32, [some (.inr 1), some (.inl a), some (.inl b), some (.inl (apx l a b)), some (.inl (apx l b a)), some (.inl t)], [], σ1) (fun r σ' => r = none ∧ CA σ' v (ins (nrm (apx l b a) b (apx l a b)) (ins (nrm a (apx l b a) (apx l a b)) (l.filter (fun z => !decide (hasK z a ∧ hasK z b))))) ∧ Ft σ σ') := by
    intro fuel
    induction fuel with
    | zero =>
      intro t σ1 hv32_0 hv32_1 hv32_2 hv32_3 hv32_4 hf32
      exfalso
      omega
    | succ fuel ih32 =>
      intro t σ1 hv32_0 hv32_1 hv32_2 hv32_3 hv32_4 hf32
      have hB1 : Bs v (rmT (fun z => hasK z a ∧ hasK z b) l t) := sub_Bs h1 rmT_sub
      have hS1 : Sd (rmT (fun z => hasK z a ∧ hasK z b) l t) := sub_Sd h2 rmT_sub
      have hR1 : Rt 32 (rmT (fun z => hasK z a ∧ hasK z b) l t) := Rt_up hB1.2.1 (by omega)
      have hN1 := hB1.2.2
      refine wp_go 1 hM (fr' := (34, [some (.inr 1), some (.inl a), some (.inl b), some (.inl (apx l a b)), some (.inl (apx l b a)), some (.inl t)], [.inl t], σ1)) rfl ?_
      refine wp_if (tgt := 78) hM rfl (by decide) (by omega) (fun c34 => ?_) (fun c34 => ?_)
      · replace c34 := cmp_lt_t c34
        have hend : t = -1 := by omega
        rw [hend, rmT_end] at hv32_2 hv32_4
        have hSf : Sd (l.filter (fun z => !decide (hasK z a ∧ hasK z b))) := sub_Sd h2 List.filter_sublist
        have hRf : Rt 32 (l.filter (fun z => !decide (hasK z a ∧ hasK z b))) := Rt_up (sub_Rt hT List.filter_sublist) (by omega)
        have hSg : Sd (ins (nrm a (apx l b a) (apx l a b)) (l.filter (fun z => !decide (hasK z a ∧ hasK z b)))) := ins_Sd hSf
        have hRg : Rt 32 (ins (nrm a (apx l b a) (apx l a b)) (l.filter (fun z => !decide (hasK z a ∧ hasK z b)))) := ins_Rt hRf (nrm_rg (by omega) (by omega) (by omega))
        have hLg : ((ins (nrm a (apx l b a) (apx l a b)) (l.filter (fun z => !decide (hasK z a ∧ hasK z b)))).length : Int) < 64 := by rw [ins_len]; omega
        refine wp_go 5 hM (fr' := (86, [some (.inr 1), some (.inl a), some (.inl b), some (.inl (apx l a b)), some (.inl (apx l b a)), some (.inl t)], [.inl (apx l a b), .inl (apx l b a), .inl a, .inr 11], σ1)) rfl ?_
        refine wp_call (v := 0) (idx := 58) (j := 58) (N := mtX4_add) (as := [.inr 11, .inl a, .inl (apx l b a), .inl (apx l a b)]) (rest := []) hM rfl (Or.inl ⟨rfl, rfl⟩) rfl (sp_X4_add (l.filter (fun z => !decide (hasK z a ∧ hasK z b))) σ1 a (apx l b a) (apx l a b) (by first | assumption | omega) (by first | assumption | omega) (by first | assumption | omega) (by first | assumption | omega) (by first | assumption | omega) (by first | assumption | omega) (by first | assumption | omega) (by first | assumption | omega) (by first | assumption | omega) (by first | assumption | omega)) ?_
        rintro r0 σ_86 ⟨rfl, ht_86, hf_86⟩
        show mz_Wp shA none 38 (89, [some (.inr 1), some (.inl a), some (.inl b), some (.inl (apx l a b)), some (.inl (apx l b a)), some (.inl t)], [], σ_86) _
        refine wp_go 5 hM (fr' := (97, [some (.inr 1), some (.inl a), some (.inl b), some (.inl (apx l a b)), some (.inl (apx l b a)), some (.inl t)], [.inl (apx l a b), .inl b, .inl (apx l b a), .inr 11], σ_86)) rfl ?_
        refine wp_call (v := 0) (idx := 58) (j := 58) (N := mtX4_add) (as := [.inr 11, .inl (apx l b a), .inl b, .inl (apx l a b)]) (rest := []) hM rfl (Or.inl ⟨rfl, rfl⟩) rfl (sp_X4_add (ins (nrm a (apx l b a) (apx l a b)) (l.filter (fun z => !decide (hasK z a ∧ hasK z b)))) σ_86 (apx l b a) b (apx l a b) (by first | assumption | omega) (by first | assumption | omega) (by first | assumption | omega) (by first | assumption | omega) (by first | assumption | omega) (by first | assumption | omega) (by first | assumption | omega) (by first | assumption | omega) (by first | assumption | omega) (by first | assumption | omega)) ?_
        rintro r0 σ_97 ⟨rfl, ht_97, hf_97⟩
        show mz_Wp shA none 38 (100, [some (.inr 1), some (.inl a), some (.inl b), some (.inl (apx l a b)), some (.inl (apx l b a)), some (.inl t)], [], σ_97) _
        refine wp_retv hM rfl rfl ?_
        exact ⟨rfl, CA_Ft hv32_4 (hf_86.tr hf_97) ht_97, hv32_3.tr (hf_86.tr hf_97)⟩
      · replace c34 := cmp_lt_f c34
        have hlt := rmT_lt (P := (fun z => hasK z a ∧ hasK z b)) (l := l) (t := t) (by omega) (by omega)
        have hgt := rmT_get (P := (fun z => hasK z a ∧ hasK z b)) (l := l) (t := t) (by omega) (by omega)
        refine wp_go 4 hM (fr' := (44, [some (.inr 1), some (.inl a), some (.inl b), some (.inl (apx l a b)), some (.inl (apx l b a)), some (.inl t)], [.inl a, .inl t, .inr 11], σ1)) rfl ?_
        refine wp_calld (v := 0) (idx := 70) (j := 57) (N := mtX4_has) (as := [.inr 11, .inl t, .inl a]) (rest := []) hM rfl (Or.inl ⟨rfl, rfl⟩) rfl (sp_X4_has v (rmT (fun z => hasK z a ∧ hasK z b) l t) σ1 t a (by first | assumption | omega) (by first | assumption | omega) (by first | assumption | omega) (by first | assumption | omega) (by first | assumption | omega)) ?_
        show mz_Wp shA none 38 (47, [some (.inr 1), some (.inl a), some (.inl b), some (.inl (apx l a b)), some (.inl (apx l b a)), some (.inl t)], [.inl (b01 (hasK (tg (rmT (fun z => hasK z a ∧ hasK z b) l t) t) a))], σ1) _
        rw [hgt]
        refine wp_if (tgt := 72) hM rfl (by decide) b01_R (fun c47 => ?_) (fun c47 => ?_)
        · replace c47 := b01_eq0 (cmp_eq_t c47)
          refine wp_go 2 hM (fr' := (32, [some (.inr 1), some (.inl a), some (.inl b), some (.inl (apx l a b)), some (.inl (apx l b a)), some (.inl (t + (-1)))], [], σ1)) rfl ?_
          exact ih32 (t + (-1)) σ1 (by omega) (by omega) (by first | (rw [← rmT_yes (by omega) (by omega) ⟨c47, c60⟩]; exact ht_69) | (rw [rmT_no (by omega) (by omega) (fun q => c60 q.2)]; exact hv32_2) | (rw [rmT_no (by omega) (by omega) (fun q => c47 q.1)]; exact hv32_2)) (by first | exact hv32_3.tr hf_69 | exact hv32_3) (by first | (refine CA_Ft hv32_4 hf_69 ?_; rw [← rmT_yes (by omega) (by omega) ⟨c47, c60⟩]; exact ht_69) | (rw [rmT_no (by omega) (by omega) (fun q => c60 q.2)]; exact hv32_4) | (rw [rmT_no (by omega) (by omega) (fun q => c47 q.1)]; exact hv32_4)) (by omega)
        · replace c47 := b01_ne0 (cmp_eq_f c47)
          refine wp_go 4 hM (fr' := (57, [some (.inr 1), some (.inl a), some (.inl b), some (.inl (apx l a b)), some (.inl (apx l b a)), some (.inl t)], [.inl b, .inl t, .inr 11], σ1)) rfl ?_
          refine wp_calld (v := 0) (idx := 70) (j := 57) (N := mtX4_has) (as := [.inr 11, .inl t, .inl b]) (rest := []) hM rfl (Or.inl ⟨rfl, rfl⟩) rfl (sp_X4_has v (rmT (fun z => hasK z a ∧ hasK z b) l t) σ1 t b (by first | assumption | omega) (by first | assumption | omega) (by first | assumption | omega) (by first | assumption | omega) (by first | assumption | omega)) ?_
          show mz_Wp shA none 38 (60, [some (.inr 1), some (.inl a), some (.inl b), some (.inl (apx l a b)), some (.inl (apx l b a)), some (.inl t)], [.inl (b01 (hasK (tg (rmT (fun z => hasK z a ∧ hasK z b) l t) t) b))], σ1) _
          rw [hgt]
          refine wp_if (tgt := 72) hM rfl (by decide) b01_R (fun c60 => ?_) (fun c60 => ?_)
          · replace c60 := b01_eq0 (cmp_eq_t c60)
            refine wp_go 2 hM (fr' := (32, [some (.inr 1), some (.inl a), some (.inl b), some (.inl (apx l a b)), some (.inl (apx l b a)), some (.inl (t + (-1)))], [], σ1)) rfl ?_
            exact ih32 (t + (-1)) σ1 (by omega) (by omega) (by first | (rw [← rmT_yes (by omega) (by omega) ⟨c47, c60⟩]; exact ht_69) | (rw [rmT_no (by omega) (by omega) (fun q => c60 q.2)]; exact hv32_2) | (rw [rmT_no (by omega) (by omega) (fun q => c47 q.1)]; exact hv32_2)) (by first | exact hv32_3.tr hf_69 | exact hv32_3) (by first | (refine CA_Ft hv32_4 hf_69 ?_; rw [← rmT_yes (by omega) (by omega) ⟨c47, c60⟩]; exact ht_69) | (rw [rmT_no (by omega) (by omega) (fun q => c60 q.2)]; exact hv32_4) | (rw [rmT_no (by omega) (by omega) (fun q => c47 q.1)]; exact hv32_4)) (by omega)
          · replace c60 := b01_ne0 (cmp_eq_f c60)
            refine wp_go 3 hM (fr' := (69, [some (.inr 1), some (.inl a), some (.inl b), some (.inl (apx l a b)), some (.inl (apx l b a)), some (.inl t)], [.inl t, .inr 11], σ1)) rfl ?_
            refine wp_call (v := 0) (idx := 128) (j := 59) (N := mtX4_remove) (as := [.inr 11, .inl t]) (rest := []) hM rfl (Or.inl ⟨rfl, rfl⟩) rfl (sp_X4_remove (rmT (fun z => hasK z a ∧ hasK z b) l t) σ1 t (by first | assumption | omega) (by first | assumption | omega) (by first | assumption | omega) (by first | assumption | omega) (by first | assumption | omega)) ?_
            rintro r0 σ_69 ⟨rfl, ht_69, hf_69⟩
            show mz_Wp shA none 38 (72, [some (.inr 1), some (.inl a), some (.inl b), some (.inl (apx l a b)), some (.inl (apx l b a)), some (.inl t)], [], σ_69) _
            refine wp_go 2 hM (fr' := (32, [some (.inr 1), some (.inl a), some (.inl b), some (.inl (apx l a b)), some (.inl (apx l b a)), some (.inl (t + (-1)))], [], σ_69)) rfl ?_
            exact ih32 (t + (-1)) σ_69 (by omega) (by omega) (by first | (rw [← rmT_yes (by omega) (by omega) ⟨c47, c60⟩]; exact ht_69) | (rw [rmT_no (by omega) (by omega) (fun q => c60 q.2)]; exact hv32_2) | (rw [rmT_no (by omega) (by omega) (fun q => c47 q.1)]; exact hv32_2)) (by first | exact hv32_3.tr hf_69 | exact hv32_3) (by first | (refine CA_Ft hv32_4 hf_69 ?_; rw [← rmT_yes (by omega) (by omega) ⟨c47, c60⟩]; exact ht_69) | (rw [rmT_no (by omega) (by omega) (fun q => c60 q.2)]; exact hv32_4) | (rw [rmT_no (by omega) (by omega) (fun q => c47 q.1)]; exact hv32_4)) (by omega)
  exact loop32 70 ((σ 11 1) - 1) σ (by omega) (by omega) (by rw [rmT_0 (by omega)]; exact CA_CT h0) (by exact Ft.rf) (by rw [rmT_0 (by omega)]; exact h0) (by omega)

set_option maxRecDepth 100000 in
set_option maxHeartbeats 4000000 in
theorem sp_X1_coverLink (l : List tr3) (m : List (Int × Int)) (σ : mz_G)  (h0 : CT σ l) (h1 : Rt 32 l) (h2 : (l.length : Int) < 64) (h3 : Sd l) (h4 : LK σ m) (h5 : ∀ e ∈ m, (0 ≤ e.1 ∧ e.1 < 32) ∧ (0 ≤ e.2 ∧ e.2 < 32)) (h6 : (m.length : Int) ≤ 64) : mz_Cl shA 41 [.inr 1] σ (fun r σ' => r = none ∧ CT σ' (cov m l) ∧ Ft σ σ') := by
  have hM : mz_meth[41]? = some mtX1_coverLink := rfl
  have hL6 := h4.1
  refine mz_Cl.of hM ?_
  show mz_Wp shA none 41 (0, [some (.inr 1), none, none], [], σ) _
  refine wp_go 2 hM (fr' := (2, [some (.inr 1), some (.inl 0), none], [], σ)) rfl ?_
  have loop2 : ∀ (fuel : Nat) (i : Int) (d2_2 : Option mz_V), (0 ≤ i) → (i ≤ (m.length : Int)) → (fstI i (fun i => ¬ fstI (m.length : Int) (fun j => (mg m i).2 = (mg m j).1) = -1) = -1) → (((m.length : Int) - i : Int) < fuel) → mz_Wp shA none 41 (2, [some (.inr 1), some (.inl i), d2_2], [], σ) (fun r σ' => r = none ∧ CT σ' (cov m l) ∧ Ft σ σ') := by
    intro fuel
    induction fuel with
    | zero =>
      intro i d2_2 hv2_0 hv2_1 hv2_2 hf2
      exfalso
      omega
    | succ fuel ih2 =>
      intro i d2_2 hv2_0 hv2_1 hv2_2 hf2
      refine wp_go 3 hM (fr' := (7, [some (.inr 1), some (.inl i), d2_2], [.inl (σ 1 6), .inl i], σ)) rfl ?_
      refine wp_ic (tgt := 73) hM rfl (by decide) (by omega) (by omega) (fun c7 => ?_) (fun c7 => ?_)
      · replace c7 := cmp_ge_t c7
        refine wp_retv hM rfl rfl ?_
        refine ⟨rfl, ?_, Ft.rf⟩
        have e1 : cvi m = -1 := by unfold cvi; rw [show (m.length : Int) = i from by omega] at hv2_2 ⊢; exact hv2_2
        unfold cov
        rw [if_pos e1]
        exact h0
      · replace c7 := cmp_ge_f c7
        refine wp_go 2 hM (fr' := (12, [some (.inr 1), some (.inl i), some (.inl 0)], [], σ)) rfl ?_
        have loop12 : ∀ (fuel : Nat) (j : Int), (0 ≤ j) → (j ≤ (m.length : Int)) → (fstI j (fun j => (mg m i).2 = (mg m j).1) = -1) → (((m.length : Int) - j : Int) < fuel) → mz_Wp shA none 41 (12, [some (.inr 1), some (.inl i), some (.inl j)], [], σ) (fun r σ' => r = none ∧ CT σ' (cov m l) ∧ Ft σ σ') := by
          intro fuel
          induction fuel with
          | zero =>
            intro j hv12_0 hv12_1 hv12_2 hf12
            exfalso
            omega
          | succ fuel ih12 =>
            intro j hv12_0 hv12_1 hv12_2 hf12
            refine wp_go 3 hM (fr' := (17, [some (.inr 1), some (.inl i), some (.inl j)], [.inl (σ 1 6), .inl j], σ)) rfl ?_
            refine wp_ic (tgt := 67) hM rfl (by decide) (by omega) (by omega) (fun c17 => ?_) (fun c17 => ?_)
            · replace c17 := cmp_ge_t c17
              refine wp_go 2 hM (fr' := (2, [some (.inr 1), some (.inl (i + 1)), some (.inl j)], [], σ)) rfl ?_
              exact ih2 (i + 1) (some (.inl j)) (by omega) (by omega) (by refine fstI_no hv2_0 hv2_2 (fun q => q ?_); rw [show (m.length : Int) = j from by omega]; exact hv12_2) (by omega)
            · replace c17 := cmp_ge_f c17
              have hli := LK_at h4 hv2_0 (show i < (m.length : Int) by omega)
              have hlj := LK_at h4 hv12_0 (show j < (m.length : Int) by omega)
              have hri := h5 _ (List.mem_of_getElem? (mg_get hv2_0 (show i < (m.length : Int) by omega)))
              have hrj := h5 _ (List.mem_of_getElem? (mg_get hv12_0 (show j < (m.length : Int) by omega)))
              refine wp_go 3 hM (fr' := (25, [some (.inr 1), some (.inl i), some (.inl j)], [.inl i, .inr 13], σ)) rfl ?_
              refine wp_al (n := 64) hM rfl (by decide) rfl (by omega) (by omega) ?_
              rw [hli.2]
              refine wp_go 3 hM (fr' := (31, [some (.inr 1), some (.inl i), some (.inl j)], [.inl j, .inr 12, .inl ((mg m i).2)], σ)) rfl ?_
              refine wp_al (n := 64) hM rfl (by decide) rfl (by omega) (by omega) ?_
              rw [hlj.1]
              refine wp_ic (tgt := 61) hM rfl (by decide) (by omega) (by omega) (fun c32 => ?_) (fun c32 => ?_)
              · replace c32 := cmp_ne_t c32
                refine wp_go 2 hM (fr' := (12, [some (.inr 1), some (.inl i), some (.inl (j + 1))], [], σ)) rfl ?_
                exact ih12 (j + 1) (by omega) (by omega) (by exact fstI_no hv12_0 hv12_2 c32) (by omega)
              · replace c32 := cmp_ne_f c32
                refine wp_go 5 hM (fr' := (44, [some (.inr 1), some (.inl i), some (.inl j)], [.inl i, .inr 12, .inr 11], σ)) rfl ?_
                refine wp_al (n := 64) hM rfl (by decide) rfl (by omega) (by omega) ?_
                rw [hli.1]
                refine wp_go 3 hM (fr' := (50, [some (.inr 1), some (.inl i), some (.inl j)], [.inl i, .inr 13, .inl ((mg m i).1), .inr 11], σ)) rfl ?_
                refine wp_al (n := 64) hM rfl (by decide) rfl (by omega) (by omega) ?_
                rw [hli.2]
                refine wp_go 3 hM (fr' := (56, [some (.inr 1), some (.inl i), some (.inl j)], [.inl j, .inr 13, .inl ((mg m i).2), .inl ((mg m i).1), .inr 11], σ)) rfl ?_
                refine wp_al (n := 64) hM rfl (by decide) rfl (by omega) (by omega) ?_
                rw [hlj.2]
                refine wp_call (v := 0) (idx := 58) (j := 58) (N := mtX4_add) (as := [.inr 11, .inl ((mg m i).1), .inl ((mg m i).2), .inl ((mg m j).2)]) (rest := []) hM rfl (Or.inl ⟨rfl, rfl⟩) rfl (sp_X4_add l σ ((mg m i).1) ((mg m i).2) ((mg m j).2) (by first | assumption | omega) (by first | assumption | omega) (by first | assumption | omega) (by first | assumption | omega) (by first | assumption | omega) (by first | assumption | omega) (by first | assumption | omega) (by first | assumption | omega) (by first | assumption | omega) (by first | assumption | omega)) ?_
                rintro r0 σ_57 ⟨rfl, ht_57, hf_57⟩
                show mz_Wp shA none 41 (60, [some (.inr 1), some (.inl i), some (.inl j)], [], σ_57) _
                refine wp_retv hM rfl rfl ?_
                have ej := fstI_yes (P := fun j => (mg m i).2 = (mg m j).1) (n := (m.length : Int)) hv12_0 (by omega) hv12_2 c32
                have ei := fstI_yes (P := fun i => ¬ fstI (m.length : Int) (fun j => (mg m i).2 = (mg m j).1) = -1) (n := (m.length : Int)) hv2_0 (by omega) hv2_2 (by rw [ej]; omega)
                refine ⟨rfl, ?_, hf_57⟩
                have e1 : cvi m = i := ei
                have e2 : cvj m i = j := ej
                unfold cov
                rw [e1, if_neg (by omega), e2]
                exact ht_57
        exact loop12 66 0 (by omega) (by omega) (by rfl) (by omega)
  exact loop2 66 0 (none) (by omega) (by omega) (by rfl) (by omega)
