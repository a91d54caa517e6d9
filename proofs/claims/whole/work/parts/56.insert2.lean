/-! an insert keeps the net good: all of it -/
theorem b_side {a b W H : Int} (h0 : 0 ≤ a ∧ a < W) (h1 : 0 ≤ b ∧ b < H) (hW : 2 ≤ W) (hH : 2 ≤ H) (c0 : ¬ (a = 0 ∧ b = 0)) (c1 : ¬ (a = W - 1 ∧ b = 0)) (c2 : ¬ (a = W - 1 ∧ b = H - 1)) (c3 : ¬ (a = 0 ∧ b = H - 1)) : b01 (a < W - 1 ∧ b < H - 1) + b01 (0 < a ∧ 0 < b) + (b01 (b = 0) + b01 (W - 1 - a = 0) + b01 (H - 1 - b = 0) + b01 (a = 0)) = 2 := by
  rcases (show a = 0 ∨ a = W - 1 ∨ (0 < a ∧ a < W - 1) by omega) with x | x | x
  · rw [b01_t (show a < W - 1 ∧ b < H - 1 by omega), b01_f (show ¬ (0 < a ∧ 0 < b) by omega), b01_f (show ¬ b = 0 by omega), b01_f (show ¬ W - 1 - a = 0 by omega), b01_f (show ¬ H - 1 - b = 0 by omega), b01_t x]
    rfl
  · rw [b01_f (show ¬ (a < W - 1 ∧ b < H - 1) by omega), b01_t (show 0 < a ∧ 0 < b by omega), b01_f (show ¬ b = 0 by omega), b01_t (show W - 1 - a = 0 by omega), b01_f (show ¬ H - 1 - b = 0 by omega), b01_f (show ¬ a = 0 by omega)]
    rfl
  · rw [b01_f (show ¬ W - 1 - a = 0 by omega), b01_f (show ¬ a = 0 by omega)]
    rcases (show b = 0 ∨ b = H - 1 ∨ (0 < b ∧ b < H - 1) by omega) with y | y | y
    · rw [b01_t (show a < W - 1 ∧ b < H - 1 by omega), b01_f (show ¬ (0 < a ∧ 0 < b) by omega), b01_t y, b01_f (show ¬ H - 1 - b = 0 by omega)]
      rfl
    · rw [b01_f (show ¬ (a < W - 1 ∧ b < H - 1) by omega), b01_t (show 0 < a ∧ 0 < b by omega), b01_f (show ¬ b = 0 by omega), b01_t (show H - 1 - b = 0 by omega)]
      rfl
    · rw [b01_t (show a < W - 1 ∧ b < H - 1 by omega), b01_t (show 0 < a ∧ 0 < b by omega), b01_f (show ¬ b = 0 by omega), b01_f (show ¬ H - 1 - b = 0 by omega)]
      rfl
theorem nrm_lt {i j k : Int} (h : ¬ i = j) (hi : i < k) (hj : j < k) : (nrm i j k).1 < (nrm i j k).2.1 ∧ (nrm i j k).1 < (nrm i j k).2.2 := by
  unfold nrm
  by_cases q : j < i ∧ j < k
  · rw [if_pos q]
    exact ⟨q.2, q.1⟩
  · rw [if_neg q, if_neg (by omega)]
    show i < j ∧ i < k
    omega
theorem Rg_vin {v : mz_G} {a b x y : Int} (hR : Rg v) (h1 : dot v a b) (h2 : dot v x y) (hn : v 0 2 < 31) : Rg (vin v a b x y) := by
  obtain ⟨w0, w1, w2, -⟩ := vin_0 (v := v) (a := a) (b := b) (x := x) (y := y)
  have h4 := hR.2.2.1.1
  unfold Rg
  rw [w0, w1, w2]
  refine ⟨hR.1, hR.2.1, by omega, fun k hk => ?_⟩
  have key : ∀ q, q < 2 → (0 ≤ gx (vin v a b x y) q (k : Int) ∧ gx (vin v a b x y) q (k : Int) < v 0 0) ∧ (0 ≤ gy (vin v a b x y) q (k : Int) ∧ gy (vin v a b x y) q (k : Int) < v 0 1) := by
    intro q hq
    by_cases e : (k : Int) = v 0 2
    · rw [e]
      have g := vin_K (v := v) (a := a) (b := b) (x := x) (y := y) (by omega)
      obtain ⟨d1, d2, d3, d4⟩ := h1
      obtain ⟨d5, d6, d7, d8⟩ := h2
      rcases (show q = 0 ∨ q = 1 by omega) with rfl | rfl
      · rw [g.1, g.2.1]
        exact ⟨⟨d1, d2⟩, d3, d4⟩
      · rw [g.2.2.1, g.2.2.2]
        exact ⟨⟨d5, d6⟩, d7, d8⟩
    · have hk2 : isk v (k : Int) := ⟨by omega, by omega⟩
      have g := vin_g (a := a) (b := b) (x := x) (y := y) hq hk2
      rw [g.1, g.2]
      exact Rg_q hR hq hk2.1 hk2.2
  have a0 := key 0 (by decide)
  have a1 := key 1 (by decide)
  exact ⟨a0.1, a0.2, a1.1, a1.2⟩
theorem ish_no {v : mz_G} {a b : Int} (h : ¬ ish v a b) : ∀ k, isk v k → ¬ (gx v 0 k = a ∧ gy v 0 k = b) := fun k hk => fstI_nn.mp (Decidable.not_not.mp h) k hk.1 hk.2
theorem fol_no {v : mz_G} {m : List (Int × Int)} {x y : Int} (h : ¬ fol v m x y) : ∀ e ∈ m, 0 < fe v 1 x y e := fun e he => Int.not_le.mp (fun z => h (fol_iff.mpr ⟨e, he, z⟩))
theorem GD_in1 {v : mz_G} {l : List tr3} {a b x y : Int} (h : GD v l) (hd : dot v a b) (hx : dot v x y) (hn : ∀ k, isk v k → ¬ (gx v 0 k = a ∧ gy v 0 k = b)) (hk : keeps v a b x y) (hf : ∀ e ∈ lhOf v l a b, 0 < fe v 1 x y e) (h30 : v 0 2 < 30) : GD (vin v a b x y) (adN (v 0 2) (lhOf v l a b) (l.filter (fun z => !decide (hol v 0 z a b)))) := by
  have hCv := (GD_GO h).2.2.2.1.1
  obtain ⟨p, hG, hK, hN, hD, hS, hV, -, hl⟩ := h
  obtain ⟨⟨hR, hT, hP0, hP1⟩, g1, g2, hC, hH⟩ := id hG
  have h4 := hR.2.2.1.1
  have hW := hR.1
  have hHH := hR.2.1
  have hDs := Pos_Dst hP0
  obtain ⟨w0, w1, w2, w6⟩ := vin_0 (v := v) (a := a) (b := b) (x := x) (y := y)
  obtain ⟨k0, k1, k2, k3⟩ := vin_K (v := v) (a := a) (b := b) (x := x) (y := y) (by omega)
  have hR' := Rg_vin hR hd hx (by omega)
  have hg : ∀ q, q < 2 → ∀ k, isk v k → gx (vin v a b x y) q k = gx v q k ∧ gy (vin v a b x y) q k = gy v q k := fun q hq k hk => vin_g hq hk
  have htar : ∀ q, q < 2 → ∀ t, (0 ≤ t.1 ∧ t.1 < v 0 2) ∧ (0 ≤ t.2.1 ∧ t.2.1 < v 0 2) ∧ (0 ≤ t.2.2 ∧ t.2.2 < v 0 2) → tar (vin v a b x y) q t = tar v q t := by
    intro q hq t r
    unfold tar
    rw [(hg q hq _ r.1).1, (hg q hq _ r.1).2, (hg q hq _ r.2.1).1, (hg q hq _ r.2.1).2, (hg q hq _ r.2.2).1, (hg q hq _ r.2.2).2]
  have hcN : ∀ s k, isk v k → cN (vin v a b x y) 0 s k = cN v 0 s k ∧ cT (vin v a b x y) 0 s k = cT v 0 s k := fun s k hk => cNT_cg w0 w1 (hg 0 (by decide) k hk).1 (hg 0 (by decide) k hk).2 s
  have hPN : ∀ s, cN (vin v a b x y) 0 s (v 0 2) = pN v s a b ∧ cT (vin v a b x y) 0 s (v 0 2) = pT v s a b := by
    intro s
    unfold cN cT pN pT
    rw [w0, w1, k0, k1]
    exact ⟨rfl, rfl⟩
  have ik : ∀ k, isk (vin v a b x y) k ↔ isk v k ∨ k = v 0 2 := fun k => by unfold isk; rw [w2]; omega
  have hLr := Lr_lh (x := a) (y := b) hT
  have hnew : ∀ e ∈ lhOf v l a b, isk v e.1 ∧ isk v e.2 ∧ ¬ e.1 = e.2 := by
    intro e he
    obtain ⟨-, t, ht, h2⟩ := mem_lhOf he
    have := hLr e he
    have hds := hDs t ht
    unfold edg at h2
    exact ⟨this.1, this.2, by omega⟩
  have hK' : Kp (vin v a b x y) := by
    intro k hk'
    unfold keeps
    rw [w0, w1]
    rcases (ik k).mp hk' with z | z
    · rw [(hg 0 (by decide) k z).1, (hg 0 (by decide) k z).2, (hg 1 (by decide) k z).1, (hg 1 (by decide) k z).2]
      exact hK k z
    · rw [z, k0, k1, k2, k3]
      exact hk
  have hcc := hC 0 (by decide)
  have n0 := hn 0 ⟨by decide, by omega⟩
  have n1 := hn 1 ⟨by decide, by omega⟩
  have n2 := hn 2 ⟨by decide, by omega⟩
  have n3 := hn 3 ⟨by decide, by omega⟩
  obtain ⟨d1, d2, d3, d4⟩ := id hd
  -- the ways
  have hpth : ∀ s : Nat, s < 4 → Pth (cT (vin v a b x y) 0 s) (fun z => sM (vin v a b x y) s z ∧ isk v z) (sE s) (s : Int) (p s) := by
    intro s hs
    refine Pth_mono (g2 s hs).1 (Crn_M hR hC hs) (fun z hz => ?_)
    have e := hcN s z hz.1
    exact ⟨⟨sM_of hs hK' ((ik z).mpr (Or.inl hz.1)) (e.1.trans hz.2.1), hz.1⟩, e.2⟩
  have hsk : ∀ s : Nat, s < 4 → isk v (s : Int) := fun s hs => ⟨by omega, by omega⟩
  have hsM : ∀ s : Nat, s < 4 → sM (vin v a b x y) s (s : Int) ∧ isk v (s : Int) := by
    intro s hs
    have hm := Crn_M hR hC hs
    exact ⟨sM_of hs hK' ((ik _).mpr (Or.inl hm.1)) ((hcN s _ hm.1).1.trans hm.2.1), hm.1⟩
  have hbt : ∀ s : Nat, s < 4 → pN v s a b = 0 → cT (vin v a b x y) 0 s (s : Int) < cT (vin v a b x y) 0 s (v 0 2) ∧ cT (vin v a b x y) 0 s (v 0 2) < cT (vin v a b x y) 0 s (sE s) := by
    intro s hs hz
    have e1 := (hcN s (s : Int) (hsk s hs)).2
    have e2 := (hcN s (sE s) (by unfold isk sE; split <;> omega)).2
    rw [e1, e2, (hPN s).2]
    rcases (show s = 0 ∨ s = 1 ∨ s = 2 ∨ s = 3 by omega) with rfl | rfl | rfl | rfl
    · have hz : b = 0 := hz
      show gx v 0 0 < a ∧ a < gx v 0 1
      omega
    · have hz : v 0 0 - 1 - a = 0 := hz
      show gy v 0 1 < b ∧ b < gy v 0 2
      omega
    · have hz : v 0 1 - 1 - b = 0 := hz
      show v 0 0 - 1 - gx v 0 2 < v 0 0 - 1 - a ∧ v 0 0 - 1 - a < v 0 0 - 1 - gx v 0 3
      omega
    · have hz : a = 0 := hz
      show v 0 1 - 1 - gy v 0 3 < v 0 1 - 1 - b ∧ v 0 1 - 1 - b < v 0 1 - 1 - gy v 0 0
      omega
  have hnc : ∀ s : Nat, s < 4 → pN v s a b = 0 → ∀ z ∈ p s, ¬ cT (vin v a b x y) 0 s z = cT (vin v a b x y) 0 s (v 0 2) := by
    intro s hs hz z hm e
    have hm2 := ((Pth_le (g2 s hs).1).2 z hm).2.2
    have hc1 := hm2.2.1
    rw [(hcN s z hm2.1).2, (hPN s).2] at e
    refine hn z hm2.1 ?_
    rcases (show s = 0 ∨ s = 1 ∨ s = 2 ∨ s = 3 by omega) with rfl | rfl | rfl | rfl <;> (simp only [cN, cT, pN, pT] at hc1 hz e; omega)
  have hPs : ∀ (s : Nat) (f : Int → Int → Int), s < 4 → pS f (s : Int) (if pN v s a b = 0 then pI (cT (vin v a b x y) 0 s) (v 0 2) (s : Int) (p s) else p s) = pS (fI v a b (v 0 2) f) (s : Int) (p s) := by
    intro s f hs
    by_cases hz : pN v s a b = 0
    · rw [if_pos hz]
      refine pI_S (hpth s hs) (hsM s hs) (hbt s hs hz).1 (hbt s hs hz).2 (hnc s hs hz) (fun i j hi hj hlt => ?_)
      have ei := hcN s i hi.2
      have ej := hcN s j hj.2
      rw [ei.2, ej.2] at hlt
      have hw := side_w (a := a) (b := b) (ei.1.symm.trans hi.1.2.1) (ej.1.symm.trans hj.1.2.1) hlt hs
      unfold fI
      rw [ei.2, ej.2, (hPN s).2]
      by_cases q : wth v a b i j
      · rw [if_pos q, if_pos (hw.mp q).2]
      · rw [if_neg q, if_neg (fun r => q (hw.mpr ⟨hz, r⟩))]
    · rw [if_neg hz]
      refine pS_cg (hpth s hs) (hsM s hs) (fun i j hi hj hlt => ?_)
      have ei := hcN s i hi.2
      have ej := hcN s j hj.2
      rw [ei.2, ej.2] at hlt
      have hw := side_w (a := a) (b := b) (ei.1.symm.trans hi.1.2.1) (ej.1.symm.trans hj.1.2.1) hlt hs
      unfold fI
      rw [if_neg (fun r => hz (hw.mp r).1)]
  refine ⟨fun s => if pN v s a b = 0 then pI (cT (vin v a b x y) 0 s) (v 0 2) (s : Int) (p s) else p s, ⟨⟨hR', ?_, ?_, ?_⟩, ?_, ?_, ?_, ?_⟩, hK', ?_, ?_, ?_, ?_, by omega, ?_⟩
  · rw [w2]
    refine adN_Rt (Rt_up (sub_Rt hT List.filter_sublist) (by omega)) ⟨by omega, by omega⟩ (fun e he => ?_)
    have := hLr e he
    omega
  · intro t ht
    rcases mem_adN.mp ht with z | ⟨e, he, z⟩
    · have hm := (List.mem_filter.mp z).1
      rw [htar 0 (by decide) t (hT t hm)]
      exact hP0 t hm
    · rw [z, tar_nrm]
      have hh := hnew e he
      have := (mem_lhOf he).1
      unfold tar
      rw [(hg 0 (by decide) _ hh.1).1, (hg 0 (by decide) _ hh.1).2, (hg 0 (by decide) _ hh.2.1).1, (hg 0 (by decide) _ hh.2.1).2, k0, k1, ar_cyc]
      exact this
  · intro t ht
    rcases mem_adN.mp ht with z | ⟨e, he, z⟩
    · have hm := (List.mem_filter.mp z).1
      rw [htar 1 (by decide) t (hT t hm)]
      exact hP1 t hm
    · rw [z, tar_nrm]
      have hh := hnew e he
      have := hf e he
      unfold tar
      rw [(hg 1 (by decide) _ hh.1).1, (hg 1 (by decide) _ hh.1).2, (hg 1 (by decide) _ hh.2.1).1, (hg 1 (by decide) _ hh.2.1).2, k2, k3, ar_cyc]
      exact this
  · intro f hfa
    rw [ins_S hfa hT hP0 hn, g1 _ (fI_An hfa)]
    have s0 := hPs 0 f (by decide)
    have s1 := hPs 1 f (by decide)
    have s2 := hPs 2 f (by decide)
    have s3 := hPs 3 f (by decide)
    have e : pS (fI v a b (v 0 2) f) 0 (p 0) + pS (fI v a b (v 0 2) f) 1 (p 1) + pS (fI v a b (v 0 2) f) 2 (p 2) + pS (fI v a b (v 0 2) f) 3 (p 3) = pS (fI v a b (v 0 2) f) ((0 : Nat) : Int) (p 0) + pS (fI v a b (v 0 2) f) ((1 : Nat) : Int) (p 1) + pS (fI v a b (v 0 2) f) ((2 : Nat) : Int) (p 2) + pS (fI v a b (v 0 2) f) ((3 : Nat) : Int) (p 3) := rfl
    rw [e, ← s0, ← s1, ← s2, ← s3]
    rfl
  · intro s hs
    have hp2 : Pth (cT (vin v a b x y) 0 s) (sM (vin v a b x y) s) (sE s) (s : Int) (p s) := Pth_mono (hpth s hs) (hsM s hs) (fun z hz => ⟨hz.1, rfl⟩)
    show Pth (cT (vin v a b x y) 0 s) (sM (vin v a b x y) s) (sE s) (s : Int) (if pN v s a b = 0 then pI (cT (vin v a b x y) 0 s) (v 0 2) (s : Int) (p s) else p s) ∧ ∀ k, isk (vin v a b x y) k → cN (vin v a b x y) 0 s k = 0 → k = (s : Int) ∨ k ∈ (if pN v s a b = 0 then pI (cT (vin v a b x y) 0 s) (v 0 2) (s : Int) (p s) else p s)
    by_cases hz : pN v s a b = 0
    · rw [if_pos hz]
      have hPm : sM (vin v a b x y) s (v 0 2) := sM_of hs hK' ((ik _).mpr (Or.inr rfl)) ((hPN s).1.trans hz)
      obtain ⟨i1, i2, i3⟩ := pI_ok hPm hp2 (hbt s hs hz).1 (hbt s hs hz).2 (hnc s hs hz)
      refine ⟨i1, fun k hk' hc' => ?_⟩
      rw [i3]
      rcases (ik k).mp hk' with z | z
      · rcases (g2 s hs).2 k z ((hcN s k z).1.symm.trans hc') with r | r
        · exact Or.inl r
        · exact Or.inr (Or.inr r)
      · exact Or.inr (Or.inl z)
    · rw [if_neg hz]
      refine ⟨hp2, fun k hk' hc' => ?_⟩
      rcases (ik k).mp hk' with z | z
      · exact (g2 s hs).2 k z ((hcN s k z).1.symm.trans hc')
      · rw [z, (hPN s).1] at hc'
        exact absurd hc' hz
  · intro q hq
    have c := hC q hq
    have m0 := hg q hq 0 ⟨by decide, by omega⟩
    have m1 := hg q hq 1 ⟨by decide, by omega⟩
    have m2 := hg q hq 2 ⟨by decide, by omega⟩
    have m3 := hg q hq 3 ⟨by decide, by omega⟩
    rw [w0, w1]
    omega
  · intro i j hi hj e1 e2
    rcases (ik i).mp hi with z | z <;> rcases (ik j).mp hj with r | r
    · refine hH i j z r ?_ ?_
      · rw [← (hg 0 (by decide) i z).1, ← (hg 0 (by decide) j r).1]; exact e1
      · rw [← (hg 0 (by decide) i z).2, ← (hg 0 (by decide) j r).2]; exact e2
    · exfalso
      rw [r, k0, (hg 0 (by decide) i z).1] at e1
      rw [r, k1, (hg 0 (by decide) i z).2] at e2
      exact hn i z ⟨e1, e2⟩
    · exfalso
      rw [z, k0, (hg 0 (by decide) j r).1] at e1
      rw [z, k1, (hg 0 (by decide) j r).2] at e2
      exact hn j r ⟨e1.symm, e2.symm⟩
    · rw [z, r]
  · intro t ht
    rcases mem_adN.mp ht with z | ⟨e, he, z⟩
    · exact hN t (List.mem_filter.mp z).1
    · rw [z]
      have hh := hnew e he
      exact nrm_lt hh.2.2 hh.1.2 hh.2.1.2
  · have hold : ∀ t ∈ l, hol v 0 t a b → ∀ k, (hasK t k ∨ k = v 0 2) → ∃ e ∈ lhOf v l a b, e.1 = k ∨ e.2 = k ∨ v 0 2 = k := by
      intro t ht hh k hk'
      have nz := sh_nz (hT t ht) (hP0 t ht) hn
      have hh2 := hh
      unfold hol at hh2
      have key : ∀ e, e ∈ lh1 v a b t → e ∈ lhOf v l a b := fun e he => List.mem_flatMap.mpr ⟨t, ht, he⟩
      rcases hk' with (z | z | z) | z
      · by_cases q : 0 < sh2 v 0 t a b
        · exact ⟨(t.1, t.2.1), key _ (mem_lh1.mpr ⟨hh, Or.inl ⟨rfl, q⟩⟩), Or.inl z⟩
        · exact ⟨(t.2.2, t.1), key _ (mem_lh1.mpr ⟨hh, Or.inr (Or.inr ⟨rfl, by omega⟩)⟩), Or.inr (Or.inl z)⟩
      · by_cases q : 0 < sh2 v 0 t a b
        · exact ⟨(t.1, t.2.1), key _ (mem_lh1.mpr ⟨hh, Or.inl ⟨rfl, q⟩⟩), Or.inr (Or.inl z)⟩
        · exact ⟨(t.2.1, t.2.2), key _ (mem_lh1.mpr ⟨hh, Or.inr (Or.inl ⟨rfl, by omega⟩)⟩), Or.inl z⟩
      · by_cases q : 0 < sh0 v 0 t a b
        · exact ⟨(t.2.1, t.2.2), key _ (mem_lh1.mpr ⟨hh, Or.inr (Or.inl ⟨rfl, q⟩)⟩), Or.inr (Or.inl z)⟩
        · exact ⟨(t.2.2, t.1), key _ (mem_lh1.mpr ⟨hh, Or.inr (Or.inr ⟨rfl, by omega⟩)⟩), Or.inl z⟩
      · by_cases q : 0 < sh0 v 0 t a b
        · exact ⟨(t.2.1, t.2.2), key _ (mem_lh1.mpr ⟨hh, Or.inr (Or.inl ⟨rfl, q⟩)⟩), Or.inr (Or.inr z.symm)⟩
        · exact ⟨(t.2.2, t.1), key _ (mem_lh1.mpr ⟨hh, Or.inr (Or.inr ⟨rfl, by omega⟩)⟩), Or.inr (Or.inr z.symm)⟩
    intro k hk'
    rcases (ik k).mp hk' with z | z
    · obtain ⟨t, ht, hk2⟩ := hD k z
      by_cases q : hol v 0 t a b
      · obtain ⟨e, he, h2⟩ := hold t ht q k (Or.inl hk2)
        exact ⟨_, mem_adN.mpr (Or.inr ⟨e, he, rfl⟩), hasK_nrm.mpr h2⟩
      · exact ⟨t, mem_adN.mpr (Or.inl (List.mem_filter.mpr ⟨ht, by simp [q]⟩)), hk2⟩
    · obtain ⟨l0, l1, lh⟩ := lie_at hCv hd
      obtain ⟨e, he, h2⟩ := hold _ (tg_mem l0 l1) lh k (Or.inr z)
      exact ⟨_, mem_adN.mpr (Or.inr ⟨e, he, rfl⟩), hasK_nrm.mpr h2⟩
  · exact adN_Sd (sub_Sd hS List.filter_sublist)
  · intro d h0 h1
    rw [w0, w1] at h1
    rw [w6]
    exact hV d h0 h1
  · have e1 : ((adN (v 0 2) (lhOf v l a b) (l.filter (fun z => !decide (hol v 0 z a b)))).length : Int) = ((l.filter (fun z => !decide (hol v 0 z a b))).length : Int) + ((lhOf v l a b).length : Int) := by
      rw [adN_len]
      omega
    have e2 := inl_len hG hd hn
    have hlen : ∀ s : Nat, s < 4 → (((if pN v s a b = 0 then pI (cT (vin v a b x y) 0 s) (v 0 2) (s : Int) (p s) else p s)).length : Int) = ((p s).length : Int) + b01 (pN v s a b = 0) := by
      intro s hs
      have hp2 : Pth (cT (vin v a b x y) 0 s) (sM (vin v a b x y) s) (sE s) (s : Int) (p s) := Pth_mono (hpth s hs) (hsM s hs) (fun z hz => ⟨hz.1, rfl⟩)
      by_cases hz : pN v s a b = 0
      · have hPm : sM (vin v a b x y) s (v 0 2) := sM_of hs hK' ((ik _).mpr (Or.inr rfl)) ((hPN s).1.trans hz)
        obtain ⟨i1, i2, i3⟩ := pI_ok hPm hp2 (hbt s hs hz).1 (hbt s hs hz).2 (hnc s hs hz)
        rw [if_pos hz, b01_t hz, i2]
        omega
      · rw [if_neg hz, b01_f hz]
        omega
    have q0 := hlen 0 (by decide)
    have q1 := hlen 1 (by decide)
    have q2 := hlen 2 (by decide)
    have q3 := hlen 3 (by decide)
    have bs := b_side (a := a) (b := b) (W := v 0 0) (H := v 0 1) ⟨d1, d2⟩ ⟨d3, d4⟩ hW.1 hHH.1 (by omega) (by omega) (by omega) (by omega)
    have r0 : b01 (pN v 0 a b = 0) = b01 (b = 0) := rfl
    have r1 : b01 (pN v 1 a b = 0) = b01 (v 0 0 - 1 - a = 0) := rfl
    have r2 : b01 (pN v 2 a b = 0) = b01 (v 0 1 - 1 - b = 0) := rfl
    have r3 : b01 (pN v 3 a b = 0) = b01 (a = 0) := rfl
    unfold blen at hl ⊢
    rw [e1, w2]
    show _ = 2 * (v 0 2 + 1) - 2 - ((((if pN v 0 a b = 0 then pI (cT (vin v a b x y) 0 0) (v 0 2) ((0 : Nat) : Int) (p 0) else p 0)).length : Int) + (((if pN v 1 a b = 0 then pI (cT (vin v a b x y) 0 1) (v 0 2) ((1 : Nat) : Int) (p 1) else p 1)).length : Int) + (((if pN v 2 a b = 0 then pI (cT (vin v a b x y) 0 2) (v 0 2) ((2 : Nat) : Int) (p 2) else p 2)).length : Int) + (((if pN v 3 a b = 0 then pI (cT (vin v a b x y) 0 3) (v 0 2) ((3 : Nat) : Int) (p 3) else p 3)).length : Int))
    rw [q0, q1, q2, q3, r0, r1, r2, r3]
    omega
theorem GD_ins {v : mz_G} {l : List tr3} {a b x y : Int} (h : GD v l) : GD (vIns v l a b x y) (lIns v l a b x y) := by
  unfold vIns lIns
  by_cases q : rti v l a b x y = 0
  · rw [if_pos q, if_pos q]
    obtain ⟨z1, z2, z3, z4, z5, z6⟩ := rti0 q
    exact GD_in1 h z1 z2 (ish_no z3) z4 (fol_no z5) z6
  · rw [if_neg q, if_neg q]
    exact h
