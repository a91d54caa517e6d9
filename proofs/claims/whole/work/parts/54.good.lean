/-! the net is good: what all calls keep -/
def Kp (v : mz_G) : Prop := ∀ k, isk v k → keeps v (gx v 0 k) (gy v 0 k) (gx v 1 k) (gy v 1 k)
def Nm (l : List tr3) : Prop := ∀ t ∈ l, t.1 < t.2.1 ∧ t.1 < t.2.2
def Dg (v : mz_G) (l : List tr3) : Prop := ∀ k, isk v k → ∃ t ∈ l, hasK t k
def GD (v : mz_G) (l : List tr3) : Prop := ∃ p : Nat → List Int, GP v l p ∧ Kp v ∧ Nm l ∧ Dg v l ∧ Sd l ∧ Vr v ∧ v 0 2 ≤ 30 ∧ (l.length : Int) = 2 * v 0 2 - 2 - blen p
theorem sE_ne {s : Nat} (hs : s < 4) : ¬ (s : Int) = sE s := by
  unfold sE
  split <;> omega
theorem p_pos {v : mz_G} {p : Nat → List Int} (h : G2 v p) {s : Nat} (hs : s < 4) : 1 ≤ ((p s).length : Int) := by
  have := Pth_ne (h s hs).1 (sE_ne hs)
  have : ¬ (p s).length = 0 := fun z => this (List.length_eq_zero_iff.mp z)
  omega
theorem blen_4 {v : mz_G} {p : Nat → List Int} (h : G2 v p) : 4 ≤ blen p := by
  have h0 := p_pos h (s := 0) (by decide)
  have h1 := p_pos h (s := 1) (by decide)
  have h2 := p_pos h (s := 2) (by decide)
  have h3 := p_pos h (s := 3) (by decide)
  unfold blen
  omega
theorem GD_len {v : mz_G} {l : List tr3} (h : GD v l) : (l.length : Int) ≤ 54 ∧ (l.length : Int) ≤ 2 * v 0 2 - 6 := by
  obtain ⟨p, hG, -, -, -, -, -, hn, hl⟩ := h
  have := blen_4 hG.2.2.1
  omega
theorem GD_GO {v : mz_G} {l : List tr3} (h : GD v l) : GO v l := by
  have hle := GD_len h
  obtain ⟨p, hG, hK, hN, hD, hS, hV, hn, hl⟩ := id h
  obtain ⟨⟨hR, hT, hP0, hP1⟩, -⟩ := id hG
  refine ⟨⟨hR, hT, by omega⟩, hS, ⟨hP0, hP1⟩, ⟨cov_of hG (by decide), cov_of hG (by decide)⟩, hV, hn, ?_⟩
  have h4 := hR.2.2.1.1
  obtain ⟨t0, m0, k0⟩ := hD 0 ⟨by decide, by omega⟩
  obtain ⟨t1, m1, k1⟩ := hD 1 ⟨by decide, by omega⟩
  obtain ⟨t2, m2, k2⟩ := hD 2 ⟨by decide, by omega⟩
  obtain ⟨t3, m3, k3⟩ := hD 3 ⟨by decide, by omega⟩
  match l, m0, m1, m2, m3 with
  | [], m0, _, _, _ => cases m0
  | [t], m0, m1, m2, m3 =>
    exfalso
    rw [List.mem_singleton.mp m0] at k0
    rw [List.mem_singleton.mp m1] at k1
    rw [List.mem_singleton.mp m2] at k2
    rw [List.mem_singleton.mp m3] at k3
    unfold hasK at k0 k1 k2 k3
    omega
  | t :: t' :: r, _, _, _, _ => simp only [List.length_cons]; omega
theorem GD_EU {v : mz_G} {l : List tr3} (h : GD v l) : EU v l := by
  obtain ⟨p, hG, -, -, -, -, -, -, hl⟩ := h
  exact eu_of hG hl
theorem sM_of {v : mz_G} {s : Nat} {k : Int} (hs : s < 4) (hK : Kp v) (hk : isk v k) (h : cN v 0 s k = 0) : sM v s k := by
  have e := hK k hk
  refine ⟨hk, h, ?_⟩
  rcases (show s = 0 ∨ s = 1 ∨ s = 2 ∨ s = 3 by omega) with rfl | rfl | rfl | rfl
  · exact e.2.2.1 h
  · have h : v 0 0 - 1 - gx v 0 k = 0 := h
    have := e.2.1 (by omega)
    show v 0 0 - 1 - gx v 1 k = 0
    omega
  · have h : v 0 1 - 1 - gy v 0 k = 0 := h
    have := e.2.2.2 (by omega)
    show v 0 1 - 1 - gy v 1 k = 0
    omega
  · exact e.1 h
theorem cNT_cg {v v' : mz_G} {k k' : Int} {q q' : Nat} (e0 : v' 0 0 = v 0 0) (e1 : v' 0 1 = v 0 1) (ex : gx v' q' k' = gx v q k) (ey : gy v' q' k' = gy v q k) (s : Nat) : cN v' q' s k' = cN v q s k ∧ cT v' q' s k' = cT v q s k := by
  unfold cN cT
  rw [e0, e1, ex, ey]
  exact ⟨rfl, rfl⟩
theorem GD_v {v v' : mz_G} {l : List tr3} (h : GD v l) (e0 : v' 0 0 = v 0 0 ∧ v' 0 1 = v 0 1 ∧ v' 0 2 = v 0 2) (e1 : ∀ k, isk v k → gx v' 0 k = gx v 0 k ∧ gy v' 0 k = gy v 0 k) (hR' : Rg v') (hP : Pos v' l 1) (hK' : Kp v') (hc : ∀ k, 0 ≤ k → k < 4 → gx v' 1 k = gx v' 0 k ∧ gy v' 1 k = gy v' 0 k) (hV : Vr v') : GD v' l := by
  obtain ⟨p, ⟨⟨hR, hT, hP0, hP1⟩, g1, g2, hC, hH⟩, hK, hN, hD, hS, -, hn, hl⟩ := h
  have ik : ∀ k, isk v' k ↔ isk v k := fun k => by unfold isk; rw [e0.2.2]
  have h4 := hR.2.2.1.1
  refine ⟨p, ⟨⟨hR', by rw [e0.2.2]; exact hT, fun t ht => ?_, hP⟩, g1, fun s hs => ⟨?_, fun k hk hz => ?_⟩, ?_, fun a b ha hb h1 h2 => ?_⟩, hK', hN, fun k hk => hD k ((ik k).mp hk), hS, hV, by omega, by omega⟩
  · have r := hT t ht
    have := hP0 t ht
    unfold tar at this ⊢
    rw [(e1 _ r.1).1, (e1 _ r.1).2, (e1 _ r.2.1).1, (e1 _ r.2.1).2, (e1 _ r.2.2).1, (e1 _ r.2.2).2]
    exact this
  · refine Pth_mono (g2 s hs).1 (Crn_M hR hC hs) (fun x hx => ?_)
    have e := cNT_cg (v := v) (v' := v') (q := 0) (q' := 0) (k := x) (k' := x) e0.1 e0.2.1 (e1 x hx.1).1 (e1 x hx.1).2 s
    exact ⟨sM_of hs hK' ((ik x).mpr hx.1) (e.1.trans hx.2.1), e.2⟩
  · have hk2 := (ik k).mp hk
    have e := cNT_cg (v := v) (v' := v') (q := 0) (q' := 0) (k := k) (k' := k) e0.1 e0.2.1 (e1 k hk2).1 (e1 k hk2).2 s
    exact (g2 s hs).2 k hk2 (e.1.symm.trans hz)
  · intro q hq
    have c := hC 0 (by decide)
    have k0 := e1 0 ⟨by decide, by omega⟩
    have k1 := e1 1 ⟨by decide, by omega⟩
    have k2 := e1 2 ⟨by decide, by omega⟩
    have k3 := e1 3 ⟨by decide, by omega⟩
    have m0 := hc 0 (by decide) (by decide)
    have m1 := hc 1 (by decide) (by decide)
    have m2 := hc 2 (by decide) (by decide)
    have m3 := hc 3 (by decide) (by decide)
    rcases (show q = 0 ∨ q = 1 by omega) with rfl | rfl
    · omega
    · omega
  · have ha2 := (ik a).mp ha
    have hb2 := (ik b).mp hb
    refine hH a b ha2 hb2 ?_ ?_
    · rw [← (e1 a ha2).1, ← (e1 b hb2).1]; exact h1
    · rw [← (e1 a ha2).2, ← (e1 b hb2).2]; exact h2
theorem GD_R {v : mz_G} {l : List tr3} (h : GD v l) : Rg v ∧ Rt (v 0 2) l ∧ Pos v l 0 ∧ Pos v l 1 ∧ Crn v ∧ Kp v := by
  obtain ⟨p, ⟨⟨hR, hT, hP0, hP1⟩, g1, g2, hC, hH⟩, hK, hN, hD, hS, -, hn, hl⟩ := h
  exact ⟨hR, hT, hP0, hP1, hC, hK⟩
theorem Crn_pl {v : mz_G} (h : Crn v) : ∀ k, 0 ≤ k → k < 4 → gx v 1 k = gx v 0 k ∧ gy v 1 k = gy v 0 k := by
  intro k h0 h1
  have a := h 0 (by decide)
  have b := h 1 (by decide)
  rcases (show k = 0 ∨ k = 1 ∨ k = 2 ∨ k = 3 by omega) with rfl | rfl | rfl | rfl <;> omega
/-- values -/
theorem GD_vpt {v : mz_G} {l : List tr3} {f : Int → Int} (h : GD v l) (hf : ∀ d, 0 ≤ d → d < v 0 0 * v 0 1 → 0 ≤ f d ∧ f d ≤ 15) : GD (vpt v f) l := by
  obtain ⟨hR, hT, hP0, hP1, hC, hK⟩ := GD_R h
  have w : ∀ c i, ¬ c = 6 → vpt v f c i = v c i := fun c i q => vpt_0 q
  have g0 := vpt_g (v := v) (f := f) (q := 0) (by decide)
  have g1 := vpt_g (v := v) (f := f) (q := 1) (by decide)
  refine GD_v h ⟨w 0 0 (by decide), w 0 1 (by decide), w 0 2 (by decide)⟩ (fun k _ => ⟨g0.1 k, g0.2 k⟩) ?_ ?_ ?_ ?_ ?_
  · unfold Rg
    rw [w 0 0 (by decide), w 0 1 (by decide), w 0 2 (by decide)]
    refine ⟨hR.1, hR.2.1, hR.2.2.1, fun k hk => ?_⟩
    rw [w 1 k (by decide), w 2 k (by decide), w 3 k (by decide), w 4 k (by decide)]
    exact hR.2.2.2 k hk
  · intro t ht
    have := hP1 t ht
    unfold tar at this ⊢
    rw [g1.1, g1.1, g1.1, g1.2, g1.2, g1.2]
    exact this
  · intro k hk
    have hk2 : isk v k := by unfold isk at hk ⊢; rw [w 0 2 (by decide)] at hk; exact hk
    unfold keeps
    rw [w 0 0 (by decide), w 0 1 (by decide), g0.1, g0.2, g1.1, g1.2]
    exact hK k hk2
  · intro k h0 h1
    rw [g0.1, g0.2, g1.1, g1.2]
    exact Crn_pl hC k h0 h1
  · intro d h0 h1
    rw [w 0 0 (by decide), w 0 1 (by decide)] at h1
    rw [vpt_6 h0]
    exact hf d h0 h1
theorem GD_V {v : mz_G} {l : List tr3} (h : GD v l) : Vr v := (GD_GO h).2.2.2.2.1
theorem GD_pai {v : mz_G} {l : List tr3} {x y z : Int} (h : GD v l) : GD (vPai v x y z) l := by
  unfold vPai
  by_cases q : ¬ dot v x y ∨ z < 0 ∨ 15 < z
  · rw [if_pos q]
    exact h
  · rw [if_neg q]
    refine GD_vpt h (fun d h0 h1 => ?_)
    have := GD_V h d h0 h1
    show 0 ≤ (if d = y * v 0 0 + x then z else v 6 d.toNat) ∧ (if d = y * v 0 0 + x then z else v 6 d.toNat) ≤ 15
    by_cases e : d = y * v 0 0 + x
    · rw [if_pos e]
      omega
    · rw [if_neg e]
      exact this
theorem GD_wea {v : mz_G} {l : List tr3} {s : Int} (h : GD v l) : GD (vWea v s) l := GD_vpt h (fun d _ _ => by
  generalize 7 * (d % v 0 0) + 13 * (d / v 0 0) + d % v 0 0 * (d / v 0 0) + s = z
  show 0 ≤ z % 16 ∧ z % 16 ≤ 15
  omega)
theorem GD_car {v : mz_G} {l : List tr3} (h : GD v l) : GD (vCar v l) l := GD_vpt h (fun d h0 h1 => by
  have := ne_in (GD_GO h) h0 h1
  exact GD_V h _ this.1 this.2)
/-- places -/
theorem GD_mov {v : mz_G} {l : List tr3} {k x y : Int} (h : GD v l) : GD (vMov v l k x y) l := by
  unfold vMov
  by_cases q : rtm v l k x y = 0
  · rw [if_pos q]
    obtain ⟨hR, hT, hP0, hP1, hC, hK⟩ := GD_R h
    obtain ⟨z1, z2, z3, z4, z5⟩ := rtm0 q
    have w : ∀ c i, ¬ c = 3 → ¬ c = 4 → vmv v k x y c i = v c i := fun c i h1 h2 => by unfold vmv; rw [if_neg (fun q => h1 q.1), if_neg (fun q => h2 q.1)]
    have hnf : ¬ fdd (vmv v k x y) l := fun z => z5 ((fdd_mv hT hP0 hP1).mp z)
    refine GD_v h ⟨w 0 0 (by decide) (by decide), w 0 1 (by decide) (by decide), w 0 2 (by decide) (by decide)⟩ (fun j hj => ⟨(gx_mv hj.1).2.2.1, (gx_mv hj.1).2.2.2⟩) (Rg_mv hR z2) ?_ ?_ ?_ ?_
    · intro t ht
      apply Int.not_le.mp
      intro z
      exact hnf (fdd_iff.mpr ⟨t, ht, Or.inl z⟩)
    · intro j hj
      have hj2 : isk v j := by unfold isk at hj ⊢; rw [w 0 2 (by decide) (by decide)] at hj; exact hj
      have g := gx_mv (v := v) (k := k) (x := x) (y := y) hj2.1
      unfold keeps
      rw [w 0 0 (by decide) (by decide), w 0 1 (by decide) (by decide), g.1, g.2.1, g.2.2.1, g.2.2.2]
      by_cases e : j = k
      · rw [if_pos e, if_pos e, e]
        exact z4
      · rw [if_neg e, if_neg e]
        exact hK j hj2
    · intro j h0 h1
      have g := gx_mv (v := v) (k := k) (x := x) (y := y) h0
      rw [g.1, g.2.1, g.2.2.1, g.2.2.2, if_neg (show ¬ j = k by omega), if_neg (show ¬ j = k by omega)]
      exact Crn_pl hC j h0 h1
    · intro d h0 h1
      rw [w 0 0 (by decide) (by decide), w 0 1 (by decide) (by decide)] at h1
      rw [w 6 _ (by decide) (by decide)]
      exact GD_V h d h0 h1
  · rw [if_neg q]
    exact h
theorem GD_str {v : mz_G} {l : List tr3} (h : GD v l) : GD (vst v) l := by
  obtain ⟨hR, hT, hP0, hP1, hC, hK⟩ := GD_R h
  have w : ∀ c i, ¬ c = 3 → ¬ c = 4 → vst v c i = v c i := fun c i h1 h2 => by unfold vst; rw [if_neg h1, if_neg h2]
  have g0 : ∀ j, gx (vst v) 0 j = gx v 0 j ∧ gy (vst v) 0 j = gy v 0 j := fun j => ⟨rfl, rfl⟩
  have g1 : ∀ j, gx (vst v) 1 j = gx v 0 j ∧ gy (vst v) 1 j = gy v 0 j := fun j => ⟨rfl, rfl⟩
  refine GD_v h ⟨rfl, rfl, rfl⟩ (fun j _ => g0 j) ?_ ?_ ?_ (fun j _ _ => by rw [(g1 j).1, (g1 j).2, (g0 j).1, (g0 j).2]; exact ⟨rfl, rfl⟩) ?_
  · refine ⟨hR.1, hR.2.1, hR.2.2.1, fun j hj => ?_⟩
    have := hR.2.2.2 j hj
    exact ⟨this.1, this.2.1, this.1, this.2.1⟩
  · intro t ht
    exact hP0 t ht
  · intro j hj
    exact ⟨id, id, id, id⟩
  · intro d h0 h1
    exact GD_V h d h0 h1
/-- the first net -/
theorem GD_beg {w h : Int} (hw : 2 ≤ w ∧ w ≤ 20) (hh : 2 ≤ h ∧ h ≤ 20) : GD (vbg w h (fun _ => 0)) [(0, 1, 2), (0, 2, 3)] := by
  obtain ⟨v, hv⟩ : ∃ v : mz_G, v = vbg w h (fun _ => 0) := ⟨_, rfl⟩
  have e0 : v 0 0 = w := by rw [hv]; rfl
  have e1 : v 0 1 = h := by rw [hv]; rfl
  have e2 : v 0 2 = 4 := by rw [hv]; rfl
  have ex : ∀ q, q < 2 → gx v q 0 = 0 ∧ gx v q 1 = w - 1 ∧ gx v q 2 = w - 1 ∧ gx v q 3 = 0 := by
    intro q hq
    rcases (show q = 0 ∨ q = 1 by omega) with rfl | rfl <;> (rw [hv]; exact ⟨rfl, rfl, rfl, rfl⟩)
  have ey : ∀ q, q < 2 → gy v q 0 = 0 ∧ gy v q 1 = 0 ∧ gy v q 2 = h - 1 ∧ gy v q 3 = h - 1 := by
    intro q hq
    rcases (show q = 0 ∨ q = 1 by omega) with rfl | rfl <;> (rw [hv]; exact ⟨rfl, rfl, rfl, rfl⟩)
  have x0 := ex 0 (by decide)
  have x1 := ex 1 (by decide)
  have y0 := ey 0 (by decide)
  have y1 := ey 1 (by decide)
  have v6 : ∀ i, v 6 i = 0 := fun i => by rw [hv]; rfl
  rw [← hv]
  clear hv
  have hC : Crn v := by
    intro q hq
    have a := ex q hq
    have b := ey q hq
    omega
  have k4 : ∀ k, isk v k → k = 0 ∨ k = 1 ∨ k = 2 ∨ k = 3 := fun k hk => by unfold isk at hk; omega
  have hK : Kp v := by
    intro k hk
    unfold keeps
    rcases k4 k hk with rfl | rfl | rfl | rfl <;> omega
  have hR : Rg v := by
    refine ⟨by omega, by omega, by omega, fun k hk => ?_⟩
    have key : ∀ q, q < 2 → (0 ≤ gx v q (k : Int) ∧ gx v q (k : Int) < v 0 0) ∧ (0 ≤ gy v q (k : Int) ∧ gy v q (k : Int) < v 0 1) := by
      intro q hq
      have a := ex q hq
      have b := ey q hq
      rcases k4 (k : Int) ⟨by omega, hk⟩ with r | r | r | r <;> rw [r] <;> omega
    have a := key 0 (by decide)
    have b := key 1 (by decide)
    exact ⟨a.1, a.2, b.1, b.2⟩
  have hpos : ∀ q, q < 2 → Pos v [(0, 1, 2), (0, 2, 3)] q := by
    intro q hq t ht
    have a := ex q hq
    have b := ey q hq
    have hm : 0 < (w - 1) * (h - 1) := Int.mul_pos (by omega) (by omega)
    have hm2 : (w - 1) * (h - 1) = (h - 1) * (w - 1) := Int.mul_comm _ _
    rcases List.mem_cons.mp ht with rfl | ht
    · show 0 < ar (gx v q 0) (gy v q 0) (gx v q 1) (gy v q 1) (gx v q 2) (gy v q 2)
      unfold ar
      rw [a.1, a.2.1, a.2.2.1, b.1, b.2.1, b.2.2.1]
      simp
      exact hm
    · rw [List.mem_singleton.mp ht]
      show 0 < ar (gx v q 0) (gy v q 0) (gx v q 2) (gy v q 2) (gx v q 3) (gy v q 3)
      unfold ar
      rw [a.1, a.2.2.1, a.2.2.2, b.1, b.2.2.1, b.2.2.2]
      simp
      exact hm
  refine ⟨fun s => [sE s], ⟨⟨hR, ?_, hpos 0 (by decide), hpos 1 (by decide)⟩, ?_, ?_, hC, ?_⟩, hK, ?_, ?_, ?_, ?_, by omega, ?_⟩
  · intro t ht
    rw [e2]
    rcases List.mem_cons.mp ht with rfl | ht
    · decide
    · rw [List.mem_singleton.mp ht]
      decide
  · intro f hf
    have := hf 2 0
    show (f 0 1 + f 1 2 + f 2 0) + ((f 0 2 + f 2 3 + f 3 0) + 0) = (f 0 1 + 0) + (f 1 2 + 0) + (f 2 3 + 0) + (f 3 0 + 0)
    omega
  · intro s hs
    have hm : ∀ s' : Nat, s' < 4 → sM v s (sE s) := by
      intro _ _
      refine sM_of hs hK ?_ ?_
      · unfold isk sE
        rw [e2]
        split <;> omega
      · rcases (show s = 0 ∨ s = 1 ∨ s = 2 ∨ s = 3 by omega) with rfl | rfl | rfl | rfl
        · show gy v 0 1 = 0
          omega
        · show v 0 0 - 1 - gx v 0 2 = 0
          omega
        · show v 0 1 - 1 - gy v 0 3 = 0
          omega
        · show gx v 0 0 = 0
          omega
    refine ⟨⟨?_, hm s hs, rfl⟩, fun k hk hz => ?_⟩
    · rcases (show s = 0 ∨ s = 1 ∨ s = 2 ∨ s = 3 by omega) with rfl | rfl | rfl | rfl
      · show gx v 0 0 < gx v 0 1
        omega
      · show gy v 0 1 < gy v 0 2
        omega
      · show v 0 0 - 1 - gx v 0 2 < v 0 0 - 1 - gx v 0 3
        omega
      · show v 0 1 - 1 - gy v 0 3 < v 0 1 - 1 - gy v 0 0
        omega
    · rw [List.mem_singleton]
      rcases (show s = 0 ∨ s = 1 ∨ s = 2 ∨ s = 3 by omega) with rfl | rfl | rfl | rfl <;> rcases k4 k hk with rfl | rfl | rfl | rfl <;> simp only [cN] at hz <;> first | (left; rfl) | (right; rfl) | (exfalso; omega)
  · intro a b ha hb h1 h2
    rcases k4 a ha with rfl | rfl | rfl | rfl <;> rcases k4 b hb with rfl | rfl | rfl | rfl <;> first | rfl | (exfalso; omega)
  · intro t ht
    rcases List.mem_cons.mp ht with rfl | ht
    · decide
    · rw [List.mem_singleton.mp ht]
      decide
  · intro k hk
    rcases k4 k hk with rfl | rfl | rfl | rfl
    · exact ⟨(0, 1, 2), by simp, Or.inl rfl⟩
    · exact ⟨(0, 1, 2), by simp, Or.inr (Or.inl rfl)⟩
    · exact ⟨(0, 1, 2), by simp, Or.inr (Or.inr rfl)⟩
    · exact ⟨(0, 2, 3), by simp, Or.inr (Or.inr rfl)⟩
  · unfold Sd
    rw [List.pairwise_cons]
    refine ⟨fun y hy => ?_, List.pairwise_singleton _ _⟩
    rw [List.mem_singleton.mp hy]
    decide
  · intro d _ _
    rw [v6]
    decide
  · rw [e2]
    rfl
theorem GD_siz {v : mz_G} {l : List tr3} {w h : Int} (hG : GD v l) : GD (vSiz v w h) (lSiz l w h) := by
  unfold vSiz lSiz
  by_cases q : szo w h
  · rw [if_pos q, if_pos q]
    exact GD_beg q.1 q.2
  · rw [if_neg q, if_neg q]
    exact hG
