/-! what winding gives: each dot is covered, each directed edge is one triangle's, how many triangles an insert makes -/
theorem ar_dbl {x y a b c d : Int} : ar (2 * x) (2 * y) (2 * a) (2 * b) (2 * c) (2 * d) = 4 * ar x y a b c d := by
  unfold ar
  grind
theorem lmem_tg {l : List tr3} {t : tr3} (h : t ∈ l) : ∃ i : Int, 0 ≤ i ∧ i < (l.length : Int) ∧ tg l i = t := by
  obtain ⟨i, hi⟩ := List.getElem?_of_mem h
  have hl : i < l.length := by
    rcases Nat.lt_or_ge i l.length with z | z
    · exact z
    · rw [List.getElem?_eq_none z] at hi; cases hi
  refine ⟨(i : Int), by omega, by omega, ?_⟩
  have e2 := tg_get (l := l) (t := (i : Int)) (by omega) (by omega)
  rw [Int.toNat_natCast, hi] at e2
  exact (Option.some.inj e2).symm
theorem in_sh {v : mz_G} {q : Nat} {x y u w a b : Int} (hR : Rg v) (hq : q < 2) (ha : isk v a) (hb : isk v b) (hu : u = 1 ∨ u = -1) (hw : w = 80 ∨ w = -80) (h : 0 < Lq v q (2 * x) (2 * y) u w a b) : 0 ≤ ar x y (gx v q a) (gy v q a) (gx v q b) (gy v q b) := by
  have h1 := Rg_q hR hq ha.1 ha.2
  have h2 := Rg_q hR hq hb.1 hb.2
  have hW := hR.1
  have hH := hR.2.1
  unfold Lq at h
  rw [ar_dbl] at h
  generalize ar x y (gx v q a) (gy v q a) (gx v q b) (gy v q b) = z at *
  rcases hu with rfl | rfl <;> rcases hw with rfl | rfl <;> omega
theorem cov_of {v : mz_G} {l : List tr3} {p : Nat → List Int} {q : Nat} (hG : GP v l p) (hq : q < 2) : Cov v l q := by
  intro x y hd
  have hR := hG.1.1
  have hW := hR.1
  have hH := hR.2.1
  obtain ⟨d1, d2, d3, d4⟩ := hd
  have key : ∀ u w : Int, (u = 1 ∨ u = -1) → (w = 80 ∨ w = -80) → lsm (fun t => b01 (inq v q (2 * x) (2 * y) u w t)) l = 1 → ¬ lie v l q x y = -1 := by
    intro u w hu hw he
    obtain ⟨t, ht, h1⟩ := lsm_ex (show ¬ lsm (fun t => b01 (inq v q (2 * x) (2 * y) u w t)) l = 0 by omega)
    have h2 := b01_ne0 h1
    have r := hG.1.2.1 t ht
    have a1 := in_sh hR hq r.1 r.2.1 hu hw h2.1
    have a2 := in_sh hR hq r.2.1 r.2.2 hu hw h2.2.1
    have a3 := in_sh hR hq r.2.2 r.1 hu hw h2.2.2
    intro q0
    obtain ⟨i, i0, i1, i2⟩ := lmem_tg ht
    have := fstI_nn.mp q0 i i0 i1
    apply this
    rw [i2]
    exact ⟨a2, a3, a1⟩
  by_cases hx : x < v 0 0 - 1
  · by_cases hy : y < v 0 1 - 1
    · refine key 1 80 (by simp) (by simp) ?_
      rw [wind hG hq (by simp) (by simp), b01_t (by omega), b01_f (by omega), b01_t (by omega), b01_f (by omega)]
      rfl
    · refine key 1 (-80) (by simp) (by simp) ?_
      rw [wind hG hq (by simp) (by simp), b01_t (by omega), b01_f (by omega), b01_t (by omega), b01_f (by omega)]
      rfl
  · by_cases hy : y < v 0 1 - 1
    · refine key (-1) 80 (by simp) (by simp) ?_
      rw [wind hG hq (by simp) (by simp), b01_t (by omega), b01_f (by omega), b01_t (by omega), b01_f (by omega)]
      rfl
    · refine key (-1) (-80) (by simp) (by simp) ?_
      rw [wind hG hq (by simp) (by simp), b01_t (by omega), b01_f (by omega), b01_t (by omega), b01_f (by omega)]
      rfl
/-- a point beside the middle of an edge is in each triangle that has the edge -/
theorem mid_in {v : mz_G} {a b c u w : Int} (hR : Rg v) (ha : isk v a) (hb : isk v b) (hc : isk v c) (hu : u = 1 ∨ u = -1) (hw : w = 80 ∨ w = -80) (hL : 0 < w * (2 * gx v 0 b - 2 * gx v 0 a) - u * (2 * gy v 0 b - 2 * gy v 0 a)) (hp : 0 < ar (gx v 0 a) (gy v 0 a) (gx v 0 b) (gy v 0 b) (gx v 0 c) (gy v 0 c)) : 0 < Lq v 0 (gx v 0 a + gx v 0 b) (gy v 0 a + gy v 0 b) u w a b ∧ 0 < Lq v 0 (gx v 0 a + gx v 0 b) (gy v 0 a + gy v 0 b) u w b c ∧ 0 < Lq v 0 (gx v 0 a + gx v 0 b) (gy v 0 a + gy v 0 b) u w c a := by
  have h1 := Rg_q hR (q := 0) (by decide) ha.1 ha.2
  have h2 := Rg_q hR (q := 0) (by decide) hb.1 hb.2
  have h3 := Rg_q hR (q := 0) (by decide) hc.1 hc.2
  have hW := hR.1
  have hH := hR.2.1
  unfold Lq
  generalize gx v 0 a = ax at *
  generalize gy v 0 a = ay at *
  generalize gx v 0 b = bx at *
  generalize gy v 0 b = b_y at *
  generalize gx v 0 c = cx at *
  generalize gy v 0 c = cy at *
  have e1 : ar (ax + bx) (ay + b_y) (2 * ax) (2 * ay) (2 * bx) (2 * b_y) = 0 := by unfold ar; grind
  have e2 : ar (ax + bx) (ay + b_y) (2 * bx) (2 * b_y) (2 * cx) (2 * cy) = 2 * ar ax ay bx b_y cx cy := by unfold ar; grind
  have e3 : ar (ax + bx) (ay + b_y) (2 * cx) (2 * cy) (2 * ax) (2 * ay) = 2 * ar ax ay bx b_y cx cy := by unfold ar; grind
  rw [e1, e2, e3]
  generalize ar ax ay bx b_y cx cy = z at *
  refine ⟨by omega, ?_, ?_⟩
  · rcases hu with rfl | rfl <;> rcases hw with rfl | rfl <;> omega
  · rcases hu with rfl | rfl <;> rcases hw with rfl | rfl <;> omega
theorem edg_in {v : mz_G} {l : List tr3} {a b : Int} {t : tr3} (hT : Rt (v 0 2) l) (hP : Pos v l 0) (ht : t ∈ l) (h : edg t a b) : isk v a ∧ isk v b ∧ ∃ c, isk v c ∧ 0 < ar (gx v 0 a) (gy v 0 a) (gx v 0 b) (gy v 0 b) (gx v 0 c) (gy v 0 c) ∧ ((t.1 = a ∧ t.2.1 = b ∧ t.2.2 = c) ∨ (t.2.1 = a ∧ t.2.2 = b ∧ t.1 = c) ∨ (t.2.2 = a ∧ t.1 = b ∧ t.2.1 = c)) := by
  have r := hT t ht
  have hp := hP t ht
  unfold tar at hp
  rcases h with ⟨rfl, rfl⟩ | ⟨rfl, rfl⟩ | ⟨rfl, rfl⟩
  · exact ⟨r.1, r.2.1, t.2.2, r.2.2, hp, Or.inl ⟨rfl, rfl, rfl⟩⟩
  · refine ⟨r.2.1, r.2.2, t.1, r.1, ?_, Or.inr (Or.inl ⟨rfl, rfl, rfl⟩)⟩
    rw [ar_cyc]
    exact hp
  · refine ⟨r.2.2, r.1, t.2.1, r.2.1, ?_, Or.inr (Or.inr ⟨rfl, rfl, rfl⟩)⟩
    rw [ar_cyc, ar_cyc]
    exact hp
theorem de_one {v : mz_G} {l : List tr3} {p : Nat → List Int} (hG : GP v l p) (a b : Int) : lsm (fun t => b01 (edg t a b)) l ≤ 1 := by
  by_cases h0 : lsm (fun t => b01 (edg t a b)) l = 0
  · omega
  · obtain ⟨⟨hR, hT, hP0, -⟩, -⟩ := id hG
    obtain ⟨t0, ht0, h1⟩ := lsm_ex h0
    obtain ⟨ka, kb, c0, kc, hp0, -⟩ := edg_in hT hP0 ht0 (b01_ne0 h1)
    have hne := (ar_ne hp0).1
    have b1 := Rg_q hR (q := 0) (by decide) ka.1 ka.2
    have b2 := Rg_q hR (q := 0) (by decide) kb.1 kb.2
    have hW := hR.1
    have hH := hR.2.1
    obtain ⟨u, w, hu, hw, hL⟩ : ∃ u w : Int, (u = 1 ∨ u = -1) ∧ (w = 80 ∨ w = -80) ∧ 0 < w * (2 * gx v 0 b - 2 * gx v 0 a) - u * (2 * gy v 0 b - 2 * gy v 0 a) := by
      rcases (show gx v 0 a < gx v 0 b ∨ gx v 0 b < gx v 0 a ∨ (gx v 0 a = gx v 0 b ∧ gy v 0 a < gy v 0 b) ∨ (gx v 0 a = gx v 0 b ∧ gy v 0 b < gy v 0 a) by omega) with z | z | z | z
      · exact ⟨1, 80, by simp, by simp, by omega⟩
      · exact ⟨1, -80, by simp, by simp, by omega⟩
      · exact ⟨-1, 80, by simp, by simp, by omega⟩
      · exact ⟨1, 80, by simp, by simp, by omega⟩
    have hle : lsm (fun t => b01 (edg t a b)) l ≤ lsm (fun t => b01 (inq v 0 (gx v 0 a + gx v 0 b) (gy v 0 a + gy v 0 b) u w t)) l := by
      refine lsm_le (fun t ht => ?_)
      by_cases e : edg t a b
      · obtain ⟨-, -, c, kc, hp, hc⟩ := edg_in hT hP0 ht e
        have m := mid_in hR ka kb kc hu hw hL hp
        have hin : inq v 0 (gx v 0 a + gx v 0 b) (gy v 0 a + gy v 0 b) u w t := by
          unfold inq
          rcases hc with ⟨z1, z2, z3⟩ | ⟨z1, z2, z3⟩ | ⟨z1, z2, z3⟩
          · rw [z1, z2, z3]
            exact m
          · rw [z1, z2, z3]
            exact ⟨m.2.2, m.1, m.2.1⟩
          · rw [z1, z2, z3]
            exact ⟨m.2.1, m.2.2, m.1⟩
        rw [b01_t e, b01_t hin]
        exact Int.le_refl _
      · rw [b01_f e]
        rcases b01_01 (P := inq v 0 (gx v 0 a + gx v 0 b) (gy v 0 a + gy v 0 b) u w t) with z | z <;> omega
    have := wind_le hG (q := 0) (by decide) (X := gx v 0 a + gx v 0 b) (Y := gy v 0 a + gy v 0 b) hu hw
    omega
/-- shares and the point that they make -/
theorem bar_xy {v : mz_G} {q : Nat} {t : tr3} {x y : Int} : sh0 v q t x y * gx v q t.1 + sh1 v q t x y * gx v q t.2.1 + sh2 v q t x y * gx v q t.2.2 = tar v q t * x ∧ sh0 v q t x y * gy v q t.1 + sh1 v q t x y * gy v q t.2.1 + sh2 v q t x y * gy v q t.2.2 = tar v q t * y := by
  unfold sh0 sh1 sh2 tar ar
  constructor <;> grind
theorem mul_cn {a b c : Int} (h : 0 < a) (e : a * b = a * c) : b = c := Int.eq_of_mul_eq_mul_left (by omega) e
/-- a dot that is no knot's home lies on one edge at most -/
theorem sh_nz {v : mz_G} {t : tr3} {x y : Int} (ht : (0 ≤ t.1 ∧ t.1 < v 0 2) ∧ (0 ≤ t.2.1 ∧ t.2.1 < v 0 2) ∧ (0 ≤ t.2.2 ∧ t.2.2 < v 0 2)) (hp : 0 < tar v 0 t) (hn : ∀ k, isk v k → ¬ (gx v 0 k = x ∧ gy v 0 k = y)) : ¬ (sh0 v 0 t x y = 0 ∧ sh1 v 0 t x y = 0) ∧ ¬ (sh1 v 0 t x y = 0 ∧ sh2 v 0 t x y = 0) ∧ ¬ (sh2 v 0 t x y = 0 ∧ sh0 v 0 t x y = 0) := by
  have s := sh_sum (v := v) (q := 0) (t := t) (x := x) (y := y)
  have b := bar_xy (v := v) (q := 0) (t := t) (x := x) (y := y)
  refine ⟨fun z => ?_, fun z => ?_, fun z => ?_⟩
  · rw [z.1, z.2] at s b
    have e : sh2 v 0 t x y = tar v 0 t := by omega
    rw [e] at b
    exact hn _ ht.2.2 ⟨mul_cn hp (by omega), mul_cn hp (by omega)⟩
  · rw [z.1, z.2] at s b
    have e : sh0 v 0 t x y = tar v 0 t := by omega
    rw [e] at b
    exact hn _ ht.1 ⟨mul_cn hp (by omega), mul_cn hp (by omega)⟩
  · rw [z.1, z.2] at s b
    have e : sh1 v 0 t x y = tar v 0 t := by omega
    rw [e] at b
    exact hn _ ht.2.1 ⟨mul_cn hp (by omega), mul_cn hp (by omega)⟩
theorem lh1_len {v : mz_G} {x y : Int} {t : tr3} : ((lh1 v x y t).length : Int) = if 0 ≤ sh0 v 0 t x y ∧ 0 ≤ sh1 v 0 t x y ∧ 0 ≤ sh2 v 0 t x y then b01 (0 < sh2 v 0 t x y) + b01 (0 < sh0 v 0 t x y) + b01 (0 < sh1 v 0 t x y) else 0 := by
  have key : ∀ e : Int × Int, ((ap1 v x y e).length : Int) = b01 (0 < fe v 0 x y e) := by
    intro e
    unfold ap1
    by_cases q : 0 < fe v 0 x y e
    · rw [if_pos q, b01_t q]; rfl
    · rw [if_neg q, b01_f q]; rfl
  unfold lh1
  by_cases q : hol v 0 t x y
  · rw [if_pos q, if_pos q, List.length_append, List.length_append]
    have k1 := key (t.1, t.2.1)
    have k2 := key (t.2.1, t.2.2)
    have k3 := key (t.2.2, t.1)
    have e1 : fe v 0 x y (t.1, t.2.1) = sh2 v 0 t x y := rfl
    have e2 : fe v 0 x y (t.2.1, t.2.2) = sh0 v 0 t x y := rfl
    have e3 : fe v 0 x y (t.2.2, t.1) = sh1 v 0 t x y := rfl
    rw [e1] at k1
    rw [e2] at k2
    rw [e3] at k3
    omega
  · rw [if_neg q, if_neg q]
    rfl
theorem Lq_sh {v : mz_G} {x y u w : Int} {t : tr3} : Lq v 0 (2 * x) (2 * y) u w t.1 t.2.1 = 40000 * sh2 v 0 t x y + (w * (2 * gx v 0 t.2.1 - 2 * gx v 0 t.1) - u * (2 * gy v 0 t.2.1 - 2 * gy v 0 t.1)) ∧ Lq v 0 (2 * x) (2 * y) u w t.2.1 t.2.2 = 40000 * sh0 v 0 t x y + (w * (2 * gx v 0 t.2.2 - 2 * gx v 0 t.2.1) - u * (2 * gy v 0 t.2.2 - 2 * gy v 0 t.2.1)) ∧ Lq v 0 (2 * x) (2 * y) u w t.2.2 t.1 = 40000 * sh1 v 0 t x y + (w * (2 * gx v 0 t.1 - 2 * gx v 0 t.2.2) - u * (2 * gy v 0 t.1 - 2 * gy v 0 t.2.2)) := by
  unfold Lq sh0 sh1 sh2
  rw [ar_dbl, ar_dbl, ar_dbl]
  refine ⟨by omega, by omega, by omega⟩
theorem ins_cnt {v : mz_G} {x y : Int} {t : tr3} (hR : Rg v) (ht : (0 ≤ t.1 ∧ t.1 < v 0 2) ∧ (0 ≤ t.2.1 ∧ t.2.1 < v 0 2) ∧ (0 ≤ t.2.2 ∧ t.2.2 < v 0 2)) (hp : 0 < tar v 0 t) (hn : ∀ k, isk v k → ¬ (gx v 0 k = x ∧ gy v 0 k = y)) : ((lh1 v x y t).length : Int) - b01 (hol v 0 t x y) = b01 (inq v 0 (2 * x) (2 * y) 1 80 t) + b01 (inq v 0 (2 * x) (2 * y) (-1) (-80) t) := by
  have nz := sh_nz ht hp hn
  have h1 := Rg_q hR (q := 0) (by decide) ht.1.1 ht.1.2
  have h2 := Rg_q hR (q := 0) (by decide) ht.2.1.1 ht.2.1.2
  have h3 := Rg_q hR (q := 0) (by decide) ht.2.2.1 ht.2.2.2
  have hW := hR.1
  have hH := hR.2.1
  have hne := hp
  unfold tar at hne
  have hd := ar_ne hne
  rw [lh1_len]
  unfold inq hol
  rw [(Lq_sh (u := 1) (w := 80)).1, (Lq_sh (u := 1) (w := 80)).2.1, (Lq_sh (u := 1) (w := 80)).2.2, (Lq_sh (u := -1) (w := -80)).1, (Lq_sh (u := -1) (w := -80)).2.1, (Lq_sh (u := -1) (w := -80)).2.2]
  generalize sh0 v 0 t x y = A at *
  generalize sh1 v 0 t x y = B at *
  generalize sh2 v 0 t x y = C at *
  obtain ⟨m2, hm2⟩ : ∃ m : Int, m = 80 * (2 * gx v 0 t.2.1 - 2 * gx v 0 t.1) - 1 * (2 * gy v 0 t.2.1 - 2 * gy v 0 t.1) := ⟨_, rfl⟩
  obtain ⟨m0, hm0⟩ : ∃ m : Int, m = 80 * (2 * gx v 0 t.2.2 - 2 * gx v 0 t.2.1) - 1 * (2 * gy v 0 t.2.2 - 2 * gy v 0 t.2.1) := ⟨_, rfl⟩
  obtain ⟨m1, hm1⟩ : ∃ m : Int, m = 80 * (2 * gx v 0 t.1 - 2 * gx v 0 t.2.2) - 1 * (2 * gy v 0 t.1 - 2 * gy v 0 t.2.2) := ⟨_, rfl⟩
  have e2 : -80 * (2 * gx v 0 t.2.1 - 2 * gx v 0 t.1) - -1 * (2 * gy v 0 t.2.1 - 2 * gy v 0 t.1) = -m2 := by omega
  have e0 : -80 * (2 * gx v 0 t.2.2 - 2 * gx v 0 t.2.1) - -1 * (2 * gy v 0 t.2.2 - 2 * gy v 0 t.2.1) = -m0 := by omega
  have e1 : -80 * (2 * gx v 0 t.1 - 2 * gx v 0 t.2.2) - -1 * (2 * gy v 0 t.1 - 2 * gy v 0 t.2.2) = -m1 := by omega
  have n2 : ¬ m2 = 0 ∧ m2 < 4000 ∧ -4000 < m2 := by omega
  have n0 : ¬ m0 = 0 ∧ m0 < 4000 ∧ -4000 < m0 := by omega
  have n1 : ¬ m1 = 0 ∧ m1 < 4000 ∧ -4000 < m1 := by omega
  rw [e2, e0, e1, ← hm2, ← hm0, ← hm1]
  clear e2 e0 e1 hm2 hm0 hm1 hd hne h1 h2 h3 hW hH
  unfold b01
  rcases (show A < 0 ∨ A = 0 ∨ 0 < A by omega) with a | a | a <;> rcases (show B < 0 ∨ B = 0 ∨ 0 < B by omega) with b | b | b <;> rcases (show C < 0 ∨ C = 0 ∨ 0 < C by omega) with c | c | c <;> first | (exfalso; omega) | omega
/-- how many triangles there are behind an insert -/
theorem inl_len {v : mz_G} {l : List tr3} {p : Nat → List Int} (hG : GP v l p) {x y : Int} (hd : dot v x y) (hn : ∀ k, isk v k → ¬ (gx v 0 k = x ∧ gy v 0 k = y)) : ((l.filter (fun z => !decide (hol v 0 z x y))).length : Int) + ((lhOf v l x y).length : Int) = (l.length : Int) + b01 (x < v 0 0 - 1 ∧ y < v 0 1 - 1) + b01 (0 < x ∧ 0 < y) := by
  obtain ⟨⟨hR, hT, hP0, -⟩, -⟩ := id hG
  obtain ⟨d1, d2, d3, d4⟩ := hd
  have hW := hR.1
  have hH := hR.2.1
  have l1 : ((l.filter (fun z => !decide (hol v 0 z x y))).length : Int) = lsm (fun t => 1 - b01 (hol v 0 t x y)) l := by
    have := lsm_len (l := l.filter (fun z => !decide (hol v 0 z x y))) (c := 1)
    rw [Int.one_mul] at this
    rw [← this, lsm_flt]
    refine lsm_cg (fun t _ => ?_)
    by_cases q : hol v 0 t x y
    · rw [b01_t q, if_neg (by simp [q])]; rfl
    · rw [b01_f q, if_pos (by simp [q])]; rfl
  have l2 : ((lhOf v l x y).length : Int) = lsm (fun t => ((lh1 v x y t).length : Int)) l := by
    have := lsm_len (l := lhOf v l x y) (c := 1)
    rw [Int.one_mul] at this
    rw [← this]
    unfold lhOf
    rw [lsm_fm]
    refine lsm_cg (fun t _ => ?_)
    have := lsm_len (l := lh1 v x y t) (c := 1)
    omega
  have l3 : (l.length : Int) = lsm (fun _ => 1) l := by
    have := lsm_len (l := l) (c := 1)
    omega
  have e : lsm (fun t => 1 - b01 (hol v 0 t x y)) l + lsm (fun t => ((lh1 v x y t).length : Int)) l = lsm (fun _ => 1) l + (lsm (fun t => b01 (inq v 0 (2 * x) (2 * y) 1 80 t)) l + lsm (fun t => b01 (inq v 0 (2 * x) (2 * y) (-1) (-80) t)) l) := by
    rw [← lsm_add, ← lsm_add, ← lsm_add]
    refine lsm_cg (fun t ht => ?_)
    have := ins_cnt hR (hT t ht) (hP0 t ht) hn
    omega
  rw [l1, l2, l3, e, wind hG (by decide) (by simp) (by simp), wind hG (by decide) (by simp) (by simp)]
  have f1 : b01 (10000 * (0 - 2 * y) - 80 < 0) = 1 := b01_t (by omega)
  have f2 : b01 (0 < 10000 * (0 - 2 * x) - 1) = 0 := b01_f (by omega)
  have f3 : b01 (10000 * (2 * (v 0 1 - 1) - 2 * y) - -80 < 0) = 0 := b01_f (by omega)
  have f4 : b01 (0 < 10000 * (2 * (v 0 0 - 1) - 2 * x) - -1) = 1 := b01_t (by omega)
  rw [f1, f2, f3, f4]
  have g5 : (y < v 0 1 - 1 ∧ b01 (10000 * (2 * (v 0 1 - 1) - 2 * y) - 80 < 0) = 0) ∨ (¬ y < v 0 1 - 1 ∧ b01 (10000 * (2 * (v 0 1 - 1) - 2 * y) - 80 < 0) = 1) := by
    by_cases z : y < v 0 1 - 1
    · exact Or.inl ⟨z, b01_f (by omega)⟩
    · exact Or.inr ⟨z, b01_t (by omega)⟩
  have g6 : (x < v 0 0 - 1 ∧ b01 (0 < 10000 * (2 * (v 0 0 - 1) - 2 * x) - 1) = 1) ∨ (¬ x < v 0 0 - 1 ∧ b01 (0 < 10000 * (2 * (v 0 0 - 1) - 2 * x) - 1) = 0) := by
    by_cases z : x < v 0 0 - 1
    · exact Or.inl ⟨z, b01_t (by omega)⟩
    · exact Or.inr ⟨z, b01_f (by omega)⟩
  have g7 : (0 < y ∧ b01 (10000 * (0 - 2 * y) - -80 < 0) = 1) ∨ (¬ 0 < y ∧ b01 (10000 * (0 - 2 * y) - -80 < 0) = 0) := by
    by_cases z : 0 < y
    · exact Or.inl ⟨z, b01_t (by omega)⟩
    · exact Or.inr ⟨z, b01_f (by omega)⟩
  have g8 : (0 < x ∧ b01 (0 < 10000 * (0 - 2 * x) - -1) = 0) ∨ (¬ 0 < x ∧ b01 (0 < 10000 * (0 - 2 * x) - -1) = 1) := by
    by_cases z : 0 < x
    · exact Or.inl ⟨z, b01_f (by omega)⟩
    · exact Or.inr ⟨z, b01_t (by omega)⟩
  have k1 : b01 (x < v 0 0 - 1 ∧ y < v 0 1 - 1) = (1 - b01 (10000 * (2 * (v 0 1 - 1) - 2 * y) - 80 < 0)) * (b01 (0 < 10000 * (2 * (v 0 0 - 1) - 2 * x) - 1) - 0) := by
    rcases g5 with ⟨a, b⟩ | ⟨a, b⟩ <;> rcases g6 with ⟨c, d⟩ | ⟨c, d⟩ <;> rw [b, d] <;> first | (rw [b01_t ⟨c, a⟩]; rfl) | (rw [b01_f (fun z => by omega)]; rfl)
  have k2 : b01 (0 < x ∧ 0 < y) = (b01 (10000 * (0 - 2 * y) - -80 < 0) - 0) * (1 - b01 (0 < 10000 * (0 - 2 * x) - -1)) := by
    rcases g7 with ⟨a, b⟩ | ⟨a, b⟩ <;> rcases g8 with ⟨c, d⟩ | ⟨c, d⟩ <;> rw [b, d] <;> first | (rw [b01_t ⟨c, a⟩]; rfl) | (rw [b01_f (fun z => by omega)]; rfl)
  rw [k1, k2, Int.add_assoc]
