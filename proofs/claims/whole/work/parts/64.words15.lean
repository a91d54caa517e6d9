/-! words for the reference's insert and turn -/
theorem MA_vin {σ v : mz_G} {l : List tr3} {a b x y n : Int} (h : MA σ v l) (hR : Rg v) (hn : n = v 0 2) : MA (mz_up (mz_up (mz_up (mz_up (mz_up σ 31 n.toNat a) 32 n.toNat b) 33 n.toNat x) 34 n.toNat y) 30 2 (n + 1)) (vin v a b x y) l := by
  obtain ⟨⟨⟨m1, m2, m3⟩, m4, m5⟩, m6, m7⟩ := h
  obtain ⟨w0, w1, w2, w6⟩ := vin_0 (v := v) (a := a) (b := b) (x := x) (y := y)
  have h4 := hR.2.2.1.1
  have g := up4_get (σ := σ) (A := 31) (B := 32) (C := 33) (D := 34) (j := n.toNat) (a := a) (b := b) (c := x) (d := y) (by decide)
  have o : ∀ c i, ¬ (31 ≤ c ∧ c ≤ 34) → ¬ (c = 30 ∧ i = 2) → mz_up (mz_up (mz_up (mz_up (mz_up σ 31 n.toNat a) 32 n.toNat b) 33 n.toNat x) 34 n.toNat y) 30 2 (n + 1) c i = σ c i := fun c i p q => by
    rw [show mz_up (mz_up (mz_up (mz_up (mz_up σ 31 n.toNat a) 32 n.toNat b) 33 n.toNat x) 34 n.toNat y) 30 2 (n + 1) c i = mz_up (mz_up (mz_up (mz_up σ 31 n.toNat a) 32 n.toNat b) 33 n.toNat x) 34 n.toNat y c i by
      show (if c = 30 ∧ i = 2 then n + 1 else _) = _
      rw [if_neg q]]
    exact g.2 c i (Or.inr (by omega))
  refine ⟨⟨⟨?_, ?_, ?_⟩, fun k hk => ?_, fun d hd => ?_⟩, ?_, fun t z hz => ?_⟩
  · rw [o 30 0 (by decide) (by decide), w0, m1]
  · rw [o 30 1 (by decide) (by decide), w1, m2]
  · rw [up_eq, w2, hn]
  · rw [w2] at hk
    rw [up_ne (show ¬ 31 = 30 by decide), up_ne (show ¬ 32 = 30 by decide), up_ne (show ¬ 33 = 30 by decide), up_ne (show ¬ 34 = 30 by decide)]
    by_cases e : (k : Int) = v 0 2
    · have e2 : k = n.toNat := by omega
      rw [e2, g.1.1, g.1.2.1, g.1.2.2.1, g.1.2.2.2]
      have hK := vin_K (v := v) (a := a) (b := b) (x := x) (y := y) (by omega)
      unfold gx gy at hK
      rw [hn]
      exact ⟨hK.1.symm, hK.2.1.symm, hK.2.2.1.symm, hK.2.2.2.symm⟩
    · rw [g.2 _ _ (Or.inl (by omega)), g.2 _ _ (Or.inl (by omega)), g.2 _ _ (Or.inl (by omega)), g.2 _ _ (Or.inl (by omega))]
      have hk2 : isk v (k : Int) := ⟨by omega, by omega⟩
      have g0 := vin_g (a := a) (b := b) (x := x) (y := y) (q := 0) (by decide) hk2
      have g1 := vin_g (a := a) (b := b) (x := x) (y := y) (q := 1) (by decide) hk2
      have q := m4 k (by omega)
      have f0 : vin v a b x y 1 k = v 1 k := g0.1
      have f1 : vin v a b x y 2 k = v 2 k := g0.2
      have f2 : vin v a b x y 3 k = v 3 k := g1.1
      have f3 : vin v a b x y 4 k = v 4 k := g1.2
      rw [f0, f1, f2, f3]
      exact q
  · rw [w0, w1] at hd
    rw [o 36 d (by omega) (by omega), w6]
    exact m5 d hd
  · rw [o 30 3 (by decide) (by decide), m6]
  · rw [o 35 _ (by omega) (by omega), o 35 _ (by omega) (by omega), o 35 _ (by omega) (by omega)]
    exact m7 t z hz
theorem vin_hol {v : mz_G} {a b x y : Int} {t : tr3} (r : (0 ≤ t.1 ∧ t.1 < v 0 2) ∧ (0 ≤ t.2.1 ∧ t.2.1 < v 0 2) ∧ (0 ≤ t.2.2 ∧ t.2.2 < v 0 2)) : (hol (vin v a b x y) 0 t a b ↔ hol v 0 t a b) ∧ lh1 (vin v a b x y) a b t = lh1 v a b t := by
  have g1 := vin_g (a := a) (b := b) (x := x) (y := y) (q := 0) (by decide) r.1
  have g2 := vin_g (a := a) (b := b) (x := x) (y := y) (q := 0) (by decide) r.2.1
  have g3 := vin_g (a := a) (b := b) (x := x) (y := y) (q := 0) (by decide) r.2.2
  have e0 : sh0 (vin v a b x y) 0 t a b = sh0 v 0 t a b := by unfold sh0; rw [g2.1, g2.2, g3.1, g3.2]
  have e1 : sh1 (vin v a b x y) 0 t a b = sh1 v 0 t a b := by unfold sh1; rw [g3.1, g3.2, g1.1, g1.2]
  have e2 : sh2 (vin v a b x y) 0 t a b = sh2 v 0 t a b := by unfold sh2; rw [g1.1, g1.2, g2.1, g2.2]
  have hh : hol (vin v a b x y) 0 t a b ↔ hol v 0 t a b := by unfold hol; rw [e0, e1, e2]
  refine ⟨hh, ?_⟩
  have f2 : fe (vin v a b x y) 0 a b (t.1, t.2.1) = fe v 0 a b (t.1, t.2.1) := e2
  have f0 : fe (vin v a b x y) 0 a b (t.2.1, t.2.2) = fe v 0 a b (t.2.1, t.2.2) := e0
  have f1 : fe (vin v a b x y) 0 a b (t.2.2, t.1) = fe v 0 a b (t.2.2, t.1) := e1
  unfold lh1
  by_cases q : hol v 0 t a b
  · rw [if_pos q, if_pos (hh.mpr q)]
    unfold ap1
    rw [f0, f1, f2]
  · rw [if_neg q, if_neg (fun z => q (hh.mp z))]
theorem vin_lh {v : mz_G} {l : List tr3} {a b x y : Int} (hT : Rt (v 0 2) l) : lhOf (vin v a b x y) l a b = lhOf v l a b ∧ l.filter (fun z => !decide (hol (vin v a b x y) 0 z a b)) = l.filter (fun z => !decide (hol v 0 z a b)) := by
  constructor
  · unfold lhOf
    have key : ∀ m : List tr3, Rt (v 0 2) m → m.flatMap (lh1 (vin v a b x y) a b) = m.flatMap (lh1 v a b) := by
      intro m
      induction m with
      | nil => intro _; rfl
      | cons c r ih =>
        intro hm
        rw [List.flatMap_cons, List.flatMap_cons, (vin_hol (hm c List.mem_cons_self)).2, ih (fun z hz => hm z (List.mem_cons_of_mem _ hz))]
    exact key l hT
  · refine List.filter_congr (fun t ht => ?_)
    have := (vin_hol (a := a) (b := b) (x := x) (y := y) (hT t ht)).1
    by_cases q : hol v 0 t a b
    · rw [decide_eq_true q, decide_eq_true (this.mpr q)]
    · rw [decide_eq_false q, decide_eq_false (fun z => q (this.mp z))]
/-- the new list: in range, folded just if the place folds; sorted it is the class's -/
theorem ins_new {v : mz_G} {l R : List tr3} {a b x y : Int} (h : GD v l) (hd : dot v a b) (hx : dot v x y) (hn : ∀ k, isk v k → ¬ (gx v 0 k = a ∧ gy v 0 k = b)) (hp : R.Perm (l.filter (fun z => !decide (hol v 0 z a b)) ++ (lhOf v l a b).map (ek (v 0 2)))) : Bs (vin v a b x y) R ∧ Dst R ∧ (fdd (vin v a b x y) R ↔ fol v (lhOf v l a b) x y) ∧ (adN (v 0 2) (lhOf v l a b) (l.filter (fun z => !decide (hol v 0 z a b)))).Perm (R.map n3) := by
  have hlen := GD_len h
  obtain ⟨p, hG, hK, hN, hDg, hS, hV, h30, hl⟩ := h
  obtain ⟨⟨hR, hT, hP0, hP1⟩, g1, g2, hC, hH⟩ := id hG
  have hD := Pos_Dst hP0
  have h4 := hR.2.2.1.1
  obtain ⟨w0, w1, w2, w6⟩ := vin_0 (v := v) (a := a) (b := b) (x := x) (y := y)
  obtain ⟨k0, k1, k2, k3⟩ := vin_K (v := v) (a := a) (b := b) (x := x) (y := y) (by omega)
  have hLr := Lr_lh (x := a) (y := b) hT
  have hne : ∀ e ∈ lhOf v l a b, ¬ e.1 = e.2 := by
    intro e he
    obtain ⟨-, t, ht, h2⟩ := mem_lhOf he
    have hds := hD t ht
    unfold edg at h2
    omega
  have hmem : ∀ t ∈ R, (t ∈ l ∧ ¬ hol v 0 t a b) ∨ ∃ e ∈ lhOf v l a b, t = ek (v 0 2) e := by
    intro t ht
    rcases List.mem_append.mp (hp.mem_iff.mp ht) with q | q
    · have := List.mem_filter.mp q
      exact Or.inl ⟨this.1, fun hz => by have t2 := this.2; rw [decide_eq_true hz] at t2; simp at t2⟩
    · obtain ⟨e, he, h2⟩ := List.mem_map.mp q
      exact Or.inr ⟨e, he, h2.symm⟩
  have hg : ∀ q, q < 2 → ∀ k, isk v k → gx (vin v a b x y) q k = gx v q k ∧ gy (vin v a b x y) q k = gy v q k := fun q hq k hk => vin_g hq hk
  have htar : ∀ q, q < 2 → ∀ t, (0 ≤ t.1 ∧ t.1 < v 0 2) ∧ (0 ≤ t.2.1 ∧ t.2.1 < v 0 2) ∧ (0 ≤ t.2.2 ∧ t.2.2 < v 0 2) → tar (vin v a b x y) q t = tar v q t := by
    intro q hq t r
    unfold tar
    rw [(hg q hq _ r.1).1, (hg q hq _ r.1).2, (hg q hq _ r.2.1).1, (hg q hq _ r.2.1).2, (hg q hq _ r.2.2).1, (hg q hq _ r.2.2).2]
  have htn : ∀ e ∈ lhOf v l a b, tar (vin v a b x y) 0 (ek (v 0 2) e) = fe v 0 a b e ∧ tar (vin v a b x y) 1 (ek (v 0 2) e) = fe v 1 x y e := by
    intro e he
    have r := hLr e he
    unfold tar ek fe
    constructor
    · show ar (gx (vin v a b x y) 0 e.1) (gy (vin v a b x y) 0 e.1) (gx (vin v a b x y) 0 e.2) (gy (vin v a b x y) 0 e.2) (gx (vin v a b x y) 0 (v 0 2)) (gy (vin v a b x y) 0 (v 0 2)) = _
      rw [(hg 0 (by decide) _ r.1).1, (hg 0 (by decide) _ r.1).2, (hg 0 (by decide) _ r.2).1, (hg 0 (by decide) _ r.2).2, k0, k1, ar_cyc]
    · show ar (gx (vin v a b x y) 1 e.1) (gy (vin v a b x y) 1 e.1) (gx (vin v a b x y) 1 e.2) (gy (vin v a b x y) 1 e.2) (gx (vin v a b x y) 1 (v 0 2)) (gy (vin v a b x y) 1 (v 0 2)) = _
      rw [(hg 1 (by decide) _ r.1).1, (hg 1 (by decide) _ r.1).2, (hg 1 (by decide) _ r.2).1, (hg 1 (by decide) _ r.2).2, k2, k3, ar_cyc]
  have hil := inl_len hG hd hn
  have hb1 := b01_01 (P := a < v 0 0 - 1 ∧ b < v 0 1 - 1)
  have hb2 := b01_01 (P := 0 < a ∧ 0 < b)
  have hRl := hp.length_eq
  rw [List.length_append, List.length_map] at hRl
  refine ⟨⟨Rg_vin hR hd hx (by omega), ?_, by omega⟩, ?_, ?_, ?_⟩
  · rw [w2]
    intro t ht
    rcases hmem t ht with ⟨q, -⟩ | ⟨e, he, rfl⟩
    · have := hT t q
      omega
    · have := hLr e he
      show (0 ≤ e.1 ∧ e.1 < _) ∧ (0 ≤ e.2 ∧ e.2 < _) ∧ (0 ≤ v 0 2 ∧ v 0 2 < _)
      omega
  · intro t ht
    rcases hmem t ht with ⟨q, -⟩ | ⟨e, he, rfl⟩
    · exact hD t q
    · have := hLr e he
      have := hne e he
      show ¬ e.1 = e.2 ∧ ¬ e.2 = v 0 2 ∧ ¬ v 0 2 = e.1
      omega
  · rw [fdd_iff, fol_iff]
    constructor
    · rintro ⟨t, ht, h2⟩
      rcases hmem t ht with ⟨q, -⟩ | ⟨e, he, rfl⟩
      · rw [htar 0 (by decide) t (hT t q), htar 1 (by decide) t (hT t q)] at h2
        have := hP0 t q
        have := hP1 t q
        omega
      · rw [(htn e he).1, (htn e he).2] at h2
        have := (mem_lhOf he).1
        exact ⟨e, he, by omega⟩
    · rintro ⟨e, he, h2⟩
      refine ⟨ek (v 0 2) e, hp.mem_iff.mpr (List.mem_append.mpr (Or.inr (List.mem_map.mpr ⟨e, he, rfl⟩))), Or.inl ?_⟩
      rw [(htn e he).2]
      exact h2
  · refine adN_perm.trans ?_
    have p1 := hp.map n3
    rw [List.map_append, List.map_map] at p1
    have e1 : (l.filter (fun z => !decide (hol v 0 z a b))).map n3 = l.filter (fun z => !decide (hol v 0 z a b)) := by
      conv => rhs; rw [← List.map_id (l.filter (fun z => !decide (hol v 0 z a b)))]
      refine List.map_congr_left (fun t ht => ?_)
      exact n3_id (hN t (List.mem_filter.mp ht).1)
    rw [e1] at p1
    exact p1.symm
theorem Kt_ext {σ τ τ' : mz_G} (h : Kt σ τ) (e : ∀ c i, (38 ≤ c ∧ c ≤ 42) ∨ (c = 30 ∧ (i = 16 ∨ i = 17)) → τ' c i = τ c i) : Kt σ τ' := by
  obtain ⟨a, b, c, d⟩ := h
  refine ⟨fun i hi => ?_, fun i hi => ?_, ?_, ?_⟩
  · rw [e 38 i (by omega), e 39 i (by omega), e 40 i (by omega), e 41 i (by omega)]
    exact a i hi
  · rw [e 42 i (by omega)]
    exact b i hi
  · rw [e 30 16 (by omega)]
    exact c
  · rw [e 30 17 (by omega)]
    exact d
theorem ins_k {v : mz_G} {l : List tr3} {a b x y k : Int} (h : rti v l a b x y = k) (hk : ¬ k = 0) : aIns v l a b x y = -k ∧ vIns v l a b x y = v ∧ lIns v l a b x y = l := by
  unfold aIns vIns lIns
  rw [h, if_neg hk, if_neg hk, if_neg hk]
  exact ⟨rfl, rfl, rfl⟩
theorem rti_1 {v : mz_G} {l : List tr3} {a b x y : Int} (h : ¬ dot v a b ∨ ¬ dot v x y) : rti v l a b x y = 1 := if_pos h
theorem rti_2 {v : mz_G} {l : List tr3} {a b x y : Int} (h1 : dot v a b) (h2 : dot v x y) (h : ish v a b) : rti v l a b x y = 2 := by
  unfold rti
  rw [if_neg (fun z => by rcases z with z | z; exact z h1; exact z h2), if_pos h]
theorem rti_3 {v : mz_G} {l : List tr3} {a b x y : Int} (h1 : dot v a b) (h2 : dot v x y) (h3 : ¬ ish v a b) (h : ¬ keeps v a b x y) : rti v l a b x y = 3 := by
  unfold rti
  rw [if_neg (fun z => by rcases z with z | z; exact z h1; exact z h2), if_neg h3, if_pos h]
theorem rti_4 {v : mz_G} {l : List tr3} {a b x y : Int} (h1 : dot v a b) (h2 : dot v x y) (h3 : ¬ ish v a b) (h4 : keeps v a b x y) (h : fol v (lhOf v l a b) x y) : rti v l a b x y = 4 := by
  unfold rti
  rw [if_neg (fun z => by rcases z with z | z; exact z h1; exact z h2), if_neg h3, if_neg (fun z => z h4), if_pos h]
theorem rti_5 {v : mz_G} {l : List tr3} {a b x y : Int} (h1 : dot v a b) (h2 : dot v x y) (h3 : ¬ ish v a b) (h4 : keeps v a b x y) (h5 : ¬ fol v (lhOf v l a b) x y) : rti v l a b x y = if 30 ≤ v 0 2 then 5 else 0 := by
  unfold rti
  rw [if_neg (fun z => by rcases z with z | z; exact z h1; exact z h2), if_neg h3, if_neg (fun z => z h4), if_neg h5]
/-- turn -/
theorem rtt_1 {v : mz_G} {l : List tr3} {a b : Int} (h : ¬ isk v a ∨ ¬ isk v b) : rtt v l a b = 1 := if_pos h
theorem rtt_2 {v : mz_G} {l : List tr3} {a b : Int} (h1 : isk v a) (h2 : isk v b) (h : ¬ hld l a b = 2) : rtt v l a b = 2 := by
  unfold rtt
  rw [if_neg (fun z => by rcases z with z | z; exact z h1; exact z h2), if_pos]
  apply Decidable.not_not.mp
  intro z
  apply h
  unfold hld
  rw [b01_t (P := ¬ apx l a b = -1) (fun q => z (Or.inl q)), b01_t (P := ¬ apx l b a = -1) (fun q => z (Or.inr q))]
  rfl
theorem hld_2 {l : List tr3} {a b : Int} (h : hld l a b = 2) : ¬ apx l a b = -1 ∧ ¬ apx l b a = -1 := by
  unfold hld at h
  have h1 := b01_01 (P := ¬ apx l a b = -1)
  have h2 := b01_01 (P := ¬ apx l b a = -1)
  constructor
  · intro z
    rw [b01_f (P := ¬ apx l a b = -1) (fun q => q z)] at h
    omega
  · intro z
    rw [b01_f (P := ¬ apx l b a = -1) (fun q => q z)] at h
    omega
theorem rtt_4 {v : mz_G} {l : List tr3} {a b : Int} (h1 : isk v a) (h2 : isk v b) (h : hld l a b = 2) (h3 : ¬ rtt v l a b = 0) : rtt v l a b = 4 := by
  have hh := hld_2 h
  unfold rtt at h3 ⊢
  rw [if_neg (fun z => by rcases z with z | z; exact z h1; exact z h2), if_neg (fun z => by rcases z with z | z; exact hh.1 z; exact hh.2 z)] at h3 ⊢
  by_cases q : flb v a (apx l b a) (apx l a b) = 1 ∨ flb v (apx l b a) b (apx l a b) = 1
  · rw [if_pos q]
  · rw [if_neg q] at h3
    exact absurd rfl h3
theorem drp2 {l : List tr3} {mx mn : Int} (h0 : 0 ≤ mn) (h1 : mn < mx) (h2 : mx < (l.length : Int)) : l.Perm (tg l mx :: tg l mn :: drp (drp l mx) mn) ∧ mn < ((drp l mx).length : Int) := by
  have hl := drp_len (l := l) (t := mx)
  have p1 := drp_perm (l := l) (t := mx) (by omega) h2
  have p2 := drp_perm (l := drp l mx) (t := mn) h0 (by omega)
  have e : tg (drp l mx) mn = tg l mn := by
    have g := tg_get (l := drp l mx) (t := mn) h0 (by omega)
    rw [drp_lo (by omega) h2 (by omega), tg_get h0 (by omega)] at g
    exact (Option.some.inj g).symm
  rw [e] at p2
  exact ⟨p1.trans (List.Perm.cons _ p2), by omega⟩
/-- behind the two dropped ones: what is left is the class's rest -/
theorem tur_new {v : mz_G} {l L : List tr3} {a b : Int} (h : GD v l) (hr : rtt v l a b = 0) (hp : l.Perm (tg l (sid l a b) :: tg l (sid l b a) :: L)) : Bs v (L ++ [(a, apx l b a, apx l a b)] ++ [(apx l b a, b, apx l a b)]) ∧ Dst (L ++ [(a, apx l b a, apx l a b)] ++ [(apx l b a, b, apx l a b)]) ∧ Sd (lTur v l a b) ∧ (lTur v l a b).Perm ((L ++ [(a, apx l b a, apx l a b)] ++ [(apx l b a, b, apx l a b)]).map n3) ∧ L.length + 2 = l.length := by
  have hS' : Sd (lTur v l a b) := (GD_GO (GD_tur (a := a) (b := b) h)).2.1
  have hlen := GD_len h
  obtain ⟨p, hG, hK, hN, hDg, hS, hV, h30, hl⟩ := h
  obtain ⟨⟨hR, hT, hP0, hP1⟩, g1, g2, hC, hH⟩ := id hG
  have hD := Pos_Dst hP0
  obtain ⟨z1, z2, z3, z4, z5, z6⟩ := rtt0 hr
  obtain ⟨-, -, -, hq⟩ := tur_dat hG hr
  have hLp : L.Perm (l.filter (fun z => !decide (hasK z a ∧ hasK z b))) := List.Perm.cons_inv (List.Perm.cons_inv (hp.symm.trans hq))
  have hmem : ∀ t ∈ L, t ∈ l := fun t ht => (List.mem_filter.mp (hLp.mem_iff.mp ht)).1
  have n31 := hR.2.2.1
  have b1 := (apx_bd (a := a) (b := b) hT (by omega)).2.2 z3
  have b2 := (apx_bd (a := b) (b := a) hT (by omega)).2.2 z4
  have d1 := tar_dst (flb_no z5 0 (by decide))
  have d2 := tar_dst (flb_no z6 0 (by decide))
  have hle := hp.length_eq
  simp only [List.length_cons] at hle
  have hcases : ∀ t ∈ L ++ [(a, apx l b a, apx l a b)] ++ [(apx l b a, b, apx l a b)], t ∈ L ∨ t = (a, apx l b a, apx l a b) ∨ t = (apx l b a, b, apx l a b) := by
    intro t ht
    rcases List.mem_append.mp ht with q | q
    · rcases List.mem_append.mp q with q | q
      · exact Or.inl q
      · exact Or.inr (Or.inl (List.mem_singleton.mp q))
    · exact Or.inr (Or.inr (List.mem_singleton.mp q))
  refine ⟨⟨hR, fun t ht => ?_, ?_⟩, fun t ht => ?_, hS', ?_, by omega⟩
  · rcases hcases t ht with q | q | q
    · exact hT t (hmem t q)
    · rw [q]; exact ⟨z1, b2, b1⟩
    · rw [q]; exact ⟨b2, z2, b1⟩
  · rw [List.length_append, List.length_append]
    simp only [List.length_cons, List.length_nil]
    omega
  · rcases hcases t ht with q | q | q
    · exact hD t (hmem t q)
    · rw [q]; exact d1
    · rw [q]; exact d2
  · unfold lTur
    rw [if_pos hr]
    rw [List.map_append, List.map_append]
    have e1 : L.map n3 = L := by
      conv => rhs; rw [← List.map_id L]
      exact List.map_congr_left (fun t ht => n3_id (hN t (hmem t ht)))
    rw [e1]
    show (ins (nrm (apx l b a) b (apx l a b)) (ins (nrm a (apx l b a) (apx l a b)) _)).Perm (L ++ [nrm a (apx l b a) (apx l a b)] ++ [nrm (apx l b a) b (apx l a b)])
    refine ins_perm.trans ((List.Perm.cons _ ins_perm).trans ?_)
    refine ((List.Perm.cons _ (List.Perm.cons _ hLp.symm)).trans ?_)
    exact ((List.perm_append_singleton _ _).trans (List.Perm.cons _ (List.perm_append_singleton _ _))).symm
