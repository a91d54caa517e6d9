/-! words for the reference's out -/
theorem sid_lk {v : mz_G} {l : List tr3} {p : Nat → List Int} (hG : GP v l p) {k w : Int} : (¬ sid l k w = -1 ↔ ∃ e ∈ lkOf l k, e.1 = w) ∧ (¬ sid l w k = -1 ↔ ∃ e ∈ lkOf l k, e.2 = w) := by
  obtain ⟨⟨hR, hT, hP0, hP1⟩, -⟩ := id hG
  have hD := Pos_Dst hP0
  have c1 := cnt_apx hG k w
  have c2 := cnt_apx hG w k
  rw [(lk_C hD).1] at c1
  rw [(lk_C hD).2] at c2
  have s1 := (sid_apx (a := k) (b := w) hT).1
  have s2 := (sid_apx (a := w) (b := k) hT).1
  constructor
  · constructor
    · intro h
      rw [b01_t (P := ¬ apx l k w = -1) (fun z => h (s1.mpr z))] at c1
      obtain ⟨e, he, h2⟩ := lsm_ex (show ¬ lsm (fun e => b01 (e.1 = w)) (lkOf l k) = 0 by omega)
      exact ⟨e, he, b01_ne0 h2⟩
    · rintro ⟨e, he, rfl⟩ h
      have := (lsm_b1 he).1
      rw [b01_f (P := ¬ apx l k e.1 = -1) (fun z => z (s1.mp h))] at c1
      omega
  · constructor
    · intro h
      rw [b01_t (P := ¬ apx l w k = -1) (fun z => h (s2.mpr z))] at c2
      obtain ⟨e, he, h2⟩ := lsm_ex (show ¬ lsm (fun e => b01 (e.2 = w)) (lkOf l k) = 0 by omega)
      exact ⟨e, he, b01_ne0 h2⟩
    · rintro ⟨e, he, rfl⟩ h
      have := (lsm_b1 he).2
      rw [b01_f (P := ¬ apx l e.2 k = -1) (fun z => z (s2.mp h))] at c2
      omega
theorem apx_lk {v : mz_G} {l : List tr3} {k w : Int} (hT : Rt (v 0 2) l) (hD : Dst l) (h : ¬ sid l k w = -1) : (w, apx l k w) ∈ lkOf l k := by
  obtain ⟨t1, t2, t3, t4⟩ := (sid_apx (a := k) (b := w) hT).2 h
  have hm := tg_mem t2 t3
  rw [← t1]
  generalize tg l (sid l k w) = t at *
  rcases lk1_c (k := k) (hD t hm) with ⟨h1, -⟩ | ⟨x, y, h1, -, h3, h4, h5, h6⟩
  · exfalso
    apply h1
    unfold edg at t4
    unfold hasK
    omega
  · refine List.mem_flatMap.mpr ⟨t, hm, ?_⟩
    rw [h1, List.mem_singleton]
    have e : w = x ∧ thd t k w = y := by
      unfold edg at t4
      unfold thd
      rcases h3 with rfl | rfl | rfl
      · have t4 : (k = k ∧ x = w) ∨ (x = k ∧ y = w) ∨ (y = k ∧ k = w) := t4
        show w = x ∧ k + x + y - k - w = y
        omega
      · have t4 : (y = k ∧ k = w) ∨ (k = k ∧ x = w) ∨ (x = k ∧ y = w) := t4
        show w = x ∧ y + k + x - k - w = y
        omega
      · have t4 : (x = k ∧ y = w) ∨ (y = k ∧ k = w) ∨ (k = k ∧ x = w) := t4
        show w = x ∧ x + y + k - k - w = y
        omega
    rw [e.2, e.1]
def JX (l : List tr3) (k x y z n : Int) : Prop := (n = 2 ∨ n = 3) ∧ (∀ w, ¬ sid l k w = -1 ↔ (w = x ∨ w = y ∨ (n = 3 ∧ w = z))) ∧ (∀ w, ¬ sid l w k = -1 ↔ (w = y ∨ w = z ∨ (n = 3 ∧ w = x))) ∧ (apx l k x = y ∧ apx l k y = z ∧ (n = 3 → apx l k z = x)) ∧ (¬ x = y ∧ ¬ y = z ∧ ¬ z = x)
theorem JX_of {v : mz_G} {l : List tr3} {p : Nat → List Int} {k x y z : Int} {r : Nat → List Int} (hG : GP v l p) (h : OD v l p k x y z r) : JX l k x y z (dgr l k) := by
  obtain ⟨⟨hR, hT, hP0, hP1⟩, -⟩ := id hG
  have hD := Pos_Dst hP0
  have hd := h.2.2
  have hk : ∀ w, (¬ sid l k w = -1 ↔ ∃ e ∈ lkOf l k, e.1 = w) ∧ (¬ sid l w k = -1 ↔ ∃ e ∈ lkOf l k, e.2 = w) := fun w => sid_lk hG
  have ha : ∀ w, ¬ sid l k w = -1 → (w, apx l k w) ∈ lkOf l k := fun w hw => apx_lk hT hD hw
  rw [(lk_L hD).2]
  unfold JX
  rcases h.1 with ⟨-, h1 | h1, -⟩ | ⟨-, h1 | h1, -⟩
  · rw [h1] at hk ha ⊢
    have st : ∀ w, ¬ sid l k w = -1 ↔ (w = x ∨ w = y ∨ w = z) := fun w => by rw [(hk w).1]; simp [eq_comm]
    have en : ∀ w, ¬ sid l w k = -1 ↔ (w = y ∨ w = z ∨ w = x) := fun w => by rw [(hk w).2]; simp [eq_comm]
    have ax := ha x ((st x).mpr (by simp))
    have ay := ha y ((st y).mpr (by simp))
    have az := ha z ((st z).mpr (by simp))
    simp only [List.mem_cons, Prod.mk.injEq, List.not_mem_nil, or_false] at ax ay az
    refine ⟨Or.inr rfl, fun w => by rw [st w]; simp, fun w => by rw [en w]; simp, ⟨by omega, by omega, fun _ => by omega⟩, hd⟩
  · rw [h1] at hk ha ⊢
    have st : ∀ w, ¬ sid l k w = -1 ↔ (w = x ∨ w = y ∨ w = z) := fun w => by
      rw [(hk w).1]
      simp only [List.mem_cons, List.not_mem_nil, or_false, exists_eq_or_imp, exists_eq_left]
      omega
    have en : ∀ w, ¬ sid l w k = -1 ↔ (w = y ∨ w = z ∨ w = x) := fun w => by
      rw [(hk w).2]
      simp only [List.mem_cons, List.not_mem_nil, or_false, exists_eq_or_imp, exists_eq_left]
      omega
    have ax := ha x ((st x).mpr (by simp))
    have ay := ha y ((st y).mpr (by simp))
    have az := ha z ((st z).mpr (by simp))
    simp only [List.mem_cons, Prod.mk.injEq, List.not_mem_nil, or_false] at ax ay az
    refine ⟨Or.inr rfl, fun w => by rw [st w]; simp, fun w => by rw [en w]; simp, ⟨by omega, by omega, fun _ => by omega⟩, hd⟩
  · rw [h1] at hk ha ⊢
    have st : ∀ w, ¬ sid l k w = -1 ↔ (w = x ∨ w = y) := fun w => by
      rw [(hk w).1]
      simp only [List.mem_cons, List.not_mem_nil, or_false, exists_eq_or_imp, exists_eq_left]
      omega
    have en : ∀ w, ¬ sid l w k = -1 ↔ (w = y ∨ w = z) := fun w => by
      rw [(hk w).2]
      simp only [List.mem_cons, List.not_mem_nil, or_false, exists_eq_or_imp, exists_eq_left]
      omega
    have ax := ha x ((st x).mpr (by simp))
    have ay := ha y ((st y).mpr (by simp))
    simp only [List.mem_cons, Prod.mk.injEq, List.not_mem_nil, or_false] at ax ay
    refine ⟨Or.inl rfl, fun w => by rw [st w]; simp, fun w => by rw [en w]; simp, ⟨by omega, by omega, fun q => by simp at q⟩, hd⟩
  · rw [h1] at hk ha ⊢
    have st : ∀ w, ¬ sid l k w = -1 ↔ (w = x ∨ w = y) := fun w => by
      rw [(hk w).1]
      simp only [List.mem_cons, List.not_mem_nil, or_false, exists_eq_or_imp, exists_eq_left]
      omega
    have en : ∀ w, ¬ sid l w k = -1 ↔ (w = y ∨ w = z) := fun w => by
      rw [(hk w).2]
      simp only [List.mem_cons, List.not_mem_nil, or_false, exists_eq_or_imp, exists_eq_left]
      omega
    have ax := ha x ((st x).mpr (by simp))
    have ay := ha y ((st y).mpr (by simp))
    simp only [List.mem_cons, Prod.mk.injEq, List.not_mem_nil, or_false] at ax ay
    refine ⟨Or.inl rfl, fun w => by rw [st w]; simp, fun w => by rw [en w]; simp, ⟨by omega, by omega, fun q => by simp at q⟩, hd⟩
theorem JX_f {l : List tr3} {k x y z n f : Int} (h : JX l k x y z n) (hf : f = x ∨ (n = 3 ∧ (f = y ∨ f = z))) : (¬ sid l k f = -1 ∧ ¬ sid l k (apx l k f) = -1) ∧ ((f = x ∧ apx l k f = y ∧ apx l k (apx l k f) = z) ∨ (f = y ∧ apx l k f = z ∧ apx l k (apx l k f) = x) ∨ (f = z ∧ apx l k f = x ∧ apx l k (apx l k f) = y)) := by
  obtain ⟨h0, h1, h2, ⟨a1, a2, a3⟩, hd⟩ := h
  rcases hf with rfl | ⟨hn, rfl | rfl⟩
  · rw [a1]
    exact ⟨⟨(h1 f).mpr (Or.inl rfl), (h1 y).mpr (Or.inr (Or.inl rfl))⟩, Or.inl ⟨rfl, rfl, a2⟩⟩
  · rw [a2]
    exact ⟨⟨(h1 f).mpr (Or.inr (Or.inl rfl)), (h1 z).mpr (Or.inr (Or.inr ⟨hn, rfl⟩))⟩, Or.inr (Or.inl ⟨rfl, rfl, a3 hn⟩)⟩
  · rw [a3 hn]
    exact ⟨⟨(h1 f).mpr (Or.inr (Or.inr ⟨hn, rfl⟩)), (h1 x).mpr (Or.inl rfl)⟩, Or.inr (Or.inr ⟨rfl, rfl, a1⟩)⟩
theorem dn_lt2 {k i j : Int} (hi : ¬ i = k) (hj : ¬ j = k) : dn k i < dn k j ↔ i < j := by
  unfold dn
  split <;> split <;> omega
theorem n3_cl {k : Int} {t : tr3} (h : ¬ t.1 = k ∧ ¬ t.2.1 = k ∧ ¬ t.2.2 = k) : n3 (cl1 k t) = cl1 k (n3 t) := by
  unfold n3
  show nrm (dn k t.1) (dn k t.2.1) (dn k t.2.2) = cl1 k (nrm t.1 t.2.1 t.2.2)
  unfold nrm
  have a1 := dn_lt2 h.2.1 h.1
  have a2 := dn_lt2 h.2.1 h.2.2
  have a3 := dn_lt2 h.2.2 h.1
  have a4 := dn_lt2 h.2.2 h.2.1
  by_cases q1 : t.2.1 < t.1 ∧ t.2.1 < t.2.2
  · rw [if_pos q1, if_pos ⟨a1.mpr q1.1, a2.mpr q1.2⟩]; rfl
  · rw [if_neg q1, if_neg (fun z => q1 ⟨a1.mp z.1, a2.mp z.2⟩)]
    by_cases q2 : t.2.2 < t.1 ∧ t.2.2 < t.2.1
    · rw [if_pos q2, if_pos ⟨a3.mpr q2.1, a4.mpr q2.2⟩]; rfl
    · rw [if_neg q2, if_neg (fun z => q2 ⟨a3.mp z.1, a4.mp z.2⟩)]; rfl
theorem rto_1 {v : mz_G} {l : List tr3} {k : Int} (h : ¬ isk v k) : rto v l k = 1 := if_pos h
theorem rto_2 {v : mz_G} {l : List tr3} {k : Int} (h : GD v l) (hk : isk v k) (h2 : kind v k = 0 ∨ ¬ dgr l k = kind v k + 1) : rto v l k = 2 := by
  unfold rto
  rw [if_neg (fun z => z hk), if_pos]
  apply Decidable.not_not.mp
  intro z
  have hk0 : ¬ kind v k = 0 := fun q => z (Or.inl q)
  have hdg : dgr l k ≤ (if kind v k = 1 then 2 else 3) := Int.not_lt.mp (fun q => z (Or.inr q))
  obtain ⟨p, hG, -, -, hDg, -⟩ := h
  obtain ⟨x, y, w, r, hO⟩ := out_dat hG hDg hk (kind_4 hk0) hdg
  have e := (OD_e hO).2.2
  rw [← (lk_L (Pos_Dst hG.1.2.2.1)).2] at e
  rcases h2 with q | q
  · exact hk0 q
  · exact q e
theorem rto_0 {v : mz_G} {l : List tr3} {k : Int} (hk : isk v k) (h1 : ¬ kind v k = 0) (h2 : dgr l k = kind v k + 1) : rto v l k = 0 := by
  have hb := kind_bd (v := v) (k := k)
  unfold rto
  rw [if_neg (fun z => z hk), if_neg]
  rintro (z | z)
  · exact h1 z
  · split at z <;> omega
theorem out_new {v : mz_G} {l L : List tr3} {p r : Nat → List Int} {k x y z : Int} {u : tr3} (h : GD v l) (hr : rto v l k = 0) (hG : GP v l p) (hO : OD v l p k x y z r) (hp : L.Perm (l.filter (fun t => !decide (hasK t k)) ++ [u])) (hu : u = (x, y, z) ∨ u = (y, z, x) ∨ u = (z, x, y)) : (Bs v L ∧ ¬ fdd v L ∧ ∀ t ∈ L, ¬ hasK t k) ∧ Bs (vcl v k) (L.map (cl1 k)) ∧ Dst (L.map (cl1 k)) ∧ Sd ((cov (lkOf l k) (l.filter (fun z => !decide (hasK z k)))).map (cl1 k)) ∧ ((cov (lkOf l k) (l.filter (fun z => !decide (hasK z k)))).map (cl1 k)).Perm ((L.map (cl1 k)).map n3) := by
  have hg1 := GD_ou1 h hr
  have hgo := GD_GO hg1
  have hlen := GD_len h
  obtain ⟨-, -, -, hN, hDg, hS, hV, h30, -⟩ := h
  obtain ⟨⟨hR, hT, hP0, hP1⟩, g1, g2, hC, hH⟩ := id hG
  have hD := Pos_Dst hP0
  obtain ⟨hk, hk0, hdg⟩ := rto0 hr
  have hkk : 0 ≤ k ∧ k < v 0 2 := hk
  have hoe := OD_e hO
  have mx := lk_M hT hD hoe.1.1
  have mz := lk_M hT hD hoe.1.2
  have ix : isk v x ∧ ¬ x = k := ⟨mx.1, mx.2.2.1⟩
  have iy : isk v y ∧ ¬ y = k := ⟨mx.2.1, mx.2.2.2.1⟩
  have iz : isk v z ∧ ¬ z = k := ⟨mz.2.1, mz.2.2.2.1⟩
  have hd := hO.2.2
  have hn3 : n3 u = nrm x y z := by
    rcases hu with rfl | rfl | rfl
    · rfl
    · exact n3_rot (x := (x, y, z)) hd
    · exact (n3_rot (x := (y, z, x)) ⟨hd.2.1, hd.2.2, hd.1⟩).trans (n3_rot (x := (x, y, z)) hd)
  have hut : ∀ q, tar v q u = tar v q (x, y, z) := by
    intro q
    rcases hu with rfl | rfl | rfl
    · rfl
    · unfold tar
      exact ar_cyc
    · unfold tar
      exact ar_cyc.trans ar_cyc
  have hur : ((0 ≤ u.1 ∧ u.1 < v 0 2) ∧ (0 ≤ u.2.1 ∧ u.2.1 < v 0 2) ∧ (0 ≤ u.2.2 ∧ u.2.2 < v 0 2)) ∧ (¬ u.1 = k ∧ ¬ u.2.1 = k ∧ ¬ u.2.2 = k) ∧ (¬ u.1 = u.2.1 ∧ ¬ u.2.1 = u.2.2 ∧ ¬ u.2.2 = u.1) := by
    rcases hu with rfl | rfl | rfl
    · exact ⟨⟨ix.1, iy.1, iz.1⟩, ⟨ix.2, iy.2, iz.2⟩, hd⟩
    · exact ⟨⟨iy.1, iz.1, ix.1⟩, ⟨iy.2, iz.2, ix.2⟩, hd.2.1, hd.2.2, hd.1⟩
    · exact ⟨⟨iz.1, ix.1, iy.1⟩, ⟨iz.2, ix.2, iy.2⟩, hd.2.2, hd.1, hd.2.1⟩
  have hmem : ∀ t ∈ L, (t ∈ l ∧ ¬ hasK t k) ∨ t = u := by
    intro t ht
    rcases List.mem_append.mp (hp.mem_iff.mp ht) with q | q
    · have := List.mem_filter.mp q
      exact Or.inl ⟨this.1, fun hz => by have t2 := this.2; rw [decide_eq_true hz] at t2; simp at t2⟩
    · exact Or.inr (List.mem_singleton.mp q)
  have hLr : ∀ t ∈ L, ((0 ≤ t.1 ∧ t.1 < v 0 2) ∧ (0 ≤ t.2.1 ∧ t.2.1 < v 0 2) ∧ (0 ≤ t.2.2 ∧ t.2.2 < v 0 2)) ∧ (¬ t.1 = k ∧ ¬ t.2.1 = k ∧ ¬ t.2.2 = k) ∧ (¬ t.1 = t.2.1 ∧ ¬ t.2.1 = t.2.2 ∧ ¬ t.2.2 = t.1) := by
    intro t ht
    rcases hmem t ht with ⟨q1, q2⟩ | q
    · refine ⟨hT t q1, ?_, hD t q1⟩
      unfold hasK at q2
      omega
    · rw [q]; exact hur
  have hlk := lk_L hD (k := k)
  have hll := hp.length_eq
  rw [List.length_append] at hll
  simp only [List.length_cons, List.length_nil] at hll
  have hkb := kind_bd (v := v) (k := k)
  have hll2 : L.length ≤ l.length := by
    have := hoe.2.2
    omega
  refine ⟨⟨⟨hR, fun t ht => (hLr t ht).1, by omega⟩, ?_, fun t ht z => ?_⟩, ⟨hgo.1.1, ?_, ?_⟩, ?_, hgo.2.1, ?_⟩
  · rw [fdd_iff]
    rintro ⟨t, ht, h2⟩
    rcases hmem t ht with ⟨q1, q2⟩ | q
    · have := hP0 t q1
      have := hP1 t q1
      omega
    · rw [q, hut, hut] at h2
      have := OD_tar hO hT hD (q := 0) (by decide) hP0
      have := OD_tar hO hT hD (q := 1) (by decide) hP1
      omega
  · have := (hLr t ht).2.1
    unfold hasK at z
    omega
  · rw [(vcl_0 (v := v) (k := k)).2.2.1]
    intro t' ht'
    obtain ⟨t, ht, rfl⟩ := List.mem_map.mp ht'
    have rr := hLr t ht
    exact ⟨dn_rg hkk rr.1.1 rr.2.1.1, dn_rg hkk rr.1.2.1 rr.2.1.2.1, dn_rg hkk rr.1.2.2 rr.2.1.2.2⟩
  · rw [List.length_map]
    omega
  · intro t' ht'
    obtain ⟨t, ht, rfl⟩ := List.mem_map.mp ht'
    have rr := hLr t ht
    show ¬ dn k t.1 = dn k t.2.1 ∧ ¬ dn k t.2.1 = dn k t.2.2 ∧ ¬ dn k t.2.2 = dn k t.1
    exact ⟨fun q => rr.2.2.1 (dn_ij rr.2.1.1 rr.2.1.2.1 q), fun q => rr.2.2.2.1 (dn_ij rr.2.1.2.1 rr.2.1.2.2 q), fun q => rr.2.2.2.2 (dn_ij rr.2.1.2.2 rr.2.1.1 q)⟩
  · rw [OD_cov hO, List.map_map]
    have e1 : L.map (n3 ∘ cl1 k) = (L.map n3).map (cl1 k) := by
      rw [List.map_map]
      exact List.map_congr_left (fun t ht => n3_cl (hLr t ht).2.1)
    rw [e1]
    refine List.Perm.map _ ?_
    refine ins_perm.trans ?_
    have p1 := hp.map n3
    rw [List.map_append] at p1
    have e2 : (l.filter (fun t => !decide (hasK t k))).map n3 = l.filter (fun t => !decide (hasK t k)) := by
      conv => rhs; rw [← List.map_id (l.filter (fun t => !decide (hasK t k)))]
      exact List.map_congr_left (fun t ht => n3_id (hN t (List.mem_filter.mp ht).1))
    rw [e2] at p1
    have e3 : [u].map n3 = [nrm x y z] := by
      show [n3 u] = _
      rw [hn3]
    rw [e3] at p1
    exact ((List.perm_append_singleton _ _).symm.trans p1.symm)
/-- knots behind come up, in the reference -/
def U1 (σ σ1 : mz_G) (k j n : Int) : Prop := (∀ c : Nat, (31 ≤ c ∧ c ≤ 34) → ∀ i : Nat, σ1 c i = if k ≤ (i : Int) ∧ (i : Int) < j then σ c (i + 1) else σ c i) ∧ σ1 30 2 = n ∧ ∀ c i, ¬ (31 ≤ c ∧ c ≤ 34) → ¬ (c = 30 ∧ i = 2) → σ1 c i = σ c i
theorem U1_0 {σ : mz_G} {k n z : Int} (hz : z = n) : U1 σ (mz_up σ 30 2 z) k k n := by
  refine ⟨fun c hc i => by rw [up_ne (by omega), if_neg (by omega)], by rw [up_eq, hz], fun c i p q => ?_⟩
  unfold mz_up
  rw [if_neg q]
theorem U1_s {σ σ1 : mz_G} {k j n a b c d : Int} (h : U1 σ σ1 k j n) (h0 : 0 ≤ k) (h1 : k ≤ j) (ha : a = σ1 33 (j + 1).toNat) (hb : b = σ1 34 (j + 1).toNat) (hc : c = σ1 31 (j + 1).toNat) (hd : d = σ1 32 (j + 1).toNat) : U1 σ (mz_up (mz_up (mz_up (mz_up σ1 33 j.toNat a) 34 j.toNat b) 31 j.toNat c) 32 j.toNat d) k (j + 1) n := by
  obtain ⟨p, q, r⟩ := h
  have g := up4_get (σ := σ1) (A := 33) (B := 34) (C := 31) (D := 32) (j := j.toNat) (a := a) (b := b) (c := c) (d := d) (by decide)
  have e : ∀ c : Nat, (31 ≤ c ∧ c ≤ 34) → σ1 c (j + 1).toNat = σ c (j.toNat + 1) := fun c hc => by
    rw [p c hc, if_neg (by omega)]
    congr 1
    omega
  refine ⟨fun c' hc' i => ?_, by rw [g.2 _ _ (Or.inr (by decide))]; exact q, fun c' i p' q' => by rw [g.2 _ _ (Or.inr (by omega))]; exact r c' i p' q'⟩
  by_cases z : i = j.toNat
  · rw [if_pos (by omega), z]
    rcases (show c' = 31 ∨ c' = 32 ∨ c' = 33 ∨ c' = 34 by omega) with rfl | rfl | rfl | rfl
    · rw [g.1.2.2.1, hc]; exact e 31 (by decide)
    · rw [g.1.2.2.2, hd]; exact e 32 (by decide)
    · rw [g.1.1, ha]; exact e 33 (by decide)
    · rw [g.1.2.1, hb]; exact e 34 (by decide)
  · rw [g.2 _ _ (Or.inl z), p c' hc']
    by_cases w : k ≤ (i : Int) ∧ (i : Int) < j
    · rw [if_pos w, if_pos (by omega)]
    · rw [if_neg w, if_neg (by omega)]
def U2 (σ σ1 : mz_G) (k i : Int) : Prop := (∀ m : Nat, σ1 35 m = if (m : Int) < i then dn k (σ 35 m) else σ 35 m) ∧ ∀ c m, ¬ c = 35 → σ1 c m = σ c m
theorem U2_0 {σ : mz_G} {k : Int} : U2 σ σ k 0 := ⟨fun m => by rw [if_neg (by omega)], fun _ _ _ => rfl⟩
theorem U2_at {σ σ1 : mz_G} {k i : Int} (h : U2 σ σ1 k i) (h0 : 0 ≤ i) : σ1 35 i.toNat = σ 35 i.toNat := by rw [h.1, if_neg (by omega)]
theorem U2_s {σ σ1 : mz_G} {k i z : Int} (h : U2 σ σ1 k i) (h0 : 0 ≤ i) (hz : z = dn k (σ 35 i.toNat)) : U2 σ (mz_up σ1 35 i.toNat z) k (i + 1) := by
  refine ⟨fun m => ?_, fun c m hc => by rw [up_ne hc]; exact h.2 c m hc⟩
  by_cases e : m = i.toNat
  · rw [e, up_eq, if_pos (by omega), hz]
  · rw [up_ni e, h.1]
    by_cases w : (m : Int) < i
    · rw [if_pos w, if_pos (by omega)]
    · rw [if_neg w, if_neg (by omega)]
theorem MA_cup {σ σ1 σ2 v : mz_G} {l : List tr3} {k j i : Int} (h : MA σ v l) (hR : Rg v) (hk : 0 ≤ k ∧ k < v 0 2) (h1 : U1 σ σ1 k j (v 0 2 - 1)) (hj : j = v 0 2 - 1) (h2 : U2 σ1 σ2 k i) (hi : i = 3 * (l.length : Int)) : MA σ2 (vcl v k) (l.map (cl1 k)) ∧ Fm σ σ2 := by
  obtain ⟨⟨⟨m1, m2, m3⟩, m4, m5⟩, m6, m7⟩ := h
  obtain ⟨p, q, r⟩ := h1
  obtain ⟨w0, w1, w2, w6⟩ := vcl_0 (v := v) (k := k)
  refine ⟨⟨⟨⟨?_, ?_, ?_⟩, fun a ha => ?_, fun d hd => ?_⟩, ?_, fun t y hy => ?_⟩, fun c a hc => ?_⟩
  · rw [h2.2 _ _ (by decide), r 30 0 (by decide) (by decide), w0, m1]
  · rw [h2.2 _ _ (by decide), r 30 1 (by decide) (by decide), w1, m2]
  · rw [h2.2 _ _ (by decide), q, w2]
  · rw [w2] at ha
    rw [h2.2 31 _ (by decide), h2.2 32 _ (by decide), h2.2 33 _ (by decide), h2.2 34 _ (by decide), p 31 (by decide), p 32 (by decide), p 33 (by decide), p 34 (by decide)]
    by_cases e : k ≤ (a : Int)
    · have := m4 (a + 1) (by omega)
      rw [if_pos ⟨e, by omega⟩, if_pos ⟨e, by omega⟩, if_pos ⟨e, by omega⟩, if_pos ⟨e, by omega⟩]
      simp [vcl, e, this]
    · have := m4 a (by omega)
      rw [if_neg (fun z => e z.1), if_neg (fun z => e z.1), if_neg (fun z => e z.1), if_neg (fun z => e z.1)]
      simp [vcl, e, this]
  · rw [w0, w1] at hd
    rw [h2.2 _ _ (by decide), r 36 d (by omega) (by omega), w6]
    exact m5 d hd
  · rw [h2.2 _ _ (by decide), r 30 3 (by decide) (by decide), m6, List.length_map]
  · rw [List.getElem?_map] at hy
    cases hx : l[t]? with
    | none => rw [hx] at hy; cases hy
    | some x =>
      rw [hx] at hy
      have e : cl1 k x = y := by simpa using hy
      have hlt := (List.getElem?_eq_some_iff.mp hx).1
      have := m7 t x hx
      rw [h2.1, h2.1, h2.1, if_pos (by omega), if_pos (by omega), if_pos (by omega), r 35 _ (by omega) (by omega), r 35 _ (by omega) (by omega), r 35 _ (by omega) (by omega), this.1, this.2.1, this.2.2, ← e]
      exact ⟨rfl, rfl, rfl⟩
  · rw [h2.2 c a (by omega), r c a (by omega) (by omega)]
