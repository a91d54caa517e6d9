/-! a turn keeps the net good -/
theorem flt_one {α : Type} {P : α → Prop} [DecidablePred P] {l : List α} {x : α} (h : lsm (fun t => b01 (P t)) l ≤ 1) (hx : x ∈ l) (hP : P x) : l.filter (fun t => decide (P t)) = [x] := by
  have hl : ((l.filter (fun t => decide (P t))).length : Int) ≤ 1 := by
    have e := lsm_len (l := l.filter (fun t => decide (P t))) (c := 1)
    rw [Int.one_mul] at e
    rw [← e, lsm_flt]
    refine Int.le_trans (Int.le_of_eq (lsm_cg (fun t _ => ?_))) h
    by_cases q : P t
    · rw [b01_t q, if_pos (by simp [q])]
    · rw [b01_f q, if_neg (by simp [q])]
  have hm : x ∈ l.filter (fun t => decide (P t)) := List.mem_filter.mpr ⟨hx, by simp [hP]⟩
  match hf : l.filter (fun t => decide (P t)), hl, hm with
  | [], _, hm => cases hm
  | [y], _, hm => rw [List.mem_singleton.mp hm]
  | y :: z :: r, hl, _ => simp only [List.length_cons] at hl; omega
theorem flt_perm {α : Type} {P : α → Prop} [DecidablePred P] (l : List α) : l.Perm (l.filter (fun t => decide (P t)) ++ l.filter (fun t => !decide (P t))) := (List.filter_append_perm (fun t => decide (P t)) l).symm
theorem edg_opp {x : tr3} {a b : Int} (hd : ¬ x.1 = x.2.1 ∧ ¬ x.2.1 = x.2.2 ∧ ¬ x.2.2 = x.1) (h : edg x a b) : (x.1 = a ∧ x.2.1 = b ∧ x.2.2 = opp x a b) ∨ (x.2.1 = a ∧ x.2.2 = b ∧ x.1 = opp x a b) ∨ (x.2.2 = a ∧ x.1 = b ∧ x.2.1 = opp x a b) := by
  unfold edg at h
  unfold opp
  split
  next q => exact Or.inl ⟨q.1, q.2, rfl⟩
  next q =>
    split
    next r => exact Or.inr (Or.inl ⟨r.1, r.2, rfl⟩)
    next r =>
      right
      right
      rcases h with z | z | z
      · exact absurd z q
      · exact absurd z r
      · exact ⟨z.1, z.2, rfl⟩
theorem bd_opp {f : Int → Int → Int} {x : tr3} {a b : Int} (hd : ¬ x.1 = x.2.1 ∧ ¬ x.2.1 = x.2.2 ∧ ¬ x.2.2 = x.1) (h : edg x a b) : bd f x = f a b + f b (opp x a b) + f (opp x a b) a := by
  unfold bd
  rcases edg_opp hd h with ⟨z1, z2, z3⟩ | ⟨z1, z2, z3⟩ | ⟨z1, z2, z3⟩
  · rw [← z3, z1, z2]
  · rw [← z3, z1, z2]
    omega
  · rw [← z3, z1, z2]
    omega
theorem hasK_opp {x : tr3} {a b k : Int} (hd : ¬ x.1 = x.2.1 ∧ ¬ x.2.1 = x.2.2 ∧ ¬ x.2.2 = x.1) (h : edg x a b) : hasK x k ↔ a = k ∨ b = k ∨ opp x a b = k := by
  unfold hasK
  rcases edg_opp hd h with ⟨z1, z2, z3⟩ | ⟨z1, z2, z3⟩ | ⟨z1, z2, z3⟩
  · rw [← z3, z1, z2]
  · rw [← z3, z1, z2]
    omega
  · rw [← z3, z1, z2]
    omega
/-- what a turn takes for granted, in the words of its two triangles -/
theorem tur_dat {v : mz_G} {l : List tr3} {p : Nat → List Int} {a b : Int} (hG : GP v l p) (h : rtt v l a b = 0) : ¬ a = b ∧ ((0 ≤ sid l a b ∧ sid l a b < (l.length : Int)) ∧ edg (tg l (sid l a b)) a b ∧ opp (tg l (sid l a b)) a b = apx l a b) ∧ ((0 ≤ sid l b a ∧ sid l b a < (l.length : Int)) ∧ edg (tg l (sid l b a)) b a ∧ opp (tg l (sid l b a)) b a = apx l b a) ∧ l.Perm (tg l (sid l a b) :: tg l (sid l b a) :: l.filter (fun z => !decide (hasK z a ∧ hasK z b))) := by
  obtain ⟨⟨hR, hT, hP0, hP1⟩, g1, g2, hC, hH⟩ := id hG
  have hD := Pos_Dst hP0
  obtain ⟨z1, z2, z3, z4, z5, z6⟩ := rtt0 h
  have s1 := sid_apx (a := a) (b := b) hT
  have s2 := sid_apx (a := b) (b := a) hT
  have q1 : ¬ sid l a b = -1 := fun z => z3 (s1.1.mp z)
  have q2 : ¬ sid l b a = -1 := fun z => z4 (s2.1.mp z)
  obtain ⟨t1, t2, t3, t4⟩ := s1.2 q1
  obtain ⟨r1, r2, r3, r4⟩ := s2.2 q2
  have m1 := tg_mem t2 t3
  have m2 := tg_mem r2 r3
  have d1 := hD _ m1
  have d2 := hD _ m2
  have hab : ¬ a = b := by
    intro e
    unfold edg at t4
    omega
  have f1 : l.filter (fun t => decide (edg t a b)) = [tg l (sid l a b)] := flt_one (de_one hG a b) m1 t4
  have f2 : l.filter (fun t => decide (edg t b a)) = [tg l (sid l b a)] := flt_one (de_one hG b a) m2 r4
  have hx : ∀ t ∈ l, (hasK t a ∧ hasK t b) ↔ (edg t a b ∨ edg t b a) := by
    intro t ht
    have := hD t ht
    unfold hasK edg
    omega
  have hy : ∀ t ∈ l, edg t b a → ¬ edg t a b := by
    intro t ht h1 h2
    have := hD t ht
    unfold edg at h1 h2
    omega
  refine ⟨hab, ⟨⟨t2, t3⟩, t4, by rw [← thd_opp t4]; exact t1⟩, ⟨⟨r2, r3⟩, r4, by rw [← thd_opp r4]; exact r1⟩, ?_⟩
  have p1 := flt_perm (P := fun t => edg t a b) l
  rw [f1] at p1
  have p2 := flt_perm (P := fun t => edg t b a) (l.filter (fun t => !decide (edg t a b)))
  rw [List.filter_filter, List.filter_filter] at p2
  have e1 : l.filter (fun t => decide (edg t b a) && !decide (edg t a b)) = [tg l (sid l b a)] := by
    rw [← f2]
    refine List.filter_congr (fun t ht => ?_)
    by_cases q : edg t b a
    · have := hy t ht q
      simp [q, this]
    · simp [q]
  have e2 : l.filter (fun t => !decide (edg t b a) && !decide (edg t a b)) = l.filter (fun z => !decide (hasK z a ∧ hasK z b)) := by
    refine List.filter_congr (fun t ht => ?_)
    have hxx := hx t ht
    by_cases q : hasK t a ∧ hasK t b
    · rcases hxx.mp q with r | r
      · rw [decide_eq_true r, decide_eq_true q]; simp
      · rw [decide_eq_true r, decide_eq_true q]; simp
    · rw [decide_eq_false q, decide_eq_false (fun z => q (hxx.mpr (Or.inr z))), decide_eq_false (fun z => q (hxx.mpr (Or.inl z)))]
      rfl
  rw [e1, e2] at p2
  exact p1.trans (List.Perm.cons _ p2)
theorem flb_no {v : mz_G} {a b c : Int} (h : ¬ flb v a b c = 1) : ∀ q, q < 2 → 0 < tar v q (a, b, c) := by
  intro q hq
  unfold flb at h
  by_cases z : ar (gx v 0 a) (gy v 0 a) (gx v 0 b) (gy v 0 b) (gx v 0 c) (gy v 0 c) ≤ 0 ∨ ar (gx v 1 a) (gy v 1 a) (gx v 1 b) (gy v 1 b) (gx v 1 c) (gy v 1 c) ≤ 0
  · rw [if_pos z] at h
    exact absurd rfl h
  · unfold tar
    rcases (show q = 0 ∨ q = 1 by omega) with rfl | rfl
    · exact Int.not_le.mp (fun r => z (Or.inl r))
    · exact Int.not_le.mp (fun r => z (Or.inr r))
theorem nrm_nm {a b c : Int} (h : ¬ a = b ∧ ¬ b = c ∧ ¬ c = a) : (nrm a b c).1 < (nrm a b c).2.1 ∧ (nrm a b c).1 < (nrm a b c).2.2 := by
  unfold nrm
  by_cases q : b < a ∧ b < c
  · rw [if_pos q]
    exact ⟨q.2, q.1⟩
  · rw [if_neg q]
    by_cases r : c < a ∧ c < b
    · rw [if_pos r]
      exact r
    · rw [if_neg r]
      show a < b ∧ a < c
      omega
theorem tar_dst {v : mz_G} {q : Nat} {a b c : Int} (h : 0 < tar v q (a, b, c)) : ¬ a = b ∧ ¬ b = c ∧ ¬ c = a := by
  have := Pos_Dst (v := v) (l := [(a, b, c)]) (q := q) (fun t ht => by rw [List.mem_singleton.mp ht]; exact h) (a, b, c) (by simp)
  exact this
theorem GD_tur {v : mz_G} {l : List tr3} {a b : Int} (h : GD v l) : GD v (lTur v l a b) := by
  unfold lTur
  by_cases q : rtt v l a b = 0
  · rw [if_pos q]
    obtain ⟨p, hG, hK, hN, hD, hS, hV, hn, hl⟩ := h
    obtain ⟨⟨hR, hT, hP0, hP1⟩, g1, g2, hC, hH⟩ := id hG
    have hDs := Pos_Dst hP0
    obtain ⟨z1, z2, z3, z4, z5, z6⟩ := rtt0 q
    obtain ⟨hab, ⟨⟨i0, i1⟩, i2, i3⟩, ⟨⟨j0, j1⟩, j2, j3⟩, hp⟩ := tur_dat hG q
    have m1 := tg_mem i0 i1
    have m2 := tg_mem j0 j1
    have n31 := hR.2.2.1
    have b1 := (apx_bd (a := a) (b := b) hT (by omega)).2.2 z3
    have b2 := (apx_bd (a := b) (b := a) hT (by omega)).2.2 z4
    have t1 := flb_no z5
    have t2 := flb_no z6
    generalize apx l a b = c at *
    generalize apx l b a = d at *
    have hmem : ∀ t, t ∈ ins (nrm d b c) (ins (nrm a d c) (l.filter (fun z => !decide (hasK z a ∧ hasK z b)))) ↔ t = nrm d b c ∨ t = nrm a d c ∨ t ∈ l.filter (fun z => !decide (hasK z a ∧ hasK z b)) := fun t => by rw [ins_mem, ins_mem]
    have hpos : ∀ q, q < 2 → Pos v l q → Pos v (ins (nrm d b c) (ins (nrm a d c) (l.filter (fun z => !decide (hasK z a ∧ hasK z b))))) q := by
      intro q hq hP t ht
      rcases (hmem t).mp ht with z | z | z
      · rw [z, tar_nrm]
        exact t2 q hq
      · rw [z, tar_nrm]
        exact t1 q hq
      · exact hP t (List.mem_filter.mp z).1
    refine ⟨p, ⟨⟨hR, ?_, hpos 0 (by decide) hP0, hpos 1 (by decide) hP1⟩, ?_, g2, hC, hH⟩, hK, ?_, ?_, ins_Sd (ins_Sd (sub_Sd hS List.filter_sublist)), hV, hn, ?_⟩
    · exact ins_Rt (ins_Rt (sub_Rt hT List.filter_sublist) (nrm_rg z1 b2 b1)) (nrm_rg b2 z2 b1)
    · intro f hf
      rw [lsm_perm ins_perm]
      show bd f (nrm d b c) + lsm (bd f) (ins (nrm a d c) _) = _
      rw [lsm_perm ins_perm]
      show bd f (nrm d b c) + (bd f (nrm a d c) + lsm (bd f) _) = _
      rw [← g1 f hf, lsm_perm hp, bd_nrm, bd_nrm]
      show _ = bd f (tg l (sid l a b)) + (bd f (tg l (sid l b a)) + lsm (bd f) _)
      rw [bd_opp (hDs _ m1) i2, bd_opp (hDs _ m2) j2, i3, j3]
      show (f d b + f b c + f c d) + ((f a d + f d c + f c a) + _) = _
      have e1 := hf c d
      have e2 := hf a b
      omega
    · intro t ht
      rcases (hmem t).mp ht with z | z | z
      · rw [z]
        exact nrm_nm (tar_dst (t2 0 (by decide)))
      · rw [z]
        exact nrm_nm (tar_dst (t1 0 (by decide)))
      · exact hN t (List.mem_filter.mp z).1
    · intro k hk
      obtain ⟨t, ht, hk2⟩ := hD k hk
      have hm := hp.mem_iff.mp ht
      rcases List.mem_cons.mp hm with z | z
      · rw [z, hasK_opp (hDs _ m1) i2, i3] at hk2
        rcases hk2 with r | r | r
        · exact ⟨_, (hmem _).mpr (Or.inr (Or.inl rfl)), hasK_nrm.mpr (Or.inl r)⟩
        · exact ⟨_, (hmem _).mpr (Or.inl rfl), hasK_nrm.mpr (Or.inr (Or.inl r))⟩
        · exact ⟨_, (hmem _).mpr (Or.inl rfl), hasK_nrm.mpr (Or.inr (Or.inr r))⟩
      · rcases List.mem_cons.mp z with z | z
        · rw [z, hasK_opp (hDs _ m2) j2, j3] at hk2
          rcases hk2 with r | r | r
          · exact ⟨_, (hmem _).mpr (Or.inl rfl), hasK_nrm.mpr (Or.inr (Or.inl r))⟩
          · exact ⟨_, (hmem _).mpr (Or.inr (Or.inl rfl)), hasK_nrm.mpr (Or.inl r)⟩
          · exact ⟨_, (hmem _).mpr (Or.inl rfl), hasK_nrm.mpr (Or.inl r)⟩
        · exact ⟨t, (hmem t).mpr (Or.inr (Or.inr z)), hk2⟩
    · have e := hp.length_eq
      simp only [List.length_cons] at e
      rw [ins_len, ins_len]
      omega
  · rw [if_neg q]
    exact h
