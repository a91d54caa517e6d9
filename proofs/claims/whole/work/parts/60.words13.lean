/-! the reference's list of triangles: dropped, changed, sorted -/
theorem set_perm {α : Type} : ∀ {l : List α} {t : Nat} {x y : α}, l[t]? = some x → (x :: l.set t y).Perm (y :: l)
  | [], t, x, y, h => by simp at h
  | a :: r, 0, x, y, h => by
    have e : a = x := by simpa using h
    subst e
    exact List.Perm.swap y a r
  | a :: r, t + 1, x, y, h => by
    have e : r[t]? = some x := by simpa using h
    exact (List.Perm.swap a x (r.set t y)).trans ((List.Perm.cons a (set_perm e)).trans (List.Perm.swap y a r))
def drp (l : List tr3) (t : Int) : List tr3 := l.dropLast.set t.toNat (tg l ((l.length : Int) - 1))
theorem drp_len {l : List tr3} {t : Int} : (drp l t).length = l.length - 1 := by
  unfold drp
  rw [List.length_set, List.length_dropLast]
theorem last_eq {l : List tr3} (h : 0 < (l.length : Int)) : l = l.dropLast ++ [tg l ((l.length : Int) - 1)] := by
  have hne : l ≠ [] := fun z => by rw [z] at h; simp at h
  have e := List.dropLast_concat_getLast hne
  have g := tg_get (l := l) (t := (l.length : Int) - 1) (by omega) (by omega)
  rw [show ((l.length : Int) - 1).toNat = l.length - 1 by omega, List.getElem?_eq_getElem (by omega)] at g
  have g2 := Option.some.inj g
  rw [← g2, ← List.getLast_eq_getElem hne]
  exact e.symm
theorem drp_perm {l : List tr3} {t : Int} (h0 : 0 ≤ t) (h1 : t < (l.length : Int)) : l.Perm (tg l t :: drp l t) := by
  have e := last_eq (l := l) (by omega)
  have g := tg_get h0 h1
  unfold drp
  by_cases q : t = (l.length : Int) - 1
  · rw [q]
    have e2 : l.dropLast.set ((l.length : Int) - 1).toNat (tg l ((l.length : Int) - 1)) = l.dropLast := List.set_eq_of_length_le (by rw [List.length_dropLast]; omega)
    rw [e2]
    conv => lhs; rw [e]
    exact List.perm_append_singleton _ _
  · have g2 : l.dropLast[t.toNat]? = some (tg l t) := by
      rw [List.getElem?_dropLast, if_pos (by omega)]
      exact g
    refine List.Perm.trans ?_ (set_perm g2).symm
    conv => lhs; rw [e]
    exact List.perm_append_singleton _ _
theorem drp_get {l : List tr3} {t : Int} {i : Nat} {x : tr3} (h0 : 0 ≤ t) (h1 : t < (l.length : Int)) (h : (drp l t)[i]? = some x) : i < l.length - 1 ∧ ((i = t.toNat ∧ x = tg l ((l.length : Int) - 1)) ∨ (¬ i = t.toNat ∧ l[i]? = some x)) := by
  have hl : i < (drp l t).length := (List.getElem?_eq_some_iff.mp h).1
  rw [drp_len] at hl
  refine ⟨hl, ?_⟩
  unfold drp at h
  rw [List.getElem?_set] at h
  by_cases q : t.toNat = i
  · rw [if_pos q, if_pos (by rw [List.length_dropLast]; omega)] at h
    exact Or.inl ⟨q.symm, (Option.some.inj h).symm⟩
  · rw [if_neg q, List.getElem?_dropLast, if_pos hl] at h
    exact Or.inr ⟨fun z => q z.symm, h⟩
theorem drp_lo {l : List tr3} {t : Int} {i : Nat} (h0 : 0 ≤ t) (h1 : t < (l.length : Int)) (hi : (i : Int) < t) : (drp l t)[i]? = l[i]? := by
  unfold drp
  rw [List.getElem?_set, if_neg (by omega), List.getElem?_dropLast, if_pos (by omega)]
/-- three entries are copied -/
def DI (σ σ1 : mz_G) (t m k : Int) : Prop := (∀ i : Nat, σ1 35 i = if 3 * t ≤ (i : Int) ∧ (i : Int) < 3 * t + k then σ 35 (i + (3 * m - 3 * t).toNat) else σ 35 i) ∧ σ1 30 3 = m ∧ Fr σ σ1
theorem DI_0 {σ : mz_G} {t m z : Int} (hz : z = m) : DI σ (mz_up σ 30 3 z) t m 0 := by
  refine ⟨fun i => ?_, by rw [up_eq, hz], fun c i h1 h2 => ?_⟩
  · rw [up_ne (by decide), if_neg (by omega)]
  · unfold mz_up
    rw [if_neg h2]
theorem DI_s {σ σ1 : mz_G} {t m k z : Int} (h : DI σ σ1 t m k) (h0 : 0 ≤ t) (h1 : t ≤ m) (k0 : 0 ≤ k) (hz : z = σ1 35 (3 * m + k).toNat) : DI σ (mz_up σ1 35 (3 * t + k).toNat z) t m (k + 1) := by
  obtain ⟨a, b, c⟩ := h
  refine ⟨fun i => ?_, by rw [up_ne (by decide)]; exact b, fun c' i h1 h2 => by rw [up_ne h1]; exact c c' i h1 h2⟩
  by_cases e : i = (3 * t + k).toNat
  · subst e
    rw [up_eq, hz, a, if_neg (by omega), if_pos (by omega)]
    congr 1
    omega
  · rw [up_ni e, a]
    by_cases q : 3 * t ≤ (i : Int) ∧ (i : Int) < 3 * t + k
    · rw [if_pos q, if_pos (by omega)]
    · rw [if_neg q, if_neg (by omega)]
theorem DI_end {σ σ1 : mz_G} {l : List tr3} {t : Int} (hM : MT σ l) (h0 : 0 ≤ t) (h1 : t < (l.length : Int)) (h : DI σ σ1 t ((l.length : Int) - 1) 3) : MT σ1 (drp l t) := by
  obtain ⟨a, b, c⟩ := h
  refine ⟨by rw [b, drp_len]; omega, fun i x hx => ?_⟩
  obtain ⟨hl, h2⟩ := drp_get h0 h1 hx
  rw [a, a, a]
  rcases h2 with ⟨e1, e2⟩ | ⟨e1, e2⟩
  · have g := MT_at hM (t := (l.length : Int) - 1) (by omega) (by omega)
    rw [if_pos (by omega), if_pos (by omega), if_pos (by omega), e2]
    refine ⟨?_, ?_, ?_⟩
    · rw [← g.1]; congr 1; omega
    · rw [← g.2.1]; congr 1; omega
    · rw [← g.2.2]; congr 1; omega
  · rw [if_neg (by omega), if_neg (by omega), if_neg (by omega)]
    exact hM.2 i x e2
/-- two are changed with one another -/
def swp (l : List tr3) (s t : Int) : List tr3 := (l.set s.toNat (tg l t)).set t.toNat (tg l s)
theorem swp_len {l : List tr3} {s t : Int} : (swp l s t).length = l.length := by
  unfold swp
  rw [List.length_set, List.length_set]
theorem swp_perm {l : List tr3} {s t : Int} (h0 : 0 ≤ s ∧ s < (l.length : Int)) (h1 : 0 ≤ t ∧ t < (l.length : Int)) (hne : ¬ s = t) : l.Perm (swp l s t) := by
  have g0 := tg_get h0.1 h0.2
  have g1 := tg_get h1.1 h1.2
  have p1 := set_perm (y := tg l t) g0
  have g2 : (l.set s.toNat (tg l t))[t.toNat]? = some (tg l t) := by
    rw [List.getElem?_set, if_neg (by omega)]
    exact g1
  have p2 := set_perm (y := tg l s) g2
  exact (List.Perm.cons_inv (p2.trans p1)).symm
theorem swp_get {l : List tr3} {s t i : Int} (h0 : 0 ≤ s ∧ s < (l.length : Int)) (h1 : 0 ≤ t ∧ t < (l.length : Int)) (hi : 0 ≤ i ∧ i < (l.length : Int)) : tg (swp l s t) i = if i = t then tg l s else if i = s then tg l t else tg l i := by
  have g := tg_get (l := swp l s t) hi.1 (by rw [swp_len]; exact hi.2)
  unfold swp at g
  rw [List.getElem?_set, List.getElem?_set] at g
  by_cases q : i = t
  · rw [if_pos q]
    rw [if_pos (by omega), if_pos (by rw [List.length_set]; omega)] at g
    exact (Option.some.inj g).symm
  · rw [if_neg q]
    rw [if_neg (by omega)] at g
    by_cases r : i = s
    · rw [if_pos r]
      rw [if_pos (by omega), if_pos (by omega)] at g
      exact (Option.some.inj g).symm
    · rw [if_neg r]
      rw [if_neg (by omega), tg_get hi.1 hi.2] at g
      exact (Option.some.inj g).symm
def WI (σ σ1 : mz_G) (s t k : Int) : Prop := (∀ i : Nat, σ1 35 i = if 3 * s ≤ (i : Int) ∧ (i : Int) < 3 * s + k then σ 35 ((i : Int) - 3 * s + 3 * t).toNat else if 3 * t ≤ (i : Int) ∧ (i : Int) < 3 * t + k then σ 35 ((i : Int) - 3 * t + 3 * s).toNat else σ 35 i) ∧ ∀ c i, ¬ c = 35 → σ1 c i = σ c i
theorem WI_0 {σ : mz_G} {s t : Int} : WI σ σ s t 0 := ⟨fun i => by rw [if_neg (by omega), if_neg (by omega)], fun _ _ _ => rfl⟩
theorem WI_s {σ σ1 : mz_G} {s t k z y : Int} (h : WI σ σ1 s t k) (h0 : 0 ≤ s) (h1 : 0 ≤ t) (hne : ¬ s = t) (k0 : 0 ≤ k) (k3 : k < 3) (hz : z = σ1 35 (3 * t + k).toNat) (hy : y = σ1 35 (3 * s + k).toNat) : WI σ (mz_up (mz_up σ1 35 (3 * s + k).toNat z) 35 (3 * t + k).toNat y) s t (k + 1) := by
  obtain ⟨a, c⟩ := h
  refine ⟨fun i => ?_, fun c' i h1 => by rw [up_ne h1, up_ne h1]; exact c c' i h1⟩
  by_cases e : i = (3 * t + k).toNat
  · subst e
    rw [up_eq, hy, a, if_neg (by omega), if_neg (by omega), if_neg (by omega), if_pos (by omega)]
    congr 1
    omega
  · rw [up_ni e]
    by_cases e2 : i = (3 * s + k).toNat
    · subst e2
      rw [up_eq, hz, a, if_neg (by omega), if_neg (by omega), if_pos (by omega)]
      congr 1
      omega
    · rw [up_ni e2, a]
      by_cases q : 3 * s ≤ (i : Int) ∧ (i : Int) < 3 * s + k
      · rw [if_pos q, if_pos (by omega)]
      · rw [if_neg q, if_neg (show ¬ (3 * s ≤ (i : Int) ∧ (i : Int) < 3 * s + (k + 1)) by omega)]
        by_cases r : 3 * t ≤ (i : Int) ∧ (i : Int) < 3 * t + k
        · rw [if_pos r, if_pos (by omega)]
        · rw [if_neg r, if_neg (by omega)]
theorem WI_end {σ σ1 : mz_G} {l : List tr3} {s t : Int} (hM : MT σ l) (h0 : 0 ≤ s ∧ s < (l.length : Int)) (h1 : 0 ≤ t ∧ t < (l.length : Int)) (hne : ¬ s = t) (h : WI σ σ1 s t 3) : MT σ1 (swp l s t) := by
  obtain ⟨a, c⟩ := h
  refine ⟨by rw [c 30 3 (by decide), swp_len]; exact hM.1, fun i x hx => ?_⟩
  have hl := (List.getElem?_eq_some_iff.mp hx).1
  rw [swp_len] at hl
  have g := tg_get (l := swp l s t) (t := (i : Int)) (by omega) (by rw [swp_len]; omega)
  rw [Int.toNat_natCast, hx] at g
  have e := Option.some.inj g
  rw [swp_get h0 h1 ⟨by omega, by omega⟩] at e
  have gs := MT_at hM h0.1 h0.2
  have gt := MT_at hM h1.1 h1.2
  have gi := MT_at hM (t := (i : Int)) (by omega) (by omega)
  rw [a, a, a]
  by_cases q : (i : Int) = t
  · rw [if_pos q] at e
    rw [if_neg (by omega), if_pos (by omega), if_neg (by omega), if_pos (by omega), if_neg (by omega), if_pos (by omega), e]
    refine ⟨?_, ?_, ?_⟩
    · rw [← gs.1]; congr 1; omega
    · rw [← gs.2.1]; congr 1; omega
    · rw [← gs.2.2]; congr 1; omega
  · rw [if_neg q] at e
    by_cases r : (i : Int) = s
    · rw [if_pos r] at e
      rw [if_pos (by omega), if_pos (by omega), if_pos (by omega), e]
      refine ⟨?_, ?_, ?_⟩
      · rw [← gt.1]; congr 1; omega
      · rw [← gt.2.1]; congr 1; omega
      · rw [← gt.2.2]; congr 1; omega
    · rw [if_neg r] at e
      rw [if_neg (by omega), if_neg (by omega), if_neg (by omega), if_neg (by omega), if_neg (by omega), if_neg (by omega), e]
      refine ⟨?_, ?_, ?_⟩
      · rw [← gi.1]; congr 1
      · rw [← gi.2.1]; congr 1
      · rw [← gi.2.2]; congr 1
/-- the least knot first -/
def n3 (x : tr3) : tr3 := nrm x.1 x.2.1 x.2.2
theorem n3_id {x : tr3} (h : x.1 < x.2.1 ∧ x.1 < x.2.2) : n3 x = x := by
  unfold n3 nrm
  rw [if_neg (by omega), if_neg (by omega)]
theorem n3_le {x : tr3} (h : ¬ (x.2.1 < x.1 ∨ x.2.2 < x.1)) : n3 x = x := by
  unfold n3 nrm
  rw [if_neg (by omega), if_neg (by omega)]
theorem n3_rot {x : tr3} (hd : ¬ x.1 = x.2.1 ∧ ¬ x.2.1 = x.2.2 ∧ ¬ x.2.2 = x.1) : n3 (x.2.1, x.2.2, x.1) = n3 x := by
  unfold n3 nrm
  show (if x.2.2 < x.2.1 ∧ x.2.2 < x.1 then (x.2.2, x.1, x.2.1) else if x.1 < x.2.1 ∧ x.1 < x.2.2 then (x.1, x.2.1, x.2.2) else (x.2.1, x.2.2, x.1)) = if x.2.1 < x.1 ∧ x.2.1 < x.2.2 then (x.2.1, x.2.2, x.1) else if x.2.2 < x.1 ∧ x.2.2 < x.2.1 then (x.2.2, x.1, x.2.1) else (x.1, x.2.1, x.2.2)
  by_cases q1 : x.2.1 < x.1 ∧ x.2.1 < x.2.2
  · rw [if_pos q1, if_neg (by omega), if_neg (by omega)]
  · rw [if_neg q1]
    by_cases q2 : x.2.2 < x.1 ∧ x.2.2 < x.2.1
    · rw [if_pos q2, if_pos (by omega)]
    · rw [if_neg q2, if_neg (by omega), if_pos (by omega)]
/-- how often a triangle is still to be turned round -/
def rk (a b c : Int) : Int := if b < a ∧ b < c then 1 else if c < a ∧ c < b then 2 else 0
theorem rk_s {a b c : Int} (hd : ¬ a = b ∧ ¬ b = c ∧ ¬ c = a) (h : b < a ∨ c < a) : rk b c a = rk a b c - 1 := by
  unfold rk
  by_cases q1 : b < a ∧ b < c
  · rw [if_pos q1, if_neg (by omega), if_neg (by omega)]
    rfl
  · rw [if_neg q1, if_pos (by omega), if_pos (by omega)]
    rfl
theorem rk_bd {a b c : Int} : 0 ≤ rk a b c ∧ rk a b c ≤ 2 := by
  unfold rk
  split
  · decide
  · split <;> decide
def nmT (l : List tr3) (t : Int) : List tr3 := (l.take t.toNat).map n3 ++ l.drop t.toNat
theorem nmT_0 {l : List tr3} : nmT l 0 = l := by simp [nmT]
theorem nmT_all {l : List tr3} {t : Int} (h : t = l.length) : nmT l t = l.map n3 := by
  unfold nmT
  rw [List.take_of_length_le (by omega), List.drop_of_length_le (by omega), List.append_nil]
theorem nmT_len {l : List tr3} {t : Int} : (nmT l t).length = l.length := by
  unfold nmT
  simp
  omega
theorem nmT_get {l : List tr3} {t : Int} (h0 : 0 ≤ t) (h1 : t < l.length) : tg (nmT l t) t = tg l t := by
  have a := tg_get h0 h1
  have b := tg_get (l := nmT l t) h0 (by rw [nmT_len]; exact h1)
  unfold nmT at b
  rw [List.getElem?_append_right (by simp; omega)] at b
  rw [show t.toNat - ((l.take t.toNat).map n3).length = 0 by simp; omega, List.getElem?_drop, Nat.add_zero, a] at b
  unfold nmT
  exact (Option.some.inj b).symm
theorem nmT_s {l : List tr3} {t : Int} (h0 : 0 ≤ t) (h1 : t < l.length) : (nmT l t).set t.toNat (n3 (tg l t)) = nmT l (t + 1) := by
  obtain ⟨a, b⟩ := rmT_cut h0 h1
  unfold nmT
  rw [a, List.map_append, b, List.set_append_right _ _ (by simp; omega), List.append_assoc]
  congr 1
  rw [show t.toNat - ((l.take t.toNat).map n3).length = 0 by simp; omega]
  rfl
theorem nmT_Rt {n : Int} {l : List tr3} {t : Int} (h : Rt n l) : Rt n (nmT l t) := by
  intro x hx
  unfold nmT at hx
  rcases List.mem_append.mp hx with q | q
  · obtain ⟨y, hy, rfl⟩ := List.mem_map.mp q
    have := h y (List.mem_of_mem_take hy)
    exact nrm_rg this.1 this.2.1 this.2.2
  · exact h x (List.mem_of_mem_drop q)
theorem set_Rt {n : Int} {l : List tr3} {t : Nat} {x : tr3} (h : Rt n l) (hx : (0 ≤ x.1 ∧ x.1 < n) ∧ (0 ≤ x.2.1 ∧ x.2.1 < n) ∧ (0 ≤ x.2.2 ∧ x.2.2 < n)) : Rt n (l.set t x) := by
  intro y hy
  rcases List.mem_or_eq_of_mem_set hy with q | q
  · exact h y q
  · rw [q]; exact hx
theorem set_tg {l : List tr3} {t : Int} {x : tr3} (h0 : 0 ≤ t) (h1 : t < (l.length : Int)) : tg (l.set t.toNat x) t = x := by
  have g := tg_get (l := l.set t.toNat x) h0 (by rw [List.length_set]; exact h1)
  rw [List.getElem?_set, if_pos rfl, if_pos (by omega)] at g
  exact (Option.some.inj g).symm
theorem set_self {l : List tr3} {t : Int} (h0 : 0 ≤ t) (h1 : t < (l.length : Int)) : l.set t.toNat (tg l t) = l := by
  apply List.ext_getElem?
  intro i
  rw [List.getElem?_set]
  by_cases q : t.toNat = i
  · rw [if_pos q, if_pos (by omega), ← q, tg_get h0 h1]
  · rw [if_neg q]
/-- a row is written anew -/
theorem MT_row {σ σ' : mz_G} {l : List tr3} {t : Int} {x : tr3} (h : MT σ l) (h0 : 0 ≤ t) (h1 : t < (l.length : Int)) (e3 : σ' 30 3 = σ 30 3) (e : ∀ i : Nat, ¬ (3 * t ≤ (i : Int) ∧ (i : Int) < 3 * t + 3) → σ' 35 i = σ 35 i) (r1 : σ' 35 (3 * t).toNat = x.1) (r2 : σ' 35 (3 * t + 1).toNat = x.2.1) (r3 : σ' 35 (3 * t + 2).toNat = x.2.2) : MT σ' (l.set t.toNat x) := by
  refine ⟨by rw [e3, List.length_set]; exact h.1, fun i y hy => ?_⟩
  rw [List.getElem?_set] at hy
  by_cases q : t.toNat = i
  · rw [if_pos q, if_pos (by omega)] at hy
    rw [← Option.some.inj hy, ← r1, ← r2, ← r3]
    refine ⟨?_, ?_, ?_⟩ <;> (congr 1; omega)
  · rw [if_neg q] at hy
    rw [e _ (by omega), e _ (by omega), e _ (by omega)]
    exact h.2 i y hy
/-- keys and order -/
theorem key_pk {x y : tr3} (hx : (0 ≤ x.1 ∧ x.1 < 31) ∧ (0 ≤ x.2.1 ∧ x.2.1 < 31) ∧ (0 ≤ x.2.2 ∧ x.2.2 < 31)) (hy : (0 ≤ y.1 ∧ y.1 < 31) ∧ (0 ≤ y.2.1 ∧ y.2.1 < 31) ∧ (0 ≤ y.2.2 ∧ y.2.2 < 31)) : (100 * x.1 + x.2.1) * 100 + x.2.2 < (100 * y.1 + y.2.1) * 100 + y.2.2 ↔ pk x < pk y := by
  unfold pk
  omega
theorem pk_inj {x y : tr3} (hx : (0 ≤ x.1 ∧ x.1 < 31) ∧ (0 ≤ x.2.1 ∧ x.2.1 < 31) ∧ (0 ≤ x.2.2 ∧ x.2.2 < 31)) (hy : (0 ≤ y.1 ∧ y.1 < 31) ∧ (0 ≤ y.2.1 ∧ y.2.1 < 31) ∧ (0 ≤ y.2.2 ∧ y.2.2 < 31)) (h : pk x = pk y) : x = y := by
  unfold pk at h
  have e1 : x.1 = y.1 := by omega
  have e2 : x.2.1 = y.2.1 := by omega
  have e3 : x.2.2 = y.2.2 := by omega
  exact Prod.ext e1 (Prod.ext e2 e3)
theorem sd_eq : ∀ {l m : List tr3}, Rt 31 l → Sd l → Sd m → l.Perm m → l = m
  | [], m, _, _, _, hp => (List.Perm.nil_eq hp)
  | a :: r, [], _, _, _, hp => by
    have := hp.length_eq
    simp at this
  | a :: r, b :: s, hR, h1, h2, hp => by
    unfold Sd at h1 h2
    rw [List.pairwise_cons] at h1 h2
    have ma : a ∈ b :: s := hp.mem_iff.mp List.mem_cons_self
    have mb : b ∈ a :: r := hp.mem_iff.mpr List.mem_cons_self
    have le1 : pk b ≤ pk a := by
      rcases List.mem_cons.mp ma with q | q
      · rw [q]; exact Int.le_refl _
      · exact h2.1 a q
    have le2 : pk a ≤ pk b := by
      rcases List.mem_cons.mp mb with q | q
      · rw [q]; exact Int.le_refl _
      · exact h1.1 b q
    have e : a = b := pk_inj (hR a List.mem_cons_self) (hR b mb) (by omega)
    subst e
    rw [sd_eq (fun x hx => hR x (List.mem_cons_of_mem _ hx)) h1.2 h2.2 (List.Perm.cons_inv hp)]
/-- the first t are in order; while the k-th goes down -/
def SO (L : List tr3) (t : Int) : Prop := ∀ i j, 0 ≤ i → i < j → j < t → pk (tg L i) ≤ pk (tg L j)
def SK (L : List tr3) (t k : Int) : Prop := (∀ i j, 0 ≤ i → i < j → j ≤ t → ¬ i = k → ¬ j = k → pk (tg L i) ≤ pk (tg L j)) ∧ ∀ j, k < j → j ≤ t → pk (tg L k) ≤ pk (tg L j)
theorem SO_1 {L : List tr3} : SO L 1 := fun i j a b c => by omega
theorem SK_0 {L : List tr3} {t : Int} (h : SO L t) : SK L t t := ⟨fun i j a b c d e => h i j a b (by omega), fun j a b => by omega⟩
theorem SK_s {L : List tr3} {t k : Int} (h : SK L t k) (h0 : 0 < k) (h1 : k ≤ t) (h2 : t < (L.length : Int)) (hk : pk (tg L k) < pk (tg L (k - 1))) : SK (swp L k (k - 1)) t (k + -1) := by
  obtain ⟨a, b⟩ := h
  have g : ∀ i, 0 ≤ i → i < (L.length : Int) → tg (swp L k (k - 1)) i = if i = k - 1 then tg L k else if i = k then tg L (k - 1) else tg L i := fun i q0 q1 => swp_get ⟨by omega, by omega⟩ ⟨by omega, by omega⟩ ⟨q0, q1⟩
  constructor
  · intro i j q0 q1 q2 q3 q4
    rw [g i q0 (by omega), g j (by omega) (by omega), if_neg (show ¬ i = k - 1 by omega), if_neg (show ¬ j = k - 1 by omega)]
    by_cases e1 : i = k
    · rw [if_pos e1, if_neg (show ¬ j = k by omega)]
      exact a (k - 1) j (by omega) (by omega) q2 (by omega) (by omega)
    · rw [if_neg e1]
      by_cases e2 : j = k
      · rw [if_pos e2]
        exact a i (k - 1) q0 (by omega) (by omega) e1 (by omega)
      · rw [if_neg e2]
        exact a i j q0 q1 q2 e1 e2
  · intro j q1 q2
    rw [g (k + -1) (by omega) (by omega), g j (by omega) (by omega), if_pos (show k + -1 = k - 1 by omega), if_neg (show ¬ j = k - 1 by omega)]
    by_cases e2 : j = k
    · rw [if_pos e2]
      omega
    · rw [if_neg e2]
      exact b j (by omega) q2
theorem SK_end {L : List tr3} {t k : Int} (h : SK L t k) (h0 : 0 ≤ k) (h1 : k ≤ t) (hk : k = 0 ∨ pk (tg L (k - 1)) ≤ pk (tg L k)) : SO L (t + 1) := by
  obtain ⟨a, b⟩ := h
  intro i j q0 q1 q2
  by_cases e1 : i = k
  · rw [e1]
    exact b j (by omega) (by omega)
  · by_cases e2 : j = k
    · rw [e2]
      rcases hk with hk | hk
      · omega
      · by_cases e3 : i = k - 1
        · rw [e3]; exact hk
        · have := a i (k - 1) q0 (by omega) (by omega) e1 (by omega)
          omega
    · exact a i j q0 q1 (by omega) e1 e2
theorem SO_Sd {L : List tr3} (h : SO L (L.length : Int)) : Sd L := by
  unfold Sd
  rw [List.pairwise_iff_getElem]
  intro i j hi hj hij
  have := h (i : Int) (j : Int) (by omega) (by omega) (by omega)
  have g1 := tg_get (l := L) (t := (i : Int)) (by omega) (by omega)
  have g2 := tg_get (l := L) (t := (j : Int)) (by omega) (by omega)
  rw [Int.toNat_natCast, List.getElem?_eq_getElem hi] at g1
  rw [Int.toNat_natCast, List.getElem?_eq_getElem hj] at g2
  rw [Option.some.inj g1, Option.some.inj g2]
  exact this
theorem perm_Rt {n : Int} {l m : List tr3} (h : Rt n l) (hp : m.Perm l) : Rt n m := fun x hx => h x (hp.mem_iff.mp hx)
def SI (v : mz_G) (l : List tr3) (σ σ1 : mz_G) (t : Int) : Prop := ∃ L, MA σ1 v L ∧ L.Perm (l.map n3) ∧ SO L t ∧ Fr σ σ1
def SJ2 (v : mz_G) (l : List tr3) (σ σ1 : mz_G) (t k : Int) : Prop := ∃ L, MA σ1 v L ∧ L.Perm (l.map n3) ∧ SK L t k ∧ Fr σ σ1
def rw3 (σ : mz_G) (t : Int) : tr3 := (σ 35 (3 * t).toNat, σ 35 (3 * t + 1).toNat, σ 35 (3 * t + 2).toNat)
theorem Bs_of {v : mz_G} {l L : List tr3} (h : Bs v l) (hT : Rt (v 0 2) L) (hl : L.length = l.length) : Bs v L := ⟨h.1, hT, by rw [hl]; exact h.2.2⟩
theorem rw3_up {σ : mz_G} {t a b c : Int} (h : 0 ≤ t) : rw3 (mz_up (mz_up (mz_up σ 35 (3 * t).toNat a) 35 (3 * t + 1).toNat b) 35 (3 * t + 2).toNat c) t = (a, b, c) := by
  unfold rw3
  rw [up_ni (show ¬ (3 * t).toNat = (3 * t + 2).toNat by omega), up_ni (show ¬ (3 * t).toNat = (3 * t + 1).toNat by omega), up_eq, up_ni (show ¬ (3 * t + 1).toNat = (3 * t + 2).toNat by omega), up_eq, up_eq]
theorem MA_row3 {σ v : mz_G} {L : List tr3} {t a b c : Int} (h : MA σ v L) (h0 : 0 ≤ t) (h1 : t < (L.length : Int)) : MA (mz_up (mz_up (mz_up σ 35 (3 * t).toNat a) 35 (3 * t + 1).toNat b) 35 (3 * t + 2).toNat c) v (L.set t.toNat (a, b, c)) := by
  have e := rw3_up (σ := σ) (a := a) (b := b) (c := c) h0
  have e1 := congrArg Prod.fst e
  have e2 := congrArg (fun z => z.2.1) e
  have e3 := congrArg (fun z => z.2.2) e
  refine ⟨MP_ext h.1 (fun i _ => by rw [up_ne (by decide), up_ne (by decide), up_ne (by decide)]) (fun c hc i => by rw [up_ne (by omega), up_ne (by omega), up_ne (by omega)]), MT_row h.2 h0 h1 (by rw [up_ne (by decide), up_ne (by decide), up_ne (by decide)]) (fun i hi => by rw [up_ni (by omega), up_ni (by omega), up_ni (by omega)]) e1 e2 e3⟩
theorem MA_row1 {σ v : mz_G} {L : List tr3} {t a : Int} (h : MA σ v L) (h0 : 0 ≤ t) (h1 : t < (L.length : Int)) : MA (mz_up σ 35 (3 * t).toNat a) v (L.set t.toNat (a, (tg L t).2.1, (tg L t).2.2)) := by
  have g := MT_at h.2 h0 h1
  refine ⟨MP_ext h.1 (fun i _ => by rw [up_ne (by decide)]) (fun c hc i => by rw [up_ne (by omega)]), MT_row h.2 h0 h1 (by rw [up_ne (by decide)]) (fun i hi => by rw [up_ni (by omega)]) up_eq ?_ ?_⟩
  · rw [up_ni (by omega)]; exact g.2.1
  · rw [up_ni (by omega)]; exact g.2.2
theorem Fr_3 {σ σ1 : mz_G} {i j k : Nat} {a b c : Int} (h : Fr σ σ1) : Fr σ (mz_up (mz_up (mz_up σ1 35 i a) 35 j b) 35 k c) := fun d e h1 h2 => by rw [up_ne h1, up_ne h1, up_ne h1]; exact h d e h1 h2
/-- what is kept aside, and how it comes back -/
def Kt (σ τ : mz_G) : Prop := (∀ i : Nat, i < 31 → τ 38 i = σ 33 i ∧ τ 39 i = σ 34 i ∧ τ 40 i = σ 31 i ∧ τ 41 i = σ 32 i) ∧ (∀ i : Nat, i < 180 → τ 42 i = σ 35 i) ∧ τ 30 16 = σ 30 2 ∧ τ 30 17 = σ 30 3
def Fq (σ σ' : mz_G) : Prop := ∀ c i, ¬ (38 ≤ c ∧ c ≤ 42) → ¬ (c = 30 ∧ (i = 16 ∨ i = 17)) → σ' c i = σ c i
def K1 (σ σ1 : mz_G) (k : Int) : Prop := (∀ i : Nat, (i : Int) < k → σ1 38 i = σ 33 i ∧ σ1 39 i = σ 34 i ∧ σ1 40 i = σ 31 i ∧ σ1 41 i = σ 32 i) ∧ ∀ c i, ¬ (38 ≤ c ∧ c ≤ 41) → σ1 c i = σ c i
def K2 (σ σ1 : mz_G) (k : Int) : Prop := (∀ i : Nat, (i : Int) < k → σ1 42 i = σ 35 i) ∧ ∀ c i, ¬ c = 42 → σ1 c i = σ c i
theorem K1_0 {σ : mz_G} : K1 σ σ 0 := ⟨fun i h => by omega, fun _ _ _ => rfl⟩
theorem K2_0 {σ : mz_G} : K2 σ σ 0 := ⟨fun i h => by omega, fun _ _ _ => rfl⟩
theorem up4_get {σ : mz_G} {A B C D j : Nat} {a b c d : Int} (h : ¬ A = B ∧ ¬ A = C ∧ ¬ A = D ∧ ¬ B = C ∧ ¬ B = D ∧ ¬ C = D) : (mz_up (mz_up (mz_up (mz_up σ A j a) B j b) C j c) D j d A j = a ∧ mz_up (mz_up (mz_up (mz_up σ A j a) B j b) C j c) D j d B j = b ∧ mz_up (mz_up (mz_up (mz_up σ A j a) B j b) C j c) D j d C j = c ∧ mz_up (mz_up (mz_up (mz_up σ A j a) B j b) C j c) D j d D j = d) ∧ ∀ e i, (¬ i = j ∨ (¬ e = A ∧ ¬ e = B ∧ ¬ e = C ∧ ¬ e = D)) → mz_up (mz_up (mz_up (mz_up σ A j a) B j b) C j c) D j d e i = σ e i := by
  obtain ⟨h1, h2, h3, h4, h5, h6⟩ := h
  refine ⟨⟨?_, ?_, ?_, ?_⟩, fun e i hh => ?_⟩
  · rw [up_ne h3, up_ne h2, up_ne h1, up_eq]
  · rw [up_ne h5, up_ne h4, up_eq]
  · rw [up_ne h6, up_eq]
  · rw [up_eq]
  · unfold mz_up
    rw [if_neg (by omega), if_neg (by omega), if_neg (by omega), if_neg (by omega)]
theorem K1_s {σ σ1 : mz_G} {k a b c d : Int} (h : K1 σ σ1 k) (h0 : 0 ≤ k) (ha : a = σ1 33 k.toNat) (hb : b = σ1 34 k.toNat) (hc : c = σ1 31 k.toNat) (hd : d = σ1 32 k.toNat) : K1 σ (mz_up (mz_up (mz_up (mz_up σ1 38 k.toNat a) 39 k.toNat b) 40 k.toNat c) 41 k.toNat d) (k + 1) := by
  obtain ⟨p, q⟩ := h
  have g := up4_get (σ := σ1) (A := 38) (B := 39) (C := 40) (D := 41) (j := k.toNat) (a := a) (b := b) (c := c) (d := d) (by decide)
  refine ⟨fun i hi => ?_, fun e i he => ?_⟩
  · by_cases z : i = k.toNat
    · rw [z, g.1.1, g.1.2.1, g.1.2.2.1, g.1.2.2.2, ha, hb, hc, hd, q 33 _ (by decide), q 34 _ (by decide), q 31 _ (by decide), q 32 _ (by decide)]
      exact ⟨rfl, rfl, rfl, rfl⟩
    · rw [g.2 _ _ (Or.inl z), g.2 _ _ (Or.inl z), g.2 _ _ (Or.inl z), g.2 _ _ (Or.inl z)]
      exact p i (by omega)
  · rw [g.2 _ _ (Or.inr (by omega))]
    exact q e i he
theorem K2_s {σ σ1 : mz_G} {k a : Int} (h : K2 σ σ1 k) (h0 : 0 ≤ k) (ha : a = σ1 35 k.toNat) : K2 σ (mz_up σ1 42 k.toNat a) (k + 1) := by
  obtain ⟨p, q⟩ := h
  refine ⟨fun i hi => ?_, fun e i he => by rw [up_ne he]; exact q e i he⟩
  by_cases z : i = k.toNat
  · rw [z, up_eq, ha, q 35 _ (by decide)]
  · rw [up_ni z]
    exact p i (by omega)
theorem Kt_of {σ σ1 σ2 : mz_G} {j k a b : Int} (h1 : K1 σ σ1 j) (hj : 31 ≤ j) (h2 : K2 σ1 σ2 k) (hk : 180 ≤ k) (ha : a = σ2 30 2) (hb : b = σ2 30 3) : Kt σ (mz_up (mz_up σ2 30 16 a) 30 17 b) ∧ Fq σ (mz_up (mz_up σ2 30 16 a) 30 17 b) := by
  have g : ∀ c i, ¬ (c = 30 ∧ (i = 16 ∨ i = 17)) → mz_up (mz_up σ2 30 16 a) 30 17 b c i = σ2 c i := fun c i h => by
    unfold mz_up
    rw [if_neg (by omega), if_neg (by omega)]
  refine ⟨⟨fun i hi => ?_, fun i hi => ?_, ?_, ?_⟩, fun c i p q => ?_⟩
  · rw [g _ _ (by omega), g _ _ (by omega), g _ _ (by omega), g _ _ (by omega), h2.2 _ _ (by decide), h2.2 _ _ (by decide), h2.2 _ _ (by decide), h2.2 _ _ (by decide)]
    exact h1.1 i (by omega)
  · rw [g _ _ (by omega), h2.1 i (by omega), h1.2 _ _ (by decide)]
  · rw [up_ni (by decide), up_eq, ha, h2.2 _ _ (by decide), h1.2 _ _ (by decide)]
  · rw [up_eq, hb, h2.2 _ _ (by decide), h1.2 _ _ (by decide)]
  · rw [g _ _ q, h2.2 _ _ (by omega), h1.2 _ _ (by omega)]
def B1 (σ σ1 : mz_G) (k : Int) : Prop := (∀ i : Nat, (i : Int) < k → σ1 33 i = σ 38 i ∧ σ1 34 i = σ 39 i ∧ σ1 31 i = σ 40 i ∧ σ1 32 i = σ 41 i) ∧ ∀ c i, ¬ (31 ≤ c ∧ c ≤ 34) → σ1 c i = σ c i
def B2 (σ σ1 : mz_G) (k : Int) : Prop := (∀ i : Nat, (i : Int) < k → σ1 35 i = σ 42 i) ∧ ∀ c i, ¬ c = 35 → σ1 c i = σ c i
theorem B1_0 {σ : mz_G} : B1 σ σ 0 := ⟨fun i h => by omega, fun _ _ _ => rfl⟩
theorem B2_0 {σ : mz_G} : B2 σ σ 0 := ⟨fun i h => by omega, fun _ _ _ => rfl⟩
theorem B1_s {σ σ1 : mz_G} {k a b c d : Int} (h : B1 σ σ1 k) (h0 : 0 ≤ k) (ha : a = σ1 38 k.toNat) (hb : b = σ1 39 k.toNat) (hc : c = σ1 40 k.toNat) (hd : d = σ1 41 k.toNat) : B1 σ (mz_up (mz_up (mz_up (mz_up σ1 33 k.toNat a) 34 k.toNat b) 31 k.toNat c) 32 k.toNat d) (k + 1) := by
  obtain ⟨p, q⟩ := h
  have g := up4_get (σ := σ1) (A := 33) (B := 34) (C := 31) (D := 32) (j := k.toNat) (a := a) (b := b) (c := c) (d := d) (by decide)
  refine ⟨fun i hi => ?_, fun e i he => ?_⟩
  · by_cases z : i = k.toNat
    · rw [z, g.1.1, g.1.2.1, g.1.2.2.1, g.1.2.2.2, ha, hb, hc, hd, q 38 _ (by decide), q 39 _ (by decide), q 40 _ (by decide), q 41 _ (by decide)]
      exact ⟨rfl, rfl, rfl, rfl⟩
    · rw [g.2 _ _ (Or.inl z), g.2 _ _ (Or.inl z), g.2 _ _ (Or.inl z), g.2 _ _ (Or.inl z)]
      exact p i (by omega)
  · rw [g.2 _ _ (Or.inr (by omega))]
    exact q e i he
theorem B2_s {σ σ1 : mz_G} {k a : Int} (h : B2 σ σ1 k) (h0 : 0 ≤ k) (ha : a = σ1 42 k.toNat) : B2 σ (mz_up σ1 35 k.toNat a) (k + 1) := by
  obtain ⟨p, q⟩ := h
  refine ⟨fun i hi => ?_, fun e i he => by rw [up_ne he]; exact q e i he⟩
  by_cases z : i = k.toNat
  · rw [z, up_eq, ha, q 42 _ (by decide)]
  · rw [up_ni z]
    exact p i (by omega)
theorem MA_back {σ0 σ σ1 σ2 v : mz_G} {l : List tr3} {j k a b : Int} (hM : MA σ0 v l) (hB : Bs v l) (hK : Kt σ0 σ) (e0 : σ 30 0 = σ0 30 0 ∧ σ 30 1 = σ0 30 1) (e6 : ∀ i, σ 36 i = σ0 36 i) (h1 : B1 σ σ1 j) (hj : 31 ≤ j) (h2 : B2 σ1 σ2 k) (hk : 180 ≤ k) (ha : a = σ2 30 16) (hb : b = σ2 30 17) : MA (mz_up (mz_up σ2 30 2 a) 30 3 b) v l := by
  have g : ∀ c i, ¬ (c = 30 ∧ (i = 2 ∨ i = 3)) → mz_up (mz_up σ2 30 2 a) 30 3 b c i = σ2 c i := fun c i h => by
    unfold mz_up
    rw [if_neg (by omega), if_neg (by omega)]
  have k16 : σ2 30 16 = σ0 30 2 := by rw [h2.2 _ _ (by decide), h1.2 _ _ (by decide)]; exact hK.2.2.1
  have k17 : σ2 30 17 = σ0 30 3 := by rw [h2.2 _ _ (by decide), h1.2 _ _ (by decide)]; exact hK.2.2.2
  obtain ⟨⟨⟨m1, m2, m3⟩, m4, m5⟩, m6, m7⟩ := hM
  have hn := hB.1.2.2.1
  have hl := hB.2.2
  refine ⟨⟨⟨?_, ?_, ?_⟩, fun i hi => ?_, fun d hd => ?_⟩, ?_, fun t x hx => ?_⟩
  · rw [g _ _ (by omega), h2.2 _ _ (by decide), h1.2 _ _ (by decide), e0.1, m1]
  · rw [g _ _ (by omega), h2.2 _ _ (by decide), h1.2 _ _ (by decide), e0.2, m2]
  · rw [up_ni (by decide), up_eq, ha, k16, m3]
  · have q := h1.1 i (by omega)
    have r := hK.1 i (by omega)
    rw [g _ _ (by omega), g _ _ (by omega), g _ _ (by omega), g _ _ (by omega), h2.2 _ _ (by decide), h2.2 _ _ (by decide), h2.2 _ _ (by decide), h2.2 _ _ (by decide), q.1, q.2.1, q.2.2.1, q.2.2.2, r.1, r.2.1, r.2.2.1, r.2.2.2]
    exact m4 i hi
  · rw [g _ _ (by omega), h2.2 _ _ (by decide), h1.2 _ _ (by decide), e6]
    exact m5 d hd
  · rw [up_eq, hb, k17, m6]
  · have hlt := (List.getElem?_eq_some_iff.mp hx).1
    have q : ∀ i : Nat, i < 180 → mz_up (mz_up σ2 30 2 a) 30 3 b 35 i = σ0 35 i := fun i hi => by
      rw [g _ _ (by omega), h2.1 i (by omega), h1.2 _ _ (by decide)]
      exact hK.2.1 i hi
    rw [q _ (by omega), q _ (by omega), q _ (by omega)]
    exact m7 t x hx
/-- a new picture in the reference -/
theorem crn_get {σ : mz_G} {k x y : Int} : (crn σ k x y 31 k.toNat = x ∧ crn σ k x y 32 k.toNat = y ∧ crn σ k x y 33 k.toNat = x ∧ crn σ k x y 34 k.toNat = y) ∧ ∀ e i, (¬ i = k.toNat ∨ (¬ e = 31 ∧ ¬ e = 32 ∧ ¬ e = 33 ∧ ¬ e = 34)) → crn σ k x y e i = σ e i := up4_get (by decide)
theorem MA_beg {σ σ1 σa σb σc σd τ : mz_G} {w h w1 w2 h2 h3 k : Int} (hw : 2 ≤ w ∧ w ≤ 20) (hh : 2 ≤ h ∧ h ≤ 20) (e0 : σ 30 0 = w) (e1 : σ 30 1 = h) (hk : k = 400) (f1 : σ1 = fil σ 36 k.toNat 0) (fa : σa = crn (mz_up σ1 30 2 4) 0 0 0) (fb : σb = crn σa 1 w1 0) (fc : σc = crn σb 2 w2 h2) (fd : σd = crn σc 3 0 h3) (x1 : w1 = w - 1) (x2 : w2 = w - 1) (y2 : h2 = h - 1) (y3 : h3 = h - 1) (hf : Fr (mz_up σd 30 3 0) τ) (hT : MT τ [(0, 1, 2), (0, 2, 3)]) : MA τ (vbg w h (fun _ => 0)) [(0, 1, 2), (0, 2, 3)] ∧ Fm σ τ := by
  have ga := crn_get (σ := mz_up σ1 30 2 4) (k := 0) (x := 0) (y := 0)
  have gb := crn_get (σ := σa) (k := 1) (x := w1) (y := 0)
  have gc := crn_get (σ := σb) (k := 2) (x := w2) (y := h2)
  have gd := crn_get (σ := σc) (k := 3) (x := 0) (y := h3)
  rw [← fa] at ga
  rw [← fb] at gb
  rw [← fc] at gc
  rw [← fd] at gd
  have t0 : ((0 : Int)).toNat = 0 := rfl
  have t1 : ((1 : Int)).toNat = 1 := rfl
  have t2 : ((2 : Int)).toNat = 2 := rfl
  have t3 : ((3 : Int)).toNat = 3 := rfl
  rw [t0] at ga
  rw [t1] at gb
  rw [t2] at gc
  rw [t3] at gd
  have gt : ∀ c i, ¬ c = 35 → ¬ (c = 30 ∧ i = 3) → τ c i = σd c i := fun c i p q => by
    rw [hf c i p q]
    unfold mz_up
    rw [if_neg q]
  have g1 : ∀ c i, ¬ c = 35 → ¬ (c = 30 ∧ i = 3) → ¬ (c = 30 ∧ i = 2) → ¬ c = 31 → ¬ c = 32 → ¬ c = 33 → ¬ c = 34 → τ c i = σ1 c i := fun c i p q r a b d e => by
    rw [gt c i p q, gd.2 c i (Or.inr ⟨a, b, d, e⟩), gc.2 c i (Or.inr ⟨a, b, d, e⟩), gb.2 c i (Or.inr ⟨a, b, d, e⟩), ga.2 c i (Or.inr ⟨a, b, d, e⟩)]
    unfold mz_up
    rw [if_neg r]
  refine ⟨⟨⟨⟨?_, ?_, ?_⟩, fun i hi => ?_, fun d hd => ?_⟩, hT⟩, fun c i hc => ?_⟩
  · rw [g1 30 0 (by decide) (by decide) (by decide) (by decide) (by decide) (by decide) (by decide), f1]
    exact e0
  · rw [g1 30 1 (by decide) (by decide) (by decide) (by decide) (by decide) (by decide) (by decide), f1]
    exact e1
  · rw [gt 30 2 (by decide) (by decide), gd.2 30 2 (Or.inr (by decide)), gc.2 30 2 (Or.inr (by decide)), gb.2 30 2 (Or.inr (by decide)), ga.2 30 2 (Or.inr (by decide)), up_eq]
    rfl
  · have hi : (i : Int) < 4 := hi
    rw [gt 31 i (by decide) (by omega), gt 32 i (by decide) (by omega), gt 33 i (by decide) (by omega), gt 34 i (by decide) (by omega)]
    rcases (show i = 0 ∨ i = 1 ∨ i = 2 ∨ i = 3 by omega) with rfl | rfl | rfl | rfl
    · rw [gd.2 _ _ (Or.inl (by decide)), gd.2 _ _ (Or.inl (by decide)), gd.2 _ _ (Or.inl (by decide)), gd.2 _ _ (Or.inl (by decide)), gc.2 _ _ (Or.inl (by decide)), gc.2 _ _ (Or.inl (by decide)), gc.2 _ _ (Or.inl (by decide)), gc.2 _ _ (Or.inl (by decide)), gb.2 _ _ (Or.inl (by decide)), gb.2 _ _ (Or.inl (by decide)), gb.2 _ _ (Or.inl (by decide)), gb.2 _ _ (Or.inl (by decide)), ga.1.1, ga.1.2.1, ga.1.2.2.1, ga.1.2.2.2]
      exact ⟨rfl, rfl, rfl, rfl⟩
    · rw [gd.2 _ _ (Or.inl (by decide)), gd.2 _ _ (Or.inl (by decide)), gd.2 _ _ (Or.inl (by decide)), gd.2 _ _ (Or.inl (by decide)), gc.2 _ _ (Or.inl (by decide)), gc.2 _ _ (Or.inl (by decide)), gc.2 _ _ (Or.inl (by decide)), gc.2 _ _ (Or.inl (by decide)), gb.1.1, gb.1.2.1, gb.1.2.2.1, gb.1.2.2.2, x1]
      exact ⟨rfl, rfl, rfl, rfl⟩
    · rw [gd.2 _ _ (Or.inl (by decide)), gd.2 _ _ (Or.inl (by decide)), gd.2 _ _ (Or.inl (by decide)), gd.2 _ _ (Or.inl (by decide)), gc.1.1, gc.1.2.1, gc.1.2.2.1, gc.1.2.2.2, x2, y2]
      exact ⟨rfl, rfl, rfl, rfl⟩
    · rw [gd.1.1, gd.1.2.1, gd.1.2.2.1, gd.1.2.2.2, y3]
      exact ⟨rfl, rfl, rfl, rfl⟩
  · have hd : (d : Int) < w * h := hd
    have hm : w * h ≤ 20 * 20 := Int.mul_le_mul hw.2 hh.2 (by omega) (by omega)
    rw [g1 36 d (by decide) (by omega) (by omega) (by decide) (by decide) (by decide) (by decide), f1, hk]
    show (if 36 = 36 ∧ d < (400 : Int).toNat then 0 else σ 36 d) = 0
    rw [if_pos ⟨rfl, by show d < 400; omega⟩]
  · rw [g1 c i (by omega) (by omega) (by omega) (by omega) (by omega) (by omega) (by omega), f1]
    unfold fil
    rw [if_neg (by omega)]
