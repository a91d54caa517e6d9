/-! our machine's steps are the real machine's -/
def mz_cv (ad : Nat → Nat) : mz_V → Value
  | .inl z => .int (mz_I z)
  | .inr c => .ref (ad c)
theorem mz_cv_cat (ad : Nat → Nat) (v : mz_V) : (mz_cv ad v).category = 1 := by cases v <;> rfl
def mz_LH (ad : Nat → Nat) (ls : Array Slot) (L : mz_L) : Prop := ls.size = L.length ∧ lv_wf ls ∧ ∀ (i : Nat) (v : mz_V), L[i]? = some (some v) → ls[i]? = some (.val (mz_cv ad v))
def mz_lvf (ad : Nat → Nat) (L : mz_L) (i : Nat) : Option (Nat × Value) := match L[i]? with
  | some (some v) => some (i, mz_cv ad v)
  | _ => none
def mz_lv (ad : Nat → Nat) (L : mz_L) : List (Nat × Value) := (List.range L.length).filterMap (mz_lvf ad L)
theorem mz_lv_mem {ad : Nat → Nat} {L : mz_L} {i : Nat} {v : mz_V} (h : L[i]? = some (some v)) : (i, mz_cv ad v) ∈ mz_lv ad L := by
  refine List.mem_filterMap.mpr ⟨i, List.mem_range.mpr (List.getElem?_eq_some_iff.mp h).1, ?_⟩
  simp [mz_lvf, h]
theorem mz_lv_has {ad : Nat → Nat} {ls : Array Slot} {L : mz_L} (h : mz_LH ad ls L) : lv_has ls L.length (mz_lv ad L) := by
  refine ⟨h.1, h.2.1, fun q hq => ?_⟩
  obtain ⟨i, -, hi⟩ := List.mem_filterMap.mp hq
  unfold mz_lvf at hi
  split at hi
  next v hv => cases hi; exact h.2.2 i v hv
  next => cases hi
theorem mz_LH_set {ad : Nat → Nat} {ls : Array Slot} {L : mz_L} {i : Nat} {v : mz_V} (hi : i < L.length) (h : lv_has ls L.length ((i, mz_cv ad v) :: (mz_lv ad L).filter (fun q => !(q.1 == i) && !(q.1 + 1 == i && q.2.category == 2)))) : mz_LH ad ls (L.set i (some v)) := by
  refine ⟨by rw [List.length_set]; exact h.1, h.2.1, fun j w hj => ?_⟩
  by_cases hji : j = i
  · subst hji
    rw [List.getElem?_set_self hi] at hj
    cases hj
    exact h.2.2 _ List.mem_cons_self
  · rw [List.getElem?_set_ne (Ne.symm hji)] at hj
    refine h.2.2 _ (List.mem_cons_of_mem _ (List.mem_filter.mpr ⟨mz_lv_mem hj, ?_⟩))
    simp [hji, mz_cv_cat]
theorem mz_lk {S : mz_S} {c : Nat} {x : mz_C} (h : S.lookup c = some x) : ∃ q0 : Nat, S[q0]? = some (c, x) := by
  induction S with
  | nil => simp [List.lookup] at h
  | cons a t ih =>
    obtain ⟨a1, a2⟩ := a
    rw [List.lookup_cons] at h
    split at h
    next hc =>
      cases h
      refine ⟨0, ?_⟩
      have : c = a1 := by simpa using hc
      simp [this]
    next =>
      obtain ⟨q0, hq⟩ := ih h
      exact ⟨q0 + 1, by simpa using hq⟩
def mz_fc (ad : Nat → Nat) (σ : mz_G) (c : Nat) (fs : List Nat) : List Value := fs.mapIdx (fun k f => mz_cv ad (mz_fv σ c k f))
def mz_ce (ad : Nat → Nat) (cA : ClassId) (σ : mz_G) (q : Nat × mz_C) : Nat × va_E := (ad q.1, match q.2 with
  | .inl o => .inr (o.1, mz_fc ad σ q.1 o.2)
  | .inr n => .inl (cA, n, .inl (fun j => mz_I (σ q.1 j))))
def mz_ws (ad : Nat → Nat) (cA : ClassId) (S : mz_S) (σ : mz_G) : va_W := S.map (mz_ce ad cA σ)
theorem mz_ws_at {ad : Nat → Nat} {cA : ClassId} {S : mz_S} {σ : mz_G} {q0 : Nat} {r : Nat × mz_C} (h : S[q0]? = some r) : (mz_ws ad cA S σ)[q0]? = some (mz_ce ad cA σ r) := by
  simp [mz_ws, h]
def mz_nd (S : mz_S) : Prop := ∀ (i j : Nat) (a b : Nat × mz_C), S[i]? = some a → S[j]? = some b → a.1 = b.1 → i = j
theorem mz_nd_of {S : mz_S} (h : mz_sok S = true) : mz_nd S := by
  intro i j a b hi hj e
  simp only [mz_sok, Bool.and_eq_true] at h
  exact va_nd_inj _ h.1.2 i j a.1 (by simp [hi]) (by simp [hj, e])
theorem mz_ce_ne {ad : Nat → Nat} {cA : ClassId} {σ : mz_G} {c k : Nat} {v : Int} {r : Nat × mz_C} (h : ¬ r.1 = c) : mz_ce ad cA (mz_up σ c k v) r = mz_ce ad cA σ r := by
  obtain ⟨a, x⟩ := r
  have ha : ¬ a = c := h
  cases x with
  | inl o =>
    have : mz_fv (mz_up σ c k v) a = mz_fv σ a := by
      funext k' f
      match f with
      | 0 => simp [mz_fv, mz_up, ha]
      | 1 => simp [mz_fv, mz_up, ha]
      | n + 2 => rfl
    simp only [mz_ce, mz_fc, this]
  | inr n =>
    have : (fun j => mz_I (mz_up σ c k v a j)) = (fun j => mz_I (σ a j)) := by
      funext j
      simp [mz_up, ha]
    simp only [mz_ce, this]
theorem mz_ws_up {ad : Nat → Nat} {cA : ClassId} {S : mz_S} {σ : mz_G} {q0 c k : Nat} {v : Int} {x : mz_C} (hnd : mz_nd S) (hq : S[q0]? = some (c, x)) : (mz_ws ad cA S σ).set q0 (mz_ce ad cA (mz_up σ c k v) (c, x)) = mz_ws ad cA S (mz_up σ c k v) := by
  apply List.ext_getElem?
  intro j
  by_cases hj : j = q0
  · subst hj
    rw [mz_ws_at hq, List.getElem?_set_self]
    rw [mz_ws, List.length_map]
    exact (List.getElem?_eq_some_iff.mp hq).1
  · rw [List.getElem?_set_ne (Ne.symm hj)]
    simp only [mz_ws, List.getElem?_map]
    cases hr : S[j]? with
    | none => rfl
    | some r =>
      simp only [Option.map_some]
      rw [mz_ce_ne (fun e => hj (hnd j q0 r (c, x) hr hq e))]
theorem mz_ws_any {ad : Nat → Nat} {cA : ClassId} {S : mz_S} {σ σ' : mz_G} {i : Nat} {a : Nat × va_E} (h : (mz_ws ad cA S σ')[i]? = some a) : ∃ b, (mz_ws ad cA S σ)[i]? = some b ∧ b.1 = a.1 := by
  simp only [mz_ws, List.getElem?_map] at h ⊢
  cases hr : S[i]? with
  | none => rw [hr] at h; cases h
  | some r => rw [hr] at h; cases h; exact ⟨_, rfl, rfl⟩
theorem mz_D_any {ad : Nat → Nat} {cA : ClassId} {S : mz_S} {σ : mz_G} (σ' : mz_G) {A : Nat → Prop} (h : va_D A (mz_ws ad cA S σ)) : va_D A (mz_ws ad cA S σ') := by
  refine ⟨fun i j x y hi hj e => ?_, fun k q hk => ?_⟩
  · obtain ⟨x', h1, h2⟩ := mz_ws_any (σ := σ) hi
    obtain ⟨y', h3, h4⟩ := mz_ws_any (σ := σ) hj
    exact h.1 i j x' y' h1 h3 (h2.trans (e.trans h4.symm))
  · obtain ⟨x', h1, h2⟩ := mz_ws_any (σ := σ) hk
    rw [← h2]
    exact h.2 k x' h1
theorem mz_fc_at {ad : Nat → Nat} {σ : mz_G} {c k f : Nat} {fs : List Nat} (h : fs[k]? = some f) : (mz_fc ad σ c fs)[k]? = some (mz_cv ad (mz_fv σ c k f)) := by
  simp [mz_fc, h]
theorem mz_fc_up {ad : Nat → Nat} {σ : mz_G} {c k f : Nat} {v : Int} {fs : List Nat} (h : fs[k]? = some f) (hf : f = 0 ∨ f = 1) : (mz_fc ad σ c fs).set k (.int (mz_I v)) = mz_fc ad (mz_up σ c k v) c fs := by
  apply List.ext_getElem?
  intro j
  by_cases hj : j = k
  · subst hj
    rw [List.getElem?_set_self (by simp only [mz_fc, List.length_mapIdx]; exact (List.getElem?_eq_some_iff.mp h).1), mz_fc_at h]
    rcases hf with rfl | rfl <;> simp [mz_fv, mz_up, mz_cv]
  · rw [List.getElem?_set_ne (Ne.symm hj)]
    simp only [mz_fc, List.getElem?_mapIdx]
    cases hr : fs[j]? with
    | none => rfl
    | some r =>
      simp only [Option.map_some]
      match r with
      | 0 => simp [mz_fv, mz_up, hj]
      | 1 => simp [mz_fv, mz_up, hj]
      | n + 2 => rfl
section MZ
variable {p : Program} {l : Launch} {e : Env} {R : Room} {s : State} {m : MethodId} {args : Array Value} {below : List Frame} {meth : Method} {c : Code} {cells slots : Nat} {Q : State → Prop} {cc : ByteArray} {D : va_G} {ad : Nat → Nat} {cA : ClassId} {A : Nat → Prop} {S : mz_S} {X : mz_X} {n : Nat} {fr fr' : mz_F}
def mz_Wd (D : va_G) (ad : Nat → Nat) (cA : ClassId) (S : mz_S) (A : Nat → Prop) (s : State) (H : Heap) (locs : List Loc) (σ : mz_G) : Prop := va_P D mz_cl (mz_ws ad cA S σ) H ∧ va_D A (mz_ws ad cA S σ) ∧ va_S A s.heap H locs
/-- a frame of ours from which the real machine comes to Q -/
def mz_Gd (p : Program) (l : Launch) (e : Env) (R : Room) (s : State) (m : MethodId) (args : Array Value) (below : List Frame) (meth : Method) (c : Code) (cells slots : Nat) (Q : State → Prop) (D : va_G) (ad : Nat → Nat) (cA : ClassId) (S : mz_S) (A : Nat → Prop) (n : Nat) (fr : mz_F) : Prop :=
  ∀ (H : Heap) (locs : List Loc) (ls : Array Slot), mz_Wd D ad cA S A s H locs fr.2.2.2 → mz_LH ad ls fr.2.1 → fr.2.1.length = n → W p l e R s m args below meth c H locs cells slots Q (F0 m fr.1 ls (fr.2.2.1.map (mz_cv ad)))
theorem mz_ldi_ok {d i : Nat} (h : mz_ldi d i fr = some fr') (row : ∀ {H : Heap} {locs : List Loc} {ls : Array Slot} {x : Int32} {rest : List Value}, ls[i]? = some (.val (.int x)) → W p l e R s m args below meth c H locs cells slots Q (F0 m (fr.1 + d) ls (.int x :: rest)) → W p l e R s m args below meth c H locs cells slots Q (F0 m fr.1 ls rest))
    (k : mz_Gd p l e R s m args below meth c cells slots Q D ad cA S A n fr') : mz_Gd p l e R s m args below meth c cells slots Q D ad cA S A n fr := by
  unfold mz_ldi at h
  split at h
  next z hz =>
    cases h
    intro H locs ls hW hL hn
    exact row (hL.2.2 i _ hz) (k H locs ls hW hL hn)
  next => cases h
theorem mz_lda_ok {d i : Nat} (h : mz_lda d i fr = some fr') (row : ∀ {H : Heap} {locs : List Loc} {ls : Array Slot} {x : Nat} {rest : List Value}, ls[i]? = some (.val (.ref x)) → W p l e R s m args below meth c H locs cells slots Q (F0 m (fr.1 + d) ls (.ref x :: rest)) → W p l e R s m args below meth c H locs cells slots Q (F0 m fr.1 ls rest))
    (k : mz_Gd p l e R s m args below meth c cells slots Q D ad cA S A n fr') : mz_Gd p l e R s m args below meth c cells slots Q D ad cA S A n fr := by
  unfold mz_lda at h
  split at h
  next z hz =>
    cases h
    intro H locs ls hW hL hn
    exact row (hL.2.2 i _ hz) (k H locs ls hW hL hn)
  next => cases h
theorem mz_sti_ok {d i : Nat} (h : mz_sti d i fr = some fr') (row : ∀ {H : Heap} {locs : List Loc} {ls : Array Slot} {x : Int32} {rest : List Value} {nL : Nat} {lv : List (Nat × Value)}, lv_has ls nL lv → i < nL → (∀ ls' : Array Slot, lv_has ls' nL ((i, Value.int x) :: lv.filter (fun q => !(q.1 == i) && !(q.1 + 1 == i && q.2.category == 2))) → W p l e R s m args below meth c H locs cells slots Q (F0 m (fr.1 + d) ls' rest)) → W p l e R s m args below meth c H locs cells slots Q (F0 m fr.1 ls (.int x :: rest)))
    (k : mz_Gd p l e R s m args below meth c cells slots Q D ad cA S A n fr') : mz_Gd p l e R s m args below meth c cells slots Q D ad cA S A n fr := by
  unfold mz_sti at h
  split at h
  next z st hst =>
    split at h
    next hi =>
      cases h
      intro H locs ls hW hL hn
      rw [hst]
      exact row (mz_lv_has hL) hi (fun ls' h' => k H locs ls' hW (mz_LH_set (v := .inl z) hi h') (by rw [← hn]; exact List.length_set))
    next => cases h
  next => cases h
theorem mz_inc_ok {i : Nat} {z : Int} (hx : p.tables.exec = Jvm.exec) (hb : c.code = cc) (hd : decode cc fr.1 = .ok (.iinc i z, 3)) (h : mz_inc i z fr = some fr')
    (k : mz_Gd p l e R s m args below meth c cells slots Q D ad cA S A n fr') : mz_Gd p l e R s m args below meth c cells slots Q D ad cA S A n fr := by
  unfold mz_inc at h
  split at h
  next w hw =>
    cases h
    intro H locs ls hW hL hn
    have hi := (List.getElem?_eq_some_iff.mp hw).1
    obtain ⟨q, hq⟩ := List.getElem?_of_mem (mz_lv_mem (ad := ad) hw)
    exact lv_iinc hx hb hd (mz_lv_has hL) (k := q) hq (v := mz_I (w + z)) (mz_I_add w z) hi rfl (fun ls' h' => k H locs ls' hW (mz_LH_set (v := .inl (w + z)) hi h') (by rw [← hn]; exact List.length_set))
  next => cases h
theorem mz_ps_ok {d : Nat} {z : Int} (h : mz_ps d z fr = some fr') (row : ∀ {H : Heap} {locs : List Loc} {ls : Array Slot} {rest : List Value}, W p l e R s m args below meth c H locs cells slots Q (F0 m (fr.1 + d) ls (.int (mz_I z) :: rest)) → W p l e R s m args below meth c H locs cells slots Q (F0 m fr.1 ls rest))
    (k : mz_Gd p l e R s m args below meth c cells slots Q D ad cA S A n fr') : mz_Gd p l e R s m args below meth c cells slots Q D ad cA S A n fr := by
  cases h
  intro H locs ls hW hL hn
  exact row (k H locs ls hW hL hn)
theorem mz_bi_ok {f : Int → Int → Option Int} (h : mz_bi f fr = some fr') (row : ∀ (x y z : Int), f x y = some z → ∀ (H : Heap) (locs : List Loc) (ls : Array Slot) (rest : List Value), W p l e R s m args below meth c H locs cells slots Q (F0 m (fr.1 + 1) ls (.int (mz_I z) :: rest)) → W p l e R s m args below meth c H locs cells slots Q (F0 m fr.1 ls (.int (mz_I y) :: .int (mz_I x) :: rest)))
    (k : mz_Gd p l e R s m args below meth c cells slots Q D ad cA S A n fr') : mz_Gd p l e R s m args below meth c cells slots Q D ad cA S A n fr := by
  unfold mz_bi at h
  split at h
  next y x st hst =>
    split at h
    next z hz =>
      cases h
      intro H locs ls hW hL hn
      rw [hst]
      exact row _ _ _ hz _ _ _ _ (k H locs ls hW hL hn)
    next => cases h
  next => cases h
theorem mz_ng_ok (hx : p.tables.exec = Jvm.exec) (hb : c.code = cc) (hd : decode cc fr.1 = .ok (.ineg, 1)) (h : mz_ng fr = some fr')
    (k : mz_Gd p l e R s m args below meth c cells slots Q D ad cA S A n fr') : mz_Gd p l e R s m args below meth c cells slots Q D ad cA S A n fr := by
  unfold mz_ng at h
  split at h
  next x st hst =>
    cases h
    intro H locs ls hW hL hn
    rw [hst]
    have k2 := k H locs ls hW hL hn
    exact lv_ineg hx hb hd (by rw [mz_I_neg]; exact k2)
  next => cases h
theorem mz_dp_ok (hx : p.tables.exec = Jvm.exec) (hb : c.code = cc) (hd : decode cc fr.1 = .ok (.dup, 1)) (h : mz_dp fr = some fr')
    (k : mz_Gd p l e R s m args below meth c cells slots Q D ad cA S A n fr') : mz_Gd p l e R s m args below meth c cells slots Q D ad cA S A n fr := by
  unfold mz_dp at h
  split at h
  next x st hst =>
    cases h
    intro H locs ls hW hL hn
    rw [hst]
    exact lv_dup hx hb hd (mz_cv_cat ad x) (k H locs ls hW hL hn)
  next => cases h
theorem mz_d2_ok (hx : p.tables.exec = Jvm.exec) (hb : c.code = cc) (hd : decode cc fr.1 = .ok (.dup2, 1)) (h : mz_d2 fr = some fr')
    (k : mz_Gd p l e R s m args below meth c cells slots Q D ad cA S A n fr') : mz_Gd p l e R s m args below meth c cells slots Q D ad cA S A n fr := by
  unfold mz_d2 at h
  split at h
  next x y st hst =>
    cases h
    intro H locs ls hW hL hn
    rw [hst]
    exact lv_dup2_11 hx hb hd (mz_cv_cat ad x) (mz_cv_cat ad y) (k H locs ls hW hL hn)
  next => cases h
theorem mz_to_ok {o : Int} (h : mz_to o fr = some fr') (row : ∀ {H : Heap} {locs : List Loc} {ls : Array Slot} {rest : List Value} {tgt : Nat}, (fr.1 : Int) + o = (tgt : Int) → W p l e R s m args below meth c H locs cells slots Q (F0 m tgt ls rest) → W p l e R s m args below meth c H locs cells slots Q (F0 m fr.1 ls rest))
    (k : mz_Gd p l e R s m args below meth c cells slots Q D ad cA S A n fr') : mz_Gd p l e R s m args below meth c cells slots Q D ad cA S A n fr := by
  unfold mz_to at h
  split at h
  next hn0 =>
    cases h
    intro H locs ls hW hL hn
    exact row (Int.toNat_of_nonneg hn0).symm (k H locs ls hW hL hn)
  next => cases h
theorem mz_if_ok {j : Jvm.ClassFile.Cond} {o : Int} (hx : p.tables.exec = Jvm.exec) (hb : c.code = cc) (hd : decode cc fr.1 = .ok (.ifCond j o, 3)) (h : mz_if j o fr = some fr')
    (k : mz_Gd p l e R s m args below meth c cells slots Q D ad cA S A n fr') : mz_Gd p l e R s m args below meth c cells slots Q D ad cA S A n fr := by
  unfold mz_if at h
  split at h
  next x st hst =>
    split at h
    next hr =>
      unfold mz_br at h
      split at h
      next hn0 =>
        cases h
        intro H locs ls hW hL hn
        rw [hst]
        have ht : (fr.1 : Int) + o = ((((fr.1 : Int) + o).toNat : Nat) : Int) := (Int.toNat_of_nonneg hn0).symm
        have key : ∀ b : Bool, mz_cmp j x 0 = b → W p l e R s m args below meth c H locs cells slots Q (F0 m (mz_bt b ((fr.1 : Int) + o).toNat (fr.1 + 3)) ls (st.map (mz_cv ad))) := fun b hb => by
          subst hb
          exact k H locs ls hW hL hn
        have e0 : mz_I x = 0 ↔ x = 0 := mz_I_eq hr mz_R0
        have e1 : mz_I x < 0 ↔ x < 0 := mz_I_lt hr mz_R0
        have e2 : 0 ≤ mz_I x ↔ 0 ≤ x := mz_I_le mz_R0 hr
        have e3 : 0 < mz_I x ↔ 0 < x := mz_I_lt mz_R0 hr
        have e4 : mz_I x ≤ 0 ↔ x ≤ 0 := mz_I_le hr mz_R0
        cases j
        · exact lv_if_eq hx hb hd ht (fun q => key true (decide_eq_true (e0.mp q))) (fun q => key false (decide_eq_false (fun z => q (e0.mpr z))))
        · exact lv_if_ne hx hb hd ht (fun q => key true (decide_eq_true (fun z => q (e0.mpr z)))) (fun q => key false (decide_eq_false (fun z => z (e0.mp q))))
        · exact lv_if_lt hx hb hd ht (fun q => key true (decide_eq_true (e1.mp q))) (fun q => key false (decide_eq_false (fun z => q (e1.mpr z))))
        · exact lv_if_ge hx hb hd ht (fun q => key true (decide_eq_true (e2.mp q))) (fun q => key false (decide_eq_false (fun z => q (e2.mpr z))))
        · exact lv_if_gt hx hb hd ht (fun q => key true (decide_eq_true (e3.mp q))) (fun q => key false (decide_eq_false (fun z => q (e3.mpr z))))
        · exact lv_if_le hx hb hd ht (fun q => key true (decide_eq_true (e4.mp q))) (fun q => key false (decide_eq_false (fun z => q (e4.mpr z))))
      next => cases h
    next => cases h
  next => cases h
theorem mz_ic_ok {j : Jvm.ClassFile.Cond} {o : Int} (hx : p.tables.exec = Jvm.exec) (hb : c.code = cc) (hd : decode cc fr.1 = .ok (.if_icmp j o, 3)) (h : mz_ic j o fr = some fr')
    (k : mz_Gd p l e R s m args below meth c cells slots Q D ad cA S A n fr') : mz_Gd p l e R s m args below meth c cells slots Q D ad cA S A n fr := by
  unfold mz_ic at h
  split at h
  next y x st hst =>
    split at h
    next hr =>
      unfold mz_br at h
      split at h
      next hn0 =>
        cases h
        intro H locs ls hW hL hn
        rw [hst]
        have ht : (fr.1 : Int) + o = ((((fr.1 : Int) + o).toNat : Nat) : Int) := (Int.toNat_of_nonneg hn0).symm
        have key : ∀ b : Bool, mz_cmp j x y = b → W p l e R s m args below meth c H locs cells slots Q (F0 m (mz_bt b ((fr.1 : Int) + o).toNat (fr.1 + 3)) ls (st.map (mz_cv ad))) := fun b hb => by
          subst hb
          exact k H locs ls hW hL hn
        have e0 : mz_I x = mz_I y ↔ x = y := hr.elim (fun hr => mz_I_eq hr.1 hr.2) (fun q => by rw [q]; exact iff_of_true rfl rfl)
        have e1 : mz_I x < mz_I y ↔ x < y := hr.elim (fun hr => mz_I_lt hr.1 hr.2) (fun q => by rw [q]; exact iff_of_false (Int32.lt_irrefl) (Int.lt_irrefl _))
        have e2 : mz_I y ≤ mz_I x ↔ y ≤ x := hr.elim (fun hr => mz_I_le hr.2 hr.1) (fun q => by rw [q]; exact iff_of_true (Int32.le_refl _) (Int.le_refl _))
        have e3 : mz_I y < mz_I x ↔ y < x := hr.elim (fun hr => mz_I_lt hr.2 hr.1) (fun q => by rw [q]; exact iff_of_false (Int32.lt_irrefl) (Int.lt_irrefl _))
        have e4 : mz_I x ≤ mz_I y ↔ x ≤ y := hr.elim (fun hr => mz_I_le hr.1 hr.2) (fun q => by rw [q]; exact iff_of_true (Int32.le_refl _) (Int.le_refl _))
        cases j
        · exact lv_icmp_eq hx hb hd ht (fun q => key true (decide_eq_true (e0.mp q))) (fun q => key false (decide_eq_false (fun z => q (e0.mpr z))))
        · exact lv_icmp_ne hx hb hd ht (fun q => key true (decide_eq_true (fun z => q (e0.mpr z)))) (fun q => key false (decide_eq_false (fun z => z (e0.mp q))))
        · exact lv_icmp_lt hx hb hd ht (fun q => key true (decide_eq_true (e1.mp q))) (fun q => key false (decide_eq_false (fun z => q (e1.mpr z))))
        · exact lv_icmp_ge hx hb hd ht (fun q => key true (decide_eq_true (e2.mp q))) (fun q => key false (decide_eq_false (fun z => q (e2.mpr z))))
        · exact lv_icmp_gt hx hb hd ht (fun q => key true (decide_eq_true (e3.mp q))) (fun q => key false (decide_eq_false (fun z => q (e3.mpr z))))
        · exact lv_icmp_le hx hb hd ht (fun q => key true (decide_eq_true (e4.mp q))) (fun q => key false (decide_eq_false (fun z => q (e4.mpr z))))
      next => cases h
    next => cases h
  next => cases h
theorem mz_ts_ok {d lo hi : Int} {offs : Array Int} {len : Nat} (hx : p.tables.exec = Jvm.exec) (hb : c.code = cc) (hd : decode cc fr.1 = .ok (.tableswitch d lo hi offs, len)) (h : mz_ts d lo hi offs fr = some fr')
    (k : mz_Gd p l e R s m args below meth c cells slots Q D ad cA S A n fr') : mz_Gd p l e R s m args below meth c cells slots Q D ad cA S A n fr := by
  unfold mz_ts at h
  split at h
  next x st hst =>
    split at h
    next hr =>
      split at h
      next ho =>
        unfold mz_to at h
        split at h
        next hn0 =>
          cases h
          intro H locs ls hW hL hn
          rw [hst]
          exact lv_tableOut hx hb hd (by rw [mz_I_toInt hr]; exact ho) (Int.toNat_of_nonneg hn0).symm (k H locs ls hW hL hn)
        next => cases h
      next ho =>
        split at h
        next o hof =>
          unfold mz_to at h
          split at h
          next hn0 =>
            cases h
            intro H locs ls hW hL hn
            rw [hst]
            exact lv_tableIn hx hb hd (by rw [mz_I_toInt hr]; exact fun z => ho (Or.inl z)) (by rw [mz_I_toInt hr]; exact fun z => ho (Or.inr z)) (by rw [mz_I_toInt hr]; exact hof) (Int.toNat_of_nonneg hn0).symm (k H locs ls hW hL hn)
          next => cases h
        next => cases h
    next => cases h
  next => cases h
end MZ
