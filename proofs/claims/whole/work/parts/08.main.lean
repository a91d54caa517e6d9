/-! a run of our machine is a run of the real one, calls and all -/
theorem mz_ofW {l : Launch} {y : MethodName} {ws ws' : List Cond} {rm : Room} {Pc : Array Value → State → Prop} {Qc : Array Value → State → Outcome → State → Prop} {mc ms : Nat} {free : Addr → Prop} {cc : ByteArray} {maxL : Nat} {ret : Option FieldType}
    (hy : plainFor y = true) (hw : ws = Cond.code y cc maxL ret :: ws')
    (body : ∀ p e s m args below meth c s₁, BodyLoose p l y (headSpec ws rm) cc maxL ret e s m args below meth c s₁ → c.maxLocals = maxL → Pc args s →
      W p l e (headSpec ws rm).room s m args below meth c s.heap [] 0 0 (MQ below Qc args s mc ms free) (entryFrame m args maxL)) : Met l y ws rm Pc Qc mc ms free := by
  refine MetFree.of_bodySF (code := cc) (maxLocals := maxL) (ret := ret) hy ?_ ?_
  · intro args s m h hn
    obtain ⟨meth, c, h1, h2, h3, h4, h5, h6, -, -⟩ := Cond.code_spec hn (atoms_spec (ws := ws) h _ (by rw [hw]; exact List.mem_cons_self))
    exact ⟨meth, c, h1, h2, h3, h4, h5, h6⟩
  · intro p e s m args below meth c s₁ B hml hP _
    have hh0 : s₁.heap = s.heap := by rw [B.state]; rfl
    obtain ⟨t, a1, o, b1, b2, b3⟩ := body p e s m args below meth c s₁ B hml hP s₁ hh0 (Stand.of_body B)
    exact ⟨t, o, a1, b1, b2, ⟨b3.1, b3.2⟩⟩
theorem mz_args_mem {ad : Nat → Nat} : ∀ (as : List mz_V) (s i : Nat) (v : mz_V), as[i]? = some v → (s + i, mz_cv ad v) ∈ lv_args s (as.map (mz_cv ad))
  | [], s, i, v, h => by simp at h
  | a :: t, s, i, v, h => by
    simp only [List.map_cons, lv_args, mz_cv_cat]
    cases i with
    | zero =>
      simp only [List.getElem?_cons_zero, Option.some.injEq] at h
      subst h
      exact List.mem_cons_self
    | succ i =>
      rw [List.getElem?_cons_succ] at h
      have := mz_args_mem (ad := ad) t (s + 1) i v h
      refine List.mem_cons_of_mem _ ?_
      rw [show s + (i + 1) = s + 1 + i by omega]
      exact this
theorem mz_sl_len (ad : Nat → Nat) (as : List mz_V) : (lg_sl (as.map (mz_cv ad))).length = as.length := by
  induction as with
  | nil => rfl
  | cons a t ih =>
    simp only [List.map_cons, lg_sl, List.flatMap_cons, mz_cv_cat] at ih ⊢
    simp [ih]
theorem mz_LH_ent {ad : Nat → Nat} {as : List mz_V} {n : Nat} (h : as.length ≤ n) : mz_LH ad ((lg_sl (as.map (mz_cv ad)) ++ List.replicate (n - (lg_sl (as.map (mz_cv ad))).length) Slot.unset).toArray) (as.map some ++ List.replicate (n - as.length) none) := by
  have h1 := lv_entry (as.map (mz_cv ad)) (n := n) (by rw [mz_sl_len]; exact h)
  refine ⟨by rw [h1.1]; simp; omega, h1.2.1, fun i v hi => ?_⟩
  have hlt : i < as.length := by
    rcases Nat.lt_or_ge i as.length with q | q
    · exact q
    · rw [List.getElem?_append_right (by simpa using q)] at hi
      have := List.mem_of_getElem? hi
      simp at this
  rw [List.getElem?_append_left (by simpa using hlt), List.getElem?_map] at hi
  cases hv : as[i]? with
  | none => rw [hv] at hi; cases hi
  | some w =>
    rw [hv] at hi
    cases hi
    have := h1.2.2 _ (mz_args_mem (ad := ad) as 0 i v hv)
    simpa using this
theorem mz_nw_warm {s U : State} (hW : s.WarmedH U.vm) (h : ∀ w ∈ mz_nest, va_Nw w s) : ∀ w ∈ mz_nest, va_Nw w U := by
  intro w hw
  have h1 := h w hw
  simp only [mz_nest, List.mem_cons, List.not_mem_nil, or_false] at hw
  rcases hw with rfl | rfl
  · exact va_Nw.warmM hW h1
  · exact va_Nw.warmM hW h1
theorem mz_nw_same {s U : State} (hW : s.vm = U.vm) (h : ∀ w ∈ mz_nest, va_Nw w s) : ∀ w ∈ mz_nest, va_Nw w U := by
  intro w hw
  have h1 := h w hw
  simp only [mz_nest, List.mem_cons, List.not_mem_nil, or_false] at hw
  rcases hw with rfl | rfl
  · exact va_Nw.same rfl hW h1
  · exact va_Nw.same rfl hW h1
/-- a run of ours from a frame ends with v and the world σ': then the real machine comes from that frame to wherever it comes from the end -/
def mz_Ok (S : mz_S) (X : mz_X) (k : Nat) (fr : mz_F) (v : Option Int) (σ' : mz_G) : Prop :=
  ∀ {M : mz_M} (_ : mz_meth[k]? = some M) {o : String} (_ : mz_owns[M.1]? = some o) {p : Program} {l : Launch} {e : Env} {R : Room} {s : State} {m : MethodId} {args : Array Value} {below : List Frame} {meth : Method} {c : Code} {cells slots : Nat} {Q : State → Prop} {D : va_G} {ad : Nat → Nat} {cA : ClassId} {A : Nat → Prop} {n : Nat},
    p.tables.exec = Jvm.exec → c.code = M.2.2.1 → s.vm.findClass o = some m.cls → c.maxLocals = n → (∀ w ∈ mz_tb, w.before args s = true) → (∀ w ∈ mz_nest, va_Nw w s) → M.2.2.2.2.2.2.1 ≤ R.frames → M.2.2.2.2.2.2.2 ≤ R.locals → cells ≤ R.cells → slots ≤ R.slots → va_K D mz_cl [(cA, .int)] s → mz_Xc X ad A s → (∀ q, s.heap.size ≤ q → A q) →
    (∀ (H : Heap) (locs : List Loc) (ls : Array Slot) (pc : Nat), mz_Wd D ad cA S A s H locs σ' → (∀ z, v = some z → mz_ro M.2.2.2.2.1 z = true → decode M.2.2.1 pc = .ok (.ireturn, 1) → W p l e R s m args below meth c H locs cells slots Q (F0 m pc ls [.int (mz_I z)])) ∧ (v = none → M.2.2.2.2.1 = none → decode M.2.2.1 pc = .ok (.return_, 1) → W p l e R s m args below meth c H locs cells slots Q (F0 m pc ls []))) →
    mz_Gd p l e R s m args below meth c cells slots Q D ad cA S A n fr
def mz_Pre (D : va_G) (ad : Nat → Nat) (cA : ClassId) (S : mz_S) (σ : mz_G) (sz : Nat) (U : State) : Prop := U.heap.size = sz ∧ va_P D mz_cl (mz_ws ad cA S σ) U.heap ∧ va_K D mz_cl [(cA, .int)] U ∧ va_D (fun _ => True) (mz_ws ad cA S σ) ∧ ∀ w ∈ mz_nest, va_Nw w U
def mz_Post (D : va_G) (ad : Nat → Nat) (cA : ClassId) (S : mz_S) (σ' : mz_G) (r : Option Int) (A : Nat → Prop) : Array Value → State → Outcome → State → Prop := match r with
  | some z => va_Qi (S := Unit) (fun x _ => x = mz_I z) (fun _ t => va_P D mz_cl (mz_ws ad cA S σ') t.heap) A
  | none => va_Qv (S := Unit) (fun _ => True) (fun _ t => va_P D mz_cl (mz_ws ad cA S σ') t.heap) A
theorem mz_ro_narrow {r : Option FieldType} {z : Int} (h : mz_ro r z = true) : ∃ ty, r = some ty ∧ narrow ty (.int (mz_I z)) = .int (mz_I z) := by
  unfold mz_ro at h
  split at h
  next => exact ⟨_, rfl, rfl⟩
  next =>
    simp only [decide_eq_true_eq] at h
    rcases h with rfl | rfl
    · exact ⟨_, rfl, rfl⟩
    · exact ⟨_, rfl, rfl⟩
  next => cases h
set_option maxHeartbeats 4000000 in
theorem mz_met {S : mz_S} {j : Nat} {N : mz_M} (hN : mz_meth[j]? = some N) (hw : mz_mw N) {as : List mz_V} {σ σ' : mz_G} {r : Option Int} (hl : as.length ≤ N.2.2.2.1) (h : mz_Ok S none j (mz_ent N.2.2.2.1 as σ) r σ') (l : Launch) (D : va_G) (ad : Nat → Nat) (cA : ClassId) (sz : Nat) :
    Met l N.2.1 (Cond.code N.2.1 N.2.2.1 N.2.2.2.1 N.2.2.2.2.1 :: mz_tb) { frames := N.2.2.2.2.2.2.1, cells := 0, slots := 0, locals := N.2.2.2.2.2.2.2 } (va_Pc (as.map (mz_cv ad)) (mz_Pre D ad cA S σ sz)) (mz_Post D ad cA S σ' r (va_A (mz_ws ad cA S σ) sz)) 0 0 (va_A (mz_ws ad cA S σ) sz) := by
  refine mz_ofW (cc := N.2.2.1) (maxL := N.2.2.2.1) (ret := N.2.2.2.2.1) hw.1 rfl ?_
  intro p e s m args below meth c s₁ B hml hv
  obtain ⟨rfl, hsz, hP, hK, hD0, hnw⟩ := hv
  have hx := B.exec
  have hb := B.bytes
  have hr := B.returns
  have hts := atoms_spec (ws := Cond.code N.2.1 N.2.2.1 N.2.2.2.1 N.2.2.2.2.1 :: mz_tb) B.pre
  have hown : s.vm.findClass N.2.1.cls = some m.cls := findClass_of_methodNamed B.named
  have hlocks := B.notSynchronized
  subst hsz
  have hD := hD0.self (sz := s.heap.size)
  have hA : ∀ q : Nat, s.heap.size ≤ q → va_A (mz_ws ad cA S σ) s.heap.size q := fun q h => Or.inr h
  rw [lg_entry_eq]
  refine h hN hw.2.1 (D := D) (ad := ad) (cA := cA) (A := va_A (mz_ws ad cA S σ) s.heap.size) hx hb hown hml (fun w h => hts w (List.mem_cons_of_mem _ h)) hnw (Nat.le_refl _) (Nat.le_refl _) (Nat.zero_le _) (Nat.zero_le _) hK (fun _ _ q => by cases q) hA ?_ s.heap [] _ ⟨hP, hD, va_S.rf⟩ (mz_LH_ent hl) (by simp [mz_ent]; omega)
  intro H locs ls pc hW
  refine ⟨fun z hz hro hdg => ?_, fun hz hn hdg => ?_⟩
  · subst hz
    obtain ⟨ty, h1, h2⟩ := mz_ro_narrow hro
    exact W.zret (ty := ty) hx hb (hr.trans h1) h2 (fun t ht hWm => ⟨⟨mz_I z, (), rfl, rfl, by show va_P D mz_cl (mz_ws ad cA S σ') t.heap; rw [ht]; exact hW.1⟩, hW.2.2.F ht⟩) hW.2.2.2.2 hdg (hlocks := hlocks)
  · subst hz
    exact W.vret hx hb (hr.trans hn) (fun t ht hWm => ⟨⟨(), rfl, trivial, by show va_P D mz_cl (mz_ws ad cA S σ') t.heap; rw [ht]; exact hW.1⟩, hW.2.2.F ht⟩) hW.2.2.2.2 hdg (hlocks := hlocks)
theorem mz_cargs_spec {S : mz_S} {kind np cls : Nat} {st as rest : List mz_V} (h : mz_cargs S kind np cls st = some (as, rest)) :
    (kind = 0 ∧ ∃ (c : Nat) (cs : List Nat) (As : List mz_V), as = .inr c :: As ∧ S.lookup c = some (.inl (cls, cs)) ∧ As.length = np ∧ st = As.reverse ++ .inr c :: rest ∧ rest.length ≤ 8) ∨ (¬ kind = 0 ∧ as.length = np ∧ st = as.reverse ++ rest ∧ rest.length ≤ 8) := by
  unfold mz_cargs at h
  split at h
  next =>
    split at h
    next c rest' hst =>
      split at h
      next cj fs hl =>
        split at h
        next q =>
          cases h
          obtain ⟨rfl, q1, q2⟩ := q
          refine Or.inl ⟨rfl, c, fs, _, rfl, hl, by simp; omega, ?_, q2⟩
          rw [List.reverse_reverse, ← hst, List.take_append_drop]
        next => cases h
      next => cases h
    next => cases h
  next hk =>
    split at h
    next q =>
      cases h
      refine Or.inr ⟨fun z => hk z, by simp; omega, by rw [List.reverse_reverse, List.take_append_drop], q.2⟩
    next => cases h
theorem mz_cats {ad : Nat → Nat} (st : List mz_V) : ((st.map (mz_cv ad)).map fun v => v.category).sum = st.length := by
  induction st with
  | nil => rfl
  | cons a t ih => simp only [List.map_cons, List.sum_cons, mz_cv_cat, ih, List.length_cons]; omega
theorem mz_kd0 {i : Instr} {a : Nat} (h : mz_kd i = (0, a)) : i = .invokevirtual a := by
  unfold mz_kd at h
  split at h <;> first | (cases h; rfl) | cases h
theorem mz_kd1 {i : Instr} {a : Nat} (h : mz_kd i = (1, a)) : i = .invokestatic a := by
  unfold mz_kd at h
  split at h <;> first | (cases h; rfl) | cases h
theorem mz_kd2 {i : Instr} {a : Nat} (h : mz_kd i = (2, a)) : i = .ireturn := by
  unfold mz_kd at h
  split at h <;> first | rfl | cases h
theorem mz_kd3 {i : Instr} {a : Nat} (h : mz_kd i = (3, a)) : i = .return_ := by
  unfold mz_kd at h
  split at h <;> first | rfl | cases h
theorem mz_kdle {i : Instr} {v a : Nat} (h : mz_kd i = (v, a)) : v ≤ 4 := by
  unfold mz_kd at h
  split at h <;> (cases h; omega)
theorem mz_lkm {L : List (Nat × Instr × Nat)} {pc n : Nat} {i : Instr} (h : L.lookup pc = some (i, n)) : (pc, i, n) ∈ L := by
  induction L with
  | nil => simp [List.lookup] at h
  | cons a t ih =>
    obtain ⟨a1, a2⟩ := a
    rw [List.lookup_cons] at h
    split at h
    next hc =>
      cases h
      have : pc = a1 := by simpa using hc
      subst this
      exact List.mem_cons_self
    next => exact List.mem_cons_of_mem _ (ih h)
theorem mz_call_spec {S : mz_S} {M N : mz_M} {v idx j : Nat} {st as rest : List mz_V} (h : mz_call S M v idx st = some (j, N, as, rest)) :
    ∃ kind np, mz_cw (M.1, idx, j, kind, np) ∧ mz_meth[j]? = some N ∧ mz_cargs S kind np N.1 st = some (as, rest) ∧ (v = 0 ↔ kind = 0) ∧ as.length ≤ N.2.2.2.1 ∧ N.2.2.2.2.2.2.1 + 1 ≤ M.2.2.2.2.2.2.1 ∧ 8 + (N.2.2.2.1 + 11) + N.2.2.2.2.2.2.2 ≤ M.2.2.2.2.2.2.2 := by
  unfold mz_call at h
  split at h
  next q0 q1 j' kind np hck =>
    have h1 := List.find?_some hck
    have h2 := mz_ca_ok _ (List.mem_of_find?_eq_some hck)
    simp only [Bool.and_eq_true, beq_iff_eq] at h1
    split at h
    next N' hN =>
      split at h
      next as' rest' hcs =>
        split at h
        next q =>
          cases h
          refine ⟨kind, np, ?_, hN, hcs, q⟩
          rw [← h1.1, ← h1.2]
          exact h2
        next => cases h
      next => cases h
    next => cases h
  next => cases h
set_option maxHeartbeats 4000000 in
theorem mz_call_ok {p : Program} {l : Launch} {e : Env} {R : Room} {s : State} {m : MethodId} {args : Array Value} {below : List Frame} {meth : Method} {c : Code} {cells slots : Nat} {Q : State → Prop} {D : va_G} {ad : Nat → Nat} {cA : ClassId} {A : Nat → Prop} {S : mz_S} {n : Nat} {fr : mz_F} {M N : mz_M} {o : String} {v idx j : Nat} {as rest : List mz_V} {r : Option Int} {σ1 : mz_G}
    (ho : mz_owns[M.1]? = some o) (hx : p.tables.exec = Jvm.exec) (hb : c.code = M.2.2.1) (hown : s.vm.findClass o = some m.cls) (hml : c.maxLocals = n) (hts : ∀ w ∈ mz_tb, w.before args s = true) (hnw : ∀ w ∈ mz_nest, va_Nw w s) (hF : M.2.2.2.2.2.2.1 ≤ R.frames) (hLo : M.2.2.2.2.2.2.2 ≤ R.locals) (hce : cells ≤ R.cells) (hsl : slots ≤ R.slots) (hK : va_K D mz_cl [(cA, .int)] s) (hA : ∀ q, s.heap.size ≤ q → A q)
    (hcall : mz_call S M v idx fr.2.2.1 = some (j, N, as, rest)) (hv : (v = 0 ∧ decode M.2.2.1 fr.1 = .ok (.invokevirtual idx, 3)) ∨ (v = 1 ∧ decode M.2.2.1 fr.1 = .ok (.invokestatic idx, 3)))
    (h1 : mz_Ok S none j (mz_ent N.2.2.2.1 as fr.2.2.2) r σ1)
    (k : mz_Gd p l e R s m args below meth c cells slots Q D ad cA S A n (fr.1 + 3, fr.2.1, r.toList.map .inl ++ rest, σ1)) : mz_Gd p l e R s m args below meth c cells slots Q D ad cA S A n fr := by
  obtain ⟨kind, np, hcw, hN, hcs, hvk, hl, hfr, hlo⟩ := mz_call_spec hcall
  obtain ⟨N', o', hN', ho', hmw, hpar, hrest⟩ := hcw
  dsimp only at hN' ho' hpar hrest
  cases hN.symm.trans hN'
  cases ho.symm.trans ho'
  intro H locs ls hW hL hn
  have hMet := mz_met hN hmw hl h1 l D ad cA H.size
  have hFc : ∀ q, va_A (mz_ws ad cA S fr.2.2.2) H.size q → A q := by
    intro q h
    rcases h with ⟨k, e, h⟩ | h
    · exact hW.2.1.2 k (q, e) h
    · exact hA q (Nat.le_trans hW.2.2.1 h)
  have hblind : FrameBlind (va_Pc (as.map (mz_cv ad)) (mz_Pre D ad cA S fr.2.2.2 H.size)) := fun a U g mk q => by
    obtain ⟨q0, q1, qP, qK, qD, qN⟩ := q
    exact ⟨q0, q1, qP, va_K.moved (u := U) (U := U.calling g mk a) (Vm.Alike.refl U.vm) qK, qD, mz_nw_same (s := U) (U := U.calling g mk a) rfl qN⟩
  have hpre : ∀ U : State, U.heap = H → s.WarmedH U.vm → mz_Pre D ad cA S fr.2.2.2 H.size U := fun U hU hWm => ⟨by rw [hU], by rw [hU]; exact hW.1, va_K.moved hWm.alike hK, hW.2.1.weaken (fun _ _ _ _ => trivial), mz_nw_warm hWm hnw⟩
  have hcode : Cond.code N.2.1 N.2.2.1 N.2.2.2.1 N.2.2.2.2.1 ∈ mz_tb := mz_in hmw.2.2.2.1 (by first | rfl | simp [goodWord, Cond.onTables, Cond.keeps, Cond.steady])
  have hini : Cond.initialized N.2.1.cls ∈ mz_tb := mz_in hmw.2.2.2.2 (by first | rfl | simp [goodWord, Cond.onTables, Cond.keeps, Cond.steady])
  have hws : ∀ w ∈ (Cond.code N.2.1 N.2.2.1 N.2.2.2.1 N.2.2.2.2.1 :: mz_tb), w ∈ mz_tb := fun w h => (List.mem_cons.mp h).elim (fun e => e ▸ hcode) id
  have hsize : ls.size = n := hL.1.trans hn
  have hRm1 : N.2.2.2.2.2.2.1 + 1 ≤ R.frames := Nat.le_trans hfr hF
  have hRm2 : 8 + (N.2.2.2.1 + 11) + N.2.2.2.2.2.2.2 ≤ R.locals := Nat.le_trans hlo hLo
  have hRun : ∃ a, va_Run p l e R s m args below meth c H locs cells slots 0 0 (F0 m fr.1 ls (fr.2.2.1.map (mz_cv ad))) (rest.map (mz_cv ad)) (mz_Post D ad cA S σ1 r (va_A (mz_ws ad cA S fr.2.2.2) H.size) a) (va_A (mz_ws ad cA S fr.2.2.2) H.size) := by
    rcases mz_cargs_spec hcs with ⟨hk0, c0, cs, As, has, hlk, hAs, hst, hr8⟩ | ⟨hk0, hAs, hst, hr8⟩
    · subst hk0
      obtain ⟨hlink, hinst, hsel, rr, hrr, hrc⟩ := hrest
      rcases hv with ⟨hv0, hd⟩ | ⟨hv1, hd⟩
      · obtain ⟨q0, hq0⟩ := mz_lk hlk
        subst has
        refine ⟨_, va_runV (C := N.2.1.cls) (b := ad c0) (As := As.map (mz_cv ad)) (rest := rest.map (mz_cv ad)) (n := np) (nL := n) (index := idx) ⟨hx, hb, hml, hown, hts⟩ hMet (cwV np hts (mz_goodIn ?_) rfl rfl rfl ⟨rfl, hmw.2.2.1.1, hmw.2.2.1.2, hpar⟩ ⟨hRm1, hRm2⟩) ⟨hblind, ?_, fun U hU hWm => ⟨rfl, hpre U hU hWm⟩⟩ rfl (by rw [List.length_map]; exact hAs) hsize ?_ (lv_room (by rw [mz_cats]; exact hr8)) hd ⟨hce, hsl⟩⟩
        · intro w hw
          simp only [wsV, List.mem_append, List.mem_cons, List.not_mem_nil, or_false] at hw
          rcases hw with (rfl | rfl | rfl | rfl) | hw
          · exact mz_in hlink (by first | rfl | simp [goodWord, Cond.onTables, Cond.keeps, Cond.steady])
          · exact mz_in hinst (by first | rfl | simp [goodWord, Cond.onTables, Cond.keeps, Cond.steady])
          · exact mz_in hsel (by first | rfl | simp [goodWord, Cond.onTables, Cond.keeps, Cond.steady])
          · exact hini
          · exact hws w (List.mem_cons.mpr hw)
        · rw [← hrc]
          exact va_recv hK hW.1 hrr (mz_ws_at hq0)
        · show fr.2.2.1.map (mz_cv ad) = _
          rw [hst, List.map_append, List.map_reverse, List.map_cons]
          rfl
      · exact absurd (hvk.mpr rfl) (by omega)
    · rcases hv with ⟨hv0, hd⟩ | ⟨hv1, hd⟩
      · exact absurd (hvk.mp hv0) hk0
      · have hstk : fr.2.2.1.map (mz_cv ad) = (as.map (mz_cv ad)).reverse ++ rest.map (mz_cv ad) := by
          rw [hst, List.map_append, List.map_reverse]
        match kind, hk0, hrest with
        | 0, hk0, _ => exact absurd rfl hk0
        | 1, _, hrest =>
          obtain ⟨hlink, hstat⟩ := hrest
          refine ⟨_, va_runS (As := as.map (mz_cv ad)) (rest := rest.map (mz_cv ad)) (n := np) (nL := n) (index := idx) ⟨hx, hb, hml, hown, hts⟩ hMet (va_cwS np hts (mz_goodIn ?_) rfl rfl rfl ⟨hmw.2.2.1.1, hmw.2.2.1.2, hpar⟩ ⟨hRm1, hRm2⟩) ⟨hblind, fun U hU hWm => ⟨rfl, hpre U hU hWm⟩⟩ rfl (by rw [List.length_map]; exact hAs) hsize hstk (lv_room (by rw [mz_cats]; exact hr8)) hd ⟨hce, hsl⟩⟩
          intro w hw
          simp only [va_wsS, List.mem_append, List.mem_cons, List.not_mem_nil, or_false] at hw
          rcases hw with (rfl | rfl | rfl) | hw
          · exact mz_in hlink (by first | rfl | simp [goodWord, Cond.onTables, Cond.keeps, Cond.steady])
          · exact mz_in hstat (by first | rfl | simp [goodWord, Cond.onTables, Cond.keeps, Cond.steady])
          · exact hini
          · exact hws w (List.mem_cons.mpr hw)
        | kk + 2, _, hrest =>
          obtain ⟨hlink, hstat⟩ := hrest
          have hst2 : Cond.static N.2.1 ∈ mz_tb := mz_in hstat (by first | rfl | simp [goodWord, Cond.onTables, Cond.keeps, Cond.steady])
          exact ⟨_, va_runSN (As := as.map (mz_cv ad)) (rest := rest.map (mz_cv ad)) (n := np) (nL := n) (index := idx) (host := RX5) ⟨hx, hb, hml, hown, hts⟩ hMet ⟨va_cnB np hts (mz_goodIn hws) rfl rfl rfl (hnw _ hlink) (hts _ hini) ⟨hmw.2.2.1.1, hmw.2.2.1.2, hpar⟩ ⟨hRm1, hRm2⟩, hts _ hst2, trivial⟩ ⟨hblind, fun U hU hWm => ⟨rfl, hpre U hU hWm⟩⟩ rfl (by rw [List.length_map]; exact hAs) hsize hstk (lv_room (by rw [mz_cats]; exact hr8)) hd ⟨hce, hsl⟩⟩
  obtain ⟨a, hRun⟩ := hRun
  cases r with
  | some z =>
    have hR2 : va_Run p l e R s m args below meth c H locs cells slots 0 0 (F0 m fr.1 ls (fr.2.2.1.map (mz_cv ad))) (rest.map (mz_cv ad)) (va_Qi (S := Unit) (fun x _ => x = mz_I z) (fun _ t => va_P D mz_cl (mz_ws ad cA S σ1) t.heap) (va_A (mz_ws ad cA S fr.2.2.2) H.size) a) (va_A (mz_ws ad cA S fr.2.2.2) H.size) := hRun
    refine va_calli hR2 hW.2.2 (fun q _ h => hFc q h) hFc (fun x u t H1 locs1 ht hvm hw hB hz1 hk1 hS => ?_)
    subst hw
    rw [ht] at hB
    exact k H1 locs1 ls ⟨hB, mz_D_any σ1 hW.2.1, hS⟩ hL hn
  | none =>
    have hR2 : va_Run p l e R s m args below meth c H locs cells slots 0 0 (F0 m fr.1 ls (fr.2.2.1.map (mz_cv ad))) (rest.map (mz_cv ad)) (va_Qv (S := Unit) (fun _ => True) (fun _ t => va_P D mz_cl (mz_ws ad cA S σ1) t.heap) (va_A (mz_ws ad cA S fr.2.2.2) H.size) a) (va_A (mz_ws ad cA S fr.2.2.2) H.size) := hRun
    refine va_callv hR2 hW.2.2 (fun q _ h => hFc q h) hFc (fun u t H1 locs1 ht hvm hw hB hz1 hk1 hS => ?_)
    rw [ht] at hB
    exact k H1 locs1 ls ⟨hB, mz_D_any σ1 hW.2.1, hS⟩ hL hn
set_option maxHeartbeats 4000000 in
/-- THE ROW THAT ALL ELSE STANDS ON: what our machine does, the real machine does -/
theorem mz_frame {S : mz_S} (hok : mz_sok S = true) : ∀ (f : Nat) (X : mz_X) (k : Nat) (fr : mz_F) (v : Option Int) (σ' : mz_G), mz_ex S f X k fr = some (v, σ') → mz_Ok S X k fr v σ' := by
  intro f
  induction f with
  | zero => intro X k fr v σ' h; rw [mz_ex] at h; cases h
  | succ f ih =>
    intro X k fr v σ' h
    rw [mz_ex] at h
    intro M hM o ho p l e R s m args below meth c cells slots Q D ad cA A n hx hb hown hml hts hnw hF hLo hce hsl hK hXc hA hend
    rw [hM] at h
    dsimp only at h
    split at h
    next => cases h
    next i nn hlk =>
      have hdk : ∀ q ∈ M.2.2.2.2.2.1, decode M.2.2.1 q.1 = .ok (q.2.1, q.2.2) := mz_mdec M (List.mem_of_getElem? hM)
      have hmem : (fr.1, i, nn) ∈ M.2.2.2.2.2.1 := mz_lkm hlk
      have hdec : decode M.2.2.1 fr.1 = .ok (i, nn) := hdk (fr.1, i, nn) hmem
      split at h
      next x hkd =>
        split at h
        next fr' hst => exact mz_step_ok hok hXc hx hb hown ho hts hK hdec hst (ih X k fr' v σ' h hM ho hx hb hown hml hts hnw hF hLo hce hsl hK hXc hA hend)
        next => cases h
      next x hkd =>
        have hi := mz_kd3 hkd
        split at h
        next hst hret =>
          split at h
          next hn1 =>
            cases h
            intro H locs ls hW hL hn
            rw [hst]
            exact (hend H locs ls fr.1 hW).2 rfl hret (by rw [hdec, hi, hn1])
          next => cases h
        next => cases h
      next x hkd =>
        have hi := mz_kd2 hkd
        split at h
        next z hst =>
          split at h
          next hn1 =>
            cases h
            intro H locs ls hW hL hn
            rw [hst]
            exact (hend H locs ls fr.1 hW).1 z rfl hn1.2 (by rw [hdec, hi, hn1.1])
          next => cases h
        next => cases h
      next v0 idx n4 n3 n2 hkd =>
        split at h
        next hn3 =>
          split at h
          next j N as rest hcall =>
            split at h
            next r σ1 hr =>
              have hv : (v0 = 0 ∧ decode M.2.2.1 fr.1 = .ok (.invokevirtual idx, 3)) ∨ (v0 = 1 ∧ decode M.2.2.1 fr.1 = .ok (.invokestatic idx, 3)) := by
                have hle := mz_kdle hkd
                have h4 : ¬ v0 = 4 := fun q => n4 q
                have h3 : ¬ v0 = 3 := fun q => n3 q
                have h2 : ¬ v0 = 2 := fun q => n2 q
                rcases (show v0 = 0 ∨ v0 = 1 by omega) with rfl | rfl
                · exact Or.inl ⟨rfl, by rw [hdec, mz_kd0 hkd, hn3]⟩
                · exact Or.inr ⟨rfl, by rw [hdec, mz_kd1 hkd, hn3]⟩
              exact mz_call_ok ho hx hb hown hml hts hnw hF hLo hce hsl hK hA hcall hv (ih none j _ r σ1 hr) (ih X k _ v σ' h hM ho hx hb hown hml hts hnw hF hLo hce hsl hK hXc hA hend)
            next => cases h
          next => cases h
        next => cases h
