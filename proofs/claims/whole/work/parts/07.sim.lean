/-! fields, arrays, the dispatch, calls: our machine's runs are the real machine's -/
theorem mz_in {w : Cond} (h : w ∈ lw_tbl) (g : goodWord w = true) : w ∈ mz_tb := List.mem_filter.mpr ⟨h, g⟩
theorem mz_goodIn {ws : List Cond} (h : ∀ w ∈ ws, w ∈ mz_tb) : GoodIn mz_tb ws := fun w hw => ⟨h w hw, mz_tb_good w (h w hw)⟩
theorem mz_fl_spec {own idx : Nat} {q : Nat × Nat × Nat × Nat × Nat} {o : String} (hq : mz_fk own idx = some q) (ho : mz_owns[own]? = some o) : ∃ r : vw_C, mz_cl[q.2.2.1]? = some r ∧ Cond.fieldLink o idx (r.2.1 q.2.2.2.1).1 (r.2.1 q.2.2.2.1).2.1 (r.2.1 q.2.2.2.1).2.2.1 ∈ mz_tb ∧ q.2.2.2.1 < r.2.2 := by
  have h1 := List.find?_some hq
  have h2 := List.all_eq_true.mp mz_fl_ok q (List.mem_of_find?_eq_some hq)
  simp only [Bool.and_eq_true, beq_iff_eq] at h1
  unfold mz_fok at h2
  rw [h1.1, h1.2, ho] at h2
  split at h2
  next r o' hr ho' =>
    cases ho'
    simp only [Bool.and_eq_true, decide_eq_true_eq] at h2
    exact ⟨r, hr, mz_tb_of h2.1 (by first | rfl | simp [goodWord, Cond.onTables, Cond.keeps, Cond.steady]), h2.2⟩
  next => cases h2
theorem mz_sok_at {S : mz_S} (h : mz_sok S = true) {q0 c ci : Nat} {fs : List Nat} (hq : S[q0]? = some (c, .inl (ci, fs))) {r : vw_C} (hr : mz_cl[ci]? = some r) {k f : Nat} (hf : fs[k]? = some f) : (f = 0 → (r.2.1 k).2.2.2 = false ∧ parseFieldDescriptor (r.2.1 k).2.2.1 = some .int) ∧ (f = 1 → (r.2.1 k).2.2.2 = false ∧ parseFieldDescriptor (r.2.1 k).2.2.1 = some .boolean) := by
  simp only [mz_sok, Bool.and_eq_true] at h
  have h1 := List.all_eq_true.mp h.1.1 _ (List.mem_of_getElem? hq)
  simp only [hr, Bool.and_eq_true] at h1
  have hm : (f, k) ∈ fs.zipIdx := by
    refine List.mem_of_getElem? (i := k) ?_
    rw [List.getElem?_zipIdx, hf]
    simp
  have h2 := List.all_eq_true.mp h1.2 _ hm
  constructor
  · rintro rfl
    simpa using h2
  · rintro rfl
    simpa using h2
theorem mz_sok_arr {S : mz_S} (h : mz_sok S = true) {q0 c n : Nat} (hq : S[q0]? = some (c, .inr n)) : n < 2147483648 := by
  simp only [mz_sok, Bool.and_eq_true] at h
  have h1 := List.all_eq_true.mp h.1.1 _ (List.mem_of_getElem? hq)
  simpa using h1
theorem mz_I_nat (n : Nat) : Int32.ofNat n = mz_I (n : Int) := by
  apply Int32.toBitVec.inj
  show BitVec.ofNat 32 n = BitVec.ofInt 32 (n : Int)
  exact (BitVec.ofInt_natCast 32 n).symm
theorem mz_I_i8 {z : Int} (h0 : -128 ≤ z) (h1 : z ≤ 127) : (Int8.ofInt z).toInt32 = mz_I z := by
  apply Int32.toInt_inj.mp
  rw [Int8.toInt_toInt32, Int8.toInt_ofInt_of_le (by omega) (by omega), mz_I_toInt (by omega)]
theorem mz_I_i16 {z : Int} (h0 : -32768 ≤ z) (h1 : z ≤ 32767) : (Int16.ofInt z).toInt32 = mz_I z := by
  apply Int32.toInt_inj.mp
  rw [Int16.toInt_toInt32, Int16.toInt_ofInt_of_le (by omega) (by omega), mz_I_toInt (by omega)]
section MZS
variable {p : Program} {l : Launch} {e : Env} {R : Room} {s : State} {m : MethodId} {args : Array Value} {below : List Frame} {meth : Method} {c : Code} {cells slots : Nat} {Q : State → Prop} {cc : ByteArray} {D : va_G} {ad : Nat → Nat} {cA : ClassId} {A : Nat → Prop} {S : mz_S} {X : mz_X} {n : Nat} {fr fr' : mz_F} {own : Nat} {o : String}
theorem mz_gf_ok {idx : Nat} (hx : p.tables.exec = Jvm.exec) (hb : c.code = cc) (hown : s.vm.findClass o = some m.cls) (ho : mz_owns[own]? = some o) (hts : ∀ w ∈ mz_tb, w.before args s = true) (hK : va_K D mz_cl [(cA, .int)] s) (hd : decode cc fr.1 = .ok (.getfield idx, 3)) (h : mz_gf S own idx fr = some fr')
    (k : mz_Gd p l e R s m args below meth c cells slots Q D ad cA S A n fr') : mz_Gd p l e R s m args below meth c cells slots Q D ad cA S A n fr := by
  unfold mz_gf at h
  split at h
  next c0 st hst =>
    split at h
    next q cj fs hq hl =>
      split at h
      next hcj =>
        subst hcj
        split at h
        next f hf =>
          cases h
          intro H locs ls hW hL hn
          rw [hst]
          obtain ⟨q0, hq0⟩ := mz_lk hl
          obtain ⟨r, hr, hlink, hkN⟩ := mz_fl_spec hq ho
          exact va_get (D := D) (ci := q.2.2.1) (C := r.1) (T := r.2.1) (N := r.2.2) (v := mz_cv ad (mz_fv fr.2.2.2 c0 q.2.2.2.1 f)) hx hb hts (mz_cls_in _ _ hr).1 hown hK hW.1 q0 (mz_ws_at hq0) hr q.2.2.2.1 hkN (hts _ hlink) (fun _ h9 => h9) (mz_fc_at hf) hd (k H locs ls hW hL hn)
        next => cases h
      next => cases h
    next => cases h
  next => cases h
theorem mz_pf_ok {idx : Nat} (hok : mz_sok S = true) (hx : p.tables.exec = Jvm.exec) (hb : c.code = cc) (hown : s.vm.findClass o = some m.cls) (ho : mz_owns[own]? = some o) (hts : ∀ w ∈ mz_tb, w.before args s = true) (hK : va_K D mz_cl [(cA, .int)] s) (hd : decode cc fr.1 = .ok (.putfield idx, 3)) (h : mz_pf S own idx fr = some fr')
    (k : mz_Gd p l e R s m args below meth c cells slots Q D ad cA S A n fr') : mz_Gd p l e R s m args below meth c cells slots Q D ad cA S A n fr := by
  unfold mz_pf at h
  split at h
  next v c0 st hst =>
    split at h
    next q cj fs hq hl =>
      split at h
      next hcj =>
        subst hcj
        split at h
        next f hf =>
          split at h
          next hv =>
            cases h
            intro H locs ls hW hL hn
            rw [hst]
            obtain ⟨q0, hq0⟩ := mz_lk hl
            obtain ⟨r, hr, hlink, hkN⟩ := mz_fl_spec hq ho
            obtain ⟨s0, s1⟩ := mz_sok_at hok hq0 hr hf
            obtain ⟨hin, ⟨ty, hty⟩, hnm⟩ := mz_cls_in _ _ hr
            have hnd := mz_nd_of hok
            have hf01 : f = 0 ∨ f = 1 := hv.elim Or.inl (fun z => Or.inr z.1)
            have key : ∀ (ty1 : FieldType), (r.2.1 q.2.2.2.1).2.2.2 = false → parseFieldDescriptor (r.2.1 q.2.2.2.1).2.2.1 = some ty1 → narrow ty1 (.int (mz_I v)) = .int (mz_I v) → fits ty1 (.int (mz_I v)) = true → W p l e R s m args below meth c H locs cells slots Q (F0 m fr.1 ls (((Sum.inl v : mz_V) :: Sum.inr c0 :: st).map (mz_cv ad))) := by
              intro ty1 hfin hd1 hn1 hfit
              refine va_put (D := D) (ci := q.2.2.1) (v := .int (mz_I v)) (ty := ty1) (C := r.1) (T := r.2.1) (N := r.2.2) hx hb hts hin ty hty hnm hown hK hW.1 hW.2.1 hW.2.2 q0 (mz_ws_at hq0) hr q.2.2.2.1 hkN (hts _ hlink) (fun _ h9 => h9) hfin hd1 hn1 hfit ?_ hd (fun H1 locs1 hP1 hD1 hS1 => ?_)
              · have := (List.getElem?_eq_some_iff.mp hf).1
                simpa [mz_fc] using this
              · have e1 : (mz_ws ad cA S fr.2.2.2).set q0 (ad c0, .inr (q.2.2.1, (mz_fc ad fr.2.2.2 c0 fs).set q.2.2.2.1 (.int (mz_I v)))) = mz_ws ad cA S (mz_up fr.2.2.2 c0 q.2.2.2.1 v) := by
                  rw [mz_fc_up hf hf01]
                  exact mz_ws_up hnd hq0
                exact k H1 locs1 ls ⟨e1 ▸ hP1, e1 ▸ hD1, hS1⟩ hL hn
            rcases hv with rfl | ⟨rfl, hv⟩
            · exact key .int (s0 rfl).1 (s0 rfl).2 rfl rfl
            · rcases hv with rfl | rfl
              · exact key .boolean (s1 rfl).1 (s1 rfl).2 rfl rfl
              · exact key .boolean (s1 rfl).1 (s1 rfl).2 rfl rfl
          next => cases h
        next => cases h
      next => cases h
    next => cases h
  next => cases h
/-- the script, if the frame has one: an int array that no cell of the world is -/
def mz_Xc (X : mz_X) (ad : Nat → Nat) (A : Nat → Prop) (s : State) : Prop := ∀ (n : Nat) (xs : Nat → Int), X = some (n, xs) → va_X (ad 1000) n (fun j => mz_I (xs j)) s s.heap ∧ ad 1000 < s.heap.size ∧ ¬ A (ad 1000)
theorem mz_al_ok (hok : mz_sok S = true) (hXc : mz_Xc X ad A s) (hx : p.tables.exec = Jvm.exec) (hb : c.code = cc) (hK : va_K D mz_cl [(cA, .int)] s) (hd : decode cc fr.1 = .ok (.iaload, 1)) (h : mz_al S X fr = some fr')
    (k : mz_Gd p l e R s m args below meth c cells slots Q D ad cA S A n fr') : mz_Gd p l e R s m args below meth c cells slots Q D ad cA S A n fr := by
  unfold mz_al at h
  split at h
  next i c0 st hst =>
    split at h
    next =>
      split at h
      next nn xs =>
        split at h
        next hi =>
          cases h
          intro H locs ls hW hL hn
          rw [hst]
          obtain ⟨hX, hbl, hbA⟩ := hXc nn xs rfl
          have k2 := k H locs ls hW hL hn
          refine va_sld hx hb hX hbl hbA hW.2.2 (i := mz_I i) (mz_I_in hi.1 hi.2.1 hi.2.2) hd ?_
          rw [mz_I_clamp hi.1 (by omega)]
          exact k2
        next => cases h
      next => cases h
    next =>
      split at h
      next nn hl =>
        split at h
        next hi =>
          cases h
          intro H locs ls hW hL hn
          rw [hst]
          obtain ⟨q0, hq0⟩ := mz_lk hl
          have hnn := mz_sok_arr hok hq0
          have k2 := k H locs ls hW hL hn
          refine va_iald hx hb hK hW.1 q0 0 (cA := cA) (n := nn) (f := fun j => mz_I (fr.2.2.2 c0 j)) (mz_ws_at hq0) rfl (i := mz_I i) (mz_I_in hi.1 hi.2 hnn) hd ?_
          rw [mz_I_clamp hi.1 (by omega)]
          exact k2
        next => cases h
      next => cases h
  next => cases h
theorem mz_as_ok (hok : mz_sok S = true) (hx : p.tables.exec = Jvm.exec) (hb : c.code = cc) (hK : va_K D mz_cl [(cA, .int)] s) (hd : decode cc fr.1 = .ok (.iastore, 1)) (h : mz_as S fr = some fr')
    (k : mz_Gd p l e R s m args below meth c cells slots Q D ad cA S A n fr') : mz_Gd p l e R s m args below meth c cells slots Q D ad cA S A n fr := by
  unfold mz_as at h
  split at h
  next v i c0 st hst =>
    split at h
    next nn hl =>
      split at h
      next hi =>
        cases h
        intro H locs ls hW hL hn
        rw [hst]
        obtain ⟨q0, hq0⟩ := mz_lk hl
        have hnn := mz_sok_arr hok hq0
        have hnd := mz_nd_of hok
        refine va_iast hx hb hK hW.1 hW.2.1 hW.2.2 q0 0 (cA := cA) (n := nn) (f := fun j => mz_I (fr.2.2.2 c0 j)) (mz_ws_at hq0) rfl (i := mz_I i) (x := mz_I v) (mz_I_in hi.1 hi.2 hnn) hd (fun H1 locs1 hP1 hD1 hS1 => ?_)
        have e0 : upd (fun j => mz_I (fr.2.2.2 c0 j)) (mz_I i).toNatClampNeg (mz_I v) = fun j => mz_I (mz_up fr.2.2.2 c0 i.toNat v c0 j) := by
          rw [mz_I_clamp hi.1 (by omega)]
          funext j
          by_cases hj : j = i.toNat
          · subst hj; simp [upd, mz_up]
          · simp [upd, mz_up, hj]
        have e1 : (mz_ws ad cA S fr.2.2.2).set q0 (ad c0, .inl (cA, nn, .inl (upd (fun j => mz_I (fr.2.2.2 c0 j)) (mz_I i).toNatClampNeg (mz_I v)))) = mz_ws ad cA S (mz_up fr.2.2.2 c0 i.toNat v) := by
          rw [e0]
          exact mz_ws_up hnd hq0
        exact k H1 locs1 ls ⟨e1 ▸ hP1, e1 ▸ hD1, hS1⟩ hL hn
      next => cases h
    next => cases h
  next => cases h
theorem mz_an_ok (hXc : mz_Xc X ad A s) (hx : p.tables.exec = Jvm.exec) (hb : c.code = cc) (hK : va_K D mz_cl [(cA, .int)] s) (hd : decode cc fr.1 = .ok (.arraylength, 1)) (h : mz_an S X fr = some fr')
    (k : mz_Gd p l e R s m args below meth c cells slots Q D ad cA S A n fr') : mz_Gd p l e R s m args below meth c cells slots Q D ad cA S A n fr := by
  unfold mz_an at h
  split at h
  next c0 st hst =>
    split at h
    next =>
      split at h
      next nn xs =>
        cases h
        intro H locs ls hW hL hn
        rw [hst]
        obtain ⟨hX, hbl, hbA⟩ := hXc nn xs rfl
        have k2 := k H locs ls hW hL hn
        refine va_slen hx hb hX hbl hbA hW.2.2 hd ?_
        rw [mz_I_nat]
        exact k2
      next => cases h
    next =>
      split at h
      next nn hl =>
        cases h
        intro H locs ls hW hL hn
        rw [hst]
        obtain ⟨q0, hq0⟩ := mz_lk hl
        exact va_alen hx hb hK hW.1 q0 0 (cA := cA) (x := (nn, .inl (fun j => mz_I (fr.2.2.2 c0 j)))) (mz_ws_at hq0) (ty := .int) rfl (mz_I_nat nn) hd (k H locs ls hW hL hn)
      next => cases h
  next => cases h
set_option maxHeartbeats 4000000 in
theorem mz_step_ok {i : Instr} {nn : Nat} (hok : mz_sok S = true) (hXc : mz_Xc X ad A s) (hx : p.tables.exec = Jvm.exec) (hb : c.code = cc) (hown : s.vm.findClass o = some m.cls) (ho : mz_owns[own]? = some o) (hts : ∀ w ∈ mz_tb, w.before args s = true) (hK : va_K D mz_cl [(cA, .int)] s) (hd : decode cc fr.1 = .ok (i, nn)) (h : mz_step S X own i nn fr = some fr')
    (k : mz_Gd p l e R s m args below meth c cells slots Q D ad cA S A n fr') : mz_Gd p l e R s m args below meth c cells slots Q D ad cA S A n fr := by
  unfold mz_step at h
  split at h
  · split at h
    next hn => subst hn; exact mz_ldi_ok h (fun hl kk => lv_iload_n hx hb hd rfl hl kk) k
    next => cases h
  · split at h
    next hn => subst hn; exact mz_ldi_ok h (fun hl kk => lv_iload hx hb hd hl kk) k
    next => cases h
  · split at h
    next hn => subst hn; exact mz_lda_ok h (fun hl kk => lv_aload_n hx hb hd rfl hl kk) k
    next => cases h
  · split at h
    next hn => subst hn; exact mz_sti_ok h (fun hl hi kk => lv_istore_n hx hb hd rfl hl hi rfl kk) k
    next => cases h
  · split at h
    next hn => subst hn; exact mz_sti_ok h (fun hl hi kk => lv_istore hx hb hd hl hi rfl kk) k
    next => cases h
  · split at h
    next hn => subst hn; exact mz_ps_ok h (fun kk => lv_iconst hx hb hd rfl kk) k
    next => cases h
  · split at h
    next hn => obtain ⟨rfl, h0, h1⟩ := hn; exact mz_ps_ok h (fun kk => lv_bipush hx hb hd (mz_I_i8 h0 h1) kk) k
    next => cases h
  · split at h
    next hn => obtain ⟨rfl, h0, h1⟩ := hn; exact mz_ps_ok h (fun kk => lv_sipush hx hb hd (mz_I_i16 h0 h1) kk) k
    next => cases h
  · split at h
    next hn => subst hn; exact mz_bi_ok h (fun x y z hf H locs ls rest kk => by cases hf; exact lv_iadd hx hb hd (by rw [mz_I_add]; exact kk)) k
    next => cases h
  · split at h
    next hn => subst hn; exact mz_bi_ok h (fun x y z hf H locs ls rest kk => by cases hf; exact lv_isub hx hb hd (by rw [mz_I_sub]; exact kk)) k
    next => cases h
  · split at h
    next hn => subst hn; exact mz_bi_ok h (fun x y z hf H locs ls rest kk => by cases hf; exact lv_imul hx hb hd (by rw [mz_I_mul]; exact kk)) k
    next => cases h
  · split at h
    next hn =>
      subst hn
      refine mz_bi_ok h (fun x y z hf H locs ls rest kk => ?_) k
      unfold mz_div at hf
      split at hf
      next q => cases hf; exact lv_idiv hx hb hd (mz_I_ne0 q.2.1 q.2.2) (by rw [mz_I_div q.1 q.2.1 q.2.2]; exact kk)
      next => cases hf
    next => cases h
  · split at h
    next hn =>
      subst hn
      refine mz_bi_ok h (fun x y z hf H locs ls rest kk => ?_) k
      unfold mz_rem at hf
      split at hf
      next q => cases hf; exact lv_irem hx hb hd (mz_I_ne0 q.1 q.2) (by rw [← mz_I_bmod x, mz_I_rem (mz_R_bmod x) q.1 q.2]; exact kk)
      next => cases hf
    next => cases h
  · split at h
    next hn =>
      subst hn
      refine mz_bi_ok h (fun x y z hf H locs ls rest kk => ?_) k
      unfold mz_and at hf
      split at hf
      next q => subst q; cases hf; exact lv_iand hx hb hd (by rw [mz_I_and31]; exact kk)
      next =>
        split at hf
        next q => subst q; cases hf; exact lv_iand hx hb hd (by rw [mz_I_and15]; exact kk)
        next => cases hf
    next => cases h
  · split at h
    next hn => subst hn; exact mz_bi_ok h (fun x y z hf H locs ls rest kk => lv_ior hx hb hd (by rw [mz_I_or hf]; exact kk)) k
    next => cases h
  · split at h
    next hn => subst hn; exact mz_bi_ok h (fun x y z hf H locs ls rest kk => by cases hf; exact lv_ixor hx hb hd (by rw [mz_I_self] at kk; exact kk)) k
    next => cases h
  · split at h
    next hn =>
      subst hn
      refine mz_bi_ok h (fun x y z hf H locs ls rest kk => ?_) k
      unfold mz_shl at hf
      split at hf
      next q => subst q; cases hf; exact lv_ishl hx hb hd (by rw [mz_I_shl5]; exact kk)
      next =>
        split at hf
        next q => subst q; cases hf; exact lv_ishl hx hb hd (by rw [mz_I_shl10]; exact kk)
        next => cases hf
    next => cases h
  · split at h
    next hn =>
      subst hn
      refine mz_bi_ok h (fun x y z hf H locs ls rest kk => ?_) k
      unfold mz_shr at hf
      split at hf
      next hr =>
        split at hf
        next q => subst q; cases hf; exact lv_ishr hx hb hd (by rw [mz_I_shr5 hr]; exact kk)
        next =>
          split at hf
          next q => subst q; cases hf; exact lv_ishr hx hb hd (by rw [mz_I_shr10 hr]; exact kk)
          next => cases hf
      next => cases hf
    next => cases h
  · split at h
    next hn => subst hn; exact mz_ng_ok hx hb hd h k
    next => cases h
  · split at h
    next hn => subst hn; exact mz_inc_ok hx hb hd h k
    next => cases h
  · split at h
    next hn => subst hn; exact mz_if_ok hx hb hd h k
    next => cases h
  · split at h
    next hn => subst hn; exact mz_ic_ok hx hb hd h k
    next => cases h
  · split at h
    next hn => subst hn; exact mz_to_ok h (fun ht kk => lv_goto hx hb hd ht kk) k
    next => cases h
  · exact mz_ts_ok hx hb hd h k
  · split at h
    next hn => subst hn; exact mz_gf_ok hx hb hown ho hts hK hd h k
    next => cases h
  · split at h
    next hn => subst hn; exact mz_pf_ok hok hx hb hown ho hts hK hd h k
    next => cases h
  · split at h
    next hn => subst hn; exact mz_al_ok hok hXc hx hb hK hd h k
    next => cases h
  · split at h
    next hn => subst hn; exact mz_as_ok hok hx hb hK hd h k
    next => cases h
  · split at h
    next hn => subst hn; exact mz_an_ok hXc hx hb hK hd h k
    next => cases h
  · split at h
    next hn => subst hn; exact mz_dp_ok hx hb hd h k
    next => cases h
  · split at h
    next hn => subst hn; exact mz_d2_ok hx hb hd h k
    next => cases h
  · cases h
end MZS
