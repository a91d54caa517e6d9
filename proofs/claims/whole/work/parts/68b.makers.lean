/-! the constructors, over the real machine -/
theorem mz_cA {args : Array Value} {s : State} (h : (Cond.arrayClass .int).before args s = true) : ∃ cA : ClassId, ArrOfT s cA .int ∧ va_RA s cA .int := by
  obtain ⟨cA, kA, comp, h1, h2, h3⟩ := Cond.arrayClass_spec h
  exact ⟨cA, fun n z => ⟨fun k h => (by cases h), kA, h2, comp, h3⟩, h1⟩
theorem mz_newi {p : Program} {l : Launch} {e : Env} {R : Room} {s : State} {m : MethodId} {args : Array Value} {below : List Frame} {meth : Method} {c : Code} {cells slots : Nat} {Q : State → Prop} {cc : ByteArray} {D : va_G} {cA : ClassId} {A : Nat → Prop} {H0 H : Heap} {locs : List Loc} {ls : Array Slot} {ws : va_W} {pc : Nat} {rest : List Value} (hexec : p.tables.exec = Jvm.exec) (hb : c.code = cc) (harr : (Cond.arrayClass .int).before args s = true) (hK : va_K D mz_cl [(cA, .int)] s) (hP : va_P D mz_cl ws H) (hD : va_D A ws) (hS : va_S A H0 H locs) (hA : ∀ q, H0.size ≤ q → A q)
    {n : Int32} {N' : Nat} (hn : ¬ n < 0) (hN : n.toNatClampNeg = N') (hbytes : N' * 4 ≤ 536870912) (hcells : cells + 1 ≤ R.cells) (hslots : slots + N' ≤ R.slots) (hdg : decode cc pc = .ok (.newarray .int, 2))
    (kk : ∀ (q : Nat) (H1 : Heap), va_P D mz_cl (ws ++ [(q, .inl (cA, N', .inl (fun _ => mz_I 0)))]) H1 → va_D A (ws ++ [(q, .inl (cA, N', .inl (fun _ => mz_I 0)))]) → va_S A H0 H1 locs → W p l e R s m args below meth c H1 locs (cells + 1) (slots + N') Q (F0 m (pc + 2) ls (.ref q :: rest))) : W p l e R s m args below meth c H locs cells slots Q (F0 m pc ls (.int n :: rest)) := by
  refine va_newa (atype := .int) (ty := .int) (a0 := (N', .inl (fun _ => mz_I 0))) hexec hb harr rfl hK hP hD hS hA (fun _ => rfl) hn hN hbytes hcells hslots hdg (fun q cA' H1 hK' hP' hD' hS' => ?_)
  have e1 : s.vm.findClass ("[" ++ FieldType.int.toString) = some cA := (hK.2 0 (cA, .int) rfl).2
  have e2 : s.vm.findClass ("[" ++ FieldType.int.toString) = some cA' := (hK'.2 1 (cA', .int) rfl).2
  have e3 : cA' = cA := Option.some.inj (e2.symm.trans e1)
  subst e3
  exact kk q H1 hP' hD' hS'

def cn_nest : List Cond := mz_nest ++ [.methodLinkNest RX5 11 yX1_init RX5, .methodLinkNest RX5 18 yX0_init RX5, .methodLinkNest RX5 25 yX3_init RX5, .methodLinkNest RX1 11 yX2_init RX5, .methodLinkNest RX1 26 yX4_init RX5]
theorem nst_0 : Cond.methodLinkNest RX5 11 yX1_init RX5 ∈ cn_nest := List.mem_of_getElem? (i := 2) rfl
theorem nst_1 : Cond.methodLinkNest RX5 18 yX0_init RX5 ∈ cn_nest := List.mem_of_getElem? (i := 3) rfl
theorem nst_2 : Cond.methodLinkNest RX5 25 yX3_init RX5 ∈ cn_nest := List.mem_of_getElem? (i := 4) rfl
theorem nst_3 : Cond.methodLinkNest RX1 11 yX2_init RX5 ∈ cn_nest := List.mem_of_getElem? (i := 5) rfl
theorem nst_4 : Cond.methodLinkNest RX1 26 yX4_init RX5 ∈ cn_nest := List.mem_of_getElem? (i := 6) rfl
theorem cn_warm {s U : State} (hW : s.WarmedH U.vm) (h : ∀ w ∈ cn_nest, va_Nw w s) : ∀ w ∈ cn_nest, va_Nw w U := by
  intro w hw
  have h1 := h w hw
  simp only [cn_nest, mz_nest, List.cons_append, List.nil_append, List.mem_cons, List.not_mem_nil, or_false] at hw
  rcases hw with rfl | rfl | rfl | rfl | rfl | rfl | rfl <;> exact va_Nw.warmM hW h1
theorem cn_same {s U : State} (hW : s.vm = U.vm) (h : ∀ w ∈ cn_nest, va_Nw w s) : ∀ w ∈ cn_nest, va_Nw w U := by
  intro w hw
  have h1 := h w hw
  simp only [cn_nest, mz_nest, List.cons_append, List.nil_append, List.mem_cons, List.not_mem_nil, or_false] at hw
  rcases hw with rfl | rfl | rfl | rfl | rfl | rfl | rfl <;> exact va_Nw.same rfl hW h1
theorem cn_mz {s : State} (h : ∀ w ∈ cn_nest, va_Nw w s) : ∀ w ∈ mz_nest, va_Nw w s := fun w hw => h w (List.mem_append_left _ hw)
theorem iu_X0 : ∀ w ∈ u_ws RX0 TX0 2, w ∈ mz_tb := (mz_cls_in 0 (RX0, TX0, 2) rfl).1
theorem iu_X1 : ∀ w ∈ u_ws RX1 TX1 10, w ∈ mz_tb := (mz_cls_in 1 (RX1, TX1, 10) rfl).1
theorem iu_X2 : ∀ w ∈ u_ws RX2 TX2 2, w ∈ mz_tb := (mz_cls_in 2 (RX2, TX2, 2) rfl).1
theorem iu_X3 : ∀ w ∈ u_ws RX3 TX3 8, w ∈ mz_tb := (mz_cls_in 3 (RX3, TX3, 8) rfl).1
theorem iu_X4 : ∀ w ∈ u_ws RX4 TX4 2, w ∈ mz_tb := (mz_cls_in 4 (RX4, TX4, 2) rfl).1
theorem iu_X5 : ∀ w ∈ u_ws RX5 TX5 8, w ∈ mz_tb := (mz_cls_in 5 (RX5, TX5, 8) rfl).1
theorem iu_X6 : ∀ w ∈ u_ws RX6 TX6 23, w ∈ mz_tb := (mz_cls_in 6 (RX6, TX6, 23) rfl).1
theorem diX2_0 : decode cX2_init 0 = .ok (.aload_n 0, 1) := by decide +kernel
theorem diX2_1 : decode cX2_init 1 = .ok (.invokespecial 3, 3) := by decide +kernel
theorem diX2_4 : decode cX2_init 4 = .ok (.aload_n 0, 1) := by decide +kernel
theorem diX2_5 : decode cX2_init 5 = .ok (.bipush 32, 2) := by decide +kernel
theorem diX2_7 : decode cX2_init 7 = .ok (.newarray .int, 2) := by decide +kernel
theorem diX2_9 : decode cX2_init 9 = .ok (.putfield 9, 3) := by decide +kernel
theorem diX2_12 : decode cX2_init 12 = .ok (.aload_n 0, 1) := by decide +kernel
theorem diX2_13 : decode cX2_init 13 = .ok (.bipush 32, 2) := by decide +kernel
theorem diX2_15 : decode cX2_init 15 = .ok (.newarray .int, 2) := by decide +kernel
theorem diX2_17 : decode cX2_init 17 = .ok (.putfield 15, 3) := by decide +kernel
theorem diX2_20 : decode cX2_init 20 = .ok (.return_, 1) := by decide +kernel
theorem iw_0 : Cond.methodLink RX2 3 objectInit ∈ mz_tb := mz_tb_of (i := 93) (by decide +kernel) (by first | rfl | decide +kernel | simp [goodWord, Cond.onTables, Cond.keeps, Cond.steady])
theorem iw_1 : Cond.instanceMethod objectInit ∈ mz_tb := mz_tb_of (i := 80) (by decide +kernel) (by first | rfl | decide +kernel | simp [goodWord, Cond.onTables, Cond.keeps, Cond.steady])
theorem iw_2 : Cond.code objectInit ⟨#[0xb1]⟩ 1 none ∈ mz_tb := mz_tb_of (i := 81) (by decide +kernel) (by first | rfl | decide +kernel | simp [goodWord, Cond.onTables, Cond.keeps, Cond.steady])
theorem iw_3 : Cond.arrayClass .int ∈ mz_tb := mz_tb_of (i := 109) (by decide +kernel) (by first | rfl | decide +kernel | simp [goodWord, Cond.onTables, Cond.keeps, Cond.steady])
theorem iw_4 : Cond.fieldLink RX2 9 "BentPicture$Points" "xs" "[I" ∈ mz_tb := mz_tb_of (i := 94) (by decide +kernel) (by first | rfl | decide +kernel | simp [goodWord, Cond.onTables, Cond.keeps, Cond.steady])
theorem iw_5 : Cond.fieldLink RX2 15 "BentPicture$Points" "ys" "[I" ∈ mz_tb := mz_tb_of (i := 99) (by decide +kernel) (by first | rfl | decide +kernel | simp [goodWord, Cond.onTables, Cond.keeps, Cond.steady])
set_option maxHeartbeats 4000000 in
set_option maxRecDepth 100000 in
theorem cn_X2 (l : Launch) (D : va_G) (cA : ClassId) (h0 sz : Nat) : Met l yX2_init (Cond.code yX2_init cX2_init 1 none :: mz_tb) { frames := 1, cells := 2, slots := 64, locals := 12 } (va_Pc [.ref h0] (fun U => U.heap.size = sz ∧ va_P D mz_cl [(h0, .inr (2, [.null, .null]))] U.heap ∧ va_K D mz_cl [(cA, .int)] U ∧ va_D (fun _ => True) [(h0, .inr (2, [.null, .null]))] ∧ ∀ w ∈ cn_nest, va_Nw w U)) (va_Qv (S := Nat → Nat) (fun _ => True) (fun u t => va_P D mz_cl [(h0, .inr (2, [.ref (u 0), .ref (u 1)])), ((u 0), .inl (cA, 32, .inl (fun _ => mz_I 0))), ((u 1), .inl (cA, 32, .inl (fun _ => mz_I 0)))] t.heap ∧ va_D (va_A [(h0, .inr (2, [.null, .null]))] sz) [(h0, .inr (2, [.ref (u 0), .ref (u 1)])), ((u 0), .inl (cA, 32, .inl (fun _ => mz_I 0))), ((u 1), .inl (cA, 32, .inl (fun _ => mz_I 0)))]) (va_A [(h0, .inr (2, [.null, .null]))] sz)) 2 64 (va_A [(h0, .inr (2, [.null, .null]))] sz) := by
  refine mz_ofW (cc := cX2_init) (maxL := 1) (ret := none) (by decide +kernel) rfl ?_
  intro p e s m args below meth c s₁ B hml hv
  obtain ⟨rfl, hsz, hP, hK, hD0, hnw⟩ := hv
  have hx := B.exec
  have hb := B.bytes
  have hr := B.returns
  have hts := atoms_spec (ws := Cond.code yX2_init cX2_init 1 none :: mz_tb) B.pre
  have htb : ∀ w ∈ mz_tb, w.before _ s = true := fun w h => hts w (List.mem_cons_of_mem _ h)
  have hown : s.vm.findClass RX2 = some m.cls := findClass_of_methodNamed B.named
  have hlocks := B.notSynchronized
  have hin : meth.name = "<init>" := (name_of_methodNamed B.named B.method).1
  subst hsz
  have hD := hD0.self (sz := s.heap.size)
  generalize hAe : va_A [(h0, .inr (2, [.null, .null]))] s.heap.size = A at hD ⊢
  have hA : ∀ q : Nat, s.heap.size ≤ q → A q := fun q h => by rw [← hAe]; exact Or.inr h
  have hS : va_S A s.heap s.heap [] := va_S.rf
  have hl := lv_entry ([.ref h0]) (n := 1) (Nat.le_of_ble_eq_true rfl)
  rw [lg_entry_eq]
  generalize (lg_sl ([.ref h0]) ++ List.replicate (1 - (lg_sl ([.ref h0])).length) Slot.unset).toArray = ls at hl ⊢
  have hl : lv_has ls 1 [(0, .ref h0)] := hl
  refine lv_aload_n hx hb diX2_0 rfl (lv_at hl 0 rfl) ?_
  refine W.objInit hx hb hown (htb _ iw_0) (htb _ iw_1) (htb _ iw_2) rfl (by rw [hml]; exact hl.1) rfl diX2_1 (Nat.le_of_ble_eq_true rfl) (Nat.le_of_ble_eq_true rfl) ?_
  refine W.eq (g2 := F0 m 4 ls []) rfl ?_
  refine lv_aload_n hx hb diX2_4 rfl (lv_at hl 0 rfl) ?_
  refine lv_bipush (v := mz_I 32) hx hb diX2_5 (mz_I_i8 (by decide) (by decide)) ?_
  refine mz_newi (N' := 32) hx hb (htb _ iw_3) hK hP hD hS hA (by decide) rfl (Nat.le_of_ble_eq_true rfl) (Nat.le_of_ble_eq_true rfl) (Nat.le_of_ble_eq_true rfl) diX2_7 (fun q7 H hP hD hS => ?_)
  have hP : va_P D mz_cl [(h0, .inr (2, [.null, .null])), (q7, .inl (cA, 32, .inl (fun _ => mz_I 0)))] H := hP
  have hD : va_D A [(h0, .inr (2, [.null, .null])), (q7, .inl (cA, 32, .inl (fun _ => mz_I 0)))] := hD
  refine W.widen (k := 1) (n := 32) (Nat.le_of_ble_eq_true rfl) (Nat.le_of_ble_eq_true rfl) ?_
  refine va_putF (D := D) (ci := 2) (v := .ref q7) (ty := .array .int) (C := RX2) (T := TX2) (N := 2) hx hb htb iu_X2 tyX2 tyX2_ok nmX2 hown hK hP hD hS 0 rfl rfl 0 (by decide) (htb _ iw_4) (fun _ h9 => h9) rfl hin rfl (by decide +kernel) rfl rfl (Nat.le_of_ble_eq_true rfl) diX2_9 (fun H locs hP hD hS => ?_)
  have hP : va_P D mz_cl [(h0, .inr (2, [.ref q7, .null])), (q7, .inl (cA, 32, .inl (fun _ => mz_I 0)))] H := hP
  have hD : va_D A [(h0, .inr (2, [.ref q7, .null])), (q7, .inl (cA, 32, .inl (fun _ => mz_I 0)))] := hD
  refine lv_aload_n hx hb diX2_12 rfl (lv_at hl 0 rfl) ?_
  refine lv_bipush (v := mz_I 32) hx hb diX2_13 (mz_I_i8 (by decide) (by decide)) ?_
  refine mz_newi (N' := 32) hx hb (htb _ iw_3) hK hP hD hS hA (by decide) rfl (Nat.le_of_ble_eq_true rfl) (Nat.le_of_ble_eq_true rfl) (Nat.le_of_ble_eq_true rfl) diX2_15 (fun q15 H hP hD hS => ?_)
  have hP : va_P D mz_cl [(h0, .inr (2, [.ref q7, .null])), (q7, .inl (cA, 32, .inl (fun _ => mz_I 0))), (q15, .inl (cA, 32, .inl (fun _ => mz_I 0)))] H := hP
  have hD : va_D A [(h0, .inr (2, [.ref q7, .null])), (q7, .inl (cA, 32, .inl (fun _ => mz_I 0))), (q15, .inl (cA, 32, .inl (fun _ => mz_I 0)))] := hD
  refine W.widen (k := 2) (n := 64) (Nat.le_of_ble_eq_true rfl) (Nat.le_of_ble_eq_true rfl) ?_
  refine va_putF (D := D) (ci := 2) (v := .ref q15) (ty := .array .int) (C := RX2) (T := TX2) (N := 2) hx hb htb iu_X2 tyX2 tyX2_ok nmX2 hown hK hP hD hS 0 rfl rfl 1 (by decide) (htb _ iw_5) (fun _ h9 => h9) rfl hin rfl (by decide +kernel) rfl rfl (Nat.le_of_ble_eq_true rfl) diX2_17 (fun H locs hP hD hS => ?_)
  have hP : va_P D mz_cl [(h0, .inr (2, [.ref q7, .ref q15])), (q7, .inl (cA, 32, .inl (fun _ => mz_I 0))), (q15, .inl (cA, 32, .inl (fun _ => mz_I 0)))] H := hP
  have hD : va_D A [(h0, .inr (2, [.ref q7, .ref q15])), (q7, .inl (cA, 32, .inl (fun _ => mz_I 0))), (q15, .inl (cA, 32, .inl (fun _ => mz_I 0)))] := hD
  exact W.vret hx hb hr (fun t ht hW => ⟨⟨(fun k => [q7, q15].getD k 0), rfl, trivial, by rw [ht]; exact hP, hD⟩, hS.F ht⟩) hS.2.2 diX2_20 (hlocks := hlocks)
theorem diX4_0 : decode cX4_init 0 = .ok (.aload_n 0, 1) := by decide +kernel
theorem diX4_1 : decode cX4_init 1 = .ok (.invokespecial 3, 3) := by decide +kernel
theorem diX4_4 : decode cX4_init 4 = .ok (.aload_n 0, 1) := by decide +kernel
theorem diX4_5 : decode cX4_init 5 = .ok (.bipush 64, 2) := by decide +kernel
theorem diX4_7 : decode cX4_init 7 = .ok (.newarray .int, 2) := by decide +kernel
theorem diX4_9 : decode cX4_init 9 = .ok (.putfield 9, 3) := by decide +kernel
theorem diX4_12 : decode cX4_init 12 = .ok (.aload_n 0, 1) := by decide +kernel
theorem diX4_13 : decode cX4_init 13 = .ok (.iconst 0, 1) := by decide +kernel
theorem diX4_14 : decode cX4_init 14 = .ok (.putfield 15, 3) := by decide +kernel
theorem diX4_17 : decode cX4_init 17 = .ok (.return_, 1) := by decide +kernel
theorem iw_6 : Cond.methodLink RX4 3 objectInit ∈ mz_tb := mz_tb_of (i := 115) (by decide +kernel) (by first | rfl | decide +kernel | simp [goodWord, Cond.onTables, Cond.keeps, Cond.steady])
theorem iw_7 : Cond.fieldLink RX4 9 "BentPicture$Triangles" "packed" "[I" ∈ mz_tb := mz_tb_of (i := 116) (by decide +kernel) (by first | rfl | decide +kernel | simp [goodWord, Cond.onTables, Cond.keeps, Cond.steady])
theorem iw_8 : Cond.fieldLink RX4 15 "BentPicture$Triangles" "held" "I" ∈ mz_tb := mz_tb_of (i := 117) (by decide +kernel) (by first | rfl | decide +kernel | simp [goodWord, Cond.onTables, Cond.keeps, Cond.steady])
set_option maxHeartbeats 4000000 in
set_option maxRecDepth 100000 in
theorem cn_X4 (l : Launch) (D : va_G) (cA : ClassId) (h0 sz : Nat) : Met l yX4_init (Cond.code yX4_init cX4_init 1 none :: mz_tb) { frames := 1, cells := 1, slots := 64, locals := 12 } (va_Pc [.ref h0] (fun U => U.heap.size = sz ∧ va_P D mz_cl [(h0, .inr (4, [.null, .int (mz_I 0)]))] U.heap ∧ va_K D mz_cl [(cA, .int)] U ∧ va_D (fun _ => True) [(h0, .inr (4, [.null, .int (mz_I 0)]))] ∧ ∀ w ∈ cn_nest, va_Nw w U)) (va_Qv (S := Nat → Nat) (fun _ => True) (fun u t => va_P D mz_cl [(h0, .inr (4, [.ref (u 0), .int (mz_I 0)])), ((u 0), .inl (cA, 64, .inl (fun _ => mz_I 0)))] t.heap ∧ va_D (va_A [(h0, .inr (4, [.null, .int (mz_I 0)]))] sz) [(h0, .inr (4, [.ref (u 0), .int (mz_I 0)])), ((u 0), .inl (cA, 64, .inl (fun _ => mz_I 0)))]) (va_A [(h0, .inr (4, [.null, .int (mz_I 0)]))] sz)) 1 64 (va_A [(h0, .inr (4, [.null, .int (mz_I 0)]))] sz) := by
  refine mz_ofW (cc := cX4_init) (maxL := 1) (ret := none) (by decide +kernel) rfl ?_
  intro p e s m args below meth c s₁ B hml hv
  obtain ⟨rfl, hsz, hP, hK, hD0, hnw⟩ := hv
  have hx := B.exec
  have hb := B.bytes
  have hr := B.returns
  have hts := atoms_spec (ws := Cond.code yX4_init cX4_init 1 none :: mz_tb) B.pre
  have htb : ∀ w ∈ mz_tb, w.before _ s = true := fun w h => hts w (List.mem_cons_of_mem _ h)
  have hown : s.vm.findClass RX4 = some m.cls := findClass_of_methodNamed B.named
  have hlocks := B.notSynchronized
  have hin : meth.name = "<init>" := (name_of_methodNamed B.named B.method).1
  subst hsz
  have hD := hD0.self (sz := s.heap.size)
  generalize hAe : va_A [(h0, .inr (4, [.null, .int (mz_I 0)]))] s.heap.size = A at hD ⊢
  have hA : ∀ q : Nat, s.heap.size ≤ q → A q := fun q h => by rw [← hAe]; exact Or.inr h
  have hS : va_S A s.heap s.heap [] := va_S.rf
  have hl := lv_entry ([.ref h0]) (n := 1) (Nat.le_of_ble_eq_true rfl)
  rw [lg_entry_eq]
  generalize (lg_sl ([.ref h0]) ++ List.replicate (1 - (lg_sl ([.ref h0])).length) Slot.unset).toArray = ls at hl ⊢
  have hl : lv_has ls 1 [(0, .ref h0)] := hl
  refine lv_aload_n hx hb diX4_0 rfl (lv_at hl 0 rfl) ?_
  refine W.objInit hx hb hown (htb _ iw_6) (htb _ iw_1) (htb _ iw_2) rfl (by rw [hml]; exact hl.1) rfl diX4_1 (Nat.le_of_ble_eq_true rfl) (Nat.le_of_ble_eq_true rfl) ?_
  refine W.eq (g2 := F0 m 4 ls []) rfl ?_
  refine lv_aload_n hx hb diX4_4 rfl (lv_at hl 0 rfl) ?_
  refine lv_bipush (v := mz_I 64) hx hb diX4_5 (mz_I_i8 (by decide) (by decide)) ?_
  refine mz_newi (N' := 64) hx hb (htb _ iw_3) hK hP hD hS hA (by decide) rfl (Nat.le_of_ble_eq_true rfl) (Nat.le_of_ble_eq_true rfl) (Nat.le_of_ble_eq_true rfl) diX4_7 (fun q7 H hP hD hS => ?_)
  have hP : va_P D mz_cl [(h0, .inr (4, [.null, .int (mz_I 0)])), (q7, .inl (cA, 64, .inl (fun _ => mz_I 0)))] H := hP
  have hD : va_D A [(h0, .inr (4, [.null, .int (mz_I 0)])), (q7, .inl (cA, 64, .inl (fun _ => mz_I 0)))] := hD
  refine W.widen (k := 1) (n := 64) (Nat.le_of_ble_eq_true rfl) (Nat.le_of_ble_eq_true rfl) ?_
  refine va_putF (D := D) (ci := 4) (v := .ref q7) (ty := .array .int) (C := RX4) (T := TX4) (N := 2) hx hb htb iu_X4 tyX4 tyX4_ok nmX4 hown hK hP hD hS 0 rfl rfl 0 (by decide) (htb _ iw_7) (fun _ h9 => h9) rfl hin rfl (by decide +kernel) rfl rfl (Nat.le_of_ble_eq_true rfl) diX4_9 (fun H locs hP hD hS => ?_)
  have hP : va_P D mz_cl [(h0, .inr (4, [.ref q7, .int (mz_I 0)])), (q7, .inl (cA, 64, .inl (fun _ => mz_I 0)))] H := hP
  have hD : va_D A [(h0, .inr (4, [.ref q7, .int (mz_I 0)])), (q7, .inl (cA, 64, .inl (fun _ => mz_I 0)))] := hD
  refine lv_aload_n hx hb diX4_12 rfl (lv_at hl 0 rfl) ?_
  refine lv_iconst (v := mz_I 0) hx hb diX4_13 rfl ?_
  refine va_put (D := D) (ci := 4) (v := .int (mz_I 0)) (ty := .int) (C := RX4) (T := TX4) (N := 2) hx hb htb iu_X4 tyX4 tyX4_ok nmX4 hown hK hP hD hS 0 rfl rfl 1 (by decide) (htb _ iw_8) (fun _ h9 => h9) rfl (by decide +kernel) rfl rfl (Nat.le_of_ble_eq_true rfl) diX4_14 (fun H locs hP hD hS => ?_)
  have hP : va_P D mz_cl [(h0, .inr (4, [.ref q7, .int (mz_I 0)])), (q7, .inl (cA, 64, .inl (fun _ => mz_I 0)))] H := hP
  have hD : va_D A [(h0, .inr (4, [.ref q7, .int (mz_I 0)])), (q7, .inl (cA, 64, .inl (fun _ => mz_I 0)))] := hD
  exact W.vret hx hb hr (fun t ht hW => ⟨⟨(fun k => [q7].getD k 0), rfl, trivial, by rw [ht]; exact hP, hD⟩, hS.F ht⟩) hS.2.2 diX4_17 (hlocks := hlocks)
theorem diX0_0 : decode cX0_init 0 = .ok (.aload_n 0, 1) := by decide +kernel
theorem diX0_1 : decode cX0_init 1 = .ok (.invokespecial 3, 3) := by decide +kernel
theorem diX0_4 : decode cX0_init 4 = .ok (.aload_n 0, 1) := by decide +kernel
theorem diX0_5 : decode cX0_init 5 = .ok (.sipush 400, 3) := by decide +kernel
theorem diX0_8 : decode cX0_init 8 = .ok (.newarray .int, 2) := by decide +kernel
theorem diX0_10 : decode cX0_init 10 = .ok (.putfield 9, 3) := by decide +kernel
theorem diX0_13 : decode cX0_init 13 = .ok (.aload_n 0, 1) := by decide +kernel
theorem diX0_14 : decode cX0_init 14 = .ok (.sipush 400, 3) := by decide +kernel
theorem diX0_17 : decode cX0_init 17 = .ok (.newarray .int, 2) := by decide +kernel
theorem diX0_19 : decode cX0_init 19 = .ok (.putfield 15, 3) := by decide +kernel
theorem diX0_22 : decode cX0_init 22 = .ok (.return_, 1) := by decide +kernel
theorem iw_9 : Cond.methodLink RX0 3 objectInit ∈ mz_tb := mz_tb_of (i := 171) (by decide +kernel) (by first | rfl | decide +kernel | simp [goodWord, Cond.onTables, Cond.keeps, Cond.steady])
theorem iw_10 : Cond.fieldLink RX0 9 "BentPicture$Cover" "lies" "[I" ∈ mz_tb := mz_tb_of (i := 172) (by decide +kernel) (by first | rfl | decide +kernel | simp [goodWord, Cond.onTables, Cond.keeps, Cond.steady])
theorem iw_11 : Cond.fieldLink RX0 15 "BentPicture$Cover" "holders" "[I" ∈ mz_tb := mz_tb_of (i := 174) (by decide +kernel) (by first | rfl | decide +kernel | simp [goodWord, Cond.onTables, Cond.keeps, Cond.steady])
set_option maxHeartbeats 4000000 in
set_option maxRecDepth 100000 in
theorem cn_X0 (l : Launch) (D : va_G) (cA : ClassId) (h0 sz : Nat) : Met l yX0_init (Cond.code yX0_init cX0_init 1 none :: mz_tb) { frames := 1, cells := 2, slots := 800, locals := 12 } (va_Pc [.ref h0] (fun U => U.heap.size = sz ∧ va_P D mz_cl [(h0, .inr (0, [.null, .null]))] U.heap ∧ va_K D mz_cl [(cA, .int)] U ∧ va_D (fun _ => True) [(h0, .inr (0, [.null, .null]))] ∧ ∀ w ∈ cn_nest, va_Nw w U)) (va_Qv (S := Nat → Nat) (fun _ => True) (fun u t => va_P D mz_cl [(h0, .inr (0, [.ref (u 0), .ref (u 1)])), ((u 0), .inl (cA, 400, .inl (fun _ => mz_I 0))), ((u 1), .inl (cA, 400, .inl (fun _ => mz_I 0)))] t.heap ∧ va_D (va_A [(h0, .inr (0, [.null, .null]))] sz) [(h0, .inr (0, [.ref (u 0), .ref (u 1)])), ((u 0), .inl (cA, 400, .inl (fun _ => mz_I 0))), ((u 1), .inl (cA, 400, .inl (fun _ => mz_I 0)))]) (va_A [(h0, .inr (0, [.null, .null]))] sz)) 2 800 (va_A [(h0, .inr (0, [.null, .null]))] sz) := by
  refine mz_ofW (cc := cX0_init) (maxL := 1) (ret := none) (by decide +kernel) rfl ?_
  intro p e s m args below meth c s₁ B hml hv
  obtain ⟨rfl, hsz, hP, hK, hD0, hnw⟩ := hv
  have hx := B.exec
  have hb := B.bytes
  have hr := B.returns
  have hts := atoms_spec (ws := Cond.code yX0_init cX0_init 1 none :: mz_tb) B.pre
  have htb : ∀ w ∈ mz_tb, w.before _ s = true := fun w h => hts w (List.mem_cons_of_mem _ h)
  have hown : s.vm.findClass RX0 = some m.cls := findClass_of_methodNamed B.named
  have hlocks := B.notSynchronized
  have hin : meth.name = "<init>" := (name_of_methodNamed B.named B.method).1
  subst hsz
  have hD := hD0.self (sz := s.heap.size)
  generalize hAe : va_A [(h0, .inr (0, [.null, .null]))] s.heap.size = A at hD ⊢
  have hA : ∀ q : Nat, s.heap.size ≤ q → A q := fun q h => by rw [← hAe]; exact Or.inr h
  have hS : va_S A s.heap s.heap [] := va_S.rf
  have hl := lv_entry ([.ref h0]) (n := 1) (Nat.le_of_ble_eq_true rfl)
  rw [lg_entry_eq]
  generalize (lg_sl ([.ref h0]) ++ List.replicate (1 - (lg_sl ([.ref h0])).length) Slot.unset).toArray = ls at hl ⊢
  have hl : lv_has ls 1 [(0, .ref h0)] := hl
  refine lv_aload_n hx hb diX0_0 rfl (lv_at hl 0 rfl) ?_
  refine W.objInit hx hb hown (htb _ iw_9) (htb _ iw_1) (htb _ iw_2) rfl (by rw [hml]; exact hl.1) rfl diX0_1 (Nat.le_of_ble_eq_true rfl) (Nat.le_of_ble_eq_true rfl) ?_
  refine W.eq (g2 := F0 m 4 ls []) rfl ?_
  refine lv_aload_n hx hb diX0_4 rfl (lv_at hl 0 rfl) ?_
  refine lv_sipush (v := mz_I 400) hx hb diX0_5 (mz_I_i16 (by decide) (by decide)) ?_
  refine mz_newi (N' := 400) hx hb (htb _ iw_3) hK hP hD hS hA (by decide) rfl (Nat.le_of_ble_eq_true rfl) (Nat.le_of_ble_eq_true rfl) (Nat.le_of_ble_eq_true rfl) diX0_8 (fun q8 H hP hD hS => ?_)
  have hP : va_P D mz_cl [(h0, .inr (0, [.null, .null])), (q8, .inl (cA, 400, .inl (fun _ => mz_I 0)))] H := hP
  have hD : va_D A [(h0, .inr (0, [.null, .null])), (q8, .inl (cA, 400, .inl (fun _ => mz_I 0)))] := hD
  refine W.widen (k := 1) (n := 400) (Nat.le_of_ble_eq_true rfl) (Nat.le_of_ble_eq_true rfl) ?_
  refine va_putF (D := D) (ci := 0) (v := .ref q8) (ty := .array .int) (C := RX0) (T := TX0) (N := 2) hx hb htb iu_X0 tyX0 tyX0_ok nmX0 hown hK hP hD hS 0 rfl rfl 0 (by decide) (htb _ iw_10) (fun _ h9 => h9) rfl hin rfl (by decide +kernel) rfl rfl (Nat.le_of_ble_eq_true rfl) diX0_10 (fun H locs hP hD hS => ?_)
  have hP : va_P D mz_cl [(h0, .inr (0, [.ref q8, .null])), (q8, .inl (cA, 400, .inl (fun _ => mz_I 0)))] H := hP
  have hD : va_D A [(h0, .inr (0, [.ref q8, .null])), (q8, .inl (cA, 400, .inl (fun _ => mz_I 0)))] := hD
  refine lv_aload_n hx hb diX0_13 rfl (lv_at hl 0 rfl) ?_
  refine lv_sipush (v := mz_I 400) hx hb diX0_14 (mz_I_i16 (by decide) (by decide)) ?_
  refine mz_newi (N' := 400) hx hb (htb _ iw_3) hK hP hD hS hA (by decide) rfl (Nat.le_of_ble_eq_true rfl) (Nat.le_of_ble_eq_true rfl) (Nat.le_of_ble_eq_true rfl) diX0_17 (fun q17 H hP hD hS => ?_)
  have hP : va_P D mz_cl [(h0, .inr (0, [.ref q8, .null])), (q8, .inl (cA, 400, .inl (fun _ => mz_I 0))), (q17, .inl (cA, 400, .inl (fun _ => mz_I 0)))] H := hP
  have hD : va_D A [(h0, .inr (0, [.ref q8, .null])), (q8, .inl (cA, 400, .inl (fun _ => mz_I 0))), (q17, .inl (cA, 400, .inl (fun _ => mz_I 0)))] := hD
  refine W.widen (k := 2) (n := 800) (Nat.le_of_ble_eq_true rfl) (Nat.le_of_ble_eq_true rfl) ?_
  refine va_putF (D := D) (ci := 0) (v := .ref q17) (ty := .array .int) (C := RX0) (T := TX0) (N := 2) hx hb htb iu_X0 tyX0 tyX0_ok nmX0 hown hK hP hD hS 0 rfl rfl 1 (by decide) (htb _ iw_11) (fun _ h9 => h9) rfl hin rfl (by decide +kernel) rfl rfl (Nat.le_of_ble_eq_true rfl) diX0_19 (fun H locs hP hD hS => ?_)
  have hP : va_P D mz_cl [(h0, .inr (0, [.ref q8, .ref q17])), (q8, .inl (cA, 400, .inl (fun _ => mz_I 0))), (q17, .inl (cA, 400, .inl (fun _ => mz_I 0)))] H := hP
  have hD : va_D A [(h0, .inr (0, [.ref q8, .ref q17])), (q8, .inl (cA, 400, .inl (fun _ => mz_I 0))), (q17, .inl (cA, 400, .inl (fun _ => mz_I 0)))] := hD
  exact W.vret hx hb hr (fun t ht hW => ⟨⟨(fun k => [q8, q17].getD k 0), rfl, trivial, by rw [ht]; exact hP, hD⟩, hS.F ht⟩) hS.2.2 diX0_22 (hlocks := hlocks)
theorem diX3_0 : decode cX3_init 0 = .ok (.aload_n 0, 1) := by decide +kernel
theorem diX3_1 : decode cX3_init 1 = .ok (.invokespecial 3, 3) := by decide +kernel
theorem diX3_4 : decode cX3_init 4 = .ok (.aload_n 0, 1) := by decide +kernel
theorem diX3_5 : decode cX3_init 5 = .ok (.iconst (-1), 1) := by decide +kernel
theorem diX3_6 : decode cX3_init 6 = .ok (.putfield 9, 3) := by decide +kernel
theorem diX3_9 : decode cX3_init 9 = .ok (.aload_n 0, 1) := by decide +kernel
theorem diX3_10 : decode cX3_init 10 = .ok (.iconst 0, 1) := by decide +kernel
theorem diX3_11 : decode cX3_init 11 = .ok (.putfield 15, 3) := by decide +kernel
theorem diX3_14 : decode cX3_init 14 = .ok (.aload_n 0, 1) := by decide +kernel
theorem diX3_15 : decode cX3_init 15 = .ok (.iconst 0, 1) := by decide +kernel
theorem diX3_16 : decode cX3_init 16 = .ok (.putfield 18, 3) := by decide +kernel
theorem diX3_19 : decode cX3_init 19 = .ok (.aload_n 0, 1) := by decide +kernel
theorem diX3_20 : decode cX3_init 20 = .ok (.iconst 0, 1) := by decide +kernel
theorem diX3_21 : decode cX3_init 21 = .ok (.putfield 21, 3) := by decide +kernel
theorem diX3_24 : decode cX3_init 24 = .ok (.aload_n 0, 1) := by decide +kernel
theorem diX3_25 : decode cX3_init 25 = .ok (.iconst 1, 1) := by decide +kernel
theorem diX3_26 : decode cX3_init 26 = .ok (.putfield 24, 3) := by decide +kernel
theorem diX3_29 : decode cX3_init 29 = .ok (.aload_n 0, 1) := by decide +kernel
theorem diX3_30 : decode cX3_init 30 = .ok (.iconst 0, 1) := by decide +kernel
theorem diX3_31 : decode cX3_init 31 = .ok (.putfield 27, 3) := by decide +kernel
theorem diX3_34 : decode cX3_init 34 = .ok (.aload_n 0, 1) := by decide +kernel
theorem diX3_35 : decode cX3_init 35 = .ok (.iconst 0, 1) := by decide +kernel
theorem diX3_36 : decode cX3_init 36 = .ok (.putfield 30, 3) := by decide +kernel
theorem diX3_39 : decode cX3_init 39 = .ok (.aload_n 0, 1) := by decide +kernel
theorem diX3_40 : decode cX3_init 40 = .ok (.iconst 1, 1) := by decide +kernel
theorem diX3_41 : decode cX3_init 41 = .ok (.putfield 33, 3) := by decide +kernel
theorem diX3_44 : decode cX3_init 44 = .ok (.return_, 1) := by decide +kernel
theorem iw_12 : Cond.methodLink RX3 3 objectInit ∈ mz_tb := mz_tb_of (i := 185) (by decide +kernel) (by first | rfl | decide +kernel | simp [goodWord, Cond.onTables, Cond.keeps, Cond.steady])
theorem iw_13 : Cond.fieldLink RX3 9 "BentPicture$Spot" "lying" "I" ∈ mz_tb := mz_tb_of (i := 186) (by decide +kernel) (by first | rfl | decide +kernel | simp [goodWord, Cond.onTables, Cond.keeps, Cond.steady])
theorem iw_14 : Cond.fieldLink RX3 15 "BentPicture$Spot" "first" "I" ∈ mz_tb := mz_tb_of (i := 187) (by decide +kernel) (by first | rfl | decide +kernel | simp [goodWord, Cond.onTables, Cond.keeps, Cond.steady])
theorem iw_15 : Cond.fieldLink RX3 18 "BentPicture$Spot" "second" "I" ∈ mz_tb := mz_tb_of (i := 189) (by decide +kernel) (by first | rfl | decide +kernel | simp [goodWord, Cond.onTables, Cond.keeps, Cond.steady])
theorem iw_16 : Cond.fieldLink RX3 21 "BentPicture$Spot" "third" "I" ∈ mz_tb := mz_tb_of (i := 191) (by decide +kernel) (by first | rfl | decide +kernel | simp [goodWord, Cond.onTables, Cond.keeps, Cond.steady])
theorem iw_17 : Cond.fieldLink RX3 24 "BentPicture$Spot" "whole" "I" ∈ mz_tb := mz_tb_of (i := 193) (by decide +kernel) (by first | rfl | decide +kernel | simp [goodWord, Cond.onTables, Cond.keeps, Cond.steady])
theorem iw_18 : Cond.fieldLink RX3 27 "BentPicture$Spot" "x" "I" ∈ mz_tb := mz_tb_of (i := 195) (by decide +kernel) (by first | rfl | decide +kernel | simp [goodWord, Cond.onTables, Cond.keeps, Cond.steady])
theorem iw_19 : Cond.fieldLink RX3 30 "BentPicture$Spot" "y" "I" ∈ mz_tb := mz_tb_of (i := 197) (by decide +kernel) (by first | rfl | decide +kernel | simp [goodWord, Cond.onTables, Cond.keeps, Cond.steady])
theorem iw_20 : Cond.fieldLink RX3 33 "BentPicture$Spot" "below" "I" ∈ mz_tb := mz_tb_of (i := 199) (by decide +kernel) (by first | rfl | decide +kernel | simp [goodWord, Cond.onTables, Cond.keeps, Cond.steady])
set_option maxHeartbeats 4000000 in
set_option maxRecDepth 100000 in
theorem cn_X3 (l : Launch) (D : va_G) (cA : ClassId) (h0 sz : Nat) : Met l yX3_init (Cond.code yX3_init cX3_init 1 none :: mz_tb) { frames := 1, cells := 0, slots := 0, locals := 12 } (va_Pc [.ref h0] (fun U => U.heap.size = sz ∧ va_P D mz_cl [(h0, .inr (3, [.int (mz_I 0), .int (mz_I 0), .int (mz_I 0), .int (mz_I 0), .int (mz_I 0), .int (mz_I 0), .int (mz_I 0), .int (mz_I 0)]))] U.heap ∧ va_K D mz_cl [(cA, .int)] U ∧ va_D (fun _ => True) [(h0, .inr (3, [.int (mz_I 0), .int (mz_I 0), .int (mz_I 0), .int (mz_I 0), .int (mz_I 0), .int (mz_I 0), .int (mz_I 0), .int (mz_I 0)]))] ∧ ∀ w ∈ cn_nest, va_Nw w U)) (va_Qv (S := Nat → Nat) (fun _ => True) (fun u t => va_P D mz_cl [(h0, .inr (3, [.int (mz_I (-1)), .int (mz_I 0), .int (mz_I 0), .int (mz_I 0), .int (mz_I 1), .int (mz_I 0), .int (mz_I 0), .int (mz_I 1)]))] t.heap ∧ va_D (va_A [(h0, .inr (3, [.int (mz_I 0), .int (mz_I 0), .int (mz_I 0), .int (mz_I 0), .int (mz_I 0), .int (mz_I 0), .int (mz_I 0), .int (mz_I 0)]))] sz) [(h0, .inr (3, [.int (mz_I (-1)), .int (mz_I 0), .int (mz_I 0), .int (mz_I 0), .int (mz_I 1), .int (mz_I 0), .int (mz_I 0), .int (mz_I 1)]))]) (va_A [(h0, .inr (3, [.int (mz_I 0), .int (mz_I 0), .int (mz_I 0), .int (mz_I 0), .int (mz_I 0), .int (mz_I 0), .int (mz_I 0), .int (mz_I 0)]))] sz)) 0 0 (va_A [(h0, .inr (3, [.int (mz_I 0), .int (mz_I 0), .int (mz_I 0), .int (mz_I 0), .int (mz_I 0), .int (mz_I 0), .int (mz_I 0), .int (mz_I 0)]))] sz) := by
  refine mz_ofW (cc := cX3_init) (maxL := 1) (ret := none) (by decide +kernel) rfl ?_
  intro p e s m args below meth c s₁ B hml hv
  obtain ⟨rfl, hsz, hP, hK, hD0, hnw⟩ := hv
  have hx := B.exec
  have hb := B.bytes
  have hr := B.returns
  have hts := atoms_spec (ws := Cond.code yX3_init cX3_init 1 none :: mz_tb) B.pre
  have htb : ∀ w ∈ mz_tb, w.before _ s = true := fun w h => hts w (List.mem_cons_of_mem _ h)
  have hown : s.vm.findClass RX3 = some m.cls := findClass_of_methodNamed B.named
  have hlocks := B.notSynchronized
  have hin : meth.name = "<init>" := (name_of_methodNamed B.named B.method).1
  subst hsz
  have hD := hD0.self (sz := s.heap.size)
  generalize hAe : va_A [(h0, .inr (3, [.int (mz_I 0), .int (mz_I 0), .int (mz_I 0), .int (mz_I 0), .int (mz_I 0), .int (mz_I 0), .int (mz_I 0), .int (mz_I 0)]))] s.heap.size = A at hD ⊢
  have hA : ∀ q : Nat, s.heap.size ≤ q → A q := fun q h => by rw [← hAe]; exact Or.inr h
  have hS : va_S A s.heap s.heap [] := va_S.rf
  have hl := lv_entry ([.ref h0]) (n := 1) (Nat.le_of_ble_eq_true rfl)
  rw [lg_entry_eq]
  generalize (lg_sl ([.ref h0]) ++ List.replicate (1 - (lg_sl ([.ref h0])).length) Slot.unset).toArray = ls at hl ⊢
  have hl : lv_has ls 1 [(0, .ref h0)] := hl
  refine lv_aload_n hx hb diX3_0 rfl (lv_at hl 0 rfl) ?_
  refine W.objInit hx hb hown (htb _ iw_12) (htb _ iw_1) (htb _ iw_2) rfl (by rw [hml]; exact hl.1) rfl diX3_1 (Nat.le_of_ble_eq_true rfl) (Nat.le_of_ble_eq_true rfl) ?_
  refine W.eq (g2 := F0 m 4 ls []) rfl ?_
  refine lv_aload_n hx hb diX3_4 rfl (lv_at hl 0 rfl) ?_
  refine lv_iconst (v := mz_I (-1)) hx hb diX3_5 rfl ?_
  refine va_put (D := D) (ci := 3) (v := .int (mz_I (-1))) (ty := .int) (C := RX3) (T := TX3) (N := 8) hx hb htb iu_X3 tyX3 tyX3_ok nmX3 hown hK hP hD hS 0 rfl rfl 0 (by decide) (htb _ iw_13) (fun _ h9 => h9) rfl (by decide +kernel) rfl rfl (Nat.le_of_ble_eq_true rfl) diX3_6 (fun H locs hP hD hS => ?_)
  have hP : va_P D mz_cl [(h0, .inr (3, [.int (mz_I (-1)), .int (mz_I 0), .int (mz_I 0), .int (mz_I 0), .int (mz_I 0), .int (mz_I 0), .int (mz_I 0), .int (mz_I 0)]))] H := hP
  have hD : va_D A [(h0, .inr (3, [.int (mz_I (-1)), .int (mz_I 0), .int (mz_I 0), .int (mz_I 0), .int (mz_I 0), .int (mz_I 0), .int (mz_I 0), .int (mz_I 0)]))] := hD
  refine lv_aload_n hx hb diX3_9 rfl (lv_at hl 0 rfl) ?_
  refine lv_iconst (v := mz_I 0) hx hb diX3_10 rfl ?_
  refine va_put (D := D) (ci := 3) (v := .int (mz_I 0)) (ty := .int) (C := RX3) (T := TX3) (N := 8) hx hb htb iu_X3 tyX3 tyX3_ok nmX3 hown hK hP hD hS 0 rfl rfl 1 (by decide) (htb _ iw_14) (fun _ h9 => h9) rfl (by decide +kernel) rfl rfl (Nat.le_of_ble_eq_true rfl) diX3_11 (fun H locs hP hD hS => ?_)
  have hP : va_P D mz_cl [(h0, .inr (3, [.int (mz_I (-1)), .int (mz_I 0), .int (mz_I 0), .int (mz_I 0), .int (mz_I 0), .int (mz_I 0), .int (mz_I 0), .int (mz_I 0)]))] H := hP
  have hD : va_D A [(h0, .inr (3, [.int (mz_I (-1)), .int (mz_I 0), .int (mz_I 0), .int (mz_I 0), .int (mz_I 0), .int (mz_I 0), .int (mz_I 0), .int (mz_I 0)]))] := hD
  refine lv_aload_n hx hb diX3_14 rfl (lv_at hl 0 rfl) ?_
  refine lv_iconst (v := mz_I 0) hx hb diX3_15 rfl ?_
  refine va_put (D := D) (ci := 3) (v := .int (mz_I 0)) (ty := .int) (C := RX3) (T := TX3) (N := 8) hx hb htb iu_X3 tyX3 tyX3_ok nmX3 hown hK hP hD hS 0 rfl rfl 2 (by decide) (htb _ iw_15) (fun _ h9 => h9) rfl (by decide +kernel) rfl rfl (Nat.le_of_ble_eq_true rfl) diX3_16 (fun H locs hP hD hS => ?_)
  have hP : va_P D mz_cl [(h0, .inr (3, [.int (mz_I (-1)), .int (mz_I 0), .int (mz_I 0), .int (mz_I 0), .int (mz_I 0), .int (mz_I 0), .int (mz_I 0), .int (mz_I 0)]))] H := hP
  have hD : va_D A [(h0, .inr (3, [.int (mz_I (-1)), .int (mz_I 0), .int (mz_I 0), .int (mz_I 0), .int (mz_I 0), .int (mz_I 0), .int (mz_I 0), .int (mz_I 0)]))] := hD
  refine lv_aload_n hx hb diX3_19 rfl (lv_at hl 0 rfl) ?_
  refine lv_iconst (v := mz_I 0) hx hb diX3_20 rfl ?_
  refine va_put (D := D) (ci := 3) (v := .int (mz_I 0)) (ty := .int) (C := RX3) (T := TX3) (N := 8) hx hb htb iu_X3 tyX3 tyX3_ok nmX3 hown hK hP hD hS 0 rfl rfl 3 (by decide) (htb _ iw_16) (fun _ h9 => h9) rfl (by decide +kernel) rfl rfl (Nat.le_of_ble_eq_true rfl) diX3_21 (fun H locs hP hD hS => ?_)
  have hP : va_P D mz_cl [(h0, .inr (3, [.int (mz_I (-1)), .int (mz_I 0), .int (mz_I 0), .int (mz_I 0), .int (mz_I 0), .int (mz_I 0), .int (mz_I 0), .int (mz_I 0)]))] H := hP
  have hD : va_D A [(h0, .inr (3, [.int (mz_I (-1)), .int (mz_I 0), .int (mz_I 0), .int (mz_I 0), .int (mz_I 0), .int (mz_I 0), .int (mz_I 0), .int (mz_I 0)]))] := hD
  refine lv_aload_n hx hb diX3_24 rfl (lv_at hl 0 rfl) ?_
  refine lv_iconst (v := mz_I 1) hx hb diX3_25 rfl ?_
  refine va_put (D := D) (ci := 3) (v := .int (mz_I 1)) (ty := .int) (C := RX3) (T := TX3) (N := 8) hx hb htb iu_X3 tyX3 tyX3_ok nmX3 hown hK hP hD hS 0 rfl rfl 4 (by decide) (htb _ iw_17) (fun _ h9 => h9) rfl (by decide +kernel) rfl rfl (Nat.le_of_ble_eq_true rfl) diX3_26 (fun H locs hP hD hS => ?_)
  have hP : va_P D mz_cl [(h0, .inr (3, [.int (mz_I (-1)), .int (mz_I 0), .int (mz_I 0), .int (mz_I 0), .int (mz_I 1), .int (mz_I 0), .int (mz_I 0), .int (mz_I 0)]))] H := hP
  have hD : va_D A [(h0, .inr (3, [.int (mz_I (-1)), .int (mz_I 0), .int (mz_I 0), .int (mz_I 0), .int (mz_I 1), .int (mz_I 0), .int (mz_I 0), .int (mz_I 0)]))] := hD
  refine lv_aload_n hx hb diX3_29 rfl (lv_at hl 0 rfl) ?_
  refine lv_iconst (v := mz_I 0) hx hb diX3_30 rfl ?_
  refine va_put (D := D) (ci := 3) (v := .int (mz_I 0)) (ty := .int) (C := RX3) (T := TX3) (N := 8) hx hb htb iu_X3 tyX3 tyX3_ok nmX3 hown hK hP hD hS 0 rfl rfl 5 (by decide) (htb _ iw_18) (fun _ h9 => h9) rfl (by decide +kernel) rfl rfl (Nat.le_of_ble_eq_true rfl) diX3_31 (fun H locs hP hD hS => ?_)
  have hP : va_P D mz_cl [(h0, .inr (3, [.int (mz_I (-1)), .int (mz_I 0), .int (mz_I 0), .int (mz_I 0), .int (mz_I 1), .int (mz_I 0), .int (mz_I 0), .int (mz_I 0)]))] H := hP
  have hD : va_D A [(h0, .inr (3, [.int (mz_I (-1)), .int (mz_I 0), .int (mz_I 0), .int (mz_I 0), .int (mz_I 1), .int (mz_I 0), .int (mz_I 0), .int (mz_I 0)]))] := hD
  refine lv_aload_n hx hb diX3_34 rfl (lv_at hl 0 rfl) ?_
  refine lv_iconst (v := mz_I 0) hx hb diX3_35 rfl ?_
  refine va_put (D := D) (ci := 3) (v := .int (mz_I 0)) (ty := .int) (C := RX3) (T := TX3) (N := 8) hx hb htb iu_X3 tyX3 tyX3_ok nmX3 hown hK hP hD hS 0 rfl rfl 6 (by decide) (htb _ iw_19) (fun _ h9 => h9) rfl (by decide +kernel) rfl rfl (Nat.le_of_ble_eq_true rfl) diX3_36 (fun H locs hP hD hS => ?_)
  have hP : va_P D mz_cl [(h0, .inr (3, [.int (mz_I (-1)), .int (mz_I 0), .int (mz_I 0), .int (mz_I 0), .int (mz_I 1), .int (mz_I 0), .int (mz_I 0), .int (mz_I 0)]))] H := hP
  have hD : va_D A [(h0, .inr (3, [.int (mz_I (-1)), .int (mz_I 0), .int (mz_I 0), .int (mz_I 0), .int (mz_I 1), .int (mz_I 0), .int (mz_I 0), .int (mz_I 0)]))] := hD
  refine lv_aload_n hx hb diX3_39 rfl (lv_at hl 0 rfl) ?_
  refine lv_iconst (v := mz_I 1) hx hb diX3_40 rfl ?_
  refine va_put (D := D) (ci := 3) (v := .int (mz_I 1)) (ty := .int) (C := RX3) (T := TX3) (N := 8) hx hb htb iu_X3 tyX3 tyX3_ok nmX3 hown hK hP hD hS 0 rfl rfl 7 (by decide) (htb _ iw_20) (fun _ h9 => h9) rfl (by decide +kernel) rfl rfl (Nat.le_of_ble_eq_true rfl) diX3_41 (fun H locs hP hD hS => ?_)
  have hP : va_P D mz_cl [(h0, .inr (3, [.int (mz_I (-1)), .int (mz_I 0), .int (mz_I 0), .int (mz_I 0), .int (mz_I 1), .int (mz_I 0), .int (mz_I 0), .int (mz_I 1)]))] H := hP
  have hD : va_D A [(h0, .inr (3, [.int (mz_I (-1)), .int (mz_I 0), .int (mz_I 0), .int (mz_I 0), .int (mz_I 1), .int (mz_I 0), .int (mz_I 0), .int (mz_I 1)]))] := hD
  exact W.vret hx hb hr (fun t ht hW => ⟨⟨(fun k => [].getD k 0), rfl, trivial, by rw [ht]; exact hP, hD⟩, hS.F ht⟩) hS.2.2 diX3_44 (hlocks := hlocks)
theorem diX1_0 : decode cX1_init 0 = .ok (.aload_n 0, 1) := by decide +kernel
theorem diX1_1 : decode cX1_init 1 = .ok (.invokespecial 3, 3) := by decide +kernel
theorem diX1_4 : decode cX1_init 4 = .ok (.aload_n 0, 1) := by decide +kernel
theorem diX1_5 : decode cX1_init 5 = .ok (.new 9, 3) := by decide +kernel
theorem diX1_8 : decode cX1_init 8 = .ok (.dup, 1) := by decide +kernel
theorem diX1_9 : decode cX1_init 9 = .ok (.invokespecial 11, 3) := by decide +kernel
theorem diX1_12 : decode cX1_init 12 = .ok (.putfield 12, 3) := by decide +kernel
theorem diX1_15 : decode cX1_init 15 = .ok (.aload_n 0, 1) := by decide +kernel
theorem diX1_16 : decode cX1_init 16 = .ok (.new 9, 3) := by decide +kernel
theorem diX1_19 : decode cX1_init 19 = .ok (.dup, 1) := by decide +kernel
theorem diX1_20 : decode cX1_init 20 = .ok (.invokespecial 11, 3) := by decide +kernel
theorem diX1_23 : decode cX1_init 23 = .ok (.putfield 18, 3) := by decide +kernel
theorem diX1_26 : decode cX1_init 26 = .ok (.aload_n 0, 1) := by decide +kernel
theorem diX1_27 : decode cX1_init 27 = .ok (.new 9, 3) := by decide +kernel
theorem diX1_30 : decode cX1_init 30 = .ok (.dup, 1) := by decide +kernel
theorem diX1_31 : decode cX1_init 31 = .ok (.invokespecial 11, 3) := by decide +kernel
theorem diX1_34 : decode cX1_init 34 = .ok (.putfield 21, 3) := by decide +kernel
theorem diX1_37 : decode cX1_init 37 = .ok (.aload_n 0, 1) := by decide +kernel
theorem diX1_38 : decode cX1_init 38 = .ok (.new 24, 3) := by decide +kernel
theorem diX1_41 : decode cX1_init 41 = .ok (.dup, 1) := by decide +kernel
theorem diX1_42 : decode cX1_init 42 = .ok (.invokespecial 26, 3) := by decide +kernel
theorem diX1_45 : decode cX1_init 45 = .ok (.putfield 27, 3) := by decide +kernel
theorem diX1_48 : decode cX1_init 48 = .ok (.aload_n 0, 1) := by decide +kernel
theorem diX1_49 : decode cX1_init 49 = .ok (.bipush 64, 2) := by decide +kernel
theorem diX1_51 : decode cX1_init 51 = .ok (.newarray .int, 2) := by decide +kernel
theorem diX1_53 : decode cX1_init 53 = .ok (.putfield 31, 3) := by decide +kernel
theorem diX1_56 : decode cX1_init 56 = .ok (.aload_n 0, 1) := by decide +kernel
theorem diX1_57 : decode cX1_init 57 = .ok (.bipush 64, 2) := by decide +kernel
theorem diX1_59 : decode cX1_init 59 = .ok (.newarray .int, 2) := by decide +kernel
theorem diX1_61 : decode cX1_init 61 = .ok (.putfield 35, 3) := by decide +kernel
theorem diX1_64 : decode cX1_init 64 = .ok (.aload_n 0, 1) := by decide +kernel
theorem diX1_65 : decode cX1_init 65 = .ok (.iconst 0, 1) := by decide +kernel
theorem diX1_66 : decode cX1_init 66 = .ok (.putfield 38, 3) := by decide +kernel
theorem diX1_69 : decode cX1_init 69 = .ok (.aload_n 0, 1) := by decide +kernel
theorem diX1_70 : decode cX1_init 70 = .ok (.iconst 0, 1) := by decide +kernel
theorem diX1_71 : decode cX1_init 71 = .ok (.putfield 42, 3) := by decide +kernel
theorem diX1_74 : decode cX1_init 74 = .ok (.aload_n 0, 1) := by decide +kernel
theorem diX1_75 : decode cX1_init 75 = .ok (.iconst 2, 1) := by decide +kernel
theorem diX1_76 : decode cX1_init 76 = .ok (.putfield 45, 3) := by decide +kernel
theorem diX1_79 : decode cX1_init 79 = .ok (.aload_n 0, 1) := by decide +kernel
theorem diX1_80 : decode cX1_init 80 = .ok (.iconst 2, 1) := by decide +kernel
theorem diX1_81 : decode cX1_init 81 = .ok (.putfield 48, 3) := by decide +kernel
theorem diX1_84 : decode cX1_init 84 = .ok (.return_, 1) := by decide +kernel
theorem iw_21 : Cond.methodLink RX1 3 objectInit ∈ mz_tb := mz_tb_of (i := 87) (by decide +kernel) (by first | rfl | decide +kernel | simp [goodWord, Cond.onTables, Cond.keeps, Cond.steady])
theorem iw_22 : Cond.classLink RX1 9 RX2 ∈ mz_tb := mz_tb_of (i := 88) (by decide +kernel) (by first | rfl | decide +kernel | simp [goodWord, Cond.onTables, Cond.keeps, Cond.steady])
theorem iw_23 : Cond.instantiable RX2 2 ∈ mz_tb := mz_tb_of (i := 89) (by decide +kernel) (by first | rfl | decide +kernel | simp [goodWord, Cond.onTables, Cond.keeps, Cond.steady])
theorem iw_24 : Cond.initialized RX2 ∈ mz_tb := mz_tb_of (i := 67) (by decide +kernel) (by first | rfl | decide +kernel | simp [goodWord, Cond.onTables, Cond.keeps, Cond.steady])
theorem iw_25 : Cond.code yX2_init cX2_init 1 none ∈ mz_tb := mz_tb_of (i := 92) (by decide +kernel) (by first | rfl | decide +kernel | simp [goodWord, Cond.onTables, Cond.keeps, Cond.steady])
theorem iw_26 : Cond.instanceMethod yX2_init ∈ mz_tb := mz_tb_of (i := 91) (by decide +kernel) (by first | rfl | decide +kernel | simp [goodWord, Cond.onTables, Cond.keeps, Cond.steady])
theorem iw_27 : Cond.fieldLink RX1 12 "BentPicture$Net" "homes" "LBentPicture$Points;" ∈ mz_tb := mz_tb_of (i := 126) (by decide +kernel) (by first | rfl | decide +kernel | simp [goodWord, Cond.onTables, Cond.keeps, Cond.steady])
theorem iw_28 : Cond.fieldLink RX1 18 "BentPicture$Net" "places" "LBentPicture$Points;" ∈ mz_tb := mz_tb_of (i := 128) (by decide +kernel) (by first | rfl | decide +kernel | simp [goodWord, Cond.onTables, Cond.keeps, Cond.steady])
theorem iw_29 : Cond.fieldLink RX1 21 "BentPicture$Net" "way" "LBentPicture$Points;" ∈ mz_tb := mz_tb_of (i := 131) (by decide +kernel) (by first | rfl | decide +kernel | simp [goodWord, Cond.onTables, Cond.keeps, Cond.steady])
theorem iw_30 : Cond.classLink RX1 24 RX4 ∈ mz_tb := mz_tb_of (i := 110) (by decide +kernel) (by first | rfl | decide +kernel | simp [goodWord, Cond.onTables, Cond.keeps, Cond.steady])
theorem iw_31 : Cond.instantiable RX4 2 ∈ mz_tb := mz_tb_of (i := 111) (by decide +kernel) (by first | rfl | decide +kernel | simp [goodWord, Cond.onTables, Cond.keeps, Cond.steady])
theorem iw_32 : Cond.initialized RX4 ∈ mz_tb := mz_tb_of (i := 68) (by decide +kernel) (by first | rfl | decide +kernel | simp [goodWord, Cond.onTables, Cond.keeps, Cond.steady])
theorem iw_33 : Cond.code yX4_init cX4_init 1 none ∈ mz_tb := mz_tb_of (i := 114) (by decide +kernel) (by first | rfl | decide +kernel | simp [goodWord, Cond.onTables, Cond.keeps, Cond.steady])
theorem iw_34 : Cond.instanceMethod yX4_init ∈ mz_tb := mz_tb_of (i := 113) (by decide +kernel) (by first | rfl | decide +kernel | simp [goodWord, Cond.onTables, Cond.keeps, Cond.steady])
theorem iw_35 : Cond.fieldLink RX1 27 "BentPicture$Net" "triangles" "LBentPicture$Triangles;" ∈ mz_tb := mz_tb_of (i := 132) (by decide +kernel) (by first | rfl | decide +kernel | simp [goodWord, Cond.onTables, Cond.keeps, Cond.steady])
theorem iw_36 : Cond.fieldLink RX1 31 "BentPicture$Net" "linkFrom" "[I" ∈ mz_tb := mz_tb_of (i := 136) (by decide +kernel) (by first | rfl | decide +kernel | simp [goodWord, Cond.onTables, Cond.keeps, Cond.steady])
theorem iw_37 : Cond.fieldLink RX1 35 "BentPicture$Net" "linkTo" "[I" ∈ mz_tb := mz_tb_of (i := 137) (by decide +kernel) (by first | rfl | decide +kernel | simp [goodWord, Cond.onTables, Cond.keeps, Cond.steady])
theorem iw_38 : Cond.fieldLink RX1 38 "BentPicture$Net" "linked" "I" ∈ mz_tb := mz_tb_of (i := 138) (by decide +kernel) (by first | rfl | decide +kernel | simp [goodWord, Cond.onTables, Cond.keeps, Cond.steady])
theorem iw_39 : Cond.fieldLink RX1 42 "BentPicture$Net" "knots" "I" ∈ mz_tb := mz_tb_of (i := 139) (by decide +kernel) (by first | rfl | decide +kernel | simp [goodWord, Cond.onTables, Cond.keeps, Cond.steady])
theorem iw_40 : Cond.fieldLink RX1 45 "BentPicture$Net" "w" "I" ∈ mz_tb := mz_tb_of (i := 141) (by decide +kernel) (by first | rfl | decide +kernel | simp [goodWord, Cond.onTables, Cond.keeps, Cond.steady])
theorem iw_41 : Cond.fieldLink RX1 48 "BentPicture$Net" "h" "I" ∈ mz_tb := mz_tb_of (i := 143) (by decide +kernel) (by first | rfl | decide +kernel | simp [goodWord, Cond.onTables, Cond.keeps, Cond.steady])
set_option maxHeartbeats 4000000 in
set_option maxRecDepth 100000 in
theorem cn_X1 (l : Launch) (D : va_G) (cA : ClassId) (h0 sz : Nat) : Met l yX1_init (Cond.code yX1_init cX1_init 1 none :: mz_tb) { frames := 2, cells := 13, slots := 392, locals := 32 } (va_Pc [.ref h0] (fun U => U.heap.size = sz ∧ va_P D mz_cl [(h0, .inr (1, [.null, .null, .null, .null, .null, .null, .int (mz_I 0), .int (mz_I 0), .int (mz_I 0), .int (mz_I 0)]))] U.heap ∧ va_K D mz_cl [(cA, .int)] U ∧ va_D (fun _ => True) [(h0, .inr (1, [.null, .null, .null, .null, .null, .null, .int (mz_I 0), .int (mz_I 0), .int (mz_I 0), .int (mz_I 0)]))] ∧ ∀ w ∈ cn_nest, va_Nw w U)) (va_Qv (S := Nat → Nat) (fun _ => True) (fun u t => va_P D mz_cl [(h0, .inr (1, [.ref (u 0), .ref (u 3), .ref (u 6), .ref (u 9), .ref (u 11), .ref (u 12), .int (mz_I 0), .int (mz_I 0), .int (mz_I 2), .int (mz_I 2)])), ((u 0), .inr (2, [.ref (u 1), .ref (u 2)])), ((u 1), .inl (cA, 32, .inl (fun _ => mz_I 0))), ((u 2), .inl (cA, 32, .inl (fun _ => mz_I 0))), ((u 3), .inr (2, [.ref (u 4), .ref (u 5)])), ((u 4), .inl (cA, 32, .inl (fun _ => mz_I 0))), ((u 5), .inl (cA, 32, .inl (fun _ => mz_I 0))), ((u 6), .inr (2, [.ref (u 7), .ref (u 8)])), ((u 7), .inl (cA, 32, .inl (fun _ => mz_I 0))), ((u 8), .inl (cA, 32, .inl (fun _ => mz_I 0))), ((u 9), .inr (4, [.ref (u 10), .int (mz_I 0)])), ((u 10), .inl (cA, 64, .inl (fun _ => mz_I 0))), ((u 11), .inl (cA, 64, .inl (fun _ => mz_I 0))), ((u 12), .inl (cA, 64, .inl (fun _ => mz_I 0)))] t.heap ∧ va_D (va_A [(h0, .inr (1, [.null, .null, .null, .null, .null, .null, .int (mz_I 0), .int (mz_I 0), .int (mz_I 0), .int (mz_I 0)]))] sz) [(h0, .inr (1, [.ref (u 0), .ref (u 3), .ref (u 6), .ref (u 9), .ref (u 11), .ref (u 12), .int (mz_I 0), .int (mz_I 0), .int (mz_I 2), .int (mz_I 2)])), ((u 0), .inr (2, [.ref (u 1), .ref (u 2)])), ((u 1), .inl (cA, 32, .inl (fun _ => mz_I 0))), ((u 2), .inl (cA, 32, .inl (fun _ => mz_I 0))), ((u 3), .inr (2, [.ref (u 4), .ref (u 5)])), ((u 4), .inl (cA, 32, .inl (fun _ => mz_I 0))), ((u 5), .inl (cA, 32, .inl (fun _ => mz_I 0))), ((u 6), .inr (2, [.ref (u 7), .ref (u 8)])), ((u 7), .inl (cA, 32, .inl (fun _ => mz_I 0))), ((u 8), .inl (cA, 32, .inl (fun _ => mz_I 0))), ((u 9), .inr (4, [.ref (u 10), .int (mz_I 0)])), ((u 10), .inl (cA, 64, .inl (fun _ => mz_I 0))), ((u 11), .inl (cA, 64, .inl (fun _ => mz_I 0))), ((u 12), .inl (cA, 64, .inl (fun _ => mz_I 0)))]) (va_A [(h0, .inr (1, [.null, .null, .null, .null, .null, .null, .int (mz_I 0), .int (mz_I 0), .int (mz_I 0), .int (mz_I 0)]))] sz)) 13 392 (va_A [(h0, .inr (1, [.null, .null, .null, .null, .null, .null, .int (mz_I 0), .int (mz_I 0), .int (mz_I 0), .int (mz_I 0)]))] sz) := by
  refine mz_ofW (cc := cX1_init) (maxL := 1) (ret := none) (by decide +kernel) rfl ?_
  intro p e s m args below meth c s₁ B hml hv
  obtain ⟨rfl, hsz, hP, hK, hD0, hnw⟩ := hv
  have hx := B.exec
  have hb := B.bytes
  have hr := B.returns
  have hts := atoms_spec (ws := Cond.code yX1_init cX1_init 1 none :: mz_tb) B.pre
  have htb : ∀ w ∈ mz_tb, w.before _ s = true := fun w h => hts w (List.mem_cons_of_mem _ h)
  have hown : s.vm.findClass RX1 = some m.cls := findClass_of_methodNamed B.named
  have hlocks := B.notSynchronized
  have hin : meth.name = "<init>" := (name_of_methodNamed B.named B.method).1
  subst hsz
  have hD := hD0.self (sz := s.heap.size)
  generalize hAe : va_A [(h0, .inr (1, [.null, .null, .null, .null, .null, .null, .int (mz_I 0), .int (mz_I 0), .int (mz_I 0), .int (mz_I 0)]))] s.heap.size = A at hD ⊢
  have hA : ∀ q : Nat, s.heap.size ≤ q → A q := fun q h => by rw [← hAe]; exact Or.inr h
  have hS : va_S A s.heap s.heap [] := va_S.rf
  have hl := lv_entry ([.ref h0]) (n := 1) (Nat.le_of_ble_eq_true rfl)
  rw [lg_entry_eq]
  generalize (lg_sl ([.ref h0]) ++ List.replicate (1 - (lg_sl ([.ref h0])).length) Slot.unset).toArray = ls at hl ⊢
  have hl : lv_has ls 1 [(0, .ref h0)] := hl
  refine lv_aload_n hx hb diX1_0 rfl (lv_at hl 0 rfl) ?_
  refine W.objInit hx hb hown (htb _ iw_21) (htb _ iw_1) (htb _ iw_2) rfl (by rw [hml]; exact hl.1) rfl diX1_1 (Nat.le_of_ble_eq_true rfl) (Nat.le_of_ble_eq_true rfl) ?_
  refine W.eq (g2 := F0 m 4 ls []) rfl ?_
  refine lv_aload_n hx hb diX1_4 rfl (lv_at hl 0 rfl) ?_
  refine va_new (ci := 2) (fs := [.null, .null]) (C := RX2) (T := TX2) (N := 2) hx hb htb iu_X2 tyX2 tyX2_ok hown (htb _ iw_22) (htb _ iw_23) (htb _ iw_24) hK hP hD hS hA rfl (fun j hj => by rcases (show j = 0 ∨ j = 1 by omega) with rfl | rfl <;> rfl) (Nat.le_of_ble_eq_true rfl) (Nat.le_of_ble_eq_true rfl) diX1_5 (fun q5 H hP hD hS => ?_)
  have hP : va_P D mz_cl [(h0, .inr (1, [.null, .null, .null, .null, .null, .null, .int (mz_I 0), .int (mz_I 0), .int (mz_I 0), .int (mz_I 0)])), (q5, .inr (2, [.null, .null]))] H := hP
  have hD : va_D A [(h0, .inr (1, [.null, .null, .null, .null, .null, .null, .int (mz_I 0), .int (mz_I 0), .int (mz_I 0), .int (mz_I 0)])), (q5, .inr (2, [.null, .null]))] := hD
  refine W.widen (k := 1) (n := 2) (Nat.le_of_ble_eq_true rfl) (Nat.le_of_ble_eq_true rfl) ?_
  refine lv_dup hx hb diX1_8 rfl ?_
  have hPc := hP.sub (ws' := [(q5, .inr (2, [.null, .null]))]) [1] rfl
  have hDc := hD.sub (ws' := [(q5, .inr (2, [.null, .null]))]) [1] (by decide) rfl
  have hFc := va_free (wc := [(q5, .inr (2, [.null, .null]))]) hD hS hA [1] rfl
  refine va_callv (va_runIN (As := []) (rest := [.ref q5, .ref h0]) (host := RX5) ⟨hx, hb, hml, hown, htb⟩ (cn_X2 l D cA q5 H.size) ⟨va_cnB 0 htb (mz_goodIn (fun w h => (List.mem_cons.mp h).elim (fun e => e ▸ iw_25) id)) rfl rfl rfl (hnw _ nst_3) (htb _ iw_24) ⟨by decide +kernel, by decide +kernel, by decide +kernel⟩ ⟨(Nat.le_of_ble_eq_true rfl), (Nat.le_of_ble_eq_true rfl)⟩, rfl, htb _ iw_26⟩ ⟨fun a U g mk q => by obtain ⟨q0, q1, qP, qK, qD, qN⟩ := q; exact ⟨q0, q1, qP, va_K.moved (u := U) (U := U.calling g mk a) (Vm.Alike.refl U.vm) qK, qD, cn_same (s := U) (U := U.calling g mk a) rfl qN⟩, fun U hU hW => ⟨rfl, by rw [hU], by rw [hU]; exact hPc, va_K.moved hW.alike hK, hDc.weaken (fun _ _ _ _ => trivial), cn_warm hW hnw⟩⟩ rfl rfl hl.1 rfl (lv_room (Nat.le_of_ble_eq_true rfl)) diX1_9 ⟨(Nat.le_of_ble_eq_true rfl), (Nat.le_of_ble_eq_true rfl)⟩) hS (fun q _ h => hFc q h) hFc (fun u9 t H1 locs ht hvm hw hB hz1 hk1 hS => ?_)
  obtain ⟨hP1, hD1⟩ := hB
  rw [ht] at hP1
  obtain ⟨hP, hD⟩ := va_join (wr := [(h0, .inr (1, [.null, .null, .null, .null, .null, .null, .int (mz_I 0), .int (mz_I 0), .int (mz_I 0), .int (mz_I 0)]))]) (w1 := [(q5, .inr (2, [.ref (u9 0), .ref (u9 1)])), ((u9 0), .inl (cA, 32, .inl (fun _ => mz_I 0))), ((u9 1), .inl (cA, 32, .inl (fun _ => mz_I 0)))]) hP hD [1] [0] rfl rfl (by decide) (by decide) hk1 hFc hP1 hD1
  generalize H1 = H at hP hS ⊢
  have hP : va_P D mz_cl [(h0, .inr (1, [.null, .null, .null, .null, .null, .null, .int (mz_I 0), .int (mz_I 0), .int (mz_I 0), .int (mz_I 0)])), (q5, .inr (2, [.ref (u9 0), .ref (u9 1)])), ((u9 0), .inl (cA, 32, .inl (fun _ => mz_I 0))), ((u9 1), .inl (cA, 32, .inl (fun _ => mz_I 0)))] H := hP
  have hD : va_D A [(h0, .inr (1, [.null, .null, .null, .null, .null, .null, .int (mz_I 0), .int (mz_I 0), .int (mz_I 0), .int (mz_I 0)])), (q5, .inr (2, [.ref (u9 0), .ref (u9 1)])), ((u9 0), .inl (cA, 32, .inl (fun _ => mz_I 0))), ((u9 1), .inl (cA, 32, .inl (fun _ => mz_I 0)))] := hD
  refine W.widen (k := 3) (n := 66) (Nat.le_of_ble_eq_true rfl) (Nat.le_of_ble_eq_true rfl) ?_
  refine va_putF (D := D) (ci := 1) (v := .ref q5) (ty := .object "BentPicture$Points") (C := RX1) (T := TX1) (N := 10) hx hb htb iu_X1 tyX1 tyX1_ok nmX1 hown hK hP hD hS 0 rfl rfl 0 (by decide) (htb _ iw_27) (fun _ h9 => h9) rfl hin rfl (by decide +kernel) rfl rfl (Nat.le_of_ble_eq_true rfl) diX1_12 (fun H locs hP hD hS => ?_)
  have hP : va_P D mz_cl [(h0, .inr (1, [.ref q5, .null, .null, .null, .null, .null, .int (mz_I 0), .int (mz_I 0), .int (mz_I 0), .int (mz_I 0)])), (q5, .inr (2, [.ref (u9 0), .ref (u9 1)])), ((u9 0), .inl (cA, 32, .inl (fun _ => mz_I 0))), ((u9 1), .inl (cA, 32, .inl (fun _ => mz_I 0)))] H := hP
  have hD : va_D A [(h0, .inr (1, [.ref q5, .null, .null, .null, .null, .null, .int (mz_I 0), .int (mz_I 0), .int (mz_I 0), .int (mz_I 0)])), (q5, .inr (2, [.ref (u9 0), .ref (u9 1)])), ((u9 0), .inl (cA, 32, .inl (fun _ => mz_I 0))), ((u9 1), .inl (cA, 32, .inl (fun _ => mz_I 0)))] := hD
  refine lv_aload_n hx hb diX1_15 rfl (lv_at hl 0 rfl) ?_
  refine va_new (ci := 2) (fs := [.null, .null]) (C := RX2) (T := TX2) (N := 2) hx hb htb iu_X2 tyX2 tyX2_ok hown (htb _ iw_22) (htb _ iw_23) (htb _ iw_24) hK hP hD hS hA rfl (fun j hj => by rcases (show j = 0 ∨ j = 1 by omega) with rfl | rfl <;> rfl) (Nat.le_of_ble_eq_true rfl) (Nat.le_of_ble_eq_true rfl) diX1_16 (fun q16 H hP hD hS => ?_)
  have hP : va_P D mz_cl [(h0, .inr (1, [.ref q5, .null, .null, .null, .null, .null, .int (mz_I 0), .int (mz_I 0), .int (mz_I 0), .int (mz_I 0)])), (q5, .inr (2, [.ref (u9 0), .ref (u9 1)])), ((u9 0), .inl (cA, 32, .inl (fun _ => mz_I 0))), ((u9 1), .inl (cA, 32, .inl (fun _ => mz_I 0))), (q16, .inr (2, [.null, .null]))] H := hP
  have hD : va_D A [(h0, .inr (1, [.ref q5, .null, .null, .null, .null, .null, .int (mz_I 0), .int (mz_I 0), .int (mz_I 0), .int (mz_I 0)])), (q5, .inr (2, [.ref (u9 0), .ref (u9 1)])), ((u9 0), .inl (cA, 32, .inl (fun _ => mz_I 0))), ((u9 1), .inl (cA, 32, .inl (fun _ => mz_I 0))), (q16, .inr (2, [.null, .null]))] := hD
  refine W.widen (k := 4) (n := 68) (Nat.le_of_ble_eq_true rfl) (Nat.le_of_ble_eq_true rfl) ?_
  refine lv_dup hx hb diX1_19 rfl ?_
  have hPc := hP.sub (ws' := [(q16, .inr (2, [.null, .null]))]) [4] rfl
  have hDc := hD.sub (ws' := [(q16, .inr (2, [.null, .null]))]) [4] (by decide) rfl
  have hFc := va_free (wc := [(q16, .inr (2, [.null, .null]))]) hD hS hA [4] rfl
  refine va_callv (va_runIN (As := []) (rest := [.ref q16, .ref h0]) (host := RX5) ⟨hx, hb, hml, hown, htb⟩ (cn_X2 l D cA q16 H.size) ⟨va_cnB 0 htb (mz_goodIn (fun w h => (List.mem_cons.mp h).elim (fun e => e ▸ iw_25) id)) rfl rfl rfl (hnw _ nst_3) (htb _ iw_24) ⟨by decide +kernel, by decide +kernel, by decide +kernel⟩ ⟨(Nat.le_of_ble_eq_true rfl), (Nat.le_of_ble_eq_true rfl)⟩, rfl, htb _ iw_26⟩ ⟨fun a U g mk q => by obtain ⟨q0, q1, qP, qK, qD, qN⟩ := q; exact ⟨q0, q1, qP, va_K.moved (u := U) (U := U.calling g mk a) (Vm.Alike.refl U.vm) qK, qD, cn_same (s := U) (U := U.calling g mk a) rfl qN⟩, fun U hU hW => ⟨rfl, by rw [hU], by rw [hU]; exact hPc, va_K.moved hW.alike hK, hDc.weaken (fun _ _ _ _ => trivial), cn_warm hW hnw⟩⟩ rfl rfl hl.1 rfl (lv_room (Nat.le_of_ble_eq_true rfl)) diX1_20 ⟨(Nat.le_of_ble_eq_true rfl), (Nat.le_of_ble_eq_true rfl)⟩) hS (fun q _ h => hFc q h) hFc (fun u20 t H1 locs ht hvm hw hB hz1 hk1 hS => ?_)
  obtain ⟨hP1, hD1⟩ := hB
  rw [ht] at hP1
  obtain ⟨hP, hD⟩ := va_join (wr := [(h0, .inr (1, [.ref q5, .null, .null, .null, .null, .null, .int (mz_I 0), .int (mz_I 0), .int (mz_I 0), .int (mz_I 0)])), (q5, .inr (2, [.ref (u9 0), .ref (u9 1)])), ((u9 0), .inl (cA, 32, .inl (fun _ => mz_I 0))), ((u9 1), .inl (cA, 32, .inl (fun _ => mz_I 0)))]) (w1 := [(q16, .inr (2, [.ref (u20 0), .ref (u20 1)])), ((u20 0), .inl (cA, 32, .inl (fun _ => mz_I 0))), ((u20 1), .inl (cA, 32, .inl (fun _ => mz_I 0)))]) hP hD [4] [0, 1, 2, 3] rfl rfl (by decide) (by decide) hk1 hFc hP1 hD1
  generalize H1 = H at hP hS ⊢
  have hP : va_P D mz_cl [(h0, .inr (1, [.ref q5, .null, .null, .null, .null, .null, .int (mz_I 0), .int (mz_I 0), .int (mz_I 0), .int (mz_I 0)])), (q5, .inr (2, [.ref (u9 0), .ref (u9 1)])), ((u9 0), .inl (cA, 32, .inl (fun _ => mz_I 0))), ((u9 1), .inl (cA, 32, .inl (fun _ => mz_I 0))), (q16, .inr (2, [.ref (u20 0), .ref (u20 1)])), ((u20 0), .inl (cA, 32, .inl (fun _ => mz_I 0))), ((u20 1), .inl (cA, 32, .inl (fun _ => mz_I 0)))] H := hP
  have hD : va_D A [(h0, .inr (1, [.ref q5, .null, .null, .null, .null, .null, .int (mz_I 0), .int (mz_I 0), .int (mz_I 0), .int (mz_I 0)])), (q5, .inr (2, [.ref (u9 0), .ref (u9 1)])), ((u9 0), .inl (cA, 32, .inl (fun _ => mz_I 0))), ((u9 1), .inl (cA, 32, .inl (fun _ => mz_I 0))), (q16, .inr (2, [.ref (u20 0), .ref (u20 1)])), ((u20 0), .inl (cA, 32, .inl (fun _ => mz_I 0))), ((u20 1), .inl (cA, 32, .inl (fun _ => mz_I 0)))] := hD
  refine W.widen (k := 6) (n := 132) (Nat.le_of_ble_eq_true rfl) (Nat.le_of_ble_eq_true rfl) ?_
  refine va_putF (D := D) (ci := 1) (v := .ref q16) (ty := .object "BentPicture$Points") (C := RX1) (T := TX1) (N := 10) hx hb htb iu_X1 tyX1 tyX1_ok nmX1 hown hK hP hD hS 0 rfl rfl 1 (by decide) (htb _ iw_28) (fun _ h9 => h9) rfl hin rfl (by decide +kernel) rfl rfl (Nat.le_of_ble_eq_true rfl) diX1_23 (fun H locs hP hD hS => ?_)
  have hP : va_P D mz_cl [(h0, .inr (1, [.ref q5, .ref q16, .null, .null, .null, .null, .int (mz_I 0), .int (mz_I 0), .int (mz_I 0), .int (mz_I 0)])), (q5, .inr (2, [.ref (u9 0), .ref (u9 1)])), ((u9 0), .inl (cA, 32, .inl (fun _ => mz_I 0))), ((u9 1), .inl (cA, 32, .inl (fun _ => mz_I 0))), (q16, .inr (2, [.ref (u20 0), .ref (u20 1)])), ((u20 0), .inl (cA, 32, .inl (fun _ => mz_I 0))), ((u20 1), .inl (cA, 32, .inl (fun _ => mz_I 0)))] H := hP
  have hD : va_D A [(h0, .inr (1, [.ref q5, .ref q16, .null, .null, .null, .null, .int (mz_I 0), .int (mz_I 0), .int (mz_I 0), .int (mz_I 0)])), (q5, .inr (2, [.ref (u9 0), .ref (u9 1)])), ((u9 0), .inl (cA, 32, .inl (fun _ => mz_I 0))), ((u9 1), .inl (cA, 32, .inl (fun _ => mz_I 0))), (q16, .inr (2, [.ref (u20 0), .ref (u20 1)])), ((u20 0), .inl (cA, 32, .inl (fun _ => mz_I 0))), ((u20 1), .inl (cA, 32, .inl (fun _ => mz_I 0)))] := hD
  refine lv_aload_n hx hb diX1_26 rfl (lv_at hl 0 rfl) ?_
  refine va_new (ci := 2) (fs := [.null, .null]) (C := RX2) (T := TX2) (N := 2) hx hb htb iu_X2 tyX2 tyX2_ok hown (htb _ iw_22) (htb _ iw_23) (htb _ iw_24) hK hP hD hS hA rfl (fun j hj => by rcases (show j = 0 ∨ j = 1 by omega) with rfl | rfl <;> rfl) (Nat.le_of_ble_eq_true rfl) (Nat.le_of_ble_eq_true rfl) diX1_27 (fun q27 H hP hD hS => ?_)
  have hP : va_P D mz_cl [(h0, .inr (1, [.ref q5, .ref q16, .null, .null, .null, .null, .int (mz_I 0), .int (mz_I 0), .int (mz_I 0), .int (mz_I 0)])), (q5, .inr (2, [.ref (u9 0), .ref (u9 1)])), ((u9 0), .inl (cA, 32, .inl (fun _ => mz_I 0))), ((u9 1), .inl (cA, 32, .inl (fun _ => mz_I 0))), (q16, .inr (2, [.ref (u20 0), .ref (u20 1)])), ((u20 0), .inl (cA, 32, .inl (fun _ => mz_I 0))), ((u20 1), .inl (cA, 32, .inl (fun _ => mz_I 0))), (q27, .inr (2, [.null, .null]))] H := hP
  have hD : va_D A [(h0, .inr (1, [.ref q5, .ref q16, .null, .null, .null, .null, .int (mz_I 0), .int (mz_I 0), .int (mz_I 0), .int (mz_I 0)])), (q5, .inr (2, [.ref (u9 0), .ref (u9 1)])), ((u9 0), .inl (cA, 32, .inl (fun _ => mz_I 0))), ((u9 1), .inl (cA, 32, .inl (fun _ => mz_I 0))), (q16, .inr (2, [.ref (u20 0), .ref (u20 1)])), ((u20 0), .inl (cA, 32, .inl (fun _ => mz_I 0))), ((u20 1), .inl (cA, 32, .inl (fun _ => mz_I 0))), (q27, .inr (2, [.null, .null]))] := hD
  refine W.widen (k := 7) (n := 134) (Nat.le_of_ble_eq_true rfl) (Nat.le_of_ble_eq_true rfl) ?_
  refine lv_dup hx hb diX1_30 rfl ?_
  have hPc := hP.sub (ws' := [(q27, .inr (2, [.null, .null]))]) [7] rfl
  have hDc := hD.sub (ws' := [(q27, .inr (2, [.null, .null]))]) [7] (by decide) rfl
  have hFc := va_free (wc := [(q27, .inr (2, [.null, .null]))]) hD hS hA [7] rfl
  refine va_callv (va_runIN (As := []) (rest := [.ref q27, .ref h0]) (host := RX5) ⟨hx, hb, hml, hown, htb⟩ (cn_X2 l D cA q27 H.size) ⟨va_cnB 0 htb (mz_goodIn (fun w h => (List.mem_cons.mp h).elim (fun e => e ▸ iw_25) id)) rfl rfl rfl (hnw _ nst_3) (htb _ iw_24) ⟨by decide +kernel, by decide +kernel, by decide +kernel⟩ ⟨(Nat.le_of_ble_eq_true rfl), (Nat.le_of_ble_eq_true rfl)⟩, rfl, htb _ iw_26⟩ ⟨fun a U g mk q => by obtain ⟨q0, q1, qP, qK, qD, qN⟩ := q; exact ⟨q0, q1, qP, va_K.moved (u := U) (U := U.calling g mk a) (Vm.Alike.refl U.vm) qK, qD, cn_same (s := U) (U := U.calling g mk a) rfl qN⟩, fun U hU hW => ⟨rfl, by rw [hU], by rw [hU]; exact hPc, va_K.moved hW.alike hK, hDc.weaken (fun _ _ _ _ => trivial), cn_warm hW hnw⟩⟩ rfl rfl hl.1 rfl (lv_room (Nat.le_of_ble_eq_true rfl)) diX1_31 ⟨(Nat.le_of_ble_eq_true rfl), (Nat.le_of_ble_eq_true rfl)⟩) hS (fun q _ h => hFc q h) hFc (fun u31 t H1 locs ht hvm hw hB hz1 hk1 hS => ?_)
  obtain ⟨hP1, hD1⟩ := hB
  rw [ht] at hP1
  obtain ⟨hP, hD⟩ := va_join (wr := [(h0, .inr (1, [.ref q5, .ref q16, .null, .null, .null, .null, .int (mz_I 0), .int (mz_I 0), .int (mz_I 0), .int (mz_I 0)])), (q5, .inr (2, [.ref (u9 0), .ref (u9 1)])), ((u9 0), .inl (cA, 32, .inl (fun _ => mz_I 0))), ((u9 1), .inl (cA, 32, .inl (fun _ => mz_I 0))), (q16, .inr (2, [.ref (u20 0), .ref (u20 1)])), ((u20 0), .inl (cA, 32, .inl (fun _ => mz_I 0))), ((u20 1), .inl (cA, 32, .inl (fun _ => mz_I 0)))]) (w1 := [(q27, .inr (2, [.ref (u31 0), .ref (u31 1)])), ((u31 0), .inl (cA, 32, .inl (fun _ => mz_I 0))), ((u31 1), .inl (cA, 32, .inl (fun _ => mz_I 0)))]) hP hD [7] [0, 1, 2, 3, 4, 5, 6] rfl rfl (by decide) (by decide) hk1 hFc hP1 hD1
  generalize H1 = H at hP hS ⊢
  have hP : va_P D mz_cl [(h0, .inr (1, [.ref q5, .ref q16, .null, .null, .null, .null, .int (mz_I 0), .int (mz_I 0), .int (mz_I 0), .int (mz_I 0)])), (q5, .inr (2, [.ref (u9 0), .ref (u9 1)])), ((u9 0), .inl (cA, 32, .inl (fun _ => mz_I 0))), ((u9 1), .inl (cA, 32, .inl (fun _ => mz_I 0))), (q16, .inr (2, [.ref (u20 0), .ref (u20 1)])), ((u20 0), .inl (cA, 32, .inl (fun _ => mz_I 0))), ((u20 1), .inl (cA, 32, .inl (fun _ => mz_I 0))), (q27, .inr (2, [.ref (u31 0), .ref (u31 1)])), ((u31 0), .inl (cA, 32, .inl (fun _ => mz_I 0))), ((u31 1), .inl (cA, 32, .inl (fun _ => mz_I 0)))] H := hP
  have hD : va_D A [(h0, .inr (1, [.ref q5, .ref q16, .null, .null, .null, .null, .int (mz_I 0), .int (mz_I 0), .int (mz_I 0), .int (mz_I 0)])), (q5, .inr (2, [.ref (u9 0), .ref (u9 1)])), ((u9 0), .inl (cA, 32, .inl (fun _ => mz_I 0))), ((u9 1), .inl (cA, 32, .inl (fun _ => mz_I 0))), (q16, .inr (2, [.ref (u20 0), .ref (u20 1)])), ((u20 0), .inl (cA, 32, .inl (fun _ => mz_I 0))), ((u20 1), .inl (cA, 32, .inl (fun _ => mz_I 0))), (q27, .inr (2, [.ref (u31 0), .ref (u31 1)])), ((u31 0), .inl (cA, 32, .inl (fun _ => mz_I 0))), ((u31 1), .inl (cA, 32, .inl (fun _ => mz_I 0)))] := hD
  refine W.widen (k := 9) (n := 198) (Nat.le_of_ble_eq_true rfl) (Nat.le_of_ble_eq_true rfl) ?_
  refine va_putF (D := D) (ci := 1) (v := .ref q27) (ty := .object "BentPicture$Points") (C := RX1) (T := TX1) (N := 10) hx hb htb iu_X1 tyX1 tyX1_ok nmX1 hown hK hP hD hS 0 rfl rfl 2 (by decide) (htb _ iw_29) (fun _ h9 => h9) rfl hin rfl (by decide +kernel) rfl rfl (Nat.le_of_ble_eq_true rfl) diX1_34 (fun H locs hP hD hS => ?_)
  have hP : va_P D mz_cl [(h0, .inr (1, [.ref q5, .ref q16, .ref q27, .null, .null, .null, .int (mz_I 0), .int (mz_I 0), .int (mz_I 0), .int (mz_I 0)])), (q5, .inr (2, [.ref (u9 0), .ref (u9 1)])), ((u9 0), .inl (cA, 32, .inl (fun _ => mz_I 0))), ((u9 1), .inl (cA, 32, .inl (fun _ => mz_I 0))), (q16, .inr (2, [.ref (u20 0), .ref (u20 1)])), ((u20 0), .inl (cA, 32, .inl (fun _ => mz_I 0))), ((u20 1), .inl (cA, 32, .inl (fun _ => mz_I 0))), (q27, .inr (2, [.ref (u31 0), .ref (u31 1)])), ((u31 0), .inl (cA, 32, .inl (fun _ => mz_I 0))), ((u31 1), .inl (cA, 32, .inl (fun _ => mz_I 0)))] H := hP
  have hD : va_D A [(h0, .inr (1, [.ref q5, .ref q16, .ref q27, .null, .null, .null, .int (mz_I 0), .int (mz_I 0), .int (mz_I 0), .int (mz_I 0)])), (q5, .inr (2, [.ref (u9 0), .ref (u9 1)])), ((u9 0), .inl (cA, 32, .inl (fun _ => mz_I 0))), ((u9 1), .inl (cA, 32, .inl (fun _ => mz_I 0))), (q16, .inr (2, [.ref (u20 0), .ref (u20 1)])), ((u20 0), .inl (cA, 32, .inl (fun _ => mz_I 0))), ((u20 1), .inl (cA, 32, .inl (fun _ => mz_I 0))), (q27, .inr (2, [.ref (u31 0), .ref (u31 1)])), ((u31 0), .inl (cA, 32, .inl (fun _ => mz_I 0))), ((u31 1), .inl (cA, 32, .inl (fun _ => mz_I 0)))] := hD
  refine lv_aload_n hx hb diX1_37 rfl (lv_at hl 0 rfl) ?_
  refine va_new (ci := 4) (fs := [.null, .int (mz_I 0)]) (C := RX4) (T := TX4) (N := 2) hx hb htb iu_X4 tyX4 tyX4_ok hown (htb _ iw_30) (htb _ iw_31) (htb _ iw_32) hK hP hD hS hA rfl (fun j hj => by rcases (show j = 0 ∨ j = 1 by omega) with rfl | rfl <;> rfl) (Nat.le_of_ble_eq_true rfl) (Nat.le_of_ble_eq_true rfl) diX1_38 (fun q38 H hP hD hS => ?_)
  have hP : va_P D mz_cl [(h0, .inr (1, [.ref q5, .ref q16, .ref q27, .null, .null, .null, .int (mz_I 0), .int (mz_I 0), .int (mz_I 0), .int (mz_I 0)])), (q5, .inr (2, [.ref (u9 0), .ref (u9 1)])), ((u9 0), .inl (cA, 32, .inl (fun _ => mz_I 0))), ((u9 1), .inl (cA, 32, .inl (fun _ => mz_I 0))), (q16, .inr (2, [.ref (u20 0), .ref (u20 1)])), ((u20 0), .inl (cA, 32, .inl (fun _ => mz_I 0))), ((u20 1), .inl (cA, 32, .inl (fun _ => mz_I 0))), (q27, .inr (2, [.ref (u31 0), .ref (u31 1)])), ((u31 0), .inl (cA, 32, .inl (fun _ => mz_I 0))), ((u31 1), .inl (cA, 32, .inl (fun _ => mz_I 0))), (q38, .inr (4, [.null, .int (mz_I 0)]))] H := hP
  have hD : va_D A [(h0, .inr (1, [.ref q5, .ref q16, .ref q27, .null, .null, .null, .int (mz_I 0), .int (mz_I 0), .int (mz_I 0), .int (mz_I 0)])), (q5, .inr (2, [.ref (u9 0), .ref (u9 1)])), ((u9 0), .inl (cA, 32, .inl (fun _ => mz_I 0))), ((u9 1), .inl (cA, 32, .inl (fun _ => mz_I 0))), (q16, .inr (2, [.ref (u20 0), .ref (u20 1)])), ((u20 0), .inl (cA, 32, .inl (fun _ => mz_I 0))), ((u20 1), .inl (cA, 32, .inl (fun _ => mz_I 0))), (q27, .inr (2, [.ref (u31 0), .ref (u31 1)])), ((u31 0), .inl (cA, 32, .inl (fun _ => mz_I 0))), ((u31 1), .inl (cA, 32, .inl (fun _ => mz_I 0))), (q38, .inr (4, [.null, .int (mz_I 0)]))] := hD
  refine W.widen (k := 10) (n := 200) (Nat.le_of_ble_eq_true rfl) (Nat.le_of_ble_eq_true rfl) ?_
  refine lv_dup hx hb diX1_41 rfl ?_
  have hPc := hP.sub (ws' := [(q38, .inr (4, [.null, .int (mz_I 0)]))]) [10] rfl
  have hDc := hD.sub (ws' := [(q38, .inr (4, [.null, .int (mz_I 0)]))]) [10] (by decide) rfl
  have hFc := va_free (wc := [(q38, .inr (4, [.null, .int (mz_I 0)]))]) hD hS hA [10] rfl
  refine va_callv (va_runIN (As := []) (rest := [.ref q38, .ref h0]) (host := RX5) ⟨hx, hb, hml, hown, htb⟩ (cn_X4 l D cA q38 H.size) ⟨va_cnB 0 htb (mz_goodIn (fun w h => (List.mem_cons.mp h).elim (fun e => e ▸ iw_33) id)) rfl rfl rfl (hnw _ nst_4) (htb _ iw_32) ⟨by decide +kernel, by decide +kernel, by decide +kernel⟩ ⟨(Nat.le_of_ble_eq_true rfl), (Nat.le_of_ble_eq_true rfl)⟩, rfl, htb _ iw_34⟩ ⟨fun a U g mk q => by obtain ⟨q0, q1, qP, qK, qD, qN⟩ := q; exact ⟨q0, q1, qP, va_K.moved (u := U) (U := U.calling g mk a) (Vm.Alike.refl U.vm) qK, qD, cn_same (s := U) (U := U.calling g mk a) rfl qN⟩, fun U hU hW => ⟨rfl, by rw [hU], by rw [hU]; exact hPc, va_K.moved hW.alike hK, hDc.weaken (fun _ _ _ _ => trivial), cn_warm hW hnw⟩⟩ rfl rfl hl.1 rfl (lv_room (Nat.le_of_ble_eq_true rfl)) diX1_42 ⟨(Nat.le_of_ble_eq_true rfl), (Nat.le_of_ble_eq_true rfl)⟩) hS (fun q _ h => hFc q h) hFc (fun u42 t H1 locs ht hvm hw hB hz1 hk1 hS => ?_)
  obtain ⟨hP1, hD1⟩ := hB
  rw [ht] at hP1
  obtain ⟨hP, hD⟩ := va_join (wr := [(h0, .inr (1, [.ref q5, .ref q16, .ref q27, .null, .null, .null, .int (mz_I 0), .int (mz_I 0), .int (mz_I 0), .int (mz_I 0)])), (q5, .inr (2, [.ref (u9 0), .ref (u9 1)])), ((u9 0), .inl (cA, 32, .inl (fun _ => mz_I 0))), ((u9 1), .inl (cA, 32, .inl (fun _ => mz_I 0))), (q16, .inr (2, [.ref (u20 0), .ref (u20 1)])), ((u20 0), .inl (cA, 32, .inl (fun _ => mz_I 0))), ((u20 1), .inl (cA, 32, .inl (fun _ => mz_I 0))), (q27, .inr (2, [.ref (u31 0), .ref (u31 1)])), ((u31 0), .inl (cA, 32, .inl (fun _ => mz_I 0))), ((u31 1), .inl (cA, 32, .inl (fun _ => mz_I 0)))]) (w1 := [(q38, .inr (4, [.ref (u42 0), .int (mz_I 0)])), ((u42 0), .inl (cA, 64, .inl (fun _ => mz_I 0)))]) hP hD [10] [0, 1, 2, 3, 4, 5, 6, 7, 8, 9] rfl rfl (by decide) (by decide) hk1 hFc hP1 hD1
  generalize H1 = H at hP hS ⊢
  have hP : va_P D mz_cl [(h0, .inr (1, [.ref q5, .ref q16, .ref q27, .null, .null, .null, .int (mz_I 0), .int (mz_I 0), .int (mz_I 0), .int (mz_I 0)])), (q5, .inr (2, [.ref (u9 0), .ref (u9 1)])), ((u9 0), .inl (cA, 32, .inl (fun _ => mz_I 0))), ((u9 1), .inl (cA, 32, .inl (fun _ => mz_I 0))), (q16, .inr (2, [.ref (u20 0), .ref (u20 1)])), ((u20 0), .inl (cA, 32, .inl (fun _ => mz_I 0))), ((u20 1), .inl (cA, 32, .inl (fun _ => mz_I 0))), (q27, .inr (2, [.ref (u31 0), .ref (u31 1)])), ((u31 0), .inl (cA, 32, .inl (fun _ => mz_I 0))), ((u31 1), .inl (cA, 32, .inl (fun _ => mz_I 0))), (q38, .inr (4, [.ref (u42 0), .int (mz_I 0)])), ((u42 0), .inl (cA, 64, .inl (fun _ => mz_I 0)))] H := hP
  have hD : va_D A [(h0, .inr (1, [.ref q5, .ref q16, .ref q27, .null, .null, .null, .int (mz_I 0), .int (mz_I 0), .int (mz_I 0), .int (mz_I 0)])), (q5, .inr (2, [.ref (u9 0), .ref (u9 1)])), ((u9 0), .inl (cA, 32, .inl (fun _ => mz_I 0))), ((u9 1), .inl (cA, 32, .inl (fun _ => mz_I 0))), (q16, .inr (2, [.ref (u20 0), .ref (u20 1)])), ((u20 0), .inl (cA, 32, .inl (fun _ => mz_I 0))), ((u20 1), .inl (cA, 32, .inl (fun _ => mz_I 0))), (q27, .inr (2, [.ref (u31 0), .ref (u31 1)])), ((u31 0), .inl (cA, 32, .inl (fun _ => mz_I 0))), ((u31 1), .inl (cA, 32, .inl (fun _ => mz_I 0))), (q38, .inr (4, [.ref (u42 0), .int (mz_I 0)])), ((u42 0), .inl (cA, 64, .inl (fun _ => mz_I 0)))] := hD
  refine W.widen (k := 11) (n := 264) (Nat.le_of_ble_eq_true rfl) (Nat.le_of_ble_eq_true rfl) ?_
  refine va_putF (D := D) (ci := 1) (v := .ref q38) (ty := .object "BentPicture$Triangles") (C := RX1) (T := TX1) (N := 10) hx hb htb iu_X1 tyX1 tyX1_ok nmX1 hown hK hP hD hS 0 rfl rfl 3 (by decide) (htb _ iw_35) (fun _ h9 => h9) rfl hin rfl (by decide +kernel) rfl rfl (Nat.le_of_ble_eq_true rfl) diX1_45 (fun H locs hP hD hS => ?_)
  have hP : va_P D mz_cl [(h0, .inr (1, [.ref q5, .ref q16, .ref q27, .ref q38, .null, .null, .int (mz_I 0), .int (mz_I 0), .int (mz_I 0), .int (mz_I 0)])), (q5, .inr (2, [.ref (u9 0), .ref (u9 1)])), ((u9 0), .inl (cA, 32, .inl (fun _ => mz_I 0))), ((u9 1), .inl (cA, 32, .inl (fun _ => mz_I 0))), (q16, .inr (2, [.ref (u20 0), .ref (u20 1)])), ((u20 0), .inl (cA, 32, .inl (fun _ => mz_I 0))), ((u20 1), .inl (cA, 32, .inl (fun _ => mz_I 0))), (q27, .inr (2, [.ref (u31 0), .ref (u31 1)])), ((u31 0), .inl (cA, 32, .inl (fun _ => mz_I 0))), ((u31 1), .inl (cA, 32, .inl (fun _ => mz_I 0))), (q38, .inr (4, [.ref (u42 0), .int (mz_I 0)])), ((u42 0), .inl (cA, 64, .inl (fun _ => mz_I 0)))] H := hP
  have hD : va_D A [(h0, .inr (1, [.ref q5, .ref q16, .ref q27, .ref q38, .null, .null, .int (mz_I 0), .int (mz_I 0), .int (mz_I 0), .int (mz_I 0)])), (q5, .inr (2, [.ref (u9 0), .ref (u9 1)])), ((u9 0), .inl (cA, 32, .inl (fun _ => mz_I 0))), ((u9 1), .inl (cA, 32, .inl (fun _ => mz_I 0))), (q16, .inr (2, [.ref (u20 0), .ref (u20 1)])), ((u20 0), .inl (cA, 32, .inl (fun _ => mz_I 0))), ((u20 1), .inl (cA, 32, .inl (fun _ => mz_I 0))), (q27, .inr (2, [.ref (u31 0), .ref (u31 1)])), ((u31 0), .inl (cA, 32, .inl (fun _ => mz_I 0))), ((u31 1), .inl (cA, 32, .inl (fun _ => mz_I 0))), (q38, .inr (4, [.ref (u42 0), .int (mz_I 0)])), ((u42 0), .inl (cA, 64, .inl (fun _ => mz_I 0)))] := hD
  refine lv_aload_n hx hb diX1_48 rfl (lv_at hl 0 rfl) ?_
  refine lv_bipush (v := mz_I 64) hx hb diX1_49 (mz_I_i8 (by decide) (by decide)) ?_
  refine mz_newi (N' := 64) hx hb (htb _ iw_3) hK hP hD hS hA (by decide) rfl (Nat.le_of_ble_eq_true rfl) (Nat.le_of_ble_eq_true rfl) (Nat.le_of_ble_eq_true rfl) diX1_51 (fun q51 H hP hD hS => ?_)
  have hP : va_P D mz_cl [(h0, .inr (1, [.ref q5, .ref q16, .ref q27, .ref q38, .null, .null, .int (mz_I 0), .int (mz_I 0), .int (mz_I 0), .int (mz_I 0)])), (q5, .inr (2, [.ref (u9 0), .ref (u9 1)])), ((u9 0), .inl (cA, 32, .inl (fun _ => mz_I 0))), ((u9 1), .inl (cA, 32, .inl (fun _ => mz_I 0))), (q16, .inr (2, [.ref (u20 0), .ref (u20 1)])), ((u20 0), .inl (cA, 32, .inl (fun _ => mz_I 0))), ((u20 1), .inl (cA, 32, .inl (fun _ => mz_I 0))), (q27, .inr (2, [.ref (u31 0), .ref (u31 1)])), ((u31 0), .inl (cA, 32, .inl (fun _ => mz_I 0))), ((u31 1), .inl (cA, 32, .inl (fun _ => mz_I 0))), (q38, .inr (4, [.ref (u42 0), .int (mz_I 0)])), ((u42 0), .inl (cA, 64, .inl (fun _ => mz_I 0))), (q51, .inl (cA, 64, .inl (fun _ => mz_I 0)))] H := hP
  have hD : va_D A [(h0, .inr (1, [.ref q5, .ref q16, .ref q27, .ref q38, .null, .null, .int (mz_I 0), .int (mz_I 0), .int (mz_I 0), .int (mz_I 0)])), (q5, .inr (2, [.ref (u9 0), .ref (u9 1)])), ((u9 0), .inl (cA, 32, .inl (fun _ => mz_I 0))), ((u9 1), .inl (cA, 32, .inl (fun _ => mz_I 0))), (q16, .inr (2, [.ref (u20 0), .ref (u20 1)])), ((u20 0), .inl (cA, 32, .inl (fun _ => mz_I 0))), ((u20 1), .inl (cA, 32, .inl (fun _ => mz_I 0))), (q27, .inr (2, [.ref (u31 0), .ref (u31 1)])), ((u31 0), .inl (cA, 32, .inl (fun _ => mz_I 0))), ((u31 1), .inl (cA, 32, .inl (fun _ => mz_I 0))), (q38, .inr (4, [.ref (u42 0), .int (mz_I 0)])), ((u42 0), .inl (cA, 64, .inl (fun _ => mz_I 0))), (q51, .inl (cA, 64, .inl (fun _ => mz_I 0)))] := hD
  refine W.widen (k := 12) (n := 328) (Nat.le_of_ble_eq_true rfl) (Nat.le_of_ble_eq_true rfl) ?_
  refine va_putF (D := D) (ci := 1) (v := .ref q51) (ty := .array .int) (C := RX1) (T := TX1) (N := 10) hx hb htb iu_X1 tyX1 tyX1_ok nmX1 hown hK hP hD hS 0 rfl rfl 4 (by decide) (htb _ iw_36) (fun _ h9 => h9) rfl hin rfl (by decide +kernel) rfl rfl (Nat.le_of_ble_eq_true rfl) diX1_53 (fun H locs hP hD hS => ?_)
  have hP : va_P D mz_cl [(h0, .inr (1, [.ref q5, .ref q16, .ref q27, .ref q38, .ref q51, .null, .int (mz_I 0), .int (mz_I 0), .int (mz_I 0), .int (mz_I 0)])), (q5, .inr (2, [.ref (u9 0), .ref (u9 1)])), ((u9 0), .inl (cA, 32, .inl (fun _ => mz_I 0))), ((u9 1), .inl (cA, 32, .inl (fun _ => mz_I 0))), (q16, .inr (2, [.ref (u20 0), .ref (u20 1)])), ((u20 0), .inl (cA, 32, .inl (fun _ => mz_I 0))), ((u20 1), .inl (cA, 32, .inl (fun _ => mz_I 0))), (q27, .inr (2, [.ref (u31 0), .ref (u31 1)])), ((u31 0), .inl (cA, 32, .inl (fun _ => mz_I 0))), ((u31 1), .inl (cA, 32, .inl (fun _ => mz_I 0))), (q38, .inr (4, [.ref (u42 0), .int (mz_I 0)])), ((u42 0), .inl (cA, 64, .inl (fun _ => mz_I 0))), (q51, .inl (cA, 64, .inl (fun _ => mz_I 0)))] H := hP
  have hD : va_D A [(h0, .inr (1, [.ref q5, .ref q16, .ref q27, .ref q38, .ref q51, .null, .int (mz_I 0), .int (mz_I 0), .int (mz_I 0), .int (mz_I 0)])), (q5, .inr (2, [.ref (u9 0), .ref (u9 1)])), ((u9 0), .inl (cA, 32, .inl (fun _ => mz_I 0))), ((u9 1), .inl (cA, 32, .inl (fun _ => mz_I 0))), (q16, .inr (2, [.ref (u20 0), .ref (u20 1)])), ((u20 0), .inl (cA, 32, .inl (fun _ => mz_I 0))), ((u20 1), .inl (cA, 32, .inl (fun _ => mz_I 0))), (q27, .inr (2, [.ref (u31 0), .ref (u31 1)])), ((u31 0), .inl (cA, 32, .inl (fun _ => mz_I 0))), ((u31 1), .inl (cA, 32, .inl (fun _ => mz_I 0))), (q38, .inr (4, [.ref (u42 0), .int (mz_I 0)])), ((u42 0), .inl (cA, 64, .inl (fun _ => mz_I 0))), (q51, .inl (cA, 64, .inl (fun _ => mz_I 0)))] := hD
  refine lv_aload_n hx hb diX1_56 rfl (lv_at hl 0 rfl) ?_
  refine lv_bipush (v := mz_I 64) hx hb diX1_57 (mz_I_i8 (by decide) (by decide)) ?_
  refine mz_newi (N' := 64) hx hb (htb _ iw_3) hK hP hD hS hA (by decide) rfl (Nat.le_of_ble_eq_true rfl) (Nat.le_of_ble_eq_true rfl) (Nat.le_of_ble_eq_true rfl) diX1_59 (fun q59 H hP hD hS => ?_)
  have hP : va_P D mz_cl [(h0, .inr (1, [.ref q5, .ref q16, .ref q27, .ref q38, .ref q51, .null, .int (mz_I 0), .int (mz_I 0), .int (mz_I 0), .int (mz_I 0)])), (q5, .inr (2, [.ref (u9 0), .ref (u9 1)])), ((u9 0), .inl (cA, 32, .inl (fun _ => mz_I 0))), ((u9 1), .inl (cA, 32, .inl (fun _ => mz_I 0))), (q16, .inr (2, [.ref (u20 0), .ref (u20 1)])), ((u20 0), .inl (cA, 32, .inl (fun _ => mz_I 0))), ((u20 1), .inl (cA, 32, .inl (fun _ => mz_I 0))), (q27, .inr (2, [.ref (u31 0), .ref (u31 1)])), ((u31 0), .inl (cA, 32, .inl (fun _ => mz_I 0))), ((u31 1), .inl (cA, 32, .inl (fun _ => mz_I 0))), (q38, .inr (4, [.ref (u42 0), .int (mz_I 0)])), ((u42 0), .inl (cA, 64, .inl (fun _ => mz_I 0))), (q51, .inl (cA, 64, .inl (fun _ => mz_I 0))), (q59, .inl (cA, 64, .inl (fun _ => mz_I 0)))] H := hP
  have hD : va_D A [(h0, .inr (1, [.ref q5, .ref q16, .ref q27, .ref q38, .ref q51, .null, .int (mz_I 0), .int (mz_I 0), .int (mz_I 0), .int (mz_I 0)])), (q5, .inr (2, [.ref (u9 0), .ref (u9 1)])), ((u9 0), .inl (cA, 32, .inl (fun _ => mz_I 0))), ((u9 1), .inl (cA, 32, .inl (fun _ => mz_I 0))), (q16, .inr (2, [.ref (u20 0), .ref (u20 1)])), ((u20 0), .inl (cA, 32, .inl (fun _ => mz_I 0))), ((u20 1), .inl (cA, 32, .inl (fun _ => mz_I 0))), (q27, .inr (2, [.ref (u31 0), .ref (u31 1)])), ((u31 0), .inl (cA, 32, .inl (fun _ => mz_I 0))), ((u31 1), .inl (cA, 32, .inl (fun _ => mz_I 0))), (q38, .inr (4, [.ref (u42 0), .int (mz_I 0)])), ((u42 0), .inl (cA, 64, .inl (fun _ => mz_I 0))), (q51, .inl (cA, 64, .inl (fun _ => mz_I 0))), (q59, .inl (cA, 64, .inl (fun _ => mz_I 0)))] := hD
  refine W.widen (k := 13) (n := 392) (Nat.le_of_ble_eq_true rfl) (Nat.le_of_ble_eq_true rfl) ?_
  refine va_putF (D := D) (ci := 1) (v := .ref q59) (ty := .array .int) (C := RX1) (T := TX1) (N := 10) hx hb htb iu_X1 tyX1 tyX1_ok nmX1 hown hK hP hD hS 0 rfl rfl 5 (by decide) (htb _ iw_37) (fun _ h9 => h9) rfl hin rfl (by decide +kernel) rfl rfl (Nat.le_of_ble_eq_true rfl) diX1_61 (fun H locs hP hD hS => ?_)
  have hP : va_P D mz_cl [(h0, .inr (1, [.ref q5, .ref q16, .ref q27, .ref q38, .ref q51, .ref q59, .int (mz_I 0), .int (mz_I 0), .int (mz_I 0), .int (mz_I 0)])), (q5, .inr (2, [.ref (u9 0), .ref (u9 1)])), ((u9 0), .inl (cA, 32, .inl (fun _ => mz_I 0))), ((u9 1), .inl (cA, 32, .inl (fun _ => mz_I 0))), (q16, .inr (2, [.ref (u20 0), .ref (u20 1)])), ((u20 0), .inl (cA, 32, .inl (fun _ => mz_I 0))), ((u20 1), .inl (cA, 32, .inl (fun _ => mz_I 0))), (q27, .inr (2, [.ref (u31 0), .ref (u31 1)])), ((u31 0), .inl (cA, 32, .inl (fun _ => mz_I 0))), ((u31 1), .inl (cA, 32, .inl (fun _ => mz_I 0))), (q38, .inr (4, [.ref (u42 0), .int (mz_I 0)])), ((u42 0), .inl (cA, 64, .inl (fun _ => mz_I 0))), (q51, .inl (cA, 64, .inl (fun _ => mz_I 0))), (q59, .inl (cA, 64, .inl (fun _ => mz_I 0)))] H := hP
  have hD : va_D A [(h0, .inr (1, [.ref q5, .ref q16, .ref q27, .ref q38, .ref q51, .ref q59, .int (mz_I 0), .int (mz_I 0), .int (mz_I 0), .int (mz_I 0)])), (q5, .inr (2, [.ref (u9 0), .ref (u9 1)])), ((u9 0), .inl (cA, 32, .inl (fun _ => mz_I 0))), ((u9 1), .inl (cA, 32, .inl (fun _ => mz_I 0))), (q16, .inr (2, [.ref (u20 0), .ref (u20 1)])), ((u20 0), .inl (cA, 32, .inl (fun _ => mz_I 0))), ((u20 1), .inl (cA, 32, .inl (fun _ => mz_I 0))), (q27, .inr (2, [.ref (u31 0), .ref (u31 1)])), ((u31 0), .inl (cA, 32, .inl (fun _ => mz_I 0))), ((u31 1), .inl (cA, 32, .inl (fun _ => mz_I 0))), (q38, .inr (4, [.ref (u42 0), .int (mz_I 0)])), ((u42 0), .inl (cA, 64, .inl (fun _ => mz_I 0))), (q51, .inl (cA, 64, .inl (fun _ => mz_I 0))), (q59, .inl (cA, 64, .inl (fun _ => mz_I 0)))] := hD
  refine lv_aload_n hx hb diX1_64 rfl (lv_at hl 0 rfl) ?_
  refine lv_iconst (v := mz_I 0) hx hb diX1_65 rfl ?_
  refine va_put (D := D) (ci := 1) (v := .int (mz_I 0)) (ty := .int) (C := RX1) (T := TX1) (N := 10) hx hb htb iu_X1 tyX1 tyX1_ok nmX1 hown hK hP hD hS 0 rfl rfl 6 (by decide) (htb _ iw_38) (fun _ h9 => h9) rfl (by decide +kernel) rfl rfl (Nat.le_of_ble_eq_true rfl) diX1_66 (fun H locs hP hD hS => ?_)
  have hP : va_P D mz_cl [(h0, .inr (1, [.ref q5, .ref q16, .ref q27, .ref q38, .ref q51, .ref q59, .int (mz_I 0), .int (mz_I 0), .int (mz_I 0), .int (mz_I 0)])), (q5, .inr (2, [.ref (u9 0), .ref (u9 1)])), ((u9 0), .inl (cA, 32, .inl (fun _ => mz_I 0))), ((u9 1), .inl (cA, 32, .inl (fun _ => mz_I 0))), (q16, .inr (2, [.ref (u20 0), .ref (u20 1)])), ((u20 0), .inl (cA, 32, .inl (fun _ => mz_I 0))), ((u20 1), .inl (cA, 32, .inl (fun _ => mz_I 0))), (q27, .inr (2, [.ref (u31 0), .ref (u31 1)])), ((u31 0), .inl (cA, 32, .inl (fun _ => mz_I 0))), ((u31 1), .inl (cA, 32, .inl (fun _ => mz_I 0))), (q38, .inr (4, [.ref (u42 0), .int (mz_I 0)])), ((u42 0), .inl (cA, 64, .inl (fun _ => mz_I 0))), (q51, .inl (cA, 64, .inl (fun _ => mz_I 0))), (q59, .inl (cA, 64, .inl (fun _ => mz_I 0)))] H := hP
  have hD : va_D A [(h0, .inr (1, [.ref q5, .ref q16, .ref q27, .ref q38, .ref q51, .ref q59, .int (mz_I 0), .int (mz_I 0), .int (mz_I 0), .int (mz_I 0)])), (q5, .inr (2, [.ref (u9 0), .ref (u9 1)])), ((u9 0), .inl (cA, 32, .inl (fun _ => mz_I 0))), ((u9 1), .inl (cA, 32, .inl (fun _ => mz_I 0))), (q16, .inr (2, [.ref (u20 0), .ref (u20 1)])), ((u20 0), .inl (cA, 32, .inl (fun _ => mz_I 0))), ((u20 1), .inl (cA, 32, .inl (fun _ => mz_I 0))), (q27, .inr (2, [.ref (u31 0), .ref (u31 1)])), ((u31 0), .inl (cA, 32, .inl (fun _ => mz_I 0))), ((u31 1), .inl (cA, 32, .inl (fun _ => mz_I 0))), (q38, .inr (4, [.ref (u42 0), .int (mz_I 0)])), ((u42 0), .inl (cA, 64, .inl (fun _ => mz_I 0))), (q51, .inl (cA, 64, .inl (fun _ => mz_I 0))), (q59, .inl (cA, 64, .inl (fun _ => mz_I 0)))] := hD
  refine lv_aload_n hx hb diX1_69 rfl (lv_at hl 0 rfl) ?_
  refine lv_iconst (v := mz_I 0) hx hb diX1_70 rfl ?_
  refine va_put (D := D) (ci := 1) (v := .int (mz_I 0)) (ty := .int) (C := RX1) (T := TX1) (N := 10) hx hb htb iu_X1 tyX1 tyX1_ok nmX1 hown hK hP hD hS 0 rfl rfl 7 (by decide) (htb _ iw_39) (fun _ h9 => h9) rfl (by decide +kernel) rfl rfl (Nat.le_of_ble_eq_true rfl) diX1_71 (fun H locs hP hD hS => ?_)
  have hP : va_P D mz_cl [(h0, .inr (1, [.ref q5, .ref q16, .ref q27, .ref q38, .ref q51, .ref q59, .int (mz_I 0), .int (mz_I 0), .int (mz_I 0), .int (mz_I 0)])), (q5, .inr (2, [.ref (u9 0), .ref (u9 1)])), ((u9 0), .inl (cA, 32, .inl (fun _ => mz_I 0))), ((u9 1), .inl (cA, 32, .inl (fun _ => mz_I 0))), (q16, .inr (2, [.ref (u20 0), .ref (u20 1)])), ((u20 0), .inl (cA, 32, .inl (fun _ => mz_I 0))), ((u20 1), .inl (cA, 32, .inl (fun _ => mz_I 0))), (q27, .inr (2, [.ref (u31 0), .ref (u31 1)])), ((u31 0), .inl (cA, 32, .inl (fun _ => mz_I 0))), ((u31 1), .inl (cA, 32, .inl (fun _ => mz_I 0))), (q38, .inr (4, [.ref (u42 0), .int (mz_I 0)])), ((u42 0), .inl (cA, 64, .inl (fun _ => mz_I 0))), (q51, .inl (cA, 64, .inl (fun _ => mz_I 0))), (q59, .inl (cA, 64, .inl (fun _ => mz_I 0)))] H := hP
  have hD : va_D A [(h0, .inr (1, [.ref q5, .ref q16, .ref q27, .ref q38, .ref q51, .ref q59, .int (mz_I 0), .int (mz_I 0), .int (mz_I 0), .int (mz_I 0)])), (q5, .inr (2, [.ref (u9 0), .ref (u9 1)])), ((u9 0), .inl (cA, 32, .inl (fun _ => mz_I 0))), ((u9 1), .inl (cA, 32, .inl (fun _ => mz_I 0))), (q16, .inr (2, [.ref (u20 0), .ref (u20 1)])), ((u20 0), .inl (cA, 32, .inl (fun _ => mz_I 0))), ((u20 1), .inl (cA, 32, .inl (fun _ => mz_I 0))), (q27, .inr (2, [.ref (u31 0), .ref (u31 1)])), ((u31 0), .inl (cA, 32, .inl (fun _ => mz_I 0))), ((u31 1), .inl (cA, 32, .inl (fun _ => mz_I 0))), (q38, .inr (4, [.ref (u42 0), .int (mz_I 0)])), ((u42 0), .inl (cA, 64, .inl (fun _ => mz_I 0))), (q51, .inl (cA, 64, .inl (fun _ => mz_I 0))), (q59, .inl (cA, 64, .inl (fun _ => mz_I 0)))] := hD
  refine lv_aload_n hx hb diX1_74 rfl (lv_at hl 0 rfl) ?_
  refine lv_iconst (v := mz_I 2) hx hb diX1_75 rfl ?_
  refine va_put (D := D) (ci := 1) (v := .int (mz_I 2)) (ty := .int) (C := RX1) (T := TX1) (N := 10) hx hb htb iu_X1 tyX1 tyX1_ok nmX1 hown hK hP hD hS 0 rfl rfl 8 (by decide) (htb _ iw_40) (fun _ h9 => h9) rfl (by decide +kernel) rfl rfl (Nat.le_of_ble_eq_true rfl) diX1_76 (fun H locs hP hD hS => ?_)
  have hP : va_P D mz_cl [(h0, .inr (1, [.ref q5, .ref q16, .ref q27, .ref q38, .ref q51, .ref q59, .int (mz_I 0), .int (mz_I 0), .int (mz_I 2), .int (mz_I 0)])), (q5, .inr (2, [.ref (u9 0), .ref (u9 1)])), ((u9 0), .inl (cA, 32, .inl (fun _ => mz_I 0))), ((u9 1), .inl (cA, 32, .inl (fun _ => mz_I 0))), (q16, .inr (2, [.ref (u20 0), .ref (u20 1)])), ((u20 0), .inl (cA, 32, .inl (fun _ => mz_I 0))), ((u20 1), .inl (cA, 32, .inl (fun _ => mz_I 0))), (q27, .inr (2, [.ref (u31 0), .ref (u31 1)])), ((u31 0), .inl (cA, 32, .inl (fun _ => mz_I 0))), ((u31 1), .inl (cA, 32, .inl (fun _ => mz_I 0))), (q38, .inr (4, [.ref (u42 0), .int (mz_I 0)])), ((u42 0), .inl (cA, 64, .inl (fun _ => mz_I 0))), (q51, .inl (cA, 64, .inl (fun _ => mz_I 0))), (q59, .inl (cA, 64, .inl (fun _ => mz_I 0)))] H := hP
  have hD : va_D A [(h0, .inr (1, [.ref q5, .ref q16, .ref q27, .ref q38, .ref q51, .ref q59, .int (mz_I 0), .int (mz_I 0), .int (mz_I 2), .int (mz_I 0)])), (q5, .inr (2, [.ref (u9 0), .ref (u9 1)])), ((u9 0), .inl (cA, 32, .inl (fun _ => mz_I 0))), ((u9 1), .inl (cA, 32, .inl (fun _ => mz_I 0))), (q16, .inr (2, [.ref (u20 0), .ref (u20 1)])), ((u20 0), .inl (cA, 32, .inl (fun _ => mz_I 0))), ((u20 1), .inl (cA, 32, .inl (fun _ => mz_I 0))), (q27, .inr (2, [.ref (u31 0), .ref (u31 1)])), ((u31 0), .inl (cA, 32, .inl (fun _ => mz_I 0))), ((u31 1), .inl (cA, 32, .inl (fun _ => mz_I 0))), (q38, .inr (4, [.ref (u42 0), .int (mz_I 0)])), ((u42 0), .inl (cA, 64, .inl (fun _ => mz_I 0))), (q51, .inl (cA, 64, .inl (fun _ => mz_I 0))), (q59, .inl (cA, 64, .inl (fun _ => mz_I 0)))] := hD
  refine lv_aload_n hx hb diX1_79 rfl (lv_at hl 0 rfl) ?_
  refine lv_iconst (v := mz_I 2) hx hb diX1_80 rfl ?_
  refine va_put (D := D) (ci := 1) (v := .int (mz_I 2)) (ty := .int) (C := RX1) (T := TX1) (N := 10) hx hb htb iu_X1 tyX1 tyX1_ok nmX1 hown hK hP hD hS 0 rfl rfl 9 (by decide) (htb _ iw_41) (fun _ h9 => h9) rfl (by decide +kernel) rfl rfl (Nat.le_of_ble_eq_true rfl) diX1_81 (fun H locs hP hD hS => ?_)
  have hP : va_P D mz_cl [(h0, .inr (1, [.ref q5, .ref q16, .ref q27, .ref q38, .ref q51, .ref q59, .int (mz_I 0), .int (mz_I 0), .int (mz_I 2), .int (mz_I 2)])), (q5, .inr (2, [.ref (u9 0), .ref (u9 1)])), ((u9 0), .inl (cA, 32, .inl (fun _ => mz_I 0))), ((u9 1), .inl (cA, 32, .inl (fun _ => mz_I 0))), (q16, .inr (2, [.ref (u20 0), .ref (u20 1)])), ((u20 0), .inl (cA, 32, .inl (fun _ => mz_I 0))), ((u20 1), .inl (cA, 32, .inl (fun _ => mz_I 0))), (q27, .inr (2, [.ref (u31 0), .ref (u31 1)])), ((u31 0), .inl (cA, 32, .inl (fun _ => mz_I 0))), ((u31 1), .inl (cA, 32, .inl (fun _ => mz_I 0))), (q38, .inr (4, [.ref (u42 0), .int (mz_I 0)])), ((u42 0), .inl (cA, 64, .inl (fun _ => mz_I 0))), (q51, .inl (cA, 64, .inl (fun _ => mz_I 0))), (q59, .inl (cA, 64, .inl (fun _ => mz_I 0)))] H := hP
  have hD : va_D A [(h0, .inr (1, [.ref q5, .ref q16, .ref q27, .ref q38, .ref q51, .ref q59, .int (mz_I 0), .int (mz_I 0), .int (mz_I 2), .int (mz_I 2)])), (q5, .inr (2, [.ref (u9 0), .ref (u9 1)])), ((u9 0), .inl (cA, 32, .inl (fun _ => mz_I 0))), ((u9 1), .inl (cA, 32, .inl (fun _ => mz_I 0))), (q16, .inr (2, [.ref (u20 0), .ref (u20 1)])), ((u20 0), .inl (cA, 32, .inl (fun _ => mz_I 0))), ((u20 1), .inl (cA, 32, .inl (fun _ => mz_I 0))), (q27, .inr (2, [.ref (u31 0), .ref (u31 1)])), ((u31 0), .inl (cA, 32, .inl (fun _ => mz_I 0))), ((u31 1), .inl (cA, 32, .inl (fun _ => mz_I 0))), (q38, .inr (4, [.ref (u42 0), .int (mz_I 0)])), ((u42 0), .inl (cA, 64, .inl (fun _ => mz_I 0))), (q51, .inl (cA, 64, .inl (fun _ => mz_I 0))), (q59, .inl (cA, 64, .inl (fun _ => mz_I 0)))] := hD
  exact W.vret hx hb hr (fun t ht hW => ⟨⟨(fun k => [q5, (u9 0), (u9 1), q16, (u20 0), (u20 1), q27, (u31 0), (u31 1), q38, (u42 0), q51, q59].getD k 0), rfl, trivial, by rw [ht]; exact hP, hD⟩, hS.F ht⟩) hS.2.2 diX1_84 (hlocks := hlocks)
