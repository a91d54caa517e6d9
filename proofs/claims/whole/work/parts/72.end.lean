/-! the law from its start, and the claim -/
/-! THE CLAIM OUT OF ONE WALK OF THE LAW'S BODY. Your part is whole_start (and what it stands on); all else here is the same for every law, but numbers. -/
def R_law : String := "BentPictureLaw"
def lw_P (b : Addr) (xs : List Int32) (args : Array Value) (s : State) : Prop := args = #[.ref b] ∧ s.IntsAt b xs ∧ xs.length ≤ 2560 ∧ (Jvm.Cond.and given_1 narrow_1).before args s = true
def lw_Q (_ : Array Value) (s : State) (o : Outcome) (t : State) : Prop := o = .returned (some (.int 1)) ∧ Framed s o t [] 38 4491
def lw_Z (below : List Frame) (a : Array Value) (s : State) : State → Prop := fun t => ∃ o, t.status = .running ∧ Ended t below o ∧ lw_Q a s o t
/-- the law's own end, with 1 on the stack, nothing written that was there before, its room as the claim has it -/
theorem lw_ret {p : Program} {l : Launch} {e : Env} {s : State} {m : MethodId} {below : List Frame} {meth : Method} {c : Code} {b : Nat} (hx : p.tables.exec = Jvm.exec) (hb : c.code = code) (hr : meth.sig.returnType = ret) (hlocks : meth.locks = false) {pc : Nat} {H : Heap} {ls : Array Slot} (hdg : decode code pc = .ok (.ireturn, 1)) : W p l e room_1 s m #[Value.ref b] below meth c H [] 38 4491 (lw_Z below #[Value.ref b] s) (F0 m pc ls [.int 1]) := by
  intro T hT X
  obtain ⟨fs, hret, hrun, hended, hW, hframe⟩ := X.leave (v := some (.int 1)) (hlocks := hlocks) (fun h => by rw [hr] at h; cases h)
  have hmeth' : T.vm.method? m = some meth := X.method'
  refine ⟨T.setFrames fs, ?_, .returned (some (.int 1)), hrun, hended, rfl, ⟨_, rfl⟩, hW, hframe⟩
  jvm_step X.here [X.here.top, hx, hb, hdg, hmeth', hr, ret, narrow_b1]
  (try refine ⟨rfl, ?_⟩); (try refine ⟨rfl, ?_⟩)
  first | (intro acts; rw [hret _ acts rfl rfl rfl]) | rw [hret _ _ rfl rfl rfl]
  exact Steps.refl _
/-- what holds at the law's entry: the machine, the code, the tables' words (any of lw_tbl by 'hts w (by decide +kernel)'), the script of L ints xs at the cell b, what the Statement gives of the start (any of its parts by flat_of_before) -/
def lw_At (p : Program) (s : State) (m : MethodId) (meth : Method) (c : Code) (b L : Nat) (xs : Nat → Int32) : Prop :=
  p.tables.exec = Jvm.exec ∧ c.code = code ∧ meth.sig.returnType = ret ∧ c.maxLocals = 4 ∧ s.vm.findClass R_law = some m.cls ∧ (∀ w ∈ lw_tbl, w.before #[Value.ref b] s = true) ∧ va_X b L xs s s.heap ∧ b < s.heap.size ∧ meth.locks = false ∧ (Jvm.Cond.and given_1 narrow_1).before #[Value.ref b] s = true
theorem nl_0 : Cond.methodLinkNest RX3 61 yX5_divisorOf RX5 ∈ lw_tbl := List.mem_of_getElem? (i := 370) (by decide +kernel)
theorem nl_1 : Cond.methodLinkNest RX3 65 yX5_shortened RX5 ∈ lw_tbl := List.mem_of_getElem? (i := 373) (by decide +kernel)
theorem nl_2 : Cond.methodLinkNest RX5 11 yX1_init RX5 ∈ lw_tbl := List.mem_of_getElem? (i := 84) (by decide +kernel)
theorem nl_3 : Cond.methodLinkNest RX5 18 yX0_init RX5 ∈ lw_tbl := List.mem_of_getElem? (i := 168) (by decide +kernel)
theorem nl_4 : Cond.methodLinkNest RX5 25 yX3_init RX5 ∈ lw_tbl := List.mem_of_getElem? (i := 182) (by decide +kernel)
theorem nl_5 : Cond.methodLinkNest RX1 11 yX2_init RX5 ∈ lw_tbl := List.mem_of_getElem? (i := 90) (by decide +kernel)
theorem nl_6 : Cond.methodLinkNest RX1 26 yX4_init RX5 ∈ lw_tbl := List.mem_of_getElem? (i := 112) (by decide +kernel)
theorem nl_all {args : Array Value} {s : State} (hts : ∀ w ∈ lw_tbl, w.before args s = true) : ∀ w ∈ cn_nest, va_Nw w s := by
  intro w hw
  simp only [cn_nest, mz_nest, List.cons_append, List.nil_append, List.mem_cons, List.not_mem_nil, or_false] at hw
  rcases hw with rfl | rfl | rfl | rfl | rfl | rfl | rfl
  · exact va_Nw.of rfl (hts _ nl_0)
  · exact va_Nw.of rfl (hts _ nl_1)
  · exact va_Nw.of rfl (hts _ nl_2)
  · exact va_Nw.of rfl (hts _ nl_3)
  · exact va_Nw.of rfl (hts _ nl_4)
  · exact va_Nw.of rfl (hts _ nl_5)
  · exact va_Nw.of rfl (hts _ nl_6)
theorem dil_0 : decode code 0 = .ok (.new 7, 3) := by decide +kernel
theorem dil_3 : decode code 3 = .ok (.dup, 1) := by decide +kernel
theorem dil_4 : decode code 4 = .ok (.invokespecial 9, 3) := by decide +kernel
theorem dil_7 : decode code 7 = .ok (.astore_n 1, 1) := by decide +kernel
theorem dil_8 : decode code 8 = .ok (.new 10, 3) := by decide +kernel
theorem dil_11 : decode code 11 = .ok (.dup, 1) := by decide +kernel
theorem dil_12 : decode code 12 = .ok (.invokespecial 12, 3) := by decide +kernel
theorem dil_15 : decode code 15 = .ok (.astore_n 2, 1) := by decide +kernel
theorem iw_82 : Cond.instantiable RX5 8 ∈ mz_tb := mz_tb_of (i := 75) (by decide +kernel) (by first | rfl | decide +kernel | simp [goodWord, Cond.onTables, Cond.keeps, Cond.steady])
theorem iw_83 : Cond.instantiable RX6 23 ∈ mz_tb := mz_tb_of (i := 694) (by decide +kernel) (by first | rfl | decide +kernel | simp [goodWord, Cond.onTables, Cond.keeps, Cond.steady])
theorem iw_84 : Cond.classLink RL 7 RX5 ∈ mz_tb := mz_tb_of (i := 74) (by decide +kernel) (by first | rfl | decide +kernel | simp [goodWord, Cond.onTables, Cond.keeps, Cond.steady])
theorem iw_85 : Cond.initialized RX5 ∈ mz_tb := mz_tb_of (i := 65) (by decide +kernel) (by first | rfl | decide +kernel | simp [goodWord, Cond.onTables, Cond.keeps, Cond.steady])
theorem iw_86 : Cond.code yX5_init cX5_init 1 none ∈ mz_tb := mz_tb_of (i := 78) (by decide +kernel) (by first | rfl | decide +kernel | simp [goodWord, Cond.onTables, Cond.keeps, Cond.steady])
theorem iw_87 : Cond.methodLink RL 9 yX5_init ∈ mz_tb := mz_tb_of (i := 76) (by decide +kernel) (by first | rfl | decide +kernel | simp [goodWord, Cond.onTables, Cond.keeps, Cond.steady])
theorem iw_88 : Cond.instanceMethod yX5_init ∈ mz_tb := mz_tb_of (i := 77) (by decide +kernel) (by first | rfl | decide +kernel | simp [goodWord, Cond.onTables, Cond.keeps, Cond.steady])
theorem iw_89 : Cond.classLink RL 10 RX6 ∈ mz_tb := mz_tb_of (i := 693) (by decide +kernel) (by first | rfl | decide +kernel | simp [goodWord, Cond.onTables, Cond.keeps, Cond.steady])
theorem iw_90 : Cond.initialized RX6 ∈ mz_tb := mz_tb_of (i := 71) (by decide +kernel) (by first | rfl | decide +kernel | simp [goodWord, Cond.onTables, Cond.keeps, Cond.steady])
theorem iw_91 : Cond.code yX6_init cX6_init 1 none ∈ mz_tb := mz_tb_of (i := 697) (by decide +kernel) (by first | rfl | decide +kernel | simp [goodWord, Cond.onTables, Cond.keeps, Cond.steady])
theorem iw_92 : Cond.methodLink RL 12 yX6_init ∈ mz_tb := mz_tb_of (i := 695) (by decide +kernel) (by first | rfl | decide +kernel | simp [goodWord, Cond.onTables, Cond.keeps, Cond.steady])
theorem iw_93 : Cond.instanceMethod yX6_init ∈ mz_tb := mz_tb_of (i := 696) (by decide +kernel) (by first | rfl | decide +kernel | simp [goodWord, Cond.onTables, Cond.keeps, Cond.steady])
set_option maxHeartbeats 4000000 in
set_option maxRecDepth 100000 in
theorem whole_start {p : Program} {e : Env} {s : State} {m : MethodId} {below : List Frame} {meth : Method} {c : Code} (l : Launch) (hflags : l.flags = flags0) {b L : Nat} {xs : Nat → Int32} (hL : L ≤ 2560) (C0 : lw_At p s m meth c b L xs) : W p l e room_1 s m #[Value.ref b] below meth c s.heap [] 0 0 (lw_Z below #[Value.ref b] s) (entryFrame m ([Value.ref b] : List Value).toArray 4) := by
  obtain ⟨hx, hb, hr, hml, hown, hts, hX, hbl, hlocks, hgv⟩ := id C0
  have hown : s.vm.findClass RL = some m.cls := hown
  have hb : c.code = cL_law := hb
  have htb : ∀ w ∈ mz_tb, w.before #[Value.ref b] s = true := fun w h => hts w (List.mem_filter.mp h).1
  have hnw := nl_all hts
  have hA : ∀ q : Nat, s.heap.size ≤ q → (fun q : Nat => s.heap.size ≤ q) q := fun _ h => h
  have hbA : ¬ (fun q : Nat => s.heap.size ≤ q) b := Nat.not_le.mpr hbl
  obtain ⟨c0, iS0, hKn0⟩ := u_known (ws := mz_tb) (C := RX0) (T := TX0) (N := 2) (n := 2) htb iu_X0 (htb _ iw_50)
  obtain ⟨c1, iS1, hKn1⟩ := u_known (ws := mz_tb) (C := RX1) (T := TX1) (N := 10) (n := 10) htb iu_X1 (htb _ iw_44)
  obtain ⟨c2, iS2, hKn2⟩ := u_known (ws := mz_tb) (C := RX2) (T := TX2) (N := 2) (n := 2) htb iu_X2 (htb _ iw_23)
  obtain ⟨c3, iS3, hKn3⟩ := u_known (ws := mz_tb) (C := RX3) (T := TX3) (N := 8) (n := 8) htb iu_X3 (htb _ iw_56)
  obtain ⟨c4, iS4, hKn4⟩ := u_known (ws := mz_tb) (C := RX4) (T := TX4) (N := 2) (n := 2) htb iu_X4 (htb _ iw_31)
  obtain ⟨c5, iS5, hKn5⟩ := u_known (ws := mz_tb) (C := RX5) (T := TX5) (N := 8) (n := 8) htb iu_X5 (htb _ iw_82)
  obtain ⟨c6, iS6, hKn6⟩ := u_known (ws := mz_tb) (C := RX6) (T := TX6) (N := 23) (n := 23) htb iu_X6 (htb _ iw_83)
  obtain ⟨D, hKc⟩ : ∃ D : va_G, ∀ (k : Nat) (q : vw_C), mz_cl[k]? = some q → u_Kn s q.1 q.2.1 q.2.2 (D.1 k) (D.2 k) := by
    refine ⟨(fun k => if k = 0 then c0 else if k = 1 then c1 else if k = 2 then c2 else if k = 3 then c3 else if k = 4 then c4 else if k = 5 then c5 else c6, fun k => if k = 0 then iS0 else if k = 1 then iS1 else if k = 2 then iS2 else if k = 3 then iS3 else if k = 4 then iS4 else if k = 5 then iS5 else iS6), ?_⟩
    intro k q hq
    match k, hq with
    | 0, hq => cases hq; exact hKn0
    | 1, hq => cases hq; exact hKn1
    | 2, hq => cases hq; exact hKn2
    | 3, hq => cases hq; exact hKn3
    | 4, hq => cases hq; exact hKn4
    | 5, hq => cases hq; exact hKn5
    | 6, hq => cases hq; exact hKn6
    | k + 7, hq => simp [mz_cl] at hq
  obtain ⟨cA, hcA1, hcA2⟩ := mz_cA (htb _ iw_3)
  have hS : va_S (fun q : Nat => s.heap.size ≤ q) s.heap s.heap [] := va_S.rf
  have hK : va_K D mz_cl [(cA, .int)] s := ⟨hKc, fun k q h => by
    match k, h with
    | 0, h => cases h; exact ⟨hcA1, hcA2⟩
    | k + 1, h => simp at h⟩
  have hP : va_P D mz_cl [] s.heap := fun k q h => by simp at h
  have hD : va_D (fun q : Nat => s.heap.size ≤ q) [] := ⟨fun i j p q h => by simp at h, fun k q h => by simp at h⟩
  have hl := lv_entry ([.ref b]) (n := 4) (Nat.le_of_ble_eq_true rfl)
  rw [lg_entry_eq]
  generalize (lg_sl ([.ref b]) ++ List.replicate (4 - (lg_sl ([.ref b])).length) Slot.unset).toArray = ls at hl ⊢
  have hl : lv_has ls 4 [(0, .ref b)] := hl
  refine va_new (ci := 5) (fs := [.null, .null, .null, .null, .null, .null, .null, .int (mz_I 0)]) (C := RX5) (T := TX5) (N := 8) hx hb htb iu_X5 tyX5 tyX5_ok hown (htb _ iw_84) (htb _ iw_82) (htb _ iw_85) hK hP hD hS hA rfl (fun j hj => by rcases (show j = 0 ∨ j = 1 ∨ j = 2 ∨ j = 3 ∨ j = 4 ∨ j = 5 ∨ j = 6 ∨ j = 7 by omega) with rfl | rfl | rfl | rfl | rfl | rfl | rfl | rfl <;> rfl) (Nat.le_of_ble_eq_true rfl) (Nat.le_of_ble_eq_true rfl) dil_0 (fun q0 H hP hD hS => ?_)
  have hP : va_P D mz_cl [(q0, .inr (5, [.null, .null, .null, .null, .null, .null, .null, .int (mz_I 0)]))] H := hP
  have hD : va_D (fun q : Nat => s.heap.size ≤ q) [(q0, .inr (5, [.null, .null, .null, .null, .null, .null, .null, .int (mz_I 0)]))] := hD
  refine W.widen (k := 1) (n := 8) (Nat.le_of_ble_eq_true rfl) (Nat.le_of_ble_eq_true rfl) ?_
  refine lv_dup hx hb dil_3 rfl ?_
  have hPc := hP.sub (ws' := [(q0, .inr (5, [.null, .null, .null, .null, .null, .null, .null, .int (mz_I 0)]))]) [0] rfl
  have hDc := hD.sub (ws' := [(q0, .inr (5, [.null, .null, .null, .null, .null, .null, .null, .int (mz_I 0)]))]) [0] (by decide) rfl
  have hFc := va_free (wc := [(q0, .inr (5, [.null, .null, .null, .null, .null, .null, .null, .int (mz_I 0)]))]) hD hS hA [0] rfl
  refine va_callv (va_runI (As := []) (rest := [.ref q0]) ⟨hx, hb, hml, hown, htb⟩ (cn_X5 l D cA q0 H.size) (cwI 0 htb (mz_goodIn (fun w h => (List.mem_cons.mp h).elim (fun e => e ▸ iw_86) id)) rfl rfl rfl (htb _ iw_85) (htb _ iw_87) (htb _ iw_88) rfl ⟨by decide +kernel, by decide +kernel, by decide +kernel⟩ ⟨(Nat.le_of_ble_eq_true rfl), (Nat.le_of_ble_eq_true rfl)⟩) ⟨fun a U g mk q => by obtain ⟨q0, q1, qP, qK, qD, qN⟩ := q; exact ⟨q0, q1, qP, va_K.moved (u := U) (U := U.calling g mk a) (Vm.Alike.refl U.vm) qK, qD, cn_same (s := U) (U := U.calling g mk a) rfl qN⟩, fun U hU hW => ⟨rfl, by rw [hU], by rw [hU]; exact hPc, va_K.moved hW.alike hK, hDc.weaken (fun _ _ _ _ => trivial), cn_warm hW hnw⟩⟩ rfl rfl hl.1 rfl (lv_room (Nat.le_of_ble_eq_true rfl)) dil_4 ⟨(Nat.le_of_ble_eq_true rfl), (Nat.le_of_ble_eq_true rfl)⟩) hS (fun q _ h => hFc q h) hFc (fun u1 t H1 locs ht hvm hw hB hz1 hk1 hS => ?_)
  obtain ⟨ad1, σ1⟩ := u1
  obtain ⟨hP1, hD1, ha1, hCS⟩ := hB
  rw [ht] at hP1
  dsimp only at hP1 hD1 ha1 hCS
  obtain ⟨hP, hD⟩ := va_join (wr := []) (w1 := mz_ws ad1 cA shA σ1) hP hD [0] [] rfl rfl (by decide) (by decide) hk1 hFc hP1 hD1
  generalize H1 = H at hP hS ⊢
  have hP : va_P D mz_cl (mz_ws ad1 cA shA σ1) H := hP
  have hD : va_D (fun q : Nat => s.heap.size ≤ q) (mz_ws ad1 cA shA σ1) := hD
  refine W.widen (k := 23) (n := 2820) (Nat.le_of_ble_eq_true rfl) (Nat.le_of_ble_eq_true rfl) ?_
  refine lv_astore_n (lv' := [(1, .ref q0), (0, .ref b)]) hx hb dil_7 rfl hl (by decide) rfl (fun ls hl => ?_)
  refine va_new (ci := 6) (fs := [.int (mz_I 0), .int (mz_I 0), .int (mz_I 0), .int (mz_I 0), .null, .null, .null, .null, .null, .null, .null, .null, .null, .null, .null, .null, .int (mz_I 0), .int (mz_I 0), .null, .null, .int (mz_I 0), .int (mz_I 0), .int (mz_I 0)]) (C := RX6) (T := TX6) (N := 23) hx hb htb iu_X6 tyX6 tyX6_ok hown (htb _ iw_89) (htb _ iw_83) (htb _ iw_90) hK hP hD hS hA rfl (fun j hj => by rcases (show j = 0 ∨ j = 1 ∨ j = 2 ∨ j = 3 ∨ j = 4 ∨ j = 5 ∨ j = 6 ∨ j = 7 ∨ j = 8 ∨ j = 9 ∨ j = 10 ∨ j = 11 ∨ j = 12 ∨ j = 13 ∨ j = 14 ∨ j = 15 ∨ j = 16 ∨ j = 17 ∨ j = 18 ∨ j = 19 ∨ j = 20 ∨ j = 21 ∨ j = 22 by omega) with rfl | rfl | rfl | rfl | rfl | rfl | rfl | rfl | rfl | rfl | rfl | rfl | rfl | rfl | rfl | rfl | rfl | rfl | rfl | rfl | rfl | rfl | rfl <;> rfl) (Nat.le_of_ble_eq_true rfl) (Nat.le_of_ble_eq_true rfl) dil_8 (fun q8 H hP hD hS => ?_)
  have hP : va_P D mz_cl (mz_ws ad1 cA shA σ1 ++ [(q8, .inr (6, [.int (mz_I 0), .int (mz_I 0), .int (mz_I 0), .int (mz_I 0), .null, .null, .null, .null, .null, .null, .null, .null, .null, .null, .null, .null, .int (mz_I 0), .int (mz_I 0), .null, .null, .int (mz_I 0), .int (mz_I 0), .int (mz_I 0)]))]) H := hP
  have hD : va_D (fun q : Nat => s.heap.size ≤ q) (mz_ws ad1 cA shA σ1 ++ [(q8, .inr (6, [.int (mz_I 0), .int (mz_I 0), .int (mz_I 0), .int (mz_I 0), .null, .null, .null, .null, .null, .null, .null, .null, .null, .null, .null, .null, .int (mz_I 0), .int (mz_I 0), .null, .null, .int (mz_I 0), .int (mz_I 0), .int (mz_I 0)]))]) := hD
  refine W.widen (k := 24) (n := 2843) (Nat.le_of_ble_eq_true rfl) (Nat.le_of_ble_eq_true rfl) ?_
  refine lv_dup hx hb dil_11 rfl ?_
  have hPc := hP.sub (ws' := [(q8, .inr (6, [.int (mz_I 0), .int (mz_I 0), .int (mz_I 0), .int (mz_I 0), .null, .null, .null, .null, .null, .null, .null, .null, .null, .null, .null, .null, .int (mz_I 0), .int (mz_I 0), .null, .null, .int (mz_I 0), .int (mz_I 0), .int (mz_I 0)]))]) [23] rfl
  have hDc := hD.sub (ws' := [(q8, .inr (6, [.int (mz_I 0), .int (mz_I 0), .int (mz_I 0), .int (mz_I 0), .null, .null, .null, .null, .null, .null, .null, .null, .null, .null, .null, .null, .int (mz_I 0), .int (mz_I 0), .null, .null, .int (mz_I 0), .int (mz_I 0), .int (mz_I 0)]))]) [23] (by decide) rfl
  have hFc := va_free (wc := [(q8, .inr (6, [.int (mz_I 0), .int (mz_I 0), .int (mz_I 0), .int (mz_I 0), .null, .null, .null, .null, .null, .null, .null, .null, .null, .null, .null, .null, .int (mz_I 0), .int (mz_I 0), .null, .null, .int (mz_I 0), .int (mz_I 0), .int (mz_I 0)]))]) hD hS hA [23] rfl
  refine va_callv (va_runI (As := []) (rest := [.ref q8]) ⟨hx, hb, hml, hown, htb⟩ (cn_X6 l D cA q8 H.size) (cwI 0 htb (mz_goodIn (fun w h => (List.mem_cons.mp h).elim (fun e => e ▸ iw_91) id)) rfl rfl rfl (htb _ iw_90) (htb _ iw_92) (htb _ iw_93) rfl ⟨by decide +kernel, by decide +kernel, by decide +kernel⟩ ⟨(Nat.le_of_ble_eq_true rfl), (Nat.le_of_ble_eq_true rfl)⟩) ⟨fun a U g mk q => by obtain ⟨q0, q1, qP, qK, qD, qN⟩ := q; exact ⟨q0, q1, qP, va_K.moved (u := U) (U := U.calling g mk a) (Vm.Alike.refl U.vm) qK, qD, cn_same (s := U) (U := U.calling g mk a) rfl qN⟩, fun U hU hW => ⟨rfl, by rw [hU], by rw [hU]; exact hPc, va_K.moved hW.alike hK, hDc.weaken (fun _ _ _ _ => trivial), cn_warm hW hnw⟩⟩ rfl rfl hl.1 rfl (lv_room (Nat.le_of_ble_eq_true rfl)) dil_12 ⟨(Nat.le_of_ble_eq_true rfl), (Nat.le_of_ble_eq_true rfl)⟩) hS (fun q _ h => hFc q h) hFc (fun u2 t H1 locs ht hvm hw hB hz1 hk1 hS => ?_)
  obtain ⟨ad2, σ2⟩ := u2
  obtain ⟨hP1, hD1, ha2, hMA⟩ := hB
  rw [ht] at hP1
  dsimp only at hP1 hD1 ha2 hMA
  obtain ⟨hP, hD⟩ := va_join (wr := mz_ws ad1 cA shA σ1) (w1 := mz_ws ad2 cA shM σ2) hP hD [23] [0, 1, 2, 3, 4, 5, 6, 7, 8, 9, 10, 11, 12, 13, 14, 15, 16, 17, 18, 19, 20, 21, 22] rfl rfl (by decide) (by decide) hk1 hFc hP1 hD1
  generalize H1 = H at hP hS ⊢
  refine W.widen (k := 38) (n := 4491) (Nat.le_of_ble_eq_true rfl) (Nat.le_of_ble_eq_true rfl) ?_
  refine lv_astore_n (lv' := [(2, .ref q8), (1, .ref q0), (0, .ref b)]) hx hb dil_15 rfl hl (by decide) rfl (fun ls hl => ?_)
  obtain ⟨ad, had⟩ : ∃ ad : Nat → Nat, ad = (fun k => if k = 1000 then b else if k < 30 then ad1 k else ad2 k) := ⟨_, rfl⟩
  obtain ⟨σ, hσ⟩ : ∃ σ : mz_G, σ = (fun k => if k < 30 then σ1 k else σ2 k) := ⟨_, rfl⟩
  have hws : mz_ws ad1 cA shA σ1 ++ mz_ws ad2 cA shM σ2 = mz_ws ad cA shF σ := by
    rw [had, hσ]
    rfl
  rw [hws] at hP hD
  have hLS : LSw σ := ⟨_, _, CS_ext hCS (fun c i a _ => by rw [hσ]; show (if c < 30 then σ1 c else σ2 c) i = _; rw [if_pos (by omega)]), MA_ext hMA (fun i _ => by rw [hσ]; rfl) (fun c hc i => by rw [hσ]; show (if c < 30 then σ1 c else σ2 c) i = _; rw [if_neg (by omega)]), GD_beg (by decide) (by decide)⟩
  have e1000 : ad 1000 = b := by rw [had]; rfl
  have e0 : ad 0 = q0 := by rw [had]; exact ha1
  have e30 : ad 30 = q8 := by rw [had]; exact ha2
  have hXc : mz_Xc (some (L, fun j => (xs j).toInt)) ad (fun q : Nat => s.heap.size ≤ q) s := by
    intro n ys hq
    cases hq
    rw [e1000]
    refine ⟨?_, hbl, hbA⟩
    have hfe : (fun j => mz_I ((xs j).toInt)) = xs := funext (fun j => mz_I_self (xs j))
    rw [hfe]
    exact hX
  have hLH : mz_LH ad ls [some (.inr 1000), some (.inr 0), some (.inr 30), none] := ⟨hl.1, hl.2.1, fun i v hv => by
    match i, hv with
    | 0, hv =>
      have hv : some (some (Sum.inr 1000 : mz_V)) = some (some v) := hv
      cases hv
      show ls[0]? = some (.val (.ref (ad 1000)))
      rw [e1000]
      exact lv_at hl 2 rfl
    | 1, hv =>
      have hv : some (some (Sum.inr 0 : mz_V)) = some (some v) := hv
      cases hv
      show ls[1]? = some (.val (.ref (ad 0)))
      rw [e0]
      exact lv_at hl 1 rfl
    | 2, hv =>
      have hv : some (some (Sum.inr 30 : mz_V)) = some (some v) := hv
      cases hv
      show ls[2]? = some (.val (.ref (ad 30)))
      rw [e30]
      exact lv_at hl 0 rfl
    | 3, hv =>
      have hv : some (none : Option mz_V) = some (some v) := hv
      cases hv
    | k + 4, hv => simp at hv⟩
  obtain ⟨f, r, σ', hex, hr1⟩ := law_run hL (xs := fun j => (xs j).toInt) (fun j => mz_R_toInt (xs j)) σ hLS
  subst hr1
  have hOk : mz_Ok shF (some (L, fun j => (xs j).toInt)) 183 (16, [some (.inr 1000), some (.inr 0), some (.inr 30), none], [], σ) (some 1) σ' := mz_frame shF_ok _ _ _ _ _ _ hex
  have hM : mz_meth[183]? = some mtL_law := rfl
  refine hOk hM (o := RL) rfl (D := D) (ad := ad) (cA := cA) (A := (fun q : Nat => s.heap.size ≤ q)) (n := 4) hx hb hown hml htb (cn_mz hnw) (Nat.le_of_ble_eq_true rfl) (Nat.le_of_ble_eq_true rfl) (Nat.le_of_ble_eq_true rfl) (Nat.le_of_ble_eq_true rfl) hK hXc hA ?_ H locs ls ⟨hP, hD, hS⟩ hLH rfl
  intro H locs ls pc hW
  refine ⟨fun z hz _ hdg => ?_, fun hz => by cases hz⟩
  cases hz
  exact va_forget (fun q hq => hW.2.2.2.2 q hq) (lw_ret hx hb hr hlocks hdg)
set_option maxHeartbeats 4000000 in
theorem lw_walk (l : Launch) (hflags : l.flags = flags0) (b : Addr) (xs : List Int32) : MetFree l x (headSpec (Jvm.Cond.code x code maxLocals ret :: tables_1) room_1) (lw_P b xs) (fun _ _ _ _ _ => True) lw_Q := by
  refine MetFree.of_bodyS (code := code) (maxLocals := maxLocals) (ret := ret) (by decide) ?_ ?_
  · intro args s m h hn
    obtain ⟨meth, c, h1, h2, h3, h4, h5, h6, -, -⟩ := Cond.code_spec hn (atoms_spec (ws := Jvm.Cond.code x code maxLocals ret :: tables_1) h _ List.mem_cons_self)
    exact ⟨meth, c, h1, h2, h3, h4, h5, h6⟩
  · intro p e s m args below meth c s₁ B hml0 hP _
    obtain ⟨rfl, hx, hbd, hgv⟩ := hP
    obtain ⟨scr, harrAt, hlist, hof, hsmall⟩ := hx
    obtain ⟨hcb, hkn, -, -⟩ := State.arrayAt?_spec harrAt
    have hown : s.vm.findClass R_law = some m.cls := findClass_of_methodNamed B.named
    have hts0 : ∀ c ∈ (Jvm.Cond.code x code maxLocals ret :: tables_1), c.before #[Value.ref b] s = true := atoms_spec (ws := Jvm.Cond.code x code maxLocals ret :: tables_1) B.pre
    have hts : ∀ w ∈ lw_tbl, w.before #[Value.ref b] s = true := k2_hts_sels lw_privs (fun w hw => hts0 w (List.mem_cons_of_mem _ hw)) lw_privs_ok
    have hml : c.maxLocals = 4 := B.maxLocals_eq (hts0 _ List.mem_cons_self)
    have X₀ : Stand p l e room_1 s m #[Value.ref b] below meth c s₁ [] 0 0 := Stand.of_body B
    have hh0 : s₁.heap = s.heap := by rw [B.state]; rfl
    have hsz : scr.slots.size = xs.length := by rw [← Array.length_toList, hlist, List.length_map]
    have hval : ∀ j : Nat, j < xs.length → scr.slots[j]? = some (.int (xs.getD j 0)) := fun j hj => by
      rw [← Array.getElem?_toList, hlist]
      simp [hj]
    have hbl : b < s.heap.size := (Array.getElem?_eq_some_iff.mp hcb).1
    have hX : va_X b xs.length (fun j => xs.getD j 0) s s.heap := ⟨scr, hcb, hof, hkn, hsz, hval⟩
    have K : W p l e room_1 s m #[Value.ref b] below meth c s₁.heap [] 0 0 (lw_Z below #[Value.ref b] s) (entryFrame m ([Value.ref b] : List Value).toArray 4) := by
      rw [hh0]
      exact whole_start l hflags hbd ⟨B.exec, B.bytes, B.returns, hml, hown, hts, hX, hbl, B.notSynchronized, hgv⟩
    obtain ⟨t, a1, o, b1, b2, b3⟩ := K s₁ rfl X₀
    exact ⟨t, o, a1, b1, b2, b3⟩
theorem lw_pre_spec {args : Array Value} {s : State} (h : (Jvm.Cond.and given_1 narrow_1).before args s = true) (hr : rest_1_c.before args s = true) : ∃ (b : Addr) (xs : List Int32), lw_P b xs args s := by
  have hs := flat_of_before _ h
  have hq := flat_of_before _ hr
  have hc : (Cond.count 1).before args s = true := hs _ (by decide +kernel)
  have harr : (Cond.arrayOf (.arg 0) .int).before args s = true := hs _ (by decide +kernel)
  have hle : (Cond.le (.length (.arg 0)) (.int 2560)).before args s = true := hs _ (by decide +kernel)
  have hlen : (Cond.isInt (.length (.arg 0))).before args s = true := hq _ (by decide +kernel)
  have hall : (Cond.all (.arg 0) (.isInt (.elem (.arg 0) (.index 0)))).before args s = true := hq _ (by decide +kernel)
  obtain ⟨b, xs, hb, hx⟩ := State.ints_of_pre rfl harr hlen hall
  have hsm : xs.length < 2 ^ 31 := hx.choose_spec.2.2.2
  have hev : (Term.length (.arg 0)).eval args s none [] s = some (.int xs.length.toInt32) := hx.length_eval hb
  have hv := Cond.le_ints hev (show (Term.int 2560).eval args s none [] s = some (.int 2560) from rfl)
  have hd : xs.length.toInt32 ≤ 2560 := by
    simpa [Cond.before, Cond.holds, hv] using hle
  have hN : xs.length ≤ 2560 := (Int32.ofNat_le_ofNat hsm (by decide)).mp (show Int32.ofNat xs.length ≤ Int32.ofNat 2560 from hd)
  exact ⟨b, xs, Cond.one_arg hc (show args[0]? = some (.ref b) from hb), hx, hN, h⟩
theorem lw_comes (l : Launch) (hflags : l.flags = flags0) : Comes l x (Jvm.Cond.code x code maxLocals ret :: tables_1) room_1 (fun tb e args s => Calls_1 tb e args s ∧ rest_1 tb e args s ∧ Pre_1 tb e args s)
    (fun _ _ args s o t => lw_Q args s o t) := by
  intro p e ha hc hk s m args below hf hfit hheap happ hpre
  obtain ⟨b, xs, hP⟩ := lw_pre_spec hpre.2.2 hpre.2.1
  obtain ⟨k, o, h1, h2, h3, hQ⟩ := lw_walk l hflags b xs p e ha hc hk s m args below hf ((Spec.applies_iff_loose hf).mp happ).1 hP trivial
  exact ⟨k, o, h1, h2, h3, hQ⟩
theorem lw_frame {s t : State} {o : Outcome} {args : Array Value} (h : Framed s o t [] 38 4491) :
    Framed s o t (fieldLocs frame_1_writes args s ++ arrayLocs frame_1_arrays args s ++ staticLocs frame_1_statics s) 38 4491 := h
theorem lw_limb (L : Cond) (hL : ∀ (args : Array Value) (s t : State), L.after args s (.returned (some (.int 1))) t = true) :
    ArmFor flags0 classFile x code maxLocals ret World_1 tables_1 room_1 Calls_1 rest_1 Pre_1
      (fun tb e a s o t => postC L tb e a s o t ∧ Framed s o t (fieldLocs frame_1_writes a s ++ arrayLocs frame_1_arrays a s ++ staticLocs frame_1_statics s) 38 4491) := by
  intro l hflags _ _ p e ha hc hk s m args below hf hfit hheap happ hpre
  obtain ⟨k, o, h1, h2, h3, rfl, hF⟩ := lw_comes l hflags p e ha hc hk s m args below hf hfit hheap happ hpre
  exact ⟨k, _, h1, h2, h3, hL args s _, lw_frame hF⟩
theorem i_vc : Claimed_1_1 ∧ Claimed_1_2 := ⟨lw_limb limb_1_1 (fun args s t => by simp [limb_1_1, Cond.after, Cond.holds, Cond.value]), lw_limb limb_1_2 (fun args s t => Cond.after_iff.mpr (by
  first | (rw [show limb_1_2 = Cond.eq .result (.int 1) from rfl, Cond.eq_ints (x := 1) (y := 1) rfl rfl]; simp; done) | (simp [limb_1_2, Cond.value, Term.eval]; done)))⟩
