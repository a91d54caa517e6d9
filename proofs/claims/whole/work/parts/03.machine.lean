/-! A machine of our own, over worlds of whole numbers: what it does, the real one does (mz_frame below). Values: a number (mz_I of it is the machine's int), or a cell's number. -/
def mz_I (z : Int) : Int32 := Int32.ofInt z
abbrev mz_R (z : Int) : Prop := -2147483648 ≤ z ∧ z ≤ 2147483647
abbrev mz_V : Type := Int ⊕ Nat
abbrev mz_G : Type := Nat → Nat → Int
abbrev mz_L : Type := List (Option mz_V)
abbrev mz_F : Type := Nat × mz_L × List mz_V × mz_G
abbrev mz_C : Type := (Nat × List Nat) ⊕ Nat
abbrev mz_S : Type := List (Nat × mz_C)
abbrev mz_X : Type := Option (Nat × (Nat → Int))
def mz_up (σ : mz_G) (c i : Nat) (v : Int) : mz_G := fun a b => if a = c ∧ b = i then v else σ a b
def mz_ldi (d i : Nat) (fr : mz_F) : Option mz_F := match fr.2.1[i]? with
  | some (some (.inl z)) => some (fr.1 + d, fr.2.1, .inl z :: fr.2.2.1, fr.2.2.2)
  | _ => none
def mz_lda (d i : Nat) (fr : mz_F) : Option mz_F := match fr.2.1[i]? with
  | some (some (.inr z)) => some (fr.1 + d, fr.2.1, .inr z :: fr.2.2.1, fr.2.2.2)
  | _ => none
def mz_sti (d i : Nat) (fr : mz_F) : Option mz_F := match fr.2.2.1 with
  | .inl z :: st => if i < fr.2.1.length then some (fr.1 + d, fr.2.1.set i (some (.inl z)), st, fr.2.2.2) else none
  | _ => none
def mz_ps (d : Nat) (z : Int) (fr : mz_F) : Option mz_F := some (fr.1 + d, fr.2.1, .inl z :: fr.2.2.1, fr.2.2.2)
def mz_bi (f : Int → Int → Option Int) (fr : mz_F) : Option mz_F := match fr.2.2.1 with
  | .inl y :: .inl x :: st => match f x y with
    | some z => some (fr.1 + 1, fr.2.1, .inl z :: st, fr.2.2.2)
    | none => none
  | _ => none
def mz_div (x y : Int) : Option Int := if mz_R x ∧ mz_R y ∧ 0 < y then some (x.tdiv y) else none
def mz_rem (x y : Int) : Option Int := if mz_R y ∧ 0 < y then some ((x.bmod 4294967296).tmod y) else none
def mz_and (x y : Int) : Option Int := if y = 31 then some (x % 32) else if y = 15 then some (x % 16) else none
def mz_or (x y : Int) : Option Int := if 0 ≤ x ∧ 0 ≤ y ∧ x + y ≤ 2147483647 ∧ ((x % 1024 = 0 ∧ y < 1024) ∨ (x % 32 = 0 ∧ y < 32)) then some (x + y) else none
def mz_xor (x y : Int) : Option Int := some (mz_I x ^^^ mz_I y).toInt
def mz_shl (x y : Int) : Option Int := if y = 5 then some (x * 32) else if y = 10 then some (x * 1024) else none
def mz_shr (x y : Int) : Option Int := if mz_R x then (if y = 5 then some (x / 32) else if y = 10 then some (x / 1024) else none) else none
def mz_inc (i : Nat) (n : Int) (fr : mz_F) : Option mz_F := match fr.2.1[i]? with
  | some (some (.inl z)) => some (fr.1 + 3, fr.2.1.set i (some (.inl (z + n))), fr.2.2.1, fr.2.2.2)
  | _ => none
def mz_cmp : Jvm.ClassFile.Cond → Int → Int → Bool
  | .eq, a, b => decide (a = b)
  | .ne, a, b => decide (¬ a = b)
  | .lt, a, b => decide (a < b)
  | .ge, a, b => decide (b ≤ a)
  | .gt, a, b => decide (b < a)
  | .le, a, b => decide (a ≤ b)
def mz_to (off : Int) (fr : mz_F) : Option mz_F := if 0 ≤ (fr.1 : Int) + off then some (((fr.1 : Int) + off).toNat, fr.2) else none
def mz_bt (t : Bool) (a b : Nat) : Nat := match t with
  | true => a
  | false => b
def mz_br (t : Bool) (off : Int) (fr : mz_F) : Option mz_F := if 0 ≤ (fr.1 : Int) + off then some (mz_bt t ((fr.1 : Int) + off).toNat (fr.1 + 3), fr.2) else none
def mz_if (k : Jvm.ClassFile.Cond) (off : Int) (fr : mz_F) : Option mz_F := match fr.2.2.1 with
  | .inl x :: st => if mz_R x then mz_br (mz_cmp k x 0) off (fr.1, fr.2.1, st, fr.2.2.2) else none
  | _ => none
def mz_ic (k : Jvm.ClassFile.Cond) (off : Int) (fr : mz_F) : Option mz_F := match fr.2.2.1 with
  | .inl y :: .inl x :: st => if (mz_R x ∧ mz_R y) ∨ x = y then mz_br (mz_cmp k x y) off (fr.1, fr.2.1, st, fr.2.2.2) else none
  | _ => none
def mz_ts (d lo hi : Int) (offs : Array Int) (fr : mz_F) : Option mz_F := match fr.2.2.1 with
  | .inl x :: st => if mz_R x then (if x < lo ∨ hi < x then mz_to d (fr.1, fr.2.1, st, fr.2.2.2) else match offs[(x - lo).toNat]? with
    | some o => mz_to o (fr.1, fr.2.1, st, fr.2.2.2)
    | none => none) else none
  | _ => none
def mz_fk (own idx : Nat) : Option (Nat × Nat × Nat × Nat × Nat) := mz_fl.find? (fun q => q.1 == own && q.2.1 == idx)
def mz_ck (own idx : Nat) : Option (Nat × Nat × Nat × Nat × Nat) := mz_ca.find? (fun q => q.1 == own && q.2.1 == idx)
def mz_fv (σ : mz_G) (c k f : Nat) : mz_V := match f with
  | 0 => .inl (σ c k)
  | 1 => .inl (σ c k)
  | r + 2 => .inr r
def mz_gf (S : mz_S) (own idx : Nat) (fr : mz_F) : Option mz_F := match fr.2.2.1 with
  | .inr c :: st => match mz_fk own idx, S.lookup c with
    | some q, some (.inl (cj, fs)) => if q.2.2.1 = cj then match fs[q.2.2.2.1]? with
      | some f => some (fr.1 + 3, fr.2.1, mz_fv fr.2.2.2 c q.2.2.2.1 f :: st, fr.2.2.2)
      | none => none else none
    | _, _ => none
  | _ => none
def mz_pf (S : mz_S) (own idx : Nat) (fr : mz_F) : Option mz_F := match fr.2.2.1 with
  | .inl v :: .inr c :: st => match mz_fk own idx, S.lookup c with
    | some q, some (.inl (cj, fs)) => if q.2.2.1 = cj then match fs[q.2.2.2.1]? with
      | some f => if f = 0 ∨ (f = 1 ∧ (v = 0 ∨ v = 1)) then some (fr.1 + 3, fr.2.1, st, mz_up fr.2.2.2 c q.2.2.2.1 v) else none
      | none => none else none
    | _, _ => none
  | _ => none
def mz_al (S : mz_S) (X : mz_X) (fr : mz_F) : Option mz_F := match fr.2.2.1 with
  | .inl i :: .inr c :: st => match c with
    | 1000 => match X with
      | some (n, xs) => if 0 ≤ i ∧ i < n ∧ n < 2147483648 then some (fr.1 + 1, fr.2.1, .inl (xs i.toNat) :: st, fr.2.2.2) else none
      | none => none
    | c => match S.lookup c with
      | some (.inr n) => if 0 ≤ i ∧ i < n then some (fr.1 + 1, fr.2.1, .inl (fr.2.2.2 c i.toNat) :: st, fr.2.2.2) else none
      | _ => none
  | _ => none
def mz_as (S : mz_S) (fr : mz_F) : Option mz_F := match fr.2.2.1 with
  | .inl v :: .inl i :: .inr c :: st => match S.lookup c with
    | some (.inr n) => if 0 ≤ i ∧ i < n then some (fr.1 + 1, fr.2.1, st, mz_up fr.2.2.2 c i.toNat v) else none
    | _ => none
  | _ => none
def mz_an (S : mz_S) (X : mz_X) (fr : mz_F) : Option mz_F := match fr.2.2.1 with
  | .inr c :: st => match c with
    | 1000 => match X with
      | some (n, _) => some (fr.1 + 1, fr.2.1, .inl (n : Int) :: st, fr.2.2.2)
      | none => none
    | c => match S.lookup c with
      | some (.inr n) => some (fr.1 + 1, fr.2.1, .inl (n : Int) :: st, fr.2.2.2)
      | _ => none
  | _ => none
def mz_dp (fr : mz_F) : Option mz_F := match fr.2.2.1 with
  | v :: st => some (fr.1 + 1, fr.2.1, v :: v :: st, fr.2.2.2)
  | _ => none
def mz_d2 (fr : mz_F) : Option mz_F := match fr.2.2.1 with
  | a :: b :: st => some (fr.1 + 1, fr.2.1, a :: b :: a :: b :: st, fr.2.2.2)
  | _ => none
def mz_ng (fr : mz_F) : Option mz_F := match fr.2.2.1 with
  | .inl x :: st => some (fr.1 + 1, fr.2.1, .inl (-x) :: st, fr.2.2.2)
  | _ => none
def mz_step (S : mz_S) (X : mz_X) (own : Nat) (i : Instr) (n : Nat) (fr : mz_F) : Option mz_F := match i with
  | .iload_n k => if n = 1 then mz_ldi 1 k.val fr else none
  | .iload k => if n = 2 then mz_ldi 2 k fr else none
  | .aload_n k => if n = 1 then mz_lda 1 k.val fr else none
  | .istore_n k => if n = 1 then mz_sti 1 k.val fr else none
  | .istore k => if n = 2 then mz_sti 2 k fr else none
  | .iconst z => if n = 1 then mz_ps 1 z fr else none
  | .bipush z => if n = 2 ∧ -128 ≤ z ∧ z ≤ 127 then mz_ps 2 z fr else none
  | .sipush z => if n = 3 ∧ -32768 ≤ z ∧ z ≤ 32767 then mz_ps 3 z fr else none
  | .iadd => if n = 1 then mz_bi (fun x y => some (x + y)) fr else none
  | .isub => if n = 1 then mz_bi (fun x y => some (x - y)) fr else none
  | .imul => if n = 1 then mz_bi (fun x y => some (x * y)) fr else none
  | .idiv => if n = 1 then mz_bi mz_div fr else none
  | .irem => if n = 1 then mz_bi mz_rem fr else none
  | .iand => if n = 1 then mz_bi mz_and fr else none
  | .ior => if n = 1 then mz_bi mz_or fr else none
  | .ixor => if n = 1 then mz_bi mz_xor fr else none
  | .ishl => if n = 1 then mz_bi mz_shl fr else none
  | .ishr => if n = 1 then mz_bi mz_shr fr else none
  | .ineg => if n = 1 then mz_ng fr else none
  | .iinc k z => if n = 3 then mz_inc k z fr else none
  | .ifCond k o => if n = 3 then mz_if k o fr else none
  | .if_icmp k o => if n = 3 then mz_ic k o fr else none
  | .goto o => if n = 3 then mz_to o fr else none
  | .tableswitch d lo hi offs => mz_ts d lo hi offs fr
  | .getfield k => if n = 3 then mz_gf S own k fr else none
  | .putfield k => if n = 3 then mz_pf S own k fr else none
  | .iaload => if n = 1 then mz_al S X fr else none
  | .iastore => if n = 1 then mz_as S fr else none
  | .arraylength => if n = 1 then mz_an S X fr else none
  | .dup => if n = 1 then mz_dp fr else none
  | .dup2 => if n = 1 then mz_d2 fr else none
  | _ => none
def mz_ro (r : Option FieldType) (z : Int) : Bool := match r with
  | some .int => true
  | some .boolean => decide (z = 0 ∨ z = 1)
  | _ => false
/-- the arguments of a call and what stays below them -/
def mz_cargs (S : mz_S) (kind np cls : Nat) (st : List mz_V) : Option (List mz_V × List mz_V) := match kind with
  | 0 => match st.drop np with
    | .inr c :: rest => match S.lookup c with
      | some (.inl (cj, _)) => if cj = cls ∧ np ≤ st.length ∧ rest.length ≤ 8 then some (.inr c :: (st.take np).reverse, rest) else none
      | _ => none
    | _ => none
  | _ => if np ≤ st.length ∧ (st.drop np).length ≤ 8 then some ((st.take np).reverse, st.drop np) else none
def mz_ent (n : Nat) (as : List mz_V) (σ : mz_G) : mz_F := (0, as.map some ++ List.replicate (n - as.length) none, [], σ)
/-- what an instruction is: 0 a call, 1 a return with a number, 2 a return without, 3 any other -/
def mz_kd (i : Instr) : Nat × Nat := match i with
  | .invokevirtual k => (0, k)
  | .invokestatic k => (1, k)
  | .ireturn => (2, 0)
  | .return_ => (3, 0)
  | _ => (4, 0)
/-- the callee of a call, if the tables allow it and its room is there: its place, its row, its arguments, the stack below -/
def mz_call (S : mz_S) (M : mz_M) (v : Nat) (idx : Nat) (st : List mz_V) : Option (Nat × mz_M × List mz_V × List mz_V) := match mz_ck M.1 idx with
  | some (_, _, j, kind, np) => match mz_meth[j]? with
    | some N => match mz_cargs S kind np N.1 st with
      | some (as, rest) => if (v = 0 ↔ kind = 0) ∧ as.length ≤ N.2.2.2.1 ∧ N.2.2.2.2.2.2.1 + 1 ≤ M.2.2.2.2.2.2.1 ∧ 8 + (N.2.2.2.1 + 11) + N.2.2.2.2.2.2.2 ≤ M.2.2.2.2.2.2.2 then some (j, N, as, rest) else none
      | none => none
    | none => none
  | none => none
def mz_ex (S : mz_S) : Nat → mz_X → Nat → mz_F → Option (Option Int × mz_G)
  | 0, _, _, _ => none
  | f + 1, X, k, fr => match mz_meth[k]? with
    | none => none
    | some M => match M.2.2.2.2.2.1.lookup fr.1 with
      | none => none
      | some (i, n) => match mz_kd i with
        | (4, _) => match mz_step S X M.1 i n fr with
          | some fr' => mz_ex S f X k fr'
          | none => none
        | (3, _) => match fr.2.2.1, M.2.2.2.2.1 with
          | [], none => if n = 1 then some (none, fr.2.2.2) else none
          | _, _ => none
        | (2, _) => match fr.2.2.1 with
          | [.inl z] => if n = 1 ∧ mz_ro M.2.2.2.2.1 z = true then some (some z, fr.2.2.2) else none
          | _ => none
        | (v, idx) => if n = 3 then match mz_call S M v idx fr.2.2.1 with
          | some (j, N, as, rest) => match mz_ex S f none j (mz_ent N.2.2.2.1 as fr.2.2.2) with
            | some (r, σ') => mz_ex S f X k (fr.1 + 3, fr.2.1, r.toList.map .inl ++ rest, σ')
            | none => none
          | none => none else none
/-- the tables' words that a method may take for granted -/
def mz_tb : List Cond := lw_tbl.filter goodWord
theorem mz_tb_of {w : Cond} {i : Nat} (h : lw_tbl[i]? = some w) (g : goodWord w = true) : w ∈ mz_tb := List.mem_filter.mpr ⟨List.mem_of_getElem? h, g⟩
theorem mz_tb_good : ∀ w ∈ mz_tb, (w.onTables && w.keeps) = true ∨ ∃ ty, w = .arrayClass ty := fun _ h => good_of_word (List.mem_filter.mp h).2
def mz_nest : List Cond := [.methodLinkNest RX3 61 yX5_divisorOf RX5, .methodLinkNest RX3 65 yX5_shortened RX5]
def mz_fok (q : Nat × Nat × Nat × Nat × Nat) : Bool := match mz_cl[q.2.2.1]?, mz_owns[q.1]? with
  | some r, some o => decide (lw_tbl[q.2.2.2.2]? = some (.fieldLink o q.2.1 (r.2.1 q.2.2.2.1).1 (r.2.1 q.2.2.2.1).2.1 (r.2.1 q.2.2.2.1).2.2.1)) && decide (q.2.2.2.1 < r.2.2)
  | _, _ => false
theorem mz_fl_ok : mz_fl.all mz_fok = true := by decide +kernel
/-- the words of a method that is called -/
def mz_mw (N : mz_M) : Prop := plainFor N.2.1 = true ∧ mz_owns[N.1]? = some N.2.1.cls ∧ (N.2.1.cls ≠ "java/lang/invoke/MethodHandle" ∧ N.2.1.cls ≠ "java/lang/invoke/VarHandle") ∧ Cond.code N.2.1 N.2.2.1 N.2.2.2.1 N.2.2.2.2.1 ∈ lw_tbl ∧ Cond.initialized N.2.1.cls ∈ lw_tbl
/-- the words of a call -/
def mz_cw (q : Nat × Nat × Nat × Nat × Nat) : Prop := ∃ (N : mz_M) (o : String), mz_meth[q.2.2.1]? = some N ∧ mz_owns[q.1]? = some o ∧ mz_mw N ∧ (parseMethodDescriptor N.2.1.desc).map (fun d => d.parameters.length) = some q.2.2.2.2 ∧ match q.2.2.2.1 with
  | 0 => Cond.methodLink o q.2.1 N.2.1 ∈ lw_tbl ∧ Cond.instanceMethod N.2.1 ∈ lw_tbl ∧ Cond.selects N.2.1.cls N.2.1 N.2.1 ∈ lw_tbl ∧ ∃ r, mz_cl[N.1]? = some r ∧ r.1 = N.2.1.cls
  | 1 => Cond.methodLink o q.2.1 N.2.1 ∈ lw_tbl ∧ Cond.static N.2.1 ∈ lw_tbl
  | _ => Cond.methodLinkNest o q.2.1 N.2.1 RX5 ∈ mz_nest ∧ Cond.static N.2.1 ∈ lw_tbl
theorem mz_cls_in : ∀ (ci : Nat) (q : vw_C), mz_cl[ci]? = some q → (∀ w ∈ u_ws q.1 q.2.1 q.2.2, w ∈ mz_tb) ∧ (∃ ty : Nat → FieldType, ∀ k, k < q.2.2 → parseFieldDescriptor (q.2.1 k).2.2.1 = some (ty k)) ∧ ∀ a, a < q.2.2 → ∀ b, b < q.2.2 → a ≠ b → (q.2.1 a).2.1 ≠ (q.2.1 b).2.1 := by
  intro ci q h
  match ci, h with
  | 0, h => cases h; exact ⟨by decide +kernel, ⟨_, tyX0_ok⟩, nmX0⟩
  | 1, h => cases h; exact ⟨by decide +kernel, ⟨_, tyX1_ok⟩, nmX1⟩
  | 2, h => cases h; exact ⟨by decide +kernel, ⟨_, tyX2_ok⟩, nmX2⟩
  | 3, h => cases h; exact ⟨by decide +kernel, ⟨_, tyX3_ok⟩, nmX3⟩
  | 4, h => cases h; exact ⟨by decide +kernel, ⟨_, tyX4_ok⟩, nmX4⟩
  | 5, h => cases h; exact ⟨by decide +kernel, ⟨_, tyX5_ok⟩, nmX5⟩
  | 6, h => cases h; exact ⟨by decide +kernel, ⟨_, tyX6_ok⟩, nmX6⟩
  | k + 7, h => simp [mz_cl] at h
/-- a shape that the classes' tables allow: fields as many as there are; 0 an int, 1 a boolean, both not final -/
def mz_sok (S : mz_S) : Bool := S.all (fun q => match q.2 with
  | .inl (ci, fs) => match mz_cl[ci]? with
    | some r => decide (fs.length = r.2.2) && (fs.zipIdx).all (fun f => match f.1 with
      | 0 => decide ((r.2.1 f.2).2.2.2 = false) && decide (parseFieldDescriptor (r.2.1 f.2).2.2.1 = some .int)
      | 1 => decide ((r.2.1 f.2).2.2.2 = false) && decide (parseFieldDescriptor (r.2.1 f.2).2.2.1 = some .boolean)
      | _ => true)
    | none => false
  | .inr n => decide (n < 2147483648)) && va_nd (S.map (fun q => q.1)) && decide (1000 ∉ S.map (fun q => q.1))
