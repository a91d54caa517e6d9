/-! runs of our machine, by rows: more fuel does no harm; an instruction, a row; a call by what its callee gives -/
theorem mz_ex_more {S : mz_S} : ∀ (f : Nat) (X : mz_X) (k : Nat) (fr : mz_F) (res : Option Int × mz_G), mz_ex S f X k fr = some res → mz_ex S (f + 1) X k fr = some res := by
  intro f
  induction f with
  | zero => intro X k fr res h; rw [mz_ex] at h; cases h
  | succ f ih =>
    intro X k fr res h
    rw [mz_ex] at h ⊢
    split at h
    next => cases h
    next M hM =>
      split at h
      next => cases h
      next i nn hlk =>
        split at h
        next x hkd =>
          split at h
          next fr' hst => exact ih X k fr' res h
          next => cases h
        next x hkd => exact h
        next x hkd => exact h
        next v0 idx n4 n3 n2 hkd =>
          split at h
          next hn3 =>
            rw [if_pos hn3]
            split at h
            next j N as rest hcall =>
              split at h
              next r σ1 hr =>
                rw [ih none j _ _ hr]
                exact ih X k _ res h
              next => cases h
            next => cases h
          next => cases h
theorem mz_ex_le {S : mz_S} {X : mz_X} {k : Nat} {fr : mz_F} {res : Option Int × mz_G} {f : Nat} (h : mz_ex S f X k fr = some res) : ∀ g, f ≤ g → mz_ex S g X k fr = some res := by
  intro g hg
  obtain ⟨d, rfl⟩ := Nat.exists_eq_add_of_le hg
  clear hg
  induction d with
  | zero => exact h
  | succ d ih => exact mz_ex_more _ _ _ _ _ ih
/-- from the frame the run ends, and Q holds of its answer and its world -/
def mz_Wp (S : mz_S) (X : mz_X) (k : Nat) (fr : mz_F) (Q : Option Int → mz_G → Prop) : Prop := ∃ (f : Nat) (r : Option Int) (σ' : mz_G), mz_ex S f X k fr = some (r, σ') ∧ Q r σ'
/-- the method k, called with as in the world σ, ends, and Q holds of its answer and its world -/
def mz_Cl (S : mz_S) (k : Nat) (as : List mz_V) (σ : mz_G) (Q : Option Int → mz_G → Prop) : Prop := ∃ M : mz_M, mz_meth[k]? = some M ∧ mz_Wp S none k (mz_ent M.2.2.2.1 as σ) Q
/-- one instruction that is no call and no return -/
def mz_nx (S : mz_S) (X : mz_X) (M : mz_M) (fr : mz_F) : Option mz_F := match M.2.2.2.2.2.1.lookup fr.1 with
  | none => none
  | some (i, n) => match mz_kd i with
    | (4, _) => mz_step S X M.1 i n fr
    | _ => none
def mz_go (S : mz_S) (X : mz_X) (M : mz_M) : Nat → mz_F → Option mz_F
  | 0, fr => some fr
  | n + 1, fr => match mz_nx S X M fr with
    | some fr' => mz_go S X M n fr'
    | none => none
section WP
variable {S : mz_S} {X : mz_X} {k : Nat} {M : mz_M} {fr fr' : mz_F} {Q Q' : Option Int → mz_G → Prop}
theorem mz_Wp.mono (h : mz_Wp S X k fr Q) (hQ : ∀ r σ', Q r σ' → Q' r σ') : mz_Wp S X k fr Q' := by
  obtain ⟨f, r, σ', h1, h2⟩ := h
  exact ⟨f, r, σ', h1, hQ _ _ h2⟩
theorem mz_Cl.mono {as : List mz_V} {σ : mz_G} (h : mz_Cl S k as σ Q) (hQ : ∀ r σ', Q r σ' → Q' r σ') : mz_Cl S k as σ Q' := by
  obtain ⟨M, h1, h2⟩ := h
  exact ⟨M, h1, h2.mono hQ⟩
theorem wp_nx (hM : mz_meth[k]? = some M) (h : mz_nx S X M fr = some fr') (kk : mz_Wp S X k fr' Q) : mz_Wp S X k fr Q := by
  obtain ⟨f, r, σ', h1, h2⟩ := kk
  refine ⟨f + 1, r, σ', ?_, h2⟩
  rw [mz_ex, hM]
  unfold mz_nx at h
  show (match M.2.2.2.2.2.1.lookup fr.1 with
      | none => none
      | some (i, n) => _) = _
  split at h
  next => cases h
  next i n hlk =>
    split at h
    next x hkd =>
      rw [hkd]
      show (match mz_step S X M.1 i n fr with
          | some fr' => mz_ex S f X k fr'
          | none => none) = _
      rw [h]
      exact h1
    next => cases h
theorem wp_go (n : Nat) (hM : mz_meth[k]? = some M) : ∀ {fr fr' : mz_F}, mz_go S X M n fr = some fr' → mz_Wp S X k fr' Q → mz_Wp S X k fr Q := by
  induction n with
  | zero => intro fr fr' h kk; cases h; exact kk
  | succ n ih =>
    intro fr fr' h kk
    unfold mz_go at h
    split at h
    next fr1 h1 => exact wp_nx hM h1 (ih h kk)
    next => cases h
theorem wp_ret {z : Int} {pc : Nat} {L : mz_L} {σ : mz_G} (hM : mz_meth[k]? = some M) (hl : M.2.2.2.2.2.1.lookup pc = some (.ireturn, 1)) (hr : mz_ro M.2.2.2.2.1 z = true) (h : Q (some z) σ) : mz_Wp S X k (pc, L, [.inl z], σ) Q := by
  refine ⟨1, some z, σ, ?_, h⟩
  rw [mz_ex, hM]
  dsimp only
  rw [hl]
  show (if 1 = 1 ∧ mz_ro M.2.2.2.2.1 z = true then some (some z, σ) else none) = _
  rw [if_pos ⟨rfl, hr⟩]
theorem wp_retv {pc : Nat} {L : mz_L} {σ : mz_G} (hM : mz_meth[k]? = some M) (hl : M.2.2.2.2.2.1.lookup pc = some (.return_, 1)) (hr : M.2.2.2.2.1 = none) (h : Q none σ) : mz_Wp S X k (pc, L, [], σ) Q := by
  refine ⟨1, none, σ, ?_, h⟩
  rw [mz_ex, hM]
  dsimp only
  rw [hl]
  dsimp only [mz_kd]
  rw [hr]
  rfl
theorem wp_call {pc v idx j : Nat} {i : Instr} {L : mz_L} {st as rest : List mz_V} {σ : mz_G} {N : mz_M} {P : Option Int → mz_G → Prop} (hM : mz_meth[k]? = some M) (hl : M.2.2.2.2.2.1.lookup pc = some (i, 3)) (hi : (i = .invokevirtual idx ∧ v = 0) ∨ (i = .invokestatic idx ∧ v = 1)) (hc : mz_call S M v idx st = some (j, N, as, rest))
    (hcl : mz_Cl S j as σ P) (kk : ∀ r σ', P r σ' → mz_Wp S X k (pc + 3, L, r.toList.map .inl ++ rest, σ') Q) : mz_Wp S X k (pc, L, st, σ) Q := by
  obtain ⟨N', hN', f1, r1, σ1, h1, h2⟩ := hcl
  obtain ⟨f2, r, σ', h3, h4⟩ := kk r1 σ1 h2
  have hN : mz_meth[j]? = some N := by
    obtain ⟨kind, np, -, q, -⟩ := mz_call_spec hc
    exact q
  cases hN.symm.trans hN'
  refine ⟨max f1 f2 + 1, r, σ', ?_, h4⟩
  rw [mz_ex, hM]
  dsimp only
  rw [hl]
  dsimp only
  have e1 := mz_ex_le h1 (max f1 f2) (Nat.le_max_left _ _)
  have e2 := mz_ex_le h3 (max f1 f2) (Nat.le_max_right _ _)
  have hkd : mz_kd i = (v, idx) ∧ v < 2 := by
    rcases hi with ⟨rfl, rfl⟩ | ⟨rfl, rfl⟩
    · exact ⟨rfl, by decide⟩
    · exact ⟨rfl, by decide⟩
  split
  next x h => rw [hkd.1] at h; have := congrArg Prod.fst h; dsimp only at this; omega
  next x h => rw [hkd.1] at h; have := congrArg Prod.fst h; dsimp only at this; omega
  next x h => rw [hkd.1] at h; have := congrArg Prod.fst h; dsimp only at this; omega
  next v0 idx0 n4 n3 n2 h =>
    rw [hkd.1] at h
    cases h
    rw [if_pos rfl, hc]
    dsimp only
    rw [e1]
    exact e2
theorem wp_calld {pc v idx j : Nat} {i : Instr} {L : mz_L} {st as rest : List mz_V} {σ T : mz_G} {N : mz_M} {r : Option Int} (hM : mz_meth[k]? = some M) (hl : M.2.2.2.2.2.1.lookup pc = some (i, 3)) (hi : (i = .invokevirtual idx ∧ v = 0) ∨ (i = .invokestatic idx ∧ v = 1)) (hc : mz_call S M v idx st = some (j, N, as, rest))
    (hcl : mz_Cl S j as σ (fun r0 σ0 => r0 = r ∧ σ0 = T)) (kk : mz_Wp S X k (pc + 3, L, r.toList.map .inl ++ rest, T) Q) : mz_Wp S X k (pc, L, st, σ) Q := wp_call hM hl hi hc hcl (fun r0 σ0 h => by rw [h.1, h.2]; exact kk)
theorem mz_Cl.of {as : List mz_V} {σ : mz_G} (hM : mz_meth[k]? = some M) (h : mz_Wp S none k (mz_ent M.2.2.2.1 as σ) Q) : mz_Cl S k as σ Q := ⟨M, hM, h⟩
/-! the instructions that ask something of their numbers -/
theorem wp_al {pc c n : Nat} {i : Int} {L : mz_L} {st : List mz_V} {σ : mz_G} (hM : mz_meth[k]? = some M) (hl : M.2.2.2.2.2.1.lookup pc = some (.iaload, 1)) (hc : ¬ c = 1000) (hs : S.lookup c = some (.inr n)) (h0 : 0 ≤ i) (h1 : i < n) (kk : mz_Wp S X k (pc + 1, L, .inl (σ c i.toNat) :: st, σ) Q) : mz_Wp S X k (pc, L, .inl i :: .inr c :: st, σ) Q := by
  refine wp_nx hM ?_ kk
  unfold mz_nx
  rw [hl]
  show mz_al S X (pc, L, .inl i :: .inr c :: st, σ) = _
  unfold mz_al
  dsimp only
  split
  next => exact (hc rfl).elim
  next => rw [hs]; show (if 0 ≤ i ∧ i < (n : Int) then _ else _) = _; rw [if_pos ⟨h0, h1⟩]
theorem wp_sc {pc n : Nat} {xs : Nat → Int} {i : Int} {L : mz_L} {st : List mz_V} {σ : mz_G} (hM : mz_meth[k]? = some M) (hl : M.2.2.2.2.2.1.lookup pc = some (.iaload, 1)) (h0 : 0 ≤ i) (h1 : i < n) (h2 : n < 2147483648) (kk : mz_Wp S (some (n, xs)) k (pc + 1, L, .inl (xs i.toNat) :: st, σ) Q) : mz_Wp S (some (n, xs)) k (pc, L, .inl i :: .inr 1000 :: st, σ) Q := by
  refine wp_nx hM ?_ kk
  unfold mz_nx
  rw [hl]
  show (if 0 ≤ i ∧ i < (n : Int) ∧ n < 2147483648 then some (pc + 1, L, Sum.inl (xs i.toNat) :: st, σ) else none) = _
  rw [if_pos ⟨h0, h1, h2⟩]
theorem wp_as {pc c n : Nat} {i v : Int} {L : mz_L} {st : List mz_V} {σ : mz_G} (hM : mz_meth[k]? = some M) (hl : M.2.2.2.2.2.1.lookup pc = some (.iastore, 1)) (hs : S.lookup c = some (.inr n)) (h0 : 0 ≤ i) (h1 : i < n) (kk : mz_Wp S X k (pc + 1, L, st, mz_up σ c i.toNat v) Q) : mz_Wp S X k (pc, L, .inl v :: .inl i :: .inr c :: st, σ) Q := by
  refine wp_nx hM ?_ kk
  unfold mz_nx
  rw [hl]
  show mz_as S (pc, L, .inl v :: .inl i :: .inr c :: st, σ) = _
  unfold mz_as
  dsimp only
  rw [hs]
  show (if 0 ≤ i ∧ i < (n : Int) then _ else _) = _
  rw [if_pos ⟨h0, h1⟩]
theorem wp_bi {pc : Nat} {x y z : Int} {i : Instr} {f : Int → Int → Option Int} {L : mz_L} {st : List mz_V} {σ : mz_G} (hM : mz_meth[k]? = some M) (hl : M.2.2.2.2.2.1.lookup pc = some (i, 1)) (hi : (i = .idiv ∧ f = mz_div) ∨ (i = .irem ∧ f = mz_rem) ∨ (i = .ior ∧ f = mz_or) ∨ (i = .ishr ∧ f = mz_shr)) (hf : f x y = some z) (kk : mz_Wp S X k (pc + 1, L, .inl z :: st, σ) Q) : mz_Wp S X k (pc, L, .inl y :: .inl x :: st, σ) Q := by
  refine wp_nx hM ?_ kk
  unfold mz_nx
  rw [hl]
  rcases hi with ⟨rfl, rfl⟩ | ⟨rfl, rfl⟩ | ⟨rfl, rfl⟩ | ⟨rfl, rfl⟩ <;> (dsimp only [mz_kd, mz_step]; rw [if_pos rfl]; unfold mz_bi; dsimp only; rw [hf]; rfl)
theorem wp_div {pc : Nat} {x y : Int} {L : mz_L} {st : List mz_V} {σ : mz_G} (hM : mz_meth[k]? = some M) (hl : M.2.2.2.2.2.1.lookup pc = some (.idiv, 1)) (hx : mz_R x) (hy : mz_R y) (hp : 0 < y) (kk : mz_Wp S X k (pc + 1, L, .inl (x.tdiv y) :: st, σ) Q) : mz_Wp S X k (pc, L, .inl y :: .inl x :: st, σ) Q := wp_bi hM hl (Or.inl ⟨rfl, rfl⟩) (by unfold mz_div; rw [if_pos ⟨hx, hy, hp⟩]) kk
theorem wp_rem {pc : Nat} {x y : Int} {L : mz_L} {st : List mz_V} {σ : mz_G} (hM : mz_meth[k]? = some M) (hl : M.2.2.2.2.2.1.lookup pc = some (.irem, 1)) (hx : mz_R x) (hy : mz_R y) (hp : 0 < y) (kk : mz_Wp S X k (pc + 1, L, .inl (x.tmod y) :: st, σ) Q) : mz_Wp S X k (pc, L, .inl y :: .inl x :: st, σ) Q := wp_bi hM hl (Or.inr (Or.inl ⟨rfl, rfl⟩)) (by unfold mz_rem; rw [if_pos ⟨hy, hp⟩, mz_bmod_R hx]) kk
theorem wp_remw {pc : Nat} {x y : Int} {L : mz_L} {st : List mz_V} {σ : mz_G} (hM : mz_meth[k]? = some M) (hl : M.2.2.2.2.2.1.lookup pc = some (.irem, 1)) (hy : mz_R y) (hp : 0 < y) (kk : mz_Wp S X k (pc + 1, L, .inl ((x.bmod 4294967296).tmod y) :: st, σ) Q) : mz_Wp S X k (pc, L, .inl y :: .inl x :: st, σ) Q := wp_bi hM hl (Or.inr (Or.inl ⟨rfl, rfl⟩)) (by unfold mz_rem; rw [if_pos ⟨hy, hp⟩]) kk
theorem wp_or {pc : Nat} {x y : Int} {L : mz_L} {st : List mz_V} {σ : mz_G} (hM : mz_meth[k]? = some M) (hl : M.2.2.2.2.2.1.lookup pc = some (.ior, 1)) (h : 0 ≤ x ∧ 0 ≤ y ∧ x + y ≤ 2147483647 ∧ ((x % 1024 = 0 ∧ y < 1024) ∨ (x % 32 = 0 ∧ y < 32))) (kk : mz_Wp S X k (pc + 1, L, .inl (x + y) :: st, σ) Q) : mz_Wp S X k (pc, L, .inl y :: .inl x :: st, σ) Q := wp_bi hM hl (Or.inr (Or.inr (Or.inl ⟨rfl, rfl⟩))) (by unfold mz_or; rw [if_pos h]) kk
theorem wp_shr {pc : Nat} {x y z : Int} {L : mz_L} {st : List mz_V} {σ : mz_G} (hM : mz_meth[k]? = some M) (hl : M.2.2.2.2.2.1.lookup pc = some (.ishr, 1)) (hx : mz_R x) (hz : (y = 5 ∧ z = x / 32) ∨ (y = 10 ∧ z = x / 1024)) (kk : mz_Wp S X k (pc + 1, L, .inl z :: st, σ) Q) : mz_Wp S X k (pc, L, .inl y :: .inl x :: st, σ) Q := wp_bi hM hl (Or.inr (Or.inr (Or.inr ⟨rfl, rfl⟩))) (by
  unfold mz_shr
  rw [if_pos hx]
  rcases hz with ⟨rfl, rfl⟩ | ⟨rfl, rfl⟩
  · rfl
  · rfl) kk
theorem wp_if {pc tgt : Nat} {c : Jvm.ClassFile.Cond} {o x : Int} {L : mz_L} {st : List mz_V} {σ : mz_G} (hM : mz_meth[k]? = some M) (hl : M.2.2.2.2.2.1.lookup pc = some (.ifCond c o, 3)) (ht : (pc : Int) + o = (tgt : Int)) (hx : mz_R x) (kt : mz_cmp c x 0 = true → mz_Wp S X k (tgt, L, st, σ) Q) (kf : mz_cmp c x 0 = false → mz_Wp S X k (pc + 3, L, st, σ) Q) : mz_Wp S X k (pc, L, .inl x :: st, σ) Q := by
  have key : mz_nx S X M (pc, L, .inl x :: st, σ) = some (mz_bt (mz_cmp c x 0) tgt (pc + 3), L, st, σ) := by
    unfold mz_nx
    rw [hl]
    dsimp only [mz_kd, mz_step]
    rw [if_pos rfl]
    unfold mz_if
    dsimp only
    rw [if_pos hx]
    unfold mz_br
    dsimp only
    rw [ht, if_pos (by omega)]
    rfl
  refine wp_nx hM key ?_
  cases hb : mz_cmp c x 0 with
  | true => exact kt hb
  | false => exact kf hb
theorem wp_ic {pc tgt : Nat} {c : Jvm.ClassFile.Cond} {o x y : Int} {L : mz_L} {st : List mz_V} {σ : mz_G} (hM : mz_meth[k]? = some M) (hl : M.2.2.2.2.2.1.lookup pc = some (.if_icmp c o, 3)) (ht : (pc : Int) + o = (tgt : Int)) (hx : mz_R x) (hy : mz_R y) (kt : mz_cmp c x y = true → mz_Wp S X k (tgt, L, st, σ) Q) (kf : mz_cmp c x y = false → mz_Wp S X k (pc + 3, L, st, σ) Q) : mz_Wp S X k (pc, L, .inl y :: .inl x :: st, σ) Q := by
  have key : mz_nx S X M (pc, L, .inl y :: .inl x :: st, σ) = some (mz_bt (mz_cmp c x y) tgt (pc + 3), L, st, σ) := by
    unfold mz_nx
    rw [hl]
    dsimp only [mz_kd, mz_step]
    rw [if_pos rfl]
    unfold mz_ic
    dsimp only
    rw [if_pos (Or.inl ⟨hx, hy⟩)]
    unfold mz_br
    dsimp only
    rw [ht, if_pos (by omega)]
    rfl
  refine wp_nx hM key ?_
  cases hb : mz_cmp c x y with
  | true => exact kt hb
  | false => exact kf hb
theorem wp_tso {pc tgt n : Nat} {d lo hi x : Int} {offs : Array Int} {L : mz_L} {st : List mz_V} {σ : mz_G} (hM : mz_meth[k]? = some M) (hl : M.2.2.2.2.2.1.lookup pc = some (.tableswitch d lo hi offs, n)) (ht : (pc : Int) + d = (tgt : Int)) (hx : mz_R x) (ho : x < lo ∨ hi < x) (kk : mz_Wp S X k (tgt, L, st, σ) Q) : mz_Wp S X k (pc, L, .inl x :: st, σ) Q := by
  refine wp_nx hM ?_ kk
  unfold mz_nx
  rw [hl]
  dsimp only [mz_kd, mz_step]
  unfold mz_ts
  dsimp only
  rw [if_pos hx, if_pos ho]
  unfold mz_to
  dsimp only
  rw [ht, if_pos (by omega)]
  rfl
theorem wp_tsi {pc tgt n : Nat} {d lo hi x off : Int} {offs : Array Int} {L : mz_L} {st : List mz_V} {σ : mz_G} (hM : mz_meth[k]? = some M) (hl : M.2.2.2.2.2.1.lookup pc = some (.tableswitch d lo hi offs, n)) (hx : mz_R x) (ho : ¬ (x < lo ∨ hi < x)) (hof : offs[(x - lo).toNat]? = some off) (ht : (pc : Int) + off = (tgt : Int)) (kk : mz_Wp S X k (tgt, L, st, σ) Q) : mz_Wp S X k (pc, L, .inl x :: st, σ) Q := by
  refine wp_nx hM ?_ kk
  unfold mz_nx
  rw [hl]
  dsimp only [mz_kd, mz_step]
  unfold mz_ts
  dsimp only
  rw [if_pos hx, if_neg ho, hof]
  dsimp only
  unfold mz_to
  dsimp only
  rw [ht, if_pos (by omega)]
  rfl
end WP
theorem cmp_eq_t {a b : Int} (h : mz_cmp .eq a b = true) : a = b := of_decide_eq_true h
theorem cmp_eq_f {a b : Int} (h : mz_cmp .eq a b = false) : ¬ a = b := of_decide_eq_false h
theorem cmp_ne_t {a b : Int} (h : mz_cmp .ne a b = true) : ¬ a = b := of_decide_eq_true h
theorem cmp_ne_f {a b : Int} (h : mz_cmp .ne a b = false) : a = b := Decidable.not_not.mp (of_decide_eq_false h)
theorem cmp_lt_t {a b : Int} (h : mz_cmp .lt a b = true) : a < b := of_decide_eq_true h
theorem cmp_lt_f {a b : Int} (h : mz_cmp .lt a b = false) : b ≤ a := Int.not_lt.mp (of_decide_eq_false h)
theorem cmp_ge_t {a b : Int} (h : mz_cmp .ge a b = true) : b ≤ a := of_decide_eq_true h
theorem cmp_ge_f {a b : Int} (h : mz_cmp .ge a b = false) : a < b := Int.not_le.mp (of_decide_eq_false h)
theorem cmp_gt_t {a b : Int} (h : mz_cmp .gt a b = true) : b < a := of_decide_eq_true h
theorem cmp_gt_f {a b : Int} (h : mz_cmp .gt a b = false) : a ≤ b := Int.not_lt.mp (of_decide_eq_false h)
theorem cmp_le_t {a b : Int} (h : mz_cmp .le a b = true) : a ≤ b := of_decide_eq_true h
theorem cmp_le_f {a b : Int} (h : mz_cmp .le a b = false) : b < a := Int.not_le.mp (of_decide_eq_false h)
