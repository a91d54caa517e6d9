/-! more cells do no harm; two that are the same compare as such -/
section MONO
variable {S S' : mz_S} {X : mz_X} {fr fr' : mz_F}
theorem mz_gf_mono (h : ∀ c x, S.lookup c = some x → S'.lookup c = some x) {own idx : Nat} (hs : mz_gf S own idx fr = some fr') : mz_gf S' own idx fr = some fr' := by
  unfold mz_gf at hs ⊢
  split at hs
  next c st hst =>
    split at hs
    next q cj fs h1 h2 =>
      try rw [h1]
      rw [h _ _ h2]
      exact hs
    next => cases hs
  next => cases hs
theorem mz_pf_mono (h : ∀ c x, S.lookup c = some x → S'.lookup c = some x) {own idx : Nat} (hs : mz_pf S own idx fr = some fr') : mz_pf S' own idx fr = some fr' := by
  unfold mz_pf at hs ⊢
  split at hs
  next v c st hst =>
    split at hs
    next q cj fs h1 h2 =>
      try rw [h1]
      rw [h _ _ h2]
      exact hs
    next => cases hs
  next => cases hs
theorem mz_as_mono (h : ∀ c x, S.lookup c = some x → S'.lookup c = some x) (hs : mz_as S fr = some fr') : mz_as S' fr = some fr' := by
  unfold mz_as at hs ⊢
  split at hs
  next v i c st hst =>
    split at hs
    next n h1 =>
      rw [h _ _ h1]
      exact hs
    next => cases hs
  next => cases hs
theorem mz_al_mono (h : ∀ c x, S.lookup c = some x → S'.lookup c = some x) (hs : mz_al S X fr = some fr') : mz_al S' X fr = some fr' := by
  unfold mz_al at hs ⊢
  split at hs
  next i c st hst =>
    split at hs
    next => exact hs
    next c' hne =>
      split at hs
      next n h1 =>
        first
        | (rw [h _ _ h1]; exact hs)
        | (split
           next => exact (hne rfl).elim
           next => rw [h _ _ h1]; exact hs)
      next => cases hs
  next => cases hs
theorem mz_an_mono (h : ∀ c x, S.lookup c = some x → S'.lookup c = some x) (hs : mz_an S X fr = some fr') : mz_an S' X fr = some fr' := by
  unfold mz_an at hs ⊢
  split at hs
  next c st hst =>
    split at hs
    next => exact hs
    next c' hne =>
      split at hs
      next n h1 =>
        first
        | (rw [h _ _ h1]; exact hs)
        | (split
           next => exact (hne rfl).elim
           next => rw [h _ _ h1]; exact hs)
      next => cases hs
  next => cases hs
theorem mz_step_mono (h : ∀ c x, S.lookup c = some x → S'.lookup c = some x) {own n : Nat} {i : Instr} (hs : mz_step S X own i n fr = some fr') : mz_step S' X own i n fr = some fr' := by
  have key : ∀ {P : Prop} [Decidable P] {a b : Option mz_F}, (a = some fr' → b = some fr') → (if P then a else none) = some fr' → (if P then b else none) = some fr' := by
    intro P _ a b hab hh
    by_cases q : P
    · rw [if_pos q] at hh ⊢
      exact hab hh
    · rw [if_neg q] at hh
      cases hh
  cases i <;> first | exact hs | exact key (mz_gf_mono h) hs | exact key (mz_pf_mono h) hs | exact key (mz_al_mono h) hs | exact key (mz_as_mono h) hs | exact key (mz_an_mono h) hs
theorem mz_cargs_mono (h : ∀ c x, S.lookup c = some x → S'.lookup c = some x) {kind np cls : Nat} {st : List mz_V} {r : List mz_V × List mz_V} (hs : mz_cargs S kind np cls st = some r) : mz_cargs S' kind np cls st = some r := by
  unfold mz_cargs at hs ⊢
  split at hs
  next =>
    split at hs
    next c rest hd =>
      split at hs
      next cj fs h1 =>
        rw [h _ _ h1]
        exact hs
      next => cases hs
    next => cases hs
  next hne => exact hs
theorem mz_call_mono (h : ∀ c x, S.lookup c = some x → S'.lookup c = some x) {M : mz_M} {v idx : Nat} {st : List mz_V} {r : Nat × mz_M × List mz_V × List mz_V} (hs : mz_call S M v idx st = some r) : mz_call S' M v idx st = some r := by
  unfold mz_call at hs ⊢
  split at hs
  next a b j kind np h1 =>
    try rw [h1]
    try dsimp only
    split at hs
    next N h2 =>
      try rw [h2]
      try dsimp only
      split at hs
      next as rest h3 =>
        rw [mz_cargs_mono h h3]
        exact hs
      next => cases hs
    next => cases hs
  next => cases hs
theorem mz_ex_mono (h : ∀ c x, S.lookup c = some x → S'.lookup c = some x) : ∀ (f : Nat) (X : mz_X) (k : Nat) (fr : mz_F) (res : Option Int × mz_G), mz_ex S f X k fr = some res → mz_ex S' f X k fr = some res := by
  intro f
  induction f with
  | zero => intro X k fr res hh; rw [mz_ex] at hh; cases hh
  | succ f ih =>
    intro X k fr res hh
    rw [mz_ex] at hh ⊢
    split at hh
    next => cases hh
    next M hM =>
      split at hh
      next => cases hh
      next i nn hlk =>
        split at hh
        next x hkd =>
          split at hh
          next fr' hst =>
            rw [mz_step_mono h hst]
            exact ih X k fr' res hh
          next => cases hh
        next x hkd => exact hh
        next x hkd => exact hh
        next v0 idx n4 n3 n2 hkd =>
          split at hh
          next hn3 =>
            rw [if_pos hn3]
            split at hh
            next j N as rest hcall =>
              rw [mz_call_mono h hcall]
              dsimp only
              split at hh
              next r σ1 hr =>
                rw [ih none j _ _ hr]
                exact ih X k _ res hh
              next => cases hh
            next => cases hh
          next => cases hh
end MONO
theorem shA_F : ∀ c x, shA.lookup c = some x → shF.lookup c = some x := by
  intro c x h
  unfold shF
  rw [List.lookup_append, h]
  rfl
theorem shM_30 : ∀ q ∈ shM, 30 ≤ q.1 := by decide +kernel
theorem shA_30 : ∀ q ∈ shA, q.1 < 30 := by decide +kernel
theorem lookup_mem {S : mz_S} {c : Nat} {x : mz_C} (h : S.lookup c = some x) : (c, x) ∈ S := by
  obtain ⟨q0, hq⟩ := mz_lk h
  exact List.mem_of_getElem? hq
theorem shM_F : ∀ c x, shM.lookup c = some x → shF.lookup c = some x := by
  intro c x h
  unfold shF
  rw [List.lookup_append]
  have h1 : shA.lookup c = none := by
    cases hq : shA.lookup c with
    | none => rfl
    | some y =>
      have a := shA_30 _ (lookup_mem hq)
      have b := shM_30 _ (lookup_mem h)
      dsimp only at a b
      omega
  rw [h1]
  exact h
theorem Cl_A {k : Nat} {as : List mz_V} {σ : mz_G} {Q : Option Int → mz_G → Prop} (h : mz_Cl shA k as σ Q) : mz_Cl shF k as σ Q := by
  obtain ⟨M, hM, f, r, σ', h1, h2⟩ := h
  exact ⟨M, hM, f, r, σ', mz_ex_mono shA_F _ _ _ _ _ h1, h2⟩
theorem Cl_M {k : Nat} {as : List mz_V} {σ : mz_G} {Q : Option Int → mz_G → Prop} (h : mz_Cl shM k as σ Q) : mz_Cl shF k as σ Q := by
  obtain ⟨M, hM, f, r, σ', h1, h2⟩ := h
  exact ⟨M, hM, f, r, σ', mz_ex_mono shM_F _ _ _ _ _ h1, h2⟩
/-- two that are the same -/
theorem wp_ice {S : mz_S} {X : mz_X} {k : Nat} {M : mz_M} {Q : Option Int → mz_G → Prop} {pc tgt : Nat} {o x y : Int} {L : mz_L} {st : List mz_V} {σ : mz_G} (hM : mz_meth[k]? = some M) (hl : M.2.2.2.2.2.1.lookup pc = some (.if_icmp .eq o, 3)) (ht : (pc : Int) + o = (tgt : Int)) (hxy : x = y) (kt : mz_Wp S X k (tgt, L, st, σ) Q) : mz_Wp S X k (pc, L, .inl y :: .inl x :: st, σ) Q := by
  have key : mz_nx S X M (pc, L, .inl y :: .inl x :: st, σ) = some (tgt, L, st, σ) := by
    unfold mz_nx
    rw [hl]
    dsimp only [mz_kd, mz_step]
    rw [if_pos rfl]
    unfold mz_ic
    dsimp only
    rw [if_pos (Or.inr hxy)]
    unfold mz_br
    dsimp only
    rw [ht, if_pos (by omega)]
    have : mz_cmp .eq x y = true := decide_eq_true hxy
    rw [this]
    rfl
  exact wp_nx hM key kt
theorem wp_sn {k n : Nat} {xs : Nat → Int} {S : mz_S} {M : mz_M} {Q : Option Int → mz_G → Prop} {pc : Nat} {L : mz_L} {st : List mz_V} {σ : mz_G} (hM : mz_meth[k]? = some M) (hl : M.2.2.2.2.2.1.lookup pc = some (.arraylength, 1)) (kk : mz_Wp S (some (n, xs)) k (pc + 1, L, .inl (n : Int) :: st, σ) Q) : mz_Wp S (some (n, xs)) k (pc, L, .inr 1000 :: st, σ) Q := by
  refine wp_nx hM ?_ kk
  unfold mz_nx
  rw [hl]
  rfl
