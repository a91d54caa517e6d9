/-! the words for the cover's laying and for the spot -/
/-- nothing but the spot has changed -/
def Fs (σ σ' : mz_G) : Prop := ∀ c i, ¬ c = 3 → σ' c i = σ c i
theorem Fs.rf {σ : mz_G} : Fs σ σ := fun _ _ _ => rfl
theorem Fs.tr {σ σ' σ'' : mz_G} (h : Fs σ σ') (h' : Fs σ' σ'') : Fs σ σ'' := fun c i a => (h' c i a).trans (h c i a)
theorem Fs_up {σ : mz_G} {i : Nat} {z : Int} : Fs σ (mz_up σ 3 i z) := fun _ _ a => up_ne a
theorem CA_Fs {σ σ' v : mz_G} {l : List tr3} (h : CA σ v l) (hf : Fs σ σ') : CA σ' v l := CA_ext h (fun i hi => hf 1 i (by decide)) (hf 11 1 (by decide)) (fun c hc i => hf c i (by omega))
theorem shq_bd {n d m : Int} (hn : 0 ≤ n ∧ n ≤ m) (hd : 0 ≤ d) : 0 ≤ shq n d ∧ shq n d ≤ m := by
  unfold shq
  split
  next h =>
    rw [Int.tdiv_eq_ediv_of_nonneg hn.1]
    have h1 := Int.ediv_nonneg hn.1 hd
    have h2 : n / d ≤ n := Int.ediv_le_self d hn.1
    omega
  next => exact hn
/-- where the loops of lay begin and go on -/
theorem LJ_row {σ v : mz_G} {l : List tr3} {t x y x' : Int} (h0 : 0 ≤ t) (h : LJ σ v l t x y) (hx : ∀ a, dot v a y → x ≤ a → ¬ hol v 1 (tg l t) a y) (hx' : ∀ a, dot v a (y + 1) → a < x' → ¬ hol v 1 (tg l t) a (y + 1)) : LJ σ v l t x' (y + 1) := by
  intro a b hab
  have h1 := h a b hab
  by_cases c1 : b < y ∨ (b = y ∧ a < x)
  · rw [if_pos c1, if_pos c1] at h1
    rw [if_pos (by omega), if_pos (by omega)]
    exact h1
  · rw [if_neg c1, if_neg c1] at h1
    by_cases c2 : b < y + 1 ∨ (b = y + 1 ∧ a < x')
    · rw [if_pos c2, if_pos c2]
      have hno : ¬ hol v 1 (tg l t) a b := by
        rcases c2 with q | ⟨q, q2⟩
        · have : b = y := by omega
          subst this
          exact hx a hab (by omega)
        · subst q
          exact hx' a hab q2
      rw [(FL_no h0 hno).1, (FL_no h0 hno).2]
      exact h1
    · rw [if_neg c2, if_neg c2]
      exact h1
theorem LJ_0 {σ v : mz_G} {l : List tr3} {t x y : Int} (h0 : 0 ≤ t) (h : LI σ v l t) (hb : ∀ a b, dot v a b → (b < y ∨ (b = y ∧ a < x)) → ¬ hol v 1 (tg l t) a b) : LJ σ v l t x y := by
  intro a b hab
  have h1 := h a b hab
  by_cases c : b < y ∨ (b = y ∧ a < x)
  · rw [if_pos c, if_pos c, (FL_no h0 (hb a b hab c)).1, (FL_no h0 (hb a b hab c)).2]
    exact h1
  · rw [if_neg c, if_neg c]
    exact h1
theorem LJ_end {σ v : mz_G} {l : List tr3} {t x y : Int} (h0 : 0 ≤ t) (h : LJ σ v l t x y) (hb : ∀ a b, dot v a b → ¬ (b < y ∨ (b = y ∧ a < x)) → ¬ hol v 1 (tg l t) a b) : LI σ v l (t + 1) := by
  intro a b hab
  have h1 := h a b hab
  by_cases c : b < y ∨ (b = y ∧ a < x)
  · rw [if_pos c, if_pos c] at h1
    exact h1
  · rw [if_neg c, if_neg c] at h1
    rw [(FL_no h0 (hb a b hab c)).1, (FL_no h0 (hb a b hab c)).2]
    exact h1
theorem LJ_no {σ v : mz_G} {l : List tr3} {t x y : Int} (h0 : 0 ≤ t) (h : LJ σ v l t x y) (hno : ¬ dot v x y ∨ ¬ hol v 1 (tg l t) x y) : LJ σ v l t (x + 1) y := by
  intro a b hab
  have h1 := h a b hab
  by_cases c : b < y ∨ (b = y ∧ a < x)
  · rw [if_pos c, if_pos c] at h1
    rw [if_pos (by omega), if_pos (by omega)]
    exact h1
  · rw [if_neg c, if_neg c] at h1
    by_cases c2 : b < y ∨ (b = y ∧ a < x + 1)
    · have e : b = y ∧ a = x := by omega
      obtain ⟨rfl, rfl⟩ := e
      have hn2 : ¬ hol v 1 (tg l t) a b := hno.elim (fun q => absurd hab q) id
      rw [if_pos c2, if_pos c2, (FL_no h0 hn2).1, (FL_no h0 hn2).2]
      exact h1
    · rw [if_neg c2, if_neg c2]
      exact h1
theorem LJ_yes {σ v : mz_G} {l : List tr3} {t x y : Int} (hR : Rg v) (h0 : 0 ≤ t) (h : LJ σ v l t x y) (hd : dot v x y) (hh : hol v 1 (tg l t) x y) {σ' : mz_G} (e1 : ∀ j, σ' 14 j = if j = (y * v 0 0 + x).toNat then (if σ 14 j = -1 then t else σ 14 j) else σ 14 j) (e2 : ∀ j, σ' 15 j = if j = (y * v 0 0 + x).toNat then σ 15 j + 1 else σ 15 j) : LJ σ' v l t (x + 1) y := by
  intro a b hab
  have h1 := h a b hab
  have i1 := dn_in hR hd
  have i2 := dn_in hR hab
  by_cases e : b = y ∧ a = x
  · obtain ⟨rfl, rfl⟩ := e
    rw [if_neg (by omega), if_neg (by omega)] at h1
    rw [if_pos (by omega), if_pos (by omega), e1, e2, if_pos rfl, if_pos rfl, h1.1, h1.2, (FL_yes h0 hh).1, (FL_yes h0 hh).2]
    exact ⟨rfl, rfl⟩
  · have hne : ¬ (b * v 0 0 + a).toNat = (y * v 0 0 + x).toNat := by
      intro q
      obtain ⟨d1, d2, -, -⟩ := id hd
      obtain ⟨d3, d4, -, -⟩ := id hab
      have := dn_inj (W := v 0 0) ⟨d3, d4⟩ ⟨d1, d2⟩ (show b * v 0 0 + a = y * v 0 0 + x by omega)
      exact e this
    rw [e1, e2, if_neg hne, if_neg hne, h1.1, h1.2]
    by_cases c : b < y ∨ (b = y ∧ a < x)
    · rw [if_pos c, if_pos (by omega), if_pos c, if_pos (by omega)]
      exact ⟨rfl, rfl⟩
    · rw [if_neg c, if_neg (by omega), if_neg c, if_neg (by omega)]
      exact ⟨rfl, rfl⟩
/-- the numbers that shares make at the spot -/
def sX (σ v : mz_G) (l : List tr3) (q : Nat) : Int := σ 3 1 * gx v q (tg l (σ 3 0)).1 + σ 3 2 * gx v q (tg l (σ 3 0)).2.1 + σ 3 3 * gx v q (tg l (σ 3 0)).2.2
def sY (σ v : mz_G) (l : List tr3) (q : Nat) : Int := σ 3 1 * gy v q (tg l (σ 3 0)).1 + σ 3 2 * gy v q (tg l (σ 3 0)).2.1 + σ 3 3 * gy v q (tg l (σ 3 0)).2.2
def sG (σ v : mz_G) (l : List tr3) (q : Nat) : Int := (Int.gcd (Int.gcd (sX σ v l q) (sY σ v l q)) (σ 3 4) : Int)
