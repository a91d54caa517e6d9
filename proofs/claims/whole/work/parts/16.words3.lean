/-! the triangles' row: what adds, removes, renames; points that come up -/
def CT (σ : mz_G) (l : List tr3) : Prop := σ 11 1 = (l.length : Int) ∧ ∀ (t : Nat) (x : tr3), l[t]? = some x → σ 22 t = pk x
/-- nothing but the triangles has changed -/
def Ft (σ σ' : mz_G) : Prop := ∀ c i, ¬ c = 22 → ¬ (c = 11 ∧ i = 1) → σ' c i = σ c i
theorem Ft.rf {σ : mz_G} : Ft σ σ := fun _ _ _ _ => rfl
theorem Ft.tr {σ σ' σ'' : mz_G} (h : Ft σ σ') (h' : Ft σ' σ'') : Ft σ σ'' := fun c i a b => (h' c i a b).trans (h c i a b)
theorem CA_CT {σ v : mz_G} {l : List tr3} (h : CA σ v l) : CT σ l := ⟨h.1.2.2.2, h.2.2.1⟩
theorem CA_Ft {σ σ' v : mz_G} {l l' : List tr3} (h : CA σ v l) (hf : Ft σ σ') (hc : CT σ' l') : CA σ' v l' := by
  obtain ⟨⟨a1, a2, a3, a4⟩, a5, a6, a7⟩ := h
  refine ⟨⟨by rw [hf 1 8 (by decide) (by omega)]; exact a1, by rw [hf 1 9 (by decide) (by omega)]; exact a2, by rw [hf 1 7 (by decide) (by omega)]; exact a3, hc.1⟩, fun k hk => ?_, hc.2, fun d hd => ?_⟩
  · rw [hf 16 k (by decide) (by omega), hf 17 k (by decide) (by omega), hf 18 k (by decide) (by omega), hf 19 k (by decide) (by omega)]
    exact a5 k hk
  · rw [hf 4 d (by decide) (by omega)]
    exact a7 d hd
theorem CT_at {σ : mz_G} {l : List tr3} (h : CT σ l) {t : Int} (h0 : 0 ≤ t) (h1 : t < l.length) : σ 22 t.toNat = pk (tg l t) := h.2 _ _ (tg_get h0 h1)
theorem pk_32 {x : tr3} (h : (0 ≤ x.1 ∧ x.1 < 32) ∧ (0 ≤ x.2.1 ∧ x.2.1 < 32) ∧ (0 ≤ x.2.2 ∧ x.2.2 < 32)) : pk x / 1024 % 32 = x.1 ∧ pk x / 32 % 32 = x.2.1 ∧ pk x % 32 = x.2.2 ∧ 0 ≤ pk x ∧ pk x < 32768 := by
  unfold pk
  omega
def Sd (l : List tr3) : Prop := l.Pairwise (fun x y => pk x ≤ pk y)
def ins (x : tr3) : List tr3 → List tr3
  | [] => [x]
  | y :: r => if pk y ≤ pk x then y :: ins x r else x :: y :: r
def nrm (a b c : Int) : tr3 := if b < a ∧ b < c then (b, c, a) else if c < a ∧ c < b then (c, a, b) else (a, b, c)
theorem nrm_rg {a b c n : Int} (ha : 0 ≤ a ∧ a < n) (hb : 0 ≤ b ∧ b < n) (hc : 0 ≤ c ∧ c < n) : (0 ≤ (nrm a b c).1 ∧ (nrm a b c).1 < n) ∧ (0 ≤ (nrm a b c).2.1 ∧ (nrm a b c).2.1 < n) ∧ (0 ≤ (nrm a b c).2.2 ∧ (nrm a b c).2.2 < n) := by
  unfold nrm
  split
  · exact ⟨hb, hc, ha⟩
  · split
    · exact ⟨hc, ha, hb⟩
    · exact ⟨ha, hb, hc⟩
theorem ins_mem {x y : tr3} {l : List tr3} : y ∈ ins x l ↔ y = x ∨ y ∈ l := by
  induction l with
  | nil => simp [ins]
  | cons a r ih =>
    unfold ins
    split
    · rw [List.mem_cons, ih, List.mem_cons]
      constructor
      · rintro (h | h | h) <;> simp [h]
      · rintro (h | h | h) <;> simp [h]
    · simp
theorem ins_len {x : tr3} {l : List tr3} : (ins x l).length = l.length + 1 := by
  induction l with
  | nil => rfl
  | cons a r ih =>
    unfold ins
    split
    · rw [List.length_cons, ih, List.length_cons]
    · simp
theorem ins_Sd {x : tr3} {l : List tr3} (h : Sd l) : Sd (ins x l) := by
  induction l with
  | nil => simp [ins, Sd]
  | cons a r ih =>
    unfold Sd at h
    rw [List.pairwise_cons] at h
    unfold ins
    split
    next q =>
      unfold Sd
      rw [List.pairwise_cons]
      refine ⟨fun y hy => ?_, ih h.2⟩
      rcases ins_mem.mp hy with rfl | hy
      · exact q
      · exact h.1 y hy
    next q =>
      unfold Sd
      rw [List.pairwise_cons, List.pairwise_cons]
      refine ⟨fun y hy => ?_, h.1, h.2⟩
      rcases List.mem_cons.mp hy with rfl | hy
      · omega
      · have := h.1 y hy
        omega
theorem ins_at {x : tr3} : ∀ {l : List tr3} {t : Nat}, Sd l → (∀ (j : Nat) (y : tr3), t ≤ j → l[j]? = some y → pk x < pk y) → (t = 0 ∨ ∃ y, l[t - 1]? = some y ∧ pk y ≤ pk x) → t ≤ l.length → ins x l = l.take t ++ x :: l.drop t
  | [], t, _, _, _, ht => by
    have : t = 0 := by simpa using ht
    subst this
    rfl
  | a :: r, 0, _, h1, _, _ => by
    have := h1 0 a (Nat.le_refl _) rfl
    unfold ins
    rw [if_neg (by omega)]
    rfl
  | a :: r, t + 1, hs, h1, h2, ht => by
    unfold Sd at hs
    rw [List.pairwise_cons] at hs
    have ha : pk a ≤ pk x := by
      rcases h2 with h2 | ⟨y, h2, h3⟩
      · omega
      · cases t with
        | zero =>
          simp at h2
          subst h2
          exact h3
        | succ t =>
          simp only [Nat.add_sub_cancel, List.getElem?_cons_succ] at h2
          have := hs.1 y (List.mem_of_getElem? h2)
          omega
    unfold ins
    rw [if_pos ha, ins_at (t := t) hs.2 (fun j y hj hy => h1 (j + 1) y (by omega) (by simpa using hy)) ?_ (by simpa using ht)]
    · rfl
    · cases t with
      | zero => exact Or.inl rfl
      | succ t =>
        right
        rcases h2 with h2 | ⟨y, h2, h3⟩
        · omega
        · refine ⟨y, ?_, h3⟩
          simpa using h2
/-- while a place is made for z in a row of n: nothing below t has changed, what was above has gone up by one, all that is greater -/
def AdI (σ σ1 : mz_G) (n t z : Int) : Prop := (∀ j : Nat, (j : Int) < t → σ1 22 j = σ 22 j) ∧ (∀ j : Nat, t < j → (j : Int) ≤ n → σ1 22 j = σ 22 (j - 1)) ∧ (∀ j : Nat, t ≤ j → (j : Int) < n → z < σ 22 j) ∧ ∀ c i, ¬ c = 22 → σ1 c i = σ c i
theorem AdI_0 {σ : mz_G} {n z : Int} : AdI σ σ n n z := ⟨fun _ _ => rfl, fun j a b => by omega, fun j a b => by omega, fun _ _ _ => rfl⟩
theorem AdI_s {σ σ1 : mz_G} {n t z : Int} (h : AdI σ σ1 n t z) (h0 : 0 < t) (h1 : t ≤ n) (hz : z < σ1 22 (t - 1).toNat) : AdI σ (mz_up σ1 22 t.toNat (σ1 22 (t - 1).toNat)) n (t + -1) z := by
  obtain ⟨a, b, c, d⟩ := h
  refine ⟨fun j hj => ?_, fun j hj hn => ?_, fun j hj hn => ?_, fun e i he => ?_⟩
  · rw [up_ni (by omega)]
    exact a j (by omega)
  · by_cases e : j = t.toNat
    · subst e
      rw [up_eq, a _ (by omega)]
      congr 1
      omega
    · rw [up_ni e]
      exact b j (by omega) hn
  · by_cases e : (j : Int) = t - 1
    · have e2 : j = (t - 1).toNat := by omega
      rw [a _ (by omega), ← e2] at hz
      exact hz
    · exact c j (by omega) hn
  · rw [up_ne he]
    exact d e i he
theorem CT_add {σ σ1 : mz_G} {l : List tr3} {t z : Int} {x : tr3} (hC : CT σ l) (hI : AdI σ σ1 (l.length : Int) t z) (h0 : 0 ≤ t) (h1 : t ≤ l.length) (hz : z = pk x) (hs : Sd l) (ht : t = 0 ∨ σ1 22 (t - 1).toNat ≤ z) (w : Int) (hw : w = (l.length : Int) + 1) : CT (mz_up (mz_up σ1 22 t.toNat z) 11 1 w) (ins x l) := by
  obtain ⟨a, b, c, d⟩ := hI
  have e1 : ins x l = l.take t.toNat ++ x :: l.drop t.toNat := by
    refine ins_at hs (fun j y hj hy => ?_) ?_ (by omega)
    · have hlt := (List.getElem?_eq_some_iff.mp hy).1
      have := c j (by omega) (by omega)
      rw [hC.2 j y hy] at this
      omega
    · rcases ht with ht | ht
      · exact Or.inl (by omega)
      · by_cases q : t = 0
        · exact Or.inl (by omega)
        · right
          have hg := tg_get (l := l) (t := t - 1) (by omega) (by omega)
          refine ⟨tg l (t - 1), ?_, ?_⟩
          · rw [← hg]
            congr 1
            omega
          · rw [a _ (by omega), hC.2 _ _ hg] at ht
            omega
  rw [e1]
  refine ⟨?_, fun j y hy => ?_⟩
  · rw [up_eq, hw]
    simp
    omega
  · rw [up_ne (by decide)]
    rcases Nat.lt_trichotomy j t.toNat with q | q | q
    · rw [List.getElem?_append_left (by rw [List.length_take]; omega), List.getElem?_take_of_lt q] at hy
      rw [up_ni (by omega), a j (by omega)]
      exact hC.2 j y hy
    · subst q
      rw [List.getElem?_append_right (by rw [List.length_take]; omega)] at hy
      rw [show t.toNat - (List.take t.toNat l).length = 0 by rw [List.length_take]; omega] at hy
      simp at hy
      subst hy
      rw [up_eq, hz]
    · rw [List.getElem?_append_right (by rw [List.length_take]; omega)] at hy
      rw [show j - (List.take t.toNat l).length = (j - t.toNat - 1) + 1 by rw [List.length_take]; omega, List.getElem?_cons_succ, List.getElem?_drop] at hy
      have hlt := (List.getElem?_eq_some_iff.mp hy).1
      rw [up_ni (by omega), b j (by omega) (by omega)]
      have := hC.2 _ y hy
      rw [← this]
      congr 1
      omega
def RmI (σ σ1 : mz_G) (t i : Int) : Prop := (∀ j : Nat, ((j : Int) < t ∨ i ≤ j) → σ1 22 j = σ 22 j) ∧ (∀ j : Nat, t ≤ j → (j : Int) < i → σ1 22 j = σ 22 (j + 1)) ∧ ∀ c k, ¬ c = 22 → σ1 c k = σ c k
theorem RmI_0 {σ : mz_G} {t : Int} : RmI σ σ t t := ⟨fun _ _ => rfl, fun j a b => by omega, fun _ _ _ => rfl⟩
theorem RmI_s {σ σ1 : mz_G} {t i : Int} (h : RmI σ σ1 t i) (h0 : 0 ≤ t) (h1 : t ≤ i) : RmI σ (mz_up σ1 22 i.toNat (σ1 22 (i + 1).toNat)) t (i + 1) := by
  obtain ⟨a, b, d⟩ := h
  refine ⟨fun j hj => ?_, fun j hj hn => ?_, fun e k he => ?_⟩
  · rw [up_ni (by omega)]
    exact a j (by omega)
  · by_cases e : j = i.toNat
    · subst e
      rw [up_eq, a _ (by omega)]
      congr 1
      omega
    · rw [up_ni e]
      exact b j hj (by omega)
  · rw [up_ne he]
    exact d e k he
theorem CT_rem {σ σ1 : mz_G} {l : List tr3} {t i : Int} (hC : CT σ l) (hI : RmI σ σ1 t i) (h0 : 0 ≤ t) (h1 : t < l.length) (hi : i = (l.length : Int) - 1) (w : Int) (hw : w = (l.length : Int) - 1) : CT (mz_up σ1 11 1 w) (l.eraseIdx t.toNat) := by
  obtain ⟨a, b, d⟩ := hI
  refine ⟨?_, fun j y hy => ?_⟩
  · rw [up_eq, hw, List.length_eraseIdx]
    rw [if_pos (by omega)]
    omega
  · rw [up_ne (by decide)]
    rw [List.getElem?_eraseIdx] at hy
    split at hy
    next q =>
      rw [a j (by omega)]
      exact hC.2 j y hy
    next q =>
      have hlt := (List.getElem?_eq_some_iff.mp hy).1
      rw [b j (by omega) (by omega)]
      exact hC.2 (j + 1) y hy
theorem Ft_add {σ σ1 : mz_G} {n t z w : Int} {j : Nat} (h : AdI σ σ1 n t z) : Ft σ (mz_up (mz_up σ1 22 j z) 11 1 w) := fun c i a b => by
  have e1 : mz_up (mz_up σ1 22 j z) 11 1 w c i = mz_up σ1 22 j z c i := by
    show (if c = 11 ∧ i = 1 then w else _) = _
    rw [if_neg b]
  rw [e1, up_ne a]
  exact h.2.2.2 c i a
theorem Ft_rem {σ σ1 : mz_G} {t i w : Int} (h : RmI σ σ1 t i) : Ft σ (mz_up σ1 11 1 w) := fun c k a b => by
  have e1 : mz_up σ1 11 1 w c k = σ1 c k := by
    show (if c = 11 ∧ k = 1 then w else _) = _
    rw [if_neg b]
  rw [e1]
  exact h.2.2 c k a
theorem erase_Sd {l : List tr3} {t : Nat} (h : Sd l) : Sd (l.eraseIdx t) := List.Pairwise.sublist (List.eraseIdx_sublist l t) h
theorem erase_Rt {n : Int} {l : List tr3} {t : Nat} (h : Rt n l) : Rt n (l.eraseIdx t) := fun x hx => h x (List.mem_of_mem_eraseIdx hx)
theorem ins_Rt {n : Int} {x : tr3} {l : List tr3} (h : Rt n l) (hx : (0 ≤ x.1 ∧ x.1 < n) ∧ (0 ≤ x.2.1 ∧ x.2.1 < n) ∧ (0 ≤ x.2.2 ∧ x.2.2 < n)) : Rt n (ins x l) := fun y hy => by
  rcases ins_mem.mp hy with rfl | hy
  · exact hx
  · exact h y hy
/-- knots behind come up -/
def dn (k a : Int) : Int := if k < a then a - 1 else a
def cl1 (k : Int) (x : tr3) : tr3 := (dn k x.1, dn k x.2.1, dn k x.2.2)
/-- the first t are renamed -/
def clT (k : Int) (l : List tr3) (t : Int) : List tr3 := (l.take t.toNat).map (cl1 k) ++ l.drop t.toNat
theorem clT_0 {k : Int} {l : List tr3} : clT k l 0 = l := by simp [clT]
theorem clT_all {k : Int} {l : List tr3} {t : Int} (h : t = l.length) : clT k l t = l.map (cl1 k) := by
  unfold clT
  rw [List.take_of_length_le (by omega), List.drop_of_length_le (by omega), List.append_nil]
theorem clT_len {k : Int} {l : List tr3} {t : Int} : (clT k l t).length = l.length := by
  unfold clT
  simp
  omega
theorem clT_get {k : Int} {l : List tr3} {t : Int} (h0 : 0 ≤ t) (h1 : t < l.length) : tg (clT k l t) t = tg l t := by
  have a := tg_get h0 h1
  have b := tg_get (l := clT k l t) h0 (by rw [clT_len]; exact h1)
  unfold clT at b
  rw [List.getElem?_append_right (by simp; omega)] at b
  rw [show t.toNat - ((l.take t.toNat).map (cl1 k)).length = 0 by simp; omega, List.getElem?_drop, Nat.add_zero, a] at b
  unfold clT
  exact (Option.some.inj b).symm
theorem CT_cl {σ : mz_G} {l : List tr3} {k t : Int} (hC : CT σ (clT k l t)) (h0 : 0 ≤ t) (h1 : t < l.length) {z : Int} (hz : z = pk (cl1 k (tg l t))) : CT (mz_up σ 22 t.toNat z) (clT k l (t + 1)) := by
  refine ⟨by rw [up_ne (by decide), hC.1, clT_len, clT_len], fun j y hy => ?_⟩
  have a := tg_get h0 h1
  have key : ∀ j : Nat, ¬ j = t.toNat → (clT k l (t + 1))[j]? = (clT k l t)[j]? := by
    intro j hj
    unfold clT
    rw [show (t + 1).toNat = t.toNat + 1 by omega]
    rcases Nat.lt_or_ge j t.toNat with q | q
    · rw [List.getElem?_append_left (by simp; omega), List.getElem?_append_left (by simp; omega), List.getElem?_map, List.getElem?_map, List.getElem?_take_of_lt (by omega), List.getElem?_take_of_lt q]
    · rw [List.getElem?_append_right (by simp; omega), List.getElem?_append_right (by simp; omega)]
      simp only [List.length_map, List.length_take, List.getElem?_drop]
      congr 1
      omega
  by_cases e : j = t.toNat
  · subst e
    rw [up_eq, hz]
    unfold clT at hy
    rw [List.getElem?_append_left (by simp; omega), List.getElem?_map, List.getElem?_take_of_lt (by omega), a] at hy
    simp at hy
    rw [hy]
  · rw [up_ni e]
    rw [key j e] at hy
    exact hC.2 j y hy
theorem clT_Rt {k : Int} {l : List tr3} {t : Int} (h : Rt 32 l) (hk : 0 ≤ k) : Rt 32 (clT k l t) := by
  intro x hx
  unfold clT at hx
  rcases List.mem_append.mp hx with q | q
  · obtain ⟨y, hy, rfl⟩ := List.mem_map.mp q
    have := h y (List.mem_of_mem_take hy)
    unfold cl1 dn
    refine ⟨?_, ?_, ?_⟩
    · dsimp only; split <;> omega
    · dsimp only; split <;> omega
    · dsimp only; split <;> omega
  · exact h x (List.mem_of_mem_drop q)
/-- rows of points that come up from k on: cells X and Y, done below i -/
def PcI (σ σ1 : mz_G) (X Y : Nat) (k i : Int) : Prop := (∀ j : Nat, ((j : Int) < k ∨ i ≤ j) → σ1 X j = σ X j ∧ σ1 Y j = σ Y j) ∧ (∀ j : Nat, k ≤ j → (j : Int) < i → σ1 X j = σ X (j + 1) ∧ σ1 Y j = σ Y (j + 1)) ∧ ∀ c j, ¬ c = X → ¬ c = Y → σ1 c j = σ c j
theorem PcI_0 {σ : mz_G} {X Y : Nat} {k : Int} : PcI σ σ X Y k k := ⟨fun _ _ => ⟨rfl, rfl⟩, fun j a b => by omega, fun _ _ _ _ => rfl⟩
theorem PcI_s {σ σ1 : mz_G} {X Y : Nat} {k i : Int} (hXY : ¬ X = Y) (h : PcI σ σ1 X Y k i) (h0 : 0 ≤ k) (h1 : k ≤ i) : PcI σ (mz_up (mz_up σ1 X i.toNat (σ1 X (i + 1).toNat)) Y i.toNat (σ1 Y (i + 1).toNat)) X Y k (i + 1) := by
  obtain ⟨a, b, d⟩ := h
  have hYX : ¬ Y = X := fun q => hXY q.symm
  refine ⟨fun j hj => ?_, fun j hj hn => ?_, fun c j h1 h2 => ?_⟩
  · have hne : ¬ j = i.toNat := by omega
    rw [up_ne hXY, up_ni hne, up_ni hne, up_ne hYX]
    exact a j (by omega)
  · by_cases e : j = i.toNat
    · subst e
      rw [up_ne hXY, up_eq, up_eq, (a _ (by omega)).1, (a _ (by omega)).2]
      have : (i + 1).toNat = i.toNat + 1 := by omega
      rw [this]
      exact ⟨rfl, rfl⟩
    · rw [up_ne hXY, up_ni e, up_ni e, up_ne hYX]
      exact b j hj (by omega)
  · rw [up_ne h2, up_ne h1]
    exact d c j h1 h2
/-- filled rows -/
def fil (σ : mz_G) (c n : Nat) (z : Int) : mz_G := fun a b => if a = c ∧ b < n then z else σ a b
theorem fil_0 {σ : mz_G} {c : Nat} {z : Int} : fil σ c 0 z = σ := by
  funext a b
  unfold fil
  rw [if_neg (by omega)]
theorem fil_s {σ : mz_G} {c : Nat} {i z : Int} (h : 0 ≤ i) : mz_up (fil σ c i.toNat z) c i.toNat z = fil σ c (i + 1).toNat z := by
  funext a b
  unfold mz_up fil
  by_cases ha : a = c
  · by_cases hb : b = i.toNat
    · rw [if_pos ⟨ha, hb⟩, if_pos ⟨ha, by omega⟩]
    · rw [if_neg (fun q => hb q.2)]
      by_cases hlt : b < i.toNat
      · rw [if_pos ⟨ha, hlt⟩, if_pos ⟨ha, by omega⟩]
      · rw [if_neg (fun q => hlt q.2), if_neg (fun q => by have := q.2; omega)]
  · rw [if_neg (fun q => ha q.1), if_neg (fun q => ha q.1), if_neg (fun q => ha q.1)]
theorem xor16 {x : Int} (h : mz_R x) : 0 ≤ (mz_I x ^^^ mz_I 16).toInt ↔ 0 ≤ x := by
  have e : ∀ w : Int32, 0 ≤ w.toInt ↔ w.toBitVec.msb = false := by
    intro w
    rw [BitVec.msb_eq_toInt, decide_eq_false_iff_not, Int.not_lt]
    rfl
  rw [e, show (mz_I x ^^^ mz_I 16).toBitVec = (mz_I x).toBitVec ^^^ (mz_I 16).toBitVec from rfl, BitVec.msb_xor, show (mz_I 16).toBitVec.msb = false by decide, Bool.xor_false, ← e, mz_I_toInt h]
