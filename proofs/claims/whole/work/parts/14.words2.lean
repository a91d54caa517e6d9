/-! the words for links, edges and reasons -/
def mg (m : List (Int × Int)) (i : Int) : Int × Int := m.getD i.toNat (0, 0)
/-- the link's cells hold the edges m -/
def LK (σ : mz_G) (m : List (Int × Int)) : Prop := σ 1 6 = (m.length : Int) ∧ ∀ (i : Nat) (e : Int × Int), m[i]? = some e → σ 12 i = e.1 ∧ σ 13 i = e.2
/-- nothing but the link has changed -/
def Fl (σ σ' : mz_G) : Prop := ∀ c i, ¬ c = 12 → ¬ c = 13 → ¬ (c = 1 ∧ i = 6) → σ' c i = σ c i
theorem Fl.rf {σ : mz_G} : Fl σ σ := fun _ _ _ _ _ => rfl
theorem Fl.tr {σ σ' σ'' : mz_G} (h : Fl σ σ') (h' : Fl σ' σ'') : Fl σ σ'' := fun c i a b d => (h' c i a b d).trans (h c i a b d)
theorem CA_Fl {σ σ' v : mz_G} {l : List tr3} (h : CA σ v l) (hf : Fl σ σ') : CA σ' v l := CA_ext h (fun i hi => hf 1 i (by decide) (by decide) (by omega)) (hf 11 1 (by decide) (by decide) (by omega)) (fun c hc i => hf c i (by omega) (by omega) (by omega))
theorem Fl_16 {σ : mz_G} {z : Int} : Fl σ (mz_up σ 1 6 z) := fun c i a b d => by unfold mz_up; rw [if_neg (fun q => d q)]
theorem LK_nil {σ : mz_G} : LK (mz_up σ 1 6 0) [] := ⟨by simp [mz_up], fun i e h => by simp at h⟩
theorem LK_push {σ : mz_G} {m : List (Int × Int)} {a b : Int} (h : LK σ m) : LK (mz_up (mz_up (mz_up σ 12 (σ 1 6).toNat a) 13 (σ 1 6).toNat b) 1 6 (σ 1 6 + 1)) (m ++ [(a, b)]) := by
  refine ⟨by simp [mz_up, h.1], fun i e he => ?_⟩
  have hl : (σ 1 6).toNat = m.length := by rw [h.1]; omega
  rw [hl]
  rcases Nat.lt_trichotomy i m.length with q | q | q
  · rw [List.getElem?_append_left q] at he
    have := h.2 i e he
    have hne : ¬ i = m.length := by omega
    simp [mz_up, hne, this]
  · subst q
    rw [List.getElem?_append_right (Nat.le_refl _), Nat.sub_self] at he
    cases he
    simp [mz_up]
  · rw [List.getElem?_eq_none (by simp; omega)] at he
    cases he
theorem Fl_push {σ : mz_G} {a b : Int} {j : Nat} {z : Int} : Fl σ (mz_up (mz_up (mz_up σ 12 j a) 13 j b) 1 6 z) := fun c i h1 h2 h3 => by
  simp only [mz_up]
  rw [if_neg (fun q => h3 q), if_neg (fun q => h2 q.1), if_neg (fun q => h1 q.1)]
theorem mg_get {m : List (Int × Int)} {i : Int} (h0 : 0 ≤ i) (h1 : i < m.length) : m[i.toNat]? = some (mg m i) := by
  have : i.toNat < m.length := by omega
  unfold mg
  rw [List.getD_eq_getElem?_getD, List.getElem?_eq_getElem this]
  rfl
theorem LK_at {σ : mz_G} {m : List (Int × Int)} (h : LK σ m) {i : Int} (h0 : 0 ≤ i) (h1 : i < m.length) : σ 12 i.toNat = (mg m i).1 ∧ σ 13 i.toNat = (mg m i).2 := h.2 _ _ (mg_get h0 h1)
theorem LK_Fx {σ σ' : mz_G} {m : List (Int × Int)} (h : LK σ m) (h1 : σ' 1 6 = σ 1 6) (h2 : ∀ i, σ' 12 i = σ 12 i) (h3 : ∀ i, σ' 13 i = σ 13 i) : LK σ' m := ⟨h1.trans h.1, fun i e he => by rw [h2, h3]; exact h.2 i e he⟩
/-- edges are of knots -/
def Lr (v : mz_G) (m : List (Int × Int)) : Prop := ∀ e ∈ m, (0 ≤ e.1 ∧ e.1 < v 0 2) ∧ (0 ≤ e.2 ∧ e.2 < v 0 2)
theorem Lr_at {v : mz_G} {m : List (Int × Int)} (h : Lr v m) {i : Int} (h0 : 0 ≤ i) (h1 : i < m.length) : (0 ≤ (mg m i).1 ∧ (mg m i).1 < v 0 2) ∧ (0 ≤ (mg m i).2 ∧ (mg m i).2 < v 0 2) := h _ (List.mem_of_getElem? (mg_get h0 h1))
def fe (v : mz_G) (q : Nat) (x y : Int) (e : Int × Int) : Int := ar x y (gx v q e.1) (gy v q e.1) (gx v q e.2) (gy v q e.2)
theorem fe_bd {v : mz_G} {q : Nat} {x y : Int} {e : Int × Int} (hR : Rg v) (hq : q < 2) (he : (0 ≤ e.1 ∧ e.1 < v 0 2) ∧ (0 ≤ e.2 ∧ e.2 < v 0 2)) (hd : dot v x y) : -722 ≤ fe v q x y e ∧ fe v q x y e ≤ 722 := by
  have h1 := Rg_q hR hq he.1.1 he.1.2
  have h2 := Rg_q hR hq he.2.1 he.2.2
  have hW := hR.1
  have hH := hR.2.1
  unfold dot at hd
  exact ar_bd (by omega) (by omega) (by omega) (by omega) (by omega) (by omega)
/-- lists of edges gathered over the triangles -/
def flT (f : tr3 → List (Int × Int)) (l : List tr3) (t : Int) : List (Int × Int) := (l.take t.toNat).flatMap f
theorem flT_0 (f : tr3 → List (Int × Int)) (l : List tr3) : flT f l 0 = [] := by simp [flT]
theorem flT_s {f : tr3 → List (Int × Int)} {l : List tr3} {t : Int} (h0 : 0 ≤ t) (h1 : t < l.length) : flT f l (t + 1) = flT f l t ++ f (tg l t) := by
  unfold flT
  rw [show (t + 1).toNat = t.toNat + 1 by omega, List.take_succ, tg_get h0 h1]
  simp [List.flatMap_append]
theorem flT_all {f : tr3 → List (Int × Int)} {l : List tr3} {t : Int} (h1 : t = l.length) : flT f l t = l.flatMap f := by
  unfold flT
  rw [List.take_of_length_le (by omega)]
theorem flT_le {f : tr3 → List (Int × Int)} {l : List tr3} {t : Int} : (flT f l t).length ≤ (l.flatMap f).length := by
  unfold flT
  conv => rhs; rw [← List.take_append_drop t.toNat l]
  rw [List.flatMap_append, List.length_append]
  omega
def lk1 (k : Int) (x : tr3) : List (Int × Int) := if x.1 = k then [(x.2.1, x.2.2)] else if x.2.1 = k then [(x.2.2, x.1)] else if x.2.2 = k then [(x.1, x.2.1)] else []
def lkOf (l : List tr3) (k : Int) : List (Int × Int) := l.flatMap (lk1 k)
def ap1 (v : mz_G) (x y : Int) (e : Int × Int) : List (Int × Int) := if 0 < fe v 0 x y e then [e] else []
def lh1 (v : mz_G) (x y : Int) (t : tr3) : List (Int × Int) := if hol v 0 t x y then ap1 v x y (t.1, t.2.1) ++ ap1 v x y (t.2.1, t.2.2) ++ ap1 v x y (t.2.2, t.1) else []
def lhOf (v : mz_G) (l : List tr3) (x y : Int) : List (Int × Int) := l.flatMap (lh1 v x y)
theorem ap1_le {v : mz_G} {x y : Int} {e : Int × Int} : (ap1 v x y e).length ≤ 1 := by unfold ap1; split <;> simp
theorem lk1_le {k : Int} {x : tr3} : (lk1 k x).length ≤ 1 := by unfold lk1; split; simp; split; simp; split <;> simp
theorem flT_len {f : tr3 → List (Int × Int)} {l : List tr3} {t : Int} {c : Nat} (hf : ∀ x, (f x).length ≤ c) (h0 : 0 ≤ t) : ((flT f l t).length : Int) ≤ c * t := by
  obtain ⟨n, rfl⟩ := Int.eq_ofNat_of_zero_le h0
  unfold flT
  rw [Int.toNat_natCast]
  have key : ∀ m : List tr3, (m.flatMap f).length ≤ c * m.length := by
    intro m
    induction m with
    | nil => simp
    | cons a m ih =>
      rw [List.flatMap_cons, List.length_append, List.length_cons, Nat.mul_add]
      have := hf a
      omega
  have h1 := key (l.take n)
  have h2 : (l.take n).length ≤ n := by rw [List.length_take]; omega
  have h3 : c * (l.take n).length ≤ c * n := Nat.mul_le_mul_left c h2
  have h4 : ((c * n : Nat) : Int) = (c : Int) * (n : Int) := Int.natCast_mul c n
  omega
theorem Lr_lk {v : mz_G} {l : List tr3} {k : Int} (h : Rt (v 0 2) l) : Lr v (lkOf l k) := by
  intro e he
  obtain ⟨x, hx, h2⟩ := List.mem_flatMap.mp he
  have := h x hx
  unfold lk1 at h2
  split at h2
  · simp only [List.mem_singleton] at h2; subst h2; exact ⟨this.2.1, this.2.2⟩
  · split at h2
    · simp only [List.mem_singleton] at h2; subst h2; exact ⟨this.2.2, this.1⟩
    · split at h2
      · simp only [List.mem_singleton] at h2; subst h2; exact ⟨this.1, this.2.1⟩
      · simp at h2
theorem Lr_lh {v : mz_G} {l : List tr3} {x y : Int} (h : Rt (v 0 2) l) : Lr v (lhOf v l x y) := by
  intro e he
  obtain ⟨t, ht, h2⟩ := List.mem_flatMap.mp he
  have := h t ht
  have key : ∀ d, e ∈ ap1 v x y d → e = d := by
    intro d hd
    unfold ap1 at hd
    split at hd
    · simpa using hd
    · simp at hd
  unfold lh1 at h2
  split at h2
  · simp only [List.mem_append] at h2
    rcases h2 with (h2 | h2) | h2
    · rw [key _ h2]; exact ⟨this.1, this.2.1⟩
    · rw [key _ h2]; exact ⟨this.2.1, this.2.2⟩
    · rw [key _ h2]; exact ⟨this.2.2, this.1⟩
  · simp at h2
/-- whether a place folds one of the triangles that a link makes -/
abbrev fol (v : mz_G) (m : List (Int × Int)) (x y : Int) : Prop := ¬ fstI (m.length : Int) (fun i => fe v 1 x y (mg m i) ≤ 0) = -1
abbrev ish (v : mz_G) (x y : Int) : Prop := ¬ fstI (v 0 2) (fun k => gx v 0 k = x ∧ gy v 0 k = y) = -1
def rbl (v : mz_G) (m : List (Int × Int)) (k x y : Int) : Int := if ¬ dot v x y then 1 else if gx v 1 k = x ∧ gy v 1 k = y then 2 else if k < 4 ∨ ¬ keeps v (gx v 0 k) (gy v 0 k) x y then 3 else if fol v m x y then 4 else 0
def rtm (v : mz_G) (l : List tr3) (k x y : Int) : Int := if ¬ isk v k then 1 else rbl v (lkOf l k) k x y
theorem rbl_bd {v : mz_G} {m : List (Int × Int)} {k x y : Int} : 0 ≤ rbl v m k x y ∧ rbl v m k x y ≤ 4 := by
  unfold rbl
  repeat' split
  all_goals decide
theorem rtm_bd {v : mz_G} {l : List tr3} {k x y : Int} : 0 ≤ rtm v l k x y ∧ rtm v l k x y ≤ 4 := by
  unfold rtm
  split
  · decide
  · exact rbl_bd
/-- a triangle has one knot right ahead of another; the third one -/
abbrev edg (x : tr3) (a b : Int) : Prop := (x.1 = a ∧ x.2.1 = b) ∨ (x.2.1 = a ∧ x.2.2 = b) ∨ (x.2.2 = a ∧ x.1 = b)
def opp (x : tr3) (a b : Int) : Int := if x.1 = a ∧ x.2.1 = b then x.2.2 else if x.2.1 = a ∧ x.2.2 = b then x.1 else x.2.1
def sid (l : List tr3) (a b : Int) : Int := fstI (l.length : Int) (fun i => edg (tg l i) a b)
def apx (l : List tr3) (a b : Int) : Int := if sid l a b = -1 then -1 else opp (tg l (sid l a b)) a b
theorem apx_bd {v : mz_G} {l : List tr3} {a b : Int} (h : Rt (v 0 2) l) (h2 : v 0 2 ≤ 31) : -1 ≤ apx l a b ∧ apx l a b ≤ 31 ∧ (¬ apx l a b = -1 → 0 ≤ apx l a b ∧ apx l a b < v 0 2) := by
  unfold apx
  rcases fstI_spec (l.length : Int) (fun i => edg (tg l i) a b) with ⟨h1, -⟩ | ⟨h1, h3, -, -⟩
  · have e : sid l a b = -1 := h1
    rw [if_pos e]
    omega
  · have e : ¬ sid l a b = -1 := by unfold sid; omega
    rw [if_neg e]
    have := Rt_at h h1 h3
    unfold opp sid
    split
    · omega
    · split <;> omega
def flb (v : mz_G) (a b c : Int) : Int := if ar (gx v 0 a) (gy v 0 a) (gx v 0 b) (gy v 0 b) (gx v 0 c) (gy v 0 c) ≤ 0 ∨ ar (gx v 1 a) (gy v 1 a) (gx v 1 b) (gy v 1 b) (gx v 1 c) (gy v 1 c) ≤ 0 then 1 else 0
def rtt (v : mz_G) (l : List tr3) (a b : Int) : Int := if ¬ isk v a ∨ ¬ isk v b then 1 else if apx l a b = -1 ∨ apx l b a = -1 then 2 else if flb v a (apx l b a) (apx l a b) = 1 ∨ flb v (apx l b a) b (apx l a b) = 1 then 4 else 0
theorem rtt_bd {v : mz_G} {l : List tr3} {a b : Int} : 0 ≤ rtt v l a b ∧ rtt v l a b ≤ 4 := by
  unfold rtt
  repeat' split
  all_goals decide
def trs (v : mz_G) (l : List tr3) (a b : Int) : Int := b01 (a < b ∧ rtt v l a b = 0)
theorem trs_bd {v : mz_G} {l : List tr3} {a b : Int} : 0 ≤ trs v l a b ∧ trs v l a b ≤ 1 := by
  unfold trs
  rcases b01_01 (P := a < b ∧ rtt v l a b = 0) with q | q <;> omega
def rti (v : mz_G) (l : List tr3) (a b x y : Int) : Int := if ¬ dot v a b ∨ ¬ dot v x y then 1 else if ish v a b then 2 else if ¬ keeps v a b x y then 3 else if fol v (lhOf v l a b) x y then 4 else if 30 ≤ v 0 2 then 5 else 0
theorem rti_bd {v : mz_G} {l : List tr3} {a b x y : Int} : 0 ≤ rti v l a b x y ∧ rti v l a b x y ≤ 5 := by
  unfold rti
  repeat' split
  all_goals decide
def dgr (l : List tr3) (k : Int) : Int := sumI (l.length : Int) (fun i => b01 (hasK (tg l i) k))
theorem dgr_bd {l : List tr3} {k : Int} : 0 ≤ dgr l k ∧ dgr l k ≤ (l.length : Int) := by
  have := sumI_bd (t := (l.length : Int)) (a := 0) (b := 1) (f := fun i => b01 (hasK (tg l i) k)) (by omega) (fun i _ _ => by rcases b01_01 (P := hasK (tg l i) k) with q | q <;> omega)
  unfold dgr
  omega
def rto (v : mz_G) (l : List tr3) (k : Int) : Int := if ¬ isk v k then 1 else if kind v k = 0 ∨ (if kind v k = 1 then 2 else 3) < dgr l k then 2 else 0
theorem kind_bd {v : mz_G} {k : Int} : 0 ≤ kind v k ∧ kind v k ≤ 2 := by
  unfold kind
  repeat' split
  all_goals decide
/-- which triangle is stretched most (or least) among the first -/
def exv (v : mz_G) (l : List tr3) (b t o : Int) : Int := if b = 0 then (if 0 < tar v 1 (tg l t) * tar v 0 (tg l o) - tar v 1 (tg l o) * tar v 0 (tg l t) then t else o) else (if tar v 1 (tg l t) * tar v 0 (tg l o) - tar v 1 (tg l o) * tar v 0 (tg l t) < 0 then t else o)
def exN (v : mz_G) (l : List tr3) (b : Int) : Nat → Int
  | 0 => 0
  | n + 1 => exv v l b ((n + 1 : Nat) : Int) (exN v l b n)
def exI (v : mz_G) (l : List tr3) (b t : Int) : Int := exN v l b (t - 1).toNat
theorem exI_1 (v : mz_G) (l : List tr3) (b : Int) : exI v l b 1 = 0 := rfl
theorem exI_s {v : mz_G} {l : List tr3} {b t : Int} (h : 1 ≤ t) : exI v l b (t + 1) = exv v l b t (exI v l b t) := by
  unfold exI
  rw [show (t + 1 - 1).toNat = (t - 1).toNat + 1 by omega]
  show exv v l b (((t - 1).toNat + 1 : Nat) : Int) _ = _
  rw [show (((t - 1).toNat + 1 : Nat) : Int) = t by omega]
theorem tar_bd {v : mz_G} {l : List tr3} {q : Nat} {t : tr3} (hR : Rg v) (hq : q < 2) (ht : (0 ≤ t.1 ∧ t.1 < v 0 2) ∧ (0 ≤ t.2.1 ∧ t.2.1 < v 0 2) ∧ (0 ≤ t.2.2 ∧ t.2.2 < v 0 2)) : -722 ≤ tar v q t ∧ tar v q t ≤ 722 := by
  have hW := hR.1
  have hH := hR.2.1
  exact (sh_bd (l := l) (x := 0) (y := 0) hR hq ht (by unfold dot; omega)).2.2.2
/-- on the way -/
def wx (v : mz_G) (t k : Int) : Int := (8 - t) * gx v 0 k + t * gx v 1 k
def wy (v : mz_G) (t k : Int) : Int := (8 - t) * gy v 0 k + t * gy v 1 k
def war (v : mz_G) (t : Int) (x : tr3) : Int := ar (wx v t x.1) (wy v t x.1) (wx v t x.2.1) (wy v t x.2.1) (wx v t x.2.2) (wy v t x.2.2)
/-- the way's cells hold the knots below j -/
def WY (σ v : mz_G) (t j : Int) : Prop := ∀ k : Nat, (k : Int) < j → σ 20 k = wx v t (k : Int) ∧ σ 21 k = wy v t (k : Int)
theorem WY_at {σ v : mz_G} {t j k : Int} (h : WY σ v t j) (h0 : 0 ≤ k) (h1 : k < j) : σ 20 k.toNat = wx v t k ∧ σ 21 k.toNat = wy v t k := by
  have := h k.toNat (by omega)
  rw [Int.toNat_of_nonneg h0] at this
  exact this
theorem WY_s {σ v : mz_G} {t j : Int} (h : WY σ v t j) (h0 : 0 ≤ j) : WY (mz_up (mz_up σ 20 j.toNat (wx v t j)) 21 j.toNat (wy v t j)) v t (j + 1) := by
  intro k hk
  by_cases e : k = j.toNat
  · subst e
    rw [Int.toNat_of_nonneg h0]
    simp [mz_up]
  · have := h k (by omega)
    simp [mz_up, e, this]
theorem way_bd {a b t : Int} (ht : 0 ≤ t ∧ t ≤ 8) (ha : 0 ≤ a ∧ a ≤ 19) (hb : 0 ≤ b ∧ b ≤ 19) : 0 ≤ (8 - t) * a + t * b ∧ (8 - t) * a + t * b ≤ 152 := by
  have h1 : 0 ≤ (8 - t) * a := Int.mul_nonneg (by omega) (by omega)
  have h2 : 0 ≤ t * b := Int.mul_nonneg (by omega) (by omega)
  have h3 : (8 - t) * a ≤ (8 - t) * 19 := Int.mul_le_mul_of_nonneg_left (by omega) (by omega)
  have h4 : t * b ≤ t * 19 := Int.mul_le_mul_of_nonneg_left (by omega) (by omega)
  omega
theorem war_bd {v : mz_G} {t : Int} {x : tr3} (hR : Rg v) (h8 : 0 ≤ t ∧ t ≤ 8) (ht : (0 ≤ x.1 ∧ x.1 < v 0 2) ∧ (0 ≤ x.2.1 ∧ x.2.1 < v 0 2) ∧ (0 ≤ x.2.2 ∧ x.2.2 < v 0 2)) : -50000 ≤ war v t x ∧ war v t x ≤ 50000 := by
  have h1 := Rg_pt hR ht.1.1 ht.1.2
  have h2 := Rg_pt hR ht.2.1.1 ht.2.1.2
  have h3 := Rg_pt hR ht.2.2.1 ht.2.2.2
  have hW := hR.1
  have hH := hR.2.1
  have a1 : 0 ≤ wx v t x.1 ∧ wx v t x.1 ≤ 152 := way_bd h8 (by omega) (by omega)
  have a2 : 0 ≤ wy v t x.1 ∧ wy v t x.1 ≤ 152 := way_bd h8 (by omega) (by omega)
  have a3 : 0 ≤ wx v t x.2.1 ∧ wx v t x.2.1 ≤ 152 := way_bd h8 (by omega) (by omega)
  have a4 : 0 ≤ wy v t x.2.1 ∧ wy v t x.2.1 ≤ 152 := way_bd h8 (by omega) (by omega)
  have a5 : 0 ≤ wx v t x.2.2 ∧ wx v t x.2.2 ≤ 152 := way_bd h8 (by omega) (by omega)
  have a6 : 0 ≤ wy v t x.2.2 ∧ wy v t x.2.2 ≤ 152 := way_bd h8 (by omega) (by omega)
  unfold war ar
  have m1 := mul_bd (a := wx v t x.2.1 - wx v t x.1) (b := wy v t x.2.2 - wy v t x.1) (m := 152) (k := 152) (by omega) (by omega) (by omega) (by omega)
  have m2 := mul_bd (a := wx v t x.2.2 - wx v t x.1) (b := wy v t x.2.1 - wy v t x.1) (m := 152) (k := 152) (by omega) (by omega) (by omega) (by omega)
  omega
