/-! words for the reference's other methods -/
theorem gx_mv {v : mz_G} {k x y j : Int} (h : 0 ≤ j) : gx (vmv v k x y) 1 j = (if j = k then x else gx v 1 j) ∧ gy (vmv v k x y) 1 j = (if j = k then y else gy v 1 j) ∧ gx (vmv v k x y) 0 j = gx v 0 j ∧ gy (vmv v k x y) 0 j = gy v 0 j := by
  unfold gx gy vmv
  have e : ((j.toNat : Nat) : Int) = j := Int.toNat_of_nonneg h
  simp only [e]
  refine ⟨?_, ?_, ?_, ?_⟩
  · by_cases q : j = k <;> simp [q]
  · by_cases q : j = k <;> simp [q]
  · simp
  · simp
theorem fol_iff {v : mz_G} {m : List (Int × Int)} {x y : Int} : fol v m x y ↔ ∃ e ∈ m, fe v 1 x y e ≤ 0 := by
  unfold fol
  constructor
  · intro h
    rcases fstI_spec (m.length : Int) (fun i => fe v 1 x y (mg m i) ≤ 0) with ⟨h1, -⟩ | ⟨h1, h2, h3, -⟩
    · exact absurd h1 h
    · exact ⟨_, List.mem_of_getElem? (mg_get h1 h2), h3⟩
  · rintro ⟨e, he, h⟩ q
    obtain ⟨i, hi⟩ := List.getElem?_of_mem he
    have hl : i < m.length := by
      rcases Nat.lt_or_ge i m.length with z | z
      · exact z
      · rw [List.getElem?_eq_none z] at hi; cases hi
    have := fstI_nn.mp q (i : Int) (by omega) (by omega)
    apply this
    have e2 := mg_get (m := m) (i := (i : Int)) (by omega) (by omega)
    rw [Int.toNat_natCast, hi] at e2
    cases e2
    exact h
theorem fdd_iff {v : mz_G} {l : List tr3} : fdd v l ↔ ∃ t ∈ l, tar v 1 t ≤ 0 ∨ tar v 0 t ≤ 0 := by
  unfold fdd
  constructor
  · intro h
    rcases fstI_spec (l.length : Int) (fun t => tar v 1 (tg l t) ≤ 0 ∨ tar v 0 (tg l t) ≤ 0) with ⟨h1, -⟩ | ⟨h1, h2, h3, -⟩
    · exact absurd h1 h
    · exact ⟨_, tg_mem h1 h2, h3⟩
  · rintro ⟨e, he, h⟩ q
    obtain ⟨i, hi⟩ := List.getElem?_of_mem he
    have hl : i < l.length := by
      rcases Nat.lt_or_ge i l.length with z | z
      · exact z
      · rw [List.getElem?_eq_none z] at hi; cases hi
    have := fstI_nn.mp q (i : Int) (by omega) (by omega)
    apply this
    have e2 := tg_get (l := l) (t := (i : Int)) (by omega) (by omega)
    rw [Int.toNat_natCast, hi] at e2
    cases e2
    exact h
/-- a moved knot folds just the triangles of its link -/
theorem fdd_mv {v : mz_G} {l : List tr3} {k x y : Int} (hT : Rt (v 0 2) l) (h0 : Pos v l 0) (h1 : Pos v l 1) : fdd (vmv v k x y) l ↔ fol v (lkOf l k) x y := by
  rw [fdd_iff, fol_iff]
  have hD := Pos_Dst h0
  have key : ∀ t ∈ l, tar (vmv v k x y) 0 t = tar v 0 t := by
    intro t ht
    have r := hT t ht
    unfold tar
    rw [(gx_mv r.1.1).2.2.1, (gx_mv r.1.1).2.2.2, (gx_mv r.2.1.1).2.2.1, (gx_mv r.2.1.1).2.2.2, (gx_mv r.2.2.1).2.2.1, (gx_mv r.2.2.1).2.2.2]
  have kp : ∀ t ∈ l, (¬ hasK t k ∧ lk1 k t = [] ∧ tar (vmv v k x y) 1 t = tar v 1 t) ∨ ∃ e, lk1 k t = [e] ∧ tar (vmv v k x y) 1 t = fe v 1 x y e := by
    intro t ht
    have r := hT t ht
    have d := hD t ht
    unfold tar fe
    rw [(gx_mv r.1.1).1, (gx_mv r.1.1).2.1, (gx_mv r.2.1.1).1, (gx_mv r.2.1.1).2.1, (gx_mv r.2.2.1).1, (gx_mv r.2.2.1).2.1]
    by_cases q1 : t.1 = k
    · right
      refine ⟨(t.2.1, t.2.2), by unfold lk1; rw [if_pos q1], ?_⟩
      rw [if_pos q1, if_pos q1, if_neg (show ¬ t.2.1 = k by omega), if_neg (show ¬ t.2.1 = k by omega), if_neg (show ¬ t.2.2 = k by omega), if_neg (show ¬ t.2.2 = k by omega)]
    · by_cases q2 : t.2.1 = k
      · right
        refine ⟨(t.2.2, t.1), by unfold lk1; rw [if_neg q1, if_pos q2], ?_⟩
        rw [if_neg q1, if_neg q1, if_pos q2, if_pos q2, if_neg (show ¬ t.2.2 = k by omega), if_neg (show ¬ t.2.2 = k by omega), ar_cyc, ar_cyc]
      · by_cases q3 : t.2.2 = k
        · right
          refine ⟨(t.1, t.2.1), by unfold lk1; rw [if_neg q1, if_neg q2, if_pos q3], ?_⟩
          rw [if_neg q1, if_neg q1, if_neg q2, if_neg q2, if_pos q3, if_pos q3, ar_cyc]
        · left
          refine ⟨fun z => by rcases z with z | z | z; exact q1 z; exact q2 z; exact q3 z, by unfold lk1; rw [if_neg q1, if_neg q2, if_neg q3], ?_⟩
          rw [if_neg q1, if_neg q1, if_neg q2, if_neg q2, if_neg q3, if_neg q3]
  constructor
  · rintro ⟨t, ht, h⟩
    have p0 := h0 t ht
    have p1 := h1 t ht
    rw [key t ht] at h
    rcases kp t ht with ⟨-, -, e⟩ | ⟨e, e1, e2⟩
    · rw [e] at h; omega
    · exact ⟨e, List.mem_flatMap.mpr ⟨t, ht, by rw [e1]; exact List.mem_singleton.mpr rfl⟩, by omega⟩
  · rintro ⟨e, he, h⟩
    obtain ⟨t, ht, h2⟩ := List.mem_flatMap.mp he
    refine ⟨t, ht, Or.inl ?_⟩
    rcases kp t ht with ⟨-, e1, -⟩ | ⟨e', e1, e2⟩
    · rw [e1] at h2; cases h2
    · rw [e1] at h2
      rw [e2, ← List.mem_singleton.mp h2]
      exact h
theorem wyn_rtm {v : mz_G} {l : List tr3} {k x y : Int} (hG : GO v l) : wyn v l k x y = rtm v l k x y := by
  have h := fdd_mv (k := k) (x := x) (y := y) hG.1.2.1 hG.2.2.1.1 hG.2.2.1.2
  unfold wyn rtm rbl
  by_cases q1 : ¬ isk v k
  · rw [if_pos (Or.inl q1), if_pos q1]
  · rw [if_neg q1]
    by_cases q2 : ¬ dot v x y
    · rw [if_pos (Or.inr q2), if_pos q2]
    · rw [if_neg (fun z => by rcases z with z | z; exact q1 z; exact q2 z), if_neg q2]
      by_cases q3 : fol v (lkOf l k) x y
      · rw [if_pos (h.mpr q3), if_pos q3]
      · rw [if_neg (fun z => q3 (h.mp z)), if_neg q3]
theorem vmv_vmv {v : mz_G} {k x y a b : Int} : vmv (vmv v k a b) k x y = vmv v k x y := by
  funext c i
  unfold vmv
  repeat' split
  all_goals first | rfl | omega
theorem wyn_mv {v : mz_G} {l : List tr3} {k a b x y : Int} (hk : 0 ≤ k) (h1 : ¬ (a = x ∧ b = y)) (h2 : ¬ (gx v 1 k = x ∧ gy v 1 k = y)) : wyn (vmv v k a b) l k x y = wyn v l k x y := by
  have w : ∀ c i, ¬ c = 3 → ¬ c = 4 → vmv v k a b c i = v c i := fun c i h1 h2 => by unfold vmv; rw [if_neg (fun q => h1 q.1), if_neg (fun q => h2 q.1)]
  have e1 : isk (vmv v k a b) k ↔ isk v k := by unfold isk; rw [w 0 2 (by decide) (by decide)]
  have e2 : dot (vmv v k a b) x y ↔ dot v x y := by unfold dot; rw [w 0 0 (by decide) (by decide), w 0 1 (by decide) (by decide)]
  have g := gx_mv (v := v) (k := k) (x := a) (y := b) hk
  rw [if_pos rfl, if_pos rfl] at g
  unfold wyn
  rw [vmv_vmv, g.1, g.2.1, g.2.2.1, g.2.2.2, if_neg h1, if_neg h2]
  unfold isk dot keeps
  rw [w 0 2 (by decide) (by decide), w 0 0 (by decide) (by decide), w 0 1 (by decide) (by decide)]
/-- a place written and written back -/
theorem up_self {σ : mz_G} {c i : Nat} {z : Int} (h : z = σ c i) : mz_up σ c i z = σ := by
  funext a b
  unfold mz_up
  split
  next q => rw [q.1, q.2, h]
  next => rfl
theorem up_swp {σ : mz_G} {c i d j : Nat} {z w : Int} (h : ¬ c = d) : mz_up (mz_up σ c i z) d j w = mz_up (mz_up σ d j w) c i z := by
  funext a b
  unfold mz_up
  repeat' split
  all_goals first | rfl | omega
theorem up_up {σ : mz_G} {c i : Nat} {z w : Int} : mz_up (mz_up σ c i z) c i w = mz_up σ c i w := by
  funext a b
  unfold mz_up
  repeat' split
  all_goals first | rfl | omega
theorem up_bk {σ : mz_G} {i : Nat} {x y a b : Int} (ha : a = σ 33 i) (hb : b = σ 34 i) : mz_up (mz_up (mz_up (mz_up σ 33 i x) 34 i y) 33 i a) 34 i b = σ := by
  rw [up_swp (c := 34) (d := 33) (by decide), up_up, up_up, up_self ha, up_self hb]
/-- pairs of knots -/
def eco (n : Int) (P : Int → Int → Prop) [∀ a b, Decidable (P a b)] : Int := sumI n (fun a => sumI n (fun b => b01 (a < b ∧ P a b)))
theorem eco_z {a : Int} {P : Int → Int → Prop} [∀ a b, Decidable (P a b)] (h : 0 ≤ a) : sumI (a + 1) (fun b => b01 (a < b ∧ P a b)) = 0 := by
  rw [sumI_cg (g := fun _ => 0) (fun b h0 h1 => b01_f (fun z => by omega))]
  have key : ∀ n : Nat, sumN n (fun _ => 0) = 0 := by
    intro n
    induction n with
    | zero => rfl
    | succ n ih => show sumN n (fun _ => 0) + 0 = 0; rw [ih]; rfl
  exact key _
theorem eco_bd {n a m : Int} {P : Int → Int → Prop} [∀ a b, Decidable (P a b)] (h : 0 ≤ m) : 0 ≤ sumI m (fun b => b01 (a < b ∧ P a b)) ∧ sumI m (fun b => b01 (a < b ∧ P a b)) ≤ m := by
  have := sumI_bd (t := m) (a := 0) (b := 1) (f := fun b => b01 (a < b ∧ P a b)) h (fun b _ _ => by rcases b01_01 (P := a < b ∧ P a b) with q | q <;> omega)
  omega
/-- what the class's short ways of counting edges ask of the net -/
def EU (v : mz_G) (l : List tr3) : Prop := eco (v 0 2) (fun a b => 0 < hld l a b) = v 0 2 + (l.length : Int) - 1 ∧ eco (v 0 2) (fun a b => rtt v l a b = 0) = tsum v l
/-- some values have been written in the reference: those below D -/
def WM (σ σ1 : mz_G) (f : Int → Int) (D : Int) : Prop := (∀ d : Int, 0 ≤ d → d < D → σ1 36 d.toNat = f d) ∧ (∀ d : Int, D ≤ d → 0 ≤ d → σ1 36 d.toNat = σ 36 d.toNat) ∧ ∀ c i, ¬ c = 36 → σ1 c i = σ c i
theorem WM_0 {σ : mz_G} {f : Int → Int} : WM σ σ f 0 := ⟨fun d a b => by omega, fun _ _ _ => rfl, fun _ _ _ => rfl⟩
theorem WM_s {σ σ1 : mz_G} {f : Int → Int} {D z : Int} (h : WM σ σ1 f D) (h0 : 0 ≤ D) (hz : z = f D) : WM σ (mz_up σ1 36 D.toNat z) f (D + 1) := by
  obtain ⟨a, b, c⟩ := h
  refine ⟨fun d h1 h2 => ?_, fun d h1 h2 => ?_, fun e i he => by rw [up_ne he]; exact c e i he⟩
  · by_cases q : d = D
    · subst q
      rw [up_eq, hz]
    · rw [up_ni (by omega)]
      exact a d h1 (by omega)
  · rw [up_ni (by omega)]
    exact b d (by omega) h2
theorem MA_vpt {σ σ' v : mz_G} {l : List tr3} {f : Int → Int} (h : MA σ v l) (h1 : ∀ i, i < 4 → σ' 30 i = σ 30 i) (h2 : ∀ c, c = 31 ∨ c = 32 ∨ c = 33 ∨ c = 34 ∨ c = 35 → ∀ i, σ' c i = σ c i) (h3 : ∀ d : Int, 0 ≤ d → d < v 0 0 * v 0 1 → σ' 36 d.toNat = f d) : MA σ' (vpt v f) l := by
  obtain ⟨⟨⟨a1, a2, a3⟩, a5, a7⟩, at'⟩ := h
  have w : ∀ c i, ¬ c = 6 → vpt v f c i = v c i := fun c i q => by unfold vpt; rw [if_neg q]
  refine ⟨⟨⟨by rw [w 0 0 (by decide), h1 0 (by decide)]; exact a1, by rw [w 0 1 (by decide), h1 1 (by decide)]; exact a2, by rw [w 0 2 (by decide), h1 2 (by decide)]; exact a3⟩, fun j hj => ?_, fun d hd => ?_⟩, MT_ext at' (h1 3 (by decide)) (h2 35 (by simp))⟩
  · rw [w 0 2 (by decide)] at hj
    rw [h2 31 (by simp), h2 32 (by simp), h2 33 (by simp), h2 34 (by simp), w 1 j (by decide), w 2 j (by decide), w 3 j (by decide), w 4 j (by decide)]
    exact a5 j hj
  · rw [w 0 0 (by decide), w 0 1 (by decide)] at hd
    have := h3 (d : Int) (by omega) hd
    rw [Int.toNat_natCast] at this
    rw [this]
    unfold vpt
    rw [if_pos rfl]
theorem WM_MA {σ σ1 v : mz_G} {l : List tr3} {f : Int → Int} {D : Int} (h : MA σ v l) (hw : WM σ σ1 f D) (hD : D = v 0 0 * v 0 1) : MA σ1 (vpt v f) l := MA_vpt h (fun i _ => hw.2.2 30 i (by decide)) (fun c hc i => hw.2.2 c i (by omega)) (fun d a b => hw.1 d a (by omega))
/-- the first j places of the reference are the homes -/
def SJ (σ σ1 : mz_G) (j : Int) : Prop := (∀ i : Nat, (i : Int) < j → σ1 33 i = σ 31 i ∧ σ1 34 i = σ 32 i) ∧ ∀ c i, ¬ c = 33 → ¬ c = 34 → σ1 c i = σ c i
theorem SJ_0 {σ : mz_G} : SJ σ σ 0 := ⟨fun i h => by omega, fun _ _ _ _ => rfl⟩
theorem SJ_s {σ σ1 : mz_G} {j : Int} (h : SJ σ σ1 j) (h0 : 0 ≤ j) : SJ σ (mz_up (mz_up σ1 33 j.toNat (σ1 31 j.toNat)) 34 j.toNat (σ1 32 j.toNat)) (j + 1) := by
  obtain ⟨a, d⟩ := h
  refine ⟨fun i hi => ?_, fun c i h1 h2 => ?_⟩
  · by_cases e : i = j.toNat
    · subst e
      rw [up_ne (by decide), up_eq, up_eq, d 31 _ (by decide) (by decide), d 32 _ (by decide) (by decide)]
      exact ⟨rfl, rfl⟩
    · rw [up_ne (by decide), up_ni e, up_ni e, up_ne (by decide)]
      exact a i (by omega)
  · rw [up_ne h2, up_ne h1]
    exact d c i h1 h2
theorem MA_st {σ σ1 v : mz_G} {l : List tr3} (h : MA σ v l) (hS : SJ σ σ1 (v 0 2)) : MA σ1 (vst v) l := by
  obtain ⟨⟨⟨a1, a2, a3⟩, a5, a7⟩, at'⟩ := h
  obtain ⟨s1, s3⟩ := hS
  have w : ∀ c i, ¬ c = 3 → ¬ c = 4 → vst v c i = v c i := fun c i h1 h2 => by unfold vst; rw [if_neg h1, if_neg h2]
  refine ⟨⟨⟨by rw [w 0 0 (by decide) (by decide), s3 30 0 (by decide) (by decide)]; exact a1, by rw [w 0 1 (by decide) (by decide), s3 30 1 (by decide) (by decide)]; exact a2, by rw [w 0 2 (by decide) (by decide), s3 30 2 (by decide) (by decide)]; exact a3⟩, fun j hj => ?_, fun d hd => ?_⟩, MT_ext at' (s3 30 3 (by decide) (by decide)) (fun i => s3 35 i (by decide) (by decide))⟩
  · rw [w 0 2 (by decide) (by decide)] at hj
    have := a5 j hj
    have t := s1 j hj
    rw [t.1, t.2, s3 31 j (by decide) (by decide), s3 32 j (by decide) (by decide), w 1 j (by decide) (by decide), w 2 j (by decide) (by decide)]
    refine ⟨this.1, this.2.1, ?_, ?_⟩
    · simp [vst, this]
    · simp [vst, this]
  · rw [w 0 0 (by decide) (by decide), w 0 1 (by decide) (by decide)] at hd
    rw [w 6 d (by decide) (by decide), s3 36 d (by decide) (by decide)]
    exact a7 d hd
/-- a row of taken values -/
def TV (σ v : mz_G) (l : List tr3) (D : Int) : Prop := ∀ d : Int, 0 ≤ d → d < D → σ 37 d.toNat = v 6 (ne v l d).toNat
theorem up3 {σ : mz_G} {i j k m : Nat} {a b c z : Int} : mz_up (mz_up (mz_up (mz_up σ 35 i a) 35 j b) 35 k c) 30 3 z 35 m = if m = k then c else if m = j then b else if m = i then a else σ 35 m := by
  rw [up_ne (by decide)]
  by_cases q1 : m = k
  · rw [if_pos q1, q1, up_eq]
  · rw [if_neg q1, up_ni q1]
    by_cases q2 : m = j
    · rw [if_pos q2, q2, up_eq]
    · rw [if_neg q2, up_ni q2]
      by_cases q3 : m = i
      · rw [if_pos q3, q3, up_eq]
      · rw [if_neg q3, up_ni q3]
theorem MT_add {σ : mz_G} {l : List tr3} {a b c n : Int} (h : MT σ l) (hn : n = σ 30 3) : MT (mz_up (mz_up (mz_up (mz_up σ 35 (3 * n).toNat a) 35 (3 * n + 1).toNat b) 35 (3 * n + 2).toNat c) 30 3 (n + 1)) (l ++ [(a, b, c)]) := by
  have hl : n = (l.length : Int) := by rw [hn]; exact h.1
  refine ⟨by rw [up_eq, List.length_append]; simp; omega, fun t x hx => ?_⟩
  rw [up3, up3, up3]
  rcases Nat.lt_trichotomy t l.length with q | q | q
  · rw [List.getElem?_append_left q] at hx
    have := h.2 t x hx
    repeat rw [if_neg (by omega)]
    exact this
  · subst q
    rw [List.getElem?_append_right (Nat.le_refl _), Nat.sub_self] at hx
    cases hx
    refine ⟨?_, ?_, ?_⟩
    · rw [if_neg (by omega), if_neg (by omega), if_pos (by omega)]
    · rw [if_neg (by omega), if_pos (by omega)]
    · rw [if_pos (by omega)]
  · rw [List.getElem?_eq_none (by simp; omega)] at hx
    cases hx
theorem Fr_add {σ : mz_G} {a b c z : Int} {i j k : Nat} : Fr σ (mz_up (mz_up (mz_up (mz_up σ 35 i a) 35 j b) 35 k c) 30 3 z) := fun d e h1 h2 => by
  have : mz_up (mz_up (mz_up (mz_up σ 35 i a) 35 j b) 35 k c) 30 3 z d e = mz_up (mz_up (mz_up σ 35 i a) 35 j b) 35 k c d e := by
    unfold mz_up
    rw [if_neg h2]
  rw [this, up_ne h1, up_ne h1, up_ne h1]
