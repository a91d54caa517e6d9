/-! the words for the reference: its cells hold the state -/
def MT (σ : mz_G) (l : List tr3) : Prop := σ 30 3 = (l.length : Int) ∧ ∀ (t : Nat) (x : tr3), l[t]? = some x → σ 35 (3 * t) = x.1 ∧ σ 35 (3 * t + 1) = x.2.1 ∧ σ 35 (3 * t + 2) = x.2.2
def MP (σ v : mz_G) : Prop := (σ 30 0 = v 0 0 ∧ σ 30 1 = v 0 1 ∧ σ 30 2 = v 0 2) ∧ (∀ k : Nat, (k : Int) < v 0 2 → σ 31 k = v 1 k ∧ σ 32 k = v 2 k ∧ σ 33 k = v 3 k ∧ σ 34 k = v 4 k) ∧ ∀ d : Nat, (d : Int) < v 0 0 * v 0 1 → σ 36 d = v 6 d
def MA (σ v : mz_G) (l : List tr3) : Prop := MP σ v ∧ MT σ l
/-- the entry k of a triangle, the share of its knot k -/
def tk (x : tr3) (k : Int) : Int := if k = 0 then x.1 else if k = 1 then x.2.1 else x.2.2
def shk (v : mz_G) (q : Nat) (t : tr3) (k x y : Int) : Int := if k = 0 then sh0 v q t x y else if k = 1 then sh1 v q t x y else sh2 v q t x y
theorem tk_0 {x : tr3} : tk x 0 = x.1 := rfl
theorem tk_1 {x : tr3} : tk x 1 = x.2.1 := rfl
theorem tk_2 {x : tr3} : tk x 2 = x.2.2 := rfl
theorem tk_bd {x : tr3} {k n : Int} (h : (0 ≤ x.1 ∧ x.1 < n) ∧ (0 ≤ x.2.1 ∧ x.2.1 < n) ∧ (0 ≤ x.2.2 ∧ x.2.2 < n)) : 0 ≤ tk x k ∧ tk x k < n := by
  unfold tk
  repeat' split
  all_goals omega
/-- the entries k, k + 1 and k + 2, counted round -/
theorem tk_cs (x : tr3) {k : Int} (h0 : 0 ≤ k) (h1 : k < 3) : (k = 0 ∧ (k + 1).tmod 3 = 1 ∧ (k + 2).tmod 3 = 2 ∧ tk x k = x.1 ∧ tk x ((k + 1).tmod 3) = x.2.1 ∧ tk x ((k + 2).tmod 3) = x.2.2) ∨ (k = 1 ∧ (k + 1).tmod 3 = 2 ∧ (k + 2).tmod 3 = 0 ∧ tk x k = x.2.1 ∧ tk x ((k + 1).tmod 3) = x.2.2 ∧ tk x ((k + 2).tmod 3) = x.1) ∨ (k = 2 ∧ (k + 1).tmod 3 = 0 ∧ (k + 2).tmod 3 = 1 ∧ tk x k = x.2.2 ∧ tk x ((k + 1).tmod 3) = x.1 ∧ tk x ((k + 2).tmod 3) = x.2.1) := by
  rcases (show k = 0 ∨ k = 1 ∨ k = 2 by omega) with rfl | rfl | rfl
  · exact Or.inl ⟨rfl, rfl, rfl, rfl, rfl, rfl⟩
  · exact Or.inr (Or.inl ⟨rfl, rfl, rfl, rfl, rfl, rfl⟩)
  · exact Or.inr (Or.inr ⟨rfl, rfl, rfl, rfl, rfl, rfl⟩)
theorem MT_at {σ : mz_G} {l : List tr3} (h : MT σ l) {t : Int} (h0 : 0 ≤ t) (h1 : t < l.length) : σ 35 (3 * t).toNat = (tg l t).1 ∧ σ 35 (3 * t + 1).toNat = (tg l t).2.1 ∧ σ 35 (3 * t + 2).toNat = (tg l t).2.2 := by
  have := h.2 _ _ (tg_get h0 h1)
  rw [show (3 * t).toNat = 3 * t.toNat by omega, show (3 * t + 1).toNat = 3 * t.toNat + 1 by omega, show (3 * t + 2).toNat = 3 * t.toNat + 2 by omega]
  exact this
theorem MT_k {σ : mz_G} {l : List tr3} (h : MT σ l) {t k : Int} (h0 : 0 ≤ t) (h1 : t < l.length) (k0 : 0 ≤ k) (k1 : k < 3) : σ 35 (3 * t + k).toNat = tk (tg l t) k := by
  have := MT_at h h0 h1
  rcases (show k = 0 ∨ k = 1 ∨ k = 2 by omega) with rfl | rfl | rfl
  · rw [Int.add_zero]; exact this.1
  · exact this.2.1
  · exact this.2.2
theorem MA_pt {σ v : mz_G} {l : List tr3} (h : MA σ v l) {k : Int} (h0 : 0 ≤ k) (h1 : k < v 0 2) : σ 31 k.toNat = gx v 0 k ∧ σ 32 k.toNat = gy v 0 k ∧ σ 33 k.toNat = gx v 1 k ∧ σ 34 k.toNat = gy v 1 k := h.1.2.1 k.toNat (by omega)
theorem MA_val {σ v : mz_G} {l : List tr3} (h : MA σ v l) {d : Int} (h0 : 0 ≤ d) (h1 : d < v 0 0 * v 0 1) : σ 36 d.toNat = v 6 d.toNat := h.1.2.2 d.toNat (by omega)
theorem MP_ext {σ σ' v : mz_G} (h : MP σ v) (h1 : ∀ i, i < 3 → σ' 30 i = σ 30 i) (h2 : ∀ c, c = 31 ∨ c = 32 ∨ c = 33 ∨ c = 34 ∨ c = 36 → ∀ i, σ' c i = σ c i) : MP σ' v := by
  obtain ⟨⟨a1, a2, a3⟩, a5, a7⟩ := h
  refine ⟨⟨by rw [h1 0 (by decide)]; exact a1, by rw [h1 1 (by decide)]; exact a2, by rw [h1 2 (by decide)]; exact a3⟩, fun k hk => ?_, fun d hd => ?_⟩
  · rw [h2 31 (by simp), h2 32 (by simp), h2 33 (by simp), h2 34 (by simp)]
    exact a5 k hk
  · rw [h2 36 (by simp)]
    exact a7 d hd
theorem MT_ext {σ σ' : mz_G} {l : List tr3} (h : MT σ l) (h1 : σ' 30 3 = σ 30 3) (h2 : ∀ i, σ' 35 i = σ 35 i) : MT σ' l := ⟨h1.trans h.1, fun t x hx => by rw [h2, h2, h2]; exact h.2 t x hx⟩
theorem MA_ext {σ σ' v : mz_G} {l : List tr3} (h : MA σ v l) (h1 : ∀ i, i < 4 → σ' 30 i = σ 30 i) (h2 : ∀ c, c = 31 ∨ c = 32 ∨ c = 33 ∨ c = 34 ∨ c = 35 ∨ c = 36 → ∀ i, σ' c i = σ c i) : MA σ' v l := ⟨MP_ext h.1 (fun i hi => h1 i (by omega)) (fun c hc => h2 c (by omega)), MT_ext h.2 (h1 3 (by decide)) (h2 35 (by simp))⟩
/-- nothing of the class has changed; nothing but the point; nothing but the triangles -/
def Fm (σ σ' : mz_G) : Prop := ∀ c i, c < 30 → σ' c i = σ c i
theorem Fm.rf {σ : mz_G} : Fm σ σ := fun _ _ _ => rfl
theorem Fm.tr {σ σ' σ'' : mz_G} (h : Fm σ σ') (h' : Fm σ' σ'') : Fm σ σ'' := fun c i a => (h' c i a).trans (h c i a)
theorem Fm_up {σ : mz_G} {c i : Nat} {z : Int} (h : 30 ≤ c) : Fm σ (mz_up σ c i z) := fun d j a => up_ne (by omega)
def Fp (σ σ' : mz_G) : Prop := ∀ c i, ¬ (c = 30 ∧ 20 ≤ i) → σ' c i = σ c i
theorem Fp.rf {σ : mz_G} : Fp σ σ := fun _ _ _ => rfl
theorem Fp.tr {σ σ' σ'' : mz_G} (h : Fp σ σ') (h' : Fp σ' σ'') : Fp σ σ'' := fun c i a => (h' c i a).trans (h c i a)
theorem Fp_up {σ : mz_G} {i : Nat} {z : Int} (h : 20 ≤ i) : Fp σ (mz_up σ 30 i z) := fun d j a => by unfold mz_up; rw [if_neg (by omega)]
theorem Fm_Fp {σ σ' : mz_G} (h : Fp σ σ') : Fm σ σ' := fun c i a => h c i (by omega)
theorem MA_Fp {σ σ' v : mz_G} {l : List tr3} (h : MA σ v l) (hf : Fp σ σ') : MA σ' v l := MA_ext h (fun i hi => hf 30 i (by omega)) (fun c hc i => hf c i (by omega))
def Fr (σ σ' : mz_G) : Prop := ∀ c i, ¬ c = 35 → ¬ (c = 30 ∧ i = 3) → σ' c i = σ c i
theorem Fr.rf {σ : mz_G} : Fr σ σ := fun _ _ _ _ => rfl
theorem Fr.tr {σ σ' σ'' : mz_G} (h : Fr σ σ') (h' : Fr σ' σ'') : Fr σ σ'' := fun c i a b => (h' c i a b).trans (h c i a b)
theorem Fm_Fr {σ σ' : mz_G} (h : Fr σ σ') : Fm σ σ' := fun c i a => h c i (by omega) (by omega)
theorem MA_Fr {σ σ' v : mz_G} {l l' : List tr3} (h : MA σ v l) (hf : Fr σ σ') (ht : MT σ' l') : MA σ' v l' := ⟨MP_ext h.1 (fun i hi => hf 30 i (by decide) (by omega)) (fun c hc i => hf c i (by omega) (by omega)), ht⟩
/-- some triangle is folded, by places or by homes -/
abbrev fdd (v : mz_G) (l : List tr3) : Prop := ¬ fstI (l.length : Int) (fun t => tar v 1 (tg l t) ≤ 0 ∨ tar v 0 (tg l t) ≤ 0) = -1
/-- why a knot can't be moved, as the reference has it -/
def wyn (v : mz_G) (l : List tr3) (k x y : Int) : Int := if ¬ isk v k ∨ ¬ dot v x y then 1 else if gx v 1 k = x ∧ gy v 1 k = y then 2 else if k < 4 ∨ ¬ keeps v (gx v 0 k) (gy v 0 k) x y then 3 else if fdd (vmv v k x y) l then 4 else 0
theorem wyn_bd {v : mz_G} {l : List tr3} {k x y : Int} : 0 ≤ wyn v l k x y ∧ wyn v l k x y ≤ 4 := by
  unfold wyn
  repeat' split
  all_goals decide
theorem MA_mv {σ σ' v : mz_G} {l : List tr3} {k x y : Int} (h : MA σ v l) (e1 : ∀ j : Nat, σ' 33 j = if (j : Int) = k then x else σ 33 j) (e2 : ∀ j : Nat, σ' 34 j = if (j : Int) = k then y else σ 34 j) (e3 : ∀ c i, ¬ c = 33 → ¬ c = 34 → σ' c i = σ c i) : MA σ' (vmv v k x y) l := by
  obtain ⟨⟨⟨a1, a2, a3⟩, a5, a7⟩, at'⟩ := h
  have w : ∀ c i, ¬ c = 3 → ¬ c = 4 → vmv v k x y c i = v c i := fun c i h1 h2 => by unfold vmv; rw [if_neg (fun q => h1 q.1), if_neg (fun q => h2 q.1)]
  refine ⟨⟨⟨by rw [w 0 0 (by decide) (by decide), e3 30 0 (by decide) (by decide)]; exact a1, by rw [w 0 1 (by decide) (by decide), e3 30 1 (by decide) (by decide)]; exact a2, by rw [w 0 2 (by decide) (by decide), e3 30 2 (by decide) (by decide)]; exact a3⟩, fun j hj => ?_, fun d hd => ?_⟩, MT_ext at' (e3 30 3 (by decide) (by decide)) (fun i => e3 35 i (by decide) (by decide))⟩
  · rw [w 0 2 (by decide) (by decide)] at hj
    have := a5 j hj
    rw [e1, e2, e3 31 j (by decide) (by decide), e3 32 j (by decide) (by decide), w 1 j (by decide) (by decide), w 2 j (by decide) (by decide)]
    refine ⟨this.1, this.2.1, ?_, ?_⟩
    · by_cases q : (j : Int) = k
      · simp [vmv, q]
      · simp [vmv, q, this]
    · by_cases q : (j : Int) = k
      · simp [vmv, q]
      · simp [vmv, q, this]
  · rw [w 0 0 (by decide) (by decide), w 0 1 (by decide) (by decide)] at hd
    rw [w 6 d (by decide) (by decide), e3 36 d (by decide) (by decide)]
    exact a7 d hd
theorem Rg_mv {v : mz_G} {k x y : Int} (h : Rg v) (hd : dot v x y) : Rg (vmv v k x y) := by
  have w : ∀ c i, ¬ c = 3 → ¬ c = 4 → vmv v k x y c i = v c i := fun c i h1 h2 => by unfold vmv; rw [if_neg (fun q => h1 q.1), if_neg (fun q => h2 q.1)]
  unfold Rg
  rw [w 0 0 (by decide) (by decide), w 0 1 (by decide) (by decide), w 0 2 (by decide) (by decide)]
  refine ⟨h.1, h.2.1, h.2.2.1, fun j hj => ?_⟩
  have := h.2.2.2 j hj
  rw [w 1 j (by decide) (by decide), w 2 j (by decide) (by decide)]
  obtain ⟨d1, d2, d3, d4⟩ := hd
  refine ⟨this.1, this.2.1, ?_, ?_⟩
  · unfold vmv
    by_cases q : (j : Int) = k
    · simp [q]; omega
    · simp [q]; omega
  · unfold vmv
    by_cases q : (j : Int) = k
    · simp [q]; omega
    · simp [q]; omega
theorem Bs_mv {v : mz_G} {l : List tr3} {k x y : Int} (h : Bs v l) (hd : dot v x y) : Bs (vmv v k x y) l := ⟨Rg_mv h.1 hd, h.2.1, h.2.2⟩
/-- the third knot, by a difference -/
def thd (x : tr3) (a b : Int) : Int := x.1 + x.2.1 + x.2.2 - a - b
theorem thd_opp {x : tr3} {a b : Int} (h : edg x a b) : thd x a b = opp x a b := by
  unfold thd opp
  unfold edg at h
  split
  · omega
  · split
    · omega
    · omega
theorem sid_apx {v : mz_G} {l : List tr3} {a b : Int} (hT : Rt (v 0 2) l) : (sid l a b = -1 ↔ apx l a b = -1) ∧ (¬ sid l a b = -1 → thd (tg l (sid l a b)) a b = apx l a b ∧ 0 ≤ sid l a b ∧ sid l a b < (l.length : Int) ∧ edg (tg l (sid l a b)) a b) := by
  rcases fstI_spec (l.length : Int) (fun i => edg (tg l i) a b) with ⟨h1, -⟩ | ⟨h1, h2, h3, -⟩
  · have e : sid l a b = -1 := h1
    refine ⟨⟨fun _ => by unfold apx; rw [if_pos e], fun _ => e⟩, fun q => absurd e q⟩
  · have e : ¬ sid l a b = -1 := by unfold sid; omega
    have ha : apx l a b = opp (tg l (sid l a b)) a b := by unfold apx; rw [if_neg e]
    have ht := Rt_at hT h1 h2
    have ho : 0 ≤ opp (tg l (sid l a b)) a b := by
      unfold opp sid
      repeat' split
      all_goals omega
    refine ⟨⟨fun q => absurd q e, fun q => by omega⟩, fun _ => ⟨by rw [ha]; exact thd_opp h3, h1, h2, h3⟩⟩
/-- division by what is common, and the nearest whole number -/
theorem shq_div {n d : Int} (h : 0 < d) : shq n d = n.tdiv d := by
  unfold shq
  split
  · rfl
  · rw [show d = 1 by omega, Int.tdiv_one]
theorem gcd_3 {a b c : Int} : (Int.gcd a (Int.gcd b c : Int) : Int) = (Int.gcd (Int.gcd a b : Int) c : Int) := by
  unfold Int.gcd
  rw [Int.natAbs_natCast, Int.natAbs_natCast, Nat.gcd_assoc]
theorem gcd_pos {a b : Int} (h : 0 < b) : 0 < (Int.gcd a b : Int) := by
  have : 0 < Int.gcd a b := by
    unfold Int.gcd
    exact Nat.gcd_pos_of_pos_right _ (by omega)
  omega
theorem rnd_div {a b : Int} (ha : 0 ≤ a) (hb : 0 < b) : (2 * a + b - 1).tdiv (2 * b) = rnd a b := by
  have t := tmod_nn ha hb
  have e := Int.tmod_add_mul_tdiv a b
  rw [Int.tdiv_eq_ediv_of_nonneg (by omega)]
  unfold rnd
  rw [if_neg (by omega)]
  generalize a.tmod b = r at *
  generalize a.tdiv b = q at *
  have hx : 2 * a = 2 * b * q + 2 * r := by rw [← e, Int.mul_add, Int.mul_assoc]; omega
  split
  next h =>
    rw [show 2 * a + b - 1 = (2 * r - b - 1) + 2 * b * (q + 1) by rw [Int.mul_add, hx]; omega, Int.add_mul_ediv_left _ _ (by omega), Int.ediv_eq_zero_of_lt (by omega) (by omega)]
    omega
  next h =>
    rw [show 2 * a + b - 1 = (2 * r + b - 1) + 2 * b * q by rw [hx]; omega, Int.add_mul_ediv_left _ _ (by omega), Int.ediv_eq_zero_of_lt (by omega) (by omega)]
    omega
theorem ar_cyc {a b c d e f : Int} : ar a b c d e f = ar e f a b c d := by
  unfold ar
  simp only [Int.sub_mul, Int.mul_sub, Int.mul_comm]
  omega
/-- a number's dot, in the reference's words -/
theorem tdm {v : mz_G} {d : Int} (hR : Rg v) (h0 : 0 ≤ d) : d.tmod (v 0 0) = d % v 0 0 ∧ d.tdiv (v 0 0) = d / v 0 0 := by
  exact ⟨Int.tmod_eq_emod_of_nonneg h0, Int.tdiv_eq_ediv_of_nonneg h0⟩
