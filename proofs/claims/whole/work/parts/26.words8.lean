/-! the words for the public methods' answers -/
theorem bmod16 (a : Int) : (a.bmod 4294967296) % 16 = a % 16 := by
  have h1 : (a.bmod 4294967296) % ((4294967296 : Nat) : Int) = a % ((4294967296 : Nat) : Int) := Int.bmod_emod
  have h2 := Int.emod_emod_of_dvd (a.bmod 4294967296) (show (16 : Int) ∣ ((4294967296 : Nat) : Int) from ⟨268435456, by decide⟩)
  have h3 := Int.emod_emod_of_dvd a (show (16 : Int) ∣ ((4294967296 : Nat) : Int) from ⟨268435456, by decide⟩)
  rw [← h2, h1, h3]
theorem xor16b (a : Int) : 0 ≤ (mz_I a ^^^ mz_I 16).toInt ↔ 0 ≤ a.bmod 4294967296 := by
  rw [← mz_I_bmod a]
  exact xor16 (mz_R_bmod a)
theorem tmod16 {a : Int} : (0 ≤ a → a.tmod 16 = a % 16) ∧ (a < 0 → (a.tmod 16 = 0 → a % 16 = 0) ∧ (¬ a.tmod 16 = 0 → a.tmod 16 + 16 = a % 16)) := by
  refine ⟨fun h => Int.tmod_eq_emod_of_nonneg h, fun h => ?_⟩
  have e : a.tmod 16 = -((-a).tmod 16) := by rw [Int.neg_tmod, Int.neg_neg]
  rw [e, Int.tmod_eq_emod_of_nonneg (by omega)]
  constructor <;> intro q <;> omega
/-- nothing of the reference has changed -/
def Fk (σ σ' : mz_G) : Prop := ∀ c i, 30 ≤ c → σ' c i = σ c i
theorem Fk.rf {σ : mz_G} : Fk σ σ := fun _ _ _ => rfl
theorem Fk.tr {σ σ' σ'' : mz_G} (h : Fk σ σ') (h' : Fk σ' σ'') : Fk σ σ'' := fun c i a => (h' c i a).trans (h c i a)
theorem Fk_Fh {σ σ' : mz_G} (h : Fh σ σ') : Fk σ σ' := fun c i a => h c i (by omega) (by omega) (by omega) (by omega) (by omega)
theorem Fk_Fs {σ σ' : mz_G} (h : Fs σ σ') : Fk σ σ' := fun c i a => h c i (by omega)
theorem Fk_Fl {σ σ' : mz_G} (h : Fl σ σ') : Fk σ σ' := fun c i a => h c i (by omega) (by omega) (by omega)
theorem Fk_Fn {σ σ' : mz_G} (h : Fn σ σ') : Fk σ σ' := fun c i a => h c i (by omega)
theorem Fk_Ft {σ σ' : mz_G} (h : Ft σ σ') : Fk σ σ' := fun c i a => h c i (by omega) (by omega)
theorem Fk_Fw {σ σ' : mz_G} (h : Fw σ σ') : Fk σ σ' := fun c i a => h c i (by omega) (by omega)
theorem Fk_up {σ : mz_G} {c i : Nat} {z : Int} (h : c < 30) : Fk σ (mz_up σ c i z) := fun d j a => up_ne (by omega)
theorem CS_CC {σ v : mz_G} {l : List tr3} (h : CA σ v l) (hc : CC σ v l) : CS σ v l := ⟨h, Or.inr hc⟩
/-- cells that the state and the chart don't look at may change -/
theorem CS_ext {σ σ' v : mz_G} {l : List tr3} (h : CS σ v l) (hf : ∀ c i, ¬ (c = 3 ∨ c = 6 ∨ c = 7 ∨ c = 12 ∨ c = 13 ∨ c = 20 ∨ c = 21 ∨ 30 ≤ c) → ¬ (c = 1 ∧ i = 6) → σ' c i = σ c i) : CS σ' v l := by
  refine ⟨CA_ext h.1 (fun i hi => hf 1 i (by omega) (by omega)) (hf 11 1 (by omega) (by omega)) (fun c hc i => hf c i (by omega) (by omega)), ?_⟩
  rcases h.2 with q | q
  · exact Or.inl (by rw [hf 0 7 (by omega) (by omega)]; exact q)
  · exact Or.inr (CC_ext q (hf 0 7 (by omega) (by omega)) (fun c hc i => hf c i (by omega) (by omega)))
theorem CS_Fl {σ σ' v : mz_G} {l : List tr3} (h : CS σ v l) (hf : Fl σ σ') : CS σ' v l := CS_ext h (fun c i a b => hf c i (by omega) (by omega) b)
theorem CS_Fw {σ σ' v : mz_G} {l : List tr3} (h : CS σ v l) (hf : Fw σ σ') : CS σ' v l := CS_ext h (fun c i a b => hf c i (by omega) (by omega))
theorem CS_Fs {σ σ' v : mz_G} {l : List tr3} (h : CS σ v l) (hf : Fs σ σ') : CS σ' v l := CS_ext h (fun c i a b => hf c i (by omega))
/-- nothing but the counts of uses -/
def Fu (σ σ' : mz_G) : Prop := ∀ c i, ¬ c = 6 → σ' c i = σ c i
theorem CC_Fu {σ σ' v : mz_G} {l : List tr3} (h : CC σ v l) (hf : Fu σ σ') : CC σ' v l := CC_ext h (hf 0 7 (by decide)) (fun c hc i => hf c i (by omega))
theorem CA_Fu {σ σ' v : mz_G} {l : List tr3} (h : CA σ v l) (hf : Fu σ σ') : CA σ' v l := CA_ext h (fun i hi => hf 1 i (by decide)) (hf 11 1 (by decide)) (fun c hc i => hf c i (by omega))
theorem Fk_Fu {σ σ' : mz_G} (h : Fu σ σ') : Fk σ σ' := fun c i a => h c i (by omega)
theorem vz_bd {v : mz_G} {x y : Int} (hR : Rg v) (hV : Vr v) : 0 ≤ vz v x y ∧ vz v x y ≤ 15 := by
  unfold vz
  split
  next h =>
    have := dn_in hR h
    exact hV _ this.1 this.2.1
  next => decide
theorem blA_bd {v : mz_G} {x y b : Int} (hR : Rg v) (hV : Vr v) (hx : 0 ≤ x) (hy : 0 ≤ y) (hb : 0 < b ∧ b ≤ 722) : 0 ≤ blA v x y b ∧ blA v x y b ≤ 15 * (b * b) := by
  have tx := tmod_nn hx hb.1
  have ty := tmod_nn hy hb.1
  have v1 := vz_bd (x := x.tdiv b) (y := y.tdiv b) hR hV
  have v2 := vz_bd (x := x.tdiv b + 1) (y := y.tdiv b) hR hV
  have v3 := vz_bd (x := x.tdiv b) (y := y.tdiv b + 1) hR hV
  have v4 := vz_bd (x := x.tdiv b + 1) (y := y.tdiv b + 1) hR hV
  have key : ∀ s p q : Int, 0 ≤ s → s ≤ b → 0 ≤ p → p ≤ 15 → 0 ≤ q → q ≤ 15 → 0 ≤ (b - s) * p + s * q ∧ (b - s) * p + s * q ≤ 15 * b := by
    intro s p q h1 h2 h3 h4 h5 h6
    have e1 : 0 ≤ (b - s) * p := Int.mul_nonneg (by omega) h3
    have e2 : 0 ≤ s * q := Int.mul_nonneg h1 h5
    have e3 : (b - s) * p ≤ (b - s) * 15 := Int.mul_le_mul_of_nonneg_left h4 (by omega)
    have e4 : s * q ≤ s * 15 := Int.mul_le_mul_of_nonneg_left h6 h1
    omega
  have k1 := key (x.tmod b) _ _ tx.1 (by omega) v1.1 v1.2 v2.1 v2.2
  have k2 := key (x.tmod b) _ _ tx.1 (by omega) v3.1 v3.2 v4.1 v4.2
  unfold blA
  have e1 : 0 ≤ (b - y.tmod b) * ((b - x.tmod b) * vz v (x.tdiv b) (y.tdiv b) + x.tmod b * vz v (x.tdiv b + 1) (y.tdiv b)) := Int.mul_nonneg (by omega) k1.1
  have e2 : 0 ≤ y.tmod b * ((b - x.tmod b) * vz v (x.tdiv b) (y.tdiv b + 1) + x.tmod b * vz v (x.tdiv b + 1) (y.tdiv b + 1)) := Int.mul_nonneg ty.1 k2.1
  have e3 : (b - y.tmod b) * ((b - x.tmod b) * vz v (x.tdiv b) (y.tdiv b) + x.tmod b * vz v (x.tdiv b + 1) (y.tdiv b)) ≤ (b - y.tmod b) * (15 * b) := Int.mul_le_mul_of_nonneg_left k1.2 (by omega)
  have e4 : y.tmod b * ((b - x.tmod b) * vz v (x.tdiv b) (y.tdiv b + 1) + x.tmod b * vz v (x.tdiv b + 1) (y.tdiv b + 1)) ≤ y.tmod b * (15 * b) := Int.mul_le_mul_of_nonneg_left k2.2 ty.1
  have e5 : (b - y.tmod b) * (15 * b) + y.tmod b * (15 * b) = 15 * (b * b) := by
    rw [← Int.add_mul, show b - y.tmod b + y.tmod b = b by omega, ← Int.mul_assoc, Int.mul_comm b 15, Int.mul_assoc]
  omega
/-- the state with a value changed -/
def vpt (v : mz_G) (f : Int → Int) : mz_G := fun c i => if c = 6 then f (i : Int) else v c i
theorem vpt_0 {v : mz_G} {f : Int → Int} {c i : Nat} (h : ¬ c = 6) : vpt v f c i = v c i := by unfold vpt; rw [if_neg h]
theorem vpt_6 {v : mz_G} {f : Int → Int} {d : Int} (h : 0 ≤ d) : vpt v f 6 d.toNat = f d := by
  unfold vpt
  rw [if_pos rfl, Int.toNat_of_nonneg h]
theorem vpt_g {v : mz_G} {f : Int → Int} {q : Nat} (hq : q < 2) : (∀ k, gx (vpt v f) q k = gx v q k) ∧ ∀ k, gy (vpt v f) q k = gy v q k := by
  unfold gx gy
  constructor <;> intro k <;> rw [vpt_0 (by omega)]
theorem CA_vpt {σ σ' v : mz_G} {l : List tr3} {f : Int → Int} (h : CA σ v l) (h1 : ∀ i, i = 7 ∨ i = 8 ∨ i = 9 → σ' 1 i = σ 1 i) (h2 : σ' 11 1 = σ 11 1) (h3 : ∀ c, c = 16 ∨ c = 17 ∨ c = 18 ∨ c = 19 ∨ c = 22 → ∀ i, σ' c i = σ c i) (h4 : ∀ d : Int, 0 ≤ d → d < v 0 0 * v 0 1 → σ' 4 d.toNat = f d) : CA σ' (vpt v f) l := by
  obtain ⟨⟨a1, a2, a3, a4⟩, a5, a6, a7⟩ := h
  refine ⟨⟨by rw [h1 8 (by simp), vpt_0 (by decide)]; exact a1, by rw [h1 9 (by simp), vpt_0 (by decide)]; exact a2, by rw [h1 7 (by simp), vpt_0 (by decide)]; exact a3, by rw [h2]; exact a4⟩, fun k hk => ?_, fun t x hx => ?_, fun d hd => ?_⟩
  · rw [vpt_0 (by decide)] at hk
    rw [h3 16 (by simp), h3 17 (by simp), h3 18 (by simp), h3 19 (by simp), vpt_0 (by decide), vpt_0 (by decide), vpt_0 (by decide), vpt_0 (by decide)]
    exact a5 k hk
  · rw [h3 22 (by simp)]
    exact a6 t x hx
  · rw [vpt_0 (by decide), vpt_0 (by decide)] at hd
    have := h4 (d : Int) (by omega) hd
    rw [Int.toNat_natCast] at this
    rw [this]
    unfold vpt
    rw [if_pos rfl]
/-- what hangs on the net alone doesn't change with the values -/
theorem sh_vpt {v : mz_G} {f : Int → Int} {q : Nat} (hq : q < 2) {t : tr3} {x y : Int} : sh0 (vpt v f) q t x y = sh0 v q t x y ∧ sh1 (vpt v f) q t x y = sh1 v q t x y ∧ sh2 (vpt v f) q t x y = sh2 v q t x y ∧ tar (vpt v f) q t = tar v q t := by
  obtain ⟨a, b⟩ := vpt_g (v := v) (f := f) hq
  unfold sh0 sh1 sh2 tar
  simp only [a, b]
  exact ⟨trivial, trivial, trivial, trivial⟩
theorem lie_vpt {v : mz_G} {l : List tr3} {f : Int → Int} {q : Nat} (hq : q < 2) {x y : Int} : lie (vpt v f) l q x y = lie v l q x y := by
  unfold lie
  refine fstI_cg (fun i _ _ => ?_)
  obtain ⟨a, b, c, -⟩ := sh_vpt (v := v) (f := f) hq (t := tg l i) (x := x) (y := y)
  unfold hol
  rw [a, b, c]
theorem fxy_vpt {v : mz_G} {l : List tr3} {f : Int → Int} {q : Nat} (hq : q < 2) {x y : Int} : fX (vpt v f) l q x y = fX v l q x y ∧ fY (vpt v f) l q x y = fY v l q x y ∧ fB (vpt v f) l q x y = fB v l q x y := by
  obtain ⟨g1, g2⟩ := vpt_g (v := v) (f := f) (q := 1 - q) (by omega)
  have hn : ∀ t : tr3, nX (vpt v f) q t x y = nX v q t x y ∧ nY (vpt v f) q t x y = nY v q t x y := by
    intro t
    obtain ⟨a, b, c, -⟩ := sh_vpt (v := v) (f := f) hq (t := t) (x := x) (y := y)
    unfold nX nY
    rw [a, b, c]
    simp only [g1, g2]
    exact ⟨trivial, trivial⟩
  have hg : ∀ t : tr3, fG (vpt v f) q t x y = fG v q t x y := by
    intro t
    unfold fG
    rw [(hn t).1, (hn t).2, (sh_vpt (v := v) (f := f) hq (t := t) (x := x) (y := y)).2.2.2]
  unfold fX fY fB
  rw [lie_vpt hq]
  simp only [hn, hg, (sh_vpt (v := v) (f := f) hq (x := x) (y := y)).2.2.2]
  exact ⟨trivial, trivial, trivial⟩
theorem ne_vpt {v : mz_G} {l : List tr3} {f : Int → Int} {d : Int} : ne (vpt v f) l d = ne v l d := by
  unfold ne nea
  obtain ⟨a, b, c⟩ := fxy_vpt (v := v) (l := l) (f := f) (q := 1) (by decide) (x := d % v 0 0) (y := d / v 0 0)
  rw [vpt_0 (by decide), a, b, c]
theorem CC_vpt {σ v : mz_G} {l : List tr3} {f : Int → Int} (h : CC σ v l) : CC σ (vpt v f) l := by
  obtain ⟨a, b, c⟩ := h
  refine ⟨a, fun x y hxy => ?_, fun d h0 h1 => ?_⟩
  · have hd : dot v x y := by
      unfold dot at hxy ⊢
      rw [vpt_0 (by decide), vpt_0 (by decide)] at hxy
      exact hxy
    have := b x y hd
    rw [vpt_0 (by decide), this.1, this.2]
    have key : ∀ i, hol (vpt v f) 1 (tg l i) x y ↔ hol v 1 (tg l i) x y := by
      intro i
      obtain ⟨p1, p2, p3, -⟩ := sh_vpt (v := v) (f := f) (q := 1) (by decide) (t := tg l i) (x := x) (y := y)
      unfold hol
      rw [p1, p2, p3]
    constructor
    · exact (fstI_cg (fun i _ _ => key i)).symm
    · refine (sumI_cg (fun i _ _ => ?_)).symm
      by_cases q : hol v 1 (tg l i) x y
      · rw [b01_t q, b01_t ((key i).mpr q)]
      · rw [b01_f q, b01_f (fun z => q ((key i).mp z))]
  · rw [vpt_0 (by decide), vpt_0 (by decide)] at h1
    rw [c d h0 h1, ne_vpt]
