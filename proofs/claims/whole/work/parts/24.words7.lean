/-! the words for the charted picture -/
/-- the nearest dot, of a dot and of a number -/
def nea (v : mz_G) (l : List tr3) (x y : Int) : Int := rnd (fY v l 1 x y) (fB v l 1 x y) * v 0 0 + rnd (fX v l 1 x y) (fB v l 1 x y)
def ne (v : mz_G) (l : List tr3) (d : Int) : Int := nea v l (d % v 0 0) (d / v 0 0)
/-- values are 0 to 15 -/
def Vr (v : mz_G) : Prop := ∀ d : Int, 0 ≤ d → d < v 0 0 * v 0 1 → 0 ≤ v 6 d.toNat ∧ v 6 d.toNat ≤ 15
/-- what the methods may take for granted of a state -/
def GO (v : mz_G) (l : List tr3) : Prop := Bs v l ∧ Sd l ∧ (Pos v l 0 ∧ Pos v l 1) ∧ (Cov v l 0 ∧ Cov v l 1) ∧ Vr v ∧ v 0 2 ≤ 30 ∧ 2 ≤ (l.length : Int)
def NR (σ v : mz_G) (l : List tr3) (D : Int) : Prop := ∀ d : Int, 0 ≤ d → d < D → σ 5 d.toNat = ne v l d
def CC (σ v : mz_G) (l : List tr3) : Prop := σ 0 7 = 1 ∧ LI σ v l (l.length : Int) ∧ NR σ v l (v 0 0 * v 0 1)
def CS (σ v : mz_G) (l : List tr3) : Prop := CA σ v l ∧ (σ 0 7 = 0 ∨ CC σ v l)
/-- nothing but the chart has changed -/
def Fh (σ σ' : mz_G) : Prop := ∀ c i, ¬ c = 3 → ¬ c = 5 → ¬ c = 14 → ¬ c = 15 → ¬ (c = 0 ∧ i = 7) → σ' c i = σ c i
theorem Fh.rf {σ : mz_G} : Fh σ σ := fun _ _ _ _ _ _ _ => rfl
theorem Fh.tr {σ σ' σ'' : mz_G} (h : Fh σ σ') (h' : Fh σ' σ'') : Fh σ σ'' := fun c i a b d e f => (h' c i a b d e f).trans (h c i a b d e f)
theorem Fh_Fs {σ σ' : mz_G} (h : Fs σ σ') : Fh σ σ' := fun c i a _ _ _ _ => h c i a
theorem Fh_Fc {σ σ' : mz_G} (h : Fc σ σ') : Fh σ σ' := fun c i _ _ a b _ => h c i a b
theorem CA_Fh {σ σ' v : mz_G} {l : List tr3} (h : CA σ v l) (hf : Fh σ σ') : CA σ' v l := CA_ext h (fun i hi => hf 1 i (by decide) (by decide) (by decide) (by decide) (by omega)) (hf 11 1 (by decide) (by decide) (by decide) (by decide) (by omega)) (fun c hc i => hf c i (by omega) (by omega) (by omega) (by omega) (by omega))
theorem LI_ext {σ σ' v : mz_G} {l : List tr3} {t : Int} (h : LI σ v l t) (h1 : ∀ i, σ' 14 i = σ 14 i) (h2 : ∀ i, σ' 15 i = σ 15 i) : LI σ' v l t := fun a b hab => by rw [h1, h2]; exact h a b hab
theorem NR_ext {σ σ' v : mz_G} {l : List tr3} {t : Int} (h : NR σ v l t) (h1 : ∀ i, σ' 5 i = σ 5 i) : NR σ' v l t := fun d a b => by rw [h1]; exact h d a b
theorem CC_ext {σ σ' v : mz_G} {l : List tr3} (h : CC σ v l) (h0 : σ' 0 7 = σ 0 7) (h1 : ∀ c, c = 5 ∨ c = 14 ∨ c = 15 → ∀ i, σ' c i = σ c i) : CC σ' v l := ⟨h0.trans h.1, LI_ext h.2.1 (h1 14 (by simp)) (h1 15 (by simp)), NR_ext h.2.2 (h1 5 (by simp))⟩
/-- the spot holds a dot's shares -/
def MS (σ v : mz_G) (l : List tr3) (q : Nat) (t x y : Int) : Prop := σ 3 0 = t ∧ σ 3 1 = sh0 v q (tg l t) x y ∧ σ 3 2 = sh1 v q (tg l t) x y ∧ σ 3 3 = sh2 v q (tg l t) x y ∧ σ 3 4 = tar v q (tg l t)
def MX (σ v : mz_G) (l : List tr3) (q : Nat) (t x y : Int) : Prop := σ 3 5 = shq (nX v q (tg l t) x y) (fG v q (tg l t) x y) ∧ σ 3 6 = shq (nY v q (tg l t) x y) (fG v q (tg l t) x y) ∧ σ 3 7 = shq (tar v q (tg l t)) (fG v q (tg l t) x y)
/-- a number and its dot -/
theorem dmv {v : mz_G} {d : Int} (hR : Rg v) (h0 : 0 ≤ d) (h1 : d < v 0 0 * v 0 1) : dot v (d % v 0 0) (d / v 0 0) ∧ d / v 0 0 * v 0 0 + d % v 0 0 = d := by
  have hW := hR.1
  have e1 := Int.emod_nonneg d (show v 0 0 ≠ 0 by omega)
  have e2 := Int.emod_lt_of_pos d (show 0 < v 0 0 by omega)
  have e3 := Int.ediv_nonneg h0 (show 0 ≤ v 0 0 by omega)
  have e4 := Int.mul_ediv_add_emod d (v 0 0)
  have e5 : v 0 0 * (d / v 0 0) = d / v 0 0 * v 0 0 := Int.mul_comm _ _
  refine ⟨⟨e1, e2, e3, ?_⟩, by omega⟩
  apply Int.not_le.mp
  intro q
  have : v 0 0 * v 0 1 ≤ v 0 0 * (d / v 0 0) := Int.mul_le_mul_of_nonneg_left q (by omega)
  omega
theorem dvm {v : mz_G} {x y : Int} (hR : Rg v) (h : dot v x y) : (y * v 0 0 + x) % v 0 0 = x ∧ (y * v 0 0 + x) / v 0 0 = y := by
  obtain ⟨h1, h2, h3, h4⟩ := h
  have hW := hR.1
  constructor
  · rw [Int.add_comm, Int.add_mul_emod_self_right, Int.emod_eq_of_lt h1 h2]
  · rw [Int.add_comm, Int.add_mul_ediv_right _ _ (show v 0 0 ≠ 0 by omega), Int.ediv_eq_zero_of_lt h1 h2]
    omega
theorem ne_dot {v : mz_G} {l : List tr3} {x y : Int} (hR : Rg v) (h : dot v x y) : ne v l (y * v 0 0 + x) = nea v l x y := by
  unfold ne
  rw [(dvm hR h).1, (dvm hR h).2]
theorem shq_pos {n d : Int} (hn : 0 < n) (hd : d ∣ n) (h0 : 0 ≤ d) : 0 < shq n d := by
  unfold shq
  split
  next h =>
    obtain ⟨k, rfl⟩ := hd
    rw [Int.mul_tdiv_cancel_left _ (by omega)]
    apply Int.not_le.mp
    intro q
    have : d * k ≤ d * 0 := Int.mul_le_mul_of_nonneg_left q h0
    omega
  next => exact hn
theorem shq_le {a b d m : Int} (ha : 0 ≤ a) (hb : 0 ≤ b) (hd : 0 ≤ d) (hda : d ∣ a) (hdb : d ∣ b) (h : a ≤ m * b) : shq a d ≤ m * shq b d := by
  unfold shq
  split
  next h1 =>
    obtain ⟨x, rfl⟩ := hda
    obtain ⟨y, rfl⟩ := hdb
    rw [Int.mul_tdiv_cancel_left _ (by omega), Int.mul_tdiv_cancel_left _ (by omega)]
    apply Int.not_lt.mp
    intro q
    have e : d * (m * y + 1) ≤ d * x := Int.mul_le_mul_of_nonneg_left (by omega) hd
    rw [Int.mul_add, ← Int.mul_assoc, Int.mul_comm d m, Int.mul_assoc] at e
    omega
  next => exact h
theorem rnd_bd {a b m : Int} (ha : 0 ≤ a) (hb : 0 < b) (h : a ≤ m * b) : 0 ≤ rnd a b ∧ rnd a b ≤ m := by
  have t := tmod_nn ha hb
  have e := Int.tmod_add_mul_tdiv a b
  have n : 0 ≤ a.tdiv b := Int.tdiv_nonneg ha (by omega)
  have key : a.tdiv b ≤ m := by
    apply Int.not_lt.mp
    intro q
    have : b * (m + 1) ≤ b * a.tdiv b := Int.mul_le_mul_of_nonneg_left (by omega) (by omega)
    rw [Int.mul_add, Int.mul_comm b m] at this
    omega
  unfold rnd
  rw [if_neg (by omega)]
  split
  next h1 =>
    have : a.tdiv b < m := by
      rcases Int.lt_or_eq_of_le key with q | q
      · exact q
      · rw [q, Int.mul_comm b m] at e
        omega
    omega
  next => omega
theorem fG_dvd {v : mz_G} {q : Nat} {t : tr3} {x y : Int} : fG v q t x y ∣ nX v q t x y ∧ fG v q t x y ∣ nY v q t x y ∧ fG v q t x y ∣ tar v q t ∧ 0 ≤ fG v q t x y := by
  unfold fG
  have h1 := Int.gcd_dvd_left (a := (Int.gcd (nX v q t x y) (nY v q t x y) : Int)) (b := tar v q t)
  have h2 := Int.gcd_dvd_right (a := (Int.gcd (nX v q t x y) (nY v q t x y) : Int)) (b := tar v q t)
  refine ⟨Int.dvd_trans h1 (Int.gcd_dvd_left _ _), Int.dvd_trans h1 (Int.gcd_dvd_right _ _), h2, by omega⟩
theorem mix_le {a b c s0 s1 s2 A m : Int} (h0 : 0 ≤ s0) (h1 : 0 ≤ s1) (h2 : 0 ≤ s2) (hA : s0 + s1 + s2 = A) (ha : a ≤ m) (hb : b ≤ m) (hc : c ≤ m) : s0 * a + s1 * b + s2 * c ≤ m * A := by
  have e1 : s0 * a ≤ s0 * m := Int.mul_le_mul_of_nonneg_left ha h0
  have e2 : s1 * b ≤ s1 * m := Int.mul_le_mul_of_nonneg_left hb h1
  have e3 : s2 * c ≤ s2 * m := Int.mul_le_mul_of_nonneg_left hc h2
  have e4 : m * A = s0 * m + s1 * m + s2 * m := by rw [← hA, Int.mul_comm, Int.add_mul, Int.add_mul]
  omega
/-- where a dot comes from: in the picture; its numbers -/
theorem f_bd {v : mz_G} {l : List tr3} {q : Nat} {x y : Int} (hB : Bs v l) (hq : q < 2) (hP : Pos v l q) (hC : Cov v l q) (hd : dot v x y) : (0 ≤ fX v l q x y ∧ fX v l q x y ≤ 13718) ∧ (0 ≤ fY v l q x y ∧ fY v l q x y ≤ 13718) ∧ (0 < fB v l q x y ∧ fB v l q x y ≤ 722) ∧ fX v l q x y ≤ (v 0 0 - 1) * fB v l q x y ∧ fY v l q x y ≤ (v 0 1 - 1) * fB v l q x y := by
  obtain ⟨hR, hT, -⟩ := hB
  obtain ⟨l0, l1, lh⟩ := lie_at hC hd
  have ht := Rt_at hT l0 l1
  have hp := hP _ (tg_mem l0 l1)
  have nb := nX_bd hR hq ht hd lh
  have gd := fG_dvd (v := v) (q := q) (t := tg l (lie v l q x y)) (x := x) (y := y)
  have hs := sh_sum (v := v) (q := q) (t := tg l (lie v l q x y)) (x := x) (y := y)
  have r1 := Rg_q hR (q := 1 - q) (by omega) ht.1.1 ht.1.2
  have r2 := Rg_q hR (q := 1 - q) (by omega) ht.2.1.1 ht.2.1.2
  have r3 := Rg_q hR (q := 1 - q) (by omega) ht.2.2.1 ht.2.2.2
  have mX : nX v q (tg l (lie v l q x y)) x y ≤ (v 0 0 - 1) * tar v q (tg l (lie v l q x y)) := mix_le lh.1 lh.2.1 lh.2.2 hs (by omega) (by omega) (by omega)
  have mY : nY v q (tg l (lie v l q x y)) x y ≤ (v 0 1 - 1) * tar v q (tg l (lie v l q x y)) := mix_le lh.1 lh.2.1 lh.2.2 hs (by omega) (by omega) (by omega)
  refine ⟨shq_bd nb.1 gd.2.2.2, shq_bd nb.2.1 gd.2.2.2, ⟨shq_pos hp gd.2.2.1 gd.2.2.2, (shq_bd nb.2.2 gd.2.2.2).2⟩, shq_le nb.1.1 (by omega) gd.2.2.2 gd.1 gd.2.2.1 mX, shq_le nb.2.1.1 (by omega) gd.2.2.2 gd.2.1 gd.2.2.1 mY⟩
theorem nea_in {v : mz_G} {l : List tr3} {x y : Int} (hG : GO v l) (hd : dot v x y) : dot v (rnd (fX v l 1 x y) (fB v l 1 x y)) (rnd (fY v l 1 x y) (fB v l 1 x y)) ∧ 0 ≤ nea v l x y ∧ nea v l x y < v 0 0 * v 0 1 := by
  obtain ⟨hB, -, hP, hC, -⟩ := hG
  have f := f_bd hB (q := 1) (by decide) hP.2 hC.2 hd
  have hW := hB.1.1
  have hH := hB.1.2.1
  have r1 := rnd_bd f.1.1 f.2.2.1.1 f.2.2.2.1
  have r2 := rnd_bd f.2.1.1 f.2.2.1.1 f.2.2.2.2
  have hdot : dot v (rnd (fX v l 1 x y) (fB v l 1 x y)) (rnd (fY v l 1 x y) (fB v l 1 x y)) := ⟨r1.1, by omega, r2.1, by omega⟩
  have := dn_in hB.1 hdot
  unfold nea
  exact ⟨hdot, this.1, this.2.1⟩
theorem ne_in {v : mz_G} {l : List tr3} {d : Int} (hG : GO v l) (h0 : 0 ≤ d) (h1 : d < v 0 0 * v 0 1) : 0 ≤ ne v l d ∧ ne v l d < v 0 0 * v 0 1 := (nea_in hG (dmv hG.1.1 h0 h1).1).2
theorem WH_bd {v : mz_G} (hR : Rg v) : 4 ≤ v 0 0 * v 0 1 ∧ v 0 0 * v 0 1 ≤ 400 := by
  have hW := hR.1
  have hH := hR.2.1
  have e1 : 2 * 2 ≤ v 0 0 * v 0 1 := Int.mul_le_mul hW.1 hH.1 (by omega) (by omega)
  have e2 : v 0 0 * v 0 1 ≤ 20 * 20 := Int.mul_le_mul hW.2 hH.2 (by omega) (by omega)
  omega
theorem CA_val {σ v : mz_G} {l : List tr3} (h : CA σ v l) {d : Int} (h0 : 0 ≤ d) (h1 : d < v 0 0 * v 0 1) : σ 4 d.toNat = v 6 d.toNat := h.2.2.2 d.toNat (by omega)
/-- how many dots have a dot as nearest -/
def us (v : mz_G) (l : List tr3) (D e : Int) : Int := sumI D (fun d => b01 (ne v l d = e))
def US (σ v : mz_G) (l : List tr3) (D : Int) : Prop := ∀ e : Int, 0 ≤ e → e < v 0 0 * v 0 1 → σ 6 e.toNat = us v l D e
theorem US_s {σ σ' v : mz_G} {l : List tr3} {D : Int} (h : US σ v l D) (hD : 0 ≤ D) (hn : 0 ≤ ne v l D) (e1 : ∀ j, σ' 6 j = if j = (ne v l D).toNat then σ 6 j + 1 else σ 6 j) : US σ' v l (D + 1) := by
  intro e h0 h1
  have h2 := h e h0 h1
  have hs : us v l (D + 1) e = us v l D e + b01 (ne v l D = e) := sumI_s hD
  rw [e1, hs]
  by_cases q : ne v l D = e
  · rw [if_pos (by omega), b01_t q, h2]
  · rw [if_neg (by omega), b01_f q, h2]
    omega
theorem us_bd {v : mz_G} {l : List tr3} {D e : Int} (hD : 0 ≤ D) : 0 ≤ us v l D e ∧ us v l D e ≤ D := by
  have := sumI_bd (t := D) (a := 0) (b := 1) (f := fun d => b01 (ne v l d = e)) hD (fun i _ _ => by rcases b01_01 (P := ne v l i = e) with q | q <;> omega)
  unfold us
  omega
/-- n goes -/
def itN (v : mz_G) (l : List tr3) : Nat → Int → Int
  | 0, d => d
  | n + 1, d => ne v l (itN v l n d)
/-- the blended value, above -/
def vz (v : mz_G) (x y : Int) : Int := if dot v x y then v 6 (y * v 0 0 + x).toNat else 0
def blA (v : mz_G) (x y b : Int) : Int := (b - y.tmod b) * ((b - x.tmod b) * vz v (x.tdiv b) (y.tdiv b) + x.tmod b * vz v (x.tdiv b + 1) (y.tdiv b)) + y.tmod b * ((b - x.tmod b) * vz v (x.tdiv b) (y.tdiv b + 1) + x.tmod b * vz v (x.tdiv b + 1) (y.tdiv b + 1))
