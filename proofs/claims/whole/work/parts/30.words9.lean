/-! how the public methods change the state -/
def aIns (v : mz_G) (l : List tr3) (a b x y : Int) : Int := if rti v l a b x y = 0 then v 0 2 else -rti v l a b x y
def vIns (v : mz_G) (l : List tr3) (a b x y : Int) : mz_G := if rti v l a b x y = 0 then vin v a b x y else v
def lIns (v : mz_G) (l : List tr3) (a b x y : Int) : List tr3 := if rti v l a b x y = 0 then adN (v 0 2) (lhOf v l a b) (l.filter (fun z => !decide (hol v 0 z a b))) else l
def vMov (v : mz_G) (l : List tr3) (k x y : Int) : mz_G := if rtm v l k x y = 0 then vmv v k x y else v
def lTur (v : mz_G) (l : List tr3) (a b : Int) : List tr3 := if rtt v l a b = 0 then ins (nrm (apx l b a) b (apx l a b)) (ins (nrm a (apx l b a) (apx l a b)) (l.filter (fun z => !decide (hasK z a ∧ hasK z b)))) else l
def vOut (v : mz_G) (l : List tr3) (k : Int) : mz_G := if rto v l k = 0 then vcl v k else v
def lOut (v : mz_G) (l : List tr3) (k : Int) : List tr3 := if rto v l k = 0 then (cov (lkOf l k) (l.filter (fun z => !decide (hasK z k)))).map (cl1 k) else l
abbrev szo (w h : Int) : Prop := (2 ≤ w ∧ w ≤ 20) ∧ (2 ≤ h ∧ h ≤ 20)
def vSiz (v : mz_G) (w h : Int) : mz_G := if szo w h then vbg w h (fun _ => 0) else v
def lSiz (l : List tr3) (w h : Int) : List tr3 := if szo w h then [(0, 1, 2), (0, 2, 3)] else l
def aPai (v : mz_G) (x y z : Int) : Int := if ¬ dot v x y ∨ z < 0 ∨ 15 < z then -1 else v 6 (y * v 0 0 + x).toNat
def vPai (v : mz_G) (x y z : Int) : mz_G := if ¬ dot v x y ∨ z < 0 ∨ 15 < z then v else vpt v (fun d => if d = y * v 0 0 + x then z else v 6 d.toNat)
def vWea (v : mz_G) (s : Int) : mz_G := vpt v (fun d => (7 * (d % v 0 0) + 13 * (d / v 0 0) + d % v 0 0 * (d / v 0 0) + s) % 16)
def vCar (v : mz_G) (l : List tr3) : mz_G := vpt v (fun d => v 6 (ne v l d).toNat)
def aCar (v : mz_G) (l : List tr3) : Int := sumI (v 0 0 * v 0 1) (fun d => b01 (¬ v 6 d.toNat = v 6 (ne v l d).toNat))
/-- some values have been written: those below D -/
def WV (σ σ1 v : mz_G) (f : Int → Int) (D : Int) : Prop := (∀ d : Int, 0 ≤ d → d < D → σ1 4 d.toNat = f d) ∧ (∀ d : Int, D ≤ d → 0 ≤ d → σ1 4 d.toNat = σ 4 d.toNat) ∧ ∀ c i, ¬ c = 4 → σ1 c i = σ c i
theorem WV_0 {σ v : mz_G} {f : Int → Int} : WV σ σ v f 0 := ⟨fun d a b => by omega, fun _ _ _ => rfl, fun _ _ _ => rfl⟩
theorem WV_s {σ σ1 v : mz_G} {f : Int → Int} {D z : Int} (h : WV σ σ1 v f D) (h0 : 0 ≤ D) (hz : z = f D) : WV σ (mz_up σ1 4 D.toNat z) v f (D + 1) := by
  obtain ⟨a, b, c⟩ := h
  refine ⟨fun d h1 h2 => ?_, fun d h1 h2 => ?_, fun e i he => by rw [up_ne he]; exact c e i he⟩
  · by_cases q : d = D
    · subst q
      rw [up_eq, hz]
    · rw [up_ni (by omega)]
      exact a d h1 (by omega)
  · rw [up_ni (by omega)]
    exact b d (by omega) h2
theorem WV_CA {σ σ1 v : mz_G} {l : List tr3} {f : Int → Int} {D : Int} (h : CA σ v l) (hw : WV σ σ1 v f D) (hD : D = v 0 0 * v 0 1) : CA σ1 (vpt v f) l := CA_vpt h (fun i _ => hw.2.2 1 i (by decide)) (hw.2.2 11 1 (by decide)) (fun c hc i => hw.2.2 c i (by omega)) (fun d a b => hw.1 d a (by omega))
/-- the numbers w, h, knots, the points: as they were, while values are written -/
theorem WV_rd {σ σ1 v : mz_G} {l : List tr3} {f : Int → Int} {D : Int} (h : CA σ v l) (hw : WV σ σ1 v f D) : σ1 1 8 = v 0 0 ∧ σ1 1 9 = v 0 1 := by
  rw [hw.2.2 1 8 (by decide), hw.2.2 1 9 (by decide)]
  exact ⟨h.1.1, h.1.2.1⟩
theorem WV_CC {σ σ1 v : mz_G} {l : List tr3} {f : Int → Int} {D : Int} (h : CC σ v l) (hw : WV σ σ1 v f D) : CC σ1 v l := CC_ext h (hw.2.2 0 7 (by decide)) (fun c hc i => hw.2.2 c i (by omega))
/-- a row of spare numbers: the first D taken values -/
def SPa (σ σ1 v : mz_G) (l : List tr3) (D : Int) : Prop := (∀ d : Int, 0 ≤ d → d < D → σ1 7 d.toNat = v 6 (ne v l d).toNat) ∧ ∀ c i, ¬ c = 7 → σ1 c i = σ c i
theorem SPa_s {σ σ1 v : mz_G} {l : List tr3} {D z : Int} (h : SPa σ σ1 v l D) (h0 : 0 ≤ D) (hz : z = v 6 (ne v l D).toNat) : SPa σ (mz_up σ1 7 D.toNat z) v l (D + 1) := by
  obtain ⟨a, c⟩ := h
  refine ⟨fun d h1 h2 => ?_, fun e i he => by rw [up_ne he]; exact c e i he⟩
  by_cases q : d = D
  · subst q
    rw [up_eq, hz]
  · rw [up_ni (by omega)]
    exact a d h1 (by omega)
theorem rti0 {v : mz_G} {l : List tr3} {a b x y : Int} (h : rti v l a b x y = 0) : dot v a b ∧ dot v x y ∧ ¬ ish v a b ∧ keeps v a b x y ∧ ¬ fol v (lhOf v l a b) x y ∧ v 0 2 < 30 := by
  unfold rti at h
  split at h
  · omega
  next q1 =>
    split at h
    · omega
    next q2 =>
      split at h
      · omega
      next q3 =>
        split at h
        · omega
        next q4 =>
          split at h
          · omega
          next q5 =>
            refine ⟨Decidable.not_not.mp (fun z => q1 (Or.inl z)), Decidable.not_not.mp (fun z => q1 (Or.inr z)), q2, Decidable.not_not.mp q3, q4, by omega⟩
theorem rtm0 {v : mz_G} {l : List tr3} {k x y : Int} (h : rtm v l k x y = 0) : isk v k ∧ dot v x y ∧ ¬ k < 4 ∧ keeps v (gx v 0 k) (gy v 0 k) x y ∧ ¬ fol v (lkOf l k) x y := by
  unfold rtm rbl at h
  split at h
  · omega
  next q0 =>
    split at h
    · omega
    next q1 =>
      split at h
      · omega
      next q2 =>
        split at h
        · omega
        next q3 =>
          split at h
          · omega
          next q4 =>
            refine ⟨Decidable.not_not.mp q0, Decidable.not_not.mp q1, fun z => q3 (Or.inl z), Decidable.not_not.mp (fun z => q3 (Or.inr z)), q4⟩
theorem rtt0 {v : mz_G} {l : List tr3} {a b : Int} (h : rtt v l a b = 0) : isk v a ∧ isk v b ∧ ¬ apx l a b = -1 ∧ ¬ apx l b a = -1 ∧ ¬ flb v a (apx l b a) (apx l a b) = 1 ∧ ¬ flb v (apx l b a) b (apx l a b) = 1 := by
  unfold rtt at h
  split at h
  · omega
  next q1 =>
    split at h
    · omega
    next q2 =>
      split at h
      · omega
      next q3 =>
        refine ⟨Decidable.not_not.mp (fun z => q1 (Or.inl z)), Decidable.not_not.mp (fun z => q1 (Or.inr z)), fun z => q2 (Or.inl z), fun z => q2 (Or.inr z), fun z => q3 (Or.inl z), fun z => q3 (Or.inr z)⟩
theorem rto0 {v : mz_G} {l : List tr3} {k : Int} (h : rto v l k = 0) : isk v k ∧ ¬ kind v k = 0 ∧ dgr l k ≤ (if kind v k = 1 then 2 else 3) := by
  unfold rto at h
  by_cases q1 : ¬ isk v k
  · rw [if_pos q1] at h
    omega
  · rw [if_neg q1] at h
    by_cases q2 : kind v k = 0 ∨ (if kind v k = 1 then 2 else 3) < dgr l k
    · rw [if_pos q2] at h
      omega
    · exact ⟨Decidable.not_not.mp q1, fun z => q2 (Or.inl z), Int.not_lt.mp (fun z => q2 (Or.inr z))⟩
theorem rto_bd {v : mz_G} {l : List tr3} {k : Int} : 0 ≤ rto v l k ∧ rto v l k ≤ 2 := by
  unfold rto
  repeat' split
  all_goals decide
