/-! what the public methods answer, in the words of the state -/
def aVal (v : mz_G) (l : List tr3) (x y b : Int) : Int := if ¬ dot v x y then -1 else if b = 0 then v 6 (y * v 0 0 + x).toNat else v 6 (ne v l (y * v 0 0 + x)).toNat
def aKnot (v : mz_G) (l : List tr3) (k w : Int) : Int := if ¬ isk v k then -1 else if w = 0 then gx v 0 k else if w = 1 then gy v 0 k else if w = 2 then gx v 1 k else if w = 3 then gy v 1 k else if w = 4 then dgr l k else if w = 5 then kind v k else -1
def tin (v : mz_G) (l : List tr3) (t : Int) : Int := sumI (v 0 0 * v 0 1) (fun d => b01 (lie v l 1 (d % v 0 0) (d / v 0 0) = t))
def aTri (v : mz_G) (l : List tr3) (t w : Int) : Int := if ¬ (0 ≤ t ∧ t < (l.length : Int)) then -1 else if w = 0 then (tg l t).1 else if w = 1 then (tg l t).2.1 else if w = 2 then (tg l t).2.2 else if w = 3 then tar v 0 (tg l t) else if w = 4 then tar v 1 (tg l t) else if w = 5 then tin v l t else -1
def hld (l : List tr3) (a b : Int) : Int := b01 (¬ apx l a b = -1) + b01 (¬ apx l b a = -1)
def sqd (v : mz_G) (q : Nat) (a b : Int) : Int := (gx v q b - gx v q a) * (gx v q b - gx v q a) + (gy v q b - gy v q a) * (gy v q b - gy v q a)
def aEdge (v : mz_G) (l : List tr3) (a b w : Int) : Int := if ¬ isk v a ∨ ¬ isk v b then -1 else if hld l a b = 0 then -1 else if w = 0 then hld l a b else if w = 1 then sqd v 0 a b else if w = 2 then sqd v 1 a b else if w = 3 then b01 (rtt v l a b = 0) else -1
def tsum (v : mz_G) (l : List tr3) : Int := sumI (l.length : Int) (fun i => (trs v l (tg l i).1 (tg l i).2.1 + trs v l (tg l i).2.1 (tg l i).2.2 + trs v l (tg l i).2.2 (tg l i).1))
def bkn (v : mz_G) : Int := sumI (v 0 2) (fun i => b01 (¬ (gx v 1 i = gx v 0 i ∧ gy v 1 i = gy v 0 i)))
def vsum (v : mz_G) : Int := sumI (v 0 0 * v 0 1) (fun d => v 6 d.toNat)
def ksum (v : mz_G) (l : List tr3) : Int := sumI (v 0 0 * v 0 1) (fun d => v 6 (ne v l d).toNat)
def many (v : mz_G) (l : List tr3) : Int := sumI (v 0 0 * v 0 1) (fun d => b01 (1 < FH v l (l.length : Int) (d % v 0 0) (d / v 0 0)))
def aCount (v : mz_G) (l : List tr3) (w : Int) : Int := if w = 0 then v 0 0 else if w = 1 then v 0 1 else if w = 2 then v 0 2 else if w = 3 then (l.length : Int) else if w = 4 then v 0 2 + (l.length : Int) - 1 else if w = 5 then tsum v l else if w = 6 then bkn v else if w = 7 then vsum v else if w = 8 then ksum v l else if w = 9 then many v l else -1
def aFind (v : mz_G) (l : List tr3) (x y b : Int) : Int := if ¬ dot v x y then -1 else if b = 0 then lie v l 1 x y else lie v l 0 x y
def shG (v : mz_G) (t : tr3) (x y : Int) : Int := (Int.gcd (Int.gcd (sh0 v 1 t x y) (sh1 v 1 t x y)) (sh2 v 1 t x y) : Int)
def aShare (v : mz_G) (l : List tr3) (x y w : Int) : Int := if ¬ dot v x y then -1 else if w = 0 then shq (sh0 v 1 (tg l (lie v l 1 x y)) x y) (shG v (tg l (lie v l 1 x y)) x y) else if w = 1 then shq (sh1 v 1 (tg l (lie v l 1 x y)) x y) (shG v (tg l (lie v l 1 x y)) x y) else if w = 2 then shq (sh2 v 1 (tg l (lie v l 1 x y)) x y) (shG v (tg l (lie v l 1 x y)) x y) else if w = 3 then shq (tar v 1 (tg l (lie v l 1 x y))) (shG v (tg l (lie v l 1 x y)) x y) else -1
def aFrom (v : mz_G) (l : List tr3) (q : Nat) (x y w : Int) : Int := if ¬ dot v x y then -1 else if w = 0 then fX v l q x y else if w = 1 then fY v l q x y else if w = 2 then fB v l q x y else -1
def aNear (v : mz_G) (l : List tr3) (x y : Int) : Int := if ¬ dot v x y then -1 else ne v l (y * v 0 0 + x)
def blS (v : mz_G) (l : List tr3) (x y : Int) : Int := blA v (fX v l 1 x y) (fY v l 1 x y) (fB v l 1 x y)
def aBlend (v : mz_G) (l : List tr3) (x y w : Int) : Int := if ¬ dot v x y ∨ w < 0 ∨ 1 < w then -1 else if w = 0 then shq (blS v l x y) (Int.gcd (blS v l x y) (fB v l 1 x y * fB v l 1 x y) : Int) else shq (fB v l 1 x y * fB v l 1 x y) (Int.gcd (blS v l x y) (fB v l 1 x y * fB v l 1 x y) : Int)
def aUses (v : mz_G) (l : List tr3) (x y : Int) : Int := if ¬ dot v x y then -1 else us v l (v 0 0 * v 0 1) (y * v 0 0 + x)
def aLost (v : mz_G) (l : List tr3) : Int := sumI (v 0 0 * v 0 1) (fun e => b01 (us v l (v 0 0 * v 0 1) e = 0))
def aTrace (v : mz_G) (l : List tr3) (x y n : Int) : Int := if ¬ dot v x y ∨ n < 0 ∨ 100 < n then -1 else itN v l n.toNat (y * v 0 0 + x)
def rmP (v : mz_G) (m : List (Int × Int)) (k d : Int) : Prop := rbl v m k (d % v 0 0) (d / v 0 0) = 0 ∨ rbl v m k (d % v 0 0) (d / v 0 0) = 2
def rmB (v : mz_G) (m : List (Int × Int)) (k d : Int) : Int := b01 (rbl v m k (d % v 0 0) (d / v 0 0) = 0 ∨ rbl v m k (d % v 0 0) (d / v 0 0) = 2)
def aRoom (v : mz_G) (l : List tr3) (k i : Int) : Int := if ¬ isk v k ∨ i < -1 then -1 else if i = -1 then sumI (v 0 0 * v 0 1) (rmB v (lkOf l k) k) else fstI (v 0 0 * v 0 1) (fun d => rmB v (lkOf l k) k d = 1 ∧ sumI d (rmB v (lkOf l k) k) = i)
def rcN (v : mz_G) (m : List (Int × Int)) (k dx dy : Int) : Int := fstI 20 (fun i => ¬ rbl v m k (gx v 1 k + (i + 1) * dx) (gy v 1 k + (i + 1) * dy) = 0)
def aReach (v : mz_G) (l : List tr3) (k dx dy : Int) : Int := if ¬ isk v k ∨ ¬ (-3 ≤ dx ∧ dx ≤ 3 ∧ -3 ≤ dy ∧ dy ≤ 3) ∨ (dx = 0 ∧ dy = 0) then -1 else if rcN v (lkOf l k) k dx dy = -1 then 20 else rcN v (lkOf l k) k dx dy
def aBent (v : mz_G) (l : List tr3) (t : Int) : Int := if t < 0 ∨ 8 < t then -1 else sumI (l.length : Int) (fun i => b01 (war v t (tg l i) ≤ 0))
def stT (v : mz_G) (l : List tr3) (w : Int) : Int := exI v l (if w = 1 ∨ 4 ≤ w then 1 else 0) (l.length : Int)
def stG (v : mz_G) (l : List tr3) (w : Int) : Int := (Int.gcd (tar v 1 (tg l (stT v l w))) (tar v 0 (tg l (stT v l w))) : Int)
def aStretch (v : mz_G) (l : List tr3) (w : Int) : Int := if w < 0 ∨ 5 < w then -1 else if w < 2 then stT v l w else if w = 2 ∨ w = 4 then shq (tar v 1 (tg l (stT v l w))) (stG v l w) else shq (tar v 0 (tg l (stT v l w))) (stG v l w)
theorem exI_bd {v : mz_G} {l : List tr3} {b t : Int} (h : 1 ≤ t) : 0 ≤ exI v l b t ∧ exI v l b t < t := by
  obtain ⟨n, rfl⟩ : ∃ n : Nat, t = (n : Int) + 1 := ⟨(t - 1).toNat, by omega⟩
  unfold exI
  rw [show ((n : Int) + 1 - 1).toNat = n by omega]
  induction n with
  | zero => show 0 ≤ (0 : Int) ∧ (0 : Int) < _; omega
  | succ n ih =>
    have ih := ih (by omega)
    show 0 ≤ exv v l b ((n + 1 : Nat) : Int) (exN v l b n) ∧ exv v l b ((n + 1 : Nat) : Int) (exN v l b n) < _
    unfold exv
    repeat' split
    all_goals omega
theorem rmB_bd {v : mz_G} {m : List (Int × Int)} {k d : Int} : 0 ≤ rmB v m k d ∧ rmB v m k d ≤ 1 := by
  unfold rmB
  rcases b01_01 (P := rbl v m k (d % v 0 0) (d / v 0 0) = 0 ∨ rbl v m k (d % v 0 0) (d / v 0 0) = 2) with q | q <;> omega
/-- how a place changes -/
def vmv (v : mz_G) (k x y : Int) : mz_G := fun c i => if c = 3 ∧ (i : Int) = k then x else if c = 4 ∧ (i : Int) = k then y else v c i
def vst (v : mz_G) : mz_G := fun c i => if c = 3 then v 1 i else if c = 4 then v 2 i else v c i
/-- the first j places are the homes -/
def STI (σ σ1 : mz_G) (j : Int) : Prop := (∀ i : Nat, (i : Int) < j → σ1 18 i = σ 16 i ∧ σ1 19 i = σ 17 i) ∧ (∀ i : Nat, j ≤ (i : Int) → σ1 18 i = σ 18 i ∧ σ1 19 i = σ 19 i) ∧ ∀ c i, ¬ c = 18 → ¬ c = 19 → σ1 c i = σ c i
theorem STI_0 {σ : mz_G} : STI σ σ 0 := ⟨fun i h => by omega, fun _ _ => ⟨rfl, rfl⟩, fun _ _ _ _ => rfl⟩
theorem STI_s {σ σ1 : mz_G} {j : Int} (h : STI σ σ1 j) (h0 : 0 ≤ j) : STI σ (mz_up (mz_up σ1 18 j.toNat (σ1 16 j.toNat)) 19 j.toNat (σ1 17 j.toNat)) (j + 1) := by
  obtain ⟨a, b, d⟩ := h
  refine ⟨fun i hi => ?_, fun i hi => ?_, fun c i h1 h2 => ?_⟩
  · by_cases e : i = j.toNat
    · subst e
      rw [up_ne (by decide), up_eq, up_eq, d 16 _ (by decide) (by decide), d 17 _ (by decide) (by decide)]
      exact ⟨rfl, rfl⟩
    · rw [up_ne (by decide), up_ni e, up_ni e, up_ne (by decide)]
      exact a i (by omega)
  · have e : ¬ i = j.toNat := by omega
    rw [up_ne (by decide), up_ni e, up_ni e, up_ne (by decide)]
    exact b i (by omega)
  · rw [up_ne h2, up_ne h1]
    exact d c i h1 h2
theorem CA_mv {σ σ' v : mz_G} {l : List tr3} {k x y : Int} (h : CA σ v l) (hk : 0 ≤ k) (e1 : ∀ j : Nat, σ' 18 j = if (j : Int) = k then x else σ 18 j) (e2 : ∀ j : Nat, σ' 19 j = if (j : Int) = k then y else σ 19 j) (e3 : ∀ c i, ¬ c = 18 → ¬ c = 19 → ¬ (c = 0 ∧ i = 7) → σ' c i = σ c i) : CA σ' (vmv v k x y) l := by
  obtain ⟨⟨a1, a2, a3, a4⟩, a5, a6, a7⟩ := h
  have w : ∀ c i, ¬ c = 3 → ¬ c = 4 → vmv v k x y c i = v c i := fun c i h1 h2 => by unfold vmv; rw [if_neg (fun q => h1 q.1), if_neg (fun q => h2 q.1)]
  refine ⟨⟨by rw [w 0 0 (by decide) (by decide), e3 1 8 (by decide) (by decide) (by omega)]; exact a1, by rw [w 0 1 (by decide) (by decide), e3 1 9 (by decide) (by decide) (by omega)]; exact a2, by rw [w 0 2 (by decide) (by decide), e3 1 7 (by decide) (by decide) (by omega)]; exact a3, by rw [e3 11 1 (by decide) (by decide) (by omega)]; exact a4⟩, fun j hj => ?_, fun t z hz => by rw [e3 22 t (by decide) (by decide) (by omega)]; exact a6 t z hz, fun d hd => ?_⟩
  · rw [w 0 2 (by decide) (by decide)] at hj
    have := a5 j hj
    rw [e1, e2, e3 16 j (by decide) (by decide) (by omega), e3 17 j (by decide) (by decide) (by omega), w 1 j (by decide) (by decide), w 2 j (by decide) (by decide)]
    refine ⟨this.1, this.2.1, ?_, ?_⟩
    · by_cases q : (j : Int) = k
      · simp [vmv, q]
      · simp [vmv, q, this]
    · by_cases q : (j : Int) = k
      · simp [vmv, q]
      · simp [vmv, q, this]
  · rw [w 0 0 (by decide) (by decide), w 0 1 (by decide) (by decide)] at hd
    rw [w 6 d (by decide) (by decide), e3 4 d (by decide) (by decide) (by omega)]
    exact a7 d hd
theorem CA_st {σ σ1 σ' v : mz_G} {l : List tr3} (h : CA σ v l) (hS : STI σ σ1 (v 0 2)) (e3 : ∀ c i, ¬ (c = 0 ∧ i = 7) → σ' c i = σ1 c i) : CA σ' (vst v) l := by
  obtain ⟨⟨a1, a2, a3, a4⟩, a5, a6, a7⟩ := h
  obtain ⟨s1, s2, s3⟩ := hS
  have w : ∀ c i, ¬ c = 3 → ¬ c = 4 → vst v c i = v c i := fun c i h1 h2 => by unfold vst; rw [if_neg h1, if_neg h2]
  have key : ∀ c i, ¬ c = 18 → ¬ c = 19 → ¬ (c = 0 ∧ i = 7) → σ' c i = σ c i := fun c i h1 h2 h3 => by rw [e3 c i h3, s3 c i h1 h2]
  refine ⟨⟨by rw [w 0 0 (by decide) (by decide), key 1 8 (by decide) (by decide) (by omega)]; exact a1, by rw [w 0 1 (by decide) (by decide), key 1 9 (by decide) (by decide) (by omega)]; exact a2, by rw [w 0 2 (by decide) (by decide), key 1 7 (by decide) (by decide) (by omega)]; exact a3, by rw [key 11 1 (by decide) (by decide) (by omega)]; exact a4⟩, fun j hj => ?_, fun t z hz => by rw [key 22 t (by decide) (by decide) (by omega)]; exact a6 t z hz, fun d hd => ?_⟩
  · rw [w 0 2 (by decide) (by decide)] at hj
    have := a5 j hj
    have t := s1 j hj
    rw [e3 18 j (by omega), e3 19 j (by omega), t.1, t.2, key 16 j (by decide) (by decide) (by omega), key 17 j (by decide) (by decide) (by omega), w 1 j (by decide) (by decide), w 2 j (by decide) (by decide)]
    refine ⟨this.1, this.2.1, ?_, ?_⟩
    · simp [vst, this]
    · simp [vst, this]
  · rw [w 0 0 (by decide) (by decide), w 0 1 (by decide) (by decide)] at hd
    rw [w 6 d (by decide) (by decide), key 4 d (by decide) (by decide) (by omega)]
    exact a7 d hd
