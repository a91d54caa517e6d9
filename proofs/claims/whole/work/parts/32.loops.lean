/-! the words for loops: how taking away what nobody goes to leaves the dots that come back -/
theorem sumI_chg {N a : Int} {g g' : Int → Int} (h0 : 0 ≤ a) (h1 : a < N) (h : ∀ i, 0 ≤ i → i < N → ¬ i = a → g' i = g i) : sumI N g' = sumI N g + (g' a - g a) := by
  obtain ⟨n, rfl⟩ := Int.eq_ofNat_of_zero_le (show 0 ≤ N by omega)
  induction n with
  | zero => omega
  | succ n ih =>
    rw [show ((n + 1 : Nat) : Int) = (n : Int) + 1 by omega, sumI_s (by omega), sumI_s (by omega)]
    rcases (show a < (n : Int) ∨ a = (n : Int) by omega) with q | q
    · rw [ih q (fun i p r => h i p (by omega)), h (n : Int) (by omega) (by omega) (by omega)]
      omega
    · rw [sumI_cg (f := g') (g := g) (fun i p r => h i p (by omega) (by omega)), q]
      omega
theorem sumI_two {N : Int} {g g' : Int → Int} (h0 : 0 ≤ N) (h : ∀ i, 0 ≤ i → i < N → g i + g' i = 1) : sumI N g + sumI N g' = N := by
  obtain ⟨n, rfl⟩ := Int.eq_ofNat_of_zero_le h0
  induction n with
  | zero => rfl
  | succ n ih =>
    have := ih (by omega) (fun i p r => h i p (by omega))
    have h2 := h (n : Int) (by omega) (by omega)
    rw [show ((n + 1 : Nat) : Int) = (n : Int) + 1 by omega, sumI_s (by omega), sumI_s (by omega)]
    omega
theorem sumI_ge {N a : Int} {g : Int → Int} (h0 : 0 ≤ a) (h1 : a < N) (h : ∀ i, 0 ≤ i → i < N → 0 ≤ g i) : 0 ≤ sumI N g ∧ g a ≤ sumI N g := by
  obtain ⟨n, rfl⟩ := Int.eq_ofNat_of_zero_le (show 0 ≤ N by omega)
  induction n with
  | zero => omega
  | succ n ih =>
    have h2 := h (n : Int) (by omega) (by omega)
    rw [show ((n + 1 : Nat) : Int) = (n : Int) + 1 by omega, sumI_s (by omega)]
    have hz : 0 ≤ sumI (n : Int) g := by
      rcases Nat.eq_zero_or_pos n with q | q
      · subst q; exact Int.le_refl 0
      · have := sumI_bd (t := (n : Int)) (a := 0) (b := sumI (n : Int) g) (f := fun i => 0) (by omega)
        rcases (show a < (n : Int) ∨ a = (n : Int) by omega) with z | z
        · exact (ih z (fun i p r => h i p (by omega))).1
        · have key : ∀ m : Nat, m ≤ n → 0 ≤ sumI (m : Int) g := by
            intro m
            induction m with
            | zero => intro _; exact Int.le_refl 0
            | succ m ihm =>
              intro hm
              have := ihm (by omega)
              have h3 := h (m : Int) (by omega) (by omega)
              rw [show ((m + 1 : Nat) : Int) = (m : Int) + 1 by omega, sumI_s (by omega)]
              omega
          exact key n (Nat.le_refl n)
    rcases (show a < (n : Int) ∨ a = (n : Int) by omega) with q | q
    · have := ih q (fun i p r => h i p (by omega))
      omega
    · rw [q]
      omega
theorem sumI_ex {N : Int} {g : Int → Int} (h : ¬ sumI N g = 0) : ∃ i, 0 ≤ i ∧ i < N ∧ ¬ g i = 0 := by
  rcases fstI_spec N (fun i => ¬ g i = 0) with ⟨-, h2⟩ | ⟨h1, h2, h3, -⟩
  · exfalso
    apply h
    rw [sumI_cg (g := fun _ => 0) (fun i p q => Decidable.not_not.mp (h2 i p q))]
    have key : ∀ n : Nat, sumN n (fun _ => 0) = 0 := by
      intro n
      induction n with
      | zero => rfl
      | succ n ih => show sumN n (fun _ => 0) + 0 = 0; rw [ih]; rfl
    exact key _
  · exact ⟨_, h1, h2, h3⟩
theorem fstI_nn {t : Int} {P : Int → Prop} [DecidablePred P] : fstI t P = -1 ↔ ∀ i, 0 ≤ i → i < t → ¬ P i := by
  rcases fstI_spec t P with ⟨h1, h2⟩ | ⟨h1, h2, h3, -⟩
  · exact ⟨fun _ => h2, fun _ => h1⟩
  · exact ⟨fun h => by omega, fun h => absurd h3 (h _ h1 h2)⟩
/-- n goes by f -/
def itF (f : Int → Int) : Nat → Int → Int
  | 0, d => d
  | n + 1, d => f (itF f n d)
theorem itF_add {f : Int → Int} {m n : Nat} {d : Int} : itF f (m + n) d = itF f m (itF f n d) := by
  induction m with
  | zero => rw [Nat.zero_add]; rfl
  | succ m ih =>
    rw [show m + 1 + n = (m + n) + 1 by omega]
    show f (itF f (m + n) d) = f (itF f m (itF f n d))
    rw [ih]
theorem itF_in {f : Int → Int} {N : Int} (hf : ∀ d, 0 ≤ d → d < N → 0 ≤ f d ∧ f d < N) {d : Int} (h0 : 0 ≤ d) (h1 : d < N) (n : Nat) : 0 ≤ itF f n d ∧ itF f n d < N := by
  induction n with
  | zero => exact ⟨h0, h1⟩
  | succ n ih => exact hf _ ih.1 ih.2
def cyc (f : Int → Int) (e : Int) : Prop := ∃ n : Nat, 0 < n ∧ itF f n e = e
theorem not_cyc {f : Int → Int} {N : Int} (hf : ∀ d, 0 ≤ d → d < N → 0 ≤ f d ∧ f d < N) {e : Int} (h0 : 0 ≤ e) (h1 : e < N) (h : ∀ d, 0 ≤ d → d < N → f d = e → ¬ cyc f d) : ¬ cyc f e := by
  rintro ⟨n, hn, he⟩
  obtain ⟨m, rfl⟩ : ∃ m, n = m + 1 := ⟨n - 1, by omega⟩
  have hi := itF_in hf h0 h1 m
  refine h (itF f m e) hi.1 hi.2 he ⟨m + 1, by omega, ?_⟩
  rw [← itF_add, show m + 1 + m = m + (m + 1) by omega, itF_add, he]
/-- more places than numbers: two places hold one number -/
theorem php (n : Nat) : ∀ g : Nat → Int, (∀ i, i ≤ n → 0 ≤ g i ∧ g i < (n : Int)) → ∃ a b, a < b ∧ b ≤ n ∧ g a = g b := by
  induction n with
  | zero => intro g h; have := h 0 (by omega); omega
  | succ n ih =>
    intro g h
    by_cases q : ∃ a, a ≤ n ∧ g a = g (n + 1)
    · obtain ⟨a, h1, h2⟩ := q
      exact ⟨a, n + 1, by omega, by omega, h2⟩
    · have hl := h (n + 1) (by omega)
      have hne : ∀ a, a ≤ n → ¬ g a = g (n + 1) := fun a h1 h2 => q ⟨a, h1, h2⟩
      obtain ⟨a, b, h1, h2, h3⟩ := ih (fun i => if g i = (n : Int) then g (n + 1) else g i) (fun i hi => by
        have := h i (by omega)
        have := hne i hi
        show 0 ≤ (if g i = (n : Int) then g (n + 1) else g i) ∧ (if g i = (n : Int) then g (n + 1) else g i) < (n : Int)
        split <;> omega)
      have ha := hne a (by omega)
      have hb := hne b (by omega)
      refine ⟨a, b, h1, by omega, ?_⟩
      have h3 : (if g a = (n : Int) then g (n + 1) else g a) = (if g b = (n : Int) then g (n + 1) else g b) := h3
      split at h3
      · split at h3
        · omega
        · omega
      · split at h3
        · omega
        · exact h3
/-- the row of those that nobody goes to: d of them looked at, w found -/
def PQ (q c : Int → Int) (d w : Int) : Prop := (0 ≤ w ∧ w ≤ d) ∧ (∀ p, 0 ≤ p → p < w → 0 ≤ q p ∧ q p < d ∧ c (q p) = 0) ∧ (∀ p p', 0 ≤ p → p < p' → p' < w → ¬ q p = q p') ∧ (∀ e, 0 ≤ e → e < d → c e = 0 → ∃ p, 0 ≤ p ∧ p < w ∧ q p = e) ∧ w = sumI d (fun e => b01 (c e = 0))
theorem PQ_0 {q c : Int → Int} : PQ q c 0 0 := ⟨by omega, fun p a b => by omega, fun p p' a b d => by omega, fun e a b => by omega, rfl⟩
theorem PQ_n {q c : Int → Int} {d w : Int} (h : PQ q c d w) (hc : ¬ c d = 0) : PQ q c (d + 1) w := by
  obtain ⟨a, b, i, s, z⟩ := h
  refine ⟨by omega, fun p h0 h1 => ?_, i, fun e h0 h1 h2 => ?_, ?_⟩
  · have := b p h0 h1
    omega
  · rcases (show e < d ∨ e = d by omega) with r | r
    · exact s e h0 r h2
    · rw [r] at h2
      exact absurd h2 hc
  · rw [sumI_s (by omega), ← z, b01_f hc]
    omega
theorem PQ_y {q q' c : Int → Int} {d w : Int} (h : PQ q c d w) (hc : c d = 0) (e1 : ∀ p, 0 ≤ p → p < w → q' p = q p) (e2 : q' w = d) : PQ q' c (d + 1) (w + 1) := by
  obtain ⟨a, b, i, s, z⟩ := h
  refine ⟨by omega, fun p h0 h1 => ?_, fun p p' h0 h1 h2 => ?_, fun e h0 h1 h2 => ?_, ?_⟩
  · rcases (show p < w ∨ p = w by omega) with r | r
    · rw [e1 p h0 r]
      have := b p h0 r
      omega
    · rw [r, e2]
      exact ⟨by omega, by omega, hc⟩
  · rcases (show p' < w ∨ p' = w by omega) with r | r
    · rw [e1 p h0 (by omega), e1 p' (by omega) r]
      exact i p p' h0 h1 r
    · rw [r, e2, e1 p h0 (by omega)]
      have := b p h0 (by omega)
      omega
  · rcases (show e < d ∨ e = d by omega) with r | r
    · obtain ⟨p, p0, p1, p2⟩ := s e h0 r h2
      exact ⟨p, p0, by omega, by rw [e1 p p0 p1]; exact p2⟩
    · exact ⟨w, by omega, by omega, by rw [e2, r]⟩
  · rw [sumI_s (by omega), ← z, b01_t hc]
theorem PQ_c {q q' c c' : Int → Int} {d w : Int} (h : PQ q c d w) (e1 : ∀ p, 0 ≤ p → p < w → q' p = q p) (e2 : ∀ e, 0 ≤ e → e < d → c' e = c e) : PQ q' c' d w := by
  obtain ⟨a, b, i, s, z⟩ := h
  refine ⟨a, fun p h0 h1 => ?_, fun p p' h0 h1 h2 => ?_, fun e h0 h1 h2 => ?_, ?_⟩
  · have := b p h0 h1
    rw [e1 p h0 h1, e2 _ this.1 this.2.1]
    exact this
  · rw [e1 p h0 (by omega), e1 p' (by omega) h2]
    exact i p p' h0 h1 h2
  · rw [e2 e h0 h1] at h2
    obtain ⟨p, p0, p1, p2⟩ := s e h0 h1 h2
    exact ⟨p, p0, p1, by rw [e1 p p0 p1]; exact p2⟩
  · rw [z]
    exact sumI_cg (fun e h0 h1 => by rw [e2 e h0 h1])
/-- i of them taken away -/
def PL (f : Int → Int) (N : Int) (q c : Int → Int) (i w : Int) : Prop := PQ q c N w ∧ (0 ≤ i ∧ i ≤ w) ∧ (∀ e, 0 ≤ e → e < N → c e = sumI N (fun d => b01 (f d = e ∧ fstI i (fun p => q p = d) = -1))) ∧ ∀ p, 0 ≤ p → p < w → ¬ cyc f (q p)
theorem PL_0 {f q c : Int → Int} {N w : Int} (hf : ∀ d, 0 ≤ d → d < N → 0 ≤ f d ∧ f d < N) (h : PQ q c N w) (hc : ∀ e, 0 ≤ e → e < N → c e = sumI N (fun d => b01 (f d = e))) : PL f N q c 0 w := by
  refine ⟨h, ⟨by omega, h.1.1⟩, fun e h0 h1 => ?_, fun p h0 h1 => ?_⟩
  · rw [hc e h0 h1]
    refine sumI_cg (fun d _ _ => ?_)
    by_cases r : f d = e
    · rw [b01_t r, b01_t ⟨r, rfl⟩]
    · rw [b01_f r, b01_f (fun z => r z.1)]
  · have hq := h.2.1 p h0 h1
    refine not_cyc hf hq.1 hq.2.1 (fun d a b e => ?_)
    exfalso
    have h2 := hc _ hq.1 hq.2.1
    have h3 := (sumI_ge (g := fun d => b01 (f d = q p)) a b (fun i _ _ => by rcases b01_01 (P := f i = q p) with r | r <;> omega)).2
    have h4 : b01 (f d = q p) = 1 := b01_t e
    have h5 : b01 (f d = q p) ≤ sumI N (fun d => b01 (f d = q p)) := h3
    omega
theorem PL_bd {f q c : Int → Int} {N i w e : Int} (h : PL f N q c i w) (h0 : 0 ≤ e) (h1 : e < N) : 0 ≤ c e ∧ c e ≤ N := by
  rw [h.2.2.1 e h0 h1]
  have := sumI_bd (t := N) (a := 0) (b := 1) (f := fun d => b01 (f d = e ∧ fstI i (fun p => q p = d) = -1)) (by omega) (fun d _ _ => by rcases b01_01 (P := f d = e ∧ fstI i (fun p => q p = d) = -1) with r | r <;> omega)
  omega
theorem PL_ge {f q c : Int → Int} {N i w : Int} (hf : ∀ d, 0 ≤ d → d < N → 0 ≤ f d ∧ f d < N) (h : PL f N q c i w) (hi : i < w) : 1 ≤ c (f (q i)) := by
  have hq := h.1.2.1 i h.2.1.1 hi
  have hn := hf _ hq.1 hq.2.1
  rw [h.2.2.1 _ hn.1 hn.2]
  have h3 := (sumI_ge (g := fun d => b01 (f d = f (q i) ∧ fstI i (fun p => q p = d) = -1)) hq.1 hq.2.1 (fun d _ _ => by rcases b01_01 (P := f d = f (q i) ∧ fstI i (fun p => q p = d) = -1) with r | r <;> omega)).2
  have h4 : b01 (f (q i) = f (q i) ∧ fstI i (fun p => q p = q i) = -1) = 1 := b01_t ⟨rfl, fstI_nn.mpr (fun p a b => h.1.2.2.1 p i a b hi)⟩
  have h5 : b01 (f (q i) = f (q i) ∧ fstI i (fun p => q p = q i) = -1) ≤ sumI N (fun d => b01 (f d = f (q i) ∧ fstI i (fun p => q p = d) = -1)) := h3
  omega
/-- the counts when one more is taken away -/
theorem PL_cnt {f q q' c c' : Int → Int} {N i w : Int} (hf : ∀ d, 0 ≤ d → d < N → 0 ≤ f d ∧ f d < N) (h : PL f N q c i w) (hi : i < w) (e1 : ∀ p, 0 ≤ p → p < w → q' p = q p) (e2 : ∀ e, 0 ≤ e → e < N → c' e = if e = f (q i) then c e - 1 else c e) : ∀ e, 0 ≤ e → e < N → c' e = sumI N (fun d => b01 (f d = e ∧ fstI (i + 1) (fun p => q' p = d) = -1)) := by
  intro e h0 h1
  have hq := h.1.2.1 i h.2.1.1 hi
  have hw := h.2.1
  have key : ∀ d, fstI (i + 1) (fun p => q' p = d) = fstI (i + 1) (fun p => q p = d) := fun d => fstI_cg (fun p a b => by rw [e1 p a (by omega)])
  rw [sumI_chg (a := q i) (g := fun d => b01 (f d = e ∧ fstI i (fun p => q p = d) = -1)) hq.1 hq.2.1 (fun d a b hd => by
    show b01 _ = b01 _
    have : fstI (i + 1) (fun p => q' p = d) = -1 ↔ fstI i (fun p => q p = d) = -1 := by
      rw [key d, fstI_nn, fstI_nn]
      constructor
      · intro z p p0 p1
        exact z p p0 (by omega)
      · intro z p p0 p1
        rcases (show p < i ∨ p = i by omega) with r | r
        · exact z p p0 r
        · rw [r]
          exact fun t => hd t.symm
    by_cases r : f d = e ∧ fstI i (fun p => q p = d) = -1
    · rw [b01_t r, b01_t ⟨r.1, this.mpr r.2⟩]
    · rw [b01_f r, b01_f (fun z => r ⟨z.1, this.mp z.2⟩)]), ← h.2.2.1 e h0 h1, e2 e h0 h1]
  have g1 : b01 (f (q i) = e ∧ fstI (i + 1) (fun p => q' p = q i) = -1) = 0 := b01_f (fun z => by
    rw [key, fstI_nn] at z
    exact z.2 i hw.1 (by omega) rfl)
  have g2 : fstI i (fun p => q p = q i) = -1 := fstI_nn.mpr (fun p a b => h.1.2.2.1 p i a b hi)
  show _ = c e + (b01 (f (q i) = e ∧ fstI (i + 1) (fun p => q' p = q i) = -1) - b01 (f (q i) = e ∧ fstI i (fun p => q p = q i) = -1))
  rw [g1]
  by_cases r : e = f (q i)
  · rw [if_pos r, b01_t ⟨r.symm, g2⟩]
    omega
  · rw [if_neg r, b01_f (fun z => r z.1.symm)]
    omega
theorem PL_n {f q c c' : Int → Int} {N i w : Int} (hf : ∀ d, 0 ≤ d → d < N → 0 ≤ f d ∧ f d < N) (h : PL f N q c i w) (hi : i < w) (e2 : ∀ e, 0 ≤ e → e < N → c' e = if e = f (q i) then c e - 1 else c e) (hz : ¬ c' (f (q i)) = 0) : PL f N q c' (i + 1) w := by
  have hq := h.1.2.1 i h.2.1.1 hi
  have hn := hf _ hq.1 hq.2.1
  have hge := PL_ge hf h hi
  have hh := h
  obtain ⟨⟨a, b, j, s, z⟩, ⟨i0, i1⟩, cc, nc⟩ := h
  have same : ∀ e, 0 ≤ e → e < N → (c' e = 0 ↔ c e = 0) := fun e h0 h1 => by
    rw [e2 e h0 h1]
    split
    next r =>
      rw [e2 _ hn.1 hn.2, if_pos rfl] at hz
      rw [r]
      omega
    next => exact Iff.rfl
  refine ⟨⟨a, fun p h0 h1 => ?_, j, fun e h0 h1 h2 => s e h0 h1 ((same e h0 h1).mp h2), ?_⟩, by omega, PL_cnt hf hh hi (fun _ _ _ => rfl) e2, nc⟩
  · have := b p h0 h1
    exact ⟨this.1, this.2.1, (same _ this.1 this.2.1).mpr this.2.2⟩
  · rw [z]
    refine sumI_cg (fun e h0 h1 => ?_)
    by_cases r : c e = 0
    · rw [b01_t r, b01_t ((same e h0 h1).mpr r)]
    · rw [b01_f r, b01_f (fun t => r ((same e h0 h1).mp t))]
theorem PL_lt {f q c : Int → Int} {N i w : Int} (hf : ∀ d, 0 ≤ d → d < N → 0 ≤ f d ∧ f d < N) (h : PL f N q c i w) (hi : i < w) : w < N := by
  have hq := h.1.2.1 i h.2.1.1 hi
  have hn := hf _ hq.1 hq.2.1
  have hge := PL_ge hf h hi
  have hz := h.1.2.2.2.2
  have h2 := sumI_two (N := N) (g := fun e => b01 (c e = 0)) (g' := fun e => b01 (¬ c e = 0)) (by omega) (fun e _ _ => by
    show b01 _ + b01 _ = 1
    by_cases r : c e = 0
    · rw [b01_t r, b01_f (fun t => t r)]; rfl
    · rw [b01_f r, b01_t r]; rfl)
  have h3 := (sumI_ge (g := fun e => b01 (¬ c e = 0)) hn.1 hn.2 (fun d _ _ => by rcases b01_01 (P := ¬ c d = 0) with r | r <;> omega)).2
  have h4 : b01 (¬ c (f (q i)) = 0) = 1 := b01_t (by omega)
  have h5 : b01 (¬ c (f (q i)) = 0) ≤ sumI N (fun e => b01 (¬ c e = 0)) := h3
  omega
theorem PL_y {f q q' c c' : Int → Int} {N i w : Int} (hf : ∀ d, 0 ≤ d → d < N → 0 ≤ f d ∧ f d < N) (h : PL f N q c i w) (hi : i < w) (e1 : ∀ p, 0 ≤ p → p < w → q' p = q p) (e3 : q' w = f (q i)) (e2 : ∀ e, 0 ≤ e → e < N → c' e = if e = f (q i) then c e - 1 else c e) (hz : c' (f (q i)) = 0) : PL f N q' c' (i + 1) (w + 1) := by
  have hq := h.1.2.1 i h.2.1.1 hi
  have hn := hf _ hq.1 hq.2.1
  have hge := PL_ge hf h hi
  have hlt := PL_lt hf h hi
  have hcn := PL_cnt hf h hi e1 e2
  have hh := h
  obtain ⟨⟨a, b, j, s, z⟩, ⟨i0, i1⟩, cc, nc⟩ := h
  have other : ∀ e, 0 ≤ e → e < N → ¬ e = f (q i) → c' e = c e := fun e h0 h1 r => by rw [e2 e h0 h1, if_neg r]
  have hne : ∀ p, 0 ≤ p → p < w → ¬ q p = f (q i) := fun p h0 h1 r => by
    have := (b p h0 h1).2.2
    rw [r] at this
    omega
  refine ⟨⟨by omega, fun p h0 h1 => ?_, fun p p' h0 h1 h2 => ?_, fun e h0 h1 h2 => ?_, ?_⟩, by omega, hcn, fun p h0 h1 => ?_⟩
  · rcases (show p < w ∨ p = w by omega) with r | r
    · have := b p h0 r
      rw [e1 p h0 r]
      exact ⟨this.1, this.2.1, by rw [other _ this.1 this.2.1 (hne p h0 r)]; exact this.2.2⟩
    · rw [r, e3]
      exact ⟨hn.1, hn.2, hz⟩
  · rcases (show p' < w ∨ p' = w by omega) with r | r
    · rw [e1 p h0 (by omega), e1 p' (by omega) r]
      exact j p p' h0 h1 r
    · rw [r, e3, e1 p h0 (by omega)]
      exact hne p h0 (by omega)
  · by_cases r : e = f (q i)
    · exact ⟨w, by omega, by omega, by rw [e3, r]⟩
    · rw [other e h0 h1 r] at h2
      obtain ⟨p, p0, p1, p2⟩ := s e h0 h1 h2
      exact ⟨p, p0, by omega, by rw [e1 p p0 p1]; exact p2⟩
  · rw [sumI_chg (a := f (q i)) (g := fun e => b01 (c e = 0)) hn.1 hn.2 (fun e h0 h1 r => by show b01 _ = b01 _; rw [other e h0 h1 r]), ← z]
    show _ = w + (b01 (c' (f (q i)) = 0) - b01 (c (f (q i)) = 0))
    rw [b01_t hz, b01_f (show ¬ c (f (q i)) = 0 by omega)]
    omega
  · rcases (show p < w ∨ p = w by omega) with r | r
    · rw [e1 p h0 r]
      exact nc p h0 r
    · rw [r, e3]
      refine not_cyc hf hn.1 hn.2 (fun d a0 a1 a2 => ?_)
      have h3 := hcn _ hn.1 hn.2
      have h4 := (sumI_ge (g := fun d => b01 (f d = f (q i) ∧ fstI (i + 1) (fun p => q' p = d) = -1)) a0 a1 (fun d _ _ => by rcases b01_01 (P := f d = f (q i) ∧ fstI (i + 1) (fun p => q' p = d) = -1) with r | r <;> omega)).2
      have h5 : b01 (f d = f (q i) ∧ fstI (i + 1) (fun p => q' p = d) = -1) ≤ sumI N (fun d => b01 (f d = f (q i) ∧ fstI (i + 1) (fun p => q' p = d) = -1)) := h4
      by_cases t : fstI (i + 1) (fun p => q' p = d) = -1
      · rw [b01_t ⟨a2, t⟩] at h5
        omega
      · rcases fstI_spec (i + 1) (fun p => q' p = d) with ⟨t1, -⟩ | ⟨t1, t2, t3, -⟩
        · exact absurd t1 t
        · rw [← t3, e1 _ t1 (by omega)]
          exact nc _ t1 (by omega)
/-- in the end: what is left are the dots that come back -/
theorem PL_end {f q c : Int → Int} {N w e : Int} (hf : ∀ d, 0 ≤ d → d < N → 0 ≤ f d ∧ f d < N) (h : PL f N q c w w) (h0 : 0 ≤ e) (h1 : e < N) : ¬ c e = 0 ↔ ¬ fstI (N + 1) (fun n => itF f (n.toNat + 1) e = e) = -1 := by
  constructor
  · intro hc
    -- a way back
    have back : ∀ x, 0 ≤ x → x < N → ¬ c x = 0 → (0 ≤ fstI N (fun d => f d = x ∧ ¬ c d = 0) ∧ fstI N (fun d => f d = x ∧ ¬ c d = 0) < N) ∧ ¬ c (fstI N (fun d => f d = x ∧ ¬ c d = 0)) = 0 ∧ f (fstI N (fun d => f d = x ∧ ¬ c d = 0)) = x := by
      intro x x0 x1 hx
      rw [h.2.2.1 x x0 x1] at hx
      obtain ⟨d, d0, d1, d2⟩ := sumI_ex hx
      have d3 : f d = x ∧ fstI w (fun p => q p = d) = -1 := Decidable.not_not.mp (fun z => d2 (b01_f z))
      have d4 : ¬ c d = 0 := fun z => by
        obtain ⟨p, p0, p1, p2⟩ := h.1.2.2.2.1 d d0 d1 z
        exact fstI_nn.mp d3.2 p p0 p1 p2
      rcases fstI_spec N (fun d => f d = x ∧ ¬ c d = 0) with ⟨-, t⟩ | ⟨t1, t2, t3, -⟩
      · exact absurd ⟨d3.1, d4⟩ (t d d0 d1)
      · exact ⟨⟨t1, t2⟩, t3.2, t3.1⟩
    generalize hg : (fun x : Int => fstI N (fun d => f d = x ∧ ¬ c d = 0)) = g at *
    have back : ∀ x, 0 ≤ x → x < N → ¬ c x = 0 → (0 ≤ g x ∧ g x < N) ∧ ¬ c (g x) = 0 ∧ f (g x) = x := by
      intro x x0 x1 hx
      have := back x x0 x1 hx
      rw [← hg]
      exact this
    have stay : ∀ (n : Nat) x, 0 ≤ x → x < N → ¬ c x = 0 → (0 ≤ itF g n x ∧ itF g n x < N) ∧ ¬ c (itF g n x) = 0 := by
      intro n x x0 x1 hx
      induction n with
      | zero => exact ⟨⟨x0, x1⟩, hx⟩
      | succ n ih =>
        have := back _ ih.1.1 ih.1.2 ih.2
        exact ⟨this.1, this.2.1⟩
    have undo : ∀ (n : Nat) x, 0 ≤ x → x < N → ¬ c x = 0 → itF f n (itF g n x) = x := by
      intro n x x0 x1 hx
      induction n with
      | zero => rfl
      | succ n ih =>
        have s := stay n x x0 x1 hx
        rw [itF_add (m := n) (n := 1)]
        show itF f n (f (g (itF g n x))) = x
        rw [(back _ s.1.1 s.1.2 s.2).2.2, ih]
    obtain ⟨a, b, ab, bn, e1⟩ := php N.toNat (fun n => itF g n e) (fun i _ => by
      have := (stay i e h0 h1 hc).1
      show 0 ≤ itF g i e ∧ itF g i e < _
      omega)
    have e1 : itF g a e = itF g b e := e1
    have u1 := undo a e h0 h1 hc
    have st := stay (b - a) e h0 h1 hc
    have u2 := undo a (itF g (b - a) e) st.1.1 st.1.2 st.2
    rw [← itF_add (f := g), show a + (b - a) = b by omega, ← e1, u1] at u2
    have u3 := undo (b - a) e h0 h1 hc
    rw [← u2] at u3
    intro z
    have := fstI_nn.mp z ((b - a - 1 : Nat) : Int) (by omega) (by omega)
    apply this
    show itF f (((b - a - 1 : Nat) : Int).toNat + 1) e = e
    rw [show ((b - a - 1 : Nat) : Int).toNat + 1 = b - a by omega]
    exact u3
  · intro hz hc
    rcases fstI_spec (N + 1) (fun n => itF f (n.toNat + 1) e = e) with ⟨t, -⟩ | ⟨t1, t2, t3, -⟩
    · exact hz t
    · obtain ⟨p, p0, p1, p2⟩ := h.1.2.2.2.1 e h0 h1 hc
      apply h.2.2.2 p p0 p1
      rw [p2]
      exact ⟨_, by omega, t3⟩
theorem itN_F {v : mz_G} {l : List tr3} {n : Nat} {d : Int} : itN v l n d = itF (ne v l) n d := by
  induction n with
  | zero => rfl
  | succ n ih => show ne v l (itN v l n d) = ne v l (itF (ne v l) n d); rw [ih]
def aLoops (v : mz_G) (l : List tr3) : Int := sumI (v 0 0 * v 0 1) (fun k => b01 (¬ fstI (v 0 0 * v 0 1 + 1) (fun n => itN v l (n.toNat + 1) k = k) = -1))
theorem PL_ans {v : mz_G} {l : List tr3} {q c : Int → Int} {w : Int} (hG : GO v l) (h : PL (ne v l) (v 0 0 * v 0 1) q c w w) : v 0 0 * v 0 1 - w = aLoops v l := by
  have hf : ∀ d, 0 ≤ d → d < v 0 0 * v 0 1 → 0 ≤ ne v l d ∧ ne v l d < v 0 0 * v 0 1 := fun d a b => ne_in hG a b
  have hN := WH_bd hG.1.1
  have h2 := sumI_two (N := v 0 0 * v 0 1) (g := fun e => b01 (c e = 0)) (g' := fun k => b01 (¬ fstI (v 0 0 * v 0 1 + 1) (fun n => itN v l (n.toNat + 1) k = k) = -1)) (by omega) (fun e h0 h1 => by
    show b01 _ + b01 _ = 1
    have key := PL_end hf h h0 h1
    have e1 : fstI (v 0 0 * v 0 1 + 1) (fun n => itN v l (n.toNat + 1) e = e) = fstI (v 0 0 * v 0 1 + 1) (fun n => itF (ne v l) (n.toNat + 1) e = e) := fstI_cg (fun n _ _ => by rw [itN_F])
    rw [e1]
    by_cases r : c e = 0
    · rw [b01_t r, b01_f (fun t => key.mpr t r)]; rfl
    · rw [b01_f r, b01_t (key.mp r)]; rfl)
  have h3 := h.1.2.2.2.2
  unfold aLoops
  omega
