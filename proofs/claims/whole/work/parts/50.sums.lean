/-! the mathematics of the net: sums over lists, antisymmetric sums, ways along the sides -/
def lsm {α : Type} (f : α → Int) : List α → Int
  | [] => 0
  | a :: r => f a + lsm f r
theorem lsm_app {α : Type} {f : α → Int} {l m : List α} : lsm f (l ++ m) = lsm f l + lsm f m := by
  induction l with
  | nil => simp [lsm]
  | cons a r ih => simp only [List.cons_append, lsm, ih]; omega
theorem lsm_cg {α : Type} {f g : α → Int} {l : List α} (h : ∀ x ∈ l, f x = g x) : lsm f l = lsm g l := by
  induction l with
  | nil => rfl
  | cons a r ih => simp only [lsm]; rw [h a List.mem_cons_self, ih (fun x hx => h x (List.mem_cons_of_mem _ hx))]
theorem lsm_add {α : Type} {f g : α → Int} {l : List α} : lsm (fun x => f x + g x) l = lsm f l + lsm g l := by
  induction l with
  | nil => rfl
  | cons a r ih => simp only [lsm, ih]; omega
theorem lsm_perm {α : Type} {f : α → Int} {l m : List α} (h : l.Perm m) : lsm f l = lsm f m := by
  induction h with
  | nil => rfl
  | cons x _ ih => simp only [lsm, ih]
  | swap x y l => simp only [lsm]; omega
  | trans _ _ h1 h2 => exact h1.trans h2
theorem lsm_flt {α : Type} {f : α → Int} {p : α → Bool} {l : List α} : lsm f (l.filter p) = lsm (fun x => if p x = true then f x else 0) l := by
  induction l with
  | nil => rfl
  | cons a r ih =>
    rw [List.filter_cons]
    by_cases q : p a = true
    · rw [if_pos q]; simp only [lsm]; rw [if_pos q, ih]
    · rw [if_neg q]; simp only [lsm]; rw [if_neg q, ih]; omega
theorem lsm_fm {α β : Type} {g : α → List β} {f : β → Int} {l : List α} : lsm f (l.flatMap g) = lsm (fun x => lsm f (g x)) l := by
  induction l with
  | nil => rfl
  | cons a r ih => rw [List.flatMap_cons, lsm_app, ih]; rfl
theorem lsm_map {α β : Type} {g : α → β} {f : β → Int} {l : List α} : lsm f (l.map g) = lsm (fun x => f (g x)) l := by
  induction l with
  | nil => rfl
  | cons a r ih => rw [List.map_cons]; simp only [lsm]; rw [ih]
theorem lsm_nn {α : Type} {f : α → Int} {l : List α} (h : ∀ x ∈ l, 0 ≤ f x) : 0 ≤ lsm f l := by
  induction l with
  | nil => exact Int.le_refl 0
  | cons a r ih =>
    have h1 := h a List.mem_cons_self
    have h2 := ih (fun x hx => h x (List.mem_cons_of_mem _ hx))
    simp only [lsm]
    omega
theorem lsm_le {α : Type} {f g : α → Int} {l : List α} (h : ∀ x ∈ l, f x ≤ g x) : lsm f l ≤ lsm g l := by
  induction l with
  | nil => exact Int.le_refl 0
  | cons a r ih =>
    have h1 := h a List.mem_cons_self
    have h2 := ih (fun x hx => h x (List.mem_cons_of_mem _ hx))
    simp only [lsm]
    omega
theorem lsm_len {α : Type} {l : List α} {c : Int} : lsm (fun _ => c) l = c * (l.length : Int) := by
  induction l with
  | nil => simp [lsm]
  | cons a r ih =>
    simp only [lsm, ih, List.length_cons]
    rw [show ((r.length + 1 : Nat) : Int) = (r.length : Int) + 1 by omega, Int.mul_add]
    omega
theorem lsm_mem {α : Type} {f : α → Int} {l : List α} {x : α} (h : ∀ x ∈ l, 0 ≤ f x) (hx : x ∈ l) : f x ≤ lsm f l := by
  induction l with
  | nil => cases hx
  | cons a r ih =>
    have h1 := h a List.mem_cons_self
    have h2 := lsm_nn (fun x hx => h x (List.mem_cons_of_mem _ hx) : ∀ x ∈ r, 0 ≤ f x)
    simp only [lsm]
    rcases List.mem_cons.mp hx with rfl | q
    · omega
    · have := ih (fun x hx => h x (List.mem_cons_of_mem _ hx)) q
      omega
theorem lsm_ex {α : Type} {f : α → Int} {l : List α} (h : ¬ lsm f l = 0) : ∃ x ∈ l, ¬ f x = 0 := by
  induction l with
  | nil => exact absurd rfl h
  | cons a r ih =>
    simp only [lsm] at h
    by_cases q : f a = 0
    · rw [q, Int.zero_add] at h
      obtain ⟨x, h1, h2⟩ := ih h
      exact ⟨x, List.mem_cons_of_mem _ h1, h2⟩
    · exact ⟨a, List.mem_cons_self, q⟩
theorem lsm_z {α : Type} {f : α → Int} {l : List α} (h : ∀ x ∈ l, f x = 0) : lsm f l = 0 := by
  apply Decidable.not_not.mp
  intro q
  obtain ⟨x, h1, h2⟩ := lsm_ex q
  exact h2 (h x h1)
theorem lsm_sum {F : tr3 → Int} {l : List tr3} : sumI (l.length : Int) (fun i => F (tg l i)) = lsm F l := by
  have key : ∀ n : Nat, n ≤ l.length → sumI (n : Int) (fun i => F (tg l i)) = lsm F (l.take n) := by
    intro n
    induction n with
    | zero => intro _; rw [List.take_zero]; rfl
    | succ n ih =>
      intro hn
      have g := tg_get (l := l) (t := (n : Int)) (by omega) (by omega)
      rw [Int.toNat_natCast] at g
      rw [show ((n + 1 : Nat) : Int) = (n : Int) + 1 by omega, sumI_s (by omega), ih (by omega), List.take_succ, g, lsm_app]
      simp [lsm]
  rw [key l.length (Nat.le_refl _), List.take_length]
/-- the sum of a function of directed edges over a triangle's edges; antisymmetric functions -/
def bd (f : Int → Int → Int) (t : tr3) : Int := f t.1 t.2.1 + f t.2.1 t.2.2 + f t.2.2 t.1
def An (f : Int → Int → Int) : Prop := ∀ a b, f a b = -f b a
/-- ways: from a along the list r; their sums; their order c, their members M, their end e -/
def pS (f : Int → Int → Int) : Int → List Int → Int
  | _, [] => 0
  | a, b :: r => f a b + pS f b r
def Pth (c : Int → Int) (M : Int → Prop) (e : Int) : Int → List Int → Prop
  | a, [] => a = e
  | a, b :: r => c a < c b ∧ M b ∧ Pth c M e b r
theorem pS_tel {c : Int → Int} {M : Int → Prop} {e : Int} {h : Int → Int} : ∀ {r : List Int} {a : Int}, Pth c M e a r → pS (fun x y => h x - h y) a r = h a - h e
  | [], a, hp => by
    have : a = e := hp
    subst this
    simp [pS]
  | b :: r, a, hp => by
    obtain ⟨-, -, h3⟩ := hp
    have := pS_tel (h := h) h3
    simp only [pS]
    omega
theorem pS_cg {c : Int → Int} {M : Int → Prop} {e : Int} {f g : Int → Int → Int} : ∀ {r : List Int} {a : Int}, Pth c M e a r → M a → (∀ x y, M x → M y → c x < c y → f x y = g x y) → pS f a r = pS g a r
  | [], a, hp, _, _ => rfl
  | b :: r, a, hp, ha, h => by
    obtain ⟨h1, h2, h3⟩ := hp
    simp only [pS]
    rw [h a b ha h2 h1, pS_cg h3 h2 h]
theorem pS_add {f g : Int → Int → Int} : ∀ {r : List Int} {a : Int}, pS (fun x y => f x y + g x y) a r = pS f a r + pS g a r
  | [], a => rfl
  | b :: r, a => by
    simp only [pS]
    rw [pS_add]
    omega
theorem pS_mul {f : Int → Int → Int} {k : Int} : ∀ {r : List Int} {a : Int}, pS (fun x y => f x y * k) a r = pS f a r * k
  | [], a => by simp [pS]
  | b :: r, a => by
    simp only [pS]
    rw [pS_mul, Int.add_mul]
theorem pS_one : ∀ {r : List Int} {a : Int}, pS (fun _ _ => 1) a r = (r.length : Int)
  | [], a => rfl
  | b :: r, a => by
    simp only [pS]
    rw [pS_one, List.length_cons]
    omega
theorem pS_0 : ∀ {r : List Int} {a : Int}, pS (fun _ _ => 0) a r = 0
  | [], a => rfl
  | b :: r, a => by
    simp only [pS]
    rw [pS_0]
    omega
theorem pS_nn {f : Int → Int → Int} (h : ∀ x y, 0 ≤ f x y) : ∀ {r : List Int} {a : Int}, 0 ≤ pS f a r
  | [], a => Int.le_refl 0
  | b :: r, a => by
    have := h a b
    have := pS_nn (f := f) h (r := r) (a := b)
    simp only [pS]
    omega
theorem Pth_le {c : Int → Int} {M : Int → Prop} {e : Int} : ∀ {r : List Int} {a : Int}, Pth c M e a r → c a ≤ c e ∧ ∀ x ∈ r, c a < c x ∧ c x ≤ c e ∧ M x
  | [], a, hp => by
    have : a = e := hp
    subst this
    exact ⟨Int.le_refl _, fun x hx => by cases hx⟩
  | b :: r, a, hp => by
    obtain ⟨h1, h2, h3⟩ := hp
    have ih := Pth_le h3
    refine ⟨by omega, fun x hx => ?_⟩
    rcases List.mem_cons.mp hx with rfl | q
    · exact ⟨h1, ih.1, h2⟩
    · have := ih.2 x q
      exact ⟨by omega, this.2.1, this.2.2⟩
theorem Pth_ne {c : Int → Int} {M : Int → Prop} {e : Int} {r : List Int} {a : Int} (h : Pth c M e a r) (hc : ¬ a = e) : ¬ r = [] := by
  intro q
  subst q
  exact hc h
theorem Pth_mono {c c' : Int → Int} {M M' : Int → Prop} {e : Int} : ∀ {r : List Int} {a : Int}, Pth c M e a r → M a → (∀ x, M x → M' x ∧ c' x = c x) → Pth c' M' e a r
  | [], a, hp, _, _ => hp
  | b :: r, a, hp, ha, h => by
    obtain ⟨h1, h2, h3⟩ := hp
    have e1 := h a ha
    have e2 := h b h2
    exact ⟨by rw [e1.2, e2.2]; exact h1, e2.1, Pth_mono h3 h2 h⟩
/-- a new member P of a way goes between -/
def pI (c : Int → Int) (P : Int) : Int → List Int → List Int
  | _, [] => []
  | a, b :: r => if c b < c P then b :: pI c P b r else P :: b :: r
theorem pI_ok {c : Int → Int} {M : Int → Prop} {e P : Int} (hP : M P) : ∀ {r : List Int} {a : Int}, Pth c M e a r → c a < c P → c P < c e → (∀ x ∈ r, ¬ c x = c P) → Pth c M e a (pI c P a r) ∧ (pI c P a r).length = r.length + 1 ∧ (∀ x, x ∈ pI c P a r ↔ x = P ∨ x ∈ r)
  | [], a, hp, h1, h2, _ => by
    have : a = e := hp
    subst this
    omega
  | b :: r, a, hp, h1, h2, hx => by
    obtain ⟨k1, k2, k3⟩ := hp
    unfold pI
    by_cases q : c b < c P
    · rw [if_pos q]
      obtain ⟨i1, i2, i3⟩ := pI_ok hP k3 q h2 (fun x hx' => hx x (List.mem_cons_of_mem _ hx'))
      refine ⟨⟨k1, k2, i1⟩, by rw [List.length_cons, i2, List.length_cons], fun x => ?_⟩
      rw [List.mem_cons, i3, List.mem_cons]
      constructor
      · rintro (z | z | z) <;> simp [z]
      · rintro (z | z | z) <;> simp [z]
    · rw [if_neg q]
      have := hx b List.mem_cons_self
      refine ⟨⟨h1, hP, by omega, k2, k3⟩, by simp, fun x => by simp⟩
theorem pI_S {c : Int → Int} {M : Int → Prop} {e P : Int} {f g : Int → Int → Int} : ∀ {r : List Int} {a : Int}, Pth c M e a r → M a → c a < c P → c P < c e → (∀ x ∈ r, ¬ c x = c P) → (∀ x y, M x → M y → c x < c y → g x y = if c x < c P ∧ c P < c y then f x P + f P y else f x y) → pS f a (pI c P a r) = pS g a r
  | [], a, hp, _, h1, h2, _, _ => by
    have : a = e := hp
    subst this
    omega
  | b :: r, a, hp, ha, h1, h2, hx, hg => by
    obtain ⟨k1, k2, k3⟩ := hp
    have hb := hx b List.mem_cons_self
    unfold pI
    by_cases q : c b < c P
    · rw [if_pos q]
      simp only [pS]
      rw [pI_S k3 k2 q h2 (fun x hx' => hx x (List.mem_cons_of_mem _ hx')) hg, hg a b ha k2 k1, if_neg (by omega)]
    · rw [if_neg q]
      simp only [pS]
      rw [hg a b ha k2 k1, if_pos ⟨h1, by omega⟩]
      have key : pS f b r = pS g b r := by
        have hall : ∀ {r : List Int} {b : Int}, Pth c M e b r → M b → c P < c b → pS f b r = pS g b r := by
          intro r
          induction r with
          | nil => intro b _ _ _; rfl
          | cons d r ih =>
            intro b hp hm hlt
            obtain ⟨j1, j2, j3⟩ := hp
            simp only [pS]
            rw [hg b d hm j2 j1, if_neg (by omega), ih j3 j2 (by omega)]
        exact hall k3 k2 (by omega)
      rw [key]
      omega
/-- a member goes -/
theorem pE_ok {c : Int → Int} {M : Int → Prop} {e P : Int} (hPe : ¬ P = e) : ∀ {r : List Int} {a : Int}, Pth c M e a r → P ∈ r → ∃ (x y : Int) (r' : List Int), (Pth c M e a r' ∧ r'.length + 1 = r.length ∧ (∀ z, z ∈ r' ↔ z ∈ r ∧ ¬ z = P)) ∧ ((x = a ∨ x ∈ r) ∧ y ∈ r ∧ c x < c P ∧ c P < c y) ∧ (∀ f : Int → Int → Int, pS f a r = pS f a r' + f x P + f P y - f x y) ∧ ∀ z, (z ∈ r → (z = y ∨ z = P ∨ c z ≤ c x ∨ c y < c z))
  | [], a, hp, hm => by cases hm
  | b :: r, a, hp, hm => by
    obtain ⟨k1, k2, k3⟩ := hp
    by_cases q : b = P
    · subst q
      match r, k3 with
      | [], k3 => exact absurd k3 hPe
      | d :: r, k3 =>
        obtain ⟨j1, j2, j3⟩ := k3
        have hl := Pth_le j3
        refine ⟨a, d, d :: r, ⟨⟨by omega, j2, j3⟩, by simp, fun z => ?_⟩, ⟨Or.inl rfl, by simp, k1, j1⟩, fun f => ?_, fun z hz => ?_⟩
        · constructor
          · intro hz
            refine ⟨List.mem_cons_of_mem _ hz, fun z1 => ?_⟩
            subst z1
            rcases List.mem_cons.mp hz with z2 | z2
            · subst z2; omega
            · have := (hl.2 _ z2).1
              omega
          · rintro ⟨z1, z2⟩
            rcases List.mem_cons.mp z1 with z3 | z3
            · exact absurd z3 z2
            · exact z3
        · simp only [pS]
          omega
        · rcases List.mem_cons.mp hz with z1 | z1
          · exact Or.inr (Or.inl z1)
          · rcases List.mem_cons.mp z1 with z2 | z2
            · exact Or.inl z2
            · exact Or.inr (Or.inr (Or.inr (hl.2 _ z2).1))
    · have hm2 : P ∈ r := by
        rcases List.mem_cons.mp hm with z | z
        · exact absurd z.symm q
        · exact z
      obtain ⟨x, y, r', ⟨i1, i2, i3⟩, ⟨i4, i5, i6, i7⟩, i8, i9⟩ := pE_ok hPe k3 hm2
      have hl := Pth_le k3
      refine ⟨x, y, b :: r', ⟨⟨k1, k2, i1⟩, by simp only [List.length_cons]; omega, fun z => ?_⟩, ⟨?_, List.mem_cons_of_mem _ i5, i6, i7⟩, fun f => ?_, fun z hz => ?_⟩
      · rw [List.mem_cons, i3, List.mem_cons]
        constructor
        · rintro (z1 | ⟨z1, z2⟩)
          · exact ⟨Or.inl z1, by rw [z1]; exact q⟩
          · exact ⟨Or.inr z1, z2⟩
        · rintro ⟨z1 | z1, z2⟩
          · exact Or.inl z1
          · exact Or.inr ⟨z1, z2⟩
      · right
        rcases i4 with z | z
        · rw [z]; exact List.mem_cons_self
        · exact List.mem_cons_of_mem _ z
      · simp only [pS]
        rw [i8 f]
        omega
      · rcases List.mem_cons.mp hz with z1 | z1
        · right; right; left
          rcases i4 with z2 | z2
          · rw [z2, z1]; exact Int.le_refl _
          · have := (hl.2 _ z2).1
            rw [z1]; omega
        · exact i9 z z1
