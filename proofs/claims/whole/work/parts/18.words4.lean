/-! the words for what changes the net -/
/-- the triangles above t that P names are gone -/
def rmT (P : tr3 → Prop) [DecidablePred P] (l : List tr3) (t : Int) : List tr3 := l.take (t + 1).toNat ++ (l.drop (t + 1).toNat).filter (fun x => !decide (P x))
theorem rmT_0 {P : tr3 → Prop} [DecidablePred P] {l : List tr3} {t : Int} (h : t = (l.length : Int) - 1) : rmT P l t = l := by
  unfold rmT
  rw [List.take_of_length_le (by omega), List.drop_of_length_le (by omega)]
  simp
theorem rmT_end {P : tr3 → Prop} [DecidablePred P] {l : List tr3} : rmT P l (-1) = l.filter (fun x => !decide (P x)) := by
  unfold rmT
  simp
theorem rmT_len {P : tr3 → Prop} [DecidablePred P] {l : List tr3} {t : Int} : (rmT P l t).length ≤ l.length := by
  unfold rmT
  have := List.length_filter_le (fun x => !decide (P x)) (l.drop (t + 1).toNat)
  rw [List.length_append, List.length_take]
  rw [List.length_drop] at this
  omega
theorem rmT_lt {P : tr3 → Prop} [DecidablePred P] {l : List tr3} {t : Int} (h0 : 0 ≤ t) (h1 : t < l.length) : t < ((rmT P l t).length : Int) := by
  unfold rmT
  rw [List.length_append, List.length_take]
  omega
theorem rmT_get {P : tr3 → Prop} [DecidablePred P] {l : List tr3} {t : Int} (h0 : 0 ≤ t) (h1 : t < l.length) : tg (rmT P l t) t = tg l t := by
  have a := tg_get h0 h1
  have b := tg_get (l := rmT P l t) h0 (rmT_lt h0 h1)
  unfold rmT at b
  rw [List.getElem?_append_left (by rw [List.length_take]; omega), List.getElem?_take_of_lt (by omega), a] at b
  unfold rmT
  exact (Option.some.inj b).symm
theorem rmT_cut {l : List tr3} {t : Int} (h0 : 0 ≤ t) (h1 : t < l.length) : l.take (t + 1).toNat = l.take t.toNat ++ [tg l t] ∧ l.drop t.toNat = tg l t :: l.drop (t + 1).toNat := by
  have a := tg_get h0 h1
  have e : (t + 1).toNat = t.toNat + 1 := by omega
  rw [e]
  refine ⟨by rw [List.take_succ, a]; rfl, ?_⟩
  have hlt : t.toNat < l.length := by omega
  rw [List.drop_eq_getElem_cons hlt]
  rw [List.getElem?_eq_getElem hlt] at a
  rw [Option.some.inj a]
theorem rmT_no {P : tr3 → Prop} [DecidablePred P] {l : List tr3} {t : Int} (h0 : 0 ≤ t) (h1 : t < l.length) (h : ¬ P (tg l t)) : rmT P l (t + -1) = rmT P l t := by
  obtain ⟨a, b⟩ := rmT_cut h0 h1
  unfold rmT
  rw [show (t + -1 + 1).toNat = t.toNat by omega, a, b, List.filter_cons]
  simp [h]
theorem rmT_yes {P : tr3 → Prop} [DecidablePred P] {l : List tr3} {t : Int} (h0 : 0 ≤ t) (h1 : t < l.length) (h : P (tg l t)) : (rmT P l t).eraseIdx t.toNat = rmT P l (t + -1) := by
  obtain ⟨a, b⟩ := rmT_cut h0 h1
  unfold rmT
  rw [show (t + -1 + 1).toNat = t.toNat by omega, a, b, List.filter_cons]
  simp only [h, decide_true, Bool.not_true]
  rw [List.append_assoc, List.eraseIdx_append_of_length_le (by rw [List.length_take]; omega)]
  rw [show t.toNat - (List.take t.toNat l).length = 0 by rw [List.length_take]; omega]
  rfl
theorem rmT_sub {P : tr3 → Prop} [DecidablePred P] {l : List tr3} {t : Int} : (rmT P l t).Sublist l := by
  unfold rmT
  conv => rhs; rw [← List.take_append_drop (t + 1).toNat l]
  exact List.Sublist.append (List.Sublist.refl _) List.filter_sublist
theorem sub_Sd {l l' : List tr3} (h : Sd l) (hs : l'.Sublist l) : Sd l' := List.Pairwise.sublist hs h
theorem sub_Rt {n : Int} {l l' : List tr3} (h : Rt n l) (hs : l'.Sublist l) : Rt n l' := fun x hx => h x (hs.subset hx)
theorem Rt_up {n m : Int} {l : List tr3} (h : Rt n l) (hnm : n ≤ m) : Rt m l := fun x hx => by
  have := h x hx
  omega
theorem sub_Bs {v : mz_G} {l l' : List tr3} (h : Bs v l) (hs : l'.Sublist l) : Bs v l' := ⟨h.1, sub_Rt h.2.1 hs, by have := hs.length_le; have := h.2.2; omega⟩
/-- the triangles of a knot k and the edges m are added one by one -/
def adN (k : Int) (m : List (Int × Int)) (l : List tr3) : List tr3 := m.foldl (fun l e => ins (nrm e.1 e.2 k) l) l
theorem adN_s {k i : Int} {m : List (Int × Int)} {l : List tr3} (h0 : 0 ≤ i) (h1 : i < m.length) : adN k (m.take (i + 1).toNat) l = ins (nrm (mg m i).1 (mg m i).2 k) (adN k (m.take i.toNat) l) := by
  unfold adN
  rw [show (i + 1).toNat = i.toNat + 1 by omega, List.take_succ, mg_get h0 h1, List.foldl_append]
  rfl
theorem adN_0 {k : Int} {m : List (Int × Int)} {l : List tr3} : adN k (m.take (0 : Int).toNat) l = l := by simp [adN]
theorem adN_all {k i : Int} {m : List (Int × Int)} {l : List tr3} (h : i = m.length) : adN k (m.take i.toNat) l = adN k m l := by
  rw [List.take_of_length_le (by omega)]
theorem adN_len {k : Int} {m : List (Int × Int)} {l : List tr3} : (adN k m l).length = l.length + m.length := by
  induction m generalizing l with
  | nil => rfl
  | cons e m ih =>
    show (adN k m (ins _ l)).length = _
    rw [ih, ins_len, List.length_cons]
    omega
theorem adN_Sd {k : Int} {m : List (Int × Int)} {l : List tr3} (h : Sd l) : Sd (adN k m l) := by
  induction m generalizing l with
  | nil => exact h
  | cons e m ih => exact ih (ins_Sd h)
theorem adN_Rt {n k : Int} {m : List (Int × Int)} {l : List tr3} (h : Rt n l) (hk : 0 ≤ k ∧ k < n) (hm : ∀ e ∈ m, (0 ≤ e.1 ∧ e.1 < n) ∧ (0 ≤ e.2 ∧ e.2 < n)) : Rt n (adN k m l) := by
  induction m generalizing l with
  | nil => exact h
  | cons e m ih => exact ih (ins_Rt h (nrm_rg (hm e List.mem_cons_self).1 (hm e List.mem_cons_self).2 hk)) (fun d hd => hm d (List.mem_cons_of_mem _ hd))
/-- a new knot -/
def vin (v : mz_G) (a b x y : Int) : mz_G := fun c i => if c = 0 ∧ i = 2 then v 0 2 + 1 else if (i : Int) = v 0 2 ∧ c = 1 then a else if (i : Int) = v 0 2 ∧ c = 2 then b else if (i : Int) = v 0 2 ∧ c = 3 then x else if (i : Int) = v 0 2 ∧ c = 4 then y else v c i
theorem CA_vin {σ σ' v : mz_G} {l : List tr3} {a b x y : Int} (h : CA σ v l) (hR : Rg v) (e1 : ∀ j, σ' 16 j = if (j : Int) = v 0 2 then a else σ 16 j) (e2 : ∀ j, σ' 17 j = if (j : Int) = v 0 2 then b else σ 17 j) (e3 : ∀ j, σ' 18 j = if (j : Int) = v 0 2 then x else σ 18 j) (e4 : ∀ j, σ' 19 j = if (j : Int) = v 0 2 then y else σ 19 j) (e5 : σ' 1 7 = v 0 2 + 1) (e6 : σ' 1 8 = σ 1 8 ∧ σ' 1 9 = σ 1 9 ∧ σ' 11 1 = σ 11 1) (e7 : ∀ c, c = 4 ∨ c = 22 → ∀ j, σ' c j = σ c j) : CA σ' (vin v a b x y) l := by
  obtain ⟨⟨a1, a2, a3, a4⟩, a5, a6, a7⟩ := h
  obtain ⟨hW, hH, hn, -⟩ := hR
  have w0 : vin v a b x y 0 0 = v 0 0 := by simp [vin]
  have w1 : vin v a b x y 0 1 = v 0 1 := by simp [vin]
  have w2 : vin v a b x y 0 2 = v 0 2 + 1 := by simp [vin]
  refine ⟨⟨by rw [w0, e6.1]; exact a1, by rw [w1, e6.2.1]; exact a2, by rw [w2]; exact e5, by rw [e6.2.2]; exact a4⟩, fun k hk => ?_, fun t z hz => by rw [e7 22 (by simp)]; exact a6 t z hz, fun d hd => ?_⟩
  · rw [w2] at hk
    rw [e1, e2, e3, e4]
    by_cases q : (k : Int) = v 0 2
    · simp [vin, q]
    · have := a5 k (by omega)
      simp [vin, q, this]
  · rw [w0, w1] at hd
    rw [e7 4 (by simp)]
    have := a7 d hd
    simp [vin, this]
/-- nothing but the net has changed -/
def Fn (σ σ' : mz_G) : Prop := ∀ c i, ¬ (c = 1 ∨ c = 11 ∨ c = 12 ∨ c = 13 ∨ c = 16 ∨ c = 17 ∨ c = 18 ∨ c = 19 ∨ c = 22) → σ' c i = σ c i
theorem Fn.rf {σ : mz_G} : Fn σ σ := fun _ _ _ => rfl
theorem Fn.tr {σ σ' σ'' : mz_G} (h : Fn σ σ') (h' : Fn σ' σ'') : Fn σ σ'' := fun c i a => (h' c i a).trans (h c i a)
theorem Fn_Ft {σ σ' : mz_G} (h : Ft σ σ') : Fn σ σ' := fun c i a => h c i (by omega) (by omega)
theorem Fn_Fl {σ σ' : mz_G} (h : Fl σ σ') : Fn σ σ' := fun c i a => h c i (by omega) (by omega) (by omega)
theorem Fn_up {σ : mz_G} {c i : Nat} {z : Int} (hc : c = 1 ∨ c = 11 ∨ c = 12 ∨ c = 13 ∨ c = 16 ∨ c = 17 ∨ c = 18 ∨ c = 19 ∨ c = 22) : Fn σ (mz_up σ c i z) := fun d j a => up_ne (fun q => a (by rw [q]; exact hc))
theorem LK_Ft {σ σ' : mz_G} {m : List (Int × Int)} (h : LK σ m) (hf : Ft σ σ') : LK σ' m := LK_Fx h (hf 1 6 (by decide) (by omega)) (fun i => hf 12 i (by decide) (by omega)) (fun i => hf 13 i (by decide) (by omega))
/-- the triangle that a link leaves -/
def cvi (m : List (Int × Int)) : Int := fstI (m.length : Int) (fun i => ¬ fstI (m.length : Int) (fun j => (mg m i).2 = (mg m j).1) = -1)
def cvj (m : List (Int × Int)) (i : Int) : Int := fstI (m.length : Int) (fun j => (mg m i).2 = (mg m j).1)
def cov (m : List (Int × Int)) (l : List tr3) : List tr3 := if cvi m = -1 then l else ins (nrm (mg m (cvi m)).1 (mg m (cvi m)).2 (mg m (cvj m (cvi m))).2) l
/-- a knot goes -/
def vcl (v : mz_G) (k : Int) : mz_G := fun c i => if c = 0 ∧ i = 2 then v 0 2 - 1 else if (c = 1 ∨ c = 2 ∨ c = 3 ∨ c = 4) ∧ k ≤ (i : Int) then v c (i + 1) else v c i
theorem CA_vcl {σ σ' v : mz_G} {l : List tr3} {k : Int} (h : CA σ v l) (hR : Rg v) (hk : 0 ≤ k ∧ k < v 0 2) (e1 : ∀ c, c = 16 ∨ c = 17 ∨ c = 18 ∨ c = 19 → (∀ j : Nat, (j : Int) < k → σ' c j = σ c j) ∧ ∀ j : Nat, k ≤ j → (j : Int) < 31 → σ' c j = σ c (j + 1)) (e5 : σ' 1 7 = v 0 2 - 1) (e6 : σ' 1 8 = σ 1 8 ∧ σ' 1 9 = σ 1 9 ∧ σ' 11 1 = σ 11 1) (e7 : ∀ c, c = 4 ∨ c = 22 → ∀ j, σ' c j = σ c j) : CA σ' (vcl v k) l := by
  obtain ⟨⟨a1, a2, a3, a4⟩, a5, a6, a7⟩ := h
  obtain ⟨hW, hH, hn, -⟩ := hR
  have w0 : vcl v k 0 0 = v 0 0 := by simp [vcl]
  have w1 : vcl v k 0 1 = v 0 1 := by simp [vcl]
  have w2 : vcl v k 0 2 = v 0 2 - 1 := by simp [vcl]
  refine ⟨⟨by rw [w0, e6.1]; exact a1, by rw [w1, e6.2.1]; exact a2, by rw [w2]; exact e5, by rw [e6.2.2]; exact a4⟩, fun j hj => ?_, fun t z hz => by rw [e7 22 (by simp)]; exact a6 t z hz, fun d hd => ?_⟩
  · rw [w2] at hj
    by_cases q : k ≤ (j : Int)
    · have := a5 (j + 1) (by omega)
      rw [(e1 16 (by simp)).2 j q (by omega), (e1 17 (by simp)).2 j q (by omega), (e1 18 (by simp)).2 j q (by omega), (e1 19 (by simp)).2 j q (by omega)]
      simp [vcl, q, this]
    · have := a5 j (by omega)
      rw [(e1 16 (by simp)).1 j (by omega), (e1 17 (by simp)).1 j (by omega), (e1 18 (by simp)).1 j (by omega), (e1 19 (by simp)).1 j (by omega)]
      simp [vcl, q, this]
  · rw [w0, w1] at hd
    rw [e7 4 (by simp)]
    have := a7 d hd
    simp [vcl, this]
/-- a new picture -/
def vbg (w h : Int) (f : Nat → Int) : mz_G := fun a b => if a = 0 then (if b = 0 then w else if b = 1 then h else 4) else if a = 1 ∨ a = 3 then (if b = 1 ∨ b = 2 then w - 1 else 0) else if a = 2 ∨ a = 4 then (if b = 2 ∨ b = 3 then h - 1 else 0) else f b
/-- nothing but the way has changed -/
def Fw (σ σ' : mz_G) : Prop := ∀ c i, ¬ c = 20 → ¬ c = 21 → σ' c i = σ c i
theorem CA_Fw {σ σ' v : mz_G} {l : List tr3} (h : CA σ v l) (hf : Fw σ σ') : CA σ' v l := CA_ext h (fun i hi => hf 1 i (by decide) (by decide)) (hf 11 1 (by decide) (by decide)) (fun c hc i => hf c i (by omega) (by omega))
