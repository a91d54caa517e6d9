/-! a knot that goes keeps the net good -/
theorem fstI_at {n i : Int} {P : Int → Prop} [DecidablePred P] (h0 : 0 ≤ i) (h1 : i < n) (hp : P i) (hb : ∀ j, 0 ≤ j → j < i → ¬ P j) : fstI n P = i := fstI_yes h0 h1 (fstI_nn.mpr hb) hp
theorem cov_at {m : List (Int × Int)} {L : List tr3} {i j : Int} (hi : 0 ≤ i ∧ i < (m.length : Int)) (hj : 0 ≤ j ∧ j < (m.length : Int)) (e : (mg m i).2 = (mg m j).1) (h1 : ∀ i', 0 ≤ i' → i' < i → ∀ j', 0 ≤ j' → j' < (m.length : Int) → ¬ (mg m i').2 = (mg m j').1) (h2 : ∀ j', 0 ≤ j' → j' < j → ¬ (mg m i).2 = (mg m j').1) : cov m L = ins (nrm (mg m i).1 (mg m i).2 (mg m j).2) L := by
  have ej : cvj m i = j := fstI_at hj.1 hj.2 e h2
  have ei : cvi m = i := by
    refine fstI_at hi.1 hi.2 ?_ (fun i' q0 q1 z => z (fstI_nn.mpr (h1 i' q0 q1)))
    intro z
    have : cvj m i = -1 := z
    omega
  unfold cov
  rw [ei, ej, if_neg (by omega)]
theorem OD_cov {v : mz_G} {l : List tr3} {p : Nat → List Int} {k x y z : Int} {r : Nat → List Int} (h : OD v l p k x y z r) (L : List tr3) : cov (lkOf l k) L = ins (nrm x y z) L := by
  obtain ⟨h1, -, d1, d2, d3⟩ := h
  rcases h1 with ⟨-, h1 | h1, -⟩ | ⟨-, h1 | h1, -⟩
  · rw [h1]
    refine cov_at (i := 0) (j := 1) (by simp) (by simp) rfl (fun i' q0 q1 => by omega) (fun j' q0 q1 => ?_)
    rw [show j' = 0 by omega]
    show ¬ y = x
    omega
  · rw [h1]
    refine cov_at (i := 0) (j := 2) (by simp) (by simp) rfl (fun i' q0 q1 => by omega) (fun j' q0 q1 => ?_)
    rcases (show j' = 0 ∨ j' = 1 by omega) with rfl | rfl
    · show ¬ y = x
      omega
    · show ¬ y = z
      omega
  · rw [h1]
    refine cov_at (i := 0) (j := 1) (by simp) (by simp) rfl (fun i' q0 q1 => by omega) (fun j' q0 q1 => ?_)
    rw [show j' = 0 by omega]
    show ¬ y = x
    omega
  · rw [h1]
    refine cov_at (i := 1) (j := 0) (by simp) (by simp) rfl (fun i' q0 q1 j' r0 r1 => ?_) (fun j' q0 q1 => by omega)
    rw [show i' = 0 by omega]
    have r1 : j' < 2 := r1
    rcases (show j' = 0 ∨ j' = 1 by omega) with rfl | rfl
    · show ¬ z = y
      omega
    · show ¬ z = x
      omega
theorem OD_e {v : mz_G} {l : List tr3} {p : Nat → List Int} {k x y z : Int} {r : Nat → List Int} (h : OD v l p k x y z r) : ((x, y) ∈ lkOf l k ∧ (y, z) ∈ lkOf l k) ∧ (∀ e ∈ lkOf l k, (e.1 = x ∨ e.1 = y ∨ e.1 = z) ∧ (e.2 = x ∨ e.2 = y ∨ e.2 = z)) ∧ ((lkOf l k).length : Int) = kind v k + 1 := by
  obtain ⟨h1, -, d1, d2, d3⟩ := h
  rcases h1 with ⟨h0, h1 | h1, -⟩ | ⟨h0, h1 | h1, -⟩ <;> rw [h1, h0] <;> refine ⟨by simp, fun e he => ?_, rfl⟩ <;> simp only [List.mem_cons, List.not_mem_nil, or_false] at he
  · rcases he with rfl | rfl | rfl <;> simp
  · rcases he with rfl | rfl | rfl <;> simp
  · rcases he with rfl | rfl <;> simp
  · rcases he with rfl | rfl <;> simp
theorem tar_sum {v : mz_G} {q : Nat} {k x y z : Int} : tar v q (x, y, z) = tar v q (k, x, y) + tar v q (k, y, z) + tar v q (k, z, x) := by
  unfold tar ar
  show (gx v q y - gx v q x) * (gy v q z - gy v q x) - (gx v q z - gx v q x) * (gy v q y - gy v q x) = ((gx v q x - gx v q k) * (gy v q y - gy v q k) - (gx v q y - gx v q k) * (gy v q x - gy v q k)) + ((gx v q y - gx v q k) * (gy v q z - gy v q k) - (gx v q z - gx v q k) * (gy v q y - gy v q k)) + ((gx v q z - gx v q k) * (gy v q x - gy v q k) - (gx v q x - gx v q k) * (gy v q z - gy v q k))
  grind
theorem OD_tar {v : mz_G} {l : List tr3} {p : Nat → List Int} {k x y z : Int} {r : Nat → List Int} (h : OD v l p k x y z r) (hT : Rt (v 0 2) l) (hD : Dst l) {q : Nat} (hq : q < 2) (hP : Pos v l q) : 0 < tar v q (x, y, z) := by
  have he := (OD_e h).1
  have a1 := (lk_M hT hD he.1).2.2.2.2.2 q hP
  have a2 := (lk_M hT hD he.2).2.2.2.2.2 q hP
  have a1 : 0 < tar v q (k, x, y) := a1
  have a2 : 0 < tar v q (k, y, z) := a2
  rw [tar_sum (k := k)]
  obtain ⟨h1, -⟩ := h
  rcases h1 with ⟨-, h1, -⟩ | ⟨-, -, s, hs, -, ⟨m1, m2, m3⟩, -⟩
  · have hm : (z, x) ∈ lkOf l k := by rcases h1 with h1 | h1 <;> rw [h1] <;> simp
    have a3 : 0 < tar v q (k, z, x) := (lk_M hT hD hm).2.2.2.2.2 q hP
    omega
  · have := col3 (q := q) hs (sM_q hq m2) (sM_q hq m3) (sM_q hq m1)
    omega
theorem vcl_g {v : mz_G} {k : Int} {q : Nat} (hq : q < 2) {j : Int} (hj : isk v j) (hk : 0 ≤ k) (hne : ¬ j = k) : gx (vcl v k) q (dn k j) = gx v q j ∧ gy (vcl v k) q (dn k j) = gy v q j := by
  have key : ∀ c : Nat, (c = 1 ∨ c = 2 ∨ c = 3 ∨ c = 4) → vcl v k c (dn k j).toNat = v c j.toNat := by
    intro c hc
    unfold vcl dn
    rw [if_neg (by omega)]
    unfold isk at hj
    by_cases q : k < j
    · rw [if_pos q, if_pos ⟨hc, by omega⟩]
      congr 1
      omega
    · rw [if_neg q, if_neg (by omega)]
  unfold gx gy
  exact ⟨key _ (by omega), key _ (by omega)⟩
theorem vcl_0 {v : mz_G} {k : Int} : vcl v k 0 0 = v 0 0 ∧ vcl v k 0 1 = v 0 1 ∧ vcl v k 0 2 = v 0 2 - 1 ∧ ∀ d, vcl v k 6 d = v 6 d := by
  refine ⟨by simp [vcl], by simp [vcl], by simp [vcl], fun d => by simp [vcl]⟩
theorem dn_up {k j n : Int} (hk : 0 ≤ k ∧ k < n) (hj : 0 ≤ j ∧ j < n - 1) : ∃ i, (0 ≤ i ∧ i < n) ∧ ¬ i = k ∧ dn k i = j := by
  by_cases q : j < k
  · refine ⟨j, by omega, by omega, ?_⟩
    unfold dn
    rw [if_neg (by omega)]
  · refine ⟨j + 1, by omega, by omega, ?_⟩
    unfold dn
    rw [if_pos (by omega)]
    omega
theorem dn_rg {k j n : Int} (hk : 0 ≤ k ∧ k < n) (hj : 0 ≤ j ∧ j < n) (h : ¬ j = k) : 0 ≤ dn k j ∧ dn k j < n - 1 := by
  unfold dn
  split <;> omega
theorem dn_lt {k i j : Int} (hi : ¬ i = k) (hj : ¬ j = k) (h : i < j) : dn k i < dn k j := by
  unfold dn
  split <;> split <;> omega
theorem dn_ij {k i j : Int} (hi : ¬ i = k) (hj : ¬ j = k) (h : dn k i = dn k j) : i = j := by
  unfold dn at h
  split at h <;> split at h <;> omega
theorem dn_4 {k s : Int} (hk : 4 ≤ k) (hs : s < 4) : dn k s = s := by
  unfold dn
  rw [if_neg (by omega)]
theorem Pth_map {c c' : Int → Int} {M M' : Int → Prop} {e : Int} {g : Int → Int} : ∀ {r : List Int} {a : Int}, Pth c M e a r → (∀ x, (x = a ∨ x ∈ r) → M x → M' (g x) ∧ c' (g x) = c x) → M a → Pth c' M' (g e) (g a) (r.map g)
  | [], a, hp, _, _ => by
    have hp : a = e := hp
    rw [hp]
    exact rfl
  | b :: r, a, hp, h, ha => by
    obtain ⟨h1, h2, h3⟩ := hp
    have e1 := h a (Or.inl rfl) ha
    have e2 := h b (Or.inr List.mem_cons_self) h2
    refine ⟨by rw [e1.2, e2.2]; exact h1, e2.1, Pth_map h3 (fun x hx hm => h x ?_ hm) h2⟩
    rcases hx with q | q
    · rw [q]; exact Or.inr List.mem_cons_self
    · exact Or.inr (List.mem_cons_of_mem _ q)
theorem pS_map {f : Int → Int → Int} {g : Int → Int} : ∀ {r : List Int} {a : Int}, pS (fun i j => f (g i) (g j)) a r = pS f (g a) (r.map g)
  | [], a => rfl
  | b :: r, a => by
    rw [List.map_cons]
    simp only [pS]
    rw [pS_map]
theorem pk_dn {k : Int} {t u : tr3} (ht : (0 ≤ t.1 ∧ t.1 < 31) ∧ (0 ≤ t.2.1 ∧ t.2.1 < 31) ∧ (0 ≤ t.2.2 ∧ t.2.2 < 31)) (hu : (0 ≤ u.1 ∧ u.1 < 31) ∧ (0 ≤ u.2.1 ∧ u.2.1 < 31) ∧ (0 ≤ u.2.2 ∧ u.2.2 < 31)) (hk : 0 ≤ k ∧ k < 31) (nt : ¬ t.1 = k ∧ ¬ t.2.1 = k ∧ ¬ t.2.2 = k) (nu : ¬ u.1 = k ∧ ¬ u.2.1 = k ∧ ¬ u.2.2 = k) (h : pk t ≤ pk u) : pk (cl1 k t) ≤ pk (cl1 k u) := by
  unfold pk at h
  show dn k t.1 * 1024 + dn k t.2.1 * 32 + dn k t.2.2 ≤ dn k u.1 * 1024 + dn k u.2.1 * 32 + dn k u.2.2
  have a1 := dn_rg hk ht.1 nt.1
  have a2 := dn_rg hk ht.2.1 nt.2.1
  have a3 := dn_rg hk ht.2.2 nt.2.2
  have b1 := dn_rg hk hu.1 nu.1
  have b2 := dn_rg hk hu.2.1 nu.2.1
  have b3 := dn_rg hk hu.2.2 nu.2.2
  rcases (show t.1 < u.1 ∨ (t.1 = u.1 ∧ t.2.1 < u.2.1) ∨ (t.1 = u.1 ∧ t.2.1 = u.2.1 ∧ (t.2.2 < u.2.2 ∨ t.2.2 = u.2.2)) by omega) with q | ⟨q1, q2⟩ | ⟨q1, q2, q3 | q3⟩
  · have := dn_lt nt.1 nu.1 q
    omega
  · have := dn_lt nt.2.1 nu.2.1 q2
    rw [q1]
    omega
  · have := dn_lt nt.2.2 nu.2.2 q3
    rw [q1, q2]
    omega
  · rw [q1, q2, q3]
    exact Int.le_refl _
theorem OD_S {v : mz_G} {l : List tr3} {p : Nat → List Int} {k x y z : Int} {r : Nat → List Int} (h : OD v l p k x y z r) (hD : Dst l) (g1 : G1 l p) {g : Int → Int → Int} (hg : An g) : bd g (x, y, z) + lsm (bd g) (l.filter (fun t => !decide (hasK t k))) = pS g 0 (r 0) + pS g 1 (r 1) + pS g 2 (r 2) + pS g 3 (r 3) := by
  have e1 := lk_S hD (k := k) (f := g)
  rw [g1 g hg] at e1
  have k1 := hg k x
  have k2 := hg k y
  have k3 := hg k z
  have hb : bd g (x, y, z) = g x y + g y z + g z x := rfl
  obtain ⟨h1, -⟩ := h
  rcases h1 with ⟨-, h1, hr⟩ | ⟨-, h1, s, hs, hr, -, hp, -⟩
  · rw [hr 0 (by decide), hr 1 (by decide), hr 2 (by decide), hr 3 (by decide), hb]
    rcases h1 with h1 | h1 <;> rw [h1] at e1 <;> simp only [lsm] at e1 <;> omega
  · have e2 := hp g
    have n0 : ¬ 0 = s → r 0 = p 0 := hr 0 (by decide)
    have n1 : ¬ 1 = s → r 1 = p 1 := hr 1 (by decide)
    have n2 : ¬ 2 = s → r 2 = p 2 := hr 2 (by decide)
    have n3 : ¬ 3 = s → r 3 = p 3 := hr 3 (by decide)
    rw [hb]
    have e3 : lsm (fun e => g k e.1 + g e.1 e.2 + g e.2 k) (lkOf l k) = (g k x + g x y + g y k) + (g k y + g y z + g z k) := by
      rcases h1 with h1 | h1 <;> rw [h1] <;> simp only [lsm] <;> omega
    rw [e3] at e1
    rcases (show s = 0 ∨ s = 1 ∨ s = 2 ∨ s = 3 by omega) with rfl | rfl | rfl | rfl
    · have e2 : pS g 0 (p 0) = pS g 0 (r 0) + g z k + g k x - g z x := e2
      rw [n1 (by decide), n2 (by decide), n3 (by decide)]
      omega
    · have e2 : pS g 1 (p 1) = pS g 1 (r 1) + g z k + g k x - g z x := e2
      rw [n0 (by decide), n2 (by decide), n3 (by decide)]
      omega
    · have e2 : pS g 2 (p 2) = pS g 2 (r 2) + g z k + g k x - g z x := e2
      rw [n0 (by decide), n1 (by decide), n3 (by decide)]
      omega
    · have e2 : pS g 3 (p 3) = pS g 3 (r 3) + g z k + g k x - g z x := e2
      rw [n0 (by decide), n1 (by decide), n2 (by decide)]
      omega
theorem OD_L {v : mz_G} {l : List tr3} {p : Nat → List Int} {k x y z : Int} {r : Nat → List Int} (h : OD v l p k x y z r) : blen p = blen r + 3 - ((lkOf l k).length : Int) := by
  obtain ⟨h1, -⟩ := h
  unfold blen
  rcases h1 with ⟨-, h1, hr⟩ | ⟨-, h1, s, hs, hr, -, -, hl⟩
  · rw [hr 0 (by decide), hr 1 (by decide), hr 2 (by decide), hr 3 (by decide)]
    have : ((lkOf l k).length : Int) = 3 := by rcases h1 with h1 | h1 <;> rw [h1] <;> rfl
    omega
  · have e3 : ((lkOf l k).length : Int) = 2 := by rcases h1 with h1 | h1 <;> rw [h1] <;> rfl
    have n0 : ¬ 0 = s → r 0 = p 0 := hr 0 (by decide)
    have n1 : ¬ 1 = s → r 1 = p 1 := hr 1 (by decide)
    have n2 : ¬ 2 = s → r 2 = p 2 := hr 2 (by decide)
    have n3 : ¬ 3 = s → r 3 = p 3 := hr 3 (by decide)
    rcases (show s = 0 ∨ s = 1 ∨ s = 2 ∨ s = 3 by omega) with rfl | rfl | rfl | rfl
    · rw [n1 (by decide), n2 (by decide), n3 (by decide)]
      omega
    · rw [n0 (by decide), n2 (by decide), n3 (by decide)]
      omega
    · rw [n0 (by decide), n1 (by decide), n3 (by decide)]
      omega
    · rw [n0 (by decide), n1 (by decide), n2 (by decide)]
      omega
theorem kind_4 {v : mz_G} {k : Int} (h : ¬ kind v k = 0) : 4 ≤ k := by
  unfold kind at h
  by_cases q : k < 4
  · rw [if_pos q] at h
    exact absurd rfl h
  · omega
theorem GD_ou1 {v : mz_G} {l : List tr3} {k : Int} (h : GD v l) (q : rto v l k = 0) : GD (vcl v k) ((cov (lkOf l k) (l.filter (fun z => !decide (hasK z k)))).map (cl1 k)) := by
  obtain ⟨p, hG, hK, hN, hDg, hS, hV, hn, hl⟩ := h
  obtain ⟨⟨hR, hT, hP0, hP1⟩, g1, g2, hC, hH⟩ := id hG
  have hD := Pos_Dst hP0
  obtain ⟨hk, hk0, hdg⟩ := rto0 q
  have h4 := kind_4 hk0
  obtain ⟨x, y, z, r, hO⟩ := out_dat hG hDg hk h4 hdg
  obtain ⟨w0, w1, w2, w6⟩ := vcl_0 (v := v) (k := k)
  have hkk : 0 ≤ k ∧ k < v 0 2 := hk
  have hle := OD_L hO
  have hlk := lk_L hD (k := k)
  have hoe := OD_e hO
  have hr2 := hO.2.1
  have hdst := hO.2.2
  have mx := lk_M hT hD hoe.1.1
  have mz := lk_M hT hD hoe.1.2
  have ix : isk v x ∧ ¬ x = k := ⟨mx.1, mx.2.2.1⟩
  have iy : isk v y ∧ ¬ y = k := ⟨mx.2.1, mx.2.2.2.1⟩
  have iz : isk v z ∧ ¬ z = k := ⟨mz.2.1, mz.2.2.2.1⟩
  rw [OD_cov hO]
  have hLm : ∀ t ∈ ins (nrm x y z) (l.filter (fun z => !decide (hasK z k))), t = nrm x y z ∨ (t ∈ l ∧ ¬ hasK t k) := by
    intro t ht
    rcases ins_mem.mp ht with e | e
    · exact Or.inl e
    · have := List.mem_filter.mp e
      exact Or.inr ⟨this.1, by simpa using this.2⟩
  have hLr : ∀ t ∈ ins (nrm x y z) (l.filter (fun z => !decide (hasK z k))), ((0 ≤ t.1 ∧ t.1 < v 0 2) ∧ (0 ≤ t.2.1 ∧ t.2.1 < v 0 2) ∧ (0 ≤ t.2.2 ∧ t.2.2 < v 0 2)) ∧ (¬ t.1 = k ∧ ¬ t.2.1 = k ∧ ¬ t.2.2 = k) := by
    intro t ht
    rcases hLm t ht with e | ⟨e1, e2⟩
    · rw [e]
      refine ⟨nrm_rg ix.1 iy.1 iz.1, ?_⟩
      have hh := hasK_nrm (a := x) (b := y) (c := z) (k := k)
      unfold hasK at hh
      omega
    · refine ⟨hT t e1, ?_⟩
      unfold hasK at e2
      omega
  have hgg : ∀ q', q' < 2 → ∀ j, isk v j → ¬ j = k → gx (vcl v k) q' (dn k j) = gx v q' j ∧ gy (vcl v k) q' (dn k j) = gy v q' j := fun q' hq' j hj hne => vcl_g hq' hj hkk.1 hne
  have hpos : ∀ q', q' < 2 → Pos v l q' → Pos (vcl v k) ((ins (nrm x y z) (l.filter (fun z => !decide (hasK z k)))).map (cl1 k)) q' := by
    intro q' hq' hP t' ht'
    obtain ⟨t, ht, rfl⟩ := List.mem_map.mp ht'
    have rr := hLr t ht
    have e : tar (vcl v k) q' (cl1 k t) = tar v q' t := by
      unfold tar cl1
      show ar (gx (vcl v k) q' (dn k t.1)) (gy (vcl v k) q' (dn k t.1)) (gx (vcl v k) q' (dn k t.2.1)) (gy (vcl v k) q' (dn k t.2.1)) (gx (vcl v k) q' (dn k t.2.2)) (gy (vcl v k) q' (dn k t.2.2)) = _
      rw [(hgg q' hq' _ rr.1.1 rr.2.1).1, (hgg q' hq' _ rr.1.1 rr.2.1).2, (hgg q' hq' _ rr.1.2.1 rr.2.2.1).1, (hgg q' hq' _ rr.1.2.1 rr.2.2.1).2, (hgg q' hq' _ rr.1.2.2 rr.2.2.2).1, (hgg q' hq' _ rr.1.2.2 rr.2.2.2).2]
    rw [e]
    rcases hLm t ht with e | ⟨e1, e2⟩
    · rw [e, tar_nrm]
      exact OD_tar hO hT hD hq' hP
    · exact hP t e1
  have ik : ∀ j, isk (vcl v k) j ↔ 0 ≤ j ∧ j < v 0 2 - 1 := fun j => by unfold isk; rw [w2]
  have up : ∀ j, isk (vcl v k) j → ∃ i, isk v i ∧ ¬ i = k ∧ dn k i = j := fun j hj => dn_up hkk ((ik j).mp hj)
  have n4 := hR.2.2.1
  have hR' : Rg (vcl v k) := by
    unfold Rg
    rw [w0, w1, w2]
    refine ⟨hR.1, hR.2.1, by omega, fun j hj => ?_⟩
    obtain ⟨i, i1, i2, i3⟩ := up (j : Int) ((ik _).mpr ⟨by omega, hj⟩)
    have a0 := hgg 0 (by decide) i i1 i2
    have a1 := hgg 1 (by decide) i i1 i2
    rw [i3] at a0 a1
    have b0 := Rg_q hR (q := 0) (by decide) i1.1 i1.2
    have b1 := Rg_q hR (q := 1) (by decide) i1.1 i1.2
    rw [← a0.1, ← a0.2] at b0
    rw [← a1.1, ← a1.2] at b1
    exact ⟨b0.1, b0.2, b1.1, b1.2⟩
  have hK' : Kp (vcl v k) := by
    intro j hj
    obtain ⟨i, i1, i2, i3⟩ := up j hj
    have a0 := hgg 0 (by decide) i i1 i2
    have a1 := hgg 1 (by decide) i i1 i2
    rw [i3] at a0 a1
    unfold keeps
    rw [w0, w1, a0.1, a0.2, a1.1, a1.2]
    exact hK i i1
  have hcN : ∀ s j, isk v j → ¬ j = k → cN (vcl v k) 0 s (dn k j) = cN v 0 s j ∧ cT (vcl v k) 0 s (dn k j) = cT v 0 s j := fun s j hj hne => cNT_cg w0 w1 (hgg 0 (by decide) j hj hne).1 (hgg 0 (by decide) j hj hne).2 s
  have hdk : ∀ j, isk v j → ¬ j = k → isk (vcl v k) (dn k j) := fun j hj hne => (ik _).mpr (dn_rg hkk hj hne)
  refine ⟨fun s => (r s).map (dn k), ⟨⟨hR', ?_, hpos 0 (by decide) hP0, hpos 1 (by decide) hP1⟩, ?_, ?_, ?_, ?_⟩, hK', ?_, ?_, ?_, ?_, by omega, ?_⟩
  · rw [w2]
    intro t' ht'
    obtain ⟨t, ht, rfl⟩ := List.mem_map.mp ht'
    have rr := hLr t ht
    exact ⟨dn_rg hkk rr.1.1 rr.2.1, dn_rg hkk rr.1.2.1 rr.2.2.1, dn_rg hkk rr.1.2.2 rr.2.2.2⟩
  · intro f hf
    have hg : An (fun i j => f (dn k i) (dn k j)) := fun i j => hf _ _
    rw [lsm_map]
    have e1 : lsm (fun t => bd f (cl1 k t)) (ins (nrm x y z) (l.filter (fun z => !decide (hasK z k)))) = lsm (bd (fun i j => f (dn k i) (dn k j))) (ins (nrm x y z) (l.filter (fun z => !decide (hasK z k)))) := rfl
    rw [e1, lsm_perm ins_perm]
    show bd (fun i j => f (dn k i) (dn k j)) (nrm x y z) + lsm (bd (fun i j => f (dn k i) (dn k j))) (l.filter (fun z => !decide (hasK z k))) = _
    have pm : ∀ s : Int, s < 4 → ∀ L : List Int, pS (fun i j => f (dn k i) (dn k j)) s L = pS f s (L.map (dn k)) := by
      intro s hs L
      have := pS_map (f := f) (g := dn k) (r := L) (a := s)
      rw [dn_4 h4 hs] at this
      exact this
    rw [bd_nrm, OD_S hO hD g1 hg, pm 0 (by decide), pm 1 (by decide), pm 2 (by decide), pm 3 (by decide)]
  · intro s hs
    have e1 : dn k (s : Int) = (s : Int) := dn_4 h4 (by omega)
    have e2 : dn k (sE s) = sE s := dn_4 h4 (by unfold sE; split <;> omega)
    refine ⟨?_, fun j hj hz => ?_⟩
    · have := Pth_map (c' := cT (vcl v k) 0 s) (M' := sM (vcl v k) s) (g := dn k) (hr2 s hs).1 (fun w hw hm => ?_) (Crn_M hR hC hs)
      · rw [e1, e2] at this
        exact this
      · have hwk : ¬ w = k := by
          rcases hw with hw | hw
          · omega
          · exact (((hr2 s hs).2 w).mp hw).2
        have e := hcN s w hm.1 hwk
        exact ⟨sM_of hs hK' (hdk w hm.1 hwk) (e.1.trans hm.2.1), e.2⟩
    · obtain ⟨i, i1, i2, i3⟩ := up j hj
      have e := hcN s i i1 i2
      rw [i3] at e
      rcases (g2 s hs).2 i i1 (e.1.symm.trans hz) with w | w
      · left
        rw [← i3, w, e1]
      · right
        exact List.mem_map.mpr ⟨i, ((hr2 s hs).2 i).mpr ⟨w, i2⟩, i3⟩
  · intro q' hq'
    have c := hC q' hq'
    have m0 := hgg q' hq' 0 ⟨by decide, by omega⟩ (by omega)
    have m1 := hgg q' hq' 1 ⟨by decide, by omega⟩ (by omega)
    have m2 := hgg q' hq' 2 ⟨by decide, by omega⟩ (by omega)
    have m3 := hgg q' hq' 3 ⟨by decide, by omega⟩ (by omega)
    rw [dn_4 h4 (by decide)] at m0 m1 m2 m3
    rw [w0, w1]
    omega
  · intro a b ha hb e1 e2
    obtain ⟨i, i1, i2, i3⟩ := up a ha
    obtain ⟨j, j1, j2, j3⟩ := up b hb
    have a0 := hgg 0 (by decide) i i1 i2
    have b0 := hgg 0 (by decide) j j1 j2
    rw [i3] at a0
    rw [j3] at b0
    have := hH i j i1 j1 (by rw [← a0.1, ← b0.1]; exact e1) (by rw [← a0.2, ← b0.2]; exact e2)
    rw [← i3, ← j3, this]
  · intro t' ht'
    obtain ⟨t, ht, rfl⟩ := List.mem_map.mp ht'
    have rr := hLr t ht
    have hnm : t.1 < t.2.1 ∧ t.1 < t.2.2 := by
      rcases hLm t ht with e | ⟨e1, e2⟩
      · rw [e]
        exact nrm_nm hdst
      · exact hN t e1
    exact ⟨dn_lt rr.2.1 rr.2.2.1 hnm.1, dn_lt rr.2.1 rr.2.2.2 hnm.2⟩
  · intro j hj
    obtain ⟨i, i1, i2, i3⟩ := up j hj
    have key : ∀ t, hasK t i → hasK (cl1 k t) j := by
      intro t ht
      unfold hasK cl1 at *
      rw [← i3]
      rcases ht with e | e | e
      · exact Or.inl (by rw [e])
      · exact Or.inr (Or.inl (by rw [e]))
      · exact Or.inr (Or.inr (by rw [e]))
    obtain ⟨t, ht, h1⟩ := hDg i i1
    by_cases e : hasK t k
    · obtain ⟨d, hd, h2⟩ := lk_T hD ht e h1 i2
      have h3 := hoe.2.1 d hd
      have hx : x = i ∨ y = i ∨ z = i := by omega
      exact ⟨_, List.mem_map.mpr ⟨nrm x y z, ins_mem.mpr (Or.inl rfl), rfl⟩, key _ (hasK_nrm.mpr hx)⟩
    · exact ⟨_, List.mem_map.mpr ⟨t, ins_mem.mpr (Or.inr (List.mem_filter.mpr ⟨ht, by simp [e]⟩)), rfl⟩, key _ h1⟩
  · have h0 : Sd (ins (nrm x y z) (l.filter (fun z => !decide (hasK z k)))) := ins_Sd (sub_Sd hS List.filter_sublist)
    unfold Sd at h0 ⊢
    rw [List.pairwise_map]
    refine List.Pairwise.imp_of_mem (fun {a b} ha hb hab => ?_) h0
    have ra := hLr a ha
    have rb := hLr b hb
    exact pk_dn (by omega) (by omega) (by omega) ra.2 rb.2 hab
  · intro d h0 h1
    rw [w0, w1] at h1
    rw [w6]
    exact hV d h0 h1
  · rw [List.length_map, ins_len, w2]
    have e : blen (fun s => (r s).map (dn k)) = blen r := by
      unfold blen
      simp only [List.length_map]
    rw [e]
    omega
theorem GD_out {v : mz_G} {l : List tr3} {k : Int} (h : GD v l) : GD (vOut v l k) (lOut v l k) := by
  unfold vOut lOut
  by_cases q : rto v l k = 0
  · rw [if_pos q, if_pos q]
    exact GD_ou1 h q
  · rw [if_neg q, if_neg q]
    exact h
