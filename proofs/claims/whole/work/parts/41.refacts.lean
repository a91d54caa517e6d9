theorem ab_ne {n a b : Int} (hn : 0 < n) (h : ¬ (a = 0 ∧ b = 0)) : ¬ n * a = 0 ∨ ¬ n * b = 0 := by
  by_cases q : a = 0
  · right
    intro z
    rcases Int.mul_eq_zero.mp z with z | z
    · omega
    · exact h ⟨q, z⟩
  · left
    intro z
    rcases Int.mul_eq_zero.mp z with z | z
    · omega
    · exact q z
/-- a way of steps leaves the picture -/
theorem st_lt {v : mz_G} {p q n a b : Int} (h : ¬ (a = 0 ∧ b = 0)) (hW : v 0 0 ≤ 20) (hH : v 0 1 ≤ 20) (h0 : dot v p q) (h1 : dot v (p + n * a + a) (q + n * b + b)) (hn : 0 ≤ n) : n < 19 := by
  obtain ⟨a1, a2, a3, a4⟩ := h0
  obtain ⟨b1, b2, b3, b4⟩ := h1
  have key : ∀ {c p m : Int}, ¬ c = 0 → 0 ≤ p → p < m → 0 ≤ p + n * c + c → p + n * c + c < m → m ≤ 20 → n < 19 := by
    intro c p m hc p0 p1 r0 r1 hm
    rcases (show 1 ≤ c ∨ c ≤ -1 by omega) with z | z
    · have : n * 1 ≤ n * c := Int.mul_le_mul_of_nonneg_left z hn
      omega
    · have : n * c ≤ n * (-1) := Int.mul_le_mul_of_nonneg_left z hn
      omega
  by_cases z : a = 0
  · exact key (fun y => h ⟨z, y⟩) a3 a4 b3 b4 hH
  · exact key z a1 a2 b1 b2 hW
def crn (σ : mz_G) (k x y : Int) : mz_G := mz_up (mz_up (mz_up (mz_up σ 31 k.toNat x) 32 k.toNat y) 33 k.toNat x) 34 k.toNat y
set_option maxRecDepth 100000 in
set_option maxHeartbeats 4000000 in
theorem sp_X6_paint (v : mz_G) (l : List tr3) (σ : mz_G) (x : Int) (y : Int) (z : Int) (h0 : MA σ v l) (h1 : GO v l) (h2 : mz_R x) (h3 : mz_R y) (h4 : mz_R z) : mz_Cl shM 145 [.inr 30, .inl x, .inl y, .inl z] σ (fun r σ' => r = some (aPai v x y z) ∧ MA σ' (vPai v x y z) l ∧ Fm σ σ') := by
  have hM : mz_meth[145]? = some mtX6_paint := rfl
  obtain ⟨hB, hSd, ⟨hP0, hP1⟩, ⟨hC0, hC1'⟩, hVr, hn30, hl2⟩ := id h1
  obtain ⟨hR, hT, hLen⟩ := id hB
  obtain ⟨⟨hW0, hW1⟩, ⟨hH0, hH1⟩, ⟨hn0, hn1⟩, hpt⟩ := id hR
  obtain ⟨⟨⟨hc1, hc2, hc3⟩, hcp, hcv⟩, hc4, hct⟩ := id h0
  have hWH := WH_bd hR
  refine mz_Cl.of hM ?_
  show mz_Wp shM none 145 (0, [some (.inr 30), some (.inl x), some (.inl y), some (.inl z), none], [], σ) _
  refine wp_go 3 hM (fr' := (3, [some (.inr 30), some (.inl x), some (.inl y), some (.inl z), none], [.inl y, .inl x, .inr 30], σ)) rfl ?_
  refine wp_calld (v := 0) (idx := 120) (j := 122) (N := mtX6_isDot) (as := [.inr 30, .inl x, .inl y]) (rest := []) hM rfl (Or.inl ⟨rfl, rfl⟩) rfl (sp_X6_isDot v l σ x y (by first | (first | assumption | omega) | fail) (by first | (first | assumption | omega) | fail) (by first | (first | assumption | omega) | fail) (by first | (first | assumption | omega) | fail)) ?_
  show mz_Wp shM none 145 (6, [some (.inr 30), some (.inl x), some (.inl y), some (.inl z), none], [.inl (b01 (dot v x y))], σ) _
  refine wp_if (tgt := 19) hM rfl (by decide) b01_R (fun c6 => ?_) (fun c6 => ?_)
  · replace c6 := b01_eq0 (cmp_eq_t c6)
    refine wp_go 1 hM (fr' := (20, [some (.inr 30), some (.inl x), some (.inl y), some (.inl z), none], [.inl (-1)], σ)) rfl ?_
    refine wp_ret hM rfl (rfl) ?_
    first | (exact ⟨by unfold aPai; rw [if_pos (by first | exact Or.inl c6 | exact Or.inr (by omega))], by unfold vPai; rw [if_pos (by first | exact Or.inl c6 | exact Or.inr (by omega))]; exact h0, Fm.rf⟩) | fail
  · replace c6 := b01_ne0 (cmp_eq_f c6)
    first | (have hdi := dn_in hR c6) | skip
    first | (have hdc : (σ 30 0) * y + x = y * v 0 0 + x := by rw [hc1, Int.mul_comm]) | skip
    refine wp_go 3 hM (fr' := (13, [some (.inr 30), some (.inl x), some (.inl y), some (.inl z), none], [.inl 15, .inl 0, .inl z], σ)) rfl ?_
    refine wp_calld (v := 1) (idx := 116) (j := 103) (N := mtX6_isIn) (as := [.inl z, .inl 0, .inl 15]) (rest := []) hM rfl (Or.inr ⟨rfl, rfl⟩) rfl (sp_X6_isIn  σ z 0 15 (by first | (first | assumption | omega) | fail) (by first | (first | assumption | omega) | fail) (by first | (first | assumption | omega) | fail)) ?_
    show mz_Wp shM none 145 (16, [some (.inr 30), some (.inl x), some (.inl y), some (.inl z), none], [.inl (b01 (0 ≤ z ∧ z ≤ 15))], σ) _
    refine wp_if (tgt := 21) hM rfl (by decide) b01_R (fun c16 => ?_) (fun c16 => ?_)
    · replace c16 := b01_ne0 (cmp_ne_t c16)
      refine wp_go 8 hM (fr' := (33, [some (.inr 30), some (.inl x), some (.inl y), some (.inl z), none], [.inl (((σ 30 0) * y) + x), .inr 36], σ)) rfl ?_
      refine wp_al (n := 400) hM rfl (by decide) rfl (by first | (rw [hdc]; omega) | fail) (by first | (rw [hdc]; omega) | fail) ?_
      first | (rw [hdc, MA_val h0 hdi.1 hdi.2.1]) | skip
      refine wp_go 10 hM (fr' := (49, [some (.inr 30), some (.inl x), some (.inl y), some (.inl z), some (.inl (v 6 (y * v 0 0 + x).toNat))], [.inl z, .inl (((σ 30 0) * y) + x), .inr 36], σ)) rfl ?_
      refine wp_as (n := 400) hM rfl rfl (by first | (rw [hdc]; omega) | fail) (by first | (rw [hdc]; omega) | fail) ?_
      refine wp_go 1 hM (fr' := (52, [some (.inr 30), some (.inl x), some (.inl y), some (.inl z), some (.inl (v 6 (y * v 0 0 + x).toNat))], [.inl (v 6 (y * v 0 0 + x).toNat)], (mz_up σ 36 (((σ 30 0) * y) + x).toNat z))) rfl ?_
      refine wp_ret hM rfl (rfl) ?_
      have hno : ¬ (¬ dot v x y ∨ z < 0 ∨ 15 < z) := by
        intro q
        rcases q with q | q
        · exact q c6
        · omega
      refine ⟨by unfold aPai; rw [if_neg hno], ?_, Fm_up (by decide)⟩
      unfold vPai
      rw [if_neg hno, hdc]
      refine MA_vpt h0 (fun i _ => up_ne (by decide)) (fun c hc i => up_ne (by omega)) (fun d a b => ?_)
      by_cases q : d = y * v 0 0 + x
      · rw [if_pos q, q]; exact up_eq
      · rw [if_neg q, up_ni (by omega)]; exact MA_val h0 a b
    · replace c16 := b01_eq0 (cmp_ne_f c16)
      refine wp_go 1 hM (fr' := (20, [some (.inr 30), some (.inl x), some (.inl y), some (.inl z), none], [.inl (-1)], σ)) rfl ?_
      refine wp_ret hM rfl (rfl) ?_
      first | (exact ⟨by unfold aPai; rw [if_pos (by first | exact Or.inl c6 | exact Or.inr (by omega))], by unfold vPai; rw [if_pos (by first | exact Or.inl c6 | exact Or.inr (by omega))]; exact h0, Fm.rf⟩) | fail

set_option maxRecDepth 100000 in
set_option maxHeartbeats 4000000 in
theorem sp_X6_weave (v : mz_G) (l : List tr3) (σ : mz_G) (s : Int) (h0 : MA σ v l) (h1 : GO v l) (h2 : mz_R s) (h3 : GO (vWea v s) l) : mz_Cl shM 147 [.inr 30, .inl s] σ (fun r σ' => r = some (vsum (vWea v s)) ∧ MA σ' (vWea v s) l ∧ Fm σ σ') := by
  have hM : mz_meth[147]? = some mtX6_weave := rfl
  obtain ⟨hB, hSd, ⟨hP0, hP1⟩, ⟨hC0, hC1'⟩, hVr, hn30, hl2⟩ := id h1
  obtain ⟨hR, hT, hLen⟩ := id hB
  obtain ⟨⟨hW0, hW1⟩, ⟨hH0, hH1⟩, ⟨hn0, hn1⟩, hpt⟩ := id hR
  obtain ⟨⟨⟨hc1, hc2, hc3⟩, hcp, hcv⟩, hc4, hct⟩ := id h0
  have hWH := WH_bd hR
  refine mz_Cl.of hM ?_
  show mz_Wp shM none 147 (0, [some (.inr 30), some (.inl s), none, none, none], [], σ) _
  refine wp_go 2 hM (fr' := (2, [some (.inr 30), some (.inl s), some (.inl 0), none, none], [], σ)) rfl ?_
  have loop2 : ∀ (fuel : Nat) (d : Int) (σ1 : mz_G) (d2_3 d2_4 : Option mz_V), (0 ≤ d) → (d ≤ v 0 0 * v 0 1) → (WM σ σ1 (fun d => (7 * (d % v 0 0) + 13 * (d / v 0 0) + d % v 0 0 * (d / v 0 0) + s) % 16) d) → ((v 0 0 * v 0 1 - d : Int) < fuel) → mz_Wp shM none 147 (2, [some (.inr 30), some (.inl s), some (.inl d), d2_3, d2_4], [], σ1) (fun r σ' => r = some (vsum (vWea v s)) ∧ MA σ' (vWea v s) l ∧ Fm σ σ') := by
    intro fuel
    induction fuel with
    | zero =>
      intro d σ1 d2_3 d2_4 hv2_0 hv2_1 hv2_2 hf2
      exfalso
      omega
    | succ fuel ih2 =>
      intro d σ1 d2_3 d2_4 hv2_0 hv2_1 hv2_2 hf2
      have hw1 : σ1 30 0 = v 0 0 := by rw [hv2_2.2.2 30 0 (by decide)]; exact hc1
      have hh1 : σ1 30 1 = v 0 1 := by rw [hv2_2.2.2 30 1 (by decide)]; exact hc2
      refine wp_go 6 hM (fr' := (12, [some (.inr 30), some (.inl s), some (.inl d), d2_3, d2_4], [.inl ((σ1 30 0) * (σ1 30 1)), .inl d], σ1)) rfl ?_
      refine wp_ic (tgt := 62) hM rfl (by decide) (by omega) (by first | (rw [hw1, hh1]; omega) | fail) (fun c12 => ?_) (fun c12 => ?_)
      · replace c12 := cmp_ge_t c12
        first | (rw [hw1, hh1] at c12) | skip
        first | (have hA9 : MA σ1 (vWea v s) l := WM_MA h0 hv2_2 (by omega)) | skip
        refine wp_go 1 hM (fr' := (63, [some (.inr 30), some (.inl s), some (.inl d), d2_3, d2_4], [.inr 30], σ1)) rfl ?_
        refine wp_calld (v := 0) (idx := 192) (j := 146) (N := mtX6_sum) (as := [.inr 30]) (rest := []) hM rfl (Or.inl ⟨rfl, rfl⟩) rfl (sp_X6_sum (vWea v s) l σ1  (by first | (first | assumption | omega) | fail) (by first | (first | assumption | omega) | fail)) ?_
        show mz_Wp shM none 147 (66, [some (.inr 30), some (.inl s), some (.inl d), d2_3, d2_4], [.inl (vsum (vWea v s))], σ1) _
        refine wp_ret hM rfl (rfl) ?_
        first | (exact ⟨rfl, hA9, fun c i a => hv2_2.2.2 c i (by omega)⟩) | fail
      · replace c12 := cmp_ge_f c12
        first | (rw [hw1, hh1] at c12) | skip
        refine wp_go 3 hM (fr' := (20, [some (.inr 30), some (.inl s), some (.inl d), d2_3, d2_4], [.inl (σ1 30 0), .inl d], σ1)) rfl ?_
        refine wp_rem hM rfl (by omega) (by omega) (by omega) ?_
        first | (rw [hw1, (tdm hR hv2_0).1]) | skip
        refine wp_go 4 hM (fr' := (27, [some (.inr 30), some (.inl s), some (.inl d), some (.inl (d % v 0 0)), d2_4], [.inl (σ1 30 0), .inl d], σ1)) rfl ?_
        refine wp_div hM rfl (by omega) (by omega) (by omega) ?_
        first | (rw [hw1, (tdm hR hv2_0).2]) | skip
        refine wp_go 19 hM (fr' := (55, [some (.inr 30), some (.inl s), some (.inl d), some (.inl (d % v 0 0)), some (.inl (d / v 0 0))], [.inl (((((7 * (d % v 0 0)) + (13 * (d / v 0 0))) + ((d % v 0 0) * (d / v 0 0))) + s) % 16), .inl d, .inr 36], σ1)) rfl ?_
        refine wp_as (n := 400) hM rfl rfl (by omega) (by omega) ?_
        refine wp_go 2 hM (fr' := (2, [some (.inr 30), some (.inl s), some (.inl (d + 1)), some (.inl (d % v 0 0)), some (.inl (d / v 0 0))], [], (mz_up σ1 36 (d).toNat (((((7 * (d % v 0 0)) + (13 * (d / v 0 0))) + ((d % v 0 0) * (d / v 0 0))) + s) % 16)))) rfl ?_
        exact ih2 (d + 1) (mz_up σ1 36 (d).toNat (((((7 * (d % v 0 0)) + (13 * (d / v 0 0))) + ((d % v 0 0) * (d / v 0 0))) + s) % 16)) (some (.inl (d % v 0 0))) (some (.inl (d / v 0 0))) (by omega) (by omega) (by first | (exact WM_s hv2_2 hv2_0 rfl) | fail) (by omega)
  exact loop2 402 0 σ (none) (none) (by omega) (by omega) (by first | (exact WM_0) | fail) (by omega)

set_option maxRecDepth 100000 in
set_option maxHeartbeats 4000000 in
theorem sp_X6_carry (v : mz_G) (l : List tr3) (σ : mz_G)  (h0 : MA σ v l) (h1 : GO v l) : mz_Cl shM 143 [.inr 30] σ (fun r σ' => r = some (aCar v l) ∧ MA σ' (vCar v l) l ∧ Fm σ σ') := by
  have hM : mz_meth[143]? = some mtX6_carry := rfl
  obtain ⟨hB, hSd, ⟨hP0, hP1⟩, ⟨hC0, hC1'⟩, hVr, hn30, hl2⟩ := id h1
  obtain ⟨hR, hT, hLen⟩ := id hB
  obtain ⟨⟨hW0, hW1⟩, ⟨hH0, hH1⟩, ⟨hn0, hn1⟩, hpt⟩ := id hR
  obtain ⟨⟨⟨hc1, hc2, hc3⟩, hcp, hcv⟩, hc4, hct⟩ := id h0
  have hWH := WH_bd hR
  refine mz_Cl.of hM ?_
  show mz_Wp shM none 143 (0, [some (.inr 30), none, none], [], σ) _
  refine wp_go 4 hM (fr' := (4, [some (.inr 30), some (.inl 0), some (.inl 0)], [], σ)) rfl ?_
  have loop4 : ∀ (fuel : Nat) (d : Int) (σ1 : mz_G), (0 ≤ d) → (d ≤ v 0 0 * v 0 1) → (TV σ1 v l d) → (Fy σ σ1) → ((v 0 0 * v 0 1 - d : Int) < fuel) → mz_Wp shM none 143 (4, [some (.inr 30), some (.inl 0), some (.inl d)], [], σ1) (fun r σ' => r = some (aCar v l) ∧ MA σ' (vCar v l) l ∧ Fm σ σ') := by
    intro fuel
    induction fuel with
    | zero =>
      intro d σ1 hv4_0 hv4_1 hv4_2 hv4_3 hf4
      exfalso
      omega
    | succ fuel ih4 =>
      intro d σ1 hv4_0 hv4_1 hv4_2 hv4_3 hf4
      have hA1 := MA_Fy h0 hv4_3
      have hw1 : σ1 30 0 = v 0 0 := hA1.1.1.1
      have hh1 : σ1 30 1 = v 0 1 := hA1.1.1.2.1
      refine wp_go 6 hM (fr' := (14, [some (.inr 30), some (.inl 0), some (.inl d)], [.inl ((σ1 30 0) * (σ1 30 1)), .inl d], σ1)) rfl ?_
      refine wp_ic (tgt := 50) hM rfl (by decide) (by omega) (by first | (rw [hw1, hh1]; omega) | fail) (fun c14 => ?_) (fun c14 => ?_)
      · replace c14 := cmp_ge_t c14
        first | (rw [hw1, hh1] at c14) | skip
        refine wp_go 2 hM (fr' := (52, [some (.inr 30), some (.inl 0), some (.inl 0)], [], σ1)) rfl ?_
        have loop52 : ∀ (fuel : Nat) (f : Int) (e : Int) (σ2 : mz_G), (0 ≤ e) → (e ≤ v 0 0 * v 0 1) → (f = sumI e (fun i => b01 (¬ v 6 i.toNat = v 6 (ne v l i).toNat))) → (WM σ1 σ2 (fun d => v 6 (ne v l d).toNat) e) → ((v 0 0 * v 0 1 - e : Int) < fuel) → mz_Wp shM none 143 (52, [some (.inr 30), some (.inl f), some (.inl e)], [], σ2) (fun r σ' => r = some (aCar v l) ∧ MA σ' (vCar v l) l ∧ Fm σ σ') := by
          intro fuel
          induction fuel with
          | zero =>
            intro f e σ2 hv52_0 hv52_1 hv52_2 hv52_3 hf52
            exfalso
            omega
          | succ fuel ih52 =>
            intro f e σ2 hv52_0 hv52_1 hv52_2 hv52_3 hf52
            have hs : sumI (e + 1) (fun i => b01 (¬ v 6 i.toNat = v 6 (ne v l i).toNat)) = sumI e (fun i => b01 (¬ v 6 i.toNat = v 6 (ne v l i).toNat)) + b01 (¬ v 6 e.toNat = v 6 (ne v l e).toNat) := sumI_s hv52_0
            have hb := sumI_bd (a := 0) (b := 1) (f := fun i => b01 (¬ v 6 i.toNat = v 6 (ne v l i).toNat)) hv52_0 (fun i _ _ => by rcases b01_01 (P := ¬ v 6 i.toNat = v 6 (ne v l i).toNat) with q | q <;> omega)
            have hw2 : σ2 30 0 = v 0 0 := by rw [hv52_3.2.2 30 0 (by decide)]; exact hw1
            have hh2 : σ2 30 1 = v 0 1 := by rw [hv52_3.2.2 30 1 (by decide)]; exact hh1
            refine wp_go 6 hM (fr' := (62, [some (.inr 30), some (.inl f), some (.inl e)], [.inl ((σ2 30 0) * (σ2 30 1)), .inl e], σ2)) rfl ?_
            refine wp_ic (tgt := 106) hM rfl (by decide) (by omega) (by first | (rw [hw2, hh2]; omega) | fail) (fun c62 => ?_) (fun c62 => ?_)
            · replace c62 := cmp_ge_t c62
              first | (rw [hw2, hh2] at c62) | skip
              refine wp_go 1 hM (fr' := (107, [some (.inr 30), some (.inl f), some (.inl e)], [.inl f], σ2)) rfl ?_
              refine wp_ret hM rfl (rfl) ?_
              first | (exact ⟨by unfold aCar; rw [hv52_2, show e = v 0 0 * v 0 1 from by omega], WM_MA hA1 hv52_3 (by omega), (Fm_Fy hv4_3).tr (fun c i a => hv52_3.2.2 c i (by omega))⟩) | fail
            · replace c62 := cmp_ge_f c62
              first | (rw [hw2, hh2] at c62) | skip
              first | (have hni2 := ne_in h1 hv52_0 (show e < v 0 0 * v 0 1 by omega)) | skip
              first | (have hvb1 := hVr e hv52_0 (by omega)) | skip
              first | (have hvb2 := hVr _ hni2.1 hni2.2) | skip
              first | (have hsp : σ2 37 e.toNat = v 6 (ne v l e).toNat := by rw [hv52_3.2.2 37 _ (by decide)]; exact hv4_2 e hv52_0 (by omega)) | skip
              first | (have hvl : σ2 36 e.toNat = v 6 e.toNat := by rw [hv52_3.2.1 e (by omega) hv52_0]; exact MA_val hA1 hv52_0 (by omega)) | skip
              refine wp_go 4 hM (fr' := (71, [some (.inr 30), some (.inl f), some (.inl e)], [.inl e, .inr 37, .inl f], σ2)) rfl ?_
              refine wp_al (n := 400) hM rfl (by decide) rfl (by omega) (by omega) ?_
              first | (rw [hsp]) | skip
              refine wp_go 3 hM (fr' := (77, [some (.inr 30), some (.inl f), some (.inl e)], [.inl e, .inr 36, .inl (v 6 (ne v l e).toNat), .inl f], σ2)) rfl ?_
              refine wp_al (n := 400) hM rfl (by decide) rfl (by omega) (by omega) ?_
              first | (rw [hvl]) | skip
              refine wp_ic (tgt := 85) hM rfl (by decide) (by omega) (by omega) (fun c78 => ?_) (fun c78 => ?_)
              · replace c78 := cmp_ne_t c78
                refine wp_go 9 hM (fr' := (98, [some (.inr 30), some (.inl (f + 1)), some (.inl e)], [.inl e, .inr 37, .inl e, .inr 36], σ2)) rfl ?_
                refine wp_al (n := 400) hM rfl (by decide) rfl (by omega) (by omega) ?_
                first | (rw [hsp]) | skip
                refine wp_as (n := 400) hM rfl rfl (by omega) (by omega) ?_
                refine wp_go 2 hM (fr' := (52, [some (.inr 30), some (.inl (f + 1)), some (.inl (e + 1))], [], (mz_up σ2 36 (e).toNat (v 6 (ne v l e).toNat)))) rfl ?_
                exact ih52 (f + 1) (e + 1) (mz_up σ2 36 (e).toNat (v 6 (ne v l e).toNat)) (by omega) (by omega) (by first | (rw [hs]; first | (rw [b01_t (show ¬ v 6 e.toNat = v 6 (ne v l e).toNat from fun z => c78 z.symm)]; omega) | (rw [b01_f (show ¬ ¬ v 6 e.toNat = v 6 (ne v l e).toNat from fun q => q c78.symm)]; omega)) | fail) (by first | (exact WM_s hv52_3 hv52_0 rfl) | fail) (by omega)
              · replace c78 := cmp_ne_f c78
                refine wp_go 10 hM (fr' := (98, [some (.inr 30), some (.inl (f + 0)), some (.inl e)], [.inl e, .inr 37, .inl e, .inr 36], σ2)) rfl ?_
                refine wp_al (n := 400) hM rfl (by decide) rfl (by omega) (by omega) ?_
                first | (rw [hsp]) | skip
                refine wp_as (n := 400) hM rfl rfl (by omega) (by omega) ?_
                refine wp_go 2 hM (fr' := (52, [some (.inr 30), some (.inl (f + 0)), some (.inl (e + 1))], [], (mz_up σ2 36 (e).toNat (v 6 (ne v l e).toNat)))) rfl ?_
                exact ih52 (f + 0) (e + 1) (mz_up σ2 36 (e).toNat (v 6 (ne v l e).toNat)) (by omega) (by omega) (by first | (rw [hs]; first | (rw [b01_t (show ¬ v 6 e.toNat = v 6 (ne v l e).toNat from fun z => c78 z.symm)]; omega) | (rw [b01_f (show ¬ ¬ v 6 e.toNat = v 6 (ne v l e).toNat from fun q => q c78.symm)]; omega)) | fail) (by first | (exact WM_s hv52_3 hv52_0 rfl) | fail) (by omega)
        exact loop52 402 0 0 σ1 (by omega) (by omega) (by rfl) (by first | (exact WM_0) | fail) (by omega)
      · replace c14 := cmp_ge_f c14
        first | (rw [hw1, hh1] at c14) | skip
        first | (have hdm := dmv hR hv4_0 (show d < v 0 0 * v 0 1 by omega)) | skip
        first | (have hdm1 := hdm.1) | skip
        first | (have hni := ne_in h1 hv4_0 (show d < v 0 0 * v 0 1 by omega)) | skip
        refine wp_go 9 hM (fr' := (32, [some (.inr 30), some (.inl 0), some (.inl d)], [.inl (σ1 30 0), .inl d, .inr 30, .inr 36, .inl d, .inr 37], σ1)) rfl ?_
        refine wp_rem hM rfl (by omega) (by omega) (by omega) ?_
        first | (rw [hw1, (tdm hR hv4_0).1]) | skip
        refine wp_go 3 hM (fr' := (38, [some (.inr 30), some (.inl 0), some (.inl d)], [.inl (σ1 30 0), .inl d, .inl (d % v 0 0), .inr 30, .inr 36, .inl d, .inr 37], σ1)) rfl ?_
        refine wp_div hM rfl (by omega) (by omega) (by omega) ?_
        first | (rw [hw1, (tdm hR hv4_0).2]) | skip
        refine wp_call (v := 0) (idx := 189) (j := 160) (N := mtX6_nearestOf) (as := [.inr 30, .inl (d % v 0 0), .inl (d / v 0 0)]) (rest := [.inr 36, .inl d, .inr 37]) hM rfl (Or.inl ⟨rfl, rfl⟩) rfl (sp_X6_nearestOf v l σ1 (d % v 0 0) (d / v 0 0) (by first | (first | assumption | omega) | fail) (by first | (first | assumption | omega) | fail) (by first | (first | assumption | omega) | fail)) ?_
        rintro r0 σ_39 ⟨rfl, hf_39⟩
        show mz_Wp shM none 143 (42, [some (.inr 30), some (.inl 0), some (.inl d)], [.inl (nea v l (d % v 0 0) (d / v 0 0)), .inr 36, .inl d, .inr 37], σ_39) _
        first | (rw [show nea v l (d % v 0 0) (d / v 0 0) = ne v l d from rfl]) | skip
        first | (have hA2 := MA_Fp hA1 hf_39) | skip
        refine wp_al (n := 400) hM rfl (by decide) rfl (by omega) (by omega) ?_
        first | (rw [MA_val hA2 hni.1 hni.2]) | skip
        refine wp_as (n := 400) hM rfl rfl (by omega) (by omega) ?_
        refine wp_go 2 hM (fr' := (4, [some (.inr 30), some (.inl 0), some (.inl (d + 1))], [], (mz_up σ_39 37 (d).toNat (v 6 (ne v l d).toNat)))) rfl ?_
        exact ih4 (d + 1) (mz_up σ_39 37 (d).toNat (v 6 (ne v l d).toNat)) (by omega) (by omega) (by first | (exact fun j a b => by rcases (show j < d ∨ j = d by omega) with q | q; (rw [up_ni (by omega), hf_39 37 _ (by omega)]; exact hv4_2 j a q); (rw [q]; exact up_eq)) | fail) (by first | (exact (hv4_3.tr (Fy_Fp hf_39)).tr (fun c i a b => up_ne a)) | fail) (by omega)
  exact loop4 402 0 σ (by omega) (by omega) (by first | (exact fun d a b => by omega) | fail) (by first | (exact Fy.rf) | fail) (by omega)

set_option maxRecDepth 100000 in
set_option maxHeartbeats 4000000 in
theorem sp_X6_straight (v : mz_G) (l : List tr3) (σ : mz_G)  (h0 : MA σ v l) (h1 : GO v l) : mz_Cl shM 142 [.inr 30] σ (fun r σ' => r = some (bkn v) ∧ MA σ' (vst v) l ∧ Fm σ σ') := by
  have hM : mz_meth[142]? = some mtX6_straight := rfl
  obtain ⟨hB, hSd, ⟨hP0, hP1⟩, ⟨hC0, hC1'⟩, hVr, hn30, hl2⟩ := id h1
  obtain ⟨hR, hT, hLen⟩ := id hB
  obtain ⟨⟨hW0, hW1⟩, ⟨hH0, hH1⟩, ⟨hn0, hn1⟩, hpt⟩ := id hR
  obtain ⟨⟨⟨hc1, hc2, hc3⟩, hcp, hcv⟩, hc4, hct⟩ := id h0
  have hWH := WH_bd hR
  refine mz_Cl.of hM ?_
  show mz_Wp shM none 142 (0, [some (.inr 30), none, none], [], σ) _
  refine wp_go 1 hM (fr' := (1, [some (.inr 30), none, none], [.inr 30], σ)) rfl ?_
  refine wp_calld (v := 0) (idx := 185) (j := 141) (N := mtX6_moved) (as := [.inr 30]) (rest := []) hM rfl (Or.inl ⟨rfl, rfl⟩) rfl (sp_X6_moved v l σ  (by first | (first | assumption | omega) | fail) (by first | (first | assumption | omega) | fail)) ?_
  show mz_Wp shM none 142 (4, [some (.inr 30), none, none], [.inl (bkn v)], σ) _
  refine wp_go 3 hM (fr' := (7, [some (.inr 30), some (.inl (bkn v)), some (.inl 0)], [], σ)) rfl ?_
  have loop7 : ∀ (fuel : Nat) (j : Int) (σ1 : mz_G), (0 ≤ j) → (j ≤ v 0 2) → (SJ σ σ1 j) → ((v 0 2 - j : Int) < fuel) → mz_Wp shM none 142 (7, [some (.inr 30), some (.inl (bkn v)), some (.inl j)], [], σ1) (fun r σ' => r = some (bkn v) ∧ MA σ' (vst v) l ∧ Fm σ σ') := by
    intro fuel
    induction fuel with
    | zero =>
      intro j σ1 hv7_0 hv7_1 hv7_2 hf7
      exfalso
      omega
    | succ fuel ih7 =>
      intro j σ1 hv7_0 hv7_1 hv7_2 hf7
      have hn_1 : σ1 30 2 = v 0 2 := by rw [hv7_2.2 30 2 (by decide) (by decide)]; exact hc3
      refine wp_go 3 hM (fr' := (12, [some (.inr 30), some (.inl (bkn v)), some (.inl j)], [.inl (σ1 30 2), .inl j], σ1)) rfl ?_
      refine wp_ic (tgt := 45) hM rfl (by decide) (by omega) (by omega) (fun c12 => ?_) (fun c12 => ?_)
      · replace c12 := cmp_ge_t c12
        refine wp_go 1 hM (fr' := (46, [some (.inr 30), some (.inl (bkn v)), some (.inl j)], [.inl (bkn v)], σ1)) rfl ?_
        refine wp_ret hM rfl (rfl) ?_
        first | (exact ⟨rfl, MA_st h0 (by rw [show v 0 2 = j from by omega]; exact hv7_2), fun c i a => hv7_2.2 c i (by omega) (by omega)⟩) | fail
      · replace c12 := cmp_ge_f c12
        refine wp_go 6 hM (fr' := (25, [some (.inr 30), some (.inl (bkn v)), some (.inl j)], [.inl j, .inr 31, .inl j, .inr 33], σ1)) rfl ?_
        refine wp_al (n := 31) hM rfl (by decide) rfl (by omega) (by omega) ?_
        refine wp_as (n := 31) hM rfl rfl (by omega) (by omega) ?_
        refine wp_go 6 hM (fr' := (37, [some (.inr 30), some (.inl (bkn v)), some (.inl j)], [.inl j, .inr 32, .inl j, .inr 34], (mz_up σ1 33 (j).toNat (σ1 31 (j).toNat)))) rfl ?_
        refine wp_al (n := 31) hM rfl (by decide) rfl (by omega) (by omega) ?_
        show mz_Wp shM none 142 (38, [some (.inr 30), some (.inl (bkn v)), some (.inl j)], [.inl (σ1 32 (j).toNat), .inl j, .inr 34], (mz_up σ1 33 (j).toNat (σ1 31 (j).toNat))) _
        refine wp_as (n := 31) hM rfl rfl (by omega) (by omega) ?_
        refine wp_go 2 hM (fr' := (7, [some (.inr 30), some (.inl (bkn v)), some (.inl (j + 1))], [], (mz_up (mz_up σ1 33 (j).toNat (σ1 31 (j).toNat)) 34 (j).toNat (σ1 32 (j).toNat)))) rfl ?_
        exact ih7 (j + 1) (mz_up (mz_up σ1 33 (j).toNat (σ1 31 (j).toNat)) 34 (j).toNat (σ1 32 (j).toNat)) (by omega) (by omega) (by first | (exact SJ_s hv7_2 hv7_0) | fail) (by omega)
  exact loop7 33 0 σ (by omega) (by omega) (by first | (exact SJ_0) | fail) (by omega)

set_option maxRecDepth 100000 in
set_option maxHeartbeats 4000000 in
theorem sp_X6_whyNot (v : mz_G) (l : List tr3) (σ : mz_G) (k : Int) (x : Int) (y : Int) (h0 : MA σ v l) (h1 : Bs v l) (h2 : mz_R k) (h3 : mz_R x) (h4 : mz_R y) : mz_Cl shM 128 [.inr 30, .inl k, .inl x, .inl y] σ (fun r σ' => r = some (wyn v l k x y) ∧ σ' = σ) := by
  have hM : mz_meth[128]? = some mtX6_whyNot := rfl
  obtain ⟨hR, hT, hLen⟩ := id h1
  obtain ⟨⟨hW0, hW1⟩, ⟨hH0, hH1⟩, ⟨hn0, hn1⟩, hpt⟩ := id hR
  obtain ⟨⟨⟨hc1, hc2, hc3⟩, hcp, hcv⟩, hc4, hct⟩ := id h0
  have hWH := WH_bd hR
  have hB6 := h1
  refine mz_Cl.of hM ?_
  show mz_Wp shM none 128 (0, [some (.inr 30), some (.inl k), some (.inl x), some (.inl y), none, none, none], [], σ) _
  refine wp_go 2 hM (fr' := (2, [some (.inr 30), some (.inl k), some (.inl x), some (.inl y), none, none, none], [.inl k, .inr 30], σ)) rfl ?_
  refine wp_calld (v := 0) (idx := 151) (j := 123) (N := mtX6_isKnot) (as := [.inr 30, .inl k]) (rest := []) hM rfl (Or.inl ⟨rfl, rfl⟩) rfl (sp_X6_isKnot v l σ k (by first | (first | assumption | omega) | fail) (by first | (first | assumption | omega) | fail) (by first | (first | assumption | omega) | fail)) ?_
  show mz_Wp shM none 128 (5, [some (.inr 30), some (.inl k), some (.inl x), some (.inl y), none, none, none], [.inl (b01 (isk v k))], σ) _
  refine wp_if (tgt := 17) hM rfl (by decide) b01_R (fun c5 => ?_) (fun c5 => ?_)
  · replace c5 := b01_eq0 (cmp_eq_t c5)
    refine wp_go 1 hM (fr' := (18, [some (.inr 30), some (.inl k), some (.inl x), some (.inl y), none, none, none], [.inl 1], σ)) rfl ?_
    refine wp_ret hM rfl (rfl) ?_
    first | (exact ⟨by unfold wyn; first | rw [if_pos (Or.inl c5)] | rw [if_pos (Or.inr c14)], rfl⟩) | fail
  · replace c5 := b01_ne0 (cmp_eq_f c5)
    first | (have hik := c5) | skip
    first | (have hk1 := c5.1) | skip
    first | (have hk2 := c5.2) | skip
    first | (have hk := MA_pt h0 c5.1 c5.2) | skip
    first | (have hr := Rg_pt hR c5.1 c5.2) | skip
    refine wp_go 3 hM (fr' := (11, [some (.inr 30), some (.inl k), some (.inl x), some (.inl y), none, none, none], [.inl y, .inl x, .inr 30], σ)) rfl ?_
    refine wp_calld (v := 0) (idx := 120) (j := 122) (N := mtX6_isDot) (as := [.inr 30, .inl x, .inl y]) (rest := []) hM rfl (Or.inl ⟨rfl, rfl⟩) rfl (sp_X6_isDot v l σ x y (by first | (first | assumption | omega) | fail) (by first | (first | assumption | omega) | fail) (by first | (first | assumption | omega) | fail) (by first | (first | assumption | omega) | fail)) ?_
    show mz_Wp shM none 128 (14, [some (.inr 30), some (.inl k), some (.inl x), some (.inl y), none, none, none], [.inl (b01 (dot v x y))], σ) _
    refine wp_if (tgt := 19) hM rfl (by decide) b01_R (fun c14 => ?_) (fun c14 => ?_)
    · replace c14 := b01_ne0 (cmp_ne_t c14)
      refine wp_go 3 hM (fr' := (24, [some (.inr 30), some (.inl k), some (.inl x), some (.inl y), none, none, none], [.inl k, .inr 33], σ)) rfl ?_
      refine wp_al (n := 31) hM rfl (by decide) rfl (by omega) (by omega) ?_
      first | (rw [hk.2.2.1]) | skip
      refine wp_go 1 hM (fr' := (26, [some (.inr 30), some (.inl k), some (.inl x), some (.inl y), none, none, none], [.inl x, .inl (gx v 1 k)], σ)) rfl ?_
      refine wp_ic (tgt := 41) hM rfl (by decide) (by omega) (by omega) (fun c26 => ?_) (fun c26 => ?_)
      · replace c26 := cmp_ne_t c26
        refine wp_go 2 hM (fr' := (43, [some (.inr 30), some (.inl k), some (.inl x), some (.inl y), none, none, none], [.inl 4, .inl k], σ)) rfl ?_
        refine wp_ic (tgt := 67) hM rfl (by decide) (by omega) (by omega) (fun c43 => ?_) (fun c43 => ?_)
        · replace c43 := cmp_lt_t c43
          refine wp_go 1 hM (fr' := (68, [some (.inr 30), some (.inl k), some (.inl x), some (.inl y), none, none, none], [.inl 3], σ)) rfl ?_
          refine wp_ret hM rfl (rfl) ?_
          first | (exact ⟨by unfold wyn; rw [if_neg (fun z => by rcases z with z | z; exact z c5; exact z c14), if_neg (by omega), if_pos (by first | exact Or.inl c43 | exact Or.inr c64)], rfl⟩) | fail
        · replace c43 := cmp_lt_f c43
          refine wp_go 4 hM (fr' := (52, [some (.inr 30), some (.inl k), some (.inl x), some (.inl y), none, none, none], [.inl k, .inr 31, .inr 30], σ)) rfl ?_
          refine wp_al (n := 31) hM rfl (by decide) rfl (by omega) (by omega) ?_
          first | (rw [hk.1]) | skip
          refine wp_go 3 hM (fr' := (58, [some (.inr 30), some (.inl k), some (.inl x), some (.inl y), none, none, none], [.inl k, .inr 32, .inl (gx v 0 k), .inr 30], σ)) rfl ?_
          refine wp_al (n := 31) hM rfl (by decide) rfl (by omega) (by omega) ?_
          first | (rw [hk.2.1]) | skip
          refine wp_go 2 hM (fr' := (61, [some (.inr 30), some (.inl k), some (.inl x), some (.inl y), none, none, none], [.inl y, .inl x, .inl (gy v 0 k), .inl (gx v 0 k), .inr 30], σ)) rfl ?_
          refine wp_calld (v := 0) (idx := 127) (j := 124) (N := mtX6_stays) (as := [.inr 30, .inl (gx v 0 k), .inl (gy v 0 k), .inl x, .inl y]) (rest := []) hM rfl (Or.inl ⟨rfl, rfl⟩) rfl (sp_X6_stays v l σ (gx v 0 k) (gy v 0 k) x y (by first | (first | assumption | omega) | fail) (by first | (first | assumption | omega) | fail) (by first | (first | assumption | omega) | fail) (by first | (first | assumption | omega) | fail) (by first | (first | assumption | omega) | fail) (by first | (first | assumption | omega) | fail)) ?_
          show mz_Wp shM none 128 (64, [some (.inr 30), some (.inl k), some (.inl x), some (.inl y), none, none, none], [.inl (b01 (keeps v (gx v 0 k) (gy v 0 k) x y))], σ) _
          refine wp_if (tgt := 69) hM rfl (by decide) b01_R (fun c64 => ?_) (fun c64 => ?_)
          · replace c64 := b01_ne0 (cmp_ne_t c64)
            first | (have ej : ∀ j : Nat, j = k.toNat ↔ (j : Int) = k := fun j => by omega) | skip
            first | (have hAm : MA (mz_up (mz_up σ 33 k.toNat x) 34 k.toNat y) (vmv v k x y) l := MA_mv h0 (fun j => by simp [mz_up, ej]) (fun j => by simp [mz_up, ej]) (fun c i a b => by rw [up_ne b, up_ne a])) | skip
            first | (have hBm := Bs_mv (k := k) hB6 c14) | skip
            refine wp_go 3 hM (fr' := (74, [some (.inr 30), some (.inl k), some (.inl x), some (.inl y), none, none, none], [.inl k, .inr 33], σ)) rfl ?_
            refine wp_al (n := 31) hM rfl (by decide) rfl (by omega) (by omega) ?_
            first | (rw [hk.2.2.1]) | skip
            refine wp_go 4 hM (fr' := (82, [some (.inr 30), some (.inl k), some (.inl x), some (.inl y), some (.inl (gx v 1 k)), none, none], [.inl k, .inr 34], σ)) rfl ?_
            refine wp_al (n := 31) hM rfl (by decide) rfl (by omega) (by omega) ?_
            first | (rw [hk.2.2.2]) | skip
            refine wp_go 5 hM (fr' := (91, [some (.inr 30), some (.inl k), some (.inl x), some (.inl y), some (.inl (gx v 1 k)), some (.inl (gy v 1 k)), none], [.inl x, .inl k, .inr 33], σ)) rfl ?_
            refine wp_as (n := 31) hM rfl rfl (by omega) (by omega) ?_
            refine wp_go 4 hM (fr' := (98, [some (.inr 30), some (.inl k), some (.inl x), some (.inl y), some (.inl (gx v 1 k)), some (.inl (gy v 1 k)), none], [.inl y, .inl k, .inr 34], (mz_up σ 33 (k).toNat x))) rfl ?_
            refine wp_as (n := 31) hM rfl rfl (by omega) (by omega) ?_
            refine wp_go 1 hM (fr' := (100, [some (.inr 30), some (.inl k), some (.inl x), some (.inl y), some (.inl (gx v 1 k)), some (.inl (gy v 1 k)), none], [.inr 30], (mz_up (mz_up σ 33 (k).toNat x) 34 (k).toNat y))) rfl ?_
            refine wp_calld (v := 0) (idx := 138) (j := 118) (N := mtX6_isFolded) (as := [.inr 30]) (rest := []) hM rfl (Or.inl ⟨rfl, rfl⟩) rfl (sp_X6_isFolded (vmv v k x y) l (mz_up (mz_up σ 33 (k).toNat x) 34 (k).toNat y)  (by first | (first | assumption | exact hAm | exact hBm) | fail) (by first | (first | assumption | exact hAm | exact hBm) | fail)) ?_
            show mz_Wp shM none 128 (103, [some (.inr 30), some (.inl k), some (.inl x), some (.inl y), some (.inl (gx v 1 k)), some (.inl (gy v 1 k)), none], [.inl (b01 (fdd (vmv v k x y) l))], (mz_up (mz_up σ 33 (k).toNat x) 34 (k).toNat y)) _
            refine wp_go 5 hM (fr' := (112, [some (.inr 30), some (.inl k), some (.inl x), some (.inl y), some (.inl (gx v 1 k)), some (.inl (gy v 1 k)), some (.inl (b01 (fdd (vmv v k x y) l)))], [.inl (gx v 1 k), .inl k, .inr 33], (mz_up (mz_up σ 33 (k).toNat x) 34 (k).toNat y))) rfl ?_
            refine wp_as (n := 31) hM rfl rfl (by omega) (by omega) ?_
            refine wp_go 4 hM (fr' := (120, [some (.inr 30), some (.inl k), some (.inl x), some (.inl y), some (.inl (gx v 1 k)), some (.inl (gy v 1 k)), some (.inl (b01 (fdd (vmv v k x y) l)))], [.inl (gy v 1 k), .inl k, .inr 34], (mz_up (mz_up (mz_up σ 33 (k).toNat x) 34 (k).toNat y) 33 (k).toNat (gx v 1 k)))) rfl ?_
            refine wp_as (n := 31) hM rfl rfl (by omega) (by omega) ?_
            refine wp_go 1 hM (fr' := (123, [some (.inr 30), some (.inl k), some (.inl x), some (.inl y), some (.inl (gx v 1 k)), some (.inl (gy v 1 k)), some (.inl (b01 (fdd (vmv v k x y) l)))], [.inl (b01 (fdd (vmv v k x y) l))], (mz_up (mz_up (mz_up (mz_up σ 33 (k).toNat x) 34 (k).toNat y) 33 (k).toNat (gx v 1 k)) 34 (k).toNat (gy v 1 k)))) rfl ?_
            refine wp_if (tgt := 130) hM rfl (by decide) b01_R (fun c123 => ?_) (fun c123 => ?_)
            · replace c123 := b01_eq0 (cmp_eq_t c123)
              refine wp_go 1 hM (fr' := (131, [some (.inr 30), some (.inl k), some (.inl x), some (.inl y), some (.inl (gx v 1 k)), some (.inl (gy v 1 k)), some (.inl (b01 (fdd (vmv v k x y) l)))], [.inl 0], (mz_up (mz_up (mz_up (mz_up σ 33 (k).toNat x) 34 (k).toNat y) 33 (k).toNat (gx v 1 k)) 34 (k).toNat (gy v 1 k)))) rfl ?_
              refine wp_ret hM rfl (rfl) ?_
              refine ⟨?_, up_bk (by rw [hk.2.2.1]; first | rfl | skip) (by rw [hk.2.2.2]; first | rfl | skip)⟩
              unfold wyn
              rw [if_neg (fun z => by rcases z with z | z; exact z c5; exact z c14), if_neg (by omega), if_neg (fun z => by rcases z with z | z; omega; exact z c64)]
              first | rw [if_pos c123] | rw [if_neg c123]
            · replace c123 := b01_ne0 (cmp_eq_f c123)
              refine wp_go 2 hM (fr' := (131, [some (.inr 30), some (.inl k), some (.inl x), some (.inl y), some (.inl (gx v 1 k)), some (.inl (gy v 1 k)), some (.inl (b01 (fdd (vmv v k x y) l)))], [.inl 4], (mz_up (mz_up (mz_up (mz_up σ 33 (k).toNat x) 34 (k).toNat y) 33 (k).toNat (gx v 1 k)) 34 (k).toNat (gy v 1 k)))) rfl ?_
              refine wp_ret hM rfl (rfl) ?_
              refine ⟨?_, up_bk (by rw [hk.2.2.1]; first | rfl | skip) (by rw [hk.2.2.2]; first | rfl | skip)⟩
              unfold wyn
              rw [if_neg (fun z => by rcases z with z | z; exact z c5; exact z c14), if_neg (by omega), if_neg (fun z => by rcases z with z | z; omega; exact z c64)]
              first | rw [if_pos c123] | rw [if_neg c123]
          · replace c64 := b01_eq0 (cmp_ne_f c64)
            refine wp_go 1 hM (fr' := (68, [some (.inr 30), some (.inl k), some (.inl x), some (.inl y), none, none, none], [.inl 3], σ)) rfl ?_
            refine wp_ret hM rfl (rfl) ?_
            first | (exact ⟨by unfold wyn; rw [if_neg (fun z => by rcases z with z | z; exact z c5; exact z c14), if_neg (by omega), if_pos (by first | exact Or.inl c43 | exact Or.inr c64)], rfl⟩) | fail
      · replace c26 := cmp_ne_f c26
        refine wp_go 3 hM (fr' := (34, [some (.inr 30), some (.inl k), some (.inl x), some (.inl y), none, none, none], [.inl k, .inr 34], σ)) rfl ?_
        refine wp_al (n := 31) hM rfl (by decide) rfl (by omega) (by omega) ?_
        first | (rw [hk.2.2.2]) | skip
        refine wp_go 1 hM (fr' := (36, [some (.inr 30), some (.inl k), some (.inl x), some (.inl y), none, none, none], [.inl y, .inl (gy v 1 k)], σ)) rfl ?_
        refine wp_ic (tgt := 41) hM rfl (by decide) (by omega) (by omega) (fun c36 => ?_) (fun c36 => ?_)
        · replace c36 := cmp_ne_t c36
          refine wp_go 2 hM (fr' := (43, [some (.inr 30), some (.inl k), some (.inl x), some (.inl y), none, none, none], [.inl 4, .inl k], σ)) rfl ?_
          refine wp_ic (tgt := 67) hM rfl (by decide) (by omega) (by omega) (fun c43 => ?_) (fun c43 => ?_)
          · replace c43 := cmp_lt_t c43
            refine wp_go 1 hM (fr' := (68, [some (.inr 30), some (.inl k), some (.inl x), some (.inl y), none, none, none], [.inl 3], σ)) rfl ?_
            refine wp_ret hM rfl (rfl) ?_
            first | (exact ⟨by unfold wyn; rw [if_neg (fun z => by rcases z with z | z; exact z c5; exact z c14), if_neg (by omega), if_pos (by first | exact Or.inl c43 | exact Or.inr c64)], rfl⟩) | fail
          · replace c43 := cmp_lt_f c43
            refine wp_go 4 hM (fr' := (52, [some (.inr 30), some (.inl k), some (.inl x), some (.inl y), none, none, none], [.inl k, .inr 31, .inr 30], σ)) rfl ?_
            refine wp_al (n := 31) hM rfl (by decide) rfl (by omega) (by omega) ?_
            first | (rw [hk.1]) | skip
            refine wp_go 3 hM (fr' := (58, [some (.inr 30), some (.inl k), some (.inl x), some (.inl y), none, none, none], [.inl k, .inr 32, .inl (gx v 0 k), .inr 30], σ)) rfl ?_
            refine wp_al (n := 31) hM rfl (by decide) rfl (by omega) (by omega) ?_
            first | (rw [hk.2.1]) | skip
            refine wp_go 2 hM (fr' := (61, [some (.inr 30), some (.inl k), some (.inl x), some (.inl y), none, none, none], [.inl y, .inl x, .inl (gy v 0 k), .inl (gx v 0 k), .inr 30], σ)) rfl ?_
            refine wp_calld (v := 0) (idx := 127) (j := 124) (N := mtX6_stays) (as := [.inr 30, .inl (gx v 0 k), .inl (gy v 0 k), .inl x, .inl y]) (rest := []) hM rfl (Or.inl ⟨rfl, rfl⟩) rfl (sp_X6_stays v l σ (gx v 0 k) (gy v 0 k) x y (by first | (first | assumption | omega) | fail) (by first | (first | assumption | omega) | fail) (by first | (first | assumption | omega) | fail) (by first | (first | assumption | omega) | fail) (by first | (first | assumption | omega) | fail) (by first | (first | assumption | omega) | fail)) ?_
            show mz_Wp shM none 128 (64, [some (.inr 30), some (.inl k), some (.inl x), some (.inl y), none, none, none], [.inl (b01 (keeps v (gx v 0 k) (gy v 0 k) x y))], σ) _
            refine wp_if (tgt := 69) hM rfl (by decide) b01_R (fun c64 => ?_) (fun c64 => ?_)
            · replace c64 := b01_ne0 (cmp_ne_t c64)
              first | (have ej : ∀ j : Nat, j = k.toNat ↔ (j : Int) = k := fun j => by omega) | skip
              first | (have hAm : MA (mz_up (mz_up σ 33 k.toNat x) 34 k.toNat y) (vmv v k x y) l := MA_mv h0 (fun j => by simp [mz_up, ej]) (fun j => by simp [mz_up, ej]) (fun c i a b => by rw [up_ne b, up_ne a])) | skip
              first | (have hBm := Bs_mv (k := k) hB6 c14) | skip
              refine wp_go 3 hM (fr' := (74, [some (.inr 30), some (.inl k), some (.inl x), some (.inl y), none, none, none], [.inl k, .inr 33], σ)) rfl ?_
              refine wp_al (n := 31) hM rfl (by decide) rfl (by omega) (by omega) ?_
              first | (rw [hk.2.2.1]) | skip
              refine wp_go 4 hM (fr' := (82, [some (.inr 30), some (.inl k), some (.inl x), some (.inl y), some (.inl (gx v 1 k)), none, none], [.inl k, .inr 34], σ)) rfl ?_
              refine wp_al (n := 31) hM rfl (by decide) rfl (by omega) (by omega) ?_
              first | (rw [hk.2.2.2]) | skip
              refine wp_go 5 hM (fr' := (91, [some (.inr 30), some (.inl k), some (.inl x), some (.inl y), some (.inl (gx v 1 k)), some (.inl (gy v 1 k)), none], [.inl x, .inl k, .inr 33], σ)) rfl ?_
              refine wp_as (n := 31) hM rfl rfl (by omega) (by omega) ?_
              refine wp_go 4 hM (fr' := (98, [some (.inr 30), some (.inl k), some (.inl x), some (.inl y), some (.inl (gx v 1 k)), some (.inl (gy v 1 k)), none], [.inl y, .inl k, .inr 34], (mz_up σ 33 (k).toNat x))) rfl ?_
              refine wp_as (n := 31) hM rfl rfl (by omega) (by omega) ?_
              refine wp_go 1 hM (fr' := (100, [some (.inr 30), some (.inl k), some (.inl x), some (.inl y), some (.inl (gx v 1 k)), some (.inl (gy v 1 k)), none], [.inr 30], (mz_up (mz_up σ 33 (k).toNat x) 34 (k).toNat y))) rfl ?_
              refine wp_calld (v := 0) (idx := 138) (j := 118) (N := mtX6_isFolded) (as := [.inr 30]) (rest := []) hM rfl (Or.inl ⟨rfl, rfl⟩) rfl (sp_X6_isFolded (vmv v k x y) l (mz_up (mz_up σ 33 (k).toNat x) 34 (k).toNat y)  (by first | (first | assumption | exact hAm | exact hBm) | fail) (by first | (first | assumption | exact hAm | exact hBm) | fail)) ?_
              show mz_Wp shM none 128 (103, [some (.inr 30), some (.inl k), some (.inl x), some (.inl y), some (.inl (gx v 1 k)), some (.inl (gy v 1 k)), none], [.inl (b01 (fdd (vmv v k x y) l))], (mz_up (mz_up σ 33 (k).toNat x) 34 (k).toNat y)) _
              refine wp_go 5 hM (fr' := (112, [some (.inr 30), some (.inl k), some (.inl x), some (.inl y), some (.inl (gx v 1 k)), some (.inl (gy v 1 k)), some (.inl (b01 (fdd (vmv v k x y) l)))], [.inl (gx v 1 k), .inl k, .inr 33], (mz_up (mz_up σ 33 (k).toNat x) 34 (k).toNat y))) rfl ?_
              refine wp_as (n := 31) hM rfl rfl (by omega) (by omega) ?_
              refine wp_go 4 hM (fr' := (120, [some (.inr 30), some (.inl k), some (.inl x), some (.inl y), some (.inl (gx v 1 k)), some (.inl (gy v 1 k)), some (.inl (b01 (fdd (vmv v k x y) l)))], [.inl (gy v 1 k), .inl k, .inr 34], (mz_up (mz_up (mz_up σ 33 (k).toNat x) 34 (k).toNat y) 33 (k).toNat (gx v 1 k)))) rfl ?_
              refine wp_as (n := 31) hM rfl rfl (by omega) (by omega) ?_
              refine wp_go 1 hM (fr' := (123, [some (.inr 30), some (.inl k), some (.inl x), some (.inl y), some (.inl (gx v 1 k)), some (.inl (gy v 1 k)), some (.inl (b01 (fdd (vmv v k x y) l)))], [.inl (b01 (fdd (vmv v k x y) l))], (mz_up (mz_up (mz_up (mz_up σ 33 (k).toNat x) 34 (k).toNat y) 33 (k).toNat (gx v 1 k)) 34 (k).toNat (gy v 1 k)))) rfl ?_
              refine wp_if (tgt := 130) hM rfl (by decide) b01_R (fun c123 => ?_) (fun c123 => ?_)
              · replace c123 := b01_eq0 (cmp_eq_t c123)
                refine wp_go 1 hM (fr' := (131, [some (.inr 30), some (.inl k), some (.inl x), some (.inl y), some (.inl (gx v 1 k)), some (.inl (gy v 1 k)), some (.inl (b01 (fdd (vmv v k x y) l)))], [.inl 0], (mz_up (mz_up (mz_up (mz_up σ 33 (k).toNat x) 34 (k).toNat y) 33 (k).toNat (gx v 1 k)) 34 (k).toNat (gy v 1 k)))) rfl ?_
                refine wp_ret hM rfl (rfl) ?_
                refine ⟨?_, up_bk (by rw [hk.2.2.1]; first | rfl | skip) (by rw [hk.2.2.2]; first | rfl | skip)⟩
                unfold wyn
                rw [if_neg (fun z => by rcases z with z | z; exact z c5; exact z c14), if_neg (by omega), if_neg (fun z => by rcases z with z | z; omega; exact z c64)]
                first | rw [if_pos c123] | rw [if_neg c123]
              · replace c123 := b01_ne0 (cmp_eq_f c123)
                refine wp_go 2 hM (fr' := (131, [some (.inr 30), some (.inl k), some (.inl x), some (.inl y), some (.inl (gx v 1 k)), some (.inl (gy v 1 k)), some (.inl (b01 (fdd (vmv v k x y) l)))], [.inl 4], (mz_up (mz_up (mz_up (mz_up σ 33 (k).toNat x) 34 (k).toNat y) 33 (k).toNat (gx v 1 k)) 34 (k).toNat (gy v 1 k)))) rfl ?_
                refine wp_ret hM rfl (rfl) ?_
                refine ⟨?_, up_bk (by rw [hk.2.2.1]; first | rfl | skip) (by rw [hk.2.2.2]; first | rfl | skip)⟩
                unfold wyn
                rw [if_neg (fun z => by rcases z with z | z; exact z c5; exact z c14), if_neg (by omega), if_neg (fun z => by rcases z with z | z; omega; exact z c64)]
                first | rw [if_pos c123] | rw [if_neg c123]
            · replace c64 := b01_eq0 (cmp_ne_f c64)
              refine wp_go 1 hM (fr' := (68, [some (.inr 30), some (.inl k), some (.inl x), some (.inl y), none, none, none], [.inl 3], σ)) rfl ?_
              refine wp_ret hM rfl (rfl) ?_
              first | (exact ⟨by unfold wyn; rw [if_neg (fun z => by rcases z with z | z; exact z c5; exact z c14), if_neg (by omega), if_pos (by first | exact Or.inl c43 | exact Or.inr c64)], rfl⟩) | fail
        · replace c36 := cmp_ne_f c36
          refine wp_go 1 hM (fr' := (40, [some (.inr 30), some (.inl k), some (.inl x), some (.inl y), none, none, none], [.inl 2], σ)) rfl ?_
          refine wp_ret hM rfl (rfl) ?_
          first | (exact ⟨by unfold wyn; rw [if_neg (fun z => by rcases z with z | z; exact z c5; exact z c14), if_pos ⟨c26, c36⟩], rfl⟩) | fail
    · replace c14 := b01_eq0 (cmp_ne_f c14)
      refine wp_go 1 hM (fr' := (18, [some (.inr 30), some (.inl k), some (.inl x), some (.inl y), none, none, none], [.inl 1], σ)) rfl ?_
      refine wp_ret hM rfl (rfl) ?_
      first | (exact ⟨by unfold wyn; first | rw [if_pos (Or.inl c5)] | rw [if_pos (Or.inr c14)], rfl⟩) | fail

set_option maxRecDepth 100000 in
set_option maxHeartbeats 4000000 in
theorem sp_X6_move (v : mz_G) (l : List tr3) (σ : mz_G) (k : Int) (x : Int) (y : Int) (h0 : MA σ v l) (h1 : GO v l) (h2 : mz_R k) (h3 : mz_R x) (h4 : mz_R y) : mz_Cl shM 129 [.inr 30, .inl k, .inl x, .inl y] σ (fun r σ' => r = some (rtm v l k x y) ∧ MA σ' (vMov v l k x y) l ∧ Fm σ σ') := by
  have hM : mz_meth[129]? = some mtX6_move := rfl
  obtain ⟨hB, hSd, ⟨hP0, hP1⟩, ⟨hC0, hC1'⟩, hVr, hn30, hl2⟩ := id h1
  obtain ⟨hR, hT, hLen⟩ := id hB
  obtain ⟨⟨hW0, hW1⟩, ⟨hH0, hH1⟩, ⟨hn0, hn1⟩, hpt⟩ := id hR
  obtain ⟨⟨⟨hc1, hc2, hc3⟩, hcp, hcv⟩, hc4, hct⟩ := id h0
  have hWH := WH_bd hR
  refine mz_Cl.of hM ?_
  show mz_Wp shM none 129 (0, [some (.inr 30), some (.inl k), some (.inl x), some (.inl y), none], [], σ) _
  refine wp_go 4 hM (fr' := (4, [some (.inr 30), some (.inl k), some (.inl x), some (.inl y), none], [.inl y, .inl x, .inl k, .inr 30], σ)) rfl ?_
  refine wp_calld (v := 0) (idx := 155) (j := 128) (N := mtX6_whyNot) (as := [.inr 30, .inl k, .inl x, .inl y]) (rest := []) hM rfl (Or.inl ⟨rfl, rfl⟩) rfl (sp_X6_whyNot v l σ k x y (by first | (first | assumption | omega) | fail) (by first | (first | assumption | omega) | fail) (by first | (first | assumption | omega) | fail) (by first | (first | assumption | omega) | fail) (by first | (first | assumption | omega) | fail)) ?_
  show mz_Wp shM none 129 (7, [some (.inr 30), some (.inl k), some (.inl x), some (.inl y), none], [.inl (wyn v l k x y)], σ) _
  first | (rw [wyn_rtm h1]) | skip
  first | (have hrb := rtm_bd (v := v) (l := l) (k := k) (x := x) (y := y)) | skip
  refine wp_go 2 hM (fr' := (11, [some (.inr 30), some (.inl k), some (.inl x), some (.inl y), some (.inl (rtm v l k x y))], [.inl (rtm v l k x y)], σ)) rfl ?_
  refine wp_if (tgt := 17) hM rfl (by decide) (by omega) (fun c11 => ?_) (fun c11 => ?_)
  · replace c11 := cmp_eq_t c11
    first | (have hz := rtm0 c11) | skip
    first | (have hzk := hz.1) | skip
    first | (have hk1 := hzk.1) | skip
    first | (have hk2 := hzk.2) | skip
    refine wp_go 4 hM (fr' := (23, [some (.inr 30), some (.inl k), some (.inl x), some (.inl y), some (.inl (rtm v l k x y))], [.inl x, .inl k, .inr 33], σ)) rfl ?_
    refine wp_as (n := 31) hM rfl rfl (by omega) (by omega) ?_
    refine wp_go 4 hM (fr' := (30, [some (.inr 30), some (.inl k), some (.inl x), some (.inl y), some (.inl (rtm v l k x y))], [.inl y, .inl k, .inr 34], (mz_up σ 33 (k).toNat x))) rfl ?_
    refine wp_as (n := 31) hM rfl rfl (by omega) (by omega) ?_
    refine wp_go 1 hM (fr' := (32, [some (.inr 30), some (.inl k), some (.inl x), some (.inl y), some (.inl (rtm v l k x y))], [.inl 0], (mz_up (mz_up σ 33 (k).toNat x) 34 (k).toNat y))) rfl ?_
    refine wp_ret hM rfl (rfl) ?_
    have ej : ∀ j : Nat, j = k.toNat ↔ (j : Int) = k := fun j => by omega
    refine ⟨by rw [c11], ?_, (Fm_up (by decide)).tr (Fm_up (by decide))⟩
    unfold vMov
    rw [if_pos c11]
    exact MA_mv h0 (fun j => by simp [mz_up, ej]) (fun j => by simp [mz_up, ej]) (fun c i a b => by rw [up_ne b, up_ne a])
  · replace c11 := cmp_eq_f c11
    refine wp_go 1 hM (fr' := (16, [some (.inr 30), some (.inl k), some (.inl x), some (.inl y), some (.inl (rtm v l k x y))], [.inl (rtm v l k x y)], σ)) rfl ?_
    refine wp_ret hM rfl (rfl) ?_
    first | (exact ⟨rfl, by unfold vMov; rw [if_neg c11]; exact h0, Fm.rf⟩) | fail

set_option maxRecDepth 100000 in
set_option maxHeartbeats 4000000 in
theorem sp_X6_room (v : mz_G) (l : List tr3) (σ : mz_G) (k : Int) (i : Int) (h0 : MA σ v l) (h1 : GO v l) (h2 : mz_R k) (h3 : mz_R i) : mz_Cl shM 173 [.inr 30, .inl k, .inl i] σ (fun r σ' => r = some (aRoom v l k i) ∧ MA σ' v l ∧ Fm σ σ') := by
  have hM : mz_meth[173]? = some mtX6_room := rfl
  obtain ⟨hB, hSd, ⟨hP0, hP1⟩, ⟨hC0, hC1'⟩, hVr, hn30, hl2⟩ := id h1
  obtain ⟨hR, hT, hLen⟩ := id hB
  obtain ⟨⟨hW0, hW1⟩, ⟨hH0, hH1⟩, ⟨hn0, hn1⟩, hpt⟩ := id hR
  obtain ⟨⟨⟨hc1, hc2, hc3⟩, hcp, hcv⟩, hc4, hct⟩ := id h0
  have hWH := WH_bd hR
  refine mz_Cl.of hM ?_
  show mz_Wp shM none 173 (0, [some (.inr 30), some (.inl k), some (.inl i), none, none, none], [], σ) _
  refine wp_go 2 hM (fr' := (2, [some (.inr 30), some (.inl k), some (.inl i), none, none, none], [.inl k, .inr 30], σ)) rfl ?_
  refine wp_calld (v := 0) (idx := 151) (j := 123) (N := mtX6_isKnot) (as := [.inr 30, .inl k]) (rest := []) hM rfl (Or.inl ⟨rfl, rfl⟩) rfl (sp_X6_isKnot v l σ k (by first | (first | assumption | omega) | fail) (by first | (first | assumption | omega) | fail) (by first | (first | assumption | omega) | fail)) ?_
  show mz_Wp shM none 173 (5, [some (.inr 30), some (.inl k), some (.inl i), none, none, none], [.inl (b01 (isk v k))], σ) _
  refine wp_if (tgt := 13) hM rfl (by decide) b01_R (fun c5 => ?_) (fun c5 => ?_)
  · replace c5 := b01_eq0 (cmp_eq_t c5)
    refine wp_go 1 hM (fr' := (14, [some (.inr 30), some (.inl k), some (.inl i), none, none, none], [.inl (-1)], σ)) rfl ?_
    refine wp_ret hM rfl (rfl) ?_
    first | (exact ⟨by unfold aRoom; rw [if_pos (by first | exact Or.inl c5 | exact Or.inr (by omega))], h0, Fm.rf⟩) | fail
  · replace c5 := b01_ne0 (cmp_eq_f c5)
    first | (have hkk := c5) | skip
    refine wp_go 2 hM (fr' := (10, [some (.inr 30), some (.inl k), some (.inl i), none, none, none], [.inl (-1), .inl i], σ)) rfl ?_
    refine wp_ic (tgt := 15) hM rfl (by decide) (by omega) (by omega) (fun c10 => ?_) (fun c10 => ?_)
    · replace c10 := cmp_ge_t c10
      first | (have hnd : ¬ (¬ isk v k ∨ i < -1) := by intro q; rcases q with q | q; exact q c5; omega) | skip
      refine wp_go 4 hM (fr' := (20, [some (.inr 30), some (.inl k), some (.inl i), some (.inl 0), some (.inl 0), none], [], σ)) rfl ?_
      have loop20 : ∀ (fuel : Nat) (f : Int) (d : Int) (d20_5 : Option mz_V), (0 ≤ d) → (d ≤ v 0 0 * v 0 1) → (f = sumI d (rmB v (lkOf l k) k)) → (fstI d (fun d => rmB v (lkOf l k) k d = 1 ∧ sumI d (rmB v (lkOf l k) k) = i) = -1) → ((v 0 0 * v 0 1 - d : Int) < fuel) → mz_Wp shM none 173 (20, [some (.inr 30), some (.inl k), some (.inl i), some (.inl f), some (.inl d), d20_5], [], σ) (fun r σ' => r = some (aRoom v l k i) ∧ MA σ' v l ∧ Fm σ σ') := by
        intro fuel
        induction fuel with
        | zero =>
          intro f d d20_5 hv20_0 hv20_1 hv20_2 hv20_3 hf20
          exfalso
          omega
        | succ fuel ih20 =>
          intro f d d20_5 hv20_0 hv20_1 hv20_2 hv20_3 hf20
          have hA1 := id h0
          have hw1 : σ 30 0 = v 0 0 := hA1.1.1.1
          have hh1 : σ 30 1 = v 0 1 := hA1.1.1.2.1
          have hs : sumI (d + 1) (rmB v (lkOf l k) k) = sumI d (rmB v (lkOf l k) k) + (rmB v (lkOf l k) k) d := sumI_s hv20_0
          have hb := sumI_bd (a := 0) (b := 1) (f := (rmB v (lkOf l k) k)) hv20_0 (fun i _ _ => rmB_bd)
          refine wp_go 6 hM (fr' := (31, [some (.inr 30), some (.inl k), some (.inl i), some (.inl f), some (.inl d), d20_5], [.inl ((σ 30 0) * (σ 30 1)), .inl d], σ)) rfl ?_
          refine wp_ic (tgt := 86) hM rfl (by decide) (by omega) (by first | (rw [hw1, hh1]; omega) | fail) (fun c31 => ?_) (fun c31 => ?_)
          · replace c31 := cmp_ge_t c31
            first | (rw [hw1, hh1] at c31) | skip
            refine wp_go 2 hM (fr' := (88, [some (.inr 30), some (.inl k), some (.inl i), some (.inl f), some (.inl d), d20_5], [.inl (-1), .inl i], σ)) rfl ?_
            refine wp_ic (tgt := 95) hM rfl (by decide) (by omega) (by omega) (fun c88 => ?_) (fun c88 => ?_)
            · replace c88 := cmp_ne_t c88
              refine wp_go 1 hM (fr' := (96, [some (.inr 30), some (.inl k), some (.inl i), some (.inl f), some (.inl d), d20_5], [.inl (-1)], σ)) rfl ?_
              refine wp_ret hM rfl (rfl) ?_
              have hdE : d = v 0 0 * v 0 1 := by omega
              rw [hdE] at hv20_2 hv20_3
              refine ⟨?_, h0, Fm.rf⟩
              unfold aRoom
              rw [if_neg hnd]
              first | rw [if_pos c88, hv20_2] | rw [if_neg c88, hv20_3]
            · replace c88 := cmp_ne_f c88
              refine wp_go 2 hM (fr' := (96, [some (.inr 30), some (.inl k), some (.inl i), some (.inl f), some (.inl d), d20_5], [.inl f], σ)) rfl ?_
              refine wp_ret hM rfl (rfl) ?_
              have hdE : d = v 0 0 * v 0 1 := by omega
              rw [hdE] at hv20_2 hv20_3
              refine ⟨?_, h0, Fm.rf⟩
              unfold aRoom
              rw [if_neg hnd]
              first | rw [if_pos c88, hv20_2] | rw [if_neg c88, hv20_3]
          · replace c31 := cmp_ge_f c31
            first | (rw [hw1, hh1] at c31) | skip
            first | (have hdm := dmv hR hv20_0 (show d < v 0 0 * v 0 1 by omega)) | skip
            first | (have hdm1 := hdm.1) | skip
            first | (have hni := ne_in h1 hv20_0 (show d < v 0 0 * v 0 1 by omega)) | skip
            refine wp_go 5 hM (fr' := (42, [some (.inr 30), some (.inl k), some (.inl i), some (.inl f), some (.inl d), d20_5], [.inl (σ 30 0), .inl d, .inl k, .inr 30], σ)) rfl ?_
            refine wp_rem hM rfl (by omega) (by omega) (by omega) ?_
            first | (rw [hw1, (tdm hR hv20_0).1]) | skip
            refine wp_go 3 hM (fr' := (49, [some (.inr 30), some (.inl k), some (.inl i), some (.inl f), some (.inl d), d20_5], [.inl (σ 30 0), .inl d, .inl (d % v 0 0), .inl k, .inr 30], σ)) rfl ?_
            refine wp_div hM rfl (by omega) (by omega) (by omega) ?_
            first | (rw [hw1, (tdm hR hv20_0).2]) | skip
            refine wp_calld (v := 0) (idx := 155) (j := 128) (N := mtX6_whyNot) (as := [.inr 30, .inl k, .inl (d % v 0 0), .inl (d / v 0 0)]) (rest := []) hM rfl (Or.inl ⟨rfl, rfl⟩) rfl (sp_X6_whyNot v l σ k (d % v 0 0) (d / v 0 0) (by first | (first | assumption | omega) | fail) (by first | (first | assumption | omega) | fail) (by first | (first | assumption | omega) | fail) (by first | (first | assumption | omega) | fail) (by first | (first | assumption | omega) | fail)) ?_
            show mz_Wp shM none 173 (53, [some (.inr 30), some (.inl k), some (.inl i), some (.inl f), some (.inl d), d20_5], [.inl (wyn v l k (d % v 0 0) (d / v 0 0))], σ) _
            first | (rw [wyn_rtm h1, show rtm v l k (d % v 0 0) (d / v 0 0) = rbl v (lkOf l k) k (d % v 0 0) (d / v 0 0) from by unfold rtm; rw [if_neg (fun z => z hkk)]]) | skip
            first | (have hrb := rbl_bd (v := v) (m := lkOf l k) (k := k) (x := d % v 0 0) (y := d / v 0 0)) | skip
            first | (have hrm : rmB v (lkOf l k) k d = b01 (rbl v (lkOf l k) k (d % v 0 0) (d / v 0 0) = 0 ∨ rbl v (lkOf l k) k (d % v 0 0) (d / v 0 0) = 2) := rfl) | skip
            refine wp_go 2 hM (fr' := (57, [some (.inr 30), some (.inl k), some (.inl i), some (.inl f), some (.inl d), some (.inl (rbl v (lkOf l k) k (d % v 0 0) (d / v 0 0)))], [.inl (rbl v (lkOf l k) k (d % v 0 0) (d / v 0 0))], σ)) rfl ?_
            refine wp_if (tgt := 69) hM rfl (by decide) (by omega) (fun c57 => ?_) (fun c57 => ?_)
            · replace c57 := cmp_eq_t c57
              refine wp_go 2 hM (fr' := (71, [some (.inr 30), some (.inl k), some (.inl i), some (.inl f), some (.inl d), some (.inl (rbl v (lkOf l k) k (d % v 0 0) (d / v 0 0)))], [.inl i, .inl f], σ)) rfl ?_
              refine wp_ic (tgt := 77) hM rfl (by decide) (by omega) (by omega) (fun c71 => ?_) (fun c71 => ?_)
              · replace c71 := cmp_ne_t c71
                refine wp_go 3 hM (fr' := (20, [some (.inr 30), some (.inl k), some (.inl i), some (.inl (f + 1)), some (.inl (d + 1)), some (.inl (rbl v (lkOf l k) k (d % v 0 0) (d / v 0 0)))], [], σ)) rfl ?_
                exact ih20 (f + 1) (d + 1) (some (.inl (rbl v (lkOf l k) k (d % v 0 0) (d / v 0 0)))) (by omega) (by omega) (by first | (rw [hs, hrm]; first | (rw [b01_t (by omega)]; omega) | (rw [b01_f (by omega)]; omega)) | fail) (by first | (exact fstI_no hv20_0 hv20_3 (by intro q; have q1 := q.1; have q2 := q.2; rw [hrm] at q1; first | (rw [b01_f (by omega)] at q1; omega) | (rw [← hv20_2] at q2; omega))) | fail) (by omega)
              · replace c71 := cmp_ne_f c71
                refine wp_go 1 hM (fr' := (76, [some (.inr 30), some (.inl k), some (.inl i), some (.inl f), some (.inl d), some (.inl (rbl v (lkOf l k) k (d % v 0 0) (d / v 0 0)))], [.inl d], σ)) rfl ?_
                refine wp_ret hM rfl (rfl) ?_
                first | (exact ⟨by unfold aRoom; rw [if_neg hnd, if_neg (by omega), fstI_yes (t := d) hv20_0 (by omega) hv20_3 ⟨by rw [hrm, b01_t (by omega)], by omega⟩], h0, Fm.rf⟩) | fail
            · replace c57 := cmp_eq_f c57
              refine wp_go 2 hM (fr' := (63, [some (.inr 30), some (.inl k), some (.inl i), some (.inl f), some (.inl d), some (.inl (rbl v (lkOf l k) k (d % v 0 0) (d / v 0 0)))], [.inl 2, .inl (rbl v (lkOf l k) k (d % v 0 0) (d / v 0 0))], σ)) rfl ?_
              refine wp_ic (tgt := 69) hM rfl (by decide) (by omega) (by omega) (fun c63 => ?_) (fun c63 => ?_)
              · replace c63 := cmp_eq_t c63
                refine wp_go 2 hM (fr' := (71, [some (.inr 30), some (.inl k), some (.inl i), some (.inl f), some (.inl d), some (.inl (rbl v (lkOf l k) k (d % v 0 0) (d / v 0 0)))], [.inl i, .inl f], σ)) rfl ?_
                refine wp_ic (tgt := 77) hM rfl (by decide) (by omega) (by omega) (fun c71 => ?_) (fun c71 => ?_)
                · replace c71 := cmp_ne_t c71
                  refine wp_go 3 hM (fr' := (20, [some (.inr 30), some (.inl k), some (.inl i), some (.inl (f + 1)), some (.inl (d + 1)), some (.inl (rbl v (lkOf l k) k (d % v 0 0) (d / v 0 0)))], [], σ)) rfl ?_
                  exact ih20 (f + 1) (d + 1) (some (.inl (rbl v (lkOf l k) k (d % v 0 0) (d / v 0 0)))) (by omega) (by omega) (by first | (rw [hs, hrm]; first | (rw [b01_t (by omega)]; omega) | (rw [b01_f (by omega)]; omega)) | fail) (by first | (exact fstI_no hv20_0 hv20_3 (by intro q; have q1 := q.1; have q2 := q.2; rw [hrm] at q1; first | (rw [b01_f (by omega)] at q1; omega) | (rw [← hv20_2] at q2; omega))) | fail) (by omega)
                · replace c71 := cmp_ne_f c71
                  refine wp_go 1 hM (fr' := (76, [some (.inr 30), some (.inl k), some (.inl i), some (.inl f), some (.inl d), some (.inl (rbl v (lkOf l k) k (d % v 0 0) (d / v 0 0)))], [.inl d], σ)) rfl ?_
                  refine wp_ret hM rfl (rfl) ?_
                  first | (exact ⟨by unfold aRoom; rw [if_neg hnd, if_neg (by omega), fstI_yes (t := d) hv20_0 (by omega) hv20_3 ⟨by rw [hrm, b01_t (by omega)], by omega⟩], h0, Fm.rf⟩) | fail
              · replace c63 := cmp_eq_f c63
                refine wp_go 3 hM (fr' := (20, [some (.inr 30), some (.inl k), some (.inl i), some (.inl f), some (.inl (d + 1)), some (.inl (rbl v (lkOf l k) k (d % v 0 0) (d / v 0 0)))], [], σ)) rfl ?_
                exact ih20 f (d + 1) (some (.inl (rbl v (lkOf l k) k (d % v 0 0) (d / v 0 0)))) (by omega) (by omega) (by first | (rw [hs, hrm]; first | (rw [b01_t (by omega)]; omega) | (rw [b01_f (by omega)]; omega)) | fail) (by first | (exact fstI_no hv20_0 hv20_3 (by intro q; have q1 := q.1; have q2 := q.2; rw [hrm] at q1; first | (rw [b01_f (by omega)] at q1; omega) | (rw [← hv20_2] at q2; omega))) | fail) (by omega)
      exact loop20 402 0 0 (none) (by omega) (by omega) (by rfl) (by rfl) (by omega)
    · replace c10 := cmp_ge_f c10
      refine wp_go 1 hM (fr' := (14, [some (.inr 30), some (.inl k), some (.inl i), none, none, none], [.inl (-1)], σ)) rfl ?_
      refine wp_ret hM rfl (rfl) ?_
      first | (exact ⟨by unfold aRoom; rw [if_pos (by first | exact Or.inl c5 | exact Or.inr (by omega))], h0, Fm.rf⟩) | fail

set_option maxRecDepth 100000 in
set_option maxHeartbeats 4000000 in
theorem sp_X6_reach (v : mz_G) (l : List tr3) (σ : mz_G) (k : Int) (a : Int) (b : Int) (h0 : MA σ v l) (h1 : GO v l) (h2 : mz_R k) (h3 : mz_R a) (h4 : mz_R b) : mz_Cl shM 174 [.inr 30, .inl k, .inl a, .inl b] σ (fun r σ' => r = some (aReach v l k a b) ∧ MA σ' v l ∧ Fm σ σ') := by
  have hM : mz_meth[174]? = some mtX6_reach := rfl
  obtain ⟨hB, hSd, ⟨hP0, hP1⟩, ⟨hC0, hC1'⟩, hVr, hn30, hl2⟩ := id h1
  obtain ⟨hR, hT, hLen⟩ := id hB
  obtain ⟨⟨hW0, hW1⟩, ⟨hH0, hH1⟩, ⟨hn0, hn1⟩, hpt⟩ := id hR
  obtain ⟨⟨⟨hc1, hc2, hc3⟩, hcp, hcv⟩, hc4, hct⟩ := id h0
  have hWH := WH_bd hR
  refine mz_Cl.of hM ?_
  show mz_Wp shM none 174 (0, [some (.inr 30), some (.inl k), some (.inl a), some (.inl b), none, none, none], [], σ) _
  refine wp_go 2 hM (fr' := (2, [some (.inr 30), some (.inl k), some (.inl a), some (.inl b), none, none, none], [.inl k, .inr 30], σ)) rfl ?_
  refine wp_calld (v := 0) (idx := 151) (j := 123) (N := mtX6_isKnot) (as := [.inr 30, .inl k]) (rest := []) hM rfl (Or.inl ⟨rfl, rfl⟩) rfl (sp_X6_isKnot v l σ k (by first | (first | assumption | omega) | fail) (by first | (first | assumption | omega) | fail) (by first | (first | assumption | omega) | fail)) ?_
  show mz_Wp shM none 174 (5, [some (.inr 30), some (.inl k), some (.inl a), some (.inl b), none, none, none], [.inl (b01 (isk v k))], σ) _
  refine wp_if (tgt := 36) hM rfl (by decide) b01_R (fun c5 => ?_) (fun c5 => ?_)
  · replace c5 := b01_eq0 (cmp_eq_t c5)
    refine wp_go 1 hM (fr' := (37, [some (.inr 30), some (.inl k), some (.inl a), some (.inl b), none, none, none], [.inl (-1)], σ)) rfl ?_
    refine wp_ret hM rfl (rfl) ?_
    first | (exact ⟨by unfold aReach; rw [if_pos (by first | exact Or.inl c5 | exact Or.inr (by omega))], h0, Fm.rf⟩) | fail
  · replace c5 := b01_ne0 (cmp_eq_f c5)
    first | (have hik := c5) | skip
    first | (have hk1 := c5.1) | skip
    first | (have hk2 := c5.2) | skip
    first | (have hk := MA_pt h0 c5.1 c5.2) | skip
    first | (have hr := Rg_pt hR c5.1 c5.2) | skip
    first | (have ej : ∀ j : Nat, j = k.toNat ↔ (j : Int) = k := fun j => by omega) | skip
    refine wp_go 3 hM (fr' := (12, [some (.inr 30), some (.inl k), some (.inl a), some (.inl b), none, none, none], [.inl 3, .inl (-3), .inl a], σ)) rfl ?_
    refine wp_calld (v := 1) (idx := 116) (j := 103) (N := mtX6_isIn) (as := [.inl a, .inl (-3), .inl 3]) (rest := []) hM rfl (Or.inr ⟨rfl, rfl⟩) rfl (sp_X6_isIn  σ a (-3) 3 (by first | (first | assumption | omega) | fail) (by first | (first | assumption | omega) | fail) (by first | (first | assumption | omega) | fail)) ?_
    show mz_Wp shM none 174 (15, [some (.inr 30), some (.inl k), some (.inl a), some (.inl b), none, none, none], [.inl (b01 ((-3) ≤ a ∧ a ≤ 3))], σ) _
    refine wp_if (tgt := 36) hM rfl (by decide) b01_R (fun c15 => ?_) (fun c15 => ?_)
    · replace c15 := b01_eq0 (cmp_eq_t c15)
      refine wp_go 1 hM (fr' := (37, [some (.inr 30), some (.inl k), some (.inl a), some (.inl b), none, none, none], [.inl (-1)], σ)) rfl ?_
      refine wp_ret hM rfl (rfl) ?_
      first | (exact ⟨by unfold aReach; rw [if_pos (by first | exact Or.inl c5 | exact Or.inr (by omega))], h0, Fm.rf⟩) | fail
    · replace c15 := b01_ne0 (cmp_eq_f c15)
      refine wp_go 3 hM (fr' := (22, [some (.inr 30), some (.inl k), some (.inl a), some (.inl b), none, none, none], [.inl 3, .inl (-3), .inl b], σ)) rfl ?_
      refine wp_calld (v := 1) (idx := 116) (j := 103) (N := mtX6_isIn) (as := [.inl b, .inl (-3), .inl 3]) (rest := []) hM rfl (Or.inr ⟨rfl, rfl⟩) rfl (sp_X6_isIn  σ b (-3) 3 (by first | (first | assumption | omega) | fail) (by first | (first | assumption | omega) | fail) (by first | (first | assumption | omega) | fail)) ?_
      show mz_Wp shM none 174 (25, [some (.inr 30), some (.inl k), some (.inl a), some (.inl b), none, none, none], [.inl (b01 ((-3) ≤ b ∧ b ≤ 3))], σ) _
      refine wp_if (tgt := 36) hM rfl (by decide) b01_R (fun c25 => ?_) (fun c25 => ?_)
      · replace c25 := b01_eq0 (cmp_eq_t c25)
        refine wp_go 1 hM (fr' := (37, [some (.inr 30), some (.inl k), some (.inl a), some (.inl b), none, none, none], [.inl (-1)], σ)) rfl ?_
        refine wp_ret hM rfl (rfl) ?_
        first | (exact ⟨by unfold aReach; rw [if_pos (by first | exact Or.inl c5 | exact Or.inr (by omega))], h0, Fm.rf⟩) | fail
      · replace c25 := b01_ne0 (cmp_eq_f c25)
        refine wp_go 1 hM (fr' := (29, [some (.inr 30), some (.inl k), some (.inl a), some (.inl b), none, none, none], [.inl a], σ)) rfl ?_
        refine wp_if (tgt := 38) hM rfl (by decide) (by omega) (fun c29 => ?_) (fun c29 => ?_)
        · replace c29 := cmp_ne_t c29
          refine wp_go 3 hM (fr' := (43, [some (.inr 30), some (.inl k), some (.inl a), some (.inl b), none, none, none], [.inl k, .inr 33], σ)) rfl ?_
          refine wp_al (n := 31) hM rfl (by decide) rfl (by omega) (by omega) ?_
          first | (have hab : ¬ (a = 0 ∧ b = 0) := by omega) | skip
          first | (have hnd : ¬ (¬ isk v k ∨ ¬ (-3 ≤ a ∧ a ≤ 3 ∧ -3 ≤ b ∧ b ≤ 3) ∨ (a = 0 ∧ b = 0)) := by intro q; rcases q with q | q; exact q hik; omega) | skip
          first | (rw [hk.2.2.1]) | skip
          refine wp_go 4 hM (fr' := (51, [some (.inr 30), some (.inl k), some (.inl a), some (.inl b), some (.inl (gx v 1 k)), none, none], [.inl k, .inr 34], σ)) rfl ?_
          refine wp_al (n := 31) hM rfl (by decide) rfl (by omega) (by omega) ?_
          first | (rw [hk.2.2.2]) | skip
          refine wp_go 3 hM (fr' := (57, [some (.inr 30), some (.inl k), some (.inl a), some (.inl b), some (.inl (gx v 1 k)), some (.inl (gy v 1 k)), some (.inl 0)], [], σ)) rfl ?_
          have loop57 : ∀ (fuel : Nat) (n : Int) (σ1 : mz_G), (0 ≤ n) → (n < 20) → (dot v (gx v 1 k + n * a) (gy v 1 k + n * b)) → (fstI n (fun j => ¬ rbl v (lkOf l k) k (gx v 1 k + (j + 1) * a) (gy v 1 k + (j + 1) * b) = 0) = -1) → (σ1 = mz_up (mz_up σ 33 k.toNat (gx v 1 k + n * a)) 34 k.toNat (gy v 1 k + n * b)) → ((20 - n : Int) < fuel) → mz_Wp shM none 174 (57, [some (.inr 30), some (.inl k), some (.inl a), some (.inl b), some (.inl (gx v 1 k)), some (.inl (gy v 1 k)), some (.inl n)], [], σ1) (fun r σ' => r = some (aReach v l k a b) ∧ MA σ' v l ∧ Fm σ σ') := by
            intro fuel
            induction fuel with
            | zero =>
              intro n σ1 hv57_0 hv57_1 hv57_2 hv57_3 hv57_4 hf57
              exfalso
              omega
            | succ fuel ih57 =>
              intro n σ1 hv57_0 hv57_1 hv57_2 hv57_3 hv57_4 hf57
              have hA1 : MA σ1 (vmv v k (gx v 1 k + n * a) (gy v 1 k + n * b)) l := by rw [hv57_4]; exact MA_mv h0 (fun j => by simp [mz_up, ej]) (fun j => by simp [mz_up, ej]) (fun c i a b => by rw [up_ne b, up_ne a])
              have hB1 := Bs_mv (k := k) hB hv57_2
              have hx1 : σ1 33 k.toNat = gx v 1 k + n * a := by rw [hv57_4, up_ne (by decide), up_eq]
              have hy1 : σ1 34 k.toNat = gy v 1 k + n * b := by rw [hv57_4, up_eq]
              have hma := mul_bd (a := n) (b := a) (m := 20) (k := 3) (by omega) (by omega) (by omega) (by omega)
              have hmb := mul_bd (a := n) (b := b) (m := 20) (k := 3) (by omega) (by omega) (by omega) (by omega)
              have ea : (n + 1) * a = n * a + a := by rw [Int.add_mul, Int.one_mul]
              have eb : (n + 1) * b = n * b + b := by rw [Int.add_mul, Int.one_mul]
              have hwr : wyn (vmv v k (gx v 1 k + n * a) (gy v 1 k + n * b)) l k (gx v 1 k + n * a + a) (gy v 1 k + n * b + b) = rbl v (lkOf l k) k (gx v 1 k + n * a + a) (gy v 1 k + n * b + b) := by
                rw [wyn_mv hik.1 (by omega) (fun z => by have z1 := z.1; have z2 := z.2; rcases ab_ne (show 0 < n + 1 by omega) hab with q | q; omega; omega), wyn_rtm h1]
                unfold rtm
                rw [if_neg (fun z => z hik)]
              have hrb := rbl_bd (v := v) (m := lkOf l k) (k := k) (x := gx v 1 k + n * a + a) (y := gy v 1 k + n * b + b)
              refine wp_go 5 hM (fr' := (64, [some (.inr 30), some (.inl k), some (.inl a), some (.inl b), some (.inl (gx v 1 k)), some (.inl (gy v 1 k)), some (.inl n)], [.inl k, .inr 33, .inl k, .inr 30], σ1)) rfl ?_
              refine wp_al (n := 31) hM rfl (by decide) rfl (by omega) (by omega) ?_
              first | (rw [hx1]) | skip
              refine wp_go 5 hM (fr' := (72, [some (.inr 30), some (.inl k), some (.inl a), some (.inl b), some (.inl (gx v 1 k)), some (.inl (gy v 1 k)), some (.inl n)], [.inl k, .inr 34, .inl ((gx v 1 k + n * a) + a), .inl k, .inr 30], σ1)) rfl ?_
              refine wp_al (n := 31) hM rfl (by decide) rfl (by omega) (by omega) ?_
              first | (rw [hy1]) | skip
              refine wp_go 2 hM (fr' := (75, [some (.inr 30), some (.inl k), some (.inl a), some (.inl b), some (.inl (gx v 1 k)), some (.inl (gy v 1 k)), some (.inl n)], [.inl ((gy v 1 k + n * b) + b), .inl ((gx v 1 k + n * a) + a), .inl k, .inr 30], σ1)) rfl ?_
              refine wp_calld (v := 0) (idx := 155) (j := 128) (N := mtX6_whyNot) (as := [.inr 30, .inl k, .inl ((gx v 1 k + n * a) + a), .inl ((gy v 1 k + n * b) + b)]) (rest := []) hM rfl (Or.inl ⟨rfl, rfl⟩) rfl (sp_X6_whyNot (vmv v k (gx v 1 k + n * a) (gy v 1 k + n * b)) l σ1 k ((gx v 1 k + n * a) + a) ((gy v 1 k + n * b) + b) (by first | (first | assumption | exact hA1 | exact hB1 | omega) | fail) (by first | (first | assumption | exact hA1 | exact hB1 | omega) | fail) (by first | (first | assumption | exact hA1 | exact hB1 | omega) | fail) (by first | (first | assumption | exact hA1 | exact hB1 | omega) | fail) (by first | (first | assumption | exact hA1 | exact hB1 | omega) | fail)) ?_
              show mz_Wp shM none 174 (78, [some (.inr 30), some (.inl k), some (.inl a), some (.inl b), some (.inl (gx v 1 k)), some (.inl (gy v 1 k)), some (.inl n)], [.inl (wyn (vmv v k (gx v 1 k + n * a) (gy v 1 k + n * b)) l k ((gx v 1 k + n * a) + a) ((gy v 1 k + n * b) + b))], σ1) _
              first | (rw [hwr]) | skip
              refine wp_if (tgt := 107) hM rfl (by decide) (by omega) (fun c78 => ?_) (fun c78 => ?_)
              · replace c78 := cmp_ne_t c78
                refine wp_go 4 hM (fr' := (114, [some (.inr 30), some (.inl k), some (.inl a), some (.inl b), some (.inl (gx v 1 k)), some (.inl (gy v 1 k)), some (.inl n)], [.inl (gx v 1 k), .inl k, .inr 33], σ1)) rfl ?_
                refine wp_as (n := 31) hM rfl rfl (by omega) (by omega) ?_
                refine wp_go 4 hM (fr' := (122, [some (.inr 30), some (.inl k), some (.inl a), some (.inl b), some (.inl (gx v 1 k)), some (.inl (gy v 1 k)), some (.inl n)], [.inl (gy v 1 k), .inl k, .inr 34], (mz_up σ1 33 (k).toNat (gx v 1 k)))) rfl ?_
                refine wp_as (n := 31) hM rfl rfl (by omega) (by omega) ?_
                refine wp_go 1 hM (fr' := (125, [some (.inr 30), some (.inl k), some (.inl a), some (.inl b), some (.inl (gx v 1 k)), some (.inl (gy v 1 k)), some (.inl n)], [.inl n], (mz_up (mz_up σ1 33 (k).toNat (gx v 1 k)) 34 (k).toNat (gy v 1 k)))) rfl ?_
                refine wp_ret hM rfl (rfl) ?_
                rw [hv57_4, up_bk hk.2.2.1.symm hk.2.2.2.symm]
                refine ⟨?_, h0, Fm.rf⟩
                unfold aReach rcN
                rw [if_neg hnd, fstI_yes (t := n) (P := fun j => ¬ rbl v (lkOf l k) k (gx v 1 k + (j + 1) * a) (gy v 1 k + (j + 1) * b) = 0) hv57_0 (by omega) hv57_3 (by show ¬ rbl v (lkOf l k) k (gx v 1 k + (n + 1) * a) (gy v 1 k + (n + 1) * b) = 0; rw [ea, eb, ← Int.add_assoc, ← Int.add_assoc]; exact c78), if_neg (by omega)]
              · replace c78 := cmp_ne_f c78
                first | (have hzz : rbl v (lkOf l k) k (gx v 1 k + n * a + a) (gy v 1 k + n * b + b) = 0 := c78) | skip
                have hd2 : dot v (gx v 1 k + n * a + a) (gy v 1 k + n * b + b) := by
                  have hrt : rtm v l k (gx v 1 k + n * a + a) (gy v 1 k + n * b + b) = 0 := by
                    unfold rtm
                    rw [if_neg (fun z => z hik)]
                    exact hzz
                  exact (rtm0 hrt).2.1
                first | (have hlt := st_lt (p := gx v 1 k) (q := gy v 1 k) (n := n) (a := a) (b := b) hab hW1 hH1 ⟨hr.2.2.1.1, hr.2.2.1.2, hr.2.2.2.1, hr.2.2.2.2⟩ hd2 hv57_0) | skip
                refine wp_go 4 hM (fr' := (87, [some (.inr 30), some (.inl k), some (.inl a), some (.inl b), some (.inl (gx v 1 k)), some (.inl (gy v 1 k)), some (.inl n)], [.inl k, .inr 33, .inl k, .inr 33], σ1)) rfl ?_
                refine wp_al (n := 31) hM rfl (by decide) rfl (by omega) (by omega) ?_
                first | (rw [hx1]) | skip
                refine wp_go 2 hM (fr' := (90, [some (.inr 30), some (.inl k), some (.inl a), some (.inl b), some (.inl (gx v 1 k)), some (.inl (gy v 1 k)), some (.inl n)], [.inl ((gx v 1 k + n * a) + a), .inl k, .inr 33], σ1)) rfl ?_
                refine wp_as (n := 31) hM rfl rfl (by omega) (by omega) ?_
                refine wp_go 4 hM (fr' := (97, [some (.inr 30), some (.inl k), some (.inl a), some (.inl b), some (.inl (gx v 1 k)), some (.inl (gy v 1 k)), some (.inl n)], [.inl k, .inr 34, .inl k, .inr 34], (mz_up σ1 33 (k).toNat ((gx v 1 k + n * a) + a)))) rfl ?_
                refine wp_al (n := 31) hM rfl (by decide) rfl (by omega) (by omega) ?_
                show mz_Wp shM none 174 (98, [some (.inr 30), some (.inl k), some (.inl a), some (.inl b), some (.inl (gx v 1 k)), some (.inl (gy v 1 k)), some (.inl n)], [.inl (σ1 34 (k).toNat), .inl k, .inr 34], (mz_up σ1 33 (k).toNat ((gx v 1 k + n * a) + a))) _
                first | (rw [hy1]) | skip
                refine wp_go 2 hM (fr' := (100, [some (.inr 30), some (.inl k), some (.inl a), some (.inl b), some (.inl (gx v 1 k)), some (.inl (gy v 1 k)), some (.inl n)], [.inl ((gy v 1 k + n * b) + b), .inl k, .inr 34], (mz_up σ1 33 (k).toNat ((gx v 1 k + n * a) + a)))) rfl ?_
                refine wp_as (n := 31) hM rfl rfl (by omega) (by omega) ?_
                refine wp_go 2 hM (fr' := (57, [some (.inr 30), some (.inl k), some (.inl a), some (.inl b), some (.inl (gx v 1 k)), some (.inl (gy v 1 k)), some (.inl (n + 1))], [], (mz_up (mz_up σ1 33 (k).toNat ((gx v 1 k + n * a) + a)) 34 (k).toNat ((gy v 1 k + n * b) + b)))) rfl ?_
                exact ih57 (n + 1) (mz_up (mz_up σ1 33 (k).toNat ((gx v 1 k + n * a) + a)) 34 (k).toNat ((gy v 1 k + n * b) + b)) (by omega) (by omega) (by first | (rw [ea, eb, ← Int.add_assoc, ← Int.add_assoc]; exact hd2) | fail) (by first | (exact fstI_no hv57_0 hv57_3 (fun z => z (by show rbl v (lkOf l k) k (gx v 1 k + (n + 1) * a) (gy v 1 k + (n + 1) * b) = 0; rw [ea, eb, ← Int.add_assoc, ← Int.add_assoc]; exact hzz))) | fail) (by first | (rw [hv57_4, up_swp (c := 34) (d := 33) (by decide), up_up, up_up, ea, eb, Int.add_assoc, Int.add_assoc]) | fail) (by omega)
          exact loop57 22 0 σ (by omega) (by omega) (by first | (rw [Int.zero_mul, Int.zero_mul, Int.add_zero, Int.add_zero]; exact ⟨hr.2.2.1.1, hr.2.2.1.2, hr.2.2.2.1, hr.2.2.2.2⟩) | fail) (by rfl) (by first | (rw [Int.zero_mul, Int.zero_mul, Int.add_zero, Int.add_zero, ← hk.2.2.1, ← hk.2.2.2, up_self rfl, up_self rfl]) | fail) (by omega)
        · replace c29 := cmp_ne_f c29
          refine wp_go 1 hM (fr' := (33, [some (.inr 30), some (.inl k), some (.inl a), some (.inl b), none, none, none], [.inl b], σ)) rfl ?_
          refine wp_if (tgt := 38) hM rfl (by decide) (by omega) (fun c33 => ?_) (fun c33 => ?_)
          · replace c33 := cmp_ne_t c33
            refine wp_go 3 hM (fr' := (43, [some (.inr 30), some (.inl k), some (.inl a), some (.inl b), none, none, none], [.inl k, .inr 33], σ)) rfl ?_
            refine wp_al (n := 31) hM rfl (by decide) rfl (by omega) (by omega) ?_
            first | (have hab : ¬ (a = 0 ∧ b = 0) := by omega) | skip
            first | (have hnd : ¬ (¬ isk v k ∨ ¬ (-3 ≤ a ∧ a ≤ 3 ∧ -3 ≤ b ∧ b ≤ 3) ∨ (a = 0 ∧ b = 0)) := by intro q; rcases q with q | q; exact q hik; omega) | skip
            first | (rw [hk.2.2.1]) | skip
            refine wp_go 4 hM (fr' := (51, [some (.inr 30), some (.inl k), some (.inl a), some (.inl b), some (.inl (gx v 1 k)), none, none], [.inl k, .inr 34], σ)) rfl ?_
            refine wp_al (n := 31) hM rfl (by decide) rfl (by omega) (by omega) ?_
            first | (rw [hk.2.2.2]) | skip
            refine wp_go 3 hM (fr' := (57, [some (.inr 30), some (.inl k), some (.inl a), some (.inl b), some (.inl (gx v 1 k)), some (.inl (gy v 1 k)), some (.inl 0)], [], σ)) rfl ?_
            have loop57 : ∀ (fuel : Nat) (n : Int) (σ1 : mz_G), (0 ≤ n) → (n < 20) → (dot v (gx v 1 k + n * a) (gy v 1 k + n * b)) → (fstI n (fun j => ¬ rbl v (lkOf l k) k (gx v 1 k + (j + 1) * a) (gy v 1 k + (j + 1) * b) = 0) = -1) → (σ1 = mz_up (mz_up σ 33 k.toNat (gx v 1 k + n * a)) 34 k.toNat (gy v 1 k + n * b)) → ((20 - n : Int) < fuel) → mz_Wp shM none 174 (57, [some (.inr 30), some (.inl k), some (.inl a), some (.inl b), some (.inl (gx v 1 k)), some (.inl (gy v 1 k)), some (.inl n)], [], σ1) (fun r σ' => r = some (aReach v l k a b) ∧ MA σ' v l ∧ Fm σ σ') := by
              intro fuel
              induction fuel with
              | zero =>
                intro n σ1 hv57_0 hv57_1 hv57_2 hv57_3 hv57_4 hf57
                exfalso
                omega
              | succ fuel ih57 =>
                intro n σ1 hv57_0 hv57_1 hv57_2 hv57_3 hv57_4 hf57
                have hA1 : MA σ1 (vmv v k (gx v 1 k + n * a) (gy v 1 k + n * b)) l := by rw [hv57_4]; exact MA_mv h0 (fun j => by simp [mz_up, ej]) (fun j => by simp [mz_up, ej]) (fun c i a b => by rw [up_ne b, up_ne a])
                have hB1 := Bs_mv (k := k) hB hv57_2
                have hx1 : σ1 33 k.toNat = gx v 1 k + n * a := by rw [hv57_4, up_ne (by decide), up_eq]
                have hy1 : σ1 34 k.toNat = gy v 1 k + n * b := by rw [hv57_4, up_eq]
                have hma := mul_bd (a := n) (b := a) (m := 20) (k := 3) (by omega) (by omega) (by omega) (by omega)
                have hmb := mul_bd (a := n) (b := b) (m := 20) (k := 3) (by omega) (by omega) (by omega) (by omega)
                have ea : (n + 1) * a = n * a + a := by rw [Int.add_mul, Int.one_mul]
                have eb : (n + 1) * b = n * b + b := by rw [Int.add_mul, Int.one_mul]
                have hwr : wyn (vmv v k (gx v 1 k + n * a) (gy v 1 k + n * b)) l k (gx v 1 k + n * a + a) (gy v 1 k + n * b + b) = rbl v (lkOf l k) k (gx v 1 k + n * a + a) (gy v 1 k + n * b + b) := by
                  rw [wyn_mv hik.1 (by omega) (fun z => by have z1 := z.1; have z2 := z.2; rcases ab_ne (show 0 < n + 1 by omega) hab with q | q; omega; omega), wyn_rtm h1]
                  unfold rtm
                  rw [if_neg (fun z => z hik)]
                have hrb := rbl_bd (v := v) (m := lkOf l k) (k := k) (x := gx v 1 k + n * a + a) (y := gy v 1 k + n * b + b)
                refine wp_go 5 hM (fr' := (64, [some (.inr 30), some (.inl k), some (.inl a), some (.inl b), some (.inl (gx v 1 k)), some (.inl (gy v 1 k)), some (.inl n)], [.inl k, .inr 33, .inl k, .inr 30], σ1)) rfl ?_
                refine wp_al (n := 31) hM rfl (by decide) rfl (by omega) (by omega) ?_
                first | (rw [hx1]) | skip
                refine wp_go 5 hM (fr' := (72, [some (.inr 30), some (.inl k), some (.inl a), some (.inl b), some (.inl (gx v 1 k)), some (.inl (gy v 1 k)), some (.inl n)], [.inl k, .inr 34, .inl ((gx v 1 k + n * a) + a), .inl k, .inr 30], σ1)) rfl ?_
                refine wp_al (n := 31) hM rfl (by decide) rfl (by omega) (by omega) ?_
                first | (rw [hy1]) | skip
                refine wp_go 2 hM (fr' := (75, [some (.inr 30), some (.inl k), some (.inl a), some (.inl b), some (.inl (gx v 1 k)), some (.inl (gy v 1 k)), some (.inl n)], [.inl ((gy v 1 k + n * b) + b), .inl ((gx v 1 k + n * a) + a), .inl k, .inr 30], σ1)) rfl ?_
                refine wp_calld (v := 0) (idx := 155) (j := 128) (N := mtX6_whyNot) (as := [.inr 30, .inl k, .inl ((gx v 1 k + n * a) + a), .inl ((gy v 1 k + n * b) + b)]) (rest := []) hM rfl (Or.inl ⟨rfl, rfl⟩) rfl (sp_X6_whyNot (vmv v k (gx v 1 k + n * a) (gy v 1 k + n * b)) l σ1 k ((gx v 1 k + n * a) + a) ((gy v 1 k + n * b) + b) (by first | (first | assumption | exact hA1 | exact hB1 | omega) | fail) (by first | (first | assumption | exact hA1 | exact hB1 | omega) | fail) (by first | (first | assumption | exact hA1 | exact hB1 | omega) | fail) (by first | (first | assumption | exact hA1 | exact hB1 | omega) | fail) (by first | (first | assumption | exact hA1 | exact hB1 | omega) | fail)) ?_
                show mz_Wp shM none 174 (78, [some (.inr 30), some (.inl k), some (.inl a), some (.inl b), some (.inl (gx v 1 k)), some (.inl (gy v 1 k)), some (.inl n)], [.inl (wyn (vmv v k (gx v 1 k + n * a) (gy v 1 k + n * b)) l k ((gx v 1 k + n * a) + a) ((gy v 1 k + n * b) + b))], σ1) _
                first | (rw [hwr]) | skip
                refine wp_if (tgt := 107) hM rfl (by decide) (by omega) (fun c78 => ?_) (fun c78 => ?_)
                · replace c78 := cmp_ne_t c78
                  refine wp_go 4 hM (fr' := (114, [some (.inr 30), some (.inl k), some (.inl a), some (.inl b), some (.inl (gx v 1 k)), some (.inl (gy v 1 k)), some (.inl n)], [.inl (gx v 1 k), .inl k, .inr 33], σ1)) rfl ?_
                  refine wp_as (n := 31) hM rfl rfl (by omega) (by omega) ?_
                  refine wp_go 4 hM (fr' := (122, [some (.inr 30), some (.inl k), some (.inl a), some (.inl b), some (.inl (gx v 1 k)), some (.inl (gy v 1 k)), some (.inl n)], [.inl (gy v 1 k), .inl k, .inr 34], (mz_up σ1 33 (k).toNat (gx v 1 k)))) rfl ?_
                  refine wp_as (n := 31) hM rfl rfl (by omega) (by omega) ?_
                  refine wp_go 1 hM (fr' := (125, [some (.inr 30), some (.inl k), some (.inl a), some (.inl b), some (.inl (gx v 1 k)), some (.inl (gy v 1 k)), some (.inl n)], [.inl n], (mz_up (mz_up σ1 33 (k).toNat (gx v 1 k)) 34 (k).toNat (gy v 1 k)))) rfl ?_
                  refine wp_ret hM rfl (rfl) ?_
                  rw [hv57_4, up_bk hk.2.2.1.symm hk.2.2.2.symm]
                  refine ⟨?_, h0, Fm.rf⟩
                  unfold aReach rcN
                  rw [if_neg hnd, fstI_yes (t := n) (P := fun j => ¬ rbl v (lkOf l k) k (gx v 1 k + (j + 1) * a) (gy v 1 k + (j + 1) * b) = 0) hv57_0 (by omega) hv57_3 (by show ¬ rbl v (lkOf l k) k (gx v 1 k + (n + 1) * a) (gy v 1 k + (n + 1) * b) = 0; rw [ea, eb, ← Int.add_assoc, ← Int.add_assoc]; exact c78), if_neg (by omega)]
                · replace c78 := cmp_ne_f c78
                  first | (have hzz : rbl v (lkOf l k) k (gx v 1 k + n * a + a) (gy v 1 k + n * b + b) = 0 := c78) | skip
                  have hd2 : dot v (gx v 1 k + n * a + a) (gy v 1 k + n * b + b) := by
                    have hrt : rtm v l k (gx v 1 k + n * a + a) (gy v 1 k + n * b + b) = 0 := by
                      unfold rtm
                      rw [if_neg (fun z => z hik)]
                      exact hzz
                    exact (rtm0 hrt).2.1
                  first | (have hlt := st_lt (p := gx v 1 k) (q := gy v 1 k) (n := n) (a := a) (b := b) hab hW1 hH1 ⟨hr.2.2.1.1, hr.2.2.1.2, hr.2.2.2.1, hr.2.2.2.2⟩ hd2 hv57_0) | skip
                  refine wp_go 4 hM (fr' := (87, [some (.inr 30), some (.inl k), some (.inl a), some (.inl b), some (.inl (gx v 1 k)), some (.inl (gy v 1 k)), some (.inl n)], [.inl k, .inr 33, .inl k, .inr 33], σ1)) rfl ?_
                  refine wp_al (n := 31) hM rfl (by decide) rfl (by omega) (by omega) ?_
                  first | (rw [hx1]) | skip
                  refine wp_go 2 hM (fr' := (90, [some (.inr 30), some (.inl k), some (.inl a), some (.inl b), some (.inl (gx v 1 k)), some (.inl (gy v 1 k)), some (.inl n)], [.inl ((gx v 1 k + n * a) + a), .inl k, .inr 33], σ1)) rfl ?_
                  refine wp_as (n := 31) hM rfl rfl (by omega) (by omega) ?_
                  refine wp_go 4 hM (fr' := (97, [some (.inr 30), some (.inl k), some (.inl a), some (.inl b), some (.inl (gx v 1 k)), some (.inl (gy v 1 k)), some (.inl n)], [.inl k, .inr 34, .inl k, .inr 34], (mz_up σ1 33 (k).toNat ((gx v 1 k + n * a) + a)))) rfl ?_
                  refine wp_al (n := 31) hM rfl (by decide) rfl (by omega) (by omega) ?_
                  show mz_Wp shM none 174 (98, [some (.inr 30), some (.inl k), some (.inl a), some (.inl b), some (.inl (gx v 1 k)), some (.inl (gy v 1 k)), some (.inl n)], [.inl (σ1 34 (k).toNat), .inl k, .inr 34], (mz_up σ1 33 (k).toNat ((gx v 1 k + n * a) + a))) _
                  first | (rw [hy1]) | skip
                  refine wp_go 2 hM (fr' := (100, [some (.inr 30), some (.inl k), some (.inl a), some (.inl b), some (.inl (gx v 1 k)), some (.inl (gy v 1 k)), some (.inl n)], [.inl ((gy v 1 k + n * b) + b), .inl k, .inr 34], (mz_up σ1 33 (k).toNat ((gx v 1 k + n * a) + a)))) rfl ?_
                  refine wp_as (n := 31) hM rfl rfl (by omega) (by omega) ?_
                  refine wp_go 2 hM (fr' := (57, [some (.inr 30), some (.inl k), some (.inl a), some (.inl b), some (.inl (gx v 1 k)), some (.inl (gy v 1 k)), some (.inl (n + 1))], [], (mz_up (mz_up σ1 33 (k).toNat ((gx v 1 k + n * a) + a)) 34 (k).toNat ((gy v 1 k + n * b) + b)))) rfl ?_
                  exact ih57 (n + 1) (mz_up (mz_up σ1 33 (k).toNat ((gx v 1 k + n * a) + a)) 34 (k).toNat ((gy v 1 k + n * b) + b)) (by omega) (by omega) (by first | (rw [ea, eb, ← Int.add_assoc, ← Int.add_assoc]; exact hd2) | fail) (by first | (exact fstI_no hv57_0 hv57_3 (fun z => z (by show rbl v (lkOf l k) k (gx v 1 k + (n + 1) * a) (gy v 1 k + (n + 1) * b) = 0; rw [ea, eb, ← Int.add_assoc, ← Int.add_assoc]; exact hzz))) | fail) (by first | (rw [hv57_4, up_swp (c := 34) (d := 33) (by decide), up_up, up_up, ea, eb, Int.add_assoc, Int.add_assoc]) | fail) (by omega)
            exact loop57 22 0 σ (by omega) (by omega) (by first | (rw [Int.zero_mul, Int.zero_mul, Int.add_zero, Int.add_zero]; exact ⟨hr.2.2.1.1, hr.2.2.1.2, hr.2.2.2.1, hr.2.2.2.2⟩) | fail) (by rfl) (by first | (rw [Int.zero_mul, Int.zero_mul, Int.add_zero, Int.add_zero, ← hk.2.2.1, ← hk.2.2.2, up_self rfl, up_self rfl]) | fail) (by omega)
          · replace c33 := cmp_ne_f c33
            refine wp_go 1 hM (fr' := (37, [some (.inr 30), some (.inl k), some (.inl a), some (.inl b), none, none, none], [.inl (-1)], σ)) rfl ?_
            refine wp_ret hM rfl (rfl) ?_
            first | (exact ⟨by unfold aReach; rw [if_pos (by first | exact Or.inl c5 | exact Or.inr (by omega))], h0, Fm.rf⟩) | fail
