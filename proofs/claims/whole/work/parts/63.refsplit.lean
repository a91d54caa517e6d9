/-! the reference: a new knot's triangles -/
theorem cu_lt {v : mz_G} {x y : Int} {l : List tr3} {σ : mz_G} {t n : Int} (h : HX v x y l σ t n) {j : Int} (h0 : 0 ≤ j) (h1 : j < n) : cu σ (j + -1) < cu σ j ∧ -1 ≤ cu σ (j + -1) ∧ ∀ i, cu σ (j + -1) < i → i < cu σ j → ¬ hol v 0 (tg l i) x y := by
  have g := cu_gap h (j := j + -1) (by omega) (by omega)
  have g0 := (cu_gap h (j := j) (by omega) h1).2.1 h0
  rw [show j + -1 + 1 = j by omega, if_pos h1] at g
  refine ⟨?_, by omega, g.2.2⟩
  by_cases q : j = 0
  · have : cu σ (j + -1) = -1 := by unfold cu; rw [if_pos (by omega)]
    omega
  · have g1 := g.2.1 (by omega)
    rw [g1.1, g0.1]
    exact h.2.2.1 (j + -1) j (by omega) (by omega) h1
/-- nothing but the triangles and what the splitting needs -/
def Fsp (σ σ' : mz_G) : Prop := ∀ c i, ¬ c = 35 → ¬ c = 43 → ¬ c = 44 → ¬ (c = 30 ∧ i = 3) → σ' c i = σ c i
set_option maxRecDepth 100000 in
set_option maxHeartbeats 4000000 in
theorem sp_X6_splitsNew (v : mz_G) (l : List tr3) (σ : mz_G) (k : Int) (h0 : MA σ v l) (h1 : Bs v l) (h2 : 0 ≤ k) (h3 : k < v 0 2) (h4 : ((l.filter (fun z => !decide (hol v 0 z (gx v 0 k) (gy v 0 k)))).length : Int) + ((lhOf v l (gx v 0 k) (gy v 0 k)).length : Int) ≤ 60) : mz_Cl shM 127 [.inr 30, .inl k] σ (fun r σ' => r = none ∧ (∃ L, MA σ' v L ∧ L.Perm (l.filter (fun z => !decide (hol v 0 z (gx v 0 k) (gy v 0 k))) ++ (lhOf v l (gx v 0 k) (gy v 0 k)).map (ek k))) ∧ Fsp σ σ') := by
  have hM : mz_meth[127]? = some mtX6_splitsNew := rfl
  obtain ⟨hR, hT, hLen⟩ := id h1
  obtain ⟨⟨hW0, hW1⟩, ⟨hH0, hH1⟩, ⟨hn0, hn1⟩, hpt⟩ := id hR
  obtain ⟨⟨⟨hc1, hc2, hc3⟩, hcp, hcv⟩, hc4, hct⟩ := id h0
  have hWH := WH_bd hR
  have hkr := Rg_pt hR h2 h3
  have hdt : dot v (gx v 0 k) (gy v 0 k) := ⟨hkr.1.1, hkr.1.2, hkr.2.1.1, hkr.2.1.2⟩
  refine mz_Cl.of hM ?_
  show mz_Wp shM none 127 (0, [some (.inr 30), some (.inl k), none, none, none, none, none], [], σ) _
  refine wp_go 4 hM (fr' := (4, [some (.inr 30), some (.inl k), some (.inl 0), some (.inl 0), none, none, none], [], σ)) rfl ?_
  have loop4 : ∀ (fuel : Nat) (n : Int) (t : Int) (σ1 : mz_G) (d4_4 d4_5 d4_6 : Option mz_V), (0 ≤ t) → (t ≤ (l.length : Int)) → (HX v (gx v 0 k) (gy v 0 k) l σ1 t n) → (∀ c i, ¬ c = 43 → ¬ c = 44 → σ1 c i = σ c i) → (((l.length : Int) - t : Int) < fuel) → mz_Wp shM none 127 (4, [some (.inr 30), some (.inl k), some (.inl n), some (.inl t), d4_4, d4_5, d4_6], [], σ1) (fun r σ' => r = none ∧ (∃ L, MA σ' v L ∧ L.Perm (l.filter (fun z => !decide (hol v 0 z (gx v 0 k) (gy v 0 k))) ++ (lhOf v l (gx v 0 k) (gy v 0 k)).map (ek k))) ∧ Fsp σ σ') := by
    intro fuel
    induction fuel with
    | zero =>
      intro n t σ1 d4_4 d4_5 d4_6 hv4_0 hv4_1 hv4_2 hv4_3 hf4
      exfalso
      omega
    | succ fuel ih4 =>
      intro n t σ1 d4_4 d4_5 d4_6 hv4_0 hv4_1 hv4_2 hv4_3 hf4
      have hA1 : MA σ1 v l := MA_ext h0 (fun i hi => hv4_3 30 i (by decide) (by decide)) (fun c hc i => hv4_3 c i (by omega) (by omega))
      have hn1 : σ1 30 3 = (l.length : Int) := hA1.2.1
      have hnle := hlT_le (v := v) (x := (gx v 0 k)) (y := (gy v 0 k)) (l := l) hv4_0
      have hnn := hv4_2.1
      have hp1 := MA_pt hA1 h2 h3
      refine wp_go 3 hM (fr' := (9, [some (.inr 30), some (.inl k), some (.inl n), some (.inl t), d4_4, d4_5, d4_6], [.inl (σ1 30 3), .inl t], σ1)) rfl ?_
      refine wp_ic (tgt := 85) hM rfl (by decide) (by omega) (by first | (rw [hn1]; omega) | fail) (fun c9 => ?_) (fun c9 => ?_)
      · replace c9 := cmp_ge_t c9
        first | (rw [hn1] at c9) | skip
        first | (have htl : t = (l.length : Int) := by omega) | skip
        first | (have hHX : HX v (gx v 0 k) (gy v 0 k) l σ1 (l.length : Int) n := by rw [← htl]; exact hv4_2) | skip
        first | (have hHl : ∀ u ∈ (hlT v (gx v 0 k) (gy v 0 k) l (l.length : Int)), u ∈ l := fun u hu => by rw [hlT_all rfl] at hu; exact (List.mem_filter.mp hu).1) | skip
        first | (have hHh : ∀ u ∈ (hlT v (gx v 0 k) (gy v 0 k) l (l.length : Int)), hol v 0 u (gx v 0 k) (gy v 0 k) := fun u hu => by rw [hlT_all rfl] at hu; simpa using (List.mem_filter.mp hu).2) | skip
        first | (have hHf : (hlT v (gx v 0 k) (gy v 0 k) l (l.length : Int)).flatMap (lh1 v (gx v 0 k) (gy v 0 k)) = (lhOf v l (gx v 0 k) (gy v 0 k)) := by rw [hlT_all rfl, hlT_lh]) | skip
        first | (have hHn : n = ((hlT v (gx v 0 k) (gy v 0 k) l (l.length : Int)).length : Int) := hHX.1) | skip
        first | (have hgn := cu_gap hHX (j := n - 1) (by omega) (by omega)) | skip
        first | (rw [show n - 1 + 1 = n by omega, if_neg (show ¬ n < n by omega)] at hgn) | skip
        refine wp_go 4 hM (fr' := (89, [some (.inr 30), some (.inl k), some (.inl n), some (.inl (n - 1)), d4_4, d4_5, d4_6], [], σ1)) rfl ?_
        have loop89 : ∀ (fuel : Nat) (j : Int) (σ3 : mz_G), (-1 ≤ j) → (j < n) → (∃ L, MT σ3 L ∧ RX (fun z => hol v 0 z (gx v 0 k) (gy v 0 k)) l L (cu σ1 j) ∧ Fr σ1 σ3) → ((j + 1 : Int) < fuel) → mz_Wp shM none 127 (89, [some (.inr 30), some (.inl k), some (.inl n), some (.inl j), d4_4, d4_5, d4_6], [], σ3) (fun r σ' => r = none ∧ (∃ L, MA σ' v L ∧ L.Perm (l.filter (fun z => !decide (hol v 0 z (gx v 0 k) (gy v 0 k))) ++ (lhOf v l (gx v 0 k) (gy v 0 k)).map (ek k))) ∧ Fsp σ σ') := by
          intro fuel
          induction fuel with
          | zero =>
            intro j σ3 hv89_0 hv89_1 hv89_2 hf89
            exfalso
            omega
          | succ fuel ih89 =>
            intro j σ3 hv89_0 hv89_1 hv89_2 hf89
            obtain ⟨L, hL1, hL2, hL3⟩ := hv89_2
            refine wp_go 1 hM (fr' := (90, [some (.inr 30), some (.inl k), some (.inl n), some (.inl j), d4_4, d4_5, d4_6], [.inl j], σ3)) rfl ?_
            refine wp_if (tgt := 109) hM rfl (by decide) (by omega) (fun c90 => ?_) (fun c90 => ?_)
            · replace c90 := cmp_lt_t c90
              first | (have hc1 : cu σ1 j = -1 := by unfold cu; rw [if_pos (by omega)]) | skip
              have hpf : L.Perm (l.filter (fun z => !decide (hol v 0 z (gx v 0 k) (gy v 0 k)))) := by
                have z := hL2.1
                rw [hc1, rmT_end] at z
                exact z
              first | (have hAX0 : AX v l (gx v 0 k) (gy v 0 k) k [] σ1 σ3 := ⟨L, MA_Fr hA1 hL3 hL1, by rw [List.map_nil, List.append_nil]; exact hpf, hL3⟩) | skip
              refine wp_go 2 hM (fr' := (111, [some (.inr 30), some (.inl k), some (.inl n), some (.inl 0), d4_4, d4_5, d4_6], [], σ3)) rfl ?_
              have loop111 : ∀ (fuel : Nat) (q : Int) (σ4 : mz_G) (d111_4 d111_5 d111_6 : Option mz_V), (0 ≤ q) → (q ≤ n) → (AX v l (gx v 0 k) (gy v 0 k) k (flT (lh1 v (gx v 0 k) (gy v 0 k)) (hlT v (gx v 0 k) (gy v 0 k) l (l.length : Int)) q) σ1 σ4) → ((n - q : Int) < fuel) → mz_Wp shM none 127 (111, [some (.inr 30), some (.inl k), some (.inl n), some (.inl q), d111_4, d111_5, d111_6], [], σ4) (fun r σ' => r = none ∧ (∃ L, MA σ' v L ∧ L.Perm (l.filter (fun z => !decide (hol v 0 z (gx v 0 k) (gy v 0 k))) ++ (lhOf v l (gx v 0 k) (gy v 0 k)).map (ek k))) ∧ Fsp σ σ') := by
                intro fuel
                induction fuel with
                | zero =>
                  intro q σ4 d111_4 d111_5 d111_6 hv111_0 hv111_1 hv111_2 hf111
                  exfalso
                  omega
                | succ fuel ih111 =>
                  intro q σ4 d111_4 d111_5 d111_6 hv111_0 hv111_1 hv111_2 hf111
                  refine wp_go 2 hM (fr' := (113, [some (.inr 30), some (.inl k), some (.inl n), some (.inl q), d111_4, d111_5, d111_6], [.inl n, .inl q], σ4)) rfl ?_
                  refine wp_ic (tgt := 188) hM rfl (by decide) (by omega) (by omega) (fun c113 => ?_) (fun c113 => ?_)
                  · replace c113 := cmp_ge_t c113
                    refine wp_retv hM rfl rfl ?_
                    obtain ⟨L6, hA6, hp6, hf6⟩ := hv111_2
                    rw [flT_all (show q = ((hlT v (gx v 0 k) (gy v 0 k) l (l.length : Int)).length : Int) by omega), hHf] at hp6
                    exact ⟨rfl, ⟨L6, hA6, hp6⟩, fun c i a b d z => (hf6 c i a z).trans (hv4_3 c i b d)⟩
                  · replace c113 := cmp_ge_f c113
                    first | (have hxm : tg (hlT v (gx v 0 k) (gy v 0 k) l (l.length : Int)) q ∈ (hlT v (gx v 0 k) (gy v 0 k) l (l.length : Int)) := tg_mem hv111_0 (by omega)) | skip
                    first | (have hxl := hHl _ hxm) | skip
                    first | (have hxh := hHh _ hxm) | skip
                    first | (have hxr := hT _ hxl) | skip
                    first | (have hF1 : flT (lh1 v (gx v 0 k) (gy v 0 k)) (hlT v (gx v 0 k) (gy v 0 k) l (l.length : Int)) (q + 1) = flT (lh1 v (gx v 0 k) (gy v 0 k)) (hlT v (gx v 0 k) (gy v 0 k) l (l.length : Int)) q ++ lh1 v (gx v 0 k) (gy v 0 k) (tg (hlT v (gx v 0 k) (gy v 0 k) l (l.length : Int)) q) := flT_s hv111_0 (by omega)) | skip
                    have hF2 : (flT (lh1 v (gx v 0 k) (gy v 0 k)) (hlT v (gx v 0 k) (gy v 0 k) l (l.length : Int)) (q + 1)).length ≤ (lhOf v l (gx v 0 k) (gy v 0 k)).length := by
                      have z := flT_le (f := (lh1 v (gx v 0 k) (gy v 0 k))) (l := (hlT v (gx v 0 k) (gy v 0 k) l (l.length : Int))) (t := q + 1)
                      rw [hHf] at z
                      exact z
                    have hF3 : (flT (lh1 v (gx v 0 k) (gy v 0 k)) (hlT v (gx v 0 k) (gy v 0 k) l (l.length : Int)) q).length + (lh1 v (gx v 0 k) (gy v 0 k) (tg (hlT v (gx v 0 k) (gy v 0 k) l (l.length : Int)) q)).length ≤ (lhOf v l (gx v 0 k) (gy v 0 k)).length := by
                      rw [hF1, List.length_append] at hF2
                      exact hF2
                    refine wp_go 2 hM (fr' := (119, [some (.inr 30), some (.inl k), some (.inl n), some (.inl q), some (.inl 0), d111_5, d111_6], [], σ4)) rfl ?_
                    have loop119 : ∀ (fuel : Nat) (e : Int) (σ5 : mz_G) (d119_5 d119_6 : Option mz_V), (0 ≤ e) → (e ≤ 3) → (AX v l (gx v 0 k) (gy v 0 k) k (flT (lh1 v (gx v 0 k) (gy v 0 k)) (hlT v (gx v 0 k) (gy v 0 k) l (l.length : Int)) q ++ ph3 v (gx v 0 k) (gy v 0 k) (tg (hlT v (gx v 0 k) (gy v 0 k) l (l.length : Int)) q) e) σ1 σ5) → ((3 - e : Int) < fuel) → mz_Wp shM none 127 (119, [some (.inr 30), some (.inl k), some (.inl n), some (.inl q), some (.inl e), d119_5, d119_6], [], σ5) (fun r σ' => r = none ∧ (∃ L, MA σ' v L ∧ L.Perm (l.filter (fun z => !decide (hol v 0 z (gx v 0 k) (gy v 0 k))) ++ (lhOf v l (gx v 0 k) (gy v 0 k)).map (ek k))) ∧ Fsp σ σ') := by
                      intro fuel
                      induction fuel with
                      | zero =>
                        intro e σ5 d119_5 d119_6 hv119_0 hv119_1 hv119_2 hf119
                        exfalso
                        omega
                      | succ fuel ih119 =>
                        intro e σ5 d119_5 d119_6 hv119_0 hv119_1 hv119_2 hf119
                        obtain ⟨L5, hA5, hp5, hf5⟩ := hv119_2
                        have hLr5 : Lr v (flT (lh1 v (gx v 0 k) (gy v 0 k)) (hlT v (gx v 0 k) (gy v 0 k) l (l.length : Int)) q ++ ph3 v (gx v 0 k) (gy v 0 k) (tg (hlT v (gx v 0 k) (gy v 0 k) l (l.length : Int)) q) e) := Lr_sub (x := 0) (y := 0) hT (fun d hd => by
                          rcases List.mem_append.mp hd with z | z
                          · obtain ⟨u, hu, h9⟩ := flT_mem z
                            exact ⟨u, hHl u hu, h9⟩
                          · exact ⟨_, hxl, ph3_mem z⟩)
                        have hl5 : (L5.length : Int) = ((l.filter (fun z => !decide (hol v 0 z (gx v 0 k) (gy v 0 k)))).length : Int) + ((flT (lh1 v (gx v 0 k) (gy v 0 k)) (hlT v (gx v 0 k) (gy v 0 k) l (l.length : Int)) q).length : Int) + ((ph3 v (gx v 0 k) (gy v 0 k) (tg (hlT v (gx v 0 k) (gy v 0 k) l (l.length : Int)) q) e).length : Int) := by
                          rw [hp5.length_eq, List.length_append, List.length_map, List.length_append]
                          omega
                        have hpl := ph3_len (v := v) (x := (gx v 0 k)) (y := (gy v 0 k)) (t := tg (hlT v (gx v 0 k) (gy v 0 k) l (l.length : Int)) q) hv119_0 hv119_1 hxh
                        have hB5 : Bs v L5 := ⟨hR, ek_Rt hT ⟨h2, h3⟩ hLr5 hp5, by omega⟩
                        refine wp_go 2 hM (fr' := (122, [some (.inr 30), some (.inl k), some (.inl n), some (.inl q), some (.inl e), d119_5, d119_6], [.inl 3, .inl e], σ5)) rfl ?_
                        refine wp_ic (tgt := 182) hM rfl (by decide) (by omega) (by omega) (fun c122 => ?_) (fun c122 => ?_)
                        · replace c122 := cmp_ge_t c122
                          refine wp_go 2 hM (fr' := (111, [some (.inr 30), some (.inl k), some (.inl n), some (.inl (q + 1)), some (.inl e), d119_5, d119_6], [], σ5)) rfl ?_
                          exact ih111 (q + 1) σ5 (some (.inl e)) (d119_5) (d119_6) (by omega) (by omega) (by first | (rw [hF1, ← ph3_all hxh, show (3 : Int) = e from by omega]; exact ⟨L5, hA5, hp5, hf5⟩) | fail) (by omega)
                        · replace c122 := cmp_ge_f c122
                          first | (have hcs := tk_cs (tg (hlT v (gx v 0 k) (gy v 0 k) l (l.length : Int)) q) hv119_0 (show e < 3 by omega)) | skip
                          first | (have htm : 0 ≤ (e + 1).tmod 3 ∧ (e + 1).tmod 3 < 3 := by omega) | skip
                          first | (have hb0 := tk_bd (k := e) hxr) | skip
                          first | (have hb1 := tk_bd (k := (e + 1).tmod 3) hxr) | skip
                          first | (have hab := ar_bd2 hR (q := 0) (by decide) hb0 hb1 ⟨h2, h3⟩) | skip
                          first | (have hph := ph3_s (v := v) (x := (gx v 0 k)) (y := (gy v 0 k)) (t := tg (hlT v (gx v 0 k) (gy v 0 k) l (l.length : Int)) q) hv119_0 (show e < 3 by omega)) | skip
                          first | (have hfe : fe v 0 (gx v 0 k) (gy v 0 k) (tk (tg (hlT v (gx v 0 k) (gy v 0 k) l (l.length : Int)) q) e, tk (tg (hlT v (gx v 0 k) (gy v 0 k) l (l.length : Int)) q) ((e + 1).tmod 3)) = ar (gx v 0 (tk (tg (hlT v (gx v 0 k) (gy v 0 k) l (l.length : Int)) q) e)) (gy v 0 (tk (tg (hlT v (gx v 0 k) (gy v 0 k) l (l.length : Int)) q) e)) (gx v 0 (tk (tg (hlT v (gx v 0 k) (gy v 0 k) l (l.length : Int)) q) ((e + 1).tmod 3))) (gy v 0 (tk (tg (hlT v (gx v 0 k) (gy v 0 k) l (l.length : Int)) q) ((e + 1).tmod 3))) (gx v 0 k) (gy v 0 k) := ar_cyc.symm) | skip
                          first | (have hpl2 := ph3_len (v := v) (x := (gx v 0 k)) (y := (gy v 0 k)) (t := tg (hlT v (gx v 0 k) (gy v 0 k) l (l.length : Int)) q) (e := e + 1) (by omega) (by omega) hxh) | skip
                          refine wp_go 7 hM (fr' := (135, [some (.inr 30), some (.inl k), some (.inl n), some (.inl q), some (.inl e), d119_5, d119_6], [.inl ((3 * q) + e), .inr 44], σ5)) rfl ?_
                          refine wp_al (n := 180) hM rfl (by decide) rfl (by omega) (by omega) ?_
                          first | (rw [hf5 44 (3 * q + e).toNat (by omega) (by omega), hHX.2.2.2.2 q e hv111_0 (by omega) hv119_0 (by omega)]) | skip
                          refine wp_go 10 hM (fr' := (150, [some (.inr 30), some (.inl k), some (.inl n), some (.inl q), some (.inl e), some (.inl (tk (tg (hlT v (gx v 0 k) (gy v 0 k) l (l.length : Int)) q) e)), d119_6], [.inl 3, .inl (e + 1), .inl (3 * q), .inr 44], σ5)) rfl ?_
                          refine wp_rem hM rfl (by omega) (by omega) (by omega) ?_
                          refine wp_go 1 hM (fr' := (152, [some (.inr 30), some (.inl k), some (.inl n), some (.inl q), some (.inl e), some (.inl (tk (tg (hlT v (gx v 0 k) (gy v 0 k) l (l.length : Int)) q) e)), d119_6], [.inl ((3 * q) + ((e + 1).tmod 3)), .inr 44], σ5)) rfl ?_
                          refine wp_al (n := 180) hM rfl (by decide) rfl (by omega) (by omega) ?_
                          first | (rw [hf5 44 (3 * q + (e + 1).tmod 3).toNat (by omega) (by omega), hHX.2.2.2.2 q ((e + 1).tmod 3) hv111_0 (by omega) htm.1 htm.2]) | skip
                          refine wp_go 5 hM (fr' := (161, [some (.inr 30), some (.inl k), some (.inl n), some (.inl q), some (.inl e), some (.inl (tk (tg (hlT v (gx v 0 k) (gy v 0 k) l (l.length : Int)) q) e)), some (.inl (tk (tg (hlT v (gx v 0 k) (gy v 0 k) l (l.length : Int)) q) ((e + 1).tmod 3)))], [.inl k, .inl (tk (tg (hlT v (gx v 0 k) (gy v 0 k) l (l.length : Int)) q) ((e + 1).tmod 3)), .inl (tk (tg (hlT v (gx v 0 k) (gy v 0 k) l (l.length : Int)) q) e), .inr 30], σ5)) rfl ?_
                          refine wp_calld (v := 0) (idx := 89) (j := 112) (N := mtX6_homeArea) (as := [.inr 30, .inl (tk (tg (hlT v (gx v 0 k) (gy v 0 k) l (l.length : Int)) q) e), .inl (tk (tg (hlT v (gx v 0 k) (gy v 0 k) l (l.length : Int)) q) ((e + 1).tmod 3)), .inl k]) (rest := []) hM rfl (Or.inl ⟨rfl, rfl⟩) rfl (sp_X6_homeArea v L5 σ5 (tk (tg (hlT v (gx v 0 k) (gy v 0 k) l (l.length : Int)) q) e) (tk (tg (hlT v (gx v 0 k) (gy v 0 k) l (l.length : Int)) q) ((e + 1).tmod 3)) k (by first | (first | assumption | exact hb0.1 | exact hb0.2 | exact hb1.1 | exact hb1.2) | fail) (by first | (first | assumption | exact hb0.1 | exact hb0.2 | exact hb1.1 | exact hb1.2) | fail) (by first | (first | assumption | exact hb0.1 | exact hb0.2 | exact hb1.1 | exact hb1.2) | fail) (by first | (first | assumption | exact hb0.1 | exact hb0.2 | exact hb1.1 | exact hb1.2) | fail) (by first | (first | assumption | exact hb0.1 | exact hb0.2 | exact hb1.1 | exact hb1.2) | fail) (by first | (first | assumption | exact hb0.1 | exact hb0.2 | exact hb1.1 | exact hb1.2) | fail) (by first | (first | assumption | exact hb0.1 | exact hb0.2 | exact hb1.1 | exact hb1.2) | fail) (by first | (first | assumption | exact hb0.1 | exact hb0.2 | exact hb1.1 | exact hb1.2) | fail)) ?_
                          show mz_Wp shM none 127 (164, [some (.inr 30), some (.inl k), some (.inl n), some (.inl q), some (.inl e), some (.inl (tk (tg (hlT v (gx v 0 k) (gy v 0 k) l (l.length : Int)) q) e)), some (.inl (tk (tg (hlT v (gx v 0 k) (gy v 0 k) l (l.length : Int)) q) ((e + 1).tmod 3)))], [.inl (ar (gx v 0 ((tk (tg (hlT v (gx v 0 k) (gy v 0 k) l (l.length : Int)) q) e))) (gy v 0 ((tk (tg (hlT v (gx v 0 k) (gy v 0 k) l (l.length : Int)) q) e))) (gx v 0 ((tk (tg (hlT v (gx v 0 k) (gy v 0 k) l (l.length : Int)) q) ((e + 1).tmod 3)))) (gy v 0 ((tk (tg (hlT v (gx v 0 k) (gy v 0 k) l (l.length : Int)) q) ((e + 1).tmod 3)))) (gx v 0 (k)) (gy v 0 (k)))], σ5) _
                          refine wp_if (tgt := 176) hM rfl (by decide) (by omega) (fun c164 => ?_) (fun c164 => ?_)
                          · replace c164 := cmp_le_t c164
                            have hap : ap1 v (gx v 0 k) (gy v 0 k) (tk (tg (hlT v (gx v 0 k) (gy v 0 k) l (l.length : Int)) q) e, tk (tg (hlT v (gx v 0 k) (gy v 0 k) l (l.length : Int)) q) ((e + 1).tmod 3)) = [] := by
                              unfold ap1
                              rw [hfe, if_neg (by omega)]
                            refine wp_go 2 hM (fr' := (119, [some (.inr 30), some (.inl k), some (.inl n), some (.inl q), some (.inl (e + 1)), some (.inl (tk (tg (hlT v (gx v 0 k) (gy v 0 k) l (l.length : Int)) q) e)), some (.inl (tk (tg (hlT v (gx v 0 k) (gy v 0 k) l (l.length : Int)) q) ((e + 1).tmod 3)))], [], σ5)) rfl ?_
                            exact ih119 (e + 1) σ5 (some (.inl (tk (tg (hlT v (gx v 0 k) (gy v 0 k) l (l.length : Int)) q) e))) (some (.inl (tk (tg (hlT v (gx v 0 k) (gy v 0 k) l (l.length : Int)) q) ((e + 1).tmod 3)))) (by omega) (by omega) (by first | (rw [hph, hap]; first | (rw [List.append_nil]; exact ⟨L5, hA5, hp5, hf5⟩) | (rw [← List.append_assoc]; exact AX_s hA5 hp5 hf5 ht_173 hf_173)) | fail) (by omega)
                          · replace c164 := cmp_le_f c164
                            have hap : ap1 v (gx v 0 k) (gy v 0 k) (tk (tg (hlT v (gx v 0 k) (gy v 0 k) l (l.length : Int)) q) e, tk (tg (hlT v (gx v 0 k) (gy v 0 k) l (l.length : Int)) q) ((e + 1).tmod 3)) = [(tk (tg (hlT v (gx v 0 k) (gy v 0 k) l (l.length : Int)) q) e, tk (tg (hlT v (gx v 0 k) (gy v 0 k) l (l.length : Int)) q) ((e + 1).tmod 3))] := by
                              unfold ap1
                              rw [hfe, if_pos (by omega)]
                            have hln : (ph3 v (gx v 0 k) (gy v 0 k) (tg (hlT v (gx v 0 k) (gy v 0 k) l (l.length : Int)) q) (e + 1)).length = (ph3 v (gx v 0 k) (gy v 0 k) (tg (hlT v (gx v 0 k) (gy v 0 k) l (l.length : Int)) q) e).length + 1 := by
                              rw [hph, hap, List.length_append]
                              rfl
                            refine wp_go 4 hM (fr' := (173, [some (.inr 30), some (.inl k), some (.inl n), some (.inl q), some (.inl e), some (.inl (tk (tg (hlT v (gx v 0 k) (gy v 0 k) l (l.length : Int)) q) e)), some (.inl (tk (tg (hlT v (gx v 0 k) (gy v 0 k) l (l.length : Int)) q) ((e + 1).tmod 3)))], [.inl k, .inl (tk (tg (hlT v (gx v 0 k) (gy v 0 k) l (l.length : Int)) q) ((e + 1).tmod 3)), .inl (tk (tg (hlT v (gx v 0 k) (gy v 0 k) l (l.length : Int)) q) e), .inr 30], σ5)) rfl ?_
                            refine wp_call (v := 0) (idx := 72) (j := 108) (N := mtX6_adds) (as := [.inr 30, .inl (tk (tg (hlT v (gx v 0 k) (gy v 0 k) l (l.length : Int)) q) e), .inl (tk (tg (hlT v (gx v 0 k) (gy v 0 k) l (l.length : Int)) q) ((e + 1).tmod 3)), .inl k]) (rest := []) hM rfl (Or.inl ⟨rfl, rfl⟩) rfl (sp_X6_adds L5 σ5 (tk (tg (hlT v (gx v 0 k) (gy v 0 k) l (l.length : Int)) q) e) (tk (tg (hlT v (gx v 0 k) (gy v 0 k) l (l.length : Int)) q) ((e + 1).tmod 3)) k (by first | (first | exact hA5.2 | omega) | fail) (by first | (first | exact hA5.2 | omega) | fail)) ?_
                            rintro r0 σ_173 ⟨rfl, ht_173, hf_173⟩
                            show mz_Wp shM none 127 (176, [some (.inr 30), some (.inl k), some (.inl n), some (.inl q), some (.inl e), some (.inl (tk (tg (hlT v (gx v 0 k) (gy v 0 k) l (l.length : Int)) q) e)), some (.inl (tk (tg (hlT v (gx v 0 k) (gy v 0 k) l (l.length : Int)) q) ((e + 1).tmod 3)))], [], σ_173) _
                            refine wp_go 2 hM (fr' := (119, [some (.inr 30), some (.inl k), some (.inl n), some (.inl q), some (.inl (e + 1)), some (.inl (tk (tg (hlT v (gx v 0 k) (gy v 0 k) l (l.length : Int)) q) e)), some (.inl (tk (tg (hlT v (gx v 0 k) (gy v 0 k) l (l.length : Int)) q) ((e + 1).tmod 3)))], [], σ_173)) rfl ?_
                            exact ih119 (e + 1) σ_173 (some (.inl (tk (tg (hlT v (gx v 0 k) (gy v 0 k) l (l.length : Int)) q) e))) (some (.inl (tk (tg (hlT v (gx v 0 k) (gy v 0 k) l (l.length : Int)) q) ((e + 1).tmod 3)))) (by omega) (by omega) (by first | (rw [hph, hap]; first | (rw [List.append_nil]; exact ⟨L5, hA5, hp5, hf5⟩) | (rw [← List.append_assoc]; exact AX_s hA5 hp5 hf5 ht_173 hf_173)) | fail) (by omega)
                    exact loop119 5 0 σ4 (d111_5) (d111_6) (by omega) (by omega) (by first | (rw [show ph3 v (gx v 0 k) (gy v 0 k) (tg (hlT v (gx v 0 k) (gy v 0 k) l (l.length : Int)) q) 0 = [] from rfl, List.append_nil]; exact hv111_2) | fail) (by omega)
              exact loop111 65 0 σ3 (d4_4) (d4_5) (d4_6) (by omega) (by omega) (by first | (rw [flT_0]; exact hAX0) | fail) (by omega)
            · replace c90 := cmp_lt_f c90
              first | (have hcu := (cu_gap hHX (j := j) (by omega) hv89_1).2.1 c90) | skip
              first | (have hcl := cu_lt hHX c90 hv89_1) | skip
              first | (have hrl := RX_len hL2 hcu.2.1 hcu.2.2.1) | skip
              refine wp_go 4 hM (fr' := (99, [some (.inr 30), some (.inl k), some (.inl n), some (.inl j), d4_4, d4_5, d4_6], [.inl j, .inr 43, .inr 30], σ3)) rfl ?_
              refine wp_al (n := 60) hM rfl (by decide) rfl (by omega) (by omega) ?_
              first | (rw [hL3 43 j.toNat (by omega) (by omega), ← hcu.1]) | skip
              refine wp_call (v := 0) (idx := 148) (j := 109) (N := mtX6_drops) (as := [.inr 30, .inl (cu σ1 j)]) (rest := []) hM rfl (Or.inl ⟨rfl, rfl⟩) rfl (sp_X6_drops L σ3 (cu σ1 j) (by first | (first | exact hL1 | omega) | fail) (by first | (first | exact hL1 | omega) | fail) (by first | (first | exact hL1 | omega) | fail) (by first | (first | exact hL1 | omega) | fail)) ?_
              rintro r0 σ_100 ⟨rfl, ht_100, hf_100⟩
              show mz_Wp shM none 127 (103, [some (.inr 30), some (.inl k), some (.inl n), some (.inl j), d4_4, d4_5, d4_6], [], σ_100) _
              refine wp_go 2 hM (fr' := (89, [some (.inr 30), some (.inl k), some (.inl n), some (.inl (j + (-1))), d4_4, d4_5, d4_6], [], σ_100)) rfl ?_
              exact ih89 (j + (-1)) σ_100 (by omega) (by omega) (by first | (exact ⟨_, ht_100, RX_g (RX_y hL2 hcu.2.1 hcu.2.2.1 hcu.2.2.2) hcl.2.1 (by omega) (by omega) (fun i p z => hcl.2.2 i p (by omega)), hL3.tr hf_100⟩) | fail) (by omega)
        exact loop89 65 (n - 1) σ1 (by omega) (by omega) (by first | (exact ⟨l, hA1.2, RX_0 (by omega) (by omega) hgn.2.2, Fr.rf⟩) | fail) (by omega)
      · replace c9 := cmp_ge_f c9
        first | (rw [hn1] at c9) | skip
        first | (have htl := Rt_at hT hv4_0 (show t < (l.length : Int) by omega)) | skip
        refine wp_go 5 hM (fr' := (19, [some (.inr 30), some (.inl k), some (.inl n), some (.inl t), d4_4, d4_5, d4_6], [.inl k, .inr 31, .inl t, .inr 30], σ1)) rfl ?_
        refine wp_al (n := 31) hM rfl (by decide) rfl (by omega) (by omega) ?_
        first | (rw [hp1.1]) | skip
        refine wp_go 3 hM (fr' := (25, [some (.inr 30), some (.inl k), some (.inl n), some (.inl t), d4_4, d4_5, d4_6], [.inl k, .inr 32, .inl (gx v 0 k), .inl t, .inr 30], σ1)) rfl ?_
        refine wp_al (n := 31) hM rfl (by decide) rfl (by omega) (by omega) ?_
        first | (rw [hp1.2.1]) | skip
        refine wp_go 1 hM (fr' := (27, [some (.inr 30), some (.inl k), some (.inl n), some (.inl t), d4_4, d4_5, d4_6], [.inl 1, .inl (gy v 0 k), .inl (gx v 0 k), .inl t, .inr 30], σ1)) rfl ?_
        refine wp_calld (v := 0) (idx := 112) (j := 120) (N := mtX6_has) (as := [.inr 30, .inl t, .inl (gx v 0 k), .inl (gy v 0 k), .inl 1]) (rest := []) hM rfl (Or.inl ⟨rfl, rfl⟩) rfl (sp_X6_has_1 v l σ1 t (gx v 0 k) (gy v 0 k) (by first | (first | assumption | omega) | fail) (by first | (first | assumption | omega) | fail) (by first | (first | assumption | omega) | fail) (by first | (first | assumption | omega) | fail) (by first | (first | assumption | omega) | fail)) ?_
        show mz_Wp shM none 127 (30, [some (.inr 30), some (.inl k), some (.inl n), some (.inl t), d4_4, d4_5, d4_6], [.inl (b01 (hol v 0 (tg l t) (gx v 0 k) (gy v 0 k)))], σ1) _
        refine wp_if (tgt := 36) hM rfl (by decide) b01_R (fun c30 => ?_) (fun c30 => ?_)
        · replace c30 := b01_ne0 (cmp_ne_t c30)
          refine wp_go 4 hM (fr' := (42, [some (.inr 30), some (.inl k), some (.inl n), some (.inl t), d4_4, d4_5, d4_6], [.inl t, .inl n, .inr 43], σ1)) rfl ?_
          refine wp_as (n := 60) hM rfl rfl (by omega) (by omega) ?_
          refine wp_go 2 hM (fr' := (46, [some (.inr 30), some (.inl k), some (.inl n), some (.inl t), some (.inl 0), d4_5, d4_6], [], (mz_up σ1 43 (n).toNat t))) rfl ?_
          have loop46 : ∀ (fuel : Nat) (e : Int) (σ2 : mz_G), (0 ≤ e) → (e ≤ 3) → (EX σ1 σ2 n t e (tg l t)) → ((3 - e : Int) < fuel) → mz_Wp shM none 127 (46, [some (.inr 30), some (.inl k), some (.inl n), some (.inl t), some (.inl e), d4_5, d4_6], [], σ2) (fun r σ' => r = none ∧ (∃ L, MA σ' v L ∧ L.Perm (l.filter (fun z => !decide (hol v 0 z (gx v 0 k) (gy v 0 k))) ++ (lhOf v l (gx v 0 k) (gy v 0 k)).map (ek k))) ∧ Fsp σ σ') := by
            intro fuel
            induction fuel with
            | zero =>
              intro e σ2 hv46_0 hv46_1 hv46_2 hf46
              exfalso
              omega
            | succ fuel ih46 =>
              intro e σ2 hv46_0 hv46_1 hv46_2 hf46
              have hA2 : MA σ2 v l := MA_ext hA1 (fun i hi => hv46_2.2.2 30 i (by decide) (by decide)) (fun c hc i => hv46_2.2.2 c i (by omega) (by omega))
              refine wp_go 2 hM (fr' := (49, [some (.inr 30), some (.inl k), some (.inl n), some (.inl t), some (.inl e), d4_5, d4_6], [.inl 3, .inl e], σ2)) rfl ?_
              refine wp_ic (tgt := 76) hM rfl (by decide) (by omega) (by omega) (fun c49 => ?_) (fun c49 => ?_)
              · replace c49 := cmp_ge_t c49
                refine wp_go 3 hM (fr' := (4, [some (.inr 30), some (.inl k), some (.inl (n + 1)), some (.inl (t + 1)), some (.inl e), d4_5, d4_6], [], σ2)) rfl ?_
                exact ih4 (n + 1) (t + 1) σ2 (some (.inl e)) (d4_5) (d4_6) (by omega) (by omega) (by first | (first | exact HX_y hv4_2 hv4_0 (by omega) c30 (by rw [show (3 : Int) = e from by omega]; exact hv46_2) | exact HX_n hv4_2 hv4_0 (by omega) c30) | fail) (by first | (first | exact fun c i p z => (hv46_2.2.2 c i p z).trans (hv4_3 c i p z) | exact hv4_3) | fail) (by omega)
              · replace c49 := cmp_ge_f c49
                refine wp_go 10 hM (fr' := (66, [some (.inr 30), some (.inl k), some (.inl n), some (.inl t), some (.inl e), d4_5, d4_6], [.inl e, .inl t, .inr 30, .inl ((3 * n) + e), .inr 44], σ2)) rfl ?_
                refine wp_calld (v := 0) (idx := 85) (j := 111) (N := mtX6_at) (as := [.inr 30, .inl t, .inl e]) (rest := [.inl ((3 * n) + e), .inr 44]) hM rfl (Or.inl ⟨rfl, rfl⟩) rfl (sp_X6_at v l σ2 t e (by first | (first | assumption | omega) | fail) (by first | (first | assumption | omega) | fail) (by first | (first | assumption | omega) | fail) (by first | (first | assumption | omega) | fail) (by first | (first | assumption | omega) | fail) (by first | (first | assumption | omega) | fail)) ?_
                show mz_Wp shM none 127 (69, [some (.inr 30), some (.inl k), some (.inl n), some (.inl t), some (.inl e), d4_5, d4_6], [.inl (tk (tg l t) e), .inl ((3 * n) + e), .inr 44], σ2) _
                refine wp_as (n := 180) hM rfl rfl (by omega) (by omega) ?_
                refine wp_go 2 hM (fr' := (46, [some (.inr 30), some (.inl k), some (.inl n), some (.inl t), some (.inl (e + 1)), d4_5, d4_6], [], (mz_up σ2 44 ((3 * n) + e).toNat (tk (tg l t) e)))) rfl ?_
                exact ih46 (e + 1) (mz_up σ2 44 ((3 * n) + e).toNat (tk (tg l t) e)) (by omega) (by omega) (by first | (exact EX_s hv46_2 (by omega) hv46_0 rfl) | fail) (by omega)
          exact loop46 5 0 (mz_up σ1 43 (n).toNat t) (by omega) (by omega) (by first | (exact EX_0 (by omega)) | fail) (by omega)
        · replace c30 := b01_eq0 (cmp_ne_f c30)
          refine wp_go 3 hM (fr' := (4, [some (.inr 30), some (.inl k), some (.inl n), some (.inl (t + 1)), d4_4, d4_5, d4_6], [], σ1)) rfl ?_
          exact ih4 n (t + 1) σ1 (d4_4) (d4_5) (d4_6) (by omega) (by omega) (by first | (first | exact HX_y hv4_2 hv4_0 (by omega) c30 (by rw [show (3 : Int) = e from by omega]; exact hv46_2) | exact HX_n hv4_2 hv4_0 (by omega) c30) | fail) (by first | (first | exact fun c i p z => (hv46_2.2.2 c i p z).trans (hv4_3 c i p z) | exact hv4_3) | fail) (by omega)
  exact loop4 65 0 0 σ (none) (none) (none) (by omega) (by omega) (by first | (exact HX_0) | fail) (by first | (exact fun _ _ _ _ => rfl) | fail) (by omega)
