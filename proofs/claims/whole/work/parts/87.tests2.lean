/-! ===== not, brackets, and, or ===== -/
theorem Ct_p {test : Int} {π : Pl} {e : Int × Nat} (h : Ct test π) (he : e.1 < 31) : Ct test (e :: π) := by
  unfold Ct
  rw [inn, if_pos he]
  exact h
theorem ps_not {b : Nat → Int} {n N : Nat} {tk : Nat → Int} {pl st : Nat → Nat} {ord : Int} {σ0 : Sg} (hc : PC b n tk pl st N) (hz : PZ b n ord σ0) {σ : Sg} {i l d : Nat} {c : Cd} {P : Pl} (h : PS tk pl st N σ0 σ i l d c P) (ht : tk i = 323) (hl : P.length < 400) : T (vX10_readPlain σ) (fun p => p.1 = 0 ∧ PS tk pl st N σ0 p.2 (i + 1) l d c ((28, 0) :: P)) := by
  unfold vX10_readPlain
  rw [ps_word (j := 23) h.2.2.1 (by omega) (by decide), Option.bind_some, bI_t (by omega)]
  refine T_f (by omega) ?_
  refine T_bind (ps_push (a := 0) rfl h hl) (fun σ1 h1 => ?_)
  exact T_bind (ps_next hc hz h1 (tk_N hc h.2.2.1.1 (by omega))) (fun σ2 h2 => T_some ⟨rfl, h2⟩)
theorem bnd_n : bnd 28 = 3 := by decide
theorem r_not {b : Nat → Int} {n N : Nat} {tk : Nat → Int} {pl st : Nat → Nat} {ord : Int} {σ0 : Sg} (hc : PC b n tk pl st N) (hz : PZ b n ord σ0) {test : Int} {i l d j l' : Nat} {E : (Nat → Int) → Int} (ht : tk i = 323) (h : ROk tk pl st N ord σ0 test (fun t => t = 0) 2 3 (Cx4 test 4) (i + 1) l d j l' E) (oE : TOk E) : ROk tk pl st N ord σ0 test (fun t => t = 0) 2 3 (Cx4 test 4) i l d j l' (fun w => nt (E w)) := by
  have hN := nN hc
  have i1 := h.1
  refine ⟨by omega, fun σ c π t0 s p bw cx => ?_⟩
  subst s
  have iN := p.2.2.1.1
  have b2 := bw.2.1
  obtain ⟨t, σ1, ⟨r1, r2⟩, g⟩ := gx_0 (test := test) p.2.1.1.1 (ps_not hc hz p ht (by omega))
  dsimp only at r1 r2
  subst r1
  have na : ¬ (((28 : Int), (0 : Nat)).1 = 29 ∨ ((28 : Int), (0 : Nat)).1 = 30) := by show ¬ ((28 : Int) = 29 ∨ (28 : Int) = 30); omega
  obtain ⟨σ3, c3, P3, k3, q1, q2, q3, m1, m2, m3, m4, m5, m6⟩ := h.2 σ1 c ((28, 0) :: π) 0 rfl r2 (Bw_s (P := []) (e := (28, 0)) na bw (by show c.2.2 = c.2.2 + 0; omega) (by omega)) ⟨fun e r w => by injection w with w _; rw [← w, bnd_n]; omega, Ct_p cx.2 (by show (28 : Int) < 31; omega)⟩
  refine ⟨σ3, c3, P3 ++ [(28, 0)], k3 + 1, Gxp_t g q1, by omega, by rw [List.append_assoc]; exact q3, m1, by rw [List.append_assoc]; exact m2, m3, fun e he => ?_, ?_, m6⟩
  · rcases List.mem_append.mp he with w | w
    · exact m4 e w
    · have e1 := List.mem_singleton.mp w
      rw [e1]
      exact ⟨⟨by rw [bnd_n]; omega, by show (20 : Int) ≤ 28; omega, by show (28 : Int) < 31; omega⟩, fun q => absurd q na⟩
  · rw [sett_1 na]
    have A : SegM ord (emt (sett c3 P3) 28 0).1 (emt (sett c3 P3) 28 0).2.1 c.2.2 (sett c3 P3).2.2 (l' - l) E := SegM_c m5 (fun k k1 k2 => by
      show upw (sett c3 P3).1 (sett c3 P3).2.2 28 k = _ ∧ upw (sett c3 P3).2.1 (sett c3 P3).2.2 0 k = _
      rw [upw_n (by omega), upw_n (by omega)]
      exact ⟨rfl, rfl⟩)
    exact SegM_n A oE upw_s
theorem r_notX {b : Nat → Int} {n N : Nat} {tk : Nat → Int} {pl st : Nat → Nat} {ord : Int} {σ0 : Sg} (hc : PC b n tk pl st N) (hz : PZ b n ord σ0) {test : Int} {i l d k : Nat} (ht : tk i = 323) (h : RXx tk pl st N σ0 test (fun t => t = 0) (Cx4 test 4) (i + 1) l d k) : RXx tk pl st N σ0 test (fun t => t = 0) (Cx4 test 4) i l d k := by
  have hN := nN hc
  intro σ c π t0 s p bw cx
  subst s
  have iN := p.2.2.1.1
  have b2 := bw.2.1
  obtain ⟨t, σ1, ⟨r1, r2⟩, g⟩ := gx_0 (test := test) p.2.1.1.1 (ps_not hc hz p ht (by omega))
  dsimp only at r1 r2
  subst r1
  have na : ¬ (((28 : Int), (0 : Nat)).1 = 29 ∨ ((28 : Int), (0 : Nat)).1 = 30) := by show ¬ ((28 : Int) = 29 ∨ (28 : Int) = 30); omega
  obtain ⟨σ3, t3, q3, l3, d3, c3, P3, e1, e2, e3, e4⟩ := h σ1 c ((28, 0) :: π) 0 rfl r2 (Bw_s (P := []) (e := (28, 0)) na bw (by show c.2.2 = c.2.2 + 0; omega) (by omega)) ⟨fun e r w => by injection w with w _; rw [← w, bnd_n]; omega, Ct_p cx.2 (by show (28 : Int) < 31; omega)⟩
  exact ⟨σ3, t3, q3 + 1, l3, d3, c3, P3, Gxp_t g e1, by omega, e3, e4⟩
/-! round brackets -/
theorem ps_par {b : Nat → Int} {n N : Nat} {tk : Nat → Int} {pl st : Nat → Nat} {ord : Int} {σ0 : Sg} (hc : PC b n tk pl st N) (hz : PZ b n ord σ0) {σ : Sg} {i l d : Nat} {c : Cd} {P : Pl} (h : PS tk pl st N σ0 σ i l d c P) (ht : tk i = 40) (hl : P.length < 400) : T (vX10_readPlain σ) (fun p => (d < 8 ∧ p.1 = 0 ∧ PS tk pl st N σ0 p.2 (i + 1) l (d + 1) c ((31, 0) :: P)) ∨ (8 ≤ d ∧ PX pl σ0 p.2 i l d c P)) := by
  unfold vX10_readPlain
  rw [ps_word (j := 23) h.2.2.1 (by omega) (by decide), Option.bind_some, bI_f (by omega)]
  refine T_t rfl ?_
  rw [ps_sign h.2.2.1 (by omega) (by unfold dg; omega), Option.bind_some, bI_t ht]
  refine T_f (by omega) ?_
  refine T_bind (ps_open hc hz h (tk_N hc h.2.2.1.1 (by omega)) hl) (fun σ1 h1 => ?_)
  rcases h1 with ⟨q, h1⟩ | ⟨q, h1⟩
  · exact T_some (Or.inl ⟨q, rfl, h1⟩)
  · exact T_some (Or.inr ⟨q, h1⟩)
theorem ps_closeT {b : Nat → Int} {n N : Nat} {tk : Nat → Int} {pl st : Nat → Nat} {ord : Int} {σ0 : Sg} (hc : PC b n tk pl st N) (hz : PZ b n ord σ0) {σ : Sg} {i l d : Nat} {c : Cd} {P π : Pl} (hd9 : d < 9) (h : PS tk pl st N σ0 σ i l (d + 1) c (P ++ (31, 0) :: π)) (ht : tk i ≠ 321 ∧ tk i ≠ 322) (hb : ∀ e ∈ P, 1 ≤ bnd e.1 ∧ e.1 < 31) (bw : Bw i c (P ++ (31, 0) :: π)) : T (vX10_behindTest σ) (fun p => (tk i = 41 ∧ p.1 = 2 ∧ PS tk pl st N σ0 p.2 (i + 1) l d (sett c P) π) ∨ (tk i ≠ 41 ∧ PX pl σ0 p.2 i l (d + 1) c (P ++ (31, 0) :: π))) := by
  have hN := nN hc
  have iN := h.2.2.1.1
  obtain ⟨b1, b2, b3⟩ := bw
  have b1' := b1
  have b2' := b2
  rw [wtp_a] at b1'
  rw [List.length_append, List.length_cons] at b2'
  unfold vX10_behindTest
  rw [ps_word (j := 22) h.2.2.1 (by omega) (by decide), Option.bind_some, bI_f (by omega)]
  refine T_t rfl ?_
  rw [ps_word (j := 21) h.2.2.1 (by omega) (by decide), Option.bind_some, bI_f (by omega)]
  refine T_t rfl ?_
  have ie : inn (P ++ (31, 0) :: π) = 31 := by rw [inn_a _ _ (fun e he => (hb e he).2), inn, if_neg (by omega)]
  rw [ps_inner h.2.1 (by omega), Option.bind_some, ie]
  refine T_f (by omega) ?_
  rw [ps_sign h.2.2.1 (by omega) (by unfold dg; omega), Option.bind_some]
  by_cases q : tk i = 41
  · rw [bI_t q]
    refine T_bind (ps_must1 hc hz h (tk_N hc iN (by omega))) (fun σ1 h1 => ?_)
    refine T_t h1.2.1.1.1 ?_
    refine T_bind (ps_settle (least := 1) h1 (fun e r e1 => by injection e1 with e1 _; rw [← e1, bnd_b (by show (31 : Int) ≤ 31; omega)]; omega) (fun e he => ⟨(hb e he).1, fun q => by have := b3 e (List.mem_append_left _ he) q; omega⟩) (by omega) (by rw [List.length_append, List.length_cons]; omega)) (fun σ2 h2 => ?_)
    have f2 : σ2 84 29 = ((π.length + 1 : Nat) : Int) := h2.2.1.1.2.2.2.1
    have g2 : σ2 84 30 = ((d + 1 : Nat) : Int) := h2.2.1.1.2.2.2.2
    refine T_ck (by omega) (T_nm (T_ck (by rw [up2_c, upw_n (by omega)]; omega) (T_nm (T_some (Or.inl ⟨q, rfl, PS_pop h2⟩)))))
  · rw [bI_f q]
    refine T_bind (ps_must0 h) (fun σ1 h1 => ?_)
    refine T_f (by have := h1.2.1.1.1; omega) (T_some (Or.inr ⟨q, h1⟩))
theorem Ct_31 {test : Int} {π : Pl} : Cx4 test 1 ((31, 0) :: π) := by
  refine ⟨fun e r w => by injection w with w _; rw [← w, bnd_b (by show (31 : Int) ≤ 31; omega)]; omega, ?_⟩
  unfold Ct
  rw [inn, if_neg (by show ¬ (31 : Int) < 31; omega)]
  exact ⟨by show (31 : Int) ≠ 32; omega, fun q => absurd q (by show ¬ (31 : Int) = -1; omega)⟩
theorem r_par {b : Nat → Int} {n N : Nat} {tk : Nat → Int} {pl st : Nat → Nat} {ord : Int} {σ0 : Sg} (hc : PC b n tk pl st N) (hz : PZ b n ord σ0) {test : Int} {i l d j l' : Nat} {E : (Nat → Int) → Int} (t40 : tk i = 40) (hd : d < 8) (h : ROk tk pl st N ord σ0 test (fun t => t = 0) 2 1 (Cx4 test 1) (i + 1) l (d + 1) j l' E) (ht : tk j ≠ 321 ∧ tk j ≠ 322) : (tk j = 41 → ROk tk pl st N ord σ0 test (fun t => t = 0) 2 7 (fun _ => True) i l d (j + 1) l' E) ∧ (tk j ≠ 41 → RXx tk pl st N σ0 test (fun t => t = 0) (fun _ => True) i l d j) := by
  have hN := nN hc
  have i1 := h.1
  have go : ∀ σ c π t0, t0 = 0 → PS tk pl st N σ0 σ i l d c π → Bw i c π → ∃ σ1 c1 P1 k1, Gxp test t0 σ 2 σ1 k1 ∧ k1 ≤ 2 * (j - (i + 1)) + 1 ∧ PS tk pl st N σ0 σ1 j l' (d + 1) c1 (P1 ++ (31, 0) :: π) ∧ Nw ord 1 j l l' c c1 P1 ((31, 0) :: π) E := by
    intro σ c π t0 s p bw
    subst s
    have iN := p.2.2.1.1
    obtain ⟨b1, b2, b3⟩ := id bw
    obtain ⟨t, σ1, r, g⟩ := gx_0 (test := test) p.2.1.1.1 (ps_par hc hz p t40 (by omega))
    rcases r with ⟨q2, q3, q4⟩ | ⟨q2, -⟩
    · dsimp only at q3 q4
      subst q3
      have bw2 : Bw (i + 1) c ((31, 0) :: π) := Bw_s (P := []) (e := (31, 0)) (by show ¬ ((31 : Int) = 29 ∨ (31 : Int) = 30); omega) bw (by show c.2.2 = c.2.2 + 0; omega) (by omega)
      obtain ⟨σ3, c3, P3, k3, e1, e2, e3, mw⟩ := h.2 σ1 c ((31, 0) :: π) 0 rfl q4 bw2 Ct_31
      exact ⟨σ3, c3, P3, k3 + 1, Gxp_t g e1, by omega, e3, mw⟩
    · omega
  have nb : ∀ {c c1 : Cd} {P1 π : Pl}, Nw ord 1 j l l' c c1 P1 ((31, 0) :: π) E → ∀ e ∈ P1, 1 ≤ bnd e.1 ∧ e.1 < 31 := fun mw e he => ⟨(mw.2.2.2.1 e he).1.1, (mw.2.2.2.1 e he).1.2.2⟩
  refine ⟨fun t93 => ⟨by omega, fun σ c π t0 s p bw _ => ?_⟩, fun t93 σ c π t0 s p bw _ => ?_⟩
  · obtain ⟨σ1, c1, P1, k1, g1, g2, g3, mw⟩ := go σ c π t0 s p bw
    obtain ⟨t, σ2, r, g⟩ := gx_2 (test := test) g3.2.1.1.1 (ps_closeT hc hz (by omega) g3 ht (nb mw) mw.2.1)
    rcases r with ⟨-, r1, r2⟩ | ⟨r1, -⟩
    · dsimp only at r1 r2
      subst r1
      obtain ⟨m1, ⟨w1, w2, w3⟩, m3, m4, m5, m6⟩ := mw
      have em := sett_m P1 c1
      have lo1 := sett_lo (lo := c.2.2) P1 c1 m1 (fun e he q => (m4 e he).2 q)
      rw [wtp_a, wtp] at w1
      rw [List.length_append, List.length_cons] at w2
      refine ⟨σ2, sett c1 P1, [], 1 + k1, Gxp_t g1 g, by omega, r2, by omega, ⟨by show (sett c1 P1).2.2 + wtp π < _; omega, by show π.length < _; omega, fun e he q => ?_⟩, fun k hk => ?_, fun e he => (by cases he), m5, m6⟩
      · have := w3 e (List.mem_append_right _ (List.mem_cons_of_mem _ he)) q
        omega
      · have x := lo1 k hk
        have y := m3 k hk
        rw [x.1, x.2, y.1, y.2]
        exact ⟨rfl, rfl⟩
    · exact absurd t93 r1
  · obtain ⟨σ1, c1, P1, k1, g1, g2, g3, mw⟩ := go σ c π t0 s p bw
    obtain ⟨t, σ2, r, g⟩ := gx_2 (test := test) g3.2.1.1.1 (ps_closeT hc hz (by omega) g3 ht (nb mw) mw.2.1)
    rcases r with ⟨r1, -⟩ | ⟨-, r1⟩
    · exact absurd r1 t93
    · exact ⟨σ2, t, 1 + k1, l', d + 1, c1, P1 ++ (31, 0) :: π, Gxp_t g1 g, by have := g3.2.2.1.1; omega, r1, Bw_X (N := N) mw.2.1 (by have := g3.2.2.1.1; omega)⟩
theorem r_parX {b : Nat → Int} {n N : Nat} {tk : Nat → Int} {pl st : Nat → Nat} {ord : Int} {σ0 : Sg} (hc : PC b n tk pl st N) (hz : PZ b n ord σ0) {test : Int} {i l d k : Nat} (t40 : tk i = 40) (h : (8 ≤ d ∧ k = i) ∨ (d < 8 ∧ RXx tk pl st N σ0 test (fun t => t = 0) (Cx4 test 1) (i + 1) l (d + 1) k)) : RXx tk pl st N σ0 test (fun t => t = 0) (fun _ => True) i l d k := by
  have hN := nN hc
  intro σ c π t0 s p bw _
  subst s
  have iN := p.2.2.1.1
  obtain ⟨b1, b2, b3⟩ := id bw
  obtain ⟨t, σ1, r, g⟩ := gx_0 (test := test) p.2.1.1.1 (ps_par hc hz p t40 (by omega))
  rcases r with ⟨q2, q3, q4⟩ | ⟨q2, q3⟩
  · rcases h with ⟨h1, -⟩ | ⟨h1, h2⟩
    · omega
    · dsimp only at q3 q4
      subst q3
      have bw2 : Bw (i + 1) c ((31, 0) :: π) := Bw_s (P := []) (e := (31, 0)) (by show ¬ ((31 : Int) = 29 ∨ (31 : Int) = 30); omega) bw (by show c.2.2 = c.2.2 + 0; omega) (by omega)
      obtain ⟨σ3, t3, q3, l3, d3, c3, P3, e1, e2, e3, e4⟩ := h2 σ1 c ((31, 0) :: π) 0 rfl q4 bw2 Ct_31
      exact ⟨σ3, t3, q3 + 1, l3, d3, c3, P3, Gxp_t g e1, by omega, e3, e4⟩
  · rcases h with ⟨h1, h2⟩ | ⟨h1, -⟩
    · exact ⟨σ1, t, 1, l, d, c, π, g, by omega, by rw [h2]; exact q3, Bw_X (N := N) bw (by omega)⟩
    · omega
