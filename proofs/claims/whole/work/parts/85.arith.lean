/-! ===== signs and square brackets ===== -/
def aop (t : Int) : Int := if t = 43 then 20 else if t = 45 then 21 else if t = 42 then 22 else if t = 47 then 23 else if t = 37 then 24 else -1
theorem ps_bsum {tk : Nat → Int} {pl st : Nat → Nat} {N i : Nat} {σ : Sg} {test : Int} (h : PT tk pl st N σ i) : vX10_behindSum test σ = vX10_behindSum_71 test (aop (tk i)) σ := by
  unfold vX10_behindSum aop
  rw [ps_sign h (c := 43) (by omega) (by unfold dg; omega), Option.bind_some]
  by_cases c1 : tk i = 43
  · rw [bI_t c1, if_neg (by omega), if_pos c1]
  · rw [bI_f c1, if_pos rfl, if_neg c1, ps_sign h (c := 45) (by omega) (by unfold dg; omega), Option.bind_some]
    by_cases c2 : tk i = 45
    · rw [bI_t c2, if_neg (by omega), if_pos c2]
    · rw [bI_f c2, if_pos rfl, if_neg c2, ps_sign h (c := 42) (by omega) (by unfold dg; omega), Option.bind_some]
      by_cases c3 : tk i = 42
      · rw [bI_t c3, if_neg (by omega), if_pos c3]
      · rw [bI_f c3, if_pos rfl, if_neg c3, ps_sign h (c := 47) (by omega) (by unfold dg; omega), Option.bind_some]
        by_cases c4 : tk i = 47
        · rw [bI_t c4, if_neg (by omega), if_pos c4]
        · rw [bI_f c4, if_pos rfl, if_neg c4, ps_sign h (c := 37) (by omega) (by unfold dg; omega), Option.bind_some]
          by_cases c5 : tk i = 37
          · rw [bI_t c5, if_neg (by omega), if_pos c5]
          · rw [bI_f c5, if_pos rfl, if_neg c5]
theorem aop_k {t : Int} : (aop t = -1 ∧ t ≠ 43 ∧ t ≠ 45 ∧ t ≠ 42 ∧ t ≠ 47 ∧ t ≠ 37) ∨ (aop t = 20 ∧ t = 43) ∨ (aop t = 21 ∧ t = 45) ∨ (aop t = 22 ∧ t = 42) ∨ (aop t = 23 ∧ t = 47) ∨ (aop t = 24 ∧ t = 37) := by
  unfold aop
  repeat' split
  all_goals omega
theorem ps_arith {b : Nat → Int} {n N : Nat} {tk : Nat → Int} {pl st : Nat → Nat} {ord : Int} {σ0 : Sg} (hc : PC b n tk pl st N) (hz : PZ b n ord σ0) {test op v : Int} {σ : Sg} {i l d : Nat} {c : Cd} {P π : Pl} (h : PS tk pl st N σ0 σ i l d c (P ++ π)) (ht : aop (tk i) = op) (hop : 20 ≤ op) (hv : bnd op = v) (hp : hdb v π) (hb : ∀ e ∈ P, v ≤ bnd e.1) (bw : Bw i c (P ++ π)) : T (vX10_behindSum test σ) (fun p => p.1 = 1 ∧ PS tk pl st N σ0 p.2 (i + 1) l d (sett c P) ((op, 0) :: π)) := by
  have hN := nN hc
  have iN := h.2.2.1.1
  have ak := aop_k (t := tk i)
  have hiN : i < N := tk_N hc iN (by omega)
  obtain ⟨b1, b2, b3⟩ := bw
  rw [wtp_a] at b1
  rw [List.length_append] at b2
  rw [ps_bsum h.2.2.1, ht]
  unfold vX10_behindSum_71
  refine T_f (by omega) ?_
  rw [m_binds, Option.bind_some, hv]
  refine T_bind (ps_settle h hp (fun e he => ⟨hb e he, fun q => by have := b3 e (List.mem_append_left _ he) q; omega⟩) (by omega) (by rw [List.length_append]; omega)) (fun σ1 h1 => ?_)
  refine T_bind (ps_push (o := op) (a := 0) rfl h1 (by omega)) (fun σ2 h2 => ?_)
  exact T_bind (ps_next hc hz h2 hiN) (fun σ3 h3 => T_some ⟨rfl, h3⟩)
theorem sett_1 {c : Cd} {P : Pl} {o : Int} {a : Nat} (h : ¬ (o = 29 ∨ o = 30)) : sett c (P ++ [(o, a)]) = emt (sett c P) o 0 := by
  rw [sett_a]
  show stl1 (sett c P) (o, a) = _
  unfold stl1
  rw [if_neg h]
theorem Bw_s {i j : Nat} {c c1 : Cd} {P π : Pl} {e : Int × Nat} (he : ¬ (e.1 = 29 ∨ e.1 = 30)) (h : Bw i c (P ++ π)) (hc1 : c1.2.2 = c.2.2 + wtp P) (hij : i < j) : Bw j c1 (e :: π) := by
  obtain ⟨b1, b2, b3⟩ := h
  rw [wtp_a] at b1
  rw [List.length_append] at b2
  refine ⟨?_, by rw [List.length_cons]; omega, fun x hx q => ?_⟩
  · rw [wtp, if_neg he]; omega
  · rcases List.mem_cons.mp hx with w | w
    · rw [w] at q; exact absurd q he
    · have := b3 x (List.mem_append_right _ w) q; omega
/-- two stretches are joined by a sign on the pile -/
theorem Nw_2 {ord v lv2 op : Int} {j j2 l l' l2 : Nat} {c c1 c3 : Cd} {P1 P3 π : Pl} {E E2 : (Nat → Int) → Int} (h1 : Nw ord v j l l' c c1 P1 π E) (h2 : Nw ord lv2 j2 l' l2 (sett c1 P1) c3 P3 ((op, 0) :: π) E2) (hv : bnd op = v) (hop : 20 ≤ op ∧ op < 28) (hlv : v ≤ lv2) (oE : EOk E) (oE2 : EOk E2) : Nw ord v j2 l l2 c c3 (P3 ++ [(op, 0)]) π (fun w => jn (cOf op) (E w) (E2 w)) := by
  obtain ⟨n1, n2, n3, n4, n5, n6⟩ := h1
  obtain ⟨m1, m2, m3, m4, m5, m6⟩ := h2
  have em := sett_m P1 c1
  have na : ¬ (op = 29 ∨ op = 30) := by omega
  have lo1 := sett_lo (lo := c.2.2) P1 c1 n1 (fun e he q => (n4 e he).2 q)
  have lo3 := sett_lo (lo := (sett c1 P1).2.2) P3 c3 m1 (fun e he q => (m4 e he).2 q)
  have em3 := sett_m P3 c3
  refine ⟨by omega, ?_, fun k hk => ?_, fun e he => ?_, ?_, by omega⟩
  · rw [List.append_assoc]; exact m2
  · have a := m3 k (by omega)
    have b := lo1 k hk
    have d := n3 k hk
    rw [a.1, a.2, b.1, b.2, d.1, d.2]
    exact ⟨rfl, rfl⟩
  · rcases List.mem_append.mp he with w | w
    · have := m4 e w
      exact ⟨⟨by omega, this.1.2⟩, fun q => by have := this.2 q; omega⟩
    · have e1 := List.mem_singleton.mp w
      rw [e1]
      exact ⟨⟨by show v ≤ bnd op; omega, by show 20 ≤ op; omega, by show op < 31; omega⟩, fun q => absurd q na⟩
  · rw [sett_1 na]
    have A : SegM ord (emt (sett c3 P3) op 0).1 (emt (sett c3 P3) op 0).2.1 c.2.2 (sett c1 P1).2.2 (l' - l) E := SegM_c n5 (fun k k1 k2 => by
      have x := lo3 k k2
      have y := m3 k k2
      show upw (sett c3 P3).1 (sett c3 P3).2.2 op k = _ ∧ upw (sett c3 P3).2.1 (sett c3 P3).2.2 0 k = _
      rw [upw_n (by omega), upw_n (by omega), x.1, x.2, y.1, y.2]
      exact ⟨rfl, rfl⟩)
    have B : SegM ord (emt (sett c3 P3) op 0).1 (emt (sett c3 P3) op 0).2.1 (sett c1 P1).2.2 (sett c3 P3).2.2 (l2 - l') E2 := SegM_c m5 (fun k k1 k2 => by
      show upw (sett c3 P3).1 (sett c3 P3).2.2 op k = _ ∧ upw (sett c3 P3).2.1 (sett c3 P3).2.2 0 k = _
      rw [upw_n (by omega), upw_n (by omega)]
      exact ⟨rfl, rfl⟩)
    have eo : (emt (sett c3 P3) op 0).1 (sett c3 P3).2.2 = op := upw_s
    have R := SegM_2 A B oE oE2 (by rw [eo]; exact hop)
    rw [eo, show l' - l + (l2 - l') = l2 - l by omega] at R
    exact R
theorem r_ext {b : Nat → Int} {n N : Nat} {tk : Nat → Int} {pl st : Nat → Nat} {ord : Int} {σ0 : Sg} (hc : PC b n tk pl st N) (hz : PZ b n ord σ0) {test v lv2 op : Int} {i l d j l' j2 l2 : Nat} {E E2 : (Nat → Int) → Int} {Cx2 : Pl → Prop} (h1 : ROk tk pl st N ord σ0 test (S1 tk i) 3 v (hdb v) i l d j l' E) (ht : aop (tk j) = op) (hop : 20 ≤ op) (hv : bnd op = v) (h2 : ROk tk pl st N ord σ0 test (fun t => t = 1) 3 lv2 Cx2 (j + 1) l' d j2 l2 E2) (hlv : v ≤ lv2) (hcx : ∀ π, hdb v π → Cx2 ((op, 0) :: π)) (oE : EOk E) (oE2 : EOk E2) : ROk tk pl st N ord σ0 test (S1 tk i) 3 v (hdb v) i l d j2 l2 (fun w => jn (cOf op) (E w) (E2 w)) := by
  have i1 := h1.1
  have i2 := h2.1
  have ak := aop_k (t := tk j)
  refine ⟨by omega, fun σ c π t0 s p bw cx => ?_⟩
  obtain ⟨σ1, c1, P1, k1, g1, g2, g3, nw⟩ := h1.2 σ c π t0 s p bw cx
  obtain ⟨t, σ2, ⟨r1, r2⟩, g⟩ := gx_3 (test := test) g3.2.1.1.1 (ps_arith (v := v) hc hz g3 ht hop hv cx (fun e he => (nw.2.2.2.1 e he).1.1) nw.2.1)
  dsimp only at r1 r2
  subst r1
  obtain ⟨σ3, c3, P3, k3, q1, q2, q3, mw⟩ := h2.2 σ2 (sett c1 P1) ((op, 0) :: π) 1 rfl r2 (Bw_s (e := (op, 0)) (show ¬ (op = 29 ∨ op = 30) by omega) nw.2.1 (sett_m P1 c1) (by omega)) (hcx π cx)
  refine ⟨σ3, c3, P3 ++ [(op, 0)], k3 + (1 + k1), Gxp_t (Gxp_t g1 g) q1, by omega, by rw [List.append_assoc]; exact q3, Nw_2 nw mw hv (by omega) hlv oE oE2⟩
theorem r_extX {b : Nat → Int} {n N : Nat} {tk : Nat → Int} {pl st : Nat → Nat} {ord : Int} {σ0 : Sg} (hc : PC b n tk pl st N) (hz : PZ b n ord σ0) {test v op : Int} {i l d j l' k : Nat} {E : (Nat → Int) → Int} {Cx2 : Pl → Prop} (h1 : ROk tk pl st N ord σ0 test (S1 tk i) 3 v (hdb v) i l d j l' E) (ht : aop (tk j) = op) (hop : 20 ≤ op) (hv : bnd op = v) (h2 : RXx tk pl st N σ0 test (fun t => t = 1) Cx2 (j + 1) l' d k) (hcx : ∀ π, hdb v π → Cx2 ((op, 0) :: π)) : RXx tk pl st N σ0 test (S1 tk i) (hdb v) i l d k := by
  have i1 := h1.1
  have ak := aop_k (t := tk j)
  intro σ c π t0 s p bw cx
  obtain ⟨σ1, c1, P1, k1, g1, g2, g3, nw⟩ := h1.2 σ c π t0 s p bw cx
  obtain ⟨t, σ2, ⟨r1, r2⟩, g⟩ := gx_3 (test := test) g3.2.1.1.1 (ps_arith (v := v) hc hz g3 ht hop hv cx (fun e he => (nw.2.2.2.1 e he).1.1) nw.2.1)
  dsimp only at r1 r2
  subst r1
  obtain ⟨σ3, t3, q3, l3, d3, c3, P3, e1, e2, e3, e4⟩ := h2 σ2 (sett c1 P1) ((op, 0) :: π) 1 rfl r2 (Bw_s (e := (op, 0)) (show ¬ (op = 29 ∨ op = 30) by omega) nw.2.1 (sett_m P1 c1) (by omega)) (hcx π cx)
  exact ⟨σ3, t3, q3 + (1 + k1), l3, d3, c3, P3, Gxp_t (Gxp_t g1 g) e1, by omega, e3, e4⟩
/-! one off the pile, one bracket less -/
theorem PS_pop {N i l d : Nat} {tk : Nat → Int} {pl st : Nat → Nat} {σ0 σ : Sg} {c : Cd} {e : Int × Nat} {π : Pl} (h : PS tk pl st N σ0 σ i l (d + 1) c (e :: π)) : PS tk pl st N σ0 (up2 (up2 σ 84 29 (σ 84 29 - 1)) 84 30 (up2 σ 84 29 (σ 84 29 - 1) 84 30 - 1)) i l d c π := by
  obtain ⟨h1, ⟨⟨a1, b1, e1, f1, g1⟩, h2, h3⟩, hT, h18⟩ := h
  rw [List.length_cons] at f1
  have S : ∀ z y, ∀ k, k ≠ 29 → k ≠ 30 → up2 (up2 σ 84 29 z) 84 30 y 84 k = σ 84 k := fun z y k k1 k2 => by rw [up2_c, upw_n k2, up2_c, upw_n k1]
  refine ⟨PF_u (PF_u h1 (by omega)) (by omega), ⟨⟨by rw [S _ _ 19 (by omega) (by omega)]; exact a1, by rw [S _ _ 23 (by omega) (by omega)]; exact b1, by rw [S _ _ 26 (by omega) (by omega)]; exact e1, ?_, ?_⟩, fun k hk => by rw [up2_o (by omega), up2_o (by omega), up2_o (by omega), up2_o (by omega)]; exact h2 k hk, fun k x hx => ?_⟩, PT_84 hT (fun k hk => S _ _ k (by omega) (by omega)), by rw [S _ _ 18 (by omega) (by omega)]; exact h18⟩
  · rw [up2_c, upw_n (by omega), up2_c, upw_s]; omega
  · rw [up2_c, upw_s, up2_c, upw_n (by omega)]; omega
  · rw [up2_o (by omega), up2_o (by omega), up2_o (by omega), up2_o (by omega)]
    have := h3 (k + 1) x (by rw [List.getElem?_cons_succ]; exact hx)
    rw [List.length_cons, show π.length + 1 - 1 - (k + 1) = π.length - 1 - k by omega] at this
    exact this
theorem bnd_b {o : Int} (h : 31 ≤ o) : bnd o = 0 := by unfold bnd; rw [if_neg (by omega)]
theorem ps_close {b : Nat → Int} {n N : Nat} {tk : Nat → Int} {pl st : Nat → Nat} {ord : Int} {σ0 : Sg} (hc : PC b n tk pl st N) (hz : PZ b n ord σ0) {test : Int} {σ : Sg} {i l d : Nat} {c : Cd} {P π : Pl} (hd9 : d < 9) (h : PS tk pl st N σ0 σ i l (d + 1) c (P ++ (32, 0) :: π)) (ht : aop (tk i) = -1) (hb : ∀ e ∈ P, 5 ≤ bnd e.1 ∧ e.1 < 31) (bw : Bw i c (P ++ (32, 0) :: π)) : T (vX10_behindSum test σ) (fun p => (tk i = 93 ∧ p.1 = 3 ∧ PS tk pl st N σ0 p.2 (i + 1) l d (sett c P) π) ∨ (tk i ≠ 93 ∧ PX pl σ0 p.2 i l (d + 1) c (P ++ (32, 0) :: π))) := by
  have hN := nN hc
  have iN := h.2.2.1.1
  obtain ⟨b1, b2, b3⟩ := bw
  have b1' := b1
  have b2' := b2
  rw [wtp_a] at b1'
  rw [List.length_append, List.length_cons] at b2'
  rw [ps_bsum h.2.2.1, ht]
  unfold vX10_behindSum_71
  refine T_t rfl ?_
  have ie : inn (P ++ (32, 0) :: π) = 32 := by rw [inn_a _ _ (fun e he => (hb e he).2), inn, if_neg (by omega)]
  rw [ps_inner h.2.1 (by omega), Option.bind_some, ie]
  refine T_t rfl ?_
  rw [ps_sign h.2.2.1 (by omega) (by unfold dg; omega), Option.bind_some]
  by_cases q : tk i = 93
  · rw [bI_t q]
    refine T_bind (ps_must1 hc hz h (tk_N hc iN (by omega))) (fun σ1 h1 => ?_)
    refine T_t h1.2.1.1.1 ?_
    refine T_bind (ps_settle (least := 5) h1 (fun e r e1 => by injection e1 with e1 _; rw [← e1, bnd_b (by show (31 : Int) ≤ 32; omega)]; omega) (fun e he => ⟨(hb e he).1, fun q => by have := b3 e (List.mem_append_left _ he) q; omega⟩) (by omega) (by rw [List.length_append, List.length_cons]; omega)) (fun σ2 h2 => ?_)
    have f2 : σ2 84 29 = ((π.length + 1 : Nat) : Int) := h2.2.1.1.2.2.2.1
    have g2 : σ2 84 30 = ((d + 1 : Nat) : Int) := h2.2.1.1.2.2.2.2
    refine T_ck (by omega) (T_nm (T_ck (by rw [up2_c, upw_n (by omega)]; omega) (T_nm (T_some (Or.inl ⟨q, rfl, PS_pop h2⟩)))))
  · rw [bI_f q]
    refine T_bind (ps_must0 h) (fun σ1 h1 => ?_)
    refine T_f (by have := h1.2.1.1.1; omega) (T_some (Or.inr ⟨q, h1⟩))
theorem r_open {b : Nat → Int} {n N : Nat} {tk : Nat → Int} {pl st : Nat → Nat} {ord : Int} {σ0 : Sg} (hc : PC b n tk pl st N) (hz : PZ b n ord σ0) {test : Int} {i l d j l' : Nat} {E : (Nat → Int) → Int} (t91 : tk i = 91) (hd : d < 8) (h : ROk tk pl st N ord σ0 test (fun t => t = 1) 3 5 (hdb 5) (i + 1) l (d + 1) j l' E) (ht : aop (tk j) = -1) : (tk j = 93 → ROk tk pl st N ord σ0 test (S1 tk i) 3 7 (fun _ => True) i l d (j + 1) l' E) ∧ (tk j ≠ 93 → RXx tk pl st N σ0 test (S1 tk i) (fun _ => True) i l d j) := by
  have hN := nN hc
  have i1 := h.1
  -- as far as the token behind the sum
  have go : ∀ σ c π t0, S1 tk i t0 → PS tk pl st N σ0 σ i l d c π → Bw i c π → ∃ σ1 c1 P1 k1, Gxp test t0 σ 3 σ1 k1 ∧ k1 ≤ 2 * (j - (i + 1)) + 1 ∧ PS tk pl st N σ0 σ1 j l' (d + 1) c1 (P1 ++ (32, 0) :: π) ∧ Nw ord 5 j l l' c c1 P1 ((32, 0) :: π) E := by
    intro σ c π t0 s p bw
    have iN := p.2.2.1.1
    obtain ⟨b1, b2, b3⟩ := id bw
    obtain ⟨t, σ1, r, g⟩ := gx_S1 (test := test) hc hz s p (ps_readPart hc hz p (by omega) (by omega))
    rcases r with ⟨q, q2, q3, q4⟩ | ⟨q, q2, -⟩ | ⟨q, -⟩ | ⟨q, -⟩ | ⟨q, -⟩
    · dsimp only at q3 q4
      subst q3
      have bw2 : Bw (i + 1) c ((32, 0) :: π) := Bw_s (P := []) (e := (32, 0)) (by show ¬ ((32 : Int) = 29 ∨ (32 : Int) = 30); omega) bw (by show c.2.2 = c.2.2 + 0; omega) (by omega)
      obtain ⟨σ3, c3, P3, k3, e1, e2, e3, mw⟩ := h.2 σ1 c ((32, 0) :: π) 1 rfl q4 bw2 (fun e r w => by injection w with w _; rw [← w, bnd_b (by show (31 : Int) ≤ 32; omega)]; omega)
      exact ⟨σ3, c3, P3, k3 + 1, Gxp_t g e1, by omega, e3, mw⟩
    · omega
    · exact absurd t91 q
    · exact absurd t91 q
    · exact absurd t91 q
  have nb : ∀ {c c1 : Cd} {P1 π : Pl}, Nw ord 5 j l l' c c1 P1 ((32, 0) :: π) E → ∀ e ∈ P1, 5 ≤ bnd e.1 ∧ e.1 < 31 := fun mw e he => ⟨(mw.2.2.2.1 e he).1.1, (mw.2.2.2.1 e he).1.2.2⟩
  refine ⟨fun t93 => ⟨by omega, fun σ c π t0 s p bw _ => ?_⟩, fun t93 σ c π t0 s p bw _ => ?_⟩
  · obtain ⟨σ1, c1, P1, k1, g1, g2, g3, mw⟩ := go σ c π t0 s p bw
    obtain ⟨t, σ2, r, g⟩ := gx_3 (test := test) g3.2.1.1.1 (ps_close hc hz (by omega) g3 ht (nb mw) mw.2.1)
    rcases r with ⟨-, r1, r2⟩ | ⟨r1, -⟩
    · dsimp only at r1 r2
      subst r1
      obtain ⟨m1, ⟨w1, w2, w3⟩, m3, m4, m5, m6⟩ := mw
      have em := sett_m P1 c1
      have lo1 := sett_lo (lo := c.2.2) P1 c1 m1 (fun e he q => (m4 e he).2 q)
      rw [wtp_a, wtp] at w1
      rw [List.length_append, List.length_cons] at w2
      refine ⟨σ2, sett c1 P1, [], 1 + k1, Gxp_t g1 g, by omega, r2, by omega, ⟨by show (sett c1 P1).2.2 + wtp π < _; omega, by show π.length < _; omega, fun e he q => ?_⟩, fun k hk => ?_, fun e he => (by cases he), m5, m6⟩
      · have := w3 e (List.mem_append_right _ (List.mem_cons_of_mem _ he)) q
        omega
      · have x := lo1 k hk
        have y := m3 k hk
        rw [x.1, x.2, y.1, y.2]
        exact ⟨rfl, rfl⟩
    · exact absurd t93 r1
  · obtain ⟨σ1, c1, P1, k1, g1, g2, g3, mw⟩ := go σ c π t0 s p bw
    obtain ⟨t, σ2, r, g⟩ := gx_3 (test := test) g3.2.1.1.1 (ps_close hc hz (by omega) g3 ht (nb mw) mw.2.1)
    rcases r with ⟨r1, -⟩ | ⟨-, r1⟩
    · exact absurd r1 t93
    · exact ⟨σ2, t, 1 + k1, l', d + 1, c1, P1 ++ (32, 0) :: π, Gxp_t g1 g, by have := g3.2.2.1.1; omega, r1, Bw_X (N := N) mw.2.1 (by have := g3.2.2.1.1; omega)⟩
theorem r_openX {b : Nat → Int} {n N : Nat} {tk : Nat → Int} {pl st : Nat → Nat} {ord : Int} {σ0 : Sg} (hc : PC b n tk pl st N) (hz : PZ b n ord σ0) {test : Int} {i l d k : Nat} (t91 : tk i = 91) (h : (8 ≤ d ∧ k = i) ∨ (d < 8 ∧ RXx tk pl st N σ0 test (fun t => t = 1) (hdb 5) (i + 1) l (d + 1) k)) : RXx tk pl st N σ0 test (S1 tk i) (fun _ => True) i l d k := by
  have hN := nN hc
  intro σ c π t0 s p bw _
  have iN := p.2.2.1.1
  obtain ⟨b1, b2, b3⟩ := id bw
  obtain ⟨t, σ1, r, g⟩ := gx_S1 (test := test) hc hz s p (ps_readPart hc hz p (by omega) (by omega))
  rcases r with ⟨q, q2, q3, q4⟩ | ⟨q, q2, q3⟩ | ⟨q, -⟩ | ⟨q, -⟩ | ⟨q, -⟩
  · rcases h with ⟨h1, -⟩ | ⟨h1, h2⟩
    · omega
    · dsimp only at q3 q4
      subst q3
      have bw2 : Bw (i + 1) c ((32, 0) :: π) := Bw_s (P := []) (e := (32, 0)) (by show ¬ ((32 : Int) = 29 ∨ (32 : Int) = 30); omega) bw (by show c.2.2 = c.2.2 + 0; omega) (by omega)
      obtain ⟨σ3, t3, q3, l3, d3, c3, P3, e1, e2, e3, e4⟩ := h2 σ1 c ((32, 0) :: π) 1 rfl q4 bw2 (fun e r w => by injection w with w _; rw [← w, bnd_b (by show (31 : Int) ≤ 32; omega)]; omega)
      exact ⟨σ3, t3, q3 + 1, l3, d3, c3, P3, Gxp_t g e1, by omega, e3, e4⟩
  · rcases h with ⟨h1, h2⟩ | ⟨h1, -⟩
    · exact ⟨σ1, t, 1, l, d, c, π, g, by omega, by rw [h2]; exact q3, Bw_X (N := N) bw (by omega)⟩
    · omega
  · exact absurd t91 q
  · exact absurd t91 q
  · exact absurd t91 q
