/-! ===== and, or ===== -/
def jop (t : Int) : Int := if t = 322 then 29 else 30
def jlv (t : Int) : Int := if t = 322 then 2 else 1
theorem jop_k {t : Int} (h : t = 321 ∨ t = 322) : (t = 322 ∧ jop t = 29 ∧ jlv t = 2 ∧ bnd (jop t) = 2) ∨ (t = 321 ∧ jop t = 30 ∧ jlv t = 1 ∧ bnd (jop t) = 1) := by
  rcases h with e | e
  · subst e; exact Or.inr ⟨rfl, by decide, by decide, by decide⟩
  · subst e; exact Or.inl ⟨rfl, by decide, by decide, by decide⟩
theorem ps_join {b : Nat → Int} {n N : Nat} {tk : Nat → Int} {pl st : Nat → Nat} {ord : Int} {σ0 : Sg} (hc : PC b n tk pl st N) (hz : PZ b n ord σ0) {σ : Sg} {i l d : Nat} {c : Cd} {P π : Pl} (h : PS tk pl st N σ0 σ i l d c (P ++ π)) (ht : tk i = 321 ∨ tk i = 322) (hp : hdb (jlv (tk i)) π) (hb : ∀ e ∈ P, jlv (tk i) ≤ bnd e.1) (bw : Bw i c (P ++ π)) : T (vX10_behindTest σ) (fun p => p.1 = 0 ∧ PS tk pl st N σ0 p.2 (i + 1) l d (emt (sett c P) (jop (tk i)) 0) ((jop (tk i), (sett c P).2.2) :: π)) := by
  have hN := nN hc
  have iN := h.2.2.1.1
  have hiN := tk_N hc iN (show tk i ≠ 256 by omega)
  obtain ⟨b1, b2, b3⟩ := bw
  rw [wtp_a] at b1
  rw [List.length_append] at b2
  have em := sett_m P c
  have jk := jop_k ht
  -- what both do
  have go : ∀ (x o v : Int), v = jlv (tk i) → o = jop (tk i) → (x = 0 ∧ o = 30 ∨ x = 1 ∧ o = 29) → T (vX10_behindTest_32 x v σ) (fun p => p.1 = 0 ∧ PS tk pl st N σ0 p.2 (i + 1) l d (emt (sett c P) (jop (tk i)) 0) ((jop (tk i), (sett c P).2.2) :: π)) := by
    intro x o v hv ho hx
    unfold vX10_behindTest_32
    rw [hv]
    refine T_bind (ps_settle h hp (fun e he => ⟨hb e he, fun q => by have := b3 e (List.mem_append_left _ he) q; omega⟩) (by omega) (by rw [List.length_append]; omega)) (fun σ1 h1 => ?_)
    have m1 : σ1 84 23 = ((sett c P).2.2 : Int) := h1.2.1.1.2.1
    have g66 : ∀ o', o' = o → T (vX10_behindTest_47 x o' σ1) (fun p => p.1 = 0 ∧ PS tk pl st N σ0 p.2 (i + 1) l d (emt (sett c P) (jop (tk i)) 0) ((jop (tk i), (sett c P).2.2) :: π)) := by
      intro o' e'
      subst e'
      unfold vX10_behindTest_47
      refine T_bind (ps_push (o := o') (a := (sett c P).2.2) m1 h1 (by omega)) (fun σ2 h2 => ?_)
      rw [ho] at h2
      have g : ∀ o2, o2 = jop (tk i) → T (vX10_behindTest_66 o2 σ2) (fun p => p.1 = 0 ∧ PS tk pl st N σ0 p.2 (i + 1) l d (emt (sett c P) (jop (tk i)) 0) ((jop (tk i), (sett c P).2.2) :: π)) := by
        intro o2 e2
        subst e2
        unfold vX10_behindTest_66
        refine T_bind (ps_emit h2 (by omega)) (fun σ3 h3 => ?_)
        exact T_bind (ps_next hc hz h3 hiN) (fun σ4 h4 => T_some ⟨rfl, h4⟩)
      refine T_ite (fun q => g 30 (by omega)) (fun q => g 29 (by omega))
    refine T_ite (fun q => g66 30 (by omega)) (fun q => g66 29 (by omega))
  unfold vX10_behindTest
  rw [ps_word (j := 22) h.2.2.1 (by omega) (by decide), Option.bind_some]
  by_cases q : tk i = 322
  · rw [bI_t (by omega)]
    refine T_f (by omega) ?_
    unfold vX10_behindTest_22
    refine T_f (by omega) (go 1 29 2 (by omega) (by omega) (Or.inr ⟨rfl, rfl⟩))
  · rw [bI_f (by omega)]
    refine T_t rfl ?_
    rw [ps_word (j := 21) h.2.2.1 (by omega) (by decide), Option.bind_some, bI_t (by omega)]
    refine T_f (by omega) ?_
    unfold vX10_behindTest_22
    refine T_t rfl (go 0 30 1 (by omega) (by omega) (Or.inl ⟨rfl, rfl⟩))
theorem Bw_j {i j : Nat} {c : Cd} {P π : Pl} {o : Int} (ho : o = 29 ∨ o = 30) (h : Bw i c (P ++ π)) (hij : i < j) : Bw j (emt (sett c P) o 0) ((o, (sett c P).2.2) :: π) := by
  obtain ⟨b1, b2, b3⟩ := h
  rw [wtp_a] at b1
  rw [List.length_append] at b2
  have em := sett_m P c
  refine ⟨?_, by rw [List.length_cons]; omega, fun x hx q => ?_⟩
  · rw [wtp, if_pos ho]; show (sett c P).2.2 + 1 + (0 + wtp π) < j; omega
  · show x.2 < (sett c P).2.2 + 1
    rcases List.mem_cons.mp hx with w | w
    · rw [w]; show (sett c P).2.2 < _; omega
    · have := b3 x (List.mem_append_right _ w) q; omega
theorem Nw_j {ord v lv2 o : Int} {j j2 l l' l2 : Nat} {c c1 c3 : Cd} {P1 P3 π : Pl} {E E2 : (Nat → Int) → Int} (h1 : Nw ord v j l l' c c1 P1 π E) (h2 : Nw ord lv2 j2 l' l2 (emt (sett c1 P1) o 0) c3 P3 ((o, (sett c1 P1).2.2) :: π) E2) (hv : bnd o = v) (ho : o = 29 ∨ o = 30) (hlv : v ≤ lv2) (oE : TOk E) (oE2 : TOk E2) : Nw ord v j2 l l2 c c3 (P3 ++ [(o, (sett c1 P1).2.2)]) π (fun w => jn (if o = 29 then -3 else -2) (E w) (E2 w)) := by
  obtain ⟨n1, n2, n3, n4, n5, n6⟩ := h1
  obtain ⟨m1, m2, m3, m4, m5, m6⟩ := h2
  have em := sett_m P1 c1
  have m1' : (sett c1 P1).2.2 + 1 ≤ c3.2.2 := m1
  have lo1 := sett_lo (lo := c.2.2) P1 c1 n1 (fun e he q => (n4 e he).2 q)
  have lo3 := sett_lo (lo := (sett c1 P1).2.2 + 1) P3 c3 m1 (fun e he q => (m4 e he).2 q)
  have em3 := sett_m P3 c3
  have es : sett c3 (P3 ++ [(o, (sett c1 P1).2.2)]) = ((sett c3 P3).1, upw (sett c3 P3).2.1 (sett c1 P1).2.2 ((sett c3 P3).2.2 : Int), (sett c3 P3).2.2) := by
    rw [sett_a]
    show stl1 (sett c3 P3) (o, (sett c1 P1).2.2) = _
    unfold stl1
    rw [if_pos ho]
  -- code ahead of the joining word, and the word
  have old : ∀ k, k < (sett c1 P1).2.2 → (sett c3 P3).1 k = (sett c1 P1).1 k ∧ (sett c3 P3).2.1 k = (sett c1 P1).2.1 k := fun k hk => by
    have x := lo3 k (by omega)
    have y := m3 k (by show k < (sett c1 P1).2.2 + 1; omega)
    rw [x.1, x.2, y.1, y.2]
    exact ⟨upw_n (by omega), upw_n (by omega)⟩
  have wrd : (sett c3 P3).1 (sett c1 P1).2.2 = o := by
    rw [(lo3 _ (by omega)).1, (m3 _ (by show (sett c1 P1).2.2 < (sett c1 P1).2.2 + 1; omega)).1]
    exact upw_s
  refine ⟨by omega, ?_, fun k hk => ?_, fun e he => ?_, ?_, by omega⟩
  · rw [List.append_assoc]; exact m2
  · have a := m3 k (by show k < (sett c1 P1).2.2 + 1; omega)
    have a1 : (emt (sett c1 P1) o 0).1 k = (sett c1 P1).1 k := upw_n (by omega)
    have a2 : (emt (sett c1 P1) o 0).2.1 k = (sett c1 P1).2.1 k := upw_n (by omega)
    have b := lo1 k hk
    have d := n3 k hk
    rw [a.1, a.2, a1, a2, b.1, b.2, d.1, d.2]
    exact ⟨rfl, rfl⟩
  · rcases List.mem_append.mp he with w | w
    · have := m4 e w
      exact ⟨⟨by omega, this.1.2⟩, fun q => by have z : (sett c1 P1).2.2 + 1 ≤ e.2 := this.2 q; omega⟩
    · have e1 := List.mem_singleton.mp w
      rw [e1]
      exact ⟨⟨by show v ≤ bnd o; omega, by show 20 ≤ o; omega, by show o < 31; omega⟩, fun _ => by show c.2.2 ≤ (sett c1 P1).2.2; omega⟩
  · rw [es]
    have hi : (sett c1 P1).2.2 + 1 < (sett c3 P3).2.2 := m5.1.1
    have A : SegM ord (sett c3 P3).1 (upw (sett c3 P3).2.1 (sett c1 P1).2.2 ((sett c3 P3).2.2 : Int)) c.2.2 (sett c1 P1).2.2 (l' - l) E := SegM_c n5 (fun k k1 k2 => by
      rw [upw_n (by omega)]
      exact old k k2)
    have B : SegM ord (sett c3 P3).1 (upw (sett c3 P3).2.1 (sett c1 P1).2.2 ((sett c3 P3).2.2 : Int)) ((sett c1 P1).2.2 + 1) (sett c3 P3).2.2 (l2 - l') E2 := SegM_c m5 (fun k k1 k2 => by
      have k1' : (sett c1 P1).2.2 + 1 ≤ k := k1
      rw [upw_n (by omega)]
      exact ⟨rfl, rfl⟩)
    have R := SegM_j A B oE oE2 (by rw [wrd]; exact ho) upw_s
    rw [wrd, show l' - l + (l2 - l') = l2 - l by omega] at R
    exact R
theorem r_join {b : Nat → Int} {n N : Nat} {tk : Nat → Int} {pl st : Nat → Nat} {ord : Int} {σ0 : Sg} (hc : PC b n tk pl st N) (hz : PZ b n ord σ0) {test lv2 : Int} {i l d j l' j2 l2 : Nat} {E E2 : (Nat → Int) → Int} {Cx2 : Pl → Prop} (ht : tk j = 321 ∨ tk j = 322) (h1 : ROk tk pl st N ord σ0 test (fun t => t = 0) 2 (jlv (tk j)) (Cx4 test (jlv (tk j))) i l d j l' E) (h2 : ROk tk pl st N ord σ0 test (fun t => t = 0) 2 lv2 Cx2 (j + 1) l' d j2 l2 E2) (hlv : jlv (tk j) ≤ lv2) (hcx : ∀ π m, Cx4 test (jlv (tk j)) π → Cx2 ((jop (tk j), m) :: π)) (oE : TOk E) (oE2 : TOk E2) : ROk tk pl st N ord σ0 test (fun t => t = 0) 2 (jlv (tk j)) (Cx4 test (jlv (tk j))) i l d j2 l2 (fun w => jn (if jop (tk j) = 29 then -3 else -2) (E w) (E2 w)) := by
  have i1 := h1.1
  have i2 := h2.1
  have jk := jop_k ht
  refine ⟨by omega, fun σ c π t0 s p bw cx => ?_⟩
  obtain ⟨σ1, c1, P1, k1, g1, g2, g3, nw⟩ := h1.2 σ c π t0 s p bw cx
  obtain ⟨t, σ2, ⟨r1, r2⟩, g⟩ := gx_2 (test := test) g3.2.1.1.1 (ps_join hc hz g3 ht cx.1 (fun e he => (nw.2.2.2.1 e he).1.1) nw.2.1)
  dsimp only at r1 r2
  subst r1
  obtain ⟨σ3, c3, P3, k3, q1, q2, q3, mw⟩ := h2.2 σ2 _ _ 0 rfl r2 (Bw_j (by omega) nw.2.1 (by omega)) (hcx π _ cx)
  exact ⟨σ3, c3, P3 ++ [(jop (tk j), (sett c1 P1).2.2)], k3 + (1 + k1), Gxp_t (Gxp_t g1 g) q1, by omega, by rw [List.append_assoc]; exact q3, Nw_j nw mw (by omega) (by omega) hlv oE oE2⟩
theorem r_joinX {b : Nat → Int} {n N : Nat} {tk : Nat → Int} {pl st : Nat → Nat} {ord : Int} {σ0 : Sg} (hc : PC b n tk pl st N) (hz : PZ b n ord σ0) {test : Int} {i l d j l' k : Nat} {E : (Nat → Int) → Int} {Cx2 : Pl → Prop} (ht : tk j = 321 ∨ tk j = 322) (h1 : ROk tk pl st N ord σ0 test (fun t => t = 0) 2 (jlv (tk j)) (Cx4 test (jlv (tk j))) i l d j l' E) (h2 : RXx tk pl st N σ0 test (fun t => t = 0) Cx2 (j + 1) l' d k) (hcx : ∀ π m, Cx4 test (jlv (tk j)) π → Cx2 ((jop (tk j), m) :: π)) : RXx tk pl st N σ0 test (fun t => t = 0) (Cx4 test (jlv (tk j))) i l d k := by
  have i1 := h1.1
  have jk := jop_k ht
  intro σ c π t0 s p bw cx
  obtain ⟨σ1, c1, P1, k1, g1, g2, g3, nw⟩ := h1.2 σ c π t0 s p bw cx
  obtain ⟨t, σ2, ⟨r1, r2⟩, g⟩ := gx_2 (test := test) g3.2.1.1.1 (ps_join hc hz g3 ht cx.1 (fun e he => (nw.2.2.2.1 e he).1.1) nw.2.1)
  dsimp only at r1 r2
  subst r1
  obtain ⟨σ3, t3, q3, l3, d3, c3, P3, e1, e2, e3, e4⟩ := h2 σ2 _ _ 0 rfl r2 (Bw_j (by omega) nw.2.1 (by omega)) (hcx π _ cx)
  exact ⟨σ3, t3, q3 + (1 + k1), l3, d3, c3, P3, Gxp_t (Gxp_t g1 g) e1, by omega, e3, e4⟩
