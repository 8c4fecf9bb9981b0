/-! ===== runs of the reference over an expression ===== -/
def Gxp (test turn : Int) (σ : Sg) (turn' : Int) (σ' : Sg) (k : Nat) : Prop := ∀ (f : Nat) (Q : Sg → Prop), T (vX10_readExpression_20 f test turn' σ') Q → T (vX10_readExpression_20 (f + k) test turn σ) Q
theorem Gxp_t {test t t1 t2 : Int} {σ σ1 σ2 : Sg} {k k' : Nat} (h : Gxp test t σ t1 σ1 k) (h' : Gxp test t1 σ1 t2 σ2 k') : Gxp test t σ t2 σ2 (k' + k) := fun f Q q => by
  rw [← Nat.add_assoc]
  exact h (f + k') Q (h' f Q q)
theorem gx_0 {test : Int} {σ : Sg} {R : Int × Sg → Prop} (h19 : σ 84 19 = 0) (h : T (vX10_readPlain σ) R) : ∃ t σ', R (t, σ') ∧ Gxp test 0 σ t σ' 1 := by
  obtain ⟨⟨t, σ'⟩, e, r⟩ := h
  refine ⟨t, σ', r, fun f Q q => ?_⟩
  rw [vX10_readExpression_20]
  refine T_t h19 (T_f (by omega) (T_t rfl ?_))
  rw [e, bd2_some]
  exact q
theorem gx_1 {test : Int} {σ : Sg} {R : Int × Sg → Prop} (h19 : σ 84 19 = 0) (h : T (vX10_readPart σ) R) : ∃ t σ', R (t, σ') ∧ Gxp test 1 σ t σ' 1 := by
  obtain ⟨⟨t, σ'⟩, e, r⟩ := h
  refine ⟨t, σ', r, fun f Q q => ?_⟩
  rw [vX10_readExpression_20]
  refine T_t h19 (T_f (by omega) (T_f (by omega) (T_t rfl ?_)))
  rw [e, bd2_some]
  exact q
theorem gx_3 {test : Int} {σ : Sg} {R : Int × Sg → Prop} (h19 : σ 84 19 = 0) (h : T (vX10_behindSum test σ) R) : ∃ t σ', R (t, σ') ∧ Gxp test 3 σ t σ' 1 := by
  obtain ⟨⟨t, σ'⟩, e, r⟩ := h
  refine ⟨t, σ', r, fun f Q q => ?_⟩
  rw [vX10_readExpression_20]
  refine T_t h19 (T_f (by omega) (T_f (by omega) (T_f (by omega) (T_t rfl ?_))))
  rw [e, bd2_some]
  exact q
theorem gx_2 {test : Int} {σ : Sg} {R : Int × Sg → Prop} (h19 : σ 84 19 = 0) (h : T (vX10_behindTest σ) R) : ∃ t σ', R (t, σ') ∧ Gxp test 2 σ t σ' 1 := by
  obtain ⟨⟨t, σ'⟩, e, r⟩ := h
  refine ⟨t, σ', r, fun f Q q => ?_⟩
  rw [vX10_readExpression_20]
  refine T_t h19 (T_f (by omega) (T_f (by omega) (T_f (by omega) (T_f (by omega) ?_))))
  rw [e, bd2_some]
  exact q
def Bw (i : Nat) (c : Cd) (P : Pl) : Prop := c.2.2 + wtp P < i ∧ P.length < i ∧ ∀ e ∈ P, isAO e.1 → e.2 < c.2.2
def XB (c : Cd) (P : Pl) : Prop := c.2.2 + wtp P ≤ 400 ∧ P.length ≤ 400 ∧ ∀ e ∈ P, isAO e.1 → e.2 < 400
def hdb (v : Int) (π : Pl) : Prop := ∀ e r, π = e :: r → bnd e.1 < v
def Nw (ord lv : Int) (j l l' : Nat) (c c' : Cd) (P π : Pl) (E : (Nat → Int) → Int) : Prop := c.2.2 ≤ c'.2.2 ∧ Bw j c' (P ++ π) ∧ (∀ k, k < c.2.2 → c'.1 k = c.1 k ∧ c'.2.1 k = c.2.1 k) ∧ (∀ e ∈ P, (lv ≤ bnd e.1 ∧ 20 ≤ e.1 ∧ e.1 < 31) ∧ (isAO e.1 → c.2.2 ≤ e.2)) ∧ SegM ord (sett c' P).1 (sett c' P).2.1 c.2.2 (sett c' P).2.2 (l' - l) E ∧ l < l'
/-- from token i to token j, E is read -/
def ROk (tk : Nat → Int) (pl st : Nat → Nat) (N : Nat) (ord : Int) (σ0 : Sg) (test : Int) (S : Int → Prop) (tE lv : Int) (Cx : Pl → Prop) (i l d j l' : Nat) (E : (Nat → Int) → Int) : Prop := i < j ∧ ∀ σ c π t0, S t0 → PS tk pl st N σ0 σ i l d c π → Bw i c π → Cx π → ∃ σ' c' P k, Gxp test t0 σ tE σ' k ∧ k ≤ 2 * (j - i) ∧ PS tk pl st N σ0 σ' j l' d c' (P ++ π) ∧ Nw ord lv j l l' c c' P π E
/-- reading from token i on fails at token k -/
def RXx (tk : Nat → Int) (pl st : Nat → Nat) (N : Nat) (σ0 : Sg) (test : Int) (S : Int → Prop) (Cx : Pl → Prop) (i l d k : Nat) : Prop := ∀ σ c π t0, S t0 → PS tk pl st N σ0 σ i l d c π → Bw i c π → Cx π → ∃ σ' t' q l' d' c' P', Gxp test t0 σ t' σ' q ∧ (i ≤ k ∧ q ≤ 2 * (k - i) + 1 ∧ k ≤ N) ∧ PX pl σ0 σ' k l' d' c' P' ∧ XB c' P'
def S1 (tk : Nat → Int) (i : Nat) (t0 : Int) : Prop := t0 = 1 ∨ (t0 = 0 ∧ tk i ≠ 323 ∧ tk i ≠ 40)
theorem nN {b : Nat → Int} {n N : Nat} {tk : Nat → Int} {pl st : Nat → Nat} (hc : PC b n tk pl st N) : N ≤ 400 := by have := hc.1; have := hc.2.2.1; omega
theorem Bw_X {N i : Nat} {c : Cd} {P : Pl} (h : Bw i c P) (hi : i ≤ 400) : XB c P := ⟨by have := h.1; omega, by have := h.2.1; omega, fun e he q => by have := h.2.2 e he q; have := h.1; omega⟩
theorem gx_S1 {b : Nat → Int} {n N : Nat} {tk : Nat → Int} {pl st : Nat → Nat} {ord : Int} {σ0 : Sg} (hc : PC b n tk pl st N) (hz : PZ b n ord σ0) {test t0 : Int} {σ : Sg} {i l d : Nat} {c : Cd} {P : Pl} {R : Int × Sg → Prop} (hS : S1 tk i t0) (h : PS tk pl st N σ0 σ i l d c P) (hr : T (vX10_readPart σ) R) : ∃ t σ', R (t, σ') ∧ Gxp test t0 σ t σ' 1 := by
  have h19 : σ 84 19 = 0 := h.2.1.1.1
  rcases hS with e | ⟨e, e1, e2⟩
  · subst e; exact gx_1 h19 hr
  · subst e
    refine gx_0 h19 ?_
    unfold vX10_readPlain
    rw [ps_word (j := 23) h.2.2.1 (by omega) (by decide), Option.bind_some, bI_f (by omega)]
    refine T_t rfl ?_
    rw [ps_sign h.2.2.1 (by omega) (by unfold dg; omega), Option.bind_some, bI_f e2]
    refine T_t rfl ?_
    obtain ⟨⟨t, σ'⟩, e, r⟩ := hr
    rw [e, bd2_some]
    exact T_some r
theorem LF_X {ord : Int} {tk : Nat → Int} {i j k : Nat} {cd : Int} (h : LF ord tk i j cd) (h' : LX ord tk i k) : False := by
  have t2 : two ord (tk i) → lc1 ord (tk i) = -1 := fun ⟨z, q⟩ => by
    unfold lc1
    rw [if_neg (by omega), if_neg z, if_neg (by omega), if_neg (by omega), if_neg (by omega), if_neg (by omega)]
  rcases h with ⟨a1, a2, a3⟩ | ⟨a1, a2, a3, a4⟩
  · rcases h' with ⟨b1, b2, b3⟩ | ⟨b1, b2, b3⟩
    · omega
    · have := t2 b2; omega
  · rcases h' with ⟨b1, b2, b3⟩ | ⟨b1, b2, b3⟩
    · exact b3 a2
    · exact b3 a3
theorem LF_u {ord : Int} {tk : Nat → Int} {i j j' : Nat} {cd cd' : Int} (h : LF ord tk i j cd) (h' : LF ord tk i j' cd') : j' = j ∧ cd' = cd := by
  have t2 : two ord (tk i) → lc1 ord (tk i) = -1 := fun ⟨z, q⟩ => by
    unfold lc1
    rw [if_neg (by omega), if_neg z, if_neg (by omega), if_neg (by omega), if_neg (by omega), if_neg (by omega)]
  rcases h with ⟨a1, a2, a3⟩ | ⟨a1, a2, a3, a4⟩
  · rcases h' with ⟨b1, b2, b3⟩ | ⟨b1, b2, b3, b4⟩
    · exact ⟨by omega, by omega⟩
    · have := t2 b2; omega
  · rcases h' with ⟨b1, b2, b3⟩ | ⟨b1, b2, b3, b4⟩
    · have := t2 a2; omega
    · exact ⟨by omega, by omega⟩
theorem LX_u {ord : Int} {tk : Nat → Int} {i k k' : Nat} (h : LX ord tk i k) (h' : LX ord tk i k') : k' = k := by
  rcases h with ⟨a1, a2, a3⟩ | ⟨a1, a2, a3⟩
  · rcases h' with ⟨b1, b2, b3⟩ | ⟨b1, b2, b3⟩
    · omega
    · exact absurd b2 a3
  · rcases h' with ⟨b1, b2, b3⟩ | ⟨b1, b2, b3⟩
    · exact absurd a2 b3
    · omega
theorem ROk_m {tk : Nat → Int} {pl st : Nat → Nat} {N : Nat} {ord : Int} {σ0 : Sg} {test : Int} {S S' : Int → Prop} {tE lv lv' : Int} {Cx Cx' : Pl → Prop} {i l d j l' : Nat} {E : (Nat → Int) → Int} (h : ROk tk pl st N ord σ0 test S tE lv Cx i l d j l' E) (h1 : lv' ≤ lv) (h2 : ∀ π, Cx' π → Cx π) (h3 : ∀ t, S' t → S t) : ROk tk pl st N ord σ0 test S' tE lv' Cx' i l d j l' E := by
  refine ⟨h.1, fun σ c π t0 s p bw cx => ?_⟩
  obtain ⟨σ', c', P, k, g1, g2, g3, n1, n2, n3, n4, n5⟩ := h.2 σ c π t0 (h3 t0 s) p bw (h2 π cx)
  exact ⟨σ', c', P, k, g1, g2, g3, n1, n2, n3, fun e he => ⟨⟨by have := (n4 e he).1.1; omega, (n4 e he).1.2⟩, (n4 e he).2⟩, n5⟩
theorem RXx_m {tk : Nat → Int} {pl st : Nat → Nat} {N : Nat} {σ0 : Sg} {test : Int} {S S' : Int → Prop} {Cx Cx' : Pl → Prop} {i l d k : Nat} (h : RXx tk pl st N σ0 test S Cx i l d k) (h2 : ∀ π, Cx' π → Cx π) (h3 : ∀ t, S' t → S t) : RXx tk pl st N σ0 test S' Cx' i l d k := fun σ c π t0 s p bw cx => h σ c π t0 (h3 t0 s) p bw (h2 π cx)
/-- a leaf -/
theorem r_leaf {b : Nat → Int} {n N : Nat} {tk : Nat → Int} {pl st : Nat → Nat} {ord : Int} {σ0 : Sg} (hc : PC b n tk pl st N) (hz : PZ b n ord σ0) {test : Int} {i l d j : Nat} {cd : Int} (n91 : tk i ≠ 91) (hl : l < 50) (h : LF ord tk i j cd) : ROk tk pl st N ord σ0 test (S1 tk i) 3 7 (fun _ => True) i l d j (l + 1) (fun w => lvl w cd) := by
  have hN := nN hc
  have ij : i < j := by rcases h with ⟨a, -⟩ | ⟨a, -⟩ <;> omega
  have t256 : tk i ≠ 256 := fun e => by
    rcases h with ⟨a1, a2, a3⟩ | ⟨a1, a2, a3, a4⟩
    · unfold lc1 at a2
      rw [e] at a2
      revert a2
      rw [if_neg (by omega)]
      split
      · rw [if_neg (by omega)]; omega
      · rw [if_neg (by omega), if_neg (by omega), if_neg (by omega), if_neg (by omega)]; omega
    · have := a2.2; omega
  refine ⟨ij, fun σ c π t0 s p bw _ => ?_⟩
  have hiN := tk_N hc p.2.2.1.1 t256
  have b1 := bw.1
  have b2 := bw.2.1
  obtain ⟨t, σ', r, g⟩ := gx_S1 (test := test) hc hz s p (ps_readPart hc hz p (by omega) (by omega))
  rcases r with ⟨q, -⟩ | ⟨q, -⟩ | ⟨-, q, -⟩ | ⟨-, -, k, l', c', q, -⟩ | ⟨-, -, j', cd', o, a, q1, q2, q3, ⟨q4, q5⟩, q6⟩
  · exact absurd q n91
  · exact absurd q n91
  · omega
  · exact (LF_X h q).elim
  · obtain ⟨u1, u2⟩ := LF_u h q1
    subst u1
    dsimp only at q2 q6
    subst q2
    rw [u2] at q5
    have ar : (emt c o a).1 c.2.2 = o ∧ (emt c o a).2.1 c.2.2 = a := ⟨upw_s, upw_s⟩
    refine ⟨σ', emt c o a, [], 1, g, by omega, q6, by show c.2.2 ≤ c.2.2 + 1; omega, ⟨by show c.2.2 + 1 + wtp π < _; omega, by show π.length < _; omega, fun e he w => by have := bw.2.2 e he w; show e.2 < c.2.2 + 1; omega⟩, fun k hk => ⟨upw_n (by omega), upw_n (by omega)⟩, fun e he => (by cases he), ?_, by omega⟩
    show SegM ord (emt c o a).1 (emt c o a).2.1 c.2.2 (c.2.2 + 1) (l + 1 - l) _
    rw [show l + 1 - l = 1 by omega]
    have cok : 0 ≤ cd ∧ (cd < 2000 → cd ≤ 1000) := by
      rw [← q5]
      obtain ⟨o1, o2, o3, o4⟩ := q3
      unfold lf
      by_cases z0 : o = 0
      · rw [if_pos z0]; have := o2 z0; omega
      · rw [if_neg z0]
        by_cases z1 : ord = 0
        · rw [if_pos z1]; omega
        · rw [if_neg z1]
          have := o4 z1
          by_cases z2 : o < 5
          · rw [if_pos z2]; omega
          · rw [if_neg z2]
            by_cases z3 : o = 5
            · rw [if_pos z3]; omega
            · rw [if_neg z3]
              by_cases z4 : o = 6
              · rw [if_pos z4]; omega
              · rw [if_neg z4]; omega
    have lv : ∀ w, wOk w → lvl w cd ≠ BR ∧ -1000000000 ≤ lvl w cd ∧ lvl w cd ≤ 1000000000 := fun w hw => by
      have bb : BR = -2000000000 := rfl
      unfold lvl
      by_cases z : cd < 2000
      · rw [if_pos z]; omega
      · rw [if_neg z]; have := hw (cd - 2000).toNat; omega
    have S := SegM_l (ord := ord) (op := (emt c o a).1) (ar := (emt c o a).2.1) (m := c.2.2) (by rw [ar.1]; exact q4) (by rw [ar.1, ar.2]; exact q3) (by rw [ar.1, ar.2, q5]; exact lv)
    rw [ar.1, ar.2, q5] at S
    exact S
theorem r_leafX {b : Nat → Int} {n N : Nat} {tk : Nat → Int} {pl st : Nat → Nat} {ord : Int} {σ0 : Sg} (hc : PC b n tk pl st N) (hz : PZ b n ord σ0) {test : Int} {i l d k : Nat} (n91 : tk i ≠ 91) (h : (50 ≤ l ∧ k = i) ∨ (l < 50 ∧ LX ord tk i k)) : RXx tk pl st N σ0 test (S1 tk i) (fun _ => True) i l d k := by
  have hN := nN hc
  intro σ c π t0 s p bw _
  have b1 := bw.1
  have b2 := bw.2.1
  have iN := p.2.2.1.1
  have XB0 := Bw_X (N := N) bw (by omega)
  obtain ⟨t, σ', r, g⟩ := gx_S1 (test := test) hc hz s p (ps_readPart hc hz p (by omega) (by omega))
  rcases r with ⟨q, -⟩ | ⟨q, -⟩ | ⟨-, q, r⟩ | ⟨-, q0, k', l', c', q, r, r2⟩ | ⟨-, q0, j', cd', o, a, q1, -⟩
  · exact absurd q n91
  · exact absurd q n91
  · rcases h with ⟨h1, h2⟩ | ⟨h1, h2⟩
    · exact ⟨σ', t, 1, l, d, c, π, g, by omega, by rw [h2]; exact r, XB0⟩
    · omega
  · rcases h with ⟨h1, h2⟩ | ⟨h1, h2⟩
    · omega
    · rw [LX_u h2 q] at r
      have ik : i ≤ k := by rcases h2 with ⟨a, -⟩ | ⟨a, -⟩ <;> omega
      have kN : k ≤ N := by
        rcases h2 with ⟨a, -⟩ | ⟨a, z, -⟩
        · omega
        · have := tk_N hc iN (fun e => by have := z.2; omega)
          omega
      refine ⟨σ', t, 1, l', d, c', π, g, by omega, r, ?_⟩
      rcases r2 with r2 | ⟨o, a, r2⟩
      · rw [r2]; exact XB0
      · rw [r2]
        exact ⟨by show c.2.2 + 1 + wtp π ≤ 400; omega, XB0.2.1, XB0.2.2⟩
  · rcases h with ⟨h1, h2⟩ | ⟨h1, h2⟩
    · omega
    · exact (LF_X q1 h2).elim
