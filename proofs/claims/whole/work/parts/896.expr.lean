/-! ===== a whole expression of the reference ===== -/
/-- the reading state without the pile -/
def PSv (tk : Nat → Int) (pl st : Nat → Nat) (N : Nat) (σ0 σ : Sg) (i l : Nat) (c : Cd) : Prop := PF σ0 σ ∧ ((σ 84 19 = 0 ∧ σ 84 23 = (c.2.2 : Int) ∧ σ 84 26 = (l : Int)) ∧ ∀ k, k < c.2.2 → σ 95 k = c.1 k ∧ σ 96 k = c.2.1 k) ∧ PT tk pl st N σ i ∧ σ 84 18 = -1
theorem PSv_of {N i l d : Nat} {tk : Nat → Int} {pl st : Nat → Nat} {σ0 σ : Sg} {c : Cd} {P : Pl} (h : PS tk pl st N σ0 σ i l d c P) : PSv tk pl st N σ0 σ i l c := ⟨h.1, ⟨⟨h.2.1.1.1, h.2.1.1.2.1, h.2.1.1.2.2.1⟩, h.2.1.2.1⟩, h.2.2⟩
theorem pv_next {b : Nat → Int} {n N : Nat} {tk : Nat → Int} {pl st : Nat → Nat} {ord : Int} {σ0 : Sg} (hc : PC b n tk pl st N) (hz : PZ b n ord σ0) {σ : Sg} {i l : Nat} {c : Cd} (h : PSv tk pl st N σ0 σ i l c) (hi : i < N) : T (vX10_next σ) (fun σ' => PSv tk pl st N σ0 σ' (i + 1) l c) := by
  obtain ⟨h1, ⟨⟨a, e, g⟩, h2⟩, ⟨h3, h4, h5, h6⟩, h7⟩ := h
  refine T_mono (m_next (i := i + 1) hc.1 hc.2.1 hc.2.2 (by omega) (by rw [h1.2 13 (by omega)]; exact hz.1) (fun q hq => by rw [h1.1 93 (by omega) (by omega) (by omega) (by omega) (by omega)]; exact hz.2.1 q hq) (h5 hi)) (fun σ' q => ?_)
  obtain ⟨q1, q2, q3, q4⟩ := q
  refine ⟨PF_n h1 q1, ⟨⟨by rw [q1.2 19 (by omega)]; exact a, by rw [q1.2 23 (by omega)]; exact e, by rw [q1.2 26 (by omega)]; exact g⟩, fun k hk => ?_⟩, ⟨by omega, q2, q3, q4⟩, by rw [q1.2 18 (by omega)]; exact h7⟩
  rw [q1.1 95 (by omega), q1.1 96 (by omega)]; exact h2 k hk
theorem pv_must1 {b : Nat → Int} {n N : Nat} {tk : Nat → Int} {pl st : Nat → Nat} {ord : Int} {σ0 : Sg} (hc : PC b n tk pl st N) (hz : PZ b n ord σ0) {σ : Sg} {i l : Nat} {c : Cd} (h : PSv tk pl st N σ0 σ i l c) (hi : i < N) : T (vX10_must 1 σ) (fun σ' => PSv tk pl st N σ0 σ' (i + 1) l c) := by
  have h19 : σ 84 19 = 0 := h.2.1.1.1
  unfold vX10_must
  refine T_t h19 (T_f (by omega) ?_)
  unfold vX10_must_24
  refine T_t h19 ?_
  refine T_bind (pv_next hc hz h hi) (fun σ' q => T_some q)
theorem pv_must0 {N i l : Nat} {tk : Nat → Int} {pl st : Nat → Nat} {σ0 σ : Sg} {c : Cd} (h : PSv tk pl st N σ0 σ i l c) : T (vX10_must 0 σ) (fun σ' => PF σ0 σ' ∧ σ' 84 19 = 1 ∧ σ' 84 18 = (pl i : Int)) := by
  obtain ⟨h1, ⟨⟨a, e, g⟩, h2⟩, ⟨h3, h4, h5, h6⟩, h7⟩ := h
  unfold vX10_must
  refine T_t a (T_t rfl (T_nm (T_nm ?_)))
  unfold vX10_must_24
  have e14 : up2 σ 84 19 1 84 14 = (pl i : Int) := by rw [up2_c, upw_n (by omega)]; exact h4
  rw [e14]
  refine T_f (by rw [up2_c, upw_n (by omega), up2_c, upw_s]; omega) (T_some ⟨PF_u (PF_u h1 (by omega)) (by omega), ?_, ?_⟩)
  · rw [up2_c, upw_n (by omega), up2_c, upw_s]
  · rw [up2_c, upw_s]
theorem PS_0 {N i l : Nat} {tk : Nat → Int} {pl st : Nat → Nat} {σ0 σ : Sg} {c : Cd} (h : PSv tk pl st N σ0 σ i l c) : PS tk pl st N σ0 (up2 (up2 σ 84 29 0) 84 30 0) i l 0 c [] := by
  obtain ⟨h1, ⟨⟨a1, b1, e1⟩, h2⟩, hT, h18⟩ := h
  have S : ∀ k, k ≠ 29 → k ≠ 30 → up2 (up2 σ 84 29 0) 84 30 0 84 k = σ 84 k := fun k k1 k2 => by rw [up2_c, upw_n k2, up2_c, upw_n k1]
  refine ⟨PF_u (PF_u h1 (by omega)) (by omega), ⟨⟨by rw [S 19 (by omega) (by omega)]; exact a1, by rw [S 23 (by omega) (by omega)]; exact b1, by rw [S 26 (by omega) (by omega)]; exact e1, ?_, ?_⟩, fun k hk => by rw [up2_o (by omega), up2_o (by omega), up2_o (by omega), up2_o (by omega)]; exact h2 k hk, fun k x hx => by simp at hx⟩, PT_84 hT (fun k hk => S k (by omega) (by omega)), by rw [S 18 (by omega) (by omega)]; exact h18⟩
  · rw [up2_c, upw_n (by omega), up2_c, upw_s]; rfl
  · rw [up2_c, upw_s]; rfl
theorem m_sumX {b : Nat → Int} {n N : Nat} {tk : Nat → Int} {pl st : Nat → Nat} {ord : Int} {σ0 : Sg} (hc : PC b n tk pl st N) (hz : PZ b n ord σ0) {σ : Sg} {i l j l' : Nat} {c : Cd} {E : (Nat → Int) → Int} (h : PSv tk pl st N σ0 σ i l c) (hm : c.2.2 < i) (h1 : ROk tk pl st N ord σ0 0 (S1 tk i) 3 5 (hdb 5) i l 0 j l' E) (ht : aop (tk j) = -1) : T (vX10_readExpression 0 σ) (fun σ' => ∃ c', PS tk pl st N σ0 σ' j l' 0 c' [] ∧ c.2.2 ≤ c'.2.2 ∧ c'.2.2 < j ∧ (∀ k, k < c.2.2 → c'.1 k = c.1 k ∧ c'.2.1 k = c.2.1 k) ∧ SegM ord c'.1 c'.2.1 c.2.2 c'.2.2 (l' - l) E) := by
  have hN := nN hc
  unfold vX10_readExpression
  refine T_nm (T_nm (T_t rfl ?_))
  have p0 := PS_0 h
  have iN := p0.2.2.1.1
  obtain ⟨σ1, c1, P1, k1, g1, g2, g3, nw⟩ := h1.2 _ c [] 1 (Or.inl rfl) p0 ⟨by show c.2.2 + 0 < i; omega, by show 0 < i; omega, fun e he => by cases he⟩ (fun e r q => by cases q)
  obtain ⟨n1, ⟨w1, w2, w3⟩, n3, n4, n5, n6⟩ := nw
  rw [List.append_nil] at g3 w1 w2 w3
  have jN := g3.2.2.1.1
  have em := sett_m P1 c1
  have lo1 := sett_lo (lo := c.2.2) P1 c1 n1 (fun e he q => (n4 e he).2 q)
  have h19 : σ1 84 19 = 0 := g3.2.1.1.1
  have bs : vX10_behindSum 0 σ1 = some (4, σ1) := by
    have ie : inn P1 = -1 := by
      have := inn_a P1 [] (fun e he => (n4 e he).1.2.2)
      rw [List.append_nil] at this
      exact this
    rw [ps_bsum g3.2.2.1, ht]
    unfold vX10_behindSum_71
    rw [if_pos rfl, ps_inner g3.2.1 (by omega), Option.bind_some, ie, if_neg (by omega), if_pos rfl, if_pos rfl]
  have fe : FU = (FU - k1 - 2 + 1 + 1) + k1 := by have := FU_b; omega
  rw [fe]
  refine g1 _ _ ?_
  rw [vX10_readExpression_20]
  refine T_t h19 (T_f (by omega) (T_f (by omega) (T_f (by omega) (T_t rfl ?_))))
  rw [bs, bd2_some, vX10_readExpression_20]
  refine T_t h19 (T_t rfl ?_)
  unfold vX10_readExpression_76
  have g3' : PS tk pl st N σ0 σ1 j l' 0 c1 (P1 ++ []) := by rw [List.append_nil]; exact g3
  refine T_bind (ps_settle (least := 1) g3' (fun e r q => by cases q) (fun e he => ⟨by have := (n4 e he).1.1; omega, fun q => by have := w3 e he q; omega⟩) (by omega) (by rw [List.append_nil]; omega)) (fun σ2 h2 => T_some ⟨sett c1 P1, h2, by omega, by omega, fun k hk => ?_, n5⟩)
  have x := lo1 k hk
  have y := n3 k hk
  rw [x.1, x.2, y.1, y.2]
  exact ⟨rfl, rfl⟩
theorem m_testX {b : Nat → Int} {n N : Nat} {tk : Nat → Int} {pl st : Nat → Nat} {ord : Int} {σ0 : Sg} (hc : PC b n tk pl st N) (hz : PZ b n ord σ0) {σ : Sg} {i l j l' : Nat} {c : Cd} {E : (Nat → Int) → Int} (h : PSv tk pl st N σ0 σ i l c) (hm : c.2.2 < i) (h1 : ROk tk pl st N ord σ0 1 (fun t => t = 0) 2 1 (Cx4 1 1) i l 0 j l' E) (ht : finB (tk j)) : T (vX10_readExpression 1 σ) (fun σ' => ∃ c', PS tk pl st N σ0 σ' j l' 0 c' [] ∧ c.2.2 ≤ c'.2.2 ∧ c'.2.2 < j ∧ (∀ k, k < c.2.2 → c'.1 k = c.1 k ∧ c'.2.1 k = c.2.1 k) ∧ SegM ord c'.1 c'.2.1 c.2.2 c'.2.2 (l' - l) E) := by
  have hN := nN hc
  unfold vX10_readExpression
  refine T_nm (T_nm (T_f (by omega) ?_))
  have p0 := PS_0 h
  have iN := p0.2.2.1.1
  obtain ⟨σ1, c1, P1, k1, g1, g2, g3, nw⟩ := h1.2 _ c [] 0 rfl p0 ⟨by show c.2.2 + 0 < i; omega, by show 0 < i; omega, fun e he => by cases he⟩ ⟨fun e r q => (by cases q), by show (-1 : Int) ≠ 32; omega, fun _ => by omega⟩
  obtain ⟨n1, ⟨w1, w2, w3⟩, n3, n4, n5, n6⟩ := nw
  rw [List.append_nil] at g3 w1 w2 w3
  have jN := g3.2.2.1.1
  have em := sett_m P1 c1
  have lo1 := sett_lo (lo := c.2.2) P1 c1 n1 (fun e he q => (n4 e he).2 q)
  have h19 : σ1 84 19 = 0 := g3.2.1.1.1
  have bs : vX10_behindTest σ1 = some (4, σ1) := by
    have ie : inn P1 = -1 := by
      have := inn_a P1 [] (fun e he => (n4 e he).1.2.2)
      rw [List.append_nil] at this
      exact this
    unfold finB at ht
    unfold vX10_behindTest
    rw [ps_word (j := 22) g3.2.2.1 (by omega) (by decide), Option.bind_some, bI_f (by omega), if_pos rfl, ps_word (j := 21) g3.2.2.1 (by omega) (by decide), Option.bind_some, bI_f (by omega), if_pos rfl, ps_inner g3.2.1 (by omega), Option.bind_some, ie, if_pos rfl]
  have fe : FU = (FU - k1 - 2 + 1 + 1) + k1 := by have := FU_b; omega
  rw [fe]
  refine g1 _ _ ?_
  rw [vX10_readExpression_20]
  refine T_t h19 (T_f (by omega) (T_f (by omega) (T_f (by omega) (T_f (by omega) ?_))))
  rw [bs, bd2_some, vX10_readExpression_20]
  refine T_t h19 (T_t rfl ?_)
  unfold vX10_readExpression_76
  have g3' : PS tk pl st N σ0 σ1 j l' 0 c1 (P1 ++ []) := by rw [List.append_nil]; exact g3
  refine T_bind (ps_settle (least := 1) g3' (fun e r q => by cases q) (fun e he => ⟨by have := (n4 e he).1.1; omega, fun q => by have := w3 e he q; omega⟩) (by omega) (by rw [List.append_nil]; omega)) (fun σ2 h2 => T_some ⟨sett c1 P1, h2, by omega, by omega, fun k hk => ?_, n5⟩)
  have x := lo1 k hk
  have y := n3 k hk
  rw [x.1, x.2, y.1, y.2]
  exact ⟨rfl, rfl⟩
/-- any pile settles as far as its topmost bracket -/
theorem pile_split : ∀ P : Pl, ∃ A B, P = A ++ B ∧ (∀ e ∈ A, 1 ≤ bnd e.1) ∧ ∀ e r, B = e :: r → bnd e.1 < 1
  | [] => ⟨[], [], rfl, fun e he => (by cases he), fun e r q => (by cases q)⟩
  | e :: P => by
    by_cases q : 1 ≤ bnd e.1
    · obtain ⟨A, B, h1, h2, h3⟩ := pile_split P
      refine ⟨e :: A, B, by rw [h1]; rfl, fun x hx => ?_, h3⟩
      rcases List.mem_cons.mp hx with w | w
      · rw [w]; exact q
      · exact h2 x w
    · exact ⟨[], e :: P, rfl, fun e he => (by cases he), fun x r w => by injection w with w _; rw [← w]; omega⟩
theorem m_exprX {b : Nat → Int} {n N : Nat} {tk : Nat → Int} {pl st : Nat → Nat} {ord : Int} {σ0 : Sg} (hc : PC b n tk pl st N) (hz : PZ b n ord σ0) {σ : Sg} {i l k : Nat} {c : Cd} {test t0 : Int} {S : Int → Prop} {Cx : Pl → Prop} (h : PSv tk pl st N σ0 σ i l c) (hm : c.2.2 < i) (h1 : RXx tk pl st N σ0 test S Cx i l 0 k) (hS : S t0) (hx : Cx []) (ht : t0 = if test = 0 then 1 else 0) : T (vX10_readExpression test σ) (fun σ' => ∃ l' d' c' P', PX pl σ0 σ' k l' d' c' P' ∧ c'.2.2 ≤ 400) := by
  unfold vX10_readExpression
  have p0 := PS_0 h
  obtain ⟨σ1, t1, q1, l1, d1, c1, P1, g1, g2, g3, x1, x2, x3⟩ := h1 _ c [] t0 hS p0 ⟨by show c.2.2 + 0 < i; omega, by show 0 < i; omega, fun e he => by cases he⟩ hx
  have hN := nN hc
  have h19 : σ1 84 19 = 1 := g3.2.1.1.1
  have key : T (vX10_readExpression_20 FU test t0 (up2 (up2 σ 84 29 0) 84 30 0)) (fun σ' => ∃ l' d' c' P', PX pl σ0 σ' k l' d' c' P' ∧ c'.2.2 ≤ 400) := by
    have fe : FU = (FU - q1 - 1 + 1) + q1 := by have := FU_b; omega
    rw [fe]
    refine g1 _ _ ?_
    rw [vX10_readExpression_20]
    refine T_f (by omega) ?_
    unfold vX10_readExpression_76 vX10_settle
    obtain ⟨A, B, s1, s2, s3⟩ := pile_split P1
    subst s1
    rw [wtp_a] at x1
    have x2' := x2
    rw [List.length_append] at x2'
    have em := sett_m A c1
    refine T_bind (pk_settle (least := 1) s3 A FU c1 σ1 (by have := FU_b; omega) g3.1 g3.2.1 (fun e he => ⟨s2 e he, fun q => x3 e (List.mem_append_left _ he) q⟩) (by omega) x2) (fun σ2 h2 => T_some ⟨l1, d1, sett c1 A, B, ⟨h2.1, h2.2.1, by rw [h2.2.2 18 (by omega) (by omega)]; exact g3.2.2⟩, by omega⟩)
  refine T_nm (T_nm (T_ite (fun q => ?_) (fun q => ?_)))
  · rw [if_pos q] at ht; rw [ht] at key; exact key
  · rw [if_neg q] at ht; rw [ht] at key; exact key
