/-! ===== one clause of a law, in both ===== -/
def MRl (σ : Sg) (c : Cd) (q : Nat) (x : Ru) : Prop := σ 94 (8 * q) = x.1 ∧ MlE 0 c (σ 94 (8 * q + 3)) (σ 94 (8 * q + 4)) x.2.1 ∧ MlE 0 c (σ 94 (8 * q + 5)) (σ 94 (8 * q + 6)) x.2.2.2.1
theorem MRl_f {σ σ' : Sg} {c c' : Cd} {q m : Nat} {x : Ru} (h : MRl σ c q x) (hq : q < m) (e : ∀ j, j < 8 * m → σ' 94 j = σ 94 j) (h1 : c.2.2 ≤ c'.2.2) (h2 : ∀ k, k < c.2.2 → c'.1 k = c.1 k ∧ c'.2.1 k = c.2.1 k) : MRl σ' c' q x := by
  obtain ⟨a, b, d⟩ := h
  unfold MRl
  rw [e _ (by omega), e _ (by omega), e _ (by omega), e _ (by omega), e _ (by omega)]
  exact ⟨a, MlE_c h1 h2 b, MlE_c h1 h2 d⟩
theorem c_fail23 {tk : Nat → Int} {pl : Nat → Nat} {N i l : Nat} {ord : Int} {σc σ : Sg} {cd : List Int} {K : Kt} (hz : CZ tk pl N ord σc) (h : CSt N σc σ i l cd) : T (bd2 (vX4_fails K σ) (fun r1 σ2 => ck (r1 = 0 ∨ r1 = 1) (some (r1, σ2)))) (fun p => p.1 = 0 ∧ CX pl σc p.2 i) := by
  obtain ⟨σ', e, x⟩ := cs_fails (K := K) hz h
  rw [e, bd2_some]
  exact T_ck (by omega) (T_some ⟨rfl, x⟩)
theorem m_rl_bad {b : Nat → Int} {n N : Nat} {tk : Nat → Int} {pl st : Nat → Nat} {ord : Int} {σM σm : Sg} {i l : Nat} {c : Cd} {L : List Ru} {MR : Sg → Cd → Nat → Ru → Prop} (hz : PZ b n ord σM) (m : ML MR tk pl st N σM σm i l c L) (h : vrb 300 (tk i) = -1 ∨ ¬ L.length < 12) : T (vX10_readLaw σm) (fun σ' => BadM pl σM σ' i) := by
  obtain ⟨m1, m2, m3, m4, m5⟩ := m
  refine m_readLaw_4 m1.2.2.1 (PZ_g hz m3).2.2.2 m4 ?_
  rw [if_neg (by omega)]
  unfold vX10_readLaw_54
  refine T_bind (pv_must0 m1) (fun σ1 h1 => T_f ?_ (T_some (BadM_v m3 h1)))
  rw [h1.2.1]; omega
theorem m_lz {x1 : Int} {n : Nat} (hn : n < 12) : ∀ (f x : Nat) (σ : Sg), 8 - x < f → x ≤ 8 → ∃ σ', (∀ k, k ≠ 94 → σ' k = σ k) ∧ (∀ q, q < 8 * n → σ' 94 q = σ 94 q) ∧ vX10_readLaw_75 f x1 ((8 * n : Nat) : Int) (x : Int) σ = vX10_readLaw_75 (0 + 1) x1 ((8 * n : Nat) : Int) 8 σ' := by
  intro f
  induction f with
  | zero => intro x σ h; omega
  | succ f ih =>
    intro x σ hf hx
    by_cases q : x = 8
    · subst q
      refine ⟨σ, fun _ _ => rfl, fun _ _ => rfl, ?_⟩
      rw [vX10_readLaw_75, vX10_readLaw_75, if_neg (by omega), if_neg (by omega)]
    · obtain ⟨σ', a, b, e⟩ := ih (x + 1) (up2 σ 94 (8 * n + x) 0) (by omega) (by omega)
      refine ⟨σ', fun k hk => by rw [a k hk, up2_o hk], fun q hq => by rw [b q hq, up2_c, upw_n (by omega)], ?_⟩
      rw [vX10_readLaw_75, if_pos (by omega), ck_p (by omega), ck_p (by omega), nm_eq, ck_p (by omega), ← e]
      rw [show ((8 * n : Nat) : Int) + (x : Int) = ((8 * n + x : Nat) : Int) by omega, Int.toNat_natCast, show (x : Int) + 1 = ((x + 1 : Nat) : Int) by omega]
theorem m_verb {b : Nat → Int} {n N : Nat} {tk : Nat → Int} {pl st : Nat → Nat} {σM σm : Sg} {i l : Nat} {c : Cd} {L : List Ru} (hc : PC b n tk pl st N) (hz : PZ b n 0 σM) (m : ML MRl tk pl st N σM σm i l c L) (h : vrb 300 (tk i) ≠ -1) (hn : L.length < 12) (hi : i < N) : ∃ σ5, PSv tk pl st N σ5 σ5 (i + 1) l c ∧ MGr σM σ5 ∧ σ5 84 21 = (L.length : Int) + 1 ∧ (∀ q y, L[q]? = some y → MRl σ5 c q y) ∧ σ5 94 (8 * L.length) = vrb 300 (tk i) ∧ σ5 94 (8 * L.length + 3) = (c.2.2 : Int) ∧ ∀ Q : Sg → Prop, T (if vrb 300 (tk i) = 3 then (vX10_readLaw_135 ((8 * L.length : Nat) : Int) σ5) else ((vX10_readExpression 0 σ5).bind (fun σ7 => vX10_readLaw_135 ((8 * L.length : Nat) : Int) σ7))) Q → T (vX10_readLaw σm) Q := by
  obtain ⟨m1, m2, m3, m4, m5⟩ := m
  obtain ⟨σ1, e1, p1⟩ := pv_must1 hc (PZ_g hz m3) m1 hi
  obtain ⟨σ2, f1, f2, e2⟩ := m_lz (x1 := vrb 300 (tk i)) hn FU 0 σ1 (by have := FU_b; omega) (by omega)
  have g21 : σ1 84 21 = (L.length : Int) := by rw [p1.1.2 21 (by omega)]; exact m4
  have g84 : σ2 84 = σ1 84 := f1 84 (by omega)
  have g94 : σ1 94 = σm 94 := p1.1.1 94 (by omega) (by omega) (by omega) (by omega) (by omega)
  have g23 : σ1 84 23 = (c.2.2 : Int) := p1.2.1.1.2.1
  refine ⟨up2 (up2 (up2 σ2 94 (8 * L.length) (vrb 300 (tk i))) 84 21 ((L.length : Int) + 1)) 94 (8 * L.length + 3) (c.2.2 : Int), ?_, ?_, ?_, fun q y hq => ?_, ?_, ?_, fun Q k => ?_⟩
  · refine PS_e (PS_r p1) (fun j hj => ?_) (fun k k1 k2 => ?_)
    · rw [up2_o (by omega), up2_c, upw_n hj, up2_o (by omega), g84]
    · rw [up2_o (by omega), up2_o (by omega), up2_o (by omega), f1 k (by omega)]
  · refine MGr_u (MGr_u (MGr_u (MGr_t m3 (MGr_t (MGr_p p1.1) ⟨fun k _ k2 k3 => f1 k (by omega), fun j _ => by rw [g84]⟩)) (by omega)) (by omega)) (by omega)
  · rw [up2_o (by omega), up2_c, upw_s]
  · have lt := get_lt hq
    refine MRl_f (m := L.length) (m5 q y hq) lt (fun j hj => ?_) (Nat.le_refl _) (fun _ _ => ⟨rfl, rfl⟩)
    rw [up2_c, upw_n (by omega), up2_o (by omega), up2_c, upw_n (by omega), f2 j hj, g94]
  · rw [up2_c, upw_n (by omega), up2_o (by omega), up2_c, upw_s]
  · rw [up2_c, upw_s]
  · refine m_readLaw_4 m1.2.2.1 (PZ_g hz m3).2.2.2 m4 ?_
    rw [if_pos ⟨h, hn⟩]
    unfold vX10_readLaw_54
    rw [e1, Option.bind_some, g21]
    refine T_t p1.2.1.1.1 (T_ck (by omega) (T_nm ?_))
    rw [show 8 * (L.length : Int) = ((8 * L.length : Nat) : Int) by omega, show (0 : Int) = ((0 : Nat) : Int) from rfl, e2, vX10_readLaw_75]
    refine T_f (by omega) (T_ck (by omega) (T_nm ?_))
    rw [Int.toNat_natCast]
    have h21 : up2 σ2 94 (8 * L.length) (vrb 300 (tk i)) 84 21 = (L.length : Int) := by rw [up2_o (by omega), g84]; exact g21
    rw [h21]
    refine T_ck (by omega) (T_nm (T_ck (by omega) (T_ck (by omega) (T_nm ?_))))
    have h23 : up2 (up2 σ2 94 (8 * L.length) (vrb 300 (tk i))) 84 21 ((L.length : Int) + 1) 84 23 = (c.2.2 : Int) := by rw [up2_c, upw_n (by omega), up2_o (by omega), g84]; exact g23
    rw [h23, show ((8 * L.length : Nat) : Int) + 3 = ((8 * L.length + 3 : Nat) : Int) by omega, Int.toNat_natCast]
    exact k
/-- in the midst of a law's clause -/
def MLm (tk : Nat → Int) (pl st : Nat → Nat) (N : Nat) (σc σ : Sg) (i l : Nat) (c : Cd) (L : List Ru) (x : Ru) : Prop := PSv tk pl st N σ σ i l c ∧ c.2.2 ≤ i ∧ MGr σc σ ∧ σ 84 21 = (L.length : Int) + 1 ∧ (∀ q y, L[q]? = some y → MRl σ c q y) ∧ σ 94 (8 * L.length) = x.1 ∧ MlE 0 c (σ 94 (8 * L.length + 3)) (c.2.2 : Int) x.2.1
def LawR (x : Ru) : Prop := (0 ≤ x.1 ∧ x.1 ≤ 3) ∧ (x.1 = 3 → x.2.1 = none) ∧ (x.1 ≠ 3 → ∃ E, x.2.1 = some E ∧ EOk E) ∧ ∀ E, x.2.2.2.1 = some E → TOk E
theorem m_135_bad {pl : Nat → Nat} {σM σ : Sg} {k n : Nat} (hn : n < 12) (h : BadM pl σM σ k) : T (vX10_readLaw_135 ((8 * n : Nat) : Int) σ) (fun σ' => BadM pl σM σ' k) := by
  unfold vX10_readLaw_135 vX10_readLaw_185
  have h1 := BadM_u (a := 94) (j := (((8 * n : Nat) : Int) + 4).toNat) (z := σ 84 23) h (by omega)
  have h2 := BadM_u (a := 94) (j := (((8 * n : Nat) : Int) + 5).toNat) (z := up2 σ 94 (((8 * n : Nat) : Int) + 4).toNat (σ 84 23) 84 23) h1 (by omega)
  have e19 := h2.2.1
  refine T_ck (by omega) (T_ck (by omega) (T_nm (T_ck (by omega) (T_ck (by omega) (T_nm (T_f (by omega) (T_ck (by omega) (T_ck (by omega) (T_nm (T_some (BadM_u h2 (by omega)))))))))))) 
theorem lc_sum {b : Nat → Int} {n N : Nat} {tk : Nat → Int} {pl st : Nat → Nat} {σC σM σ σm : Sg} {K : Kt} {i l : Nat} {cd : List Int} {c : Cd} {L : List Ru} (hc : PC b n tk pl st N) (hz : PZ b n 0 σM) (cz : CZ tk pl N 0 σC) (h : CL 9 N σC σ i l cd L) (m : ML MRl tk pl st N σM σm i l c L) (hn : L.length < 12) (hK : IsA K 66 20 12) : T (vX4_lawClause K (L.length : Int) σ) (fun p => (p.1 = 1 ∧ ∃ j l' cd' x σm' c', CL 9 N σC p.2 j l' cd' (L ++ [x]) ∧ x.2.2.2.1 = none ∧ LawR x ∧ MLm tk pl st N σM σm' j l' c' L x ∧ ∀ Q : Sg → Prop, T (vX10_readLaw_135 ((8 * L.length : Nat) : Int) σm') Q → T (vX10_readLaw σm) Q) ∨ (p.1 = 0 ∧ ∃ k, CXG pl σC p.2 k ∧ T (vX10_readLaw σm) (fun σ' => BadM pl σM σ' k))) := by
  obtain ⟨e6, e71, tb, i4⟩ := cs_tok (CZ_g cz h.2.2.1) h.1
  have hiN := h.1.2.1.1
  unfold vX4_lawClause
  rw [e6, Int.toNat_natCast, e71]
  have bad : vrb 300 (tk i) = -1 → T (vX4_lawClause_23 K σ) (fun p => (p.1 = 1 ∧ ∃ j l' cd' x σm' c', CL 9 N σC p.2 j l' cd' (L ++ [x]) ∧ x.2.2.2.1 = none ∧ LawR x ∧ MLm tk pl st N σM σm' j l' c' L x ∧ ∀ Q : Sg → Prop, T (vX10_readLaw_135 ((8 * L.length : Nat) : Int) σm') Q → T (vX10_readLaw σm) Q) ∨ (p.1 = 0 ∧ ∃ k, CXG pl σC p.2 k ∧ T (vX10_readLaw σm) (fun σ' => BadM pl σM σ' k))) := fun w => by
    unfold vX4_lawClause_23
    exact T_mono (c_fail23 (CZ_g cz h.2.2.1) h.1) (fun p hp => Or.inr ⟨hp.1, i, CXG_0 h.2.2.1 hp.2, m_rl_bad hz m (Or.inl w)⟩)
  refine T_ck (by omega) (T_ck (by omega) (T_nm (T_ite (fun q => bad ?_) (fun q => T_ite (fun q1 => bad ?_) (fun q1 => ?_)))))
  · unfold vrb; rw [if_neg (by omega)]
  · unfold vrb; rw [if_neg (by omega)]
  have ev : vrb 300 (tk i) = tk i - 300 := by unfold vrb; rw [if_pos (by omega)]
  have hi : i < N := tk_N hc hiN (by omega)
  obtain ⟨σ5, v1, v2, v3, v4, v5, v6, v7⟩ := m_verb hc hz m (by omega) hn hi
  have m2 := m.2.1
  refine T_ck (by omega) (T_nm ?_)
  refine T_bind (c_open (kd := tk i - 300) (K := K) (CL_inc h hi) hn) (fun σ1 h1 => ?_)
  refine T_ite (fun q3 => T_some (Or.inl ⟨rfl, i + 1, l, cd, _, σ5, c, h1, rfl, ⟨by omega, fun _ => rfl, fun z => absurd q3 z, fun E z => by cases z⟩, ⟨v1, by omega, v2, v3, v4, by rw [v5, ev], v6⟩, fun Q k => ?_⟩)) (fun q3 => ?_)
  · refine v7 Q ?_
    rw [if_pos (by omega)]
    exact k
  · have hz5 : PZ b n 0 σ5 := PZ_g hz v2
    refine T_bd2 (c_wsum hc hz5 (CZ_g cz h1.2.2.1) h1.1 (by have := h.2.1; omega) (Or.inl rfl) hK hn) (fun r σ8 hr => ?_)
    rcases hr with ⟨r1, j, l', cs, E, b1, b2, b3, b4, b5, b6, b7⟩ | ⟨r1, k, b1, b2⟩
    · dsimp only at r1 b1
      obtain ⟨σ7, e7, c', p7, k1, k2, k3, k4⟩ := m_sumX hc hz5 v1 (by omega) b6 b7
      have g7 : σ7 94 = σ5 94 := p7.1.1 94 (by omega) (by omega) (by omega) (by omega) (by omega)
      have hcl := CL_set (a := 66) h1 (Or.inl rfl) b1 b4 (by omega) (by have := h.2.1; rw [List.length_append, List.length_append, List.length_singleton]; omega)
      refine T_f (by omega) (T_some (Or.inl ⟨rfl, j, l', _, _, σ7, c', hcl, rfl, ⟨by show 0 ≤ tk i - 300 ∧ tk i - 300 ≤ 3; omega, fun z => absurd z q3, fun _ => ⟨E, rfl, b5⟩, fun E z => by cases z⟩, ⟨PS_r (PSv_of p7), by omega, MGr_t v2 (MGr_p p7.1), by rw [p7.1.2 21 (by omega)]; exact v3, fun q y hq => ?_, by rw [g7, v5, ev]; rfl, ?_⟩, fun Q k => ?_⟩))
      · exact MRl_f (m := L.length) (v4 q y hq) (get_lt hq) (fun j _ => by rw [g7]) k1 k3
      · rw [g7, v6]
        exact ⟨c.2.2, c'.2.2, l' - l, rfl, rfl, k4, by omega, Nat.le_refl _⟩
      · refine v7 Q ?_
        rw [if_neg (by omega), e7, Option.bind_some]
        exact k
    · dsimp only at r1 b1
      refine T_t r1 (T_some (Or.inr ⟨rfl, k, CXG_f h1.2.2.1 (by omega) b1, v7 _ ?_⟩))
      rw [if_neg (by omega)]
      refine T_bind (m_exprX hc hz5 v1 (by omega) b2 (Or.inl rfl) (fun e r q => by cases q) rfl) (fun σ7 h7 => ?_)
      obtain ⟨l1, d1, c1, P1, x1, -⟩ := h7
      exact m_135_bad hn (BadM_p v2 x1)
