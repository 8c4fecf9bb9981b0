/-! ===== a whole clause of orders, in both ===== -/
theorem oc_68 {b : Nat → Int} {n N : Nat} {tk : Nat → Int} {pl st : Nat → Nat} {σC σM σ σm : Sg} {K : Kt} {i l : Nat} {cd : List Int} {c : Cd} {L : List Ru} {x : Ru} (hc : PC b n tk pl st N) (hz : PZ b n 1 σM) (cz : CZ tk pl N 1 σC) (h : CL 24 N σC σ i l cd (L ++ [x])) (m : MOm tk pl st N σM σm i l c L x) (hn : L.length < 12) (hx : x.2.2.2.1 = none) (x2 : x.2.2.1 = none) (h1 : x.2.2.2.2 = 1) (hk : 0 ≤ x.1 ∧ x.1 ≤ 3) (hA : (x.1 = 3 → x.2.1 = none) ∧ (x.1 ≠ 3 → ∃ E, x.2.1 = some E ∧ EOk E)) (hK : IsA K 67 20 12) : T (vX4_orderClause_68 K (L.length : Int) x.1 σ) (OcF (vX10_readOrder_125 x.1 ((8 * L.length : Nat) : Int)) tk pl st N σC σM σm L) := by
  have rep : (x.1 = 1 ∨ x.1 = 3) → T (vX4_orderClause_134 K (L.length : Int) σ) (OcF (vX10_readOrder_169 ((8 * L.length : Nat) : Int)) tk pl st N σC σM σm L) := fun w => oc_rep hc hz cz h m hn hx ⟨hk, hA, ⟨fun z => by omega, fun _ => x2⟩, fun E e => by rw [hx] at e; (cases e), by omega⟩ h1
  have mid : (x.1 = 0 ∨ x.1 = 2) → T (vX4_orderClause_77 K (L.length : Int) x.1 σ) (OcF (vX10_readOrder_134 x.1 ((8 * L.length : Nat) : Int)) tk pl st N σC σM σm L) := fun w => by
    obtain ⟨e6, e71, tb, i4⟩ := cs_tok (CZ_g cz h.2.2.1) h.1
    have iN := h.1.2.1.1
    obtain ⟨wd, ew, hw⟩ : ∃ wd : Int, wd = (if x.1 = 0 then 326 else 327) ∧ (wd = 326 ∨ wd = 327) := ⟨_, rfl, by split <;> omega⟩
    have r134 : ∀ Q : Sg → Prop, T ((vX10_must (bI (tk i = wd)) σm).bind (fun s => vX10_readOrder_162 ((8 * L.length : Nat) : Int) s)) Q → T (vX10_readOrder_134 x.1 ((8 * L.length : Nat) : Int) σm) Q := fun Q k => by
      unfold vX10_readOrder_134
      refine T_t m.1.2.1.1.1 ?_
      by_cases z : x.1 = 0
      · rw [if_pos z] at ew
        refine T_t z ?_
        unfold vX10_readOrder_156
        rw [ps_word (j := 26) m.1.2.2.1 (by omega) (by decide), Option.bind_some]
        rw [ew] at k
        exact k
      · rw [if_neg z] at ew
        refine T_f z ?_
        unfold vX10_readOrder_156
        rw [ps_word (j := 27) m.1.2.2.1 (by omega) (by decide), Option.bind_some]
        rw [ew] at k
        exact k
    have c99 : T (vX4_orderClause_99 K (L.length : Int) (tk i) wd σ) (OcF (vX10_readOrder_134 x.1 ((8 * L.length : Nat) : Int)) tk pl st N σC σM σm L) := by
      unfold vX4_orderClause_99
      rw [e6]
      refine T_ite (fun q => ?_) (fun q => ?_)
      · have hi : i < N := tk_N hc iN (by omega)
        obtain ⟨σ5, e5, p5⟩ := pv_must1 hc (PZ_g hz m.2.2.1) m.1 hi
        have m5 := MOm_n (b := b) (n := n) m p5
        have r162 : ∀ Q : Sg → Prop, T (vX10_readOrder_162 ((8 * L.length : Nat) : Int) σ5) Q → T (vX10_readOrder_134 x.1 ((8 * L.length : Nat) : Int) σm) Q := fun Q k => r134 Q (by rw [bI_t q, e5, Option.bind_some]; exact k)
        refine T_ck (by omega) (T_nm (T_bd2 (oc_sum (a := 67) (s := 3) hc hz cz (CL_inc h hi) m5 hn (by have := h.2.1; omega) (by have := m.2.1; omega) (Or.inr ⟨rfl, rfl⟩) hK) (fun r σ4 hr => ?_)))
        rcases hr with ⟨r1, j, l', cd', E, σ7, c', y1, y2, y3, y4⟩ | ⟨r1, k, y1, y2⟩
        · dsimp only at r1 y1
          have ht : wth x 67 E = (x.1, x.2.1, some E, x.2.2.2) := by unfold wth; rw [if_neg (by omega), if_pos rfl]
          rw [ht] at y1 y3
          refine T_f (by omega) (T_mono (oc_rep (K := K) hc hz cz y1 y3 hn hx ⟨hk, hA, ⟨fun _ => ⟨E, rfl, y2⟩, fun z => by dsimp only at z; omega⟩, fun E e => by dsimp only at e; rw [hx] at e; (cases e), by dsimp only; omega⟩ h1) (fun p hp => OcF_m hp (fun Q k => r162 Q ?_)))
          unfold vX10_readOrder_162
          refine T_ck (by omega) ?_
          rw [show ((8 * L.length : Nat) : Int) + 3 = ((8 * L.length : Nat) : Int) + ((3 : Nat) : Int) from rfl, y4, Option.bind_some]
          exact k
        · dsimp only at r1 y1
          refine T_t r1 (T_some (Or.inr ⟨rfl, k, y1, r162 _ ?_⟩))
          unfold vX10_readOrder_162
          refine T_ck (by omega) (T_bind y2 (fun s hs => b_169 hn hs))
      · refine T_mono (c_fail23 (CZ_g cz h.2.2.1) h.1) (fun p hp => Or.inr ⟨hp.1, i, CXG_0 h.2.2.1 hp.2, r134 _ ?_⟩)
        rw [bI_f q]
        exact T_bind (pv_must0 m.1) (fun s hs => b_162 hn (BadM_v m.2.2.1 hs))
    unfold vX4_orderClause_77
    rw [e6, Int.toNat_natCast, e71]
    refine T_ck (by omega) ?_
    by_cases z : x.1 = 0
    · rw [if_pos z] at ew
      rw [ew] at c99
      exact T_t z c99
    · rw [if_neg z] at ew
      rw [ew] at c99
      exact T_f z c99
  unfold vX4_orderClause_68
  refine T_ite (fun z => T_mono (mid (Or.inl z)) (fun p hp => OcF_m hp (fun Q k => ?_))) (fun z => T_ite (fun z2 => T_mono (mid (Or.inr z2)) (fun p hp => OcF_m hp (fun Q k => ?_))) (fun z2 => T_mono (rep (by omega)) (fun p hp => OcF_m hp (fun Q k => ?_))))
  · unfold vX10_readOrder_125; exact T_t z k
  · unfold vX10_readOrder_125; exact T_f z (T_t z2 k)
  · unfold vX10_readOrder_125; exact T_f z (T_f z2 k)
theorem oc_clause {b : Nat → Int} {n N : Nat} {tk : Nat → Int} {pl st : Nat → Nat} {σC σM σ σm : Sg} {K : Kt} {i l : Nat} {cd : List Int} {c : Cd} {L : List Ru} (hc : PC b n tk pl st N) (hz : PZ b n 1 σM) (cz : CZ tk pl N 1 σC) (h : CL 24 N σC σ i l cd L) (m : ML MRo tk pl st N σM σm i l c L) (hn : L.length < 12) (hK : IsA K 66 20 12) (hK7 : IsA K 67 20 12) : T (vX4_orderClause K (L.length : Int) σ) (OcF vX10_readOrder tk pl st N σC σM σm L) := by
  obtain ⟨e6, e71, tb, i4⟩ := cs_tok (CZ_g cz h.2.2.1) h.1
  have hiN := h.1.2.1.1
  unfold vX4_orderClause
  rw [e6, Int.toNat_natCast, e71]
  have bad : vrb 304 (tk i) = -1 → T (vX4_orderClause_23 K σ) (OcF vX10_readOrder tk pl st N σC σM σm L) := fun w => by
    unfold vX4_orderClause_23
    exact T_mono (c_fail23 (CZ_g cz h.2.2.1) h.1) (fun p hp => Or.inr ⟨hp.1, i, CXG_0 h.2.2.1 hp.2, m_ro_bad hz m (Or.inl w)⟩)
  refine T_ck (by omega) (T_ck (by omega) (T_nm (T_ite (fun q => bad ?_) (fun q => T_ite (fun q1 => bad ?_) (fun q1 => ?_)))))
  · unfold vrb; rw [if_neg (by omega)]
  · unfold vrb; rw [if_neg (by omega)]
  have ev : vrb 304 (tk i) = tk i - 304 := by unfold vrb; rw [if_pos (by omega)]
  have hi : i < N := tk_N hc hiN (by omega)
  obtain ⟨σ5, v1, v7⟩ := m_overb hc hz m (by omega) hn hi
  rw [ev] at v1 v7
  have m2 := m.2.1
  have h21 := h.2.1
  refine T_ck (by omega) (T_nm ?_)
  refine T_bind (c_open (kd := tk i - 304) (K := K) (CL_inc h hi) hn) (fun σ1 h1 => ?_)
  refine T_ite (fun q3 => ?_) (fun q3 => ?_)
  · refine T_mono (oc_68 (x := (tk i - 304, none, none, none, 1)) (K := K) hc hz cz h1 v1 hn rfl rfl rfl (by dsimp only; omega) ⟨fun _ => rfl, fun z => absurd q3 z⟩ hK7) (fun p hp => OcF_m hp (fun Q k => v7 Q ?_))
    rw [if_pos q3]
    exact k
  · refine T_bd2 (oc_sum (a := 66) (s := 1) hc hz cz h1 v1 hn (by omega) (by omega) (Or.inl ⟨rfl, rfl⟩) hK) (fun r σ8 hr => ?_)
    rcases hr with ⟨r1, j, l', cd', E, σ7, c', y1, y2, y3, y4⟩ | ⟨r1, k, y1, y2⟩
    · dsimp only at r1 y1
      have ht : wth (tk i - 304, none, none, none, 1) 66 E = (tk i - 304, some E, none, none, 1) := by unfold wth; rw [if_pos rfl]
      rw [ht] at y1 y3
      refine T_f (by omega) (T_mono (oc_68 (x := (tk i - 304, some E, none, none, 1)) (K := K) hc hz cz y1 y3 hn rfl rfl rfl (by dsimp only; omega) ⟨fun z => absurd z q3, fun _ => ⟨E, rfl, y2⟩⟩ hK7) (fun p hp => OcF_m hp (fun Q k => v7 Q ?_)))
      rw [if_neg q3, show ((8 * L.length : Nat) : Int) + 1 = ((8 * L.length : Nat) : Int) + ((1 : Nat) : Int) from rfl, y4, Option.bind_some]
      exact k
    · dsimp only at r1 y1
      refine T_t r1 (T_some (Or.inr ⟨rfl, k, y1, v7 _ ?_⟩))
      rw [if_neg q3]
      exact T_bind y2 (fun s hs => b_125 hn hs)
theorem m_217 {tk : Nat → Int} {pl st : Nat → Nat} {N i l : Nat} {σM σm : Sg} {c : Cd} {L : List Ru} {x : Ru} (m : MOm tk pl st N σM σm i l c L x) (h7 : σm 113 (8 * L.length + 7) = x.2.2.2.2) (hn : L.length < 12) : ∃ σ2, MOm tk pl st N σM σ2 i l c L x ∧ σ2 113 (8 * L.length + 5) = (c.2.2 : Int) ∧ σ2 113 (8 * L.length + 7) = x.2.2.2.2 ∧ ∀ Q : Sg → Prop, T (if tk i = 324 then ((vX10_next σ2).bind (fun σ6 => (vX10_readExpression 1 σ6).bind (fun σ7 => vX10_readOrder_255 ((8 * L.length : Nat) : Int) σ7))) else (vX10_readOrder_255 ((8 * L.length : Nat) : Int) σ2)) Q → T (vX10_readOrder_217 ((8 * L.length : Nat) : Int) σm) Q := by
  have g23 : σm 84 23 = (c.2.2 : Int) := m.1.2.1.1.2.1
  have mm := MOm_u (j := 5) (x' := x) (t := (c.2.2 : Int)) m ⟨rfl, rfl, rfl⟩ (by omega)
  refine ⟨up2 σm 113 (8 * L.length + 5) (c.2.2 : Int), mm, by rw [up2_c, upw_s], by rw [up2_c, upw_n (by omega)]; exact h7, fun Q k => ?_⟩
  unfold vX10_readOrder_217
  rw [g23, show ((8 * L.length : Nat) : Int) + 5 = ((8 * L.length + 5 : Nat) : Int) by omega, Int.toNat_natCast]
  refine T_ck (by omega) (T_ck (by omega) (T_nm (T_t mm.1.2.1.1.1 ?_)))
  rw [ps_word (j := 24) mm.1.2.2.1 (by omega) (by decide), Option.bind_some]
  by_cases q : tk i = 324
  · rw [if_pos q] at k
    rw [bI_t (by omega)]
    exact T_f (by omega) k
  · rw [if_neg q] at k
    rw [bI_f (by omega)]
    exact T_t rfl k
theorem oc_cond {b : Nat → Int} {n N : Nat} {tk : Nat → Int} {pl st : Nat → Nat} {σC σM σ σm : Sg} {K : Kt} {i l : Nat} {cd : List Int} {c : Cd} {L : List Ru} {x : Ru} (hc : PC b n tk pl st N) (hz : PZ b n 1 σM) (cz : CZ tk pl N 1 σC) (h : CL 24 N σC σ i l cd (L ++ [x])) (hx : x.2.2.2.1 = none) (hr : OrdR x) (m : MOm tk pl st N σM σm i l c L x) (h7 : σm 113 (8 * L.length + 7) = x.2.2.2.2) (hn : L.length < 12) : T (vX4_condition K (L.length : Int) σ) (fun p => (p.1 = 1 ∧ ∃ j l' cd' x', CL 24 N σC p.2 j l' cd' (L ++ [x']) ∧ OrdR x' ∧ T (vX10_readOrder_217 ((8 * L.length : Nat) : Int) σm) (fun s => ∃ c', ML MRo tk pl st N σM s j l' c' (L ++ [x']))) ∨ (p.1 = 0 ∧ ∃ k, CXG pl σC p.2 k ∧ T (vX10_readOrder_217 ((8 * L.length : Nat) : Int) σm) (fun s => BadM pl σM s k))) := by
  obtain ⟨σ2, ⟨m1, m2, m3, m4, m5, m6, ma, mb⟩, w5, w7, m8⟩ := m_217 m h7 hn
  have hz2 : PZ b n 1 σ2 := PZ_g hz m3
  have fin : ∀ (σ7 : Sg) (j l' : Nat) (c' : Cd) (e : Option Xp), PSv tk pl st N σ2 σ7 j l' c' → c.2.2 ≤ c'.2.2 → c'.2.2 ≤ j → (∀ k, k < c.2.2 → c'.1 k = c.1 k ∧ c'.2.1 k = c.2.1 k) → MlE 1 c' (c.2.2 : Int) (c'.2.2 : Int) e → T (vX10_readOrder_255 ((8 * L.length : Nat) : Int) σ7) (fun s => ∃ c', ML MRo tk pl st N σM s j l' c' (L ++ [(x.1, x.2.1, x.2.2.1, e, x.2.2.2.2)])) := by
    intro σ7 j l' c' e p7 k1 k2 k3 k4
    have g7 : σ7 113 = σ2 113 := p7.1.1 113 (by omega) (by omega) (by omega) (by omega) (by omega)
    have g23 : σ7 84 23 = (c'.2.2 : Int) := p7.2.1.1.2.1
    unfold vX10_readOrder_255
    rw [g23, show ((8 * L.length : Nat) : Int) + 6 = ((8 * L.length + 6 : Nat) : Int) by omega, Int.toNat_natCast]
    refine T_ck (by omega) (T_ck (by omega) (T_nm (T_some ⟨c', PS_e (PS_r p7) (fun j hj => by rw [up2_o (by omega)]) (fun k k1 k2 => by rw [up2_o (by omega)]), k2, MGr_u (MGr_t m3 (MGr_p p7.1)) (by omega), ?_, fun q y hq => ?_⟩)))
    · rw [up2_o (by omega), p7.1.2 21 (by omega), m4, List.length_append, List.length_singleton]; omega
    · rcases app_get hq with z | ⟨z1, z2⟩
      · refine MRo_f (m := L.length) (m5 q y z) (get_lt z) (fun j hj => ?_) k1 k3
        rw [up2_c, upw_n (by omega), g7]
      · subst z1 z2
        unfold MRo
        rw [up2_c, upw_n (by omega), upw_n (by omega), upw_n (by omega), upw_n (by omega), upw_n (by omega), upw_n (by omega), upw_s, upw_n (by omega), g7, m6, w5, w7]
        exact ⟨rfl, MlE_c k1 k3 ma, MlE_c k1 k3 mb, k4, rfl⟩
  refine T_mono (c_cond hc hz2 (K := K) (CZ_g cz h.2.2.1) h.1 h.2.1 hn) (fun p hp => ?_)
  rcases hp with ⟨q, e⟩ | ⟨q, ⟨r1, j, l', cs, E, b1, b2, b3, b4, b5, b6, b7⟩ | ⟨r1, k, b1, b2⟩⟩
  · subst e
    refine Or.inl ⟨rfl, i, l, cd, x, h, hr, m8 _ ?_⟩
    rw [if_neg q]
    have ex : (x.1, x.2.1, x.2.2.1, (none : Option Xp), x.2.2.2.2) = x := by
      rw [← hx]
    have := fin σ2 i l c none m1 (Nat.le_refl _) m2 (fun _ _ => ⟨rfl, rfl⟩) rfl
    rw [ex] at this
    exact this
  · have iN := h.1.2.1.1
    have hi : i < N := tk_N hc iN (by omega)
    obtain ⟨σ6, e6, p6⟩ := pv_next hc hz2 m1 hi
    obtain ⟨σ7, e7, c', p7, k1, k2, k3, k4⟩ := m_testX hc hz2 p6 (by omega) b6 b7
    have hcl := CL_set (a := 68) h (by omega) b1 b4 (by omega) (by have := h.2.1; rw [List.length_append, List.length_append, List.length_singleton]; omega)
    refine Or.inl ⟨r1, j, l', _, _, hcl, ⟨hr.1, hr.2.1, hr.2.2.1, fun E' z => by injection z with z; rw [← z]; exact b5, hr.2.2.2.2⟩, m8 _ ?_⟩
    rw [if_pos q, e6, Option.bind_some, e7, Option.bind_some]
    exact fin σ7 j l' c' (some E) (PSv_of p7) k1 (by omega) k3 ⟨c.2.2, c'.2.2, l' - l, rfl, rfl, k4, by omega, Nat.le_refl _⟩
  · have iN := h.1.2.1.1
    have hi : i < N := tk_N hc iN (by omega)
    obtain ⟨σ6, e6, p6⟩ := pv_next hc hz2 m1 hi
    refine Or.inr ⟨r1, k, CXG_f h.2.2.1 (by omega) b1, m8 _ ?_⟩
    rw [if_pos q, e6, Option.bind_some]
    refine T_bind (m_exprX hc hz2 p6 (by omega) b2 rfl ⟨fun e r q => (by cases q), by show (-1 : Int) ≠ 32; omega, fun _ => by omega⟩ rfl) (fun σ7 h7 => ?_)
    obtain ⟨l1, d1, c1, P1, x1, -⟩ := h7
    exact b_255 hn (BadM_p (σc := σM) (σ := σ2) m3 x1)
theorem ord_ClO {b : Nat → Int} {n N : Nat} {tk : Nat → Int} {pl st : Nat → Nat} {σC σM : Sg} {K : Kt} (hc : PC b n tk pl st N) (hz : PZ b n 1 σM) (cz : CZ tk pl N 1 σC) (hK : IsA K 66 20 12) (hK7 : IsA K 67 20 12) : ClO (vX4_orderClause K) vX10_readOrder 24 OrdR MRo tk pl st N σC σM K := by
  intro σ σm i l cd c L h m hn
  refine T_mono (oc_clause hc hz cz h m hn hK hK7) (fun p hp => ?_)
  rcases hp with ⟨r1, j, l', cd', x, σm', c', x1, x2, x3, x4, x5, x6⟩ | hp
  · refine Or.inl ⟨r1, T_mono (oc_cond (K := K) hc hz cz x1 x2 x3 x4 x5 hn) (fun p' hp' => ?_)⟩
    rcases hp' with ⟨r2, j2, l2, cd2, y, y1, y2, y3⟩ | ⟨r2, k, y1, y2⟩
    · exact Or.inl ⟨r2, j2, l2, cd2, y, y1, y2, x6 _ y3⟩
    · exact Or.inr ⟨r2, k, y1, x6 _ y2⟩
  · exact Or.inr hp
/-- the orders are read by both -/
theorem ord_reads {K : Kt} {σ s0 : Sg} {n : Nat} (hC : cLay K) (hn : n ≤ 400) (h61 : σ 61 1 = (n : Int)) (hb : ∀ i, i < n → 0 ≤ σ 62 i ∧ σ 62 i ≤ 255) (h13 : s0 84 13 = (n : Int)) (h93 : ∀ q, q < n → s0 93 q = σ 62 q) (hI : InvC s0) : T (vX4_reads K 0 σ) (fun p => ∃ tk pl st N σC σm, N ≤ 400 ∧ CBg σ σC ∧ BgF s0 σm ∧ vX10_beginText 1 s0 = some σm ∧ RdO (fun s => (vX10_readOrder s).bind (fun s' => vX10_orders_19 FU s')) vX10_orders_46 24 OrdR MRo tk pl st N σC σm σm p) := by
  obtain ⟨tk, pl, st, N, σC, hc, cz, bg, cl, s5, e⟩ := c_begin (K := K) (nW := 24) (p1 := 0) (Or.inl rfl) hn h61 hb
  rw [if_pos rfl] at cz
  obtain ⟨σm, em, ps, m21, m20, mf⟩ := m_begin (ord := 1) hc (Or.inr rfl) h13 h93
  have hz : PZ (σ 62) n 1 σm := ⟨by rw [mf.2 13 (by omega)]; exact h13, fun q hq => by rw [mf.1 93 (by omega)]; exact h93 q hq, m20, InvC_f hI (mf.1 99 (by omega)) (mf.1 100 (by omega)) (mf.1 101 (by omega)) (mf.1 112 (by omega))⟩
  rw [e]
  have st1 : ClO (cls K σC) vX10_readOrder 24 OrdR MRo tk pl st N σC σm K := by
    unfold cls
    rw [if_pos s5]
    exact ord_ClO hc hz cz (lcA_66 hC) (lcA_67 hC)
  have := reads_all (en := vX10_orders_46) (lp := vX10_orders_19) hc hz cz st1 (fun s i l c L m h12 => m_ro_bad hz m (Or.inr h12)) (fun s s' c q x h _ e113 => by unfold MRo at *; rw [e113]; exact h) (fun f s => by rw [vX10_orders_19]) FU FU σC σm 0 0 [] cd0 [] (by have := FU_b; show 12 - 0 < FU; omega) (by have := FU_b; show 13 - 0 < FU; omega) (by show 0 ≤ 12; omega) (fun x hx => by cases hx) cl ⟨ps, Nat.le_refl _, MGr_r, m21, fun q x hq => by simp at hq⟩
  refine T_mono this (fun p hp => ⟨tk, pl, st, N, σC, σm, nN hc, bg, mf, em, hp⟩)
