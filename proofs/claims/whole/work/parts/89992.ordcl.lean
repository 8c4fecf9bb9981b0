/-! ===== one clause of orders, in both ===== -/
def OrdR (x : Ru) : Prop := (0 ≤ x.1 ∧ x.1 ≤ 3) ∧ ((x.1 = 3 → x.2.1 = none) ∧ (x.1 ≠ 3 → ∃ E, x.2.1 = some E ∧ EOk E)) ∧ ((x.1 = 0 ∨ x.1 = 2 → ∃ E, x.2.2.1 = some E ∧ EOk E) ∧ (x.1 = 1 ∨ x.1 = 3 → x.2.2.1 = none)) ∧ (∀ E, x.2.2.2.1 = some E → TOk E) ∧ (1 ≤ x.2.2.2.2 ∧ x.2.2.2.2 ≤ 20)
theorem oc_sum {b : Nat → Int} {n N : Nat} {tk : Nat → Int} {pl st : Nat → Nat} {σC σM σ σm : Sg} {K : Kt} {i l a s : Nat} {cd : List Int} {c : Cd} {L : List Ru} {x : Ru} (hc : PC b n tk pl st N) (hz : PZ b n 1 σM) (cz : CZ tk pl N 1 σC) (h : CL 24 N σC σ i l cd (L ++ [x])) (m : MOm tk pl st N σM σm i l c L x) (hn : L.length < 12) (lt : cd.length < i) (mt : c.2.2 < i) (ha : (a = 66 ∧ s = 1) ∨ (a = 67 ∧ s = 3)) (hK : IsA K a 20 12) : T (vX4_wholeSum K a (L.length : Int) σ) (fun p => (p.1 = 1 ∧ ∃ j l' cd' E σm' c', CL 24 N σC p.2 j l' cd' (L ++ [wth x a E]) ∧ EOk E ∧ MOm tk pl st N σM σm' j l' c' L (wth x a E) ∧ vX10_readSum (((8 * L.length : Nat) : Int) + (s : Int)) σm = some σm') ∨ (p.1 = 0 ∧ ∃ k, CXG pl σC p.2 k ∧ T (vX10_readSum (((8 * L.length : Nat) : Int) + (s : Int)) σm) (fun σ' => BadM pl σM σ' k))) := by
  obtain ⟨m1, m2, m3, m4, m5, m6, m7, m8⟩ := m
  have g23 : σm 84 23 = (c.2.2 : Int) := m1.2.1.1.2.1
  have ix : ((8 * L.length : Nat) : Int) + (s : Int) = ((8 * L.length + s : Nat) : Int) := by omega
  have ix1 : ((8 * L.length + s : Nat) : Int) + 1 = ((8 * L.length + s + 1 : Nat) : Int) := by omega
  generalize h1 : up2 σm 113 (8 * L.length + s) (c.2.2 : Int) = σ1
  have p1 : PSv tk pl st N σ1 σ1 i l c := PS_e m1 (fun j hj => by rw [← h1, up2_o (by omega)]) (fun k k1 k2 => by rw [← h1, up2_o (by omega)])
  have gr1 : MGr σM σ1 := by rw [← h1]; exact MGr_u m3 (by omega)
  have hz1 : PZ b n 1 σ1 := PZ_g hz gr1
  have rd : vX10_readSum ((8 * L.length + s : Nat) : Int) σm = (vX10_readExpression 0 σ1).bind (fun σ3 => vX10_readSum_22 ((8 * L.length + s : Nat) : Int) σ3) := by
    unfold vX10_readSum
    rw [ck_p (by omega), nm_eq, Int.toNat_natCast, g23, h1, if_pos p1.2.1.1.1]
  rw [ix]
  refine T_mono (c_wsum hc hz1 (CZ_g cz h.2.2.1) h.1 lt (by omega) hK hn) (fun p hp => ?_)
  rcases hp with ⟨r1, j, l', cs, E, b1, b2, b3, b4, b5, b6, b7⟩ | ⟨r1, k, b1, b2⟩
  · obtain ⟨σ7, e7, c', p7, k1, k2, k3, k4⟩ := m_sumX hc hz1 p1 mt b6 b7
    have g7 : σ7 113 = σ1 113 := p7.1.1 113 (by omega) (by omega) (by omega) (by omega) (by omega)
    have o7 : σ7 84 23 = (c'.2.2 : Int) := p7.2.1.1.2.1
    have hcl := CL_set (a := a) h (by omega) b1 b4 (by omega) (by rw [List.length_append, List.length_append, List.length_singleton]; omega)
    refine Or.inl ⟨r1, j, l', _, E, up2 σ7 113 (8 * L.length + s + 1) (c'.2.2 : Int), c', hcl, b5, ⟨PS_e (PS_r (PSv_of p7)) (fun j hj => by rw [up2_o (by omega)]) (fun k k1 k2 => by rw [up2_o (by omega)]), by omega, MGr_u (MGr_t gr1 (MGr_p p7.1)) (by omega), by rw [up2_o (by omega), p7.1.2 21 (by omega), ← h1, up2_o (by omega)]; exact m4, fun q y hq => ?_, ?_, ?_⟩, ?_⟩
    · refine MRo_f (m := L.length) (m5 q y hq) (get_lt hq) (fun j hj => ?_) k1 k3
      rw [up2_c, upw_n (by omega), g7, ← h1, up2_c, upw_n (by omega)]
    · rw [up2_c, upw_n (by omega), g7, ← h1, up2_c, upw_n (by omega), m6]
      rcases ha with ⟨z, -⟩ | ⟨z, -⟩ <;> subst z <;> rfl
    · have new : MlE 1 c' (c.2.2 : Int) (c'.2.2 : Int) (some E) := ⟨c.2.2, c'.2.2, l' - l, rfl, rfl, k4, by omega, Nat.le_refl _⟩
      rcases ha with ⟨z, z'⟩ | ⟨z, z'⟩ <;> subst z z'
      · rw [up2_c, upw_n (by omega), upw_s, upw_n (by omega), upw_n (by omega), g7, ← h1, up2_c, upw_s, upw_n (by omega), upw_n (by omega)]
        exact ⟨new, MlE_c k1 k3 m8⟩
      · rw [up2_c, upw_n (by omega), upw_n (by omega), upw_n (by omega), upw_s, g7, ← h1, up2_c, upw_n (by omega), upw_n (by omega), upw_s]
        exact ⟨MlE_c k1 k3 m7, new⟩
    · rw [rd, e7, Option.bind_some]
      unfold vX10_readSum_22
      rw [ck_p (by omega), ck_p (by omega), nm_eq, o7, ix1, Int.toNat_natCast]
  · refine Or.inr ⟨r1, k, CXG_f h.2.2.1 (by omega) b1, ?_⟩
    rw [rd]
    refine T_bind (m_exprX hc hz1 p1 mt b2 (Or.inl rfl) (fun e r q => by cases q) rfl) (fun σ7 h7 => ?_)
    obtain ⟨l1, d1, c1, P1, x1, -⟩ := h7
    unfold vX10_readSum_22
    exact T_ck (by omega) (T_ck (by omega) (T_nm (T_some (BadM_u (BadM_p gr1 x1) (by omega)))))
/-- what reading of an order's clause comes to, so far as its condition -/
def OcF (f : Sg → Option Sg) (tk : Nat → Int) (pl st : Nat → Nat) (N : Nat) (σC σM σm : Sg) (L : List Ru) (p : Int × Sg) : Prop := (p.1 = 1 ∧ ∃ j l' cd' x σm' c', CL 24 N σC p.2 j l' cd' (L ++ [x]) ∧ x.2.2.2.1 = none ∧ OrdR x ∧ MOm tk pl st N σM σm' j l' c' L x ∧ σm' 113 (8 * L.length + 7) = x.2.2.2.2 ∧ ∀ Q : Sg → Prop, T (vX10_readOrder_217 ((8 * L.length : Nat) : Int) σm') Q → T (f σm) Q) ∨ (p.1 = 0 ∧ ∃ k, CXG pl σC p.2 k ∧ T (f σm) (fun σ' => BadM pl σM σ' k))
theorem OcF_m {f g : Sg → Option Sg} {tk : Nat → Int} {pl st : Nat → Nat} {N : Nat} {σC σM σm σm' : Sg} {L : List Ru} {p : Int × Sg} (h : OcF f tk pl st N σC σM σm L p) (k : ∀ Q : Sg → Prop, T (f σm) Q → T (g σm') Q) : OcF g tk pl st N σC σM σm' L p := by
  rcases h with ⟨a, j, l', cd', x, s, c', b1, b2, b3, b4, b5, b6⟩ | ⟨a, q, b1, b2⟩
  · exact Or.inl ⟨a, j, l', cd', x, s, c', b1, b2, b3, b4, b5, fun Q z => k Q (b6 Q z)⟩
  · exact Or.inr ⟨a, q, b1, k _ b2⟩
theorem T_bindI {α β : Type} {v : Option β} {k : β → Option α} {Q : α → Prop} (h : T (v.bind k) Q) : ∃ b, v = some b ∧ T (k b) Q := by
  cases v with
  | none => obtain ⟨_, e, _⟩ := h; cases e
  | some b => exact ⟨b, rfl, h⟩
theorem T_bd2I {α : Type} {v : Option (Int × Sg)} {k : Int → Sg → Option α} {Q : α → Prop} (h : T (bd2 v k) Q) : ∃ r s, v = some (r, s) ∧ T (k r s) Q := by
  cases v with
  | none => obtain ⟨_, e, _⟩ := h; cases e
  | some b => exact ⟨b.1, b.2, rfl, h⟩
def wtm (x : Ru) (t : Int) : Ru := (x.1, x.2.1, x.2.2.1, x.2.2.2.1, t)
theorem CL_tm {nW N : Nat} {σc σ : Sg} {i l : Nat} {cd : List Int} {L : List Ru} {x : Ru} {t : Int} (h : CL nW N σc σ i l cd (L ++ [x])) : CL nW N σc (up2 σ 69 L.length t) i l cd (L ++ [wtm x t]) := by
  obtain ⟨⟨-, h1, h2, h3⟩, g2, g3, g4, g5⟩ := h
  refine ⟨⟨CFr_r, by rw [up2_o (by omega)]; exact h1, by rw [up2_o (by omega)]; exact h2, fun j y hy => by rw [up2_o (by omega)]; exact h3 j y hy⟩, g2, CGr_u g3 (by omega), ?_, fun q y hq => ?_⟩
  · rw [up2_o (by omega), g4, List.length_append, List.length_append]; rfl
  · unfold CRu
    rw [up2_o (show (65 : Nat) ≠ 69 by omega), up2_o (show (66 : Nat) ≠ 69 by omega), up2_o (show (67 : Nat) ≠ 69 by omega), up2_o (show (68 : Nat) ≠ 69 by omega), up2_c]
    rcases app_get hq with z | ⟨z1, z2⟩
    · have := get_lt z
      rw [upw_n (by omega)]
      exact g5 q y (app_old z)
    · subst z1 z2
      obtain ⟨x1, x2, x3, x4, x5⟩ := g5 L.length x app_last
      rw [upw_s]
      exact ⟨x1, x2, x3, x4, rfl⟩
theorem OrdR_tm {x : Ru} {t : Int} (h : OrdR x) (ht : 1 ≤ t ∧ t ≤ 20) : OrdR (wtm x t) := ⟨h.1, h.2.1, h.2.2.1, h.2.2.2.1, ht⟩
theorem MOm_u {tk : Nat → Int} {pl st : Nat → Nat} {N i l j : Nat} {σM σm : Sg} {c : Cd} {L : List Ru} {x x' : Ru} {t : Int} (m : MOm tk pl st N σM σm i l c L x) (hx : x'.1 = x.1 ∧ x'.2.1 = x.2.1 ∧ x'.2.2.1 = x.2.2.1) (hj : j = 5 ∨ j = 7) : MOm tk pl st N σM (up2 σm 113 (8 * L.length + j) t) i l c L x' := by
  obtain ⟨m1, m2, m3, m4, m5, m6, m7, m8⟩ := m
  refine ⟨PS_e m1 (fun j hj => by rw [up2_o (by omega)]) (fun k k1 k2 => by rw [up2_o (by omega)]), m2, MGr_u m3 (by omega), by rw [up2_o (by omega)]; exact m4, fun q y hq => ?_, ?_, ?_, ?_⟩
  · refine MRo_f (m := L.length) (m5 q y hq) (get_lt hq) (fun j hj => ?_) (Nat.le_refl _) (fun _ _ => ⟨rfl, rfl⟩)
    rw [up2_c, upw_n (by omega)]
  · rw [up2_c, upw_n (by omega), hx.1]; exact m6
  · rw [up2_c, upw_n (by omega), upw_n (by omega), hx.2.1]; exact m7
  · rw [up2_c, upw_n (by omega), upw_n (by omega), hx.2.2]; exact m8
theorem MOm_n {b : Nat → Int} {n N : Nat} {tk : Nat → Int} {pl st : Nat → Nat} {σM σm σ' : Sg} {i l : Nat} {c : Cd} {L : List Ru} {x : Ru} (m : MOm tk pl st N σM σm i l c L x) (p : PSv tk pl st N σm σ' (i + 1) l c) : MOm tk pl st N σM σ' (i + 1) l c L x := by
  obtain ⟨m1, m2, m3, m4, m5, m6, m7, m8⟩ := m
  have g : σ' 113 = σm 113 := p.1.1 113 (by omega) (by omega) (by omega) (by omega) (by omega)
  refine ⟨PS_r p, by omega, MGr_t m3 (MGr_p p.1), by rw [p.1.2 21 (by omega)]; exact m4, fun q y hq => MRo_f (m := L.length) (m5 q y hq) (get_lt hq) (fun j _ => by rw [g]) (Nat.le_refl _) (fun _ _ => ⟨rfl, rfl⟩), by rw [g]; exact m6, by rw [g]; exact m7, by rw [g]; exact m8⟩
theorem oc_rep {b : Nat → Int} {n N : Nat} {tk : Nat → Int} {pl st : Nat → Nat} {σC σM σ σm : Sg} {K : Kt} {i l : Nat} {cd : List Int} {c : Cd} {L : List Ru} {x : Ru} (hc : PC b n tk pl st N) (hz : PZ b n 1 σM) (cz : CZ tk pl N 1 σC) (h : CL 24 N σC σ i l cd (L ++ [x])) (m : MOm tk pl st N σM σm i l c L x) (hn : L.length < 12) (hx : x.2.2.2.1 = none) (hr : OrdR x) (h1 : x.2.2.2.2 = 1) : T (vX4_orderClause_134 K (L.length : Int) σ) (OcF (vX10_readOrder_169 ((8 * L.length : Nat) : Int)) tk pl st N σC σM σm L) := by
  obtain ⟨e6, e71, tb, i4⟩ := cs_tok (CZ_g cz h.2.2.1) h.1
  have iN := h.1.2.1.1
  have ix : ((8 * L.length : Nat) : Int) + 7 = ((8 * L.length + 7 : Nat) : Int) := by omega
  have mm := MOm_u (j := 7) (x' := x) (t := 1) m ⟨rfl, rfl, rfl⟩ (by omega)
  have r169 : ∀ Q : Sg → Prop, T (if tk i = 325 then ((vX10_next (up2 σm 113 (8 * L.length + 7) 1)).bind (fun σ5 => bd2 (vX10_number 1 20 σ5) (fun r6 σ7 => vX10_readOrder_217 ((8 * L.length : Nat) : Int) (up2 σ7 113 (8 * L.length + 7) r6)))) else vX10_readOrder_217 ((8 * L.length : Nat) : Int) (up2 σm 113 (8 * L.length + 7) 1)) Q → T (vX10_readOrder_169 ((8 * L.length : Nat) : Int) σm) Q := fun Q k => by
    unfold vX10_readOrder_169
    rw [ix, Int.toNat_natCast]
    refine T_ck (by omega) (T_ck (by omega) (T_nm (T_t mm.1.2.1.1.1 ?_)))
    rw [ps_word (j := 25) mm.1.2.2.1 (by omega) (by decide), Option.bind_some]
    by_cases q : tk i = 325
    · rw [if_pos q] at k
      rw [bI_t (by omega)]
      refine T_f (by omega) ?_
      obtain ⟨σ5, e5, k⟩ := T_bindI k
      rw [e5, Option.bind_some]
      refine T_ck (by omega) ?_
      obtain ⟨r6, σ7, e7, k⟩ := T_bd2I k
      rw [e7, bd2_some]
      exact T_ck (by omega) (T_nm k)
    · rw [if_neg q] at k
      rw [bI_f (by omega)]
      exact T_t rfl k
  unfold vX4_orderClause_134 vX4_repeats
  rw [e6, Int.toNat_natCast, e71]
  by_cases q : tk i = 325
  · have hi : i < N := tk_N hc iN (by omega)
    have h2 := CL_inc h hi
    rw [if_pos q]
    have en := cs_num (K := K) (p1 := 1) (p2 := 20) (CZ_g cz h2.2.2.1) h2.1
    obtain ⟨σ5, e5, p5⟩ := pv_next hc (PZ_g hz mm.2.2.1) mm.1 hi
    have m5 := MOm_n (b := b) (n := n) mm p5
    obtain ⟨n1, n2⟩ := pv_number hc (PZ_g hz m5.2.2.1) m5.1
    obtain ⟨d1, d2, d3, d4⟩ := cs_tok (CZ_g cz h2.2.2.1) h2.1
    by_cases g : 1001 ≤ tk (i + 1) ∧ tk (i + 1) ≤ 1020
    · have hi2 : i + 1 < N := tk_N hc h2.1.2.1.1 (by omega)
      obtain ⟨⟨r6, σ7⟩, e7, n3, p7⟩ := n1 g
      dsimp only at n3 p7
      have m7 := MOm_n (b := b) (n := n) m5 p7
      have h3 := CL_tm (t := tk (i + 1) - 1000) h2
      have h4 := CL_inc h3 hi2
      have e9 : up2 (up2 σ 63 6 ((i : Int) + 1)) 69 L.length (tk (i + 1) - 1000) 63 6 = ((i + 1 : Nat) : Int) := by rw [up2_o (by omega)]; exact d1
      rw [if_pos (by omega)] at en
      refine T_bd2 (R := fun p => p = (1, up2 (up2 (up2 σ 63 6 ((i : Int) + 1)) 69 L.length (tk (i + 1) - 1000)) 63 6 (((i + 1 : Nat) : Int) + 1))) ?_ (fun r s hs => ?_)
      · refine T_ck (by omega) (T_ck (by omega) (T_nm ?_))
        rw [en, Option.bind_some]
        refine T_f (by omega) (T_ck (by omega) (T_nm ?_))
        rw [Int.toNat_natCast, e9]
        exact T_ck (by omega) (T_nm (T_some rfl))
      · injection hs with hs1 hs2
        subst hs1 hs2
        refine T_ck (by omega) (T_some (Or.inl ⟨rfl, i + 1 + 1, l, cd, wtm x (tk (i + 1) - 1000), up2 σ7 113 (8 * L.length + 7) (tk (i + 1) - 1000), c, h4, hx, OrdR_tm hr (by omega), MOm_u m7 ⟨rfl, rfl, rfl⟩ (by omega), by rw [up2_c, upw_s]; rfl, fun Q k => r169 Q ?_⟩))
        rw [if_pos q, e5, Option.bind_some, e7, bd2_some, n3]
        exact k
    · rw [if_neg (by omega)] at en
      refine T_bd2 (R := fun p => p.1 = 0 ∧ CX pl (up2 σ 63 6 ((i : Int) + 1)) p.2 (i + 1)) ?_ (fun r s hs => ?_)
      · refine T_ck (by omega) (T_ck (by omega) (T_nm ?_))
        rw [en, Option.bind_some]
        exact T_t rfl (c_fail23 (CZ_g cz h2.2.2.1) h2.1)
      · refine T_ck (by have := hs.1; dsimp only at this; omega) (T_some (Or.inr ⟨hs.1, i + 1, CXG_0 h2.2.2.1 hs.2, r169 _ ?_⟩))
        rw [if_pos q, e5, Option.bind_some]
        refine T_bd2 (n2 g) (fun r6 σ7 hb => b_217 hn (BadM_u (BadM_v m5.2.2.1 hb) (by omega)))
  · rw [if_neg q]
    refine T_bd2 (R := fun p => p = (1, σ)) (T_ck (by omega) (T_some rfl)) (fun r s hs => ?_)
    injection hs with hs1 hs2
    subst hs1 hs2
    refine T_ck (by omega) (T_some (Or.inl ⟨rfl, i, l, cd, x, _, c, h, hx, hr, mm, by rw [up2_c, upw_s, h1], fun Q k => r169 Q ?_⟩))
    rw [if_neg q]
    exact k
