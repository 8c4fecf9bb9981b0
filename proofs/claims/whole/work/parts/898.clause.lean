/-! ===== clauses ===== -/
def SegAt (cd : List Int) (s : Nat) (cs : List Int) : Prop := (∀ j y, cs[j]? = some y → cd[s + j]? = some y) ∧ cd[s + cs.length]? = some (-1)
theorem SegAt_a {cd x : List Int} {s : Nat} {cs : List Int} (h : SegAt cd s cs) : SegAt (cd ++ x) s cs := by
  refine ⟨fun j y hy => ?_, ?_⟩
  · have := h.1 j y hy
    rw [List.getElem?_append_left (List.getElem?_eq_some_iff.mp this).1]; exact this
  · have := h.2
    rw [List.getElem?_append_left (List.getElem?_eq_some_iff.mp this).1]; exact this
theorem SegAt_n {cd cs : List Int} : SegAt ((cd ++ cs) ++ [-1]) cd.length cs := by
  refine ⟨fun j y hy => ?_, ?_⟩
  · have hl := (List.getElem?_eq_some_iff.mp hy).1
    rw [List.append_assoc, List.getElem?_append_right (by omega), show cd.length + j - cd.length = j by omega, List.getElem?_append_left hl]
    exact hy
  · rw [List.getElem?_append_right (by rw [List.length_append]; omega), List.length_append, Nat.sub_self]
    rfl
theorem CFr_r {σ : Sg} : CFr σ σ := ⟨fun _ _ _ _ => rfl, fun _ _ _ _ => rfl, fun _ _ => rfl⟩
theorem CSt_r {N i l : Nat} {σc σ : Sg} {cd : List Int} (h : CSt N σc σ i l cd) : CSt N σ σ i l cd := ⟨CFr_r, h.2⟩
theorem CZ_r {tk : Nat → Int} {pl : Nat → Nat} {N : Nat} {ord : Int} {σc σ : Sg} (cz : CZ tk pl N ord σc) (h71 : σ 71 = σc 71) (h72 : σ 72 = σc 72) (h5 : σ 63 5 = σc 63 5) : CZ tk pl N ord σ := ⟨cz.1, fun k hk => by rw [h71, h72]; exact cz.2.1 k hk, by rw [h5]; exact cz.2.2.1, cz.2.2.2⟩
theorem cx_add {pl : Nat → Nat} {σc σ : Sg} {k : Nat} {K : Kt} {y : Int} (h : CX pl σc σ k) : T (vX7_add K y σ) (fun σ' => CX pl σc σ' k) := by
  obtain ⟨h1, h2, h3⟩ := h
  unfold vX7_add
  refine T_ite (fun q => ?_) (fun q => T_some ⟨h1, h2, h3⟩)
  have e : up2 σ 70 (σ 64 7).toNat y 64 7 = σ 64 7 := by rw [up2_o (by omega)]
  refine T_ck (by omega) (T_nm ?_)
  refine T_ck (by omega) (T_nm (T_some ⟨CFr_u (CFr_u h1 (by omega)) (by omega), ?_, ?_⟩))
  · rw [up2_o (by omega), up2_o (by omega)]; exact h2
  · rw [up2_c, upw_s, e]; omega
theorem c_wsum {b : Nat → Int} {n N : Nat} {tk : Nat → Int} {pl st : Nat → Nat} {ord : Int} {σ0 : Sg} (hc : PC b n tk pl st N) (hz : PZ b n ord σ0) {σ : Sg} {K : Kt} {i l a c : Nat} {cd : List Int} (cz : CZ tk pl N ord σ) (h : CSt N σ σ i l cd) (hcd : cd.length < i) (ha : a = 66 ∨ a = 67) (hA : IsA K a 20 12) (hc12 : c < 12) : T (vX4_wholeSum K a (c : Int) σ) (fun p => (p.1 = 1 ∧ ∃ (j l' : Nat) (cs : List Int) (E : (Nat → Int) → Int), CSt N (up2 σ a c (cd.length : Int)) p.2 j l' ((cd ++ cs) ++ [-1]) ∧ (l < l' ∧ l' ≤ 50) ∧ cs.length + i ≤ j ∧ SegC (nwd ord) cs (l' - l) E ∧ EOk E ∧ ROk tk pl st N ord σ0 0 (S1 tk i) 3 5 (hdb 5) i l 0 j l' E ∧ aop (tk j) = -1) ∨ (p.1 = 0 ∧ ∃ k, CX pl (up2 σ a c (cd.length : Int)) p.2 k ∧ RXx tk pl st N σ0 0 (S1 tk i) (hdb 5) i l 0 k)) := by
  have m : (K.2.1 a).2 = 12 := by rw [hA.2]
  have e7 : σ 64 7 = (cd.length : Int) := h.2.2.1
  unfold vX4_wholeSum
  rw [m, e7, Int.toNat_natCast]
  refine T_ckP hA (T_ck (by omega) (T_nm ?_))
  have cz1 : CZ tk pl N ord (up2 σ a c (cd.length : Int)) := CZ_r cz (up2_o (by omega)) (up2_o (by omega)) (by rw [up2_o (by omega)])
  have h1 : CSt N (up2 σ a c (cd.length : Int)) (up2 σ a c (cd.length : Int)) i l cd := by
    obtain ⟨-, h2, h3, h4⟩ := h
    refine ⟨CFr_r, by rw [up2_o (by omega)]; exact h2, by rw [up2_o (by omega)]; exact h3, fun j y hy => by rw [up2_o (by omega)]; exact h4 j y hy⟩
  refine T_bd2 (c_sumF hc hz (test := 0) (K := K) cz1 12 0 (by omega) (by omega) _ i l cd h1 hcd) (fun r σ4 hr => ?_)
  rcases hr with ⟨e, j, l', cs, E, b1, b2, b3, b4, b5, b6, b7⟩ | ⟨e, k, b1, b2⟩
  · dsimp only at e b1
    have jN := b1.2.1.1
    have hN := cz.1
    have i1 := b6.1
    refine T_bind (cs_add b1 (by rw [List.length_append]; omega)) (fun σ5 h5 => T_ck (by omega) (T_some (Or.inl ⟨e, j, l', cs, E, h5, b2, b3, b4, b5, b6, b7⟩)))
  · dsimp only at e b1
    refine T_bind (cx_add b1) (fun σ5 h5 => T_ck (by omega) (T_some (Or.inr ⟨e, k, h5, b2⟩)))
theorem c_cond {b : Nat → Int} {n N : Nat} {tk : Nat → Int} {pl st : Nat → Nat} {ord : Int} {σ0 : Sg} (hc : PC b n tk pl st N) (hz : PZ b n ord σ0) {σ : Sg} {K : Kt} {i l c : Nat} {cd : List Int} (cz : CZ tk pl N ord σ) (h : CSt N σ σ i l cd) (hcd : cd.length ≤ i) (hc12 : c < 12) : T (vX4_condition K (c : Int) σ) (fun p => (tk i ≠ 324 ∧ p = (1, σ)) ∨ (tk i = 324 ∧ ((p.1 = 1 ∧ ∃ (j l' : Nat) (cs : List Int) (E : (Nat → Int) → Int), CSt N (up2 σ 68 c (cd.length : Int)) p.2 j l' ((cd ++ cs) ++ [-1]) ∧ (l < l' ∧ l' ≤ 50) ∧ cs.length + (i + 1) ≤ j ∧ SegC (nwd ord) cs (l' - l) E ∧ TOk E ∧ ROk tk pl st N ord σ0 1 (fun t => t = 0) 2 1 (Cx4 1 1) (i + 1) l 0 j l' E ∧ finB (tk j)) ∨ (p.1 = 0 ∧ ∃ k, CX pl (up2 σ 68 c (cd.length : Int)) p.2 k ∧ RXx tk pl st N σ0 1 (fun t => t = 0) (Cx4 1 1) (i + 1) l 0 k)))) := by
  obtain ⟨e6, e71, tb, i4⟩ := cs_tok cz h
  unfold vX4_condition
  rw [e6, Int.toNat_natCast, e71]
  refine T_ck (by omega) (T_ite (fun q => ?_) (fun q => T_some (Or.inl ⟨q, rfl⟩)))
  have h1 := cs_inc h (tk_N hc h.2.1.1 (by omega))
  refine T_ck (by omega) (T_nm (T_ck (by omega) (T_nm ?_)))
  have e7 : up2 σ 63 6 ((i : Int) + 1) 64 7 = (cd.length : Int) := h1.2.2.1
  rw [e7, Int.toNat_natCast]
  have cz1 : CZ tk pl N ord (up2 σ 68 c (cd.length : Int)) := CZ_r cz (up2_o (by omega)) (up2_o (by omega)) (by rw [up2_o (by omega)])
  have h2 : CSt N (up2 σ 68 c (cd.length : Int)) (up2 (up2 σ 63 6 ((i : Int) + 1)) 68 c (cd.length : Int)) (i + 1) l cd := by
    obtain ⟨h0, h2, h3, h4⟩ := h1
    refine ⟨⟨fun k k1 k2 k3 => ?_, fun j j1 j2 j3 => ?_, fun j j1 => ?_⟩, by rw [up2_o (by omega)]; exact h2, by rw [up2_o (by omega)]; exact h3, fun j y hy => by rw [up2_o (by omega)]; exact h4 j y hy⟩
    · by_cases z : k = 68
      · subst z; rw [up2_c, up2_c, up2_o (by omega)]
      · rw [up2_o z, up2_o z, up2_o k1]
    · rw [up2_o (show (63 : Nat) ≠ 68 by omega), up2_c, upw_n j2, up2_o (show (63 : Nat) ≠ 68 by omega)]
    · rw [up2_o (by omega), up2_o (by omega), up2_o (by omega)]
  refine T_bd2 (c_testF hc hz (test := 1) (K := K) cz1 12 0 (by omega) (by omega) _ (i + 1) l cd h2 (by omega)) (fun r σ4 hr => ?_)
  rcases hr with ⟨e, j, l', cs, E, b1, b2, b3, b4, b5, b6, b7⟩ | ⟨e, k, b1, b2⟩
  · dsimp only at e b1
    have jN := b1.2.1.1
    have hN := cz.1
    have i1 := b6.1
    refine T_bind (cs_add b1 (by rw [List.length_append]; omega)) (fun σ5 h5 => T_ck (by omega) (T_some (Or.inr ⟨q, Or.inl ⟨e, j, l', cs, E, h5, b2, b3, b4, b5, b6, b7⟩⟩)))
  · dsimp only at e b1
    refine T_bind (cx_add b1) (fun σ5 h5 => T_ck (by omega) (T_some (Or.inr ⟨q, Or.inr ⟨e, k, h5, b2⟩⟩)))
