/-! ===== both read comparisons ===== -/
theorem cop_c {t : Int} (h : t = 60 ∨ t = 61 ∨ t = 62) : cOf (cop t) = -t := by
  rcases h with e | e | e <;> (rw [e]; decide)
theorem c_cmp {b : Nat → Int} {n N : Nat} {tk : Nat → Int} {pl st : Nat → Nat} {ord : Int} {σ0 : Sg} (hc : PC b n tk pl st N) (hz : PZ b n ord σ0) {test : Int} {σc σ : Sg} {K : Kt} {i l d : Nat} {cd : List Int} (cz : CZ tk pl N ord σc) (h : CSt N σc σ i l cd) (hcd : cd.length < i) (hd : d ≤ 8) (hs : tk i ≠ 323 ∧ tk i ≠ 40) : T (vX4_comparison K (d : Int) σ) (PO tk pl st N ord σ0 σc test (fun t => t = 0) 2 4 (Cx4 test 4) TOk (fun _ => True) i l d cd) := by
  unfold vX4_comparison
  refine T_bd2 (c_sumF hc hz (test := test) (K := K) cz 12 d hd (by omega) σ i l cd h hcd) (fun r1 σ2 hr => ?_)
  rcases hr with ⟨e, j, l', cs, E, b1, b2, b3, b4, b5, b6, b7⟩ | ⟨e, k, b1, b2⟩
  · dsimp only at e b1
    obtain ⟨e6, e71, tb, i4⟩ := cs_tok cz b1
    rw [e6, Int.toNat_natCast, e71]
    have i1 := b6.1
    have hN := cz.1
    refine T_f (by omega) (T_ck (by omega) (T_nm ?_))
    have go : (tk j = 60 ∨ tk j = 61 ∨ tk j = 62) → T (vX4_comparison_43 K (d : Int) (tk j) σ2) (PO tk pl st N ord σ0 σc test (fun t => t = 0) 2 4 (Cx4 test 4) TOk (fun _ => True) i l d cd) := by
      intro q
      unfold vX4_comparison_43
      rw [e6]
      have h1 := cs_inc b1 (tk_N hc b1.2.1.1 (show tk j ≠ 256 by omega))
      refine T_ck (by omega) (T_nm ?_)
      refine T_bd2 (c_sumF hc hz (test := test) (K := K) cz 12 d hd (by omega) _ (j + 1) l' (cd ++ cs) h1 (by rw [List.length_append]; omega)) (fun r2 σ3 hr2 => ?_)
      rcases hr2 with ⟨f, j2, l2, cs2, E2, c1, c2, c3, c4, c5, c6, c7⟩ | ⟨f, k, c1, c2⟩
      · dsimp only at f c1
        have i2 := c6.1
        have jN := c1.2.1.1
        refine T_f (by omega) (T_ck (by omega) ?_)
        refine T_bind (cs_add c1 (by rw [List.length_append, List.length_append]; omega)) (fun σ5 h5 => T_some (Or.inl ⟨rfl, j2, l2, cs ++ (cs2 ++ [-tk j]), fun w => jn (-tk j) (E w) (E2 w), ?_, by omega, ?_, ?_, fun w hw => jn_cmp (by omega), ?_, trivial⟩))
        · rw [List.append_assoc, List.append_assoc] at h5; exact h5
        · rw [List.length_append, List.length_append, List.length_singleton]; omega
        · have s := SegC_2 (c := -tk j) b4 c4 b5 c5 (by omega)
          rw [show l' - l + (l2 - l') = l2 - l by omega] at s
          exact s
        · have r := r_cmp hc hz hs b6 b7 q (ROk_m c6 (Int.le_refl _) (fun _ z => z) (fun t z => Or.inl z)) c7 b5 c5
          rw [cop_c q] at r
          exact r
      · dsimp only at f c1
        exact T_t f (T_some (Or.inr ⟨rfl, k, c1, r_cmpX2 hc hz hs b6 b7 (Or.inr ⟨q, RXx_m c2 (fun _ z => z) (fun t z => Or.inl z)⟩)⟩))
    refine T_ite (fun q => go (by omega)) (fun q1 => T_ite (fun q => go (by omega)) (fun q2 => T_ite (fun q => go (by omega)) (fun q3 => ?_)))
    obtain ⟨σ5, e5, x5⟩ := cs_fails (K := K) cz b1
    rw [e5, bd2_some]
    exact T_ck (by omega) (T_some (Or.inr ⟨rfl, j, x5, r_cmpX2 hc hz hs b6 b7 (Or.inl ⟨by omega, rfl⟩)⟩))
  · dsimp only at e b1
    exact T_t e (T_some (Or.inr ⟨rfl, k, b1, r_cmpX1 hs b2⟩))
def finB (t : Int) : Prop := t ≠ 321 ∧ t ≠ 322
theorem c_brk {b : Nat → Int} {n N : Nat} {tk : Nat → Int} {pl st : Nat → Nat} {ord : Int} {σ0 : Sg} (hc : PC b n tk pl st N) (hz : PZ b n ord σ0) {test : Int} {σc σ : Sg} {K : Kt} {recT : Int → Sg → Option (Int × Sg)} {i l d : Nat} {cd : List Int} (cz : CZ tk pl N ord σc) (hrec : d < 8 → ∀ σ i l cd, CSt N σc σ i l cd → cd.length < i → T (recT ((d : Int) + 1) σ) (PO tk pl st N ord σ0 σc test (fun t => t = 0) 2 1 (Cx4 test 1) TOk finB i l (d + 1) cd)) (h : CSt N σc σ i l cd) (hcd : cd.length < i) (hd : d ≤ 8) (t40 : tk i = 40) : T (vX4_bracketed K recT (d : Int) σ) (PO tk pl st N ord σ0 σc test (fun t => t = 0) 2 7 (fun _ => True) TOk (fun _ => True) i l d cd) := by
  obtain ⟨e6, e71, tb, i4⟩ := cs_tok cz h
  unfold vX4_bracketed
  refine T_ite (fun q => ?_) (fun q => ?_)
  · rw [e6]
    have h1 := cs_inc h (tk_N hc h.2.1.1 (by omega))
    refine T_ck (by omega) (T_nm (T_ck (by omega) ?_))
    refine T_bd2 (hrec (by omega) _ (i + 1) l cd h1 (by omega)) (fun r3 σ4 hr => ?_)
    rcases hr with ⟨a, j, l', cs, E, b1, b2, b3, b4, b5, b6, b7⟩ | ⟨a, k, b1, b2⟩
    · dsimp only at a b1
      subst a
      obtain ⟨f6, f71, fb, f4⟩ := cs_tok cz b1
      obtain ⟨ro1, ro2⟩ := r_par hc hz t40 (by omega) b6 b7
      rw [f6, Int.toNat_natCast, f71]
      refine T_f (by omega) (T_ck (by omega) (T_ite (fun t93 => ?_) (fun t93 => ?_)))
      · have h5 := cs_inc b1 (tk_N hc b1.2.1.1 (by omega))
        refine T_ck (by omega) (T_nm (T_some (Or.inl ⟨rfl, j + 1, l', cs, E, h5, b2, by omega, b4, b5, ro1 t93, trivial⟩)))
      · obtain ⟨σ5, e5, x5⟩ := cs_fails (K := K) cz b1
        rw [e5, bd2_some]
        exact T_ck (by omega) (T_some (Or.inr ⟨rfl, j, x5, ro2 t93⟩))
    · dsimp only at a b1
      subst a
      exact T_t rfl (T_some (Or.inr ⟨rfl, k, b1, r_parX hc hz t40 (Or.inr ⟨by omega, b2⟩)⟩))
  · obtain ⟨σ5, e5, x5⟩ := cs_fails (K := K) cz h
    rw [e5, bd2_some]
    exact T_ck (by omega) (T_some (Or.inr ⟨rfl, i, x5, r_parX hc hz t40 (Or.inl ⟨by omega, rfl⟩)⟩))
