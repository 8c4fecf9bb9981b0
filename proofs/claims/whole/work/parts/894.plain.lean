/-! ===== both read what stands between and, or ===== -/
theorem SegC_e {nW : Nat} {cs : List Int} {l : Nat} {E E' : (Nat → Int) → Int} (h : SegC nW cs l E) (e : ∀ w, wOk w → E' w = E w) : SegC nW cs l E' := ⟨h.1, fun w hw st hs hl => by rw [e w hw]; exact h.2 w hw st hs hl⟩
def odd (x : Nat) : Nat := x % 2
def ntx (x : Nat) (E : (Nat → Int) → Int) : (Nat → Int) → Int := fun w => if x % 2 = 1 then nt (E w) else E w
/-- with x times not ahead -/
def PN (tk : Nat → Int) (pl st : Nat → Nat) (N : Nat) (ord : Int) (σ0 σc : Sg) (test : Int) (x i l d : Nat) (cd : List Int) (p : Int × Sg) : Prop :=
  (p.1 = 1 ∧ ∃ (j l' : Nat) (cs : List Int) (E : (Nat → Int) → Int), CSt N σc p.2 j l' (cd ++ cs) ∧ (l < l' ∧ l' ≤ 50) ∧ cs.length + i ≤ j + x % 2 ∧ SegC (nwd ord) cs (l' - l) (ntx x E) ∧ TOk E ∧ ROk tk pl st N ord σ0 test (fun t => t = 0) 2 3 (Cx4 test 4) i l d j l' E) ∨ (p.1 = 0 ∧ ∃ k, CX pl σc p.2 k ∧ RXx tk pl st N σ0 test (fun t => t = 0) (Cx4 test 4) i l d k)
theorem c_plain_72 {b : Nat → Int} {n N : Nat} {tk : Nat → Int} {pl st : Nat → Nat} {ord : Int} {σ0 : Sg} (hc : PC b n tk pl st N) (hz : PZ b n ord σ0) {test : Int} {σc σ : Sg} {K : Kt} {recT : Int → Sg → Option (Int × Sg)} {x i l d : Nat} {cd : List Int} {y : Int} (cz : CZ tk pl N ord σc) (hx : x ≤ 400) (hcd : cd.length + x < i) (h : PO tk pl st N ord σ0 σc test (fun t => t = 0) 2 3 (Cx4 test 4) TOk (fun _ => True) i l d cd (y, σ)) : T (vX4_plain_72 K recT (x : Int) y σ) (PN tk pl st N ord σ0 σc test x i l d cd) := by
  unfold vX4_plain_72
  rcases h with ⟨e, j, l', cs, E, b1, b2, b3, b4, b5, b6, b7⟩ | ⟨e, k, b1, b2⟩
  · dsimp only at e b1
    have tm : Int.tmod (x : Int) 2 = ((x % 2 : Nat) : Int) := by
      have : Int.tmod (x : Int) 2 = (x : Int) % 2 := Int.tmod_eq_emod_of_nonneg (by omega)
      rw [this]
      omega
    rw [tm]
    refine T_f (by omega) (T_ck ⟨by omega, by omega⟩ (T_ite (fun q => ?_) (fun q => ?_)))
    · refine T_ck (by omega) (T_some (Or.inl ⟨e, j, l', cs, E, b1, b2, by omega, ?_, b5, b6⟩))
      refine SegC_e b4 (fun w _ => ?_)
      unfold ntx
      rw [if_neg (by omega)]
    · have jN := b1.2.1.1
      have hN := cz.1
      have i1 := b6.1
      refine T_bind (cs_add b1 (by rw [List.length_append]; omega)) (fun σ3 h3 => T_ck (by omega) (T_some (Or.inl ⟨e, j, l', cs ++ [-4], E, ?_, b2, ?_, ?_, b5, b6⟩)))
      · rw [List.append_assoc] at h3; exact h3
      · rw [List.length_append, List.length_singleton]; omega
      · refine SegC_e (SegC_n b4 b5) (fun w _ => ?_)
        unfold ntx
        rw [if_pos (by omega)]
  · dsimp only at e b1
    exact T_t e (T_ck (by omega) (T_some (Or.inr ⟨e, k, b1, b2⟩)))
theorem c_plain_4 {b : Nat → Int} {n N : Nat} {tk : Nat → Int} {pl st : Nat → Nat} {ord : Int} {σ0 : Sg} (hc : PC b n tk pl st N) (hz : PZ b n ord σ0) {test : Int} {σc : Sg} {K : Kt} {recT : Int → Sg → Option (Int × Sg)} {l d : Nat} {cd : List Int} (cz : CZ tk pl N ord σc) (hrec : d < 8 → ∀ σ i l cd, CSt N σc σ i l cd → cd.length < i → T (recT ((d : Int) + 1) σ) (PO tk pl st N ord σ0 σc test (fun t => t = 0) 2 1 (Cx4 test 1) TOk finB i l (d + 1) cd)) (hd : d ≤ 8) : ∀ (f x i : Nat) (σ : Sg), N - i < f → CSt N σc σ i l cd → cd.length + x < i → T (vX4_plain_4 K recT f (d : Int) (x : Int) (x : Int) σ) (PN tk pl st N ord σ0 σc test x i l d cd) := by
  intro f
  induction f with
  | zero => intro x i σ h; omega
  | succ f ih =>
    intro x i σ hf h hcd
    obtain ⟨e6, e71, tb, i4⟩ := cs_tok cz h
    have base : tk i ≠ 323 → T (vX4_plain_45 K recT (d : Int) (x : Int) σ) (PN tk pl st N ord σ0 σc test x i l d cd) := by
      intro n323
      unfold vX4_plain_45
      rw [e6, Int.toNat_natCast, e71]
      refine T_ck (by omega) (T_ite (fun q => ?_) (fun q => ?_))
      · refine T_bd2 (c_brk hc hz (K := K) cz hrec h (by omega) hd q) (fun r σ3 hr => c_plain_72 hc hz cz (by omega) hcd (PO_m hr (by omega) (fun _ _ => trivial) (fun _ z => z) (fun _ z => z) (fun _ z => z)))
      · refine T_bd2 (c_cmp hc hz (test := test) (K := K) cz h (by omega) hd ⟨n323, q⟩) (fun r σ3 hr => c_plain_72 hc hz cz (by omega) hcd (PO_m hr (by omega) (fun _ z => z) (fun _ z => z) (fun _ z => z) (fun _ z => z)))
    rw [vX4_plain_4, e6, Int.toNat_natCast, e71]
    refine T_t (by omega) (T_ck (by omega) (T_ite (fun q => ?_) (fun q => base q)))
    have h1 := cs_inc h (tk_N hc h.2.1.1 (by omega))
    refine T_ck (by omega) (T_nm (T_ck (by omega) (T_ck (by omega) ?_)))
    rw [show (x : Int) + 1 = ((x + 1 : Nat) : Int) by omega]
    refine T_mono (ih (x + 1) (i + 1) _ (by have := tk_N hc h.2.1.1 (show tk i ≠ 256 by omega); omega) h1 (by omega)) (fun p hp => ?_)
    rcases hp with ⟨e, j, l', cs, E, b1, b2, b3, b4, b5, b6⟩ | ⟨e, k, b1, b2⟩
    · refine Or.inl ⟨e, j, l', cs, fun w => nt (E w), b1, b2, by omega, ?_, fun w hw => nt_ok (b5 w hw), r_not hc hz q b6 b5⟩
      refine SegC_e b4 (fun w hw => ?_)
      unfold ntx
      by_cases o : x % 2 = 1
      · rw [if_pos o, if_neg (by omega), nt_nt (b5 w hw)]
      · rw [if_neg o, if_pos (by omega)]
    · exact Or.inr ⟨e, k, b1, r_notX hc hz q b2⟩
theorem c_plain {b : Nat → Int} {n N : Nat} {tk : Nat → Int} {pl st : Nat → Nat} {ord : Int} {σ0 : Sg} (hc : PC b n tk pl st N) (hz : PZ b n ord σ0) {test : Int} {σc σ : Sg} {K : Kt} {recT : Int → Sg → Option (Int × Sg)} {i l d : Nat} {cd : List Int} (cz : CZ tk pl N ord σc) (hrec : d < 8 → ∀ σ i l cd, CSt N σc σ i l cd → cd.length < i → T (recT ((d : Int) + 1) σ) (PO tk pl st N ord σ0 σc test (fun t => t = 0) 2 1 (Cx4 test 1) TOk finB i l (d + 1) cd)) (h : CSt N σc σ i l cd) (hcd : cd.length < i) (hd : d ≤ 8) : T (vX4_plain K recT (d : Int) σ) (PO tk pl st N ord σ0 σc test (fun t => t = 0) 2 3 (Cx4 test 4) TOk (fun _ => True) i l d cd) := by
  unfold vX4_plain
  refine T_mono (c_plain_4 hc hz (K := K) cz hrec hd FU 0 i σ (by have := FU_b; have := cz.1; omega) h (by omega)) (fun p hp => ?_)
  rcases hp with ⟨e, j, l', cs, E, b1, b2, b3, b4, b5, b6⟩ | ⟨e, k, b1, b2⟩
  · exact Or.inl ⟨e, j, l', cs, E, b1, b2, by omega, SegC_e b4 (fun w _ => by unfold ntx; rw [if_neg (by omega)]), b5, b6, trivial⟩
  · exact Or.inr ⟨e, k, b1, b2⟩
