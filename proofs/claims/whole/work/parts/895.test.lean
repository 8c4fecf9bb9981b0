/-! ===== both read tests ===== -/
theorem jn_t {c a b : Int} (hc : c = -3 ∨ c = -2) (ha : tOk a) (hb : tOk b) : tOk (jn c a b) := by
  rcases hc with e | e
  · rw [e, jn_and]; split <;> assumption
  · rw [e, jn_or]; split <;> assumption
theorem c_jstep {b : Nat → Int} {n N : Nat} {tk : Nat → Int} {pl st : Nat → Nat} {ord : Int} {σ0 : Sg} (hc : PC b n tk pl st N) (hz : PZ b n ord σ0) {test lv2 cj : Int} {σc σ σ4 : Sg} {K : Kt} {i l d j l' : Nat} {cd cs : List Int} {E : (Nat → Int) → Int} {Cx2 : Pl → Prop} {fin fin' : Int → Prop} {r3 : Int} (cz : CZ tk pl N ord σc) (hcd : cd.length < i) (ht : tk j = 321 ∨ tk j = 322) (hcj : cj = if jop (tk j) = 29 then -3 else -2) (ha : Acc tk pl st N ord σ0 σc test (fun t => t = 0) 2 (jlv (tk j)) (Cx4 test (jlv (tk j))) TOk i l d cd j l' cs E σ) (h2 : PO tk pl st N ord σ0 σc test (fun t => t = 0) 2 lv2 Cx2 TOk fin (j + 1) l' d (cd ++ cs) (r3, σ4)) (hlv : jlv (tk j) ≤ lv2) (hcx : ∀ π m, Cx4 test (jlv (tk j)) π → Cx2 ((jop (tk j), m) :: π)) :
    (r3 = 0 ∧ PO tk pl st N ord σ0 σc test (fun t => t = 0) 2 (jlv (tk j)) (Cx4 test (jlv (tk j))) TOk fin' i l d cd (0, σ4)) ∨ (r3 = 1 ∧ ∃ (j2 l2 : Nat) (cs2 : List Int) (E2 : (Nat → Int) → Int), j + 1 < j2 ∧ fin (tk j2) ∧ T (vX7_add K cj σ4) (fun σ6 => Acc tk pl st N ord σ0 σc test (fun t => t = 0) 2 (jlv (tk j)) (Cx4 test (jlv (tk j))) TOk i l d cd j2 l2 (cs ++ (cs2 ++ [cj])) (fun w => jn cj (E w) (E2 w)) σ6)) := by
  obtain ⟨a1, a2, a3, a4, a5, a6⟩ := ha
  have cjk : cj = -3 ∨ cj = -2 := by
    by_cases q : jop (tk j) = 29
    · rw [if_pos q] at hcj; exact Or.inl hcj
    · rw [if_neg q] at hcj; exact Or.inr hcj
  rcases h2 with ⟨e, j2, l2, cs2, E2, b1, b2, b3, b4, b5, b6, b7⟩ | ⟨e, k, b1, b2⟩
  · dsimp only at e b1
    have i2 := b6.1
    have jN := b1.2.1.1
    have hN := cz.1
    refine Or.inr ⟨e, j2, l2, cs2, E2, i2, b7, T_mono (cs_add b1 (by rw [List.length_append, List.length_append]; omega)) (fun σ6 h6 => ⟨?_, by omega, ?_, ?_, fun w hw => jn_t cjk (a5 w hw) (b5 w hw), ?_⟩)⟩
    · rw [List.append_assoc, List.append_assoc] at h6; exact h6
    · rw [List.length_append, List.length_append, List.length_singleton]; omega
    · have s := SegC_2 (c := cj) a4 b4 (TOk_e a5) (TOk_e b5) (by omega)
      rw [show l' - l + (l2 - l') = l2 - l by omega] at s
      exact s
    · have r := r_join hc hz (lv2 := lv2) (Cx2 := Cx2) ht a6 b6 hlv hcx a5 b5
      rw [← hcj] at r
      exact r
  · dsimp only at e b1
    exact Or.inl ⟨e, Or.inr ⟨rfl, k, b1, r_joinX hc hz (Cx2 := Cx2) ht a6 b2 hcx⟩⟩
def finA (t : Int) : Prop := t ≠ 322
theorem c_both_12 {b : Nat → Int} {n N : Nat} {tk : Nat → Int} {pl st : Nat → Nat} {ord : Int} {σ0 : Sg} (hc : PC b n tk pl st N) (hz : PZ b n ord σ0) {test : Int} {σc : Sg} {K : Kt} {recT : Int → Sg → Option (Int × Sg)} {i l d : Nat} {cd : List Int} (cz : CZ tk pl N ord σc) (hrec : d < 8 → ∀ σ i l cd, CSt N σc σ i l cd → cd.length < i → T (recT ((d : Int) + 1) σ) (PO tk pl st N ord σ0 σc test (fun t => t = 0) 2 1 (Cx4 test 1) TOk finB i l (d + 1) cd)) (hcd : cd.length < i) (hd : d ≤ 8) : ∀ (f : Nat) (x : Nat) (σ : Sg) (j l' : Nat) (cs : List Int) (E : (Nat → Int) → Int), N - j < f → x < j → Acc tk pl st N ord σ0 σc test (fun t => t = 0) 2 2 (Cx4 test 2) TOk i l d cd j l' cs E σ →
    T (vX4_both_12 K recT f (d : Int) (x : Int) σ) (PO tk pl st N ord σ0 σc test (fun t => t = 0) 2 2 (Cx4 test 2) TOk finA i l d cd) := by
  intro f
  induction f with
  | zero => intro x σ j l' cs E h; omega
  | succ f ih =>
    intro x σ j l' cs E hf hx ha
    obtain ⟨a1, a2, a3, a4, a5, a6⟩ := id ha
    obtain ⟨e6, e71, tb, i4⟩ := cs_tok cz a1
    rw [vX4_both_12, e6, Int.toNat_natCast, e71]
    refine T_t (by omega) (T_ck (by omega) (T_ite (fun q => ?_) (fun q => T_some (Or.inl ⟨rfl, j, l', cs, E, a1, a2, a3, a4, a5, a6, q⟩))))
    have jv : jlv (tk j) = 2 := by rw [q]; decide
    have jo : jop (tk j) = 29 := by rw [q]; decide
    have jN := tk_N hc a1.2.1.1 (show tk j ≠ 256 by omega)
    have h1 := cs_inc a1 jN
    refine T_ck (by omega) (T_nm ?_)
    refine T_bd2 (c_plain hc hz (test := test) (K := K) (recT := recT) cz hrec h1 (by rw [List.length_append]; omega) hd) (fun r3 σ4 hr => ?_)
    have st := c_jstep (K := K) (cj := -3) (fin' := finA) hc hz cz hcd (Or.inr q) (by rw [if_pos jo]) (by rw [jv]; exact ha) hr (by omega) (fun π m cx => ⟨fun e r w => by injection w with w _; rw [← w]; show bnd (jop (tk j)) < 4; rw [jo]; decide, Ct_p cx.2 (by show jop (tk j) < 31; omega)⟩)
    rw [jv] at st
    rcases st with ⟨z, w⟩ | ⟨z, j2, l2, cs2, E2, w1, w2, w3⟩
    · exact T_t z (T_some w)
    · refine T_f (by omega) ?_
      refine T_bind w3 (fun σ6 h6 => T_ck (by omega) ?_)
      rw [show (x : Int) + 1 = ((x + 1 : Nat) : Int) by omega]
      exact ih (x + 1) σ6 j2 l2 _ _ (by omega) (by omega) h6
theorem c_both {b : Nat → Int} {n N : Nat} {tk : Nat → Int} {pl st : Nat → Nat} {ord : Int} {σ0 : Sg} (hc : PC b n tk pl st N) (hz : PZ b n ord σ0) {test : Int} {σc σ : Sg} {K : Kt} {recT : Int → Sg → Option (Int × Sg)} {i l d : Nat} {cd : List Int} (cz : CZ tk pl N ord σc) (hrec : d < 8 → ∀ σ i l cd, CSt N σc σ i l cd → cd.length < i → T (recT ((d : Int) + 1) σ) (PO tk pl st N ord σ0 σc test (fun t => t = 0) 2 1 (Cx4 test 1) TOk finB i l (d + 1) cd)) (h : CSt N σc σ i l cd) (hcd : cd.length < i) (hd : d ≤ 8) : T (vX4_both K recT (d : Int) σ) (PO tk pl st N ord σ0 σc test (fun t => t = 0) 2 2 (Cx4 test 2) TOk finA i l d cd) := by
  unfold vX4_both
  refine T_bd2 (c_plain hc hz (test := test) (K := K) (recT := recT) cz hrec h hcd hd) (fun r σ2 hr => ?_)
  have hr' := PO_m (fin' := fun _ => True) hr (show (2 : Int) ≤ 3 by omega) (Cx' := Cx4 test 2) (fun _ q => ⟨hdb_m q.1 (by omega), q.2⟩) (S' := fun t => t = 0) (fun _ q => q) (Ok' := TOk) (fun _ q => q) (fun _ q => q)
  rcases hr' with ⟨e, j, l', cs, E, b1, b2, b3, b4, b5, b6, b7⟩ | ⟨e, k, b1, b2⟩
  · dsimp only at e b1
    have := b6.1
    exact T_f (by omega) (c_both_12 hc hz cz hrec hcd hd FU 0 σ2 j l' cs E (by have := FU_b; have := cz.1; omega) (by omega) ⟨b1, b2, b3, b4, b5, b6⟩)
  · dsimp only at e b1
    exact T_t e (T_some (Or.inr ⟨rfl, k, b1, b2⟩))
theorem c_test_12 {b : Nat → Int} {n N : Nat} {tk : Nat → Int} {pl st : Nat → Nat} {ord : Int} {σ0 : Sg} (hc : PC b n tk pl st N) (hz : PZ b n ord σ0) {test : Int} {σc : Sg} {K : Kt} {recT : Int → Sg → Option (Int × Sg)} {i l d : Nat} {cd : List Int} (cz : CZ tk pl N ord σc) (hrec : d < 8 → ∀ σ i l cd, CSt N σc σ i l cd → cd.length < i → T (recT ((d : Int) + 1) σ) (PO tk pl st N ord σ0 σc test (fun t => t = 0) 2 1 (Cx4 test 1) TOk finB i l (d + 1) cd)) (hcd : cd.length < i) (hd : d ≤ 8) : ∀ (f : Nat) (x : Nat) (σ : Sg) (j l' : Nat) (cs : List Int) (E : (Nat → Int) → Int), N - j < f → x < j → finA (tk j) → Acc tk pl st N ord σ0 σc test (fun t => t = 0) 2 1 (Cx4 test 1) TOk i l d cd j l' cs E σ →
    T (vX4_test_12 K recT f (d : Int) (x : Int) σ) (PO tk pl st N ord σ0 σc test (fun t => t = 0) 2 1 (Cx4 test 1) TOk finB i l d cd) := by
  intro f
  induction f with
  | zero => intro x σ j l' cs E h; omega
  | succ f ih =>
    intro x σ j l' cs E hf hx hfa ha
    obtain ⟨a1, a2, a3, a4, a5, a6⟩ := id ha
    obtain ⟨e6, e71, tb, i4⟩ := cs_tok cz a1
    rw [vX4_test_12, e6, Int.toNat_natCast, e71]
    refine T_t (by omega) (T_ck (by omega) (T_ite (fun q => ?_) (fun q => T_some (Or.inl ⟨rfl, j, l', cs, E, a1, a2, a3, a4, a5, a6, q, hfa⟩))))
    have jv : jlv (tk j) = 1 := by rw [q]; decide
    have jo : jop (tk j) = 30 := by rw [q]; decide
    have jN := tk_N hc a1.2.1.1 (show tk j ≠ 256 by omega)
    have h1 := cs_inc a1 jN
    refine T_ck (by omega) (T_nm ?_)
    refine T_bd2 (c_both hc hz (test := test) (K := K) (recT := recT) cz hrec h1 (by rw [List.length_append]; omega) hd) (fun r3 σ4 hr => ?_)
    have st := c_jstep (K := K) (cj := -2) (fin' := finB) hc hz cz hcd (Or.inl q) (by rw [if_neg (by omega)]) (by rw [jv]; exact ha) hr (by omega) (fun π m cx => ⟨fun e r w => by injection w with w _; rw [← w]; show bnd (jop (tk j)) < 2; rw [jo]; decide, Ct_p cx.2 (by show jop (tk j) < 31; omega)⟩)
    rw [jv] at st
    rcases st with ⟨z, w⟩ | ⟨z, j2, l2, cs2, E2, w1, w2, w3⟩
    · exact T_t z (T_some w)
    · refine T_f (by omega) ?_
      refine T_bind w3 (fun σ6 h6 => T_ck (by omega) ?_)
      rw [show (x : Int) + 1 = ((x + 1 : Nat) : Int) by omega]
      exact ih (x + 1) σ6 j2 l2 _ _ (by omega) (by omega) w2 h6
theorem c_test {b : Nat → Int} {n N : Nat} {tk : Nat → Int} {pl st : Nat → Nat} {ord : Int} {σ0 : Sg} (hc : PC b n tk pl st N) (hz : PZ b n ord σ0) {test : Int} {σc σ : Sg} {K : Kt} {recT : Int → Sg → Option (Int × Sg)} {i l d : Nat} {cd : List Int} (cz : CZ tk pl N ord σc) (hrec : d < 8 → ∀ σ i l cd, CSt N σc σ i l cd → cd.length < i → T (recT ((d : Int) + 1) σ) (PO tk pl st N ord σ0 σc test (fun t => t = 0) 2 1 (Cx4 test 1) TOk finB i l (d + 1) cd)) (h : CSt N σc σ i l cd) (hcd : cd.length < i) (hd : d ≤ 8) : T (vX4_test K recT (d : Int) σ) (PO tk pl st N ord σ0 σc test (fun t => t = 0) 2 1 (Cx4 test 1) TOk finB i l d cd) := by
  unfold vX4_test
  refine T_bd2 (c_both hc hz (test := test) (K := K) (recT := recT) cz hrec h hcd hd) (fun r σ2 hr => ?_)
  have hr' := PO_m (fin' := finA) hr (show (1 : Int) ≤ 2 by omega) (Cx' := Cx4 test 1) (fun _ q => ⟨hdb_m q.1 (by omega), q.2⟩) (S' := fun t => t = 0) (fun _ q => q) (Ok' := TOk) (fun _ q => q) (fun _ q => q)
  rcases hr' with ⟨e, j, l', cs, E, b1, b2, b3, b4, b5, b6, b7⟩ | ⟨e, k, b1, b2⟩
  · dsimp only at e b1
    have := b6.1
    exact T_f (by omega) (c_test_12 hc hz cz hrec hcd hd FU 0 σ2 j l' cs E (by have := FU_b; have := cz.1; omega) (by omega) b7 ⟨b1, b2, b3, b4, b5, b6⟩)
  · dsimp only at e b1
    exact T_t e (T_some (Or.inr ⟨rfl, k, b1, b2⟩))
theorem c_testF {b : Nat → Int} {n N : Nat} {tk : Nat → Int} {pl st : Nat → Nat} {ord : Int} {σ0 : Sg} (hc : PC b n tk pl st N) (hz : PZ b n ord σ0) {test : Int} {σc : Sg} {K : Kt} (cz : CZ tk pl N ord σc) : ∀ (f d : Nat), d ≤ 8 → 9 ≤ f + d → ∀ (σ : Sg) (i l : Nat) (cd : List Int), CSt N σc σ i l cd → cd.length < i → T (vX4_testF K f (d : Int) σ) (PO tk pl st N ord σ0 σc test (fun t => t = 0) 2 1 (Cx4 test 1) TOk finB i l d cd) := by
  intro f
  induction f with
  | zero => intro d hd hf; omega
  | succ f ih =>
    intro d hd hf σ i l cd h hcd
    rw [vX4_testF]
    refine c_test hc hz cz (fun d8 σ i l cd h hcd => ?_) h hcd hd
    rw [show (d : Int) + 1 = ((d + 1 : Nat) : Int) by omega]
    exact ih (d + 1) (by omega) (by omega) σ i l cd h hcd
