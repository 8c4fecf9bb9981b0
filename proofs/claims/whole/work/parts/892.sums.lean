/-! ===== both read terms and sums ===== -/
theorem aop_c {t : Int} (h : 20 ≤ aop t) : cOf (aop t) = -t ∧ (-t = -37 ∨ -t = -42 ∨ -t = -43 ∨ -t = -45 ∨ -t = -47) := by
  have k := aop_k (t := t)
  rcases k with k | k | k | k | k | k
  · omega
  · rw [k.1, k.2]; exact ⟨by decide, by decide⟩
  · rw [k.1, k.2]; exact ⟨by decide, by decide⟩
  · rw [k.1, k.2]; exact ⟨by decide, by decide⟩
  · rw [k.1, k.2]; exact ⟨by decide, by decide⟩
  · rw [k.1, k.2]; exact ⟨by decide, by decide⟩
def Acc (tk : Nat → Int) (pl st : Nat → Nat) (N : Nat) (ord : Int) (σ0 σc : Sg) (test : Int) (S : Int → Prop) (tE v : Int) (Cx : Pl → Prop) (Ok : ((Nat → Int) → Int) → Prop) (i l d : Nat) (cd : List Int) (j l' : Nat) (cs : List Int) (E : (Nat → Int) → Int) (σ : Sg) : Prop := CSt N σc σ j l' (cd ++ cs) ∧ (l < l' ∧ l' ≤ 50) ∧ cs.length + i ≤ j ∧ SegC (nwd ord) cs (l' - l) E ∧ Ok E ∧ ROk tk pl st N ord σ0 test S tE v Cx i l d j l' E
theorem c_ext {b : Nat → Int} {n N : Nat} {tk : Nat → Int} {pl st : Nat → Nat} {ord : Int} {σ0 : Sg} (hc : PC b n tk pl st N) (hz : PZ b n ord σ0) {test v lv2 : Int} {σc σ σ4 : Sg} {K : Kt} {i l d j l' : Nat} {cd cs : List Int} {E : (Nat → Int) → Int} {Cx2 : Pl → Prop} {fin fin' : Int → Prop} {r3 : Int} (cz : CZ tk pl N ord σc) (hcd : cd.length < i) (ha : Acc tk pl st N ord σ0 σc test (S1 tk i) 3 v (hdb v) EOk i l d cd j l' cs E σ) (hop : 20 ≤ aop (tk j)) (hv : bnd (aop (tk j)) = v) (h2 : PO tk pl st N ord σ0 σc test (S1 tk (j + 1)) 3 lv2 Cx2 EOk fin (j + 1) l' d (cd ++ cs) (r3, σ4)) (hlv : v ≤ lv2) (hcx : ∀ π, hdb v π → Cx2 ((aop (tk j), 0) :: π)) :
    (r3 = 0 ∧ PO tk pl st N ord σ0 σc test (S1 tk i) 3 v (hdb v) EOk fin' i l d cd (0, σ4)) ∨ (r3 = 1 ∧ ∃ (j2 l2 : Nat) (cs2 : List Int) (E2 : (Nat → Int) → Int), j + 1 < j2 ∧ fin (tk j2) ∧ T (vX7_add K (-tk j) σ4) (fun σ6 => Acc tk pl st N ord σ0 σc test (S1 tk i) 3 v (hdb v) EOk i l d cd j2 l2 (cs ++ (cs2 ++ [-tk j])) (fun w => jn (-tk j) (E w) (E2 w)) σ6)) := by
  obtain ⟨a1, a2, a3, a4, a5, a6⟩ := ha
  have ac := aop_c hop
  rcases h2 with ⟨e, j2, l2, cs2, E2, b1, b2, b3, b4, b5, b6, b7⟩ | ⟨e, k, b1, b2⟩
  · dsimp only at e b1
    have i2 := b6.1
    have jN := b1.2.1.1
    have hN := cz.1
    refine Or.inr ⟨e, j2, l2, cs2, E2, i2, b7, T_mono (cs_add b1 (by rw [List.length_append, List.length_append]; omega)) (fun σ6 h6 => ⟨?_, by omega, ?_, ?_, fun w hw => jn_ok (a5 w hw) (b5 w hw), ?_⟩)⟩
    · rw [List.append_assoc, List.append_assoc] at h6; exact h6
    · rw [List.length_append, List.length_append, List.length_singleton]; omega
    · have s := SegC_2 (c := -tk j) a4 b4 a5 b5 (by omega)
      rw [show l' - l + (l2 - l') = l2 - l by omega] at s
      exact s
    · have r := r_ext hc hz (v := v) (lv2 := lv2) (Cx2 := Cx2) a6 rfl hop hv (ROk_m b6 (Int.le_refl _) (fun _ q => q) (fun t q => Or.inl q)) hlv hcx a5 b5
      rw [ac.1] at r
      exact r
  · dsimp only at e b1
    exact Or.inl ⟨e, Or.inr ⟨rfl, k, b1, r_extX hc hz (v := v) (Cx2 := Cx2) a6 rfl hop hv (RXx_m b2 (fun _ q => q) (fun t q => Or.inl q)) hcx⟩⟩
def finT (t : Int) : Prop := t ≠ 42 ∧ t ≠ 47 ∧ t ≠ 37
theorem c_term_12 {b : Nat → Int} {n N : Nat} {tk : Nat → Int} {pl st : Nat → Nat} {ord : Int} {σ0 : Sg} (hc : PC b n tk pl st N) (hz : PZ b n ord σ0) {test : Int} {σc : Sg} {K : Kt} {recS : Int → Sg → Option (Int × Sg)} {i l d : Nat} {cd : List Int} (cz : CZ tk pl N ord σc) (hrec : d < 8 → ∀ σ i l cd, CSt N σc σ i l cd → cd.length < i → T (recS ((d : Int) + 1) σ) (PO tk pl st N ord σ0 σc test (fun t => t = 1) 3 5 (hdb 5) EOk (fun t => aop t = -1) i l (d + 1) cd)) (hcd : cd.length < i) (hd : d ≤ 8) : ∀ (f : Nat) (x : Nat) (σ : Sg) (j l' : Nat) (cs : List Int) (E : (Nat → Int) → Int), N - j < f → x < j → Acc tk pl st N ord σ0 σc test (S1 tk i) 3 6 (hdb 6) EOk i l d cd j l' cs E σ →
    T (vX4_term_12 K recS f (d : Int) (x : Int) σ) (PO tk pl st N ord σ0 σc test (S1 tk i) 3 6 (hdb 6) EOk finT i l d cd) := by
  intro f
  induction f with
  | zero => intro x σ j l' cs E h; omega
  | succ f ih =>
    intro x σ j l' cs E hf hx ha
    obtain ⟨a1, a2, a3, a4, a5, a6⟩ := id ha
    obtain ⟨e6, e71, tb, i4⟩ := cs_tok cz a1
    have ak := aop_k (t := tk j)
    rw [vX4_term_12, e6, Int.toNat_natCast, e71]
    have don : finT (tk j) → T (some ((1 : Int), σ)) (PO tk pl st N ord σ0 σc test (S1 tk i) 3 6 (hdb 6) EOk finT i l d cd) := fun q => T_some (Or.inl ⟨rfl, j, l', cs, E, a1, a2, a3, a4, a5, a6, q⟩)
    have go : (tk j = 42 ∨ tk j = 47 ∨ tk j = 37) → T (vX4_term_61 K recS (vX4_term_12 K recS f) (d : Int) (x : Int) σ) (PO tk pl st N ord σ0 σc test (S1 tk i) 3 6 (hdb 6) EOk finT i l d cd) := by
      intro q
      have bv : bnd (aop (tk j)) = 6 := by
        rcases q with q | q | q <;> (rw [q]; decide)
      unfold vX4_term_61
      rw [e6, Int.toNat_natCast, e71]
      have jN := tk_N hc a1.2.1.1 (show tk j ≠ 256 by omega)
      have h1 := cs_inc a1 jN
      refine T_ck (by omega) (T_nm (T_ck (by omega) (T_nm ?_)))
      refine T_bd2 (c_part hc hz (test := test) (K := K) (recS := recS) cz hrec h1 (by rw [List.length_append]; omega) hd) (fun r3 σ4 hr => ?_)
      rcases c_ext (K := K) (fin' := finT) hc hz cz hcd ha (by omega) bv hr (by omega) (fun _ _ => trivial) with ⟨z, w⟩ | ⟨z, j2, l2, cs2, E2, w1, w2, w3⟩
      · exact T_t z (T_some w)
      · refine T_f (by omega) (T_ck (by omega) ?_)
        refine T_bind w3 (fun σ6 h6 => T_ck (by omega) ?_)
        rw [show (x : Int) + 1 = ((x + 1 : Nat) : Int) by omega]
        exact ih (x + 1) σ6 j2 l2 _ _ (by omega) (by omega) h6
    refine T_t (by omega) (T_ck (by omega) (T_ite (fun q => go (by omega)) (fun q1 => T_ck (by omega) (T_ite (fun q => go (by omega)) (fun q2 => T_ck (by omega) (T_ite (fun q => go (by omega)) (fun q3 => don ⟨q1, q2, q3⟩)))))))
theorem c_term {b : Nat → Int} {n N : Nat} {tk : Nat → Int} {pl st : Nat → Nat} {ord : Int} {σ0 : Sg} (hc : PC b n tk pl st N) (hz : PZ b n ord σ0) {test : Int} {σc σ : Sg} {K : Kt} {recS : Int → Sg → Option (Int × Sg)} {i l d : Nat} {cd : List Int} (cz : CZ tk pl N ord σc) (hrec : d < 8 → ∀ σ i l cd, CSt N σc σ i l cd → cd.length < i → T (recS ((d : Int) + 1) σ) (PO tk pl st N ord σ0 σc test (fun t => t = 1) 3 5 (hdb 5) EOk (fun t => aop t = -1) i l (d + 1) cd)) (h : CSt N σc σ i l cd) (hcd : cd.length < i) (hd : d ≤ 8) : T (vX4_term K recS (d : Int) σ) (PO tk pl st N ord σ0 σc test (S1 tk i) 3 6 (hdb 6) EOk finT i l d cd) := by
  unfold vX4_term
  refine T_bd2 (c_part hc hz (test := test) (K := K) (recS := recS) cz hrec h hcd hd) (fun r σ2 hr => ?_)
  have hr' := PO_m (fin' := fun _ => True) hr (show (6 : Int) ≤ 7 by omega) (Cx' := hdb 6) (fun _ _ => trivial) (S' := S1 tk i) (fun _ q => q) (Ok' := EOk) (fun _ q => q) (fun _ q => q)
  rcases hr' with ⟨e, j, l', cs, E, b1, b2, b3, b4, b5, b6, b7⟩ | ⟨e, k, b1, b2⟩
  · dsimp only at e b1
    have := b6.1
    exact T_f (by omega) (c_term_12 hc hz cz hrec hcd hd FU 0 σ2 j l' cs E (by have := FU_b; have := cz.1; omega) (by omega) ⟨b1, b2, b3, b4, b5, b6⟩)
  · dsimp only at e b1
    exact T_t e (T_some (Or.inr ⟨rfl, k, b1, b2⟩))
theorem c_sum_12 {b : Nat → Int} {n N : Nat} {tk : Nat → Int} {pl st : Nat → Nat} {ord : Int} {σ0 : Sg} (hc : PC b n tk pl st N) (hz : PZ b n ord σ0) {test : Int} {σc : Sg} {K : Kt} {recS : Int → Sg → Option (Int × Sg)} {i l d : Nat} {cd : List Int} (cz : CZ tk pl N ord σc) (hrec : d < 8 → ∀ σ i l cd, CSt N σc σ i l cd → cd.length < i → T (recS ((d : Int) + 1) σ) (PO tk pl st N ord σ0 σc test (fun t => t = 1) 3 5 (hdb 5) EOk (fun t => aop t = -1) i l (d + 1) cd)) (hcd : cd.length < i) (hd : d ≤ 8) : ∀ (f : Nat) (x : Nat) (σ : Sg) (j l' : Nat) (cs : List Int) (E : (Nat → Int) → Int), N - j < f → x < j → finT (tk j) → Acc tk pl st N ord σ0 σc test (S1 tk i) 3 5 (hdb 5) EOk i l d cd j l' cs E σ →
    T (vX4_sum_12 K recS f (d : Int) (x : Int) σ) (PO tk pl st N ord σ0 σc test (S1 tk i) 3 5 (hdb 5) EOk (fun t => aop t = -1) i l d cd) := by
  intro f
  induction f with
  | zero => intro x σ j l' cs E h; omega
  | succ f ih =>
    intro x σ j l' cs E hf hx hft ha
    obtain ⟨a1, a2, a3, a4, a5, a6⟩ := id ha
    obtain ⟨e6, e71, tb, i4⟩ := cs_tok cz a1
    have ak := aop_k (t := tk j)
    unfold finT at hft
    rw [vX4_sum_12, e6, Int.toNat_natCast, e71]
    have don : tk j ≠ 43 → tk j ≠ 45 → T (some ((1 : Int), σ)) (PO tk pl st N ord σ0 σc test (S1 tk i) 3 5 (hdb 5) EOk (fun t => aop t = -1) i l d cd) := fun q1 q2 => T_some (Or.inl ⟨rfl, j, l', cs, E, a1, a2, a3, a4, a5, a6, by omega⟩)
    have go : (tk j = 43 ∨ tk j = 45) → T (vX4_sum_47 K recS (vX4_sum_12 K recS f) (d : Int) (x : Int) σ) (PO tk pl st N ord σ0 σc test (S1 tk i) 3 5 (hdb 5) EOk (fun t => aop t = -1) i l d cd) := by
      intro q
      have bv : bnd (aop (tk j)) = 5 := by
        rcases q with q | q <;> (rw [q]; decide)
      unfold vX4_sum_47
      rw [e6, Int.toNat_natCast, e71]
      have jN := tk_N hc a1.2.1.1 (show tk j ≠ 256 by omega)
      have h1 := cs_inc a1 jN
      refine T_ck (by omega) (T_nm (T_ck (by omega) (T_nm ?_)))
      refine T_bd2 (c_term hc hz (test := test) (K := K) (recS := recS) cz hrec h1 (by rw [List.length_append]; omega) hd) (fun r3 σ4 hr => ?_)
      rcases c_ext (K := K) (fin' := fun t => aop t = -1) hc hz cz hcd ha (by omega) bv hr (by omega) (fun π _ e r w => by injection w with w _; rw [← w]; show bnd (aop (tk j)) < 6; omega) with ⟨z, w⟩ | ⟨z, j2, l2, cs2, E2, w1, w2, w3⟩
      · exact T_t z (T_some w)
      · refine T_f (by omega) (T_ck (by omega) ?_)
        refine T_bind w3 (fun σ6 h6 => T_ck (by omega) ?_)
        rw [show (x : Int) + 1 = ((x + 1 : Nat) : Int) by omega]
        exact ih (x + 1) σ6 j2 l2 _ _ (by omega) (by omega) w2 h6
    refine T_t (by omega) (T_ck (by omega) (T_ite (fun q => go (by omega)) (fun q1 => T_ck (by omega) (T_ite (fun q => go (by omega)) (fun q2 => don q1 q2)))))
theorem c_sum {b : Nat → Int} {n N : Nat} {tk : Nat → Int} {pl st : Nat → Nat} {ord : Int} {σ0 : Sg} (hc : PC b n tk pl st N) (hz : PZ b n ord σ0) {test : Int} {σc σ : Sg} {K : Kt} {recS : Int → Sg → Option (Int × Sg)} {i l d : Nat} {cd : List Int} (cz : CZ tk pl N ord σc) (hrec : d < 8 → ∀ σ i l cd, CSt N σc σ i l cd → cd.length < i → T (recS ((d : Int) + 1) σ) (PO tk pl st N ord σ0 σc test (fun t => t = 1) 3 5 (hdb 5) EOk (fun t => aop t = -1) i l (d + 1) cd)) (h : CSt N σc σ i l cd) (hcd : cd.length < i) (hd : d ≤ 8) : T (vX4_sum K recS (d : Int) σ) (PO tk pl st N ord σ0 σc test (S1 tk i) 3 5 (hdb 5) EOk (fun t => aop t = -1) i l d cd) := by
  unfold vX4_sum
  refine T_bd2 (c_term hc hz (test := test) (K := K) (recS := recS) cz hrec h hcd hd) (fun r σ2 hr => ?_)
  have hr' := PO_m (fin' := finT) hr (show (5 : Int) ≤ 6 by omega) (Cx' := hdb 5) (fun _ q => hdb_m q (by omega)) (S' := S1 tk i) (fun _ q => q) (Ok' := EOk) (fun _ q => q) (fun _ q => q)
  rcases hr' with ⟨e, j, l', cs, E, b1, b2, b3, b4, b5, b6, b7⟩ | ⟨e, k, b1, b2⟩
  · dsimp only at e b1
    have := b6.1
    exact T_f (by omega) (c_sum_12 hc hz cz hrec hcd hd FU 0 σ2 j l' cs E (by have := FU_b; have := cz.1; omega) (by omega) b7 ⟨b1, b2, b3, b4, b5, b6⟩)
  · dsimp only at e b1
    exact T_t e (T_some (Or.inr ⟨rfl, k, b1, b2⟩))
theorem c_sumF {b : Nat → Int} {n N : Nat} {tk : Nat → Int} {pl st : Nat → Nat} {ord : Int} {σ0 : Sg} (hc : PC b n tk pl st N) (hz : PZ b n ord σ0) {test : Int} {σc : Sg} {K : Kt} (cz : CZ tk pl N ord σc) : ∀ (f d : Nat), d ≤ 8 → 9 ≤ f + d → ∀ (σ : Sg) (i l : Nat) (cd : List Int), CSt N σc σ i l cd → cd.length < i → T (vX4_sumF K f (d : Int) σ) (PO tk pl st N ord σ0 σc test (S1 tk i) 3 5 (hdb 5) EOk (fun t => aop t = -1) i l d cd) := by
  intro f
  induction f with
  | zero => intro d hd hf; omega
  | succ f ih =>
    intro d hd hf σ i l cd h hcd
    rw [vX4_sumF]
    refine c_sum hc hz cz (fun d8 σ i l cd h hcd => ?_) h hcd hd
    rw [show (d : Int) + 1 = ((d + 1 : Nat) : Int) by omega]
    exact T_mono (ih (d + 1) (by omega) (by omega) σ i l cd h hcd) (fun p hp => PO_m hp (Int.le_refl _) (fun _ q => q) (fun t q => Or.inl q) (fun _ q => q) (fun _ q => q))
