/-! ===== a law's condition, in both ===== -/
theorem m_135 {b : Nat → Int} {n N : Nat} {tk : Nat → Int} {pl st : Nat → Nat} {σM σm : Sg} {i l : Nat} {c : Cd} {L : List Ru} {x : Ru} (m : MLm tk pl st N σM σm i l c L x) (hn : L.length < 12) : ∃ σ2, MLm tk pl st N σM σ2 i l c L x ∧ σ2 94 (8 * L.length + 4) = (c.2.2 : Int) ∧ σ2 94 (8 * L.length + 5) = (c.2.2 : Int) ∧ ∀ Q : Sg → Prop, T (if tk i = 324 then ((vX10_next σ2).bind (fun σ6 => (vX10_readExpression 1 σ6).bind (fun σ7 => vX10_readLaw_185 ((8 * L.length : Nat) : Int) σ7))) else (vX10_readLaw_185 ((8 * L.length : Nat) : Int) σ2)) Q → T (vX10_readLaw_135 ((8 * L.length : Nat) : Int) σm) Q := by
  obtain ⟨m1, m2, m3, m4, m5, m6, m7⟩ := m
  have g23 : σm 84 23 = (c.2.2 : Int) := m1.2.1.1.2.1
  have p2 : PSv tk pl st N (up2 (up2 σm 94 (8 * L.length + 4) (c.2.2 : Int)) 94 (8 * L.length + 5) (c.2.2 : Int)) (up2 (up2 σm 94 (8 * L.length + 4) (c.2.2 : Int)) 94 (8 * L.length + 5) (c.2.2 : Int)) i l c := PS_e m1 (fun j hj => by rw [up2_o (by omega), up2_o (by omega)]) (fun k k1 k2 => by rw [up2_o (by omega), up2_o (by omega)])
  refine ⟨up2 (up2 σm 94 (8 * L.length + 4) (c.2.2 : Int)) 94 (8 * L.length + 5) (c.2.2 : Int), ⟨p2, m2, MGr_u (MGr_u m3 (by omega)) (by omega), by rw [up2_o (by omega), up2_o (by omega)]; exact m4, fun q y hq => ?_, ?_, ?_⟩, ?_, ?_, fun Q k => ?_⟩
  · refine MRl_f (m := L.length) (m5 q y hq) (get_lt hq) (fun j hj => ?_) (Nat.le_refl _) (fun _ _ => ⟨rfl, rfl⟩)
    rw [up2_c, upw_n (by omega), up2_c, upw_n (by omega)]
  · rw [up2_c, upw_n (by omega), up2_c, upw_n (by omega)]; exact m6
  · rw [up2_c, upw_n (by omega), up2_c, upw_n (by omega)]; exact m7
  · rw [up2_c, upw_n (by omega), up2_c, upw_s]
  · rw [up2_c, upw_s]
  · unfold vX10_readLaw_135
    rw [g23, show ((8 * L.length : Nat) : Int) + 4 = ((8 * L.length + 4 : Nat) : Int) by omega, show ((8 * L.length : Nat) : Int) + 5 = ((8 * L.length + 5 : Nat) : Int) by omega, Int.toNat_natCast, Int.toNat_natCast]
    refine T_ck (by omega) (T_ck (by omega) (T_nm (T_ck (by omega) (T_ck (by omega) (T_nm ?_)))))
    have h23 : up2 σm 94 (8 * L.length + 4) (c.2.2 : Int) 84 23 = (c.2.2 : Int) := by rw [up2_o (by omega)]; exact g23
    rw [h23]
    refine T_t p2.2.1.1.1 ?_
    rw [ps_word (j := 24) p2.2.2.1 (by omega) (by decide), Option.bind_some]
    by_cases q : tk i = 324
    · rw [if_pos q] at k
      rw [bI_t (by omega)]
      exact T_f (by omega) k
    · rw [if_neg q] at k
      rw [bI_f (by omega)]
      exact T_t rfl k
theorem lc_cond {b : Nat → Int} {n N : Nat} {tk : Nat → Int} {pl st : Nat → Nat} {σC σM σ σm : Sg} {K : Kt} {i l : Nat} {cd : List Int} {c : Cd} {L : List Ru} {x : Ru} (hc : PC b n tk pl st N) (hz : PZ b n 0 σM) (cz : CZ tk pl N 0 σC) (h : CL 9 N σC σ i l cd (L ++ [x])) (hx : x.2.2.2.1 = none) (hr : LawR x) (m : MLm tk pl st N σM σm i l c L x) (hn : L.length < 12) : T (vX4_condition K (L.length : Int) σ) (fun p => (p.1 = 1 ∧ ∃ j l' cd' x', CL 9 N σC p.2 j l' cd' (L ++ [x']) ∧ LawR x' ∧ T (vX10_readLaw_135 ((8 * L.length : Nat) : Int) σm) (fun s => ∃ c', ML MRl tk pl st N σM s j l' c' (L ++ [x']))) ∨ (p.1 = 0 ∧ ∃ k, CXG pl σC p.2 k ∧ T (vX10_readLaw_135 ((8 * L.length : Nat) : Int) σm) (fun s => BadM pl σM s k))) := by
  obtain ⟨σ2, ⟨m1, m2, m3, m4, m5, m6, m7⟩, w4, w5, m8⟩ := m_135 (b := b) (n := n) m hn
  have hz2 : PZ b n 0 σ2 := PZ_g hz m3
  have fin : ∀ (σ7 : Sg) (j l' : Nat) (c' : Cd) (e : Option Xp), PSv tk pl st N σ2 σ7 j l' c' → c.2.2 ≤ c'.2.2 → c'.2.2 ≤ j → (∀ k, k < c.2.2 → c'.1 k = c.1 k ∧ c'.2.1 k = c.2.1 k) → MlE 0 c' (c.2.2 : Int) (c'.2.2 : Int) e → T (vX10_readLaw_185 ((8 * L.length : Nat) : Int) σ7) (fun s => ∃ c', ML MRl tk pl st N σM s j l' c' (L ++ [(x.1, x.2.1, x.2.2.1, e, x.2.2.2.2)])) := by
    intro σ7 j l' c' e p7 k1 k2 k3 k4
    have g7 : σ7 94 = σ2 94 := p7.1.1 94 (by omega) (by omega) (by omega) (by omega) (by omega)
    have g23 : σ7 84 23 = (c'.2.2 : Int) := p7.2.1.1.2.1
    unfold vX10_readLaw_185
    rw [g23, show ((8 * L.length : Nat) : Int) + 6 = ((8 * L.length + 6 : Nat) : Int) by omega, Int.toNat_natCast]
    refine T_ck (by omega) (T_ck (by omega) (T_nm (T_some ⟨c', PS_e (PS_r p7) (fun j hj => by rw [up2_o (by omega)]) (fun k k1 k2 => by rw [up2_o (by omega)]), k2, MGr_u (MGr_t m3 (MGr_p p7.1)) (by omega), ?_, fun q y hq => ?_⟩)))
    · rw [up2_o (by omega), p7.1.2 21 (by omega), m4, List.length_append, List.length_singleton]; omega
    · rcases app_get hq with z | ⟨z1, z2⟩
      · refine MRl_f (m := L.length) (m5 q y z) (get_lt z) (fun j hj => ?_) k1 k3
        rw [up2_c, upw_n (by omega), g7]
      · subst z1 z2
        unfold MRl
        rw [up2_c, upw_n (by omega), upw_n (by omega), upw_n (by omega), upw_n (by omega), upw_s, g7, m6, w4, w5]
        exact ⟨rfl, MlE_c k1 k3 m7, k4⟩
  refine T_mono (c_cond hc hz2 (K := K) (CZ_g cz h.2.2.1) h.1 h.2.1 hn) (fun p hp => ?_)
  rcases hp with ⟨q, e⟩ | ⟨q, ⟨r1, j, l', cs, E, b1, b2, b3, b4, b5, b6, b7⟩ | ⟨r1, k, b1, b2⟩⟩
  · subst e
    refine Or.inl ⟨rfl, i, l, cd, x, h, hr, m8 _ ?_⟩
    rw [if_neg q]
    have ex : (x.1, x.2.1, x.2.2.1, (none : Option Xp), x.2.2.2.2) = x := by
      rw [← hx]
    have := fin σ2 i l c none m1 (Nat.le_refl _) m2 (fun _ _ => ⟨rfl, rfl⟩) rfl
    rw [ex] at this
    exact this
  · have iN := h.1.2.1.1
    have hi : i < N := tk_N hc iN (by omega)
    obtain ⟨σ6, e6, p6⟩ := pv_next hc hz2 m1 hi
    obtain ⟨σ7, e7, c', p7, k1, k2, k3, k4⟩ := m_testX hc hz2 p6 (by omega) b6 b7
    have hcl := CL_set (a := 68) h (by omega) b1 b4 (by omega) (by have := h.2.1; rw [List.length_append, List.length_append, List.length_singleton]; omega)
    refine Or.inl ⟨r1, j, l', _, _, hcl, ⟨hr.1, hr.2.1, hr.2.2.1, fun E' z => by injection z with z; rw [← z]; exact b5⟩, m8 _ ?_⟩
    rw [if_pos q, e6, Option.bind_some, e7, Option.bind_some]
    exact fin σ7 j l' c' (some E) (PSv_of p7) k1 (by omega) k3 ⟨c.2.2, c'.2.2, l' - l, rfl, rfl, k4, by omega, Nat.le_refl _⟩
  · have iN := h.1.2.1.1
    have hi : i < N := tk_N hc iN (by omega)
    obtain ⟨σ6, e6, p6⟩ := pv_next hc hz2 m1 hi
    refine Or.inr ⟨r1, k, CXG_f h.2.2.1 (by omega) b1, m8 _ ?_⟩
    rw [if_pos q, e6, Option.bind_some]
    refine T_bind (m_exprX hc hz2 p6 (by omega) b2 rfl ⟨fun e r q => (by cases q), by show (-1 : Int) ≠ 32; omega, fun _ => by omega⟩ rfl) (fun σ7 h7 => ?_)
    obtain ⟨l1, d1, c1, P1, x1, -⟩ := h7
    have bd := BadM_p (σc := σM) (σ := σ2) m3 x1
    unfold vX10_readLaw_185
    refine T_ck (by omega) (T_ck (by omega) (T_nm (T_some (BadM_u bd (by omega)))))
/-! ===== all clauses, in both ===== -/
/-- one clause of both: read, or refused at the same place -/
def ClO (cl : Int → Sg → Option (Int × Sg)) (rd : Sg → Option Sg) (nW : Nat) (Ok : Ru → Prop) (MR : Sg → Cd → Nat → Ru → Prop) (tk : Nat → Int) (pl st : Nat → Nat) (N : Nat) (σC σM : Sg) (K : Kt) : Prop := ∀ (σ σm : Sg) (i l : Nat) (cd : List Int) (c : Cd) (L : List Ru), CL nW N σC σ i l cd L → ML MR tk pl st N σM σm i l c L → L.length < 12 → T (cl (L.length : Int) σ) (fun p => (p.1 = 1 ∧ T (vX4_condition K (L.length : Int) p.2) (fun p' => (p'.1 = 1 ∧ ∃ j l' cd' x, CL nW N σC p'.2 j l' cd' (L ++ [x]) ∧ Ok x ∧ T (rd σm) (fun s => ∃ c', ML MR tk pl st N σM s j l' c' (L ++ [x]))) ∨ (p'.1 = 0 ∧ ∃ k, CXG pl σC p'.2 k ∧ T (rd σm) (fun s => BadM pl σM s k)))) ∨ (p.1 = 0 ∧ ∃ k, CXG pl σC p.2 k ∧ T (rd σm) (fun s => BadM pl σM s k)))
theorem law_ClO {b : Nat → Int} {n N : Nat} {tk : Nat → Int} {pl st : Nat → Nat} {σC σM : Sg} {K : Kt} (hc : PC b n tk pl st N) (hz : PZ b n 0 σM) (cz : CZ tk pl N 0 σC) (hK : IsA K 66 20 12) : ClO (vX4_lawClause K) vX10_readLaw 9 LawR MRl tk pl st N σC σM K := by
  intro σ σm i l cd c L h m hn
  refine T_mono (lc_sum hc hz cz h m hn hK) (fun p hp => ?_)
  rcases hp with ⟨r1, j, l', cd', x, σm', c', x1, x2, x3, x4, x5⟩ | hp
  · refine Or.inl ⟨r1, T_mono (lc_cond (K := K) hc hz cz x1 x2 x3 x4 hn) (fun p' hp' => ?_)⟩
    rcases hp' with ⟨r2, j2, l2, cd2, y, y1, y2, y3⟩ | ⟨r2, k, y1, y2⟩
    · exact Or.inl ⟨r2, j2, l2, cd2, y, y1, y2, x5 _ y3⟩
    · exact Or.inr ⟨r2, k, y1, x5 _ y2⟩
  · exact Or.inr hp
/-- what the reference's end of a text leaves -/
def MGe (σc σ : Sg) : Prop := (∀ k, k ≠ 84 → (k < 94 ∨ 98 < k) → k ≠ 113 → σ k = σc k) ∧ (∀ j, (j < 13 ∨ (20 < j ∧ j ≠ 21 ∧ j ≠ 23 ∧ j ≠ 26 ∧ j ≠ 29 ∧ j ≠ 30)) → σ 84 j = σc 84 j) ∧ σ 84 13 = 0 ∧ σ 84 20 = 0
theorem m_end19 {σM σ : Sg} {Q : Sg → Prop} (h : MGr σM σ) (hQ : ∀ s, MGe σM s → (∀ k, k ≠ 84 → s k = σ k) → (∀ j, j ≠ 13 → j ≠ 20 → s 84 j = σ 84 j) → Q s) : T (vX10_endText_19 σ) Q := by
  unfold vX10_endText_19
  refine T_nm (T_nm (T_some (hQ _ ⟨fun k a b c => ?_, fun j hj => ?_, ?_, ?_⟩ (fun k hk => ?_) (fun j j1 j2 => ?_))))
  · rw [up2_o a, up2_o a]; exact h.1 k a b c
  · rw [up2_c, upw_n (by omega), up2_c, upw_n (by omega)]; exact h.2 j (by omega)
  · rw [up2_c, upw_s]
  · rw [up2_c, upw_n (by omega), up2_c, upw_s]
  · rw [up2_o hk, up2_o hk]
  · rw [up2_c, upw_n (by omega), up2_c, upw_n (by omega)]
theorem m_end_bad {pl : Nat → Nat} {σM σ : Sg} {k : Nat} (h : BadM pl σM σ k) : T (vX10_endText σ) (fun s => MGe σM s ∧ s 84 19 = 1 ∧ s 84 18 = (pl k : Int)) := by
  unfold vX10_endText
  refine T_f (by rw [h.2.1]; omega) (m_end19 h.1 (fun s s1 s2 s3 => ⟨s1, by rw [s3 19 (by omega) (by omega)]; exact h.2.1, by rw [s3 18 (by omega) (by omega)]; exact h.2.2⟩))
theorem m_end_no {tk : Nat → Int} {pl st : Nat → Nat} {N i l : Nat} {σM σ : Sg} {c : Cd} (g : MGr σM σ) (h : PSv tk pl st N σ σ i l c) (ht : tk i ≠ 256) : T (vX10_endText σ) (fun s => MGe σM s ∧ s 84 19 = 1 ∧ s 84 18 = (pl i : Int)) := by
  have h16 : σ 84 16 ≠ 0 := fun e => ht (h.2.2.1.2.2.2.2.2.1.mp e)
  unfold vX10_endText
  refine T_t h.2.1.1.1 (T_f h16 (T_bind (pv_must0 h) (fun σ1 h1 => ?_)))
  have bd := BadM_v g h1
  exact m_end19 bd.1 (fun s s1 s2 s3 => ⟨s1, by rw [s3 19 (by omega) (by omega)]; exact bd.2.1, by rw [s3 18 (by omega) (by omega)]; exact bd.2.2⟩)
theorem m_end_ok {tk : Nat → Int} {pl st : Nat → Nat} {N i l : Nat} {σM σ : Sg} {c : Cd} (g : MGr σM σ) (h : PSv tk pl st N σ σ i l c) (ht : tk i = 256) : T (vX10_endText σ) (fun s => MGe σM s ∧ (∀ k, k ≠ 84 → s k = σ k) ∧ ∀ j, j ≠ 13 → j ≠ 20 → s 84 j = σ 84 j) := by
  have h16 : σ 84 16 = 0 := h.2.2.1.2.2.2.2.2.1.mpr ht
  unfold vX10_endText
  exact T_t h.2.1.1.1 (T_t h16 (m_end19 g (fun s s1 s2 s3 => ⟨s1, s2, s3⟩)))
/-- what reading of all clauses comes to -/
def RdO (go : Sg → Option (Int × Sg)) (en : Sg → Option (Int × Sg)) (nW : Nat) (Ok : Ru → Prop) (MR : Sg → Cd → Nat → Ru → Prop) (tk : Nat → Int) (pl st : Nat → Nat) (N : Nat) (σC σM σm : Sg) (p : Int × Sg) : Prop :=
  (p.1 = 1 ∧ ∃ j l cd L σe c, CL nW N σC p.2 j l cd L ∧ ML MR tk pl st N σM σe j l c L ∧ tk j = 256 ∧ L.length ≤ 12 ∧ (∀ x ∈ L, Ok x) ∧ ∀ Q : Int × Sg → Prop, T (en σe) Q → T (go σm) Q)
  ∨ (p.1 = 0 ∧ ∃ k σe, CXG pl σC p.2 k ∧ T (vX10_endText σe) (fun s => MGe σM s ∧ s 84 19 = 1 ∧ s 84 18 = (pl k : Int)) ∧ ∀ Q : Int × Sg → Prop, T (en σe) Q → T (go σm) Q)
noncomputable def cls (K : Kt) (σ : Sg) : Int → Sg → Option (Int × Sg) := if σ 63 5 = 0 then vX4_orderClause K else vX4_lawClause K
theorem reads_all {b : Nat → Int} {n N : Nat} {tk : Nat → Int} {pl st : Nat → Nat} {ord : Int} {σC σM : Sg} {K : Kt} {nW : Nat} {Ok : Ru → Prop} {MR : Sg → Cd → Nat → Ru → Prop} {rd : Sg → Option Sg} {en : Sg → Option (Int × Sg)} {lp : Nat → Sg → Option (Int × Sg)} (hc : PC b n tk pl st N) (hz : PZ b n ord σM) (cz : CZ tk pl N ord σC)
    (hst : ClO (cls K σC) rd nW Ok MR tk pl st N σC σM K) (hfull : ∀ σm i l c L, ML MR tk pl st N σM σm i l c L → ¬ L.length < 12 → T (rd σm) (fun s => BadM pl σM s i)) (hMR : ∀ σ σ' c q x, MR σ c q x → σ' 94 = σ 94 → σ' 113 = σ 113 → MR σ' c q x)
    (hlp : ∀ f σ, lp (f + 1) σ = if (σ 84 19) = 0 then ((vX10_isSign 59 σ).bind (fun r2 => if r2 = 0 then (en σ) else ((vX10_next σ).bind (fun σ4 => (rd σ4).bind (fun σ5 => lp f σ5))))) else (en σ)) :
    ∀ (f g : Nat) (σ σm : Sg) (i l : Nat) (cd : List Int) (c : Cd) (L : List Ru), 12 - L.length < f → 13 - L.length < g → L.length ≤ 12 → (∀ x ∈ L, Ok x) → CL nW N σC σ i l cd L → ML MR tk pl st N σM σm i l c L → T (vX4_reads_33 K f (L.length : Int) σ) (RdO (fun s => (rd s).bind (fun s' => lp g s')) en nW Ok MR tk pl st N σC σM σm) := by
  intro f
  induction f with
  | zero => intro g σ σm i l cd c L h; omega
  | succ f ih =>
    intro g σ σm i l cd c L hf hg hL hok h m
    obtain ⟨g, rfl⟩ : ∃ g', g = g' + 1 := ⟨g - 1, by omega⟩
    have badR : ∀ (p : Int × Sg) (k : Nat), p.1 = 0 → CXG pl σC p.2 k → T (rd σm) (fun s => BadM pl σM s k) → RdO (fun s => (rd s).bind (fun s' => lp (g + 1) s')) en nW Ok MR tk pl st N σC σM σm p := fun p k h0 hx hb => by
      obtain ⟨s, e, bd⟩ := hb
      refine Or.inr ⟨h0, k, s, hx, m_end_bad bd, fun Q q => ?_⟩
      show T ((rd σm).bind _) Q
      rw [e, Option.bind_some, hlp, if_neg (by rw [bd.2.1]; omega)]
      exact q
    rw [vX4_reads_33]
    by_cases h12 : L.length < 12
    · have e5 : σ 63 5 = σC 63 5 := h.2.2.1.2 5 (by omega) (by omega) (by omega)
      have body : T (bd2 (cls K σC (L.length : Int) σ) (fun r3 σ4 => vX4_reads_59 K (vX4_reads_33 K f) (L.length : Int) r3 σ4)) (RdO (fun s => (rd s).bind (fun s' => lp (g + 1) s')) en nW Ok MR tk pl st N σC σM σm) := by
        refine T_bd2 (hst σ σm i l cd c L h m h12) (fun r σ4 hr => ?_)
        unfold vX4_reads_59
        rcases hr with ⟨r1, hcnd⟩ | ⟨r1, k, x1, x2⟩
        · dsimp only at r1 hcnd
          refine T_f (by omega) (T_bd2 hcnd (fun r2 σ5 hr2 => ?_))
          rcases hr2 with ⟨q1, j, l', cd', x, y1, y2, y3⟩ | ⟨q1, k, x1, x2⟩
          · dsimp only at q1 y1
            obtain ⟨s, es, c', ms⟩ := y3
            have hok' : ∀ y ∈ L ++ [x], Ok y := fun y hy => by
              rcases List.mem_append.mp hy with w | w
              · exact hok y w
              · rw [List.mem_singleton] at w; rw [w]; exact y2
            have hl' : (L ++ [x]).length = L.length + 1 := by rw [List.length_append, List.length_singleton]
            obtain ⟨e6, e71, tb, i4⟩ := cs_tok (CZ_g cz y1.2.2.1) y1.1
            have s19 : s 84 19 = 0 := ms.1.2.1.1.1
            have sg : vX10_isSign 59 s = some (bI (tk j = 59)) := ps_sign ms.1.2.2.1 (by omega) (by unfold dg; omega)
            refine T_f (by omega) ?_
            rw [e6, Int.toNat_natCast, e71]
            refine T_ck (by omega) (T_ite (fun q => T_some (Or.inl ⟨rfl, j, l', cd', L ++ [x], s, c', y1, ms, q, by omega, hok', fun Q k => ?_⟩)) (fun q => T_ck (by omega) (T_ite (fun q2 => ?_) (fun q2 => ?_))))
            · show T ((rd σm).bind _) Q
              rw [es, Option.bind_some, hlp, if_pos s19, sg, Option.bind_some, bI_f (by omega), if_pos rfl]
              exact k
            · have hj : j < N := tk_N hc y1.1.2.1.1 q
              obtain ⟨s2, e2, p2⟩ := pv_next hc (PZ_g hz ms.2.2.1) ms.1 hj
              have ms2 : ML MR tk pl st N σM s2 (j + 1) l' c' (L ++ [x]) := ⟨PS_r p2, by have := ms.2.1; omega, MGr_t ms.2.2.1 (MGr_p p2.1), by rw [p2.1.2 21 (by omega)]; exact ms.2.2.2.1, fun q y hq => hMR _ _ _ _ _ (ms.2.2.2.2 q y hq) (p2.1.1 94 (by omega) (by omega) (by omega) (by omega) (by omega)) (p2.1.1 113 (by omega) (by omega) (by omega) (by omega) (by omega))⟩
              · refine T_ck (by omega) (T_nm (T_ck (by omega) ?_))
                have r := ih g _ s2 (j + 1) l' cd' c' (L ++ [x]) (by omega) (by omega) (by omega) hok' (CL_inc y1 hj) ms2
                rw [hl', show ((L.length + 1 : Nat) : Int) = (L.length : Int) + 1 by omega] at r
                refine T_mono r (fun p hp => ?_)
                have go : ∀ Q : Int × Sg → Prop, T ((rd s2).bind (fun s' => lp g s')) Q → T ((rd σm).bind (fun s' => lp (g + 1) s')) Q := fun Q k => by
                  rw [es, Option.bind_some, hlp, if_pos s19, sg, Option.bind_some, bI_t q2, if_neg (by omega), e2, Option.bind_some]
                  exact k
                rcases hp with ⟨z1, j', l2, cd2, L2, σe, c2, z2, z3, z4, z5, z6, z7⟩ | ⟨z1, k', σe, z2, z3, z4⟩
                · exact Or.inl ⟨z1, j', l2, cd2, L2, σe, c2, z2, z3, z4, z5, z6, fun Q k => go Q (z7 Q k)⟩
                · exact Or.inr ⟨z1, k', σe, z2, z3, fun Q k => go Q (z4 Q k)⟩
            · refine T_mono (c_fail23 (CZ_g cz y1.2.2.1) y1.1) (fun p hp => Or.inr ⟨hp.1, j, s, CXG_0 y1.2.2.1 hp.2, m_end_no ms.2.2.1 ms.1 q, fun Q k => ?_⟩)
              show T ((rd σm).bind _) Q
              rw [es, Option.bind_some, hlp, if_pos s19, sg, Option.bind_some, bI_f q2, if_pos rfl]
              exact k
          · dsimp only at q1 x1
            exact T_t q1 (T_some (badR (0, σ5) k rfl x1 x2))
        · dsimp only at r1 x1
          exact T_t r1 (T_some (badR (0, σ4) k rfl x1 x2))
      refine T_t (by omega) ?_
      unfold cls at body
      refine T_ite (fun q => ?_) (fun q => ?_)
      · rw [if_pos (by omega)] at body; exact body
      · rw [if_neg (by omega)] at body; exact body
    · refine T_f (by omega) (T_mono (c_fail23 (CZ_g cz h.2.2.1) h.1) (fun p hp => badR p i hp.1 (CXG_0 h.2.2.1 hp.2) (hfull σm i l c L m h12)))
