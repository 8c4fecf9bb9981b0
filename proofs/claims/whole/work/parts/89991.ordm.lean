/-! ===== an order's clause in the reference ===== -/
def MRo (σ : Sg) (c : Cd) (q : Nat) (x : Ru) : Prop := σ 113 (8 * q) = x.1 ∧ MlE 1 c (σ 113 (8 * q + 1)) (σ 113 (8 * q + 2)) x.2.1 ∧ MlE 1 c (σ 113 (8 * q + 3)) (σ 113 (8 * q + 4)) x.2.2.1 ∧ MlE 1 c (σ 113 (8 * q + 5)) (σ 113 (8 * q + 6)) x.2.2.2.1 ∧ σ 113 (8 * q + 7) = x.2.2.2.2
theorem MRo_f {σ σ' : Sg} {c c' : Cd} {q m : Nat} {x : Ru} (h : MRo σ c q x) (hq : q < m) (e : ∀ j, j < 8 * m → σ' 113 j = σ 113 j) (h1 : c.2.2 ≤ c'.2.2) (h2 : ∀ k, k < c.2.2 → c'.1 k = c.1 k ∧ c'.2.1 k = c.2.1 k) : MRo σ' c' q x := by
  obtain ⟨a, b, d, f, g⟩ := h
  unfold MRo
  rw [e _ (by omega), e _ (by omega), e _ (by omega), e _ (by omega), e _ (by omega), e _ (by omega), e _ (by omega), e _ (by omega)]
  exact ⟨a, MlE_c h1 h2 b, MlE_c h1 h2 d, MlE_c h1 h2 f, g⟩
theorem m_readOrder_4 {tk : Nat → Int} {pl st : Nat → Nat} {N i n : Nat} {σ : Sg} {Q : Sg → Prop} (h : PT tk pl st N σ i) (hC : InvC σ) (h21 : σ 84 21 = (n : Int)) (k : T (vX10_readOrder_54 (vrb 304 (tk i)) (if vrb 304 (tk i) ≠ -1 ∧ n < 12 then 1 else 0) σ) Q) : T (vX10_readOrder σ) Q := by
  obtain ⟨-, -, -, ⟨c0, c1, c2, c3⟩⟩ := hC
  have hw : ∀ j : Nat, j < 4 → wfold (wl.getD (4 + j) []) = σ 112 j := fun j hj => by
    match j with
    | 0 => rw [c0]; decide
    | 1 => rw [c1]; decide
    | 2 => rw [c2]; decide
    | 3 => rw [c3]; decide
    | j + 4 => omega
  have key : ∀ (f x : Nat) (y : Int), 4 - x < f → x ≤ 4 → (if 304 + (x : Int) ≤ tk i ∧ tk i ≤ 307 then tk i - 304 else y) = vrb 304 (tk i) → T (vX10_readOrder_4 f y (x : Int) σ) Q := by
    intro f
    induction f with
    | zero => intro x y h; omega
    | succ f ih =>
      intro x y hf hx hv
      rw [vX10_readOrder_4]
      refine T_ite (fun q => ?_) (fun q => ?_)
      · refine T_ck (by omega) ?_
        rw [Int.toNat_natCast, ps_word h (by omega) (hw x (by omega)), Option.bind_some]
        have ex : (x : Int) + 1 = ((x + 1 : Nat) : Int) := by omega
        by_cases e : tk i = 304 + (x : Int)
        · rw [bI_t (by omega)]
          refine T_f (by omega) (T_ck (by omega) ?_)
          rw [ex]
          refine ih (x + 1) _ (by omega) (by omega) ?_
          rw [← hv, if_neg (by omega), if_pos (by omega)]
          omega
        · rw [bI_f (by omega)]
          refine T_t rfl (T_ck (by omega) ?_)
          rw [ex]
          refine ih (x + 1) _ (by omega) (by omega) ?_
          rw [← hv]
          by_cases z : 304 + (x : Int) ≤ tk i ∧ tk i ≤ 307
          · rw [if_pos (by omega), if_pos z]
          · rw [if_neg (by omega), if_neg z]
      · rw [if_neg (by omega)] at hv
        subst hv
        rw [h21]
        unfold vX10_readOrder_53
        refine T_ite (fun q1 => ?_) (fun q1 => T_ite (fun q2 => ?_) (fun q2 => ?_))
        · rw [if_neg (fun z => z.1 q1)] at k; exact k
        · rw [if_pos ⟨q1, by omega⟩] at k; exact k
        · rw [if_neg (fun z => q2 (by omega))] at k; exact k
  unfold vX10_readOrder
  exact key FU 0 (-1) (by have := FU_b; omega) (by omega) (by unfold vrb; rw [show ((0 : Nat) : Int) = 0 from rfl, Int.add_zero]; rfl)
theorem m_ro_bad {b : Nat → Int} {n N : Nat} {tk : Nat → Int} {pl st : Nat → Nat} {ord : Int} {σM σm : Sg} {i l : Nat} {c : Cd} {L : List Ru} {MR : Sg → Cd → Nat → Ru → Prop} (hz : PZ b n ord σM) (m : ML MR tk pl st N σM σm i l c L) (h : vrb 304 (tk i) = -1 ∨ ¬ L.length < 12) : T (vX10_readOrder σm) (fun σ' => BadM pl σM σ' i) := by
  obtain ⟨m1, m2, m3, m4, m5⟩ := m
  refine m_readOrder_4 m1.2.2.1 (PZ_g hz m3).2.2.2 m4 ?_
  rw [if_neg (by omega)]
  unfold vX10_readOrder_54
  refine T_bind (pv_must0 m1) (fun σ1 h1 => T_f ?_ (T_some (BadM_v m3 h1)))
  rw [h1.2.1]; omega
theorem m_oz {x1 : Int} {n : Nat} (hn : n < 12) : ∀ (f x : Nat) (σ : Sg), 8 - x < f → x ≤ 8 → ∃ σ', (∀ k, k ≠ 113 → σ' k = σ k) ∧ (∀ q, q < 8 * n + x → σ' 113 q = σ 113 q) ∧ (∀ q, x ≤ q → q < 8 → σ' 113 (8 * n + q) = 0) ∧ vX10_readOrder_85 f x1 ((8 * n : Nat) : Int) (x : Int) σ = vX10_readOrder_85 (0 + 1) x1 ((8 * n : Nat) : Int) 8 σ' := by
  intro f
  induction f with
  | zero => intro x σ h; omega
  | succ f ih =>
    intro x σ hf hx
    by_cases q : x = 8
    · subst q
      refine ⟨σ, fun _ _ => rfl, fun _ _ => rfl, fun q a b => by omega, ?_⟩
      rw [vX10_readOrder_85, vX10_readOrder_85, if_neg (by omega), if_neg (by omega)]
    · obtain ⟨σ', a, b, d, e⟩ := ih (x + 1) (up2 σ 113 (8 * n + x) 0) (by omega) (by omega)
      refine ⟨σ', fun k hk => by rw [a k hk, up2_o hk], fun q hq => by rw [b q (by omega), up2_c, upw_n (by omega)], fun q q1 q2 => ?_, ?_⟩
      · by_cases w : q = x
        · rw [w, b _ (by omega), up2_c, upw_s]
        · exact d q (by omega) q2
      · rw [vX10_readOrder_85, if_pos (by omega), ck_p (by omega), ck_p (by omega), nm_eq, ck_p (by omega), ← e]
        rw [show ((8 * n : Nat) : Int) + (x : Int) = ((8 * n + x : Nat) : Int) by omega, Int.toNat_natCast, show (x : Int) + 1 = ((x + 1 : Nat) : Int) by omega]
/-- in the midst of an order's clause -/
def MOm (tk : Nat → Int) (pl st : Nat → Nat) (N : Nat) (σc σ : Sg) (i l : Nat) (c : Cd) (L : List Ru) (x : Ru) : Prop := PSv tk pl st N σ σ i l c ∧ c.2.2 ≤ i ∧ MGr σc σ ∧ σ 84 21 = (L.length : Int) + 1 ∧ (∀ q y, L[q]? = some y → MRo σ c q y) ∧ σ 113 (8 * L.length) = x.1 ∧ MlE 1 c (σ 113 (8 * L.length + 1)) (σ 113 (8 * L.length + 2)) x.2.1 ∧ MlE 1 c (σ 113 (8 * L.length + 3)) (σ 113 (8 * L.length + 4)) x.2.2.1
theorem m_overb {b : Nat → Int} {n N : Nat} {tk : Nat → Int} {pl st : Nat → Nat} {σM σm : Sg} {i l : Nat} {c : Cd} {L : List Ru} (hc : PC b n tk pl st N) (hz : PZ b n 1 σM) (m : ML MRo tk pl st N σM σm i l c L) (h : vrb 304 (tk i) ≠ -1) (hn : L.length < 12) (hi : i < N) : ∃ σ5, MOm tk pl st N σM σ5 (i + 1) l c L (vrb 304 (tk i), none, none, none, 1) ∧ ∀ Q : Sg → Prop, T (if vrb 304 (tk i) = 3 then (vX10_readOrder_125 (vrb 304 (tk i)) ((8 * L.length : Nat) : Int) σ5) else ((vX10_readSum (((8 * L.length : Nat) : Int) + 1) σ5).bind (fun σ7 => vX10_readOrder_125 (vrb 304 (tk i)) ((8 * L.length : Nat) : Int) σ7))) Q → T (vX10_readOrder σm) Q := by
  obtain ⟨m1, m2, m3, m4, m5⟩ := m
  obtain ⟨σ1, e1, p1⟩ := pv_must1 hc (PZ_g hz m3) m1 hi
  have g21 : σ1 84 21 = (L.length : Int) := by rw [p1.1.2 21 (by omega)]; exact m4
  obtain ⟨σ2, f1, f2, f3, e2⟩ := m_oz (x1 := vrb 304 (tk i)) hn FU 0 (up2 σ1 84 21 ((L.length : Int) + 1)) (by have := FU_b; omega) (by omega)
  have g84 : σ2 84 = up2 σ1 84 21 ((L.length : Int) + 1) 84 := f1 84 (by omega)
  have g113 : σ1 113 = σm 113 := p1.1.1 113 (by omega) (by omega) (by omega) (by omega) (by omega)
  refine ⟨up2 σ2 113 (8 * L.length) (vrb 304 (tk i)), ⟨?_, by omega, ?_, ?_, fun q y hq => ?_, ?_, ?_, ?_⟩, fun Q k => ?_⟩
  · refine PS_e (PS_r p1) (fun j hj => ?_) (fun k k1 k2 => ?_)
    · rw [up2_o (by omega), g84, up2_c, upw_n hj]
    · rw [up2_o (by omega), f1 k (by omega), up2_o (by omega)]
  · refine MGr_u (MGr_t m3 (MGr_t (MGr_p p1.1) ⟨fun k k1 k2 k3 => by rw [f1 k k3, up2_o k1], fun j hj => by rw [g84, up2_c, upw_n (by omega)]⟩)) (by omega)
  · rw [up2_o (by omega), g84, up2_c, upw_s]
  · have lt := get_lt hq
    refine MRo_f (m := L.length) (m5 q y hq) lt (fun j hj => ?_) (Nat.le_refl _) (fun _ _ => ⟨rfl, rfl⟩)
    rw [up2_c, upw_n (by omega), f2 j (by omega), up2_o (by omega), g113]
  · rw [up2_c, upw_s]
  · show up2 σ2 113 (8 * L.length) (vrb 304 (tk i)) 113 _ = up2 σ2 113 (8 * L.length) (vrb 304 (tk i)) 113 _
    rw [up2_c, upw_n (by omega), upw_n (by omega), f3 1 (by omega) (by omega), f3 2 (by omega) (by omega)]
  · show up2 σ2 113 (8 * L.length) (vrb 304 (tk i)) 113 _ = up2 σ2 113 (8 * L.length) (vrb 304 (tk i)) 113 _
    rw [up2_c, upw_n (by omega), upw_n (by omega), f3 3 (by omega) (by omega), f3 4 (by omega) (by omega)]
  · refine m_readOrder_4 m1.2.2.1 (PZ_g hz m3).2.2.2 m4 ?_
    rw [if_pos ⟨h, hn⟩]
    unfold vX10_readOrder_54
    rw [e1, Option.bind_some, g21]
    refine T_t p1.2.1.1.1 (T_ck (by omega) (T_nm (T_ck (by omega) (T_nm ?_))))
    rw [show 8 * (L.length : Int) = ((8 * L.length : Nat) : Int) by omega, show (0 : Int) = ((0 : Nat) : Int) from rfl, e2, vX10_readOrder_85]
    refine T_f (by omega) (T_ck (by omega) (T_nm ?_))
    rw [Int.toNat_natCast]
    by_cases q3 : vrb 304 (tk i) = 3
    · rw [if_pos q3] at k ⊢
      exact k
    · rw [if_neg q3] at k ⊢
      exact T_ck (by omega) k
/-! once it has failed -/
theorem b_rs {pl : Nat → Nat} {σM σ : Sg} {k : Nat} {x : Int} (hx : 0 ≤ x ∧ x < 95) (h : BadM pl σM σ k) : T (vX10_readSum x σ) (fun σ' => BadM pl σM σ' k) := by
  unfold vX10_readSum vX10_readSum_22
  have h1 := BadM_u (a := 113) (j := x.toNat) (z := σ 84 23) h (by omega)
  have e19 := h1.2.1
  exact T_ck (by omega) (T_nm (T_f (by omega) (T_ck (by omega) (T_ck (by omega) (T_nm (T_some (BadM_u h1 (by omega))))))))
theorem b_255 {pl : Nat → Nat} {σM σ : Sg} {k n : Nat} (hn : n < 12) (h : BadM pl σM σ k) : T (vX10_readOrder_255 ((8 * n : Nat) : Int) σ) (fun σ' => BadM pl σM σ' k) := by
  unfold vX10_readOrder_255
  exact T_ck (by omega) (T_ck (by omega) (T_nm (T_some (BadM_u h (by omega)))))
theorem b_217 {pl : Nat → Nat} {σM σ : Sg} {k n : Nat} (hn : n < 12) (h : BadM pl σM σ k) : T (vX10_readOrder_217 ((8 * n : Nat) : Int) σ) (fun σ' => BadM pl σM σ' k) := by
  unfold vX10_readOrder_217
  have h1 := BadM_u (a := 113) (j := (((8 * n : Nat) : Int) + 5).toNat) (z := σ 84 23) h (by omega)
  have e19 := h1.2.1
  exact T_ck (by omega) (T_ck (by omega) (T_nm (T_f (by omega) (b_255 hn h1))))
theorem b_169 {pl : Nat → Nat} {σM σ : Sg} {k n : Nat} (hn : n < 12) (h : BadM pl σM σ k) : T (vX10_readOrder_169 ((8 * n : Nat) : Int) σ) (fun σ' => BadM pl σM σ' k) := by
  unfold vX10_readOrder_169
  have h1 := BadM_u (a := 113) (j := (((8 * n : Nat) : Int) + 7).toNat) (z := 1) h (by omega)
  have e19 := h1.2.1
  exact T_ck (by omega) (T_ck (by omega) (T_nm (T_f (by omega) (b_217 hn h1))))
theorem b_162 {pl : Nat → Nat} {σM σ : Sg} {k n : Nat} (hn : n < 12) (h : BadM pl σM σ k) : T (vX10_readOrder_162 ((8 * n : Nat) : Int) σ) (fun σ' => BadM pl σM σ' k) := by
  unfold vX10_readOrder_162
  exact T_ck (by omega) (T_bind (b_rs (by omega) h) (fun σ1 h1 => b_169 hn h1))
theorem b_125 {pl : Nat → Nat} {σM σ : Sg} {k n : Nat} {x1 : Int} (hn : n < 12) (h : BadM pl σM σ k) : T (vX10_readOrder_125 x1 ((8 * n : Nat) : Int) σ) (fun σ' => BadM pl σM σ' k) := by
  have e19 := h.2.1
  unfold vX10_readOrder_125 vX10_readOrder_134
  exact T_ite (fun _ => T_f (by omega) (b_162 hn h)) (fun _ => T_ite (fun _ => T_f (by omega) (b_162 hn h)) (fun _ => b_169 hn h))
theorem pv_number {b : Nat → Int} {n N : Nat} {tk : Nat → Int} {pl st : Nat → Nat} {ord : Int} {σ0 : Sg} (hc : PC b n tk pl st N) (hz : PZ b n ord σ0) {σ : Sg} {i l : Nat} {c : Cd} (h : PSv tk pl st N σ0 σ i l c) : (1001 ≤ tk i ∧ tk i ≤ 1020 → T (vX10_number 1 20 σ) (fun p => p.1 = tk i - 1000 ∧ PSv tk pl st N σ0 p.2 (i + 1) l c)) ∧ (¬ (1001 ≤ tk i ∧ tk i ≤ 1020) → T (vX10_number 1 20 σ) (fun p => PF σ0 p.2 ∧ p.2 84 19 = 1 ∧ p.2 84 18 = (pl i : Int))) := by
  have tr := h.2.2.1.2.2.2
  have wd : σ 84 16 = 2 → w32 (σ 84 17) = σ 84 17 := fun e => w32_id (by have := tr.2.2.2.2.1 e; omega)
  have tv := tr.2.2.2.2.1
  have tv2 := tr.2.2.2.1
  unfold vX10_number
  rw [nm_eq]
  refine ⟨fun g => ?_, fun g => ?_⟩
  · have s2 := tv2.mpr (by omega)
    have ev := (tv s2.1).2.2 s2.2
    rw [if_pos s2.1, m_in, Option.bind_some, bI_t (by omega), if_neg (by omega), wd s2.1]
    unfold vX10_number_33
    refine T_bind (pv_must1 hc hz h (tk_N hc h.2.2.1.1 (by omega))) (fun σ1 h1 => T_some ⟨by dsimp only; omega, h1⟩)
  · have bad : ∀ z, T (vX10_number_32 z σ) (fun p => PF σ0 p.2 ∧ p.2 84 19 = 1 ∧ p.2 84 18 = (pl i : Int)) := fun z => by
      unfold vX10_number_32 vX10_number_33
      exact T_bind (pv_must0 h) (fun σ1 h1 => T_some h1)
    by_cases s2 : σ 84 16 = 2
    · have ev := tv s2
      rw [if_pos s2, m_in, Option.bind_some, bI_f (fun w => g (by have := ev.2.2 (by omega); omega)), if_pos rfl]
      exact bad _
    · rw [if_neg s2]
      exact bad _
