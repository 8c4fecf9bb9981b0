theorem lw_ok {ρ : Nat → Int} {b r t : Int} (h : WF ρ) (hb : 0 ≤ b ∧ b < ρ 0) (hr : 0 ≤ r ∧ r < ρ 1) (ht : 0 ≤ t ∧ t ≤ 63) : wOk (lw ρ b r t) := by
  obtain ⟨⟨h0, h1, h2, h3⟩, ⟨h4, h5, h6, h7, h8⟩, hB, hR, -⟩ := h
  have hB := hB b hb.1 hb.2
  have hR := hR r hr.1 hr.2
  intro j
  match j with
  | 0 => show _ ≤ b ∧ b ≤ _; omega
  | 1 => show _ ≤ ρ (71 + b).toNat ∧ ρ (71 + b).toNat ≤ _; omega
  | 2 => show _ ≤ ρ (9 + b).toNat ∧ ρ (9 + b).toNat ≤ _; omega
  | 3 => show _ ≤ r ∧ r ≤ _; omega
  | 4 => show _ ≤ t ∧ t ≤ _; omega
  | 5 => show _ ≤ ρ (23 + r).toNat ∧ ρ (23 + r).toNat ≤ _; omega
  | 6 =>
    show _ ≤ (if ρ (29 + r).toNat = b then ρ 4 - ρ (35 + r).toNat else -1) ∧ (if ρ (29 + r).toNat = b then ρ 4 - ρ (35 + r).toNat else -1) ≤ _
    split <;> omega
  | 7 => show _ ≤ ρ 4 ∧ ρ 4 ≤ _; omega
  | 8 => show _ ≤ ρ 7 ∧ ρ 7 ≤ _; omega
  | j + 9 => show _ ≤ (0 : Int) ∧ (0 : Int) ≤ _; omega
theorem m_tells_176 {σ0 : Sg} {n : Nat} {kd : Nat → Int} {ts fs : Nat → (Nat → Int) → Int} {base k wo : Int} {w : Nat → Int} (hL : MLaw (σ0 86) base n kd ts fs) (hb : 0 ≤ base ∧ base ≤ 4605) (hw : wOk w) :
    ∀ (f c : Nat) (σ : Sg), n - c < f → c ≤ n → ScM σ0 σ → σ 84 34 = base → σ 84 20 = 0 → (∀ j : Nat, j < 9 → σ 102 (j + 1) = w j) →
    T (vX10_tells_176 f k ((Dn kd ts fs c k w).getD wo) (c : Int) σ) (fun p => ScM σ0 p.2 ∧ p.1 = (Dn kd ts fs n k w).getD wo) := by
  intro f
  induction f with
  | zero => intro c σ h; omega
  | succ f ih =>
    intro c σ hf hc hS h34 h20 hs
    have e86 : σ 86 = σ0 86 := ScM_k hS (by omega)
    have hL' : MLaw (σ 86) base n kd ts fs := by rw [e86]; exact hL
    have hn : n ≤ 12 := hL.1
    rw [vX10_tells_176, h34]
    with_reducible refine T_ck (by omega) ?_
    with_reducible refine T_ck (by omega) ?_
    rw [hL'.2.1]
    refine T_ite (fun h => ?_) (fun h => ?_)
    · have hcn : c < n := by omega
      obtain ⟨hk, hk3, -⟩ := hL'.2.2 c hcn
      repeat (with_reducible first | refine T_ck (by omega) ?_ | refine T_nm ?_)
      rw [hk]
      have ec : ((c : Int) + 1) = ((c + 1 : Nat) : Int) := by omega
      refine T_ite (fun h1 => ?_) (fun h1 => ?_)
      · refine T_bd2 (m_isSo hL' hcn hb h34 h20 hw hs) (fun r σ1 h2 => ?_)
        obtain ⟨hS1, h84, hr, hsum, hbar⟩ := h2
        have hr : r = _ := hr
        have hS1 : Sme _ σ σ1 := hS1
        have h84 : ∀ j, j ≠ 38 → j ≠ 39 → j ≠ 40 → σ1 84 j = σ 84 j := h84
        have hsum : r = 1 → kd c ≠ 3 → σ1 84 40 = fs c w := hsum
        have hS' : ScM σ0 σ1 := ScM_t hS ⟨Sme_m hS1 (fun k h => by unfold scM; omega), fun j hj => h84 j (fun e => hj (by unfold sc84; omega)) (fun e => hj (by unfold sc84; omega)) (fun e => hj (by unfold sc84; omega))⟩
        have a34 : σ1 84 34 = base := by rw [h84 34 (by omega) (by omega) (by omega)]; exact h34
        have a20 : σ1 84 20 = 0 := by rw [h84 20 (by omega) (by omega) (by omega)]; exact h20
        have a102 : ∀ j : Nat, j < 9 → σ1 102 (j + 1) = w j := by intro j hj; rw [hS1 102 (by omega)]; exact hs j hj
        by_cases hH : ts c w = 1 ∧ fs c w ≠ -2000000000
        · have hD : Dn kd ts fs (c + 1) k w = some (fs c w) := by rw [Dn, if_pos ⟨h1, hH⟩]
          have hr1 : r = 1 := by rw [hr, bI_t hH]
          have next := ih (c + 1) σ1 (by omega) (by omega) hS' a34 a20 a102
          rw [hD] at next
          refine T_f (by omega) (T_ite (fun h3 => ?_) (fun h3 => ?_))
          · with_reducible refine T_ck (by omega) ?_
            rw [ec]
            have := hbar (by omega)
            rw [← this]
            exact next
          · repeat (with_reducible first | refine T_ck (by omega) ?_ | refine T_nm ?_)
            rw [ec, hsum hr1 (by omega)]
            exact next
        · have hD : Dn kd ts fs (c + 1) k w = Dn kd ts fs c k w := by rw [Dn, if_neg (fun h => hH h.2)]
          have hr0 : r = 0 := by rw [hr, bI_f hH]
          refine T_t hr0 ?_
          with_reducible refine T_ck (by omega) ?_
          rw [ec, ← hD]
          exact ih (c + 1) σ1 (by omega) (by omega) hS' a34 a20 a102
      · have hD : Dn kd ts fs (c + 1) k w = Dn kd ts fs c k w := by rw [Dn, if_neg (fun h => h1 h.1)]
        with_reducible refine T_ck (by omega) ?_
        rw [ec, ← hD]
        exact ih (c + 1) σ (by omega) (by omega) hS h34 h20 hs
    · have : c = n := by omega
      rw [this]
      exact T_some ⟨hS, rfl⟩
/-- what the law in force is: none, or one of the row's -/
def MForce (ρ : Nat → Int) (n : Nat) (kd : Nat → Int) (ts fs : Nat → (Nat → Int) → Int) : Prop :=
  (ρ 3 = -1 ∧ n = 0) ∨ (0 ≤ ρ 3 ∧ ρ 3 < 6 ∧ MLaw ρ (105 + 900 * ρ 3) n kd ts fs)
theorem m_tells_142 {σ0 σ : Sg} {n : Nat} {kd : Nat → Int} {ts fs : Nat → (Nat → Int) → Int} {base k wo z : Int} {w : Nat → Int} (hL : MLaw (σ0 86) base n kd ts fs) (hb : 0 ≤ base ∧ base ≤ 4605) (hw : wOk w)
    (hS : ScM σ0 σ) (h34 : σ 84 34 = base) (h20 : σ 84 20 = 0) (hs : ∀ j : Nat, j < 6 → σ 102 (j + 1) = w j) (h6 : z = w 6) (h7 : σ0 86 4 = w 7) (h8 : σ0 86 7 = w 8) :
    T (vX10_tells_142 k wo 7 z σ) (fun p => ScM σ0 p.2 ∧ p.1 = (Dn kd ts fs n k w).getD wo) := by
  have e86 : σ 86 = σ0 86 := ScM_k hS (by omega)
  unfold vX10_tells_142
  repeat (with_reducible first | refine T_ck (by omega) ?_ | refine T_nm ?_)
  rw [m_term (by omega), Option.bind_some]
  repeat (with_reducible first | refine T_ck (by omega) ?_ | refine T_nm ?_)
  rw [m_term (by omega), Option.bind_some]
  repeat (with_reducible first | refine T_ck (by omega) ?_ | refine T_nm ?_)
  have a4 : up2 σ 102 (Int.toNat 7) z 86 (Int.toNat (4 + 0)) = w 7 := by rw [up2_o (by omega), e86]; exact h7
  rw [a4]
  have a7 : up2 (up2 σ 102 (Int.toNat 7) z) 102 8 (w 7) 86 (Int.toNat (4 + 3)) = w 8 := by rw [up2_o (by omega), up2_o (by omega), e86]; exact h8
  rw [a7, h6]
  refine m_tells_176 hL hb hw FU 0 _ (by have := hL.1; have := FU_b; omega) (by omega) ?_ ?_ ?_ ?_
  · exact ScM_o (ScM_o (ScM_o hS (Or.inl rfl)) (Or.inl rfl)) (Or.inl rfl)
  · rw [up2_o (by omega), up2_o (by omega), up2_o (by omega)]; exact h34
  · rw [up2_o (by omega), up2_o (by omega), up2_o (by omega)]; exact h20
  · intro j hj
    rw [up2_c, up2_c, up2_c]
    match j with
    | 0 => exact hs 0 (by omega)
    | 1 => exact hs 1 (by omega)
    | 2 => exact hs 2 (by omega)
    | 3 => exact hs 3 (by omega)
    | 4 => exact hs 4 (by omega)
    | 5 => exact hs 5 (by omega)
    | 6 => rfl
    | 7 => rfl
    | 8 => rfl
    | j + 9 => omega
theorem m_tells {σ : Sg} {n : Nat} {kd : Nat → Int} {ts fs : Nat → (Nat → Int) → Int} {k b r wo : Int} (hW : WF (σ 86)) (hF : MForce (σ 86) n kd ts fs) (h20 : σ 84 20 = 0) (hb : 0 ≤ b ∧ b < σ 86 0) (hr : 0 ≤ r ∧ r < σ 86 1) :
    T (vX10_tells k b r wo σ) (fun p => ScM σ p.2 ∧ p.1 = (Dn kd ts fs n k (lw (σ 86) b r (σ 86 (17 + r).toNat))).getD wo) := by
  have hWW := hW
  obtain ⟨⟨h0, h1, h2, h3⟩, ⟨h4, h5, h6, h7, h8⟩, hB, hR, -⟩ := hW
  have hB := hB b hb.1 hb.2
  have hR := hR r hr.1 hr.2
  unfold vX10_tells
  rcases hF with ⟨f1, f2⟩ | ⟨f1, f2, f3⟩
  · refine T_t f1 (T_some ⟨ScM_r, ?_⟩)
    rw [f2]
    rfl
  · refine T_f (by omega) ?_
    repeat (with_reducible first | refine T_ck (by omega) ?_ | refine T_nm ?_)
    have hw := lw_ok hWW hb hr (t := σ 86 (17 + r).toNat) (by omega)
    have main : ∀ z, z = lw (σ 86) b r (σ 86 (17 + r).toNat) 6 → T (vX10_tells_142 k wo 7 z (up2 (up2 (up2 (up2 (up2 (up2 (up2 σ 84 34 (105 + 900 * σ 86 3)) 102 1 b) 102 2 (σ 86 (71 + b).toNat)) 102 3 (σ 86 (9 + b).toNat)) 102 4 r) 102 5 (σ 86 (17 + r).toNat)) 102 6 (σ 86 (23 + r).toNat))) (fun p => ScM σ p.2 ∧ p.1 = (Dn kd ts fs n k (lw (σ 86) b r (σ 86 (17 + r).toNat))).getD wo) := by
      intro z hz
      refine m_tells_142 f3 (by omega) hw ?_ ?_ ?_ ?_ hz rfl rfl
      · exact ScM_o (ScM_o (ScM_o (ScM_o (ScM_o (ScM_o (ScM_84 ScM_r (Or.inl rfl)) (Or.inl rfl)) (Or.inl rfl)) (Or.inl rfl)) (Or.inl rfl)) (Or.inl rfl)) (Or.inl rfl)
      · simp (disch := omega) only [up2_o, up2_c]
        rw [upw_s]
      · simp (disch := omega) only [up2_o, up2_c]
        rw [upw_n (by omega)]; exact h20
      · intro j hj
        simp (disch := omega) only [up2_o, up2_c]
        match j with
        | 0 => rfl
        | 1 => rfl
        | 2 => rfl
        | 3 => rfl
        | 4 => rfl
        | 5 => rfl
        | j + 6 => omega
    simp (disch := omega) only [up2_o]
    refine T_ite (fun h => ?_) (fun h => ?_)
    · refine T_bind (R := fun z => z = lw (σ 86) b r (σ 86 (17 + r).toNat) 6) ?_ (fun z hz => ?_)
      · refine T_eq (m_keptFor (by omega) ?_ ?_) (T_some ?_)
        · simp (disch := omega) only [up2_o]; omega
        · simp (disch := omega) only [up2_o]; omega
        · simp (disch := omega) only [up2_o]
          show _ = if σ 86 (29 + r).toNat = b then σ 86 4 - σ 86 (35 + r).toNat else -1
          rw [if_pos h]
      · exact main z hz
    · refine main (-1) ?_
      show _ = if σ 86 (29 + r).toNat = b then σ 86 4 - σ 86 (35 + r).toNat else -1
      rw [if_neg h]
