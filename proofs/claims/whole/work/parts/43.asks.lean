/-! ===== questions ===== -/
theorem H13 {σ : Sg} {ρ : Nat → Int} (h : HallIs σ 13 ρ) : (σ 13 1 = ρ 0 ∧ σ 13 2 = ρ 1 ∧ σ 13 3 = ρ 8)
  ∧ (∀ b : Int, 0 ≤ b → b < 8 → σ 14 b.toNat = ρ (71 + b).toNat ∧ σ 15 b.toNat = ρ (79 + b).toNat ∧ σ 16 b.toNat = ρ (87 + b).toNat ∧ σ 17 b.toNat = ρ (9 + b).toNat)
  ∧ (∀ r : Int, 0 ≤ r → r < 6 → σ 18 r.toNat = ρ (17 + r).toNat ∧ σ 19 r.toNat = ρ (95 + r).toNat ∧ σ 20 r.toNat = ρ (23 + r).toNat ∧ σ 21 r.toNat = ρ (29 + r).toNat ∧ (ρ (29 + r).toNat ≠ -1 → σ 22 r.toNat = ρ (35 + r).toNat) ∧ σ 23 r.toNat = ρ (41 + r).toNat)
  ∧ (∀ i : Int, 0 ≤ i → i < 12 → σ 24 i.toNat = ρ (47 + 2 * i).toNat ∧ σ 25 i.toNat = ρ (47 + 2 * i + 1).toNat)
  ∧ (σ 26 0 = ρ 4 ∧ σ 26 1 = ρ 5 ∧ σ 26 2 = ρ 6 ∧ σ 26 3 = ρ 7) := h
theorem u84 {σ : Sg} {j : Nat} {z : Int} (h : j ≠ 0) : up2 σ 84 0 z 84 j = σ 84 j := by rw [up2_c, upw_n h]
theorem u84o {σ : Sg} {k : Nat} {z : Int} (h : k ≠ 84) : up2 σ 84 0 z k = σ k := up2_o h
theorem s_slips {K : Kt} {σ : Sg} {n : Int} (hI : Inv K σ n) : St0 K n (vX9_slips K σ) (vX10_slips σ) := by
  obtain ⟨⟨hK, ⟨hW, hH⟩, hL, hU, hD, hT, hM, hC⟩, hS⟩ := id hI
  unfold vX9_slips vX10_slips
  refine T_some (T_nm (T_some ⟨?_, Inv_scr hI (Scr_0 Scr_r)⟩))
  show up2 σ 84 0 0 84 11 = σ 0 12
  rw [u84 (by omega)]; exact hT.2.2.2.1.1.symm
theorem s_fault {K : Kt} {σ : Sg} {n : Int} (hI : Inv K σ n) : St0 K n (vX9_fault K σ) (vX10_fault σ) := by
  obtain ⟨⟨hK, ⟨hW, hH⟩, hL, hU, hD, hT, hM, hC⟩, hS⟩ := id hI
  unfold vX9_fault vX10_fault
  refine T_some (T_nm (T_some ⟨?_, Inv_scr hI (Scr_0 Scr_r)⟩))
  show up2 σ 84 0 0 84 18 = σ 63 2
  rw [u84 (by omega)]; exact hT.2.2.1.symm
theorem s_stopped {K : Kt} {σ : Sg} {n : Int} (hI : Inv K σ n) : St0 K n (vX9_stopped K σ) (vX10_stopped σ) := by
  obtain ⟨⟨hK, ⟨hW, hH⟩, hL, hU, hD, hT, hM, hC⟩, hS⟩ := id hI
  unfold vX9_stopped vX10_stopped
  refine T_some (T_nm (T_some ⟨?_, Inv_scr hI (Scr_0 Scr_r)⟩))
  show up2 σ 84 0 0 84 52 = σ 0 13
  rw [u84 (by omega)]; exact hT.2.2.2.2.1.symm
theorem s_status {K : Kt} {σ : Sg} {n : Int} (hI : Inv K σ n) : St0 K n (vX9_status K σ) (vX10_status σ) := by
  obtain ⟨⟨hK, ⟨hW, hH⟩, hL, hU, hD, hT, hM, hC⟩, hS⟩ := id hI
  unfold vX9_status vX10_status
  refine T_some (T_nm (T_some ⟨?_, Inv_scr hI (Scr_0 Scr_r)⟩))
  show up2 σ 84 0 0 84 1 = σ 0 14
  rw [u84 (by omega)]; exact hS.1.symm
theorem s_of {K : Kt} {σ : Sg} {n p1 p2 : Int} (hI : Inv K σ n) : St0 K n (vX9_of K p1 p2 σ) (vX10_of p1 p2 σ) := by
  obtain ⟨⟨hK, ⟨hW, hH⟩, hL, hU, hD, hT, hM, hC⟩, hS⟩ := id hI
  obtain ⟨⟨g0, g1, g8⟩, gB, gR, gI, g4, g5, g6, g7⟩ := H13 hH
  have hI' := Inv_scr hI (Scr_0 (z := 0) Scr_r)
  have e86 : up2 σ 84 0 0 86 = σ 86 := u84o (by omega)
  have h08 := hW.1.1
  unfold vX9_of vX10_of
  rw [h_hasBook, Option.bind_some, g0]
  by_cases hb : 0 ≤ p1 ∧ p1 < σ 86 0
  · have gB := gB p1 hb.1 (by omega)
    refine T_f (by rw [bI_t hb]; omega) ?_
    have go : ∀ (z : Int) (w : Sg → Option (Int × Sg)), T (w (up2 σ 84 0 0)) (fun q => q.1 = z ∧ q.2 = up2 σ 84 0 0) → T (nm (up2 σ 84 0 0) (fun σ1 => (vX10_isBook p1 σ1).bind (fun r2 => if r2 = 0 then (some ((-1), σ1)) else w σ1))) (fun q => q.1 = z ∧ Inv K q.2 (n + 1)) := by
      intro z w hw
      refine T_nm ?_
      rw [m_isBook (by rw [e86]; exact hW.1.1), Option.bind_some, e86]
      refine T_f (by rw [bI_t hb]; omega) (T_mono hw (fun q hq => ⟨hq.1, by rw [hq.2]; exact hI'⟩))
    refine T_ite (fun h => ?_) (fun h0 => T_ite (fun h => ?_) (fun h1 => T_ite (fun h => ?_) (fun h2 => T_ite (fun h => ?_) (fun h3 => T_ite (fun h => ?_) (fun h4 => ?_)))))
    · with_reducible refine T_ck (by omega) ?_
      refine T_some (go _ _ ?_)
      repeat (with_reducible first | refine T_ck (by omega) ?_ | refine T_nm ?_ | refine T_t (by assumption) ?_ | refine T_f (by assumption) ?_)
      rw [e86]
      exact T_some ⟨gB.1.symm, rfl⟩
    · with_reducible refine T_ck (by omega) ?_
      refine T_some (go _ _ ?_)
      repeat (with_reducible first | refine T_ck (by omega) ?_ | refine T_nm ?_ | refine T_t (by assumption) ?_ | refine T_f (by assumption) ?_)
      rw [e86]
      exact T_some ⟨gB.2.1.symm, rfl⟩
    · with_reducible refine T_ck (by omega) ?_
      refine T_some (go _ _ ?_)
      repeat (with_reducible first | refine T_ck (by omega) ?_ | refine T_nm ?_ | refine T_t (by assumption) ?_ | refine T_f (by assumption) ?_)
      rw [e86]
      exact T_some ⟨gB.2.2.1.symm, rfl⟩
    · with_reducible refine T_ck (by omega) ?_
      refine T_some (go _ _ ?_)
      repeat (with_reducible first | refine T_ck (by omega) ?_ | refine T_nm ?_ | refine T_t (by assumption) ?_ | refine T_f (by assumption) ?_)
      rw [e86]
      exact T_some ⟨gB.2.2.2.symm, rfl⟩
    · refine T_bind (c_readerWith hH hW) (fun z hz => T_some (go _ _ ?_))
      repeat (with_reducible first | refine T_ck (by omega) ?_ | refine T_nm ?_ | refine T_t (by assumption) ?_ | refine T_f (by assumption) ?_)
      refine T_bind (m_readerWith (b := p1) (by rw [e86]; exact hW) (by omega)) (fun y hy => T_some ⟨?_, rfl⟩)
      rw [e86] at hy
      show y = z
      rcases hz with ⟨a, b⟩ | ⟨a, b, c⟩
      · rcases hy with ⟨a', b'⟩ | ⟨a', b', c'⟩
        · omega
        · exact absurd c' (b y a' b')
      · rcases hy with ⟨a', b'⟩ | ⟨a', b', c'⟩
        · exact absurd c (b' z a b)
        · exact hW.2.2.2.2.1 y z a' b' a b (by rw [c, c']) (by omega)
    · refine T_some (go _ _ ?_)
      repeat (with_reducible first | refine T_ck (by omega) ?_ | refine T_nm ?_ | refine T_t (by assumption) ?_ | refine T_f (by assumption) ?_)
      exact T_some ⟨rfl, rfl⟩
  · refine T_t (bI_f hb) (T_some (T_nm ?_))
    rw [m_isBook (by rw [e86]; exact hW.1.1), Option.bind_some, e86]
    exact T_t (bI_f hb) (T_some ⟨rfl, hI'⟩)
theorem s_at {K : Kt} {σ : Sg} {n p1 p2 : Int} (hI : Inv K σ n) : St0 K n (vX9_at K p1 p2 σ) (vX10_at p1 p2 σ) := by
  obtain ⟨⟨hK, ⟨hW, hH⟩, hL, hU, hD, hT, hM, hC⟩, hS⟩ := id hI
  obtain ⟨⟨g0, g1, g8⟩, gB, gR, gI, g4, g5, g6, g7⟩ := H13 hH
  have hI' := Inv_scr hI (Scr_0 (z := 0) Scr_r)
  have e86 : up2 σ 84 0 0 86 = σ 86 := u84o (by omega)
  have h08 := hW.1.2.1
  unfold vX9_at vX10_at
  rw [h_hasReader, Option.bind_some, g1]
  by_cases hb : 0 ≤ p1 ∧ p1 < σ 86 1
  · have gR := gR p1 hb.1 (by omega)
    have hR := hW.2.2.2.1 p1 hb.1 hb.2
    refine T_f (by rw [bI_t hb]; omega) ?_
    have go : ∀ (z : Int) (w : Sg → Option (Int × Sg)), T (w (up2 σ 84 0 0)) (fun q => q.1 = z ∧ q.2 = up2 σ 84 0 0) → T (nm (up2 σ 84 0 0) (fun σ1 => (vX10_isReader p1 σ1).bind (fun r2 => if r2 = 0 then (some ((-1), σ1)) else w σ1))) (fun q => q.1 = z ∧ Inv K q.2 (n + 1)) := by
      intro z w hw
      refine T_nm ?_
      rw [m_isReader (by rw [e86]; exact hW.1.2.1), Option.bind_some, e86]
      refine T_f (by rw [bI_t hb]; omega) (T_mono hw (fun q hq => ⟨hq.1, by rw [hq.2]; exact hI'⟩))
    refine T_ite (fun h => ?_) (fun h0 => T_ite (fun h => ?_) (fun h1 => T_ite (fun h => ?_) (fun h2 => T_ite (fun h => ?_) (fun h3 => T_ite (fun h => ?_) (fun h4 => T_ite (fun h => ?_) (fun h5 => ?_))))))
    · with_reducible refine T_ck (by omega) ?_
      refine T_some (go _ _ ?_)
      repeat (with_reducible first | refine T_ck (by omega) ?_ | refine T_nm ?_ | refine T_t (by assumption) ?_ | refine T_f (by assumption) ?_)
      rw [e86]
      exact T_some ⟨gR.1.symm, rfl⟩
    · with_reducible refine T_ck (by omega) ?_
      refine T_some (go _ _ ?_)
      repeat (with_reducible first | refine T_ck (by omega) ?_ | refine T_nm ?_ | refine T_t (by assumption) ?_ | refine T_f (by assumption) ?_)
      rw [e86]
      exact T_some ⟨gR.2.1.symm, rfl⟩
    · with_reducible refine T_ck (by omega) ?_
      refine T_some (go _ _ ?_)
      repeat (with_reducible first | refine T_ck (by omega) ?_ | refine T_nm ?_ | refine T_t (by assumption) ?_ | refine T_f (by assumption) ?_)
      rw [e86]
      exact T_some ⟨gR.2.2.1.symm, rfl⟩
    · with_reducible refine T_ck (by omega) ?_
      refine T_some (go _ _ ?_)
      repeat (with_reducible first | refine T_ck (by omega) ?_ | refine T_nm ?_ | refine T_t (by assumption) ?_ | refine T_f (by assumption) ?_)
      rw [e86]
      exact T_some ⟨gR.2.2.2.1.symm, rfl⟩
    · with_reducible refine T_ck (by omega) ?_
      rw [gR.2.2.2.1]
      refine T_ite (fun c => ?_) (fun c => ?_)
      · refine T_some (go _ _ ?_)
        repeat (with_reducible first | refine T_ck (by omega) ?_ | refine T_nm ?_ | refine T_t (by assumption) ?_ | refine T_f (by assumption) ?_)
        rw [e86]
        exact T_some ⟨hR.2.2.2.2.1.2.2.1 c, rfl⟩
      · with_reducible refine T_ck (by omega) ?_
        refine T_some (go _ _ ?_)
        repeat (with_reducible first | refine T_ck (by omega) ?_ | refine T_nm ?_ | refine T_t (by assumption) ?_ | refine T_f (by assumption) ?_)
        rw [e86]
        exact T_some ⟨(gR.2.2.2.2.1 c).symm, rfl⟩
    · with_reducible refine T_ck (by omega) ?_
      refine T_some (go _ _ ?_)
      repeat (with_reducible first | refine T_ck (by omega) ?_ | refine T_nm ?_ | refine T_t (by assumption) ?_ | refine T_f (by assumption) ?_)
      rw [e86]
      exact T_some ⟨gR.2.2.2.2.2.symm, rfl⟩
    · refine T_some (go _ _ ?_)
      repeat (with_reducible first | refine T_ck (by omega) ?_ | refine T_nm ?_ | refine T_t (by assumption) ?_ | refine T_f (by assumption) ?_)
      exact T_some ⟨rfl, rfl⟩
  · refine T_t (bI_f hb) (T_some (T_nm ?_))
    rw [m_isReader (by rw [e86]; exact hW.1.2.1), Option.bind_some, e86]
    exact T_t (bI_f hb) (T_some ⟨rfl, hI'⟩)
/-! who is with a book, counted -/
def cntW (ρ : Nat → Int) : Nat → Int
  | 0 => 0
  | k + 1 => cntW ρ k + (if ρ (29 + (k : Int)).toNat = -1 then 0 else 1)
theorem cntW_b (ρ : Nat → Int) : ∀ k : Nat, 0 ≤ cntW ρ k ∧ cntW ρ k ≤ k
  | 0 => by rw [cntW]; omega
  | k + 1 => by
    have := cntW_b ρ k
    rw [cntW]
    split <;> omega
theorem c_lentOut_4 {K : Kt} {σ : Sg} {o : Nat} {ρ : Nat → Int} (hH : HallIs σ o ρ) (h1 : 0 ≤ ρ 1 ∧ ρ 1 ≤ 6) : ∀ (f k : Nat), (ρ 1).toNat - k < f → (k : Int) ≤ ρ 1 → vX1_lentOut_4 K o σ f (cntW ρ k) (k : Int) = some (cntW ρ (ρ 1).toNat) := by
  obtain ⟨⟨g0, g1, g8⟩, gB, gR, gI, g4, g5, g6, g7⟩ := hH
  intro f
  induction f with
  | zero => intro k h; omega
  | succ f ih =>
    intro k hf hk
    have cb := cntW_b ρ k
    rw [vX1_lentOut_4, g1]
    by_cases h : (k : Int) < ρ 1
    · rw [if_pos h, ck_p (by omega), (gR k (by omega) (by omega)).2.2.2.1]
      have nx := ih (k + 1) (by omega) (by omega)
      rw [cntW, show ((k + 1 : Nat) : Int) = (k : Int) + 1 by omega] at nx
      by_cases c : ρ (29 + (k : Int)).toNat = -1
      · rw [if_pos c, Int.add_zero] at nx
        rw [if_pos c, ck_p (by omega)]; exact nx
      · rw [if_neg c] at nx
        rw [if_neg c, ck_p (by omega), ck_p (by omega)]; exact nx
    · rw [if_neg h, show (ρ 1).toNat = k by omega]
theorem m_lentOnes_4 {σ : Sg} (h1 : 0 ≤ σ 86 1 ∧ σ 86 1 ≤ 6) : ∀ (f k : Nat), (σ 86 1).toNat - k < f → (k : Int) ≤ σ 86 1 → T (vX10_lentOnes_4 σ f (cntW (σ 86) k) (k : Int)) (fun p => p = cntW (σ 86) (σ 86 1).toNat) := by
  intro f
  induction f with
  | zero => intro k h; omega
  | succ f ih =>
    intro k hf hk
    have cb := cntW_b (σ 86) k
    rw [vX10_lentOnes_4]
    refine T_ite (fun h => ?_) (fun h => ?_)
    · have es : cntW (σ 86) (k + 1) = cntW (σ 86) k + (if σ 86 (29 + (k : Int)).toNat = -1 then 0 else 1) := rfl
      rw [show (k : Int) + 1 = ((k + 1 : Nat) : Int) by omega]
      repeat (with_reducible first | refine T_ck (by omega) ?_ | refine T_nm ?_)
      refine T_ite (fun c => ?_) (fun c => ?_)
      · rw [if_pos c] at es
        rw [← es]
        have cb1 := cntW_b (σ 86) (k + 1)
        repeat (with_reducible first | refine T_ck (by omega) ?_ | refine T_nm ?_)
        exact ih (k + 1) (by omega) (by omega)
      · rw [if_neg c] at es
        rw [← es]
        have cb1 := cntW_b (σ 86) (k + 1)
        repeat (with_reducible first | refine T_ck (by omega) ?_ | refine T_nm ?_)
        exact ih (k + 1) (by omega) (by omega)
    · rw [show (σ 86 1).toNat = k by omega]
      exact T_some rfl
theorem s_count {K : Kt} {σ : Sg} {n p1 : Int} (hI : Inv K σ n) (hp : in32 p1) : St0 K n (vX9_count K p1 σ) (vX10_count p1 σ) := by
  obtain ⟨⟨hK, ⟨hW, hH⟩, hL, hU, hD, hT, hM, hC⟩, hS⟩ := id hI
  obtain ⟨⟨g0, g1, g8⟩, gB, gR, gI, g4, g5, g6, g7⟩ := H13 hH
  have hI' := Inv_scr hI (Scr_0 (z := 0) Scr_r)
  have e86 : up2 σ 84 0 0 86 = σ 86 := u84o (by omega)
  have e85 : up2 σ 84 0 0 85 = σ 85 := u84o (by omega)
  have h16 := hW.1.2.1
  have hR := hS.2
  unfold vX9_count vX10_count
  rw [c_within, Option.bind_some]
  by_cases hw : 13 ≤ p1 ∧ p1 ≤ 16
  · refine T_f (by rw [bI_t hw]; omega) ?_
    repeat (with_reducible first | refine T_ck (by omega) ?_ | refine T_nm ?_)
    refine T_some ?_
    repeat (with_reducible first | refine T_ck (by omega) ?_ | refine T_nm ?_ | refine T_t (by omega) ?_ | refine T_f (by omega) ?_)
    rw [m_in, Option.bind_some]
    refine T_f (by rw [bI_t hw]; omega) ?_
    repeat (with_reducible first | refine T_ck (by omega) ?_ | refine T_nm ?_)
    refine T_some ⟨?_, hI'⟩
    show up2 σ 84 0 0 86 (4 + p1 - 13).toNat = σ 26 (p1 - 13).toNat
    rw [e86]
    obtain h | h | h | h : p1 = 13 ∨ p1 = 14 ∨ p1 = 15 ∨ p1 = 16 := by omega
    · subst h; exact g4.symm
    · subst h; exact g5.symm
    · subst h; exact g6.symm
    · subst h; exact g7.symm
  · refine T_t (bI_f hw) ?_
    have fin : ∀ (z y : Int), z = y → (fun q : Int × Sg => q.1 = y ∧ Inv K q.2 (n + 1)) (z, up2 σ 84 0 0) := fun z y h => ⟨h, hI'⟩
    refine T_ite (fun h => T_some ?_) (fun h0 => T_ite (fun h => T_some ?_) (fun h1 => T_ite (fun h => ?_) (fun h2 => T_ite (fun h => T_some ?_) (fun h3 => T_ite (fun h => T_some ?_) (fun h4 => T_ite (fun h => T_some ?_) (fun h5 => T_ite (fun h => T_some ?_) (fun h6 => T_ite (fun h => T_some ?_) (fun h7 => T_ite (fun h => T_some ?_) (fun h8 => T_ite (fun h => T_some ?_) (fun h9 => T_ite (fun h => T_some ?_) (fun h10 => T_ite (fun h => T_some ?_) (fun h11 => T_ite (fun h => T_some ?_) (fun h12 => T_some ?_)))))))))))))
    · repeat (with_reducible first | refine T_ck (by omega) ?_ | refine T_nm ?_ | refine T_t (by assumption) ?_ | refine T_f (by assumption) ?_)
      exact T_some (fin _ _ (by rw [e86]; exact g0.symm))
    · repeat (with_reducible first | refine T_ck (by omega) ?_ | refine T_nm ?_ | refine T_t (by assumption) ?_ | refine T_f (by assumption) ?_)
      exact T_some (fin _ _ (by rw [e86]; exact g1.symm))
    · have a := c_lentOut_4 (K := K) hH h16 FU 0 (by have := FU_b; omega) (by omega)
      have b := m_lentOnes_4 (σ := up2 σ 84 0 0) (by rw [e86]; exact h16) FU 0 (by rw [e86]; have := FU_b; omega) (by rw [e86]; omega)
      have a' : vX1_lentOut K 13 σ = some (cntW (σ 86) (σ 86 1).toNat) := a
      rw [e86] at b
      rw [a', Option.bind_some]
      refine T_some ?_
      repeat (with_reducible first | refine T_ck (by omega) ?_ | refine T_nm ?_ | refine T_t (by assumption) ?_ | refine T_f (by assumption) ?_)
      exact T_bind b (fun y hy => T_some (fin _ _ hy))
    · repeat (with_reducible first | refine T_ck (by omega) ?_ | refine T_nm ?_ | refine T_t (by assumption) ?_ | refine T_f (by assumption) ?_)
      exact T_some (fin _ _ (by rw [e86]; exact g8.symm))
    · repeat (with_reducible first | refine T_ck (by omega) ?_ | refine T_nm ?_ | refine T_t (by assumption) ?_ | refine T_f (by assumption) ?_)
      exact T_some (fin _ _ (by rw [e86]; exact hL.1.1.symm))
    · repeat (with_reducible first | refine T_ck (by omega) ?_ | refine T_nm ?_ | refine T_t (by assumption) ?_ | refine T_f (by assumption) ?_)
      obtain ⟨L, u1, u2⟩ := hU
      exact T_some (fin _ _ (by rw [u84 (by omega), u2.1]; exact u1.2.1.symm))
    · repeat (with_reducible first | refine T_ck (by omega) ?_ | refine T_nm ?_ | refine T_t (by assumption) ?_ | refine T_f (by assumption) ?_)
      exact T_some (fin _ _ (by rw [u84 (by omega)]; exact hT.1.1.symm))
    · repeat (with_reducible first | refine T_ck (by omega) ?_ | refine T_nm ?_ | refine T_t (by assumption) ?_ | refine T_f (by assumption) ?_)
      exact T_some (fin _ _ (by rw [e85]; exact (hR 1 (by omega)).1.symm))
    · repeat (with_reducible first | refine T_ck (by omega) ?_ | refine T_nm ?_ | refine T_t (by assumption) ?_ | refine T_f (by assumption) ?_)
      exact T_some (fin _ _ (by rw [e85]; exact (hR 2 (by omega)).1.symm))
    · repeat (with_reducible first | refine T_ck (by omega) ?_ | refine T_nm ?_ | refine T_t (by assumption) ?_ | refine T_f (by assumption) ?_)
      exact T_some (fin _ _ (by rw [e85]; exact (hR 3 (by omega)).1.symm))
    · repeat (with_reducible first | refine T_ck (by omega) ?_ | refine T_nm ?_ | refine T_t (by assumption) ?_ | refine T_f (by assumption) ?_)
      exact T_some (fin _ _ (by rw [e85]; exact (hR 5 (by omega)).1.symm))
    · repeat (with_reducible first | refine T_ck (by omega) ?_ | refine T_nm ?_ | refine T_t (by assumption) ?_ | refine T_f (by assumption) ?_)
      exact T_some (fin _ _ (by rw [e85]; exact (hR 6 (by omega)).1.symm))
    · repeat (with_reducible first | refine T_ck (by omega) ?_ | refine T_nm ?_ | refine T_t (by assumption) ?_ | refine T_f (by assumption) ?_)
      exact T_some (fin _ _ (by rw [e86]; exact hL.1.2.1.symm))
    · repeat (with_reducible first | refine T_ck (by omega) ?_ | refine T_nm ?_ | refine T_t (by assumption) ?_ | refine T_f (by assumption) ?_)
      rw [m_in, Option.bind_some]
      exact T_t (bI_f hw) (T_some (fin _ _ rfl))
theorem s_drawn {K : Kt} {σ : Sg} {n p1 p2 : Int} (hI : Inv K σ n) : St0 K n (vX9_drawn K p1 p2 σ) (vX10_drawn p1 p2 σ) := by
  obtain ⟨⟨hK, ⟨hW, hH⟩, hL, hU, hD, hT, hM, hC⟩, hS⟩ := id hI
  have hI' := Inv_scr hI (Scr_0 (z := 0) Scr_r)
  have e114 : up2 σ 84 0 0 114 = σ 114 := u84o (by omega)
  have e56 : up2 σ 84 0 0 84 56 = σ 84 56 := u84 (by omega)
  have e57 : up2 σ 84 0 0 84 57 = σ 84 57 := u84 (by omega)
  have no : ∀ (z : Int), z = -1 → (fun q : Int × Sg => q.1 = z ∧ Inv K q.2 (n + 1)) (-1, up2 σ 84 0 0) := fun z h => ⟨h.symm, hI'⟩
  have b56 : in64 (σ 84 56 - 1) ∧ in64 (σ 84 57 - 1) := by
    rcases hD with ⟨a, b, c, d⟩ | ⟨a, b, c, d, -⟩
    · rw [a, c]; omega
    · rw [a, b]; omega
  unfold vX9_drawn vX10_drawn
  refine T_ite (fun h3 => ?_) (fun h3 => ?_)
  · rw [h_hasBook, Option.bind_some]
    by_cases hb : 0 ≤ p1 ∧ p1 < σ 47 1
    · refine T_f (by rw [bI_t hb]; omega) ?_
      rcases hD with ⟨a, b, c, d⟩ | ⟨a, b, c, d, f, g⟩
      · omega
      · with_reducible refine T_ck (by omega) ?_
        refine T_some (T_nm ?_)
        rw [e56, e57]
        rw [m_in, Option.bind_some]
        refine T_f (by rw [bI_t (by omega)]; omega) (T_t h3 ?_)
        unfold vX10_drawn_36
        repeat (with_reducible first | refine T_ck (by omega) ?_ | refine T_nm ?_)
        rw [m_in, Option.bind_some]
        refine T_f (by rw [bI_t (by omega)]; omega) (T_t h3 ?_)
        repeat (with_reducible first | refine T_ck (by omega) ?_ | refine T_nm ?_)
        refine T_some ⟨?_, hI'⟩
        show up2 σ 84 0 0 114 _ = _
        rw [e114]; exact g p1 hb.1 hb.2
    · refine T_t (bI_f hb) (T_some (T_nm ?_))
      rw [e56, e57]
      rw [m_in, Option.bind_some]
      refine T_f (by rw [bI_t (by omega)]; omega) (T_t h3 ?_)
      unfold vX10_drawn_36
      repeat (with_reducible first | refine T_ck (by omega) ?_ | refine T_nm ?_)
      rw [m_in, Option.bind_some]
      refine T_t (bI_f ?_) (T_some (no _ rfl))
      rcases hD with ⟨a, b, c, d⟩ | ⟨a, b, c, d, f, g⟩
      · omega
      · omega
  · rw [h_hasReader, Option.bind_some]
    by_cases hb : 0 ≤ p1 ∧ p1 < σ 47 2
    · refine T_f (by rw [bI_t hb]; omega) ?_
      rcases hD with ⟨a, b, c, d⟩ | ⟨a, b, c, d, f, g⟩
      · omega
      · have f := f p1 hb.1 hb.2
        have go : ∀ z : Int, (0 ≤ p2 ∧ p2 ≤ 2) → σ 114 (3 * p1 + p2).toNat = z → T (nm (up2 σ 84 0 0) (fun σ1 => (vX10_in p2 0 3 σ1).bind (fun r2 => if r2 = 0 then (some ((-1), σ1)) else (if p2 = 3 then (vX10_drawn_36 p1 p2 p1 0 (σ1 84 57) σ1) else (vX10_drawn_36 p1 p2 p1 0 (σ1 84 56) σ1))))) (fun q => q.1 = z ∧ Inv K q.2 (n + 1)) := by
          intro z hp hz
          refine T_nm ?_
          rw [e56, e57]
          rw [m_in, Option.bind_some]
          refine T_f (by rw [bI_t (by omega)]; omega) (T_f h3 ?_)
          unfold vX10_drawn_36
          repeat (with_reducible first | refine T_ck (by omega) ?_ | refine T_nm ?_)
          rw [m_in, Option.bind_some]
          refine T_f (by rw [bI_t (by omega)]; omega) (T_f h3 ?_)
          repeat (with_reducible first | refine T_ck (by omega) ?_ | refine T_nm ?_)
          refine T_some ⟨?_, hI'⟩
          show up2 σ 84 0 0 114 _ = _
          rw [e114]; exact hz
        refine T_ite (fun h => ?_) (fun h0 => T_ite (fun h => ?_) (fun h1 => T_ite (fun h => ?_) (fun h2 => ?_)))
        · with_reducible refine T_ck (by omega) ?_
          exact T_some (go _ (by omega) (by rw [h, Int.add_zero]; exact f.1))
        · with_reducible refine T_ck (by omega) ?_
          exact T_some (go _ (by omega) (by rw [h]; exact f.2.1))
        · with_reducible refine T_ck (by omega) ?_
          exact T_some (go _ (by omega) (by rw [h]; exact f.2.2))
        · refine T_some (T_nm ?_)
          rw [e56, e57]
          rw [m_in, Option.bind_some]
          exact T_t (bI_f (by omega)) (T_some (no _ rfl))
    · refine T_t (bI_f hb) (T_some (T_nm ?_))
      rw [e56, e57]
      rw [m_in, Option.bind_some]
      refine T_ite (fun _ => T_some (no _ rfl)) (fun h4 => T_f h3 ?_)
      unfold vX10_drawn_36
      repeat (with_reducible first | refine T_ck (by omega) ?_ | refine T_nm ?_)
      rw [m_in, Option.bind_some]
      refine T_t (bI_f ?_) (T_some (no _ rfl))
      rcases hD with ⟨a, b, c, d⟩ | ⟨a, b, c, d, f, g⟩
      · omega
      · omega
