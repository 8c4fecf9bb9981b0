/-! ===== a row of books from the tape ===== -/
def rwOk (τ : Nat → Int) (m : Int) (ρ : Nat → Int) (i : Nat) : Prop := 4 * (i : Int) + 4 ≤ m ∧ ρ 0 < 8 ∧ bkOk (τ (4 * (i : Int)).toNat) (τ (4 * (i : Int) + 1).toNat) (τ (4 * (i : Int) + 2).toNat) (10 * τ (4 * (i : Int) + 3).toNat)
noncomputable def rwS (τ : Nat → Int) (m : Int) (s : (Nat → Int) × Int × Int) (i : Nat) : (Nat → Int) × Int × Int :=
  @ite _ (rwOk τ m s.1 i) (Classical.propDecidable _) (bookR s.1 (τ (4 * (i : Int)).toNat) (τ (4 * (i : Int) + 1).toNat) (τ (4 * (i : Int) + 2).toNat) (10 * τ (4 * (i : Int) + 3).toNat), s.2.1 + 1, s.2.2) (s.1, s.2.1, s.2.2 + 1)
noncomputable def rwN (τ : Nat → Int) (m : Int) (ρ : Nat → Int) : Nat → (Nat → Int) × Int × Int
  | 0 => (ρ, 0, 0)
  | i + 1 => rwS τ m (rwN τ m ρ i) i
theorem rwN_k {τ : Nat → Int} {m : Int} {ρ : Nat → Int} (hW : WF ρ) : ∀ i : Nat, WF (rwN τ m ρ i).1 ∧ (∀ j, j = 2 ∨ j = 3 ∨ 105 ≤ j → (rwN τ m ρ i).1 j = ρ j) ∧ (0 ≤ (rwN τ m ρ i).2.1 ∧ (rwN τ m ρ i).2.1 ≤ (i : Int)) ∧ (0 ≤ (rwN τ m ρ i).2.2 ∧ (rwN τ m ρ i).2.2 ≤ (i : Int))
  | 0 => ⟨hW, fun _ _ => rfl, by show 0 ≤ (0 : Int) ∧ (0 : Int) ≤ _; omega, by show 0 ≤ (0 : Int) ∧ (0 : Int) ≤ _; omega⟩
  | i + 1 => by
    obtain ⟨a, b, c, d⟩ := rwN_k (τ := τ) (m := m) hW i
    rw [rwN]
    unfold rwS
    by_cases h : rwOk τ m (rwN τ m ρ i).1 i
    · rw [if_pos h]
      refine ⟨WF_bookR a h.2.1 h.2.2, fun j hj => ?_, by dsimp only; omega, by dsimp only; omega⟩
      dsimp only
      rw [bookR_k ⟨a.1.1.1, h.2.1⟩ j (by omega) (by omega)]
      exact b j hj
    · rw [if_neg h]
      exact ⟨a, b, by dsimp only; omega, by dsimp only; omega⟩
theorem c_bookFromTape {K : Kt} {σ : Sg} {τ ρ : Nat → Int} {m : Int} {i : Nat} (hH : HallIs σ 13 ρ) (hW : WF ρ) (hm : σ 61 1 = m) (h4 : m ≤ 400) (hi : 4 * (i : Int) < m) (hτ : ∀ j : Nat, j < 400 → σ 62 j = τ j ∧ 0 ≤ τ j ∧ τ j ≤ 255) :
    T (vX9_bookFromTape K (4 * (i : Int)) σ) (fun p => (p.1 = 1 ∧ rwOk τ m ρ i ∧ Sme (fun k => 13 ≤ k ∧ k ≤ 26) σ p.2 ∧ HallIs p.2 13 (bookR ρ (τ (4 * (i : Int)).toNat) (τ (4 * (i : Int) + 1).toNat) (τ (4 * (i : Int) + 2).toNat) (10 * τ (4 * (i : Int) + 3).toNat))) ∨ (p.1 = 0 ∧ ¬ rwOk τ m ρ i ∧ p.2 = σ)) := by
  have h08 := hW.1.1
  have g0 : σ 13 1 = ρ 0 := hH.1.1
  unfold vX9_bookFromTape
  rw [hm, g0]
  with_reducible refine T_ck (by omega) ?_
  refine T_ite (fun h => T_some (Or.inr ⟨rfl, fun r => by have := r.1; omega, rfl⟩)) (fun h => ?_)
  refine T_ite (fun h8 => ?_) (fun h8 => T_some (Or.inr ⟨rfl, fun r => by have := r.2.1; omega, rfl⟩))
  have t0 := hτ (4 * (i : Int)).toNat (by omega)
  have t1 := hτ (4 * (i : Int) + 1).toNat (by omega)
  have t2 := hτ (4 * (i : Int) + 2).toNat (by omega)
  have t3 := hτ (4 * (i : Int) + 3).toNat (by omega)
  rw [t0.1, t1.1, t2.1, t3.1, Int.mul_comm (τ (4 * (i : Int) + 3).toNat) 10]
  repeat (with_reducible first | refine T_ck (by omega) ?_ | refine T_nm ?_)
  rw [c_bookCanBe, Option.bind_some]
  by_cases ok : bkOk (τ (4 * (i : Int)).toNat) (τ (4 * (i : Int) + 1).toNat) (τ (4 * (i : Int) + 2).toNat) (10 * τ (4 * (i : Int) + 3).toNat)
  · refine T_f (by rw [bI_t ok]; omega) ?_
    refine T_bd2 (c_addBook hH ⟨h08.1, h8⟩) (fun r σ1 h1 => T_some (Or.inl ⟨rfl, ⟨by omega, h8, ok⟩, h1.1, h1.2.2⟩))
  · exact T_t (bI_f ok) (T_some (Or.inr ⟨rfl, fun r => ok r.2.2, rfl⟩))
theorem c_row_33 {K : Kt} {σ0 : Sg} {τ ρ : Nat → Int} {m : Int} {N : Nat} (hW : WF ρ) (h4 : m ≤ 400) (hN : m ≤ 4 * (N : Int) ∧ 4 * (N : Int) < m + 4) :
    ∀ (f i : Nat) (σ : Sg), N - i < f → i ≤ N → HallIs σ 13 (rwN τ m ρ i).1 → σ 61 1 = m → (∀ j : Nat, j < 400 → σ 62 j = τ j ∧ 0 ≤ τ j ∧ τ j ≤ 255) → σ 0 12 = (rwN τ m ρ i).2.2 → Sme (fun k => k = 0 ∨ (13 ≤ k ∧ k ≤ 26)) σ0 σ → (∀ j, j ≠ 12 → σ 0 j = σ0 0 j) →
    T (vX9_row_33 K f (rwN τ m ρ i).2.1 (4 * (i : Int)) σ) (fun p => ∃ σ', p.1 = (rwN τ m ρ N).2.1 ∧ p.2 = up2 (up2 σ' 61 1 0) 0 14 0 ∧ HallIs σ' 13 (rwN τ m ρ N).1 ∧ σ' 0 12 = (rwN τ m ρ N).2.2 ∧ Sme (fun k => k = 0 ∨ (13 ≤ k ∧ k ≤ 26)) σ0 σ' ∧ ∀ j, j ≠ 12 → σ' 0 j = σ0 0 j) := by
  intro f
  induction f with
  | zero => intro i σ h; omega
  | succ f ih =>
    intro i σ hf hi hH hm hτ hs hS h0
    obtain ⟨kW, kr, kc, ks⟩ := rwN_k (τ := τ) (m := m) hW i
    rw [vX9_row_33, hm]
    refine T_ite (fun h => ?_) (fun h => ?_)
    · have es : rwN τ m ρ (i + 1) = rwS τ m (rwN τ m ρ i) i := rfl
      unfold rwS at es
      rw [show 4 * (i : Int) + 4 = 4 * ((i + 1 : Nat) : Int) by omega]
      refine T_bd2 (c_bookFromTape (τ := τ) hH kW hm h4 h hτ) (fun r σ1 h1 => ?_)
      dsimp only at h1
      rcases h1 with ⟨r1, ok, S1, H1⟩ | ⟨r0, ok, e1⟩
      · rw [if_pos ok] at es
        refine T_f (by omega) ?_
        repeat (with_reducible first | refine T_ck (by omega) ?_ | refine T_nm ?_)
        rw [show (rwN τ m ρ i).2.1 + 1 = (rwN τ m ρ (i + 1)).2.1 by rw [es]]
        refine ih (i + 1) σ1 (by omega) (by omega) (by rw [es]; exact H1) (by rw [S1 61 (by omega)]; exact hm) (by rw [S1 62 (by omega)]; exact hτ) ?_ (Sme_t hS (Sme_m S1 (fun k hk => Or.inr hk))) (fun j hj => by rw [S1 0 (by omega)]; exact h0 j hj)
        rw [S1 0 (by omega), es]; exact hs
      · rw [if_neg ok] at es
        refine T_t r0 ?_
        rw [e1, hs]
        repeat (with_reducible first | refine T_ck (by omega) ?_ | refine T_nm ?_)
        rw [show (rwN τ m ρ i).2.1 = (rwN τ m ρ (i + 1)).2.1 by rw [es]]
        refine ih (i + 1) _ (by omega) (by omega) ?_ (by rw [up2_o (by omega)]; exact hm) (by rw [up2_o (by omega)]; exact hτ) ?_ (Sme_u hS (Or.inl rfl)) (fun j hj => by rw [up2_c, upw_n hj]; exact h0 j hj)
        · rw [es]; exact HallIs_s hH (fun k k1 k2 => up2_o (by omega))
        · rw [up2_c, upw_s, es]
    · have e : i = N := by omega
      subst e
      refine T_nm ?_
      unfold vX9_grant
      exact T_some ⟨σ, rfl, rfl, hH, hs, hS, h0⟩
theorem m_row_35 {σ0 : Sg} {τ ρ : Nat → Int} {m : Int} {N : Nat} (hW : WF ρ) (h4 : m ≤ 400) (hτ : ∀ j : Nat, j < 400 → 0 ≤ τ j ∧ τ j ≤ 255) (hN : m ≤ 4 * (N : Int) ∧ 4 * (N : Int) < m + 4) :
    ∀ (f i : Nat) (σ : Sg), N - i < f → i ≤ N → σ 86 = (rwN τ m ρ i).1 → σ 93 = τ → σ 84 11 = (rwN τ m ρ i).2.2 → (∀ k, k ≠ 84 → k ≠ 86 → σ k = σ0 k) → (∀ j, j ≠ 11 → σ 84 j = σ0 84 j) →
    T (vX10_row_35 f m (rwN τ m ρ i).2.1 (4 * (i : Int)) σ) (fun p => ∃ σ', p.1 = (rwN τ m ρ N).2.1 ∧ p.2 = up2 (up2 σ' 84 8 0) 84 1 0 ∧ σ' 86 = (rwN τ m ρ N).1 ∧ σ' 84 11 = (rwN τ m ρ N).2.2 ∧ (∀ k, k ≠ 84 → k ≠ 86 → σ' k = σ0 k) ∧ ∀ j, j ≠ 11 → σ' 84 j = σ0 84 j) := by
  intro f
  induction f with
  | zero => intro i σ h; omega
  | succ f ih =>
    intro i σ hf hi h86 h93 hs hS h0
    obtain ⟨kW, kr, kc, ks⟩ := rwN_k (τ := τ) (m := m) hW i
    have k08 := kW.1.1
    rw [vX10_row_35]
    refine T_ite (fun h => ?_) (fun h => ?_)
    · have es : rwN τ m ρ (i + 1) = rwS τ m (rwN τ m ρ i) i := rfl
      unfold rwS at es
      have no : ¬ rwOk τ m (rwN τ m ρ i).1 i → T (vX10_row_93 (vX10_row_35 f) m (rwN τ m ρ i).2.1 (4 * (i : Int)) σ) (fun p => ∃ σ', p.1 = (rwN τ m ρ N).2.1 ∧ p.2 = up2 (up2 σ' 84 8 0) 84 1 0 ∧ σ' 86 = (rwN τ m ρ N).1 ∧ σ' 84 11 = (rwN τ m ρ N).2.2 ∧ (∀ k, k ≠ 84 → k ≠ 86 → σ' k = σ0 k) ∧ ∀ j, j ≠ 11 → σ' 84 j = σ0 84 j) := by
        intro ok
        rw [if_neg ok] at es
        unfold vX10_row_93
        rw [hs]
        repeat (with_reducible first | refine T_ck (by omega) ?_ | refine T_nm ?_)
        rw [show (rwN τ m ρ i).2.1 = (rwN τ m ρ (i + 1)).2.1 by rw [es], show 4 * (i : Int) + 4 = 4 * ((i + 1 : Nat) : Int) by omega]
        refine ih (i + 1) _ (by omega) (by omega) (by rw [up2_o (by omega), es]; exact h86) (by rw [up2_o (by omega)]; exact h93) (by rw [up2_c, upw_s, es]) (fun k k1 k2 => by rw [up2_o k1]; exact hS k k1 k2) (fun j hj => by rw [up2_c, upw_n hj]; exact h0 j hj)
      with_reducible refine T_ck (by omega) ?_
      refine T_ite (fun h3 => ?_) (fun h3 => no (fun r => by have := r.1; omega))
      have t3 := hτ (4 * (i : Int) + 3).toNat (by omega)
      rw [h93]
      repeat (with_reducible first | refine T_ck (by omega) ?_ | refine T_nm ?_)
      by_cases ok : bkOk (τ (4 * (i : Int)).toNat) (τ (4 * (i : Int) + 1).toNat) (τ (4 * (i : Int) + 2).toNat) (10 * τ (4 * (i : Int) + 3).toNat)
      · by_cases h8 : (rwN τ m ρ i).1 0 < 8
        · obtain ⟨σ1, e1, f1, r1⟩ := m_come_ok (σ := σ) ok (by rw [h86]; exact ⟨k08.1, h8⟩)
          rw [if_pos ⟨by omega, h8, ok⟩] at es
          rw [e1, bd2_some, h86]
          refine T_f (by omega) ?_
          repeat (with_reducible first | refine T_ck (by omega) ?_ | refine T_nm ?_)
          rw [show (rwN τ m ρ i).2.1 + 1 = (rwN τ m ρ (i + 1)).2.1 by rw [es], show 4 * (i : Int) + 4 = 4 * ((i + 1 : Nat) : Int) by omega]
          rw [h86] at r1
          refine ih (i + 1) σ1 (by omega) (by omega) (by rw [r1, es]) (by rw [f1 93 (by omega)]; exact h93) (by rw [f1 84 (by omega), es]; exact hs) (fun k k1 k2 => by rw [f1 k k2]; exact hS k k1 k2) (fun j hj => by rw [f1 84 (by omega)]; exact h0 j hj)
        · rw [m_come_full ok (by rw [h86]; omega), bd2_some]
          exact T_t (by omega) (no (fun r => h8 r.2.1))
      · rw [m_come_no ok, bd2_some]
        exact T_t (by omega) (no (fun r => ok r.2.2))
    · have e : i = N := by omega
      subst e
      rw [m_setl kc.1, bd2_some]
      exact T_some ⟨σ, rfl, rfl, h86, hs, hS, h0⟩
theorem s_row {K : Kt} {σ : Sg} {n : Int} (hI : Inv K σ n) (hn : n ≤ 600) : St2 K n (vX9_row K σ) (vX10_row) := by
  obtain ⟨⟨hK, ⟨hW, hH⟩, hL, hU, hD, hT, hM, hC⟩, hS⟩ := id hI
  obtain ⟨ht, hB, t63, ts, t52, t20⟩ := id hT
  by_cases h0 : σ 61 1 = 0
  · unfold St2 vX9_row
    refine T_t h0 ?_
    rw [c_refuse (by omega) (InvR_v hS hn (by omega) (by omega)).1, bd2_some]
    obtain ⟨a1, a2, a3, a4⟩ := anC_k (v := -6) (σ := σ)
    refine T_some ?_
    unfold vX10_row
    refine T_nm (T_nm (T_nm ?_))
    dsimp only
    have e13 : up2 (anC (-6) σ) 84 0 0 84 13 = 0 := by rw [u84 (by omega), a1 84 (by omega) (by omega)]; omega
    rw [e13]
    have ex : up2 (up2 (anC (-6) σ) 84 0 0) 84 13 0 = up2 (anC (-6) σ) 84 0 0 := by
      have := up2_id (σ := up2 (anC (-6) σ) 84 0 0) (k := 84) (j := 13)
      rw [e13] at this
      exact this
    rw [ex]
    refine T_t rfl ?_
    rw [m_told (by omega) (fun _ => by rw [up2_o (by omega), a1 85 (by omega) (by omega)]; exact (InvR_v hS hn (by omega) (by omega)).2), bd2_some]
    have r := St2_ref (m := fun σ1 => some (-6, anM (-6) (up2 σ1 84 0 0))) hI hn (v := -6) (by omega) rfl (fun _ _ => rfl)
    obtain ⟨p, e, q⟩ := r
    injection e with e
    rw [← e] at q
    exact q
  · obtain ⟨σ6, e6, s6, z2, z3⟩ := c_forget (K := K) (σ := σ) (u := 27)
    have hH6 : HallIs σ6 13 (σ 86) := HallIs_s hH (fun k k1 k2 => s6 k (by omega))
    obtain ⟨N, hN⟩ : ∃ N : Nat, σ 61 1 ≤ 4 * (N : Int) ∧ 4 * (N : Int) < σ 61 1 + 4 := ⟨((σ 61 1 + 3) / 4).toNat, by omega, by omega⟩
    unfold St2 vX9_row
    refine T_f h0 ?_
    rw [e6, Option.bind_some]
    refine T_nm ?_
    have b93 : ∀ j : Nat, j < 400 → 0 ≤ σ 93 j ∧ σ 93 j ≤ 255 := fun j hj => (hB j hj).2
    refine T_mono (c_row_33 (K := K) (σ0 := up2 σ6 0 12 0) (τ := σ 93) (ρ := σ 86) (m := σ 61 1) (N := N) hW (by omega) hN FU 0 (up2 σ6 0 12 0) (by have := FU_b; omega) (by omega) (HallIs_s hH6 (fun k k1 k2 => up2_o (by omega))) (by rw [up2_o (by omega), s6 61 (by omega)]) (fun j hj => by rw [up2_o (by omega), s6 62 (by omega)]; exact hB j hj) (by rw [up2_c, upw_s]; rfl) Sme_r (fun _ _ => rfl)) (fun p hp => ?_)
    obtain ⟨σ', p1, p2, H', q12, S', f0⟩ := hp
    have c0 : ∀ j, j ≠ 12 → σ' 0 j = σ 0 j := fun j hj => by rw [f0 j hj, up2_c, upw_n hj, s6 0 (by omega)]
    have cS : ∀ k, k ≠ 0 → k ≠ 27 → ¬ (13 ≤ k ∧ k ≤ 26) → σ' k = σ k := fun k a b c => by rw [S' k (by omega), up2_o a, s6 k b]
    have c27 : σ' 27 2 = 0 ∧ σ' 27 3 = 0 := by rw [S' 27 (by omega), up2_o (by omega)]; exact ⟨z2, z3⟩
    have P0 : ∀ j, j ≠ 12 → j ≠ 14 → p.2 0 j = σ 0 j := fun j a b => by rw [p2, up2_c, upw_n b, up2_o (by omega)]; exact c0 j a
    have P012 : p.2 0 12 = (rwN (σ 93) (σ 61 1) (σ 86) N).2.2 := by rw [p2, up2_c, upw_n (by omega), up2_o (by omega)]; exact q12
    have P014 : p.2 0 14 = 0 := by rw [p2, up2_c, upw_s]
    have P61 : p.2 61 1 = 0 := by rw [p2, up2_o (by omega), up2_c, upw_s]
    have PS : ∀ k, k ≠ 0 → k ≠ 27 → k ≠ 61 → ¬ (13 ≤ k ∧ k ≤ 26) → p.2 k = σ k := fun k a b c d => by rw [p2, up2_o a, up2_o c]; exact cS k a b d
    have P27 : p.2 27 2 = 0 ∧ p.2 27 3 = 0 := by rw [p2, up2_o (by omega), up2_o (by omega)]; exact c27
    have PH : HallIs p.2 13 (rwN (σ 93) (σ 61 1) (σ 86) N).1 := by rw [p2]; exact HallIs_s H' (fun k k1 k2 => by rw [up2_o (by omega), up2_o (by omega)])
    unfold vX10_row
    refine T_nm (T_nm (T_nm ?_))
    have e13 : up2 p.2 84 0 0 84 13 = σ 61 1 := by rw [u84 (by omega), PS 84 (by omega) (by omega) (by omega) (by omega)]; omega
    rw [e13]
    refine T_f h0 (T_nm ?_)
    refine T_mono (m_row_35 (σ0 := up2 (up2 (up2 p.2 84 0 0) 84 13 0) 84 11 0) (τ := σ 93) (ρ := σ 86) (m := σ 61 1) (N := N) hW (by omega) b93 hN FU 0 _ (by have := FU_b; omega) (by omega) (by rw [up2_o (by omega), up2_o (by omega), up2_o (by omega), PS 86 (by omega) (by omega) (by omega) (by omega)]; rfl) (by rw [up2_o (by omega), up2_o (by omega), up2_o (by omega), PS 93 (by omega) (by omega) (by omega) (by omega)]) (by rw [up2_c, upw_s]; rfl) (fun _ _ _ => rfl) (fun _ _ => rfl)) (fun q hq => ?_)
    obtain ⟨τ', u1, u2, u86, u11, uS, u84'⟩ := hq
    obtain ⟨kW, kr, kc, ks⟩ := rwN_k (τ := σ 93) (m := σ 61 1) hW N
    have Q86 : q.2 86 = (rwN (σ 93) (σ 61 1) (σ 86) N).1 := by rw [u2, up2_o (by omega), up2_o (by omega)]; exact u86
    have QS : ∀ k, k ≠ 84 → k ≠ 86 → q.2 k = p.2 k := fun k a b => by rw [u2, up2_o a, up2_o a, uS k a b, up2_o a, up2_o a, up2_o a]
    have Q84 : ∀ j, j ≠ 0 → j ≠ 1 → j ≠ 8 → j ≠ 11 → j ≠ 13 → q.2 84 j = σ 84 j := fun j a b c d e => by rw [u2, up2_c, upw_n b, up2_c, upw_n c, u84' j d, up2_c, upw_n d, up2_c, upw_n e, up2_c, upw_n a, PS 84 (by omega) (by omega) (by omega) (by omega)]
    have Q1 : q.2 84 1 = 0 := by rw [u2, up2_c, upw_s]
    have Q8 : q.2 84 8 = 0 := by rw [u2, up2_c, upw_n (by omega), up2_c, upw_s]
    have Q11 : q.2 84 11 = (rwN (σ 93) (σ 61 1) (σ 86) N).2.2 := by rw [u2, up2_c, upw_n (by omega), up2_c, upw_n (by omega)]; exact u11
    have Q13 : q.2 84 13 = 0 := by rw [u2, up2_c, upw_n (by omega), up2_c, upw_n (by omega), u84' 13 (by omega), up2_c, upw_n (by omega), up2_c, upw_s]
    have QP : ∀ k, k ≠ 0 → k ≠ 27 → k ≠ 61 → ¬ (13 ≤ k ∧ k ≤ 26) → k ≠ 84 → k ≠ 86 → q.2 k = σ k := fun k a b c d e f => by rw [QS k e f, PS k a b c d]
    refine ⟨by rw [u1, p1], ?_, ?_⟩
    · refine InvX_g hI.1 (fun k hk => QP k (by omega) (by omega) (by omega) (by omega) (by omega) (by omega)) (fun j hj => Q84 j (by omega) (by omega) (by omega) (by omega) (by omega)) (fun k hk _ => QP k (by omega) (by omega) (by omega) (by omega) (by omega) (by omega)) (by rw [Q86]; exact kW) ?_ ?_ ⟨?_, ?_, ?_, ?_, ?_, ?_⟩ ?_
      · rw [Q86]; exact HallIs_s PH (fun k k1 k2 => QS k (by omega) (by omega))
      · exact InvL_f hK hL hW.1.2.2.1.2 (by rw [QP 1 (by omega) (by omega) (by omega) (by omega) (by omega) (by omega)]) (by rw [QP 1 (by omega) (by omega) (by omega) (by omega) (by omega) (by omega)]) (by rw [QP 2 (by omega) (by omega) (by omega) (by omega) (by omega) (by omega)]) (by rw [Q86]; exact kr 2 (by omega)) (by rw [Q86]; exact kr 3 (by omega)) (fun i hi => by rw [Q86]; exact kr i (by omega)) (fun q' k _ h1 h2 _ => QP k (by omega) (by omega) (by omega) (by omega) (by omega) (by omega))
      · rw [QS 61 (by omega) (by omega), P61, Q13]; omega
      · rw [QP 62 (by omega) (by omega) (by omega) (by omega) (by omega) (by omega), QP 93 (by omega) (by omega) (by omega) (by omega) (by omega) (by omega)]; exact hB
      · rw [QP 63 (by omega) (by omega) (by omega) (by omega) (by omega) (by omega), Q84 18 (by omega) (by omega) (by omega) (by omega) (by omega)]; exact t63
      · rw [QS 0 (by omega) (by omega), P012, Q11]; omega
      · rw [QS 0 (by omega) (by omega), P0 13 (by omega) (by omega), Q84 52 (by omega) (by omega) (by omega) (by omega) (by omega)]; exact t52
      · rw [Q84 20 (by omega) (by omega) (by omega) (by omega) (by omega)]; exact t20
      · refine InvU_0 ?_ ?_ Q8
        · rw [QS 27 (by omega) (by omega)]; exact P27.1
        · rw [QS 27 (by omega) (by omega)]; exact P27.2
    · refine InvS_m (n := n) ⟨?_, fun j hj => ?_⟩ (by omega)
      · rw [QS 0 (by omega) (by omega), P014, Q1]
      · rw [QP 83 (by omega) (by omega) (by omega) (by omega) (by omega) (by omega), QP 85 (by omega) (by omega) (by omega) (by omega) (by omega) (by omega)]; exact hS.2 j hj
