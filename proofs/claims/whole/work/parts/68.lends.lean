/-! ===== lend, bring, waits, pass ===== -/
def RmL (K K' : Kt) : Prop := rmC K' ≤ rmC K + 7 ∧ rmS K' ≤ rmS K + 480
theorem RmL_r {K K' : Kt} (h : Rm K K') : RmL K K' := ⟨by have := h.1; omega, by have := h.2; omega⟩
def StK (K : Kt) (n : Int) (c : Option (Int × Kt × Sg)) (m : Sg → Option (Int × Sg)) : Prop := T c (fun p => RmL K p.2.1 ∧ T (m p.2.2) (fun q => q.1 = p.1 ∧ Inv p.2.1 q.2 (n + 1)))
theorem an_pos {v : Int} (hv : 0 ≤ v) (σ : Sg) : anC v σ = up2 σ 0 14 0 ∧ anM v σ = up2 σ 84 1 0 := by
  unfold anC anM
  rw [if_neg (by omega), if_neg (by omega)]
  exact ⟨rfl, rfl⟩
theorem s_actK {K : Kt} {σ : Sg} {n kind a b : Int} (hI : Inv K σ n) (hn : n ≤ 600) (hk : 0 ≤ kind ∧ kind ≤ 3) : T (vX9_act kind a b 27 K σ) (fun p => Rm K p.2.1 ∧ Shp p.2.1 ∧ vX9_answered p.2.1 p.1 p.2.2 = some (p.1, anC p.1 p.2.2) ∧ T (nm (up2 (anC p.1 p.2.2) 84 0 0) (fun σ1 => bd2 (mAct kind a b σ1) (fun r2 σ3 => bd2 (vX10_tell r2 σ3) (fun r4 σ5 => some (r4, σ5))))) (fun q => q.1 = p.1 ∧ Inv p.2.1 q.2 (n + 1))) := by
  obtain ⟨⟨hK, ⟨hW, hH⟩, hL, hU, hDD, hT, hM, hC'⟩, hS⟩ := id hI
  obtain ⟨D, hDC, hDM⟩ := inv_force hK.1.1 hL hW
  obtain ⟨L, u1, u2⟩ := id hU
  have h20 : σ 84 20 = 0 := hT.2.2.2.2.2
  have l115 := hK.1.2.2
  refine T_mono (c_act (u := 27) hK (Or.inl rfl) u1 hH hW hL.2 hDC hk) (fun p hp => ?_)
  have rb := rfv_b (D := D) (ρ := σ 86) (kind := kind) (a := a) (b := b)
  rcases hp with ⟨p0, p1, p2, p3⟩ | ⟨p0, p1, p2, p3, p4, p5, p6, p7, p8⟩
  · -- refused
    have v0 : p.1 < 0 := by omega
    have iv := InvR_v hS hn (v := p.1) (by omega) v0
    obtain ⟨a1, a2, a3, a4⟩ := anC_k (v := p.1) (σ := p.2.2)
    refine ⟨by rw [p2]; exact Rm_r, by rw [p2]; exact hK, c_answered (by omega) (fun _ => by rw [p3 83 (by omega)]; exact iv.1), ?_⟩
    rw [p2]
    refine T_nm ?_
    have F : ∀ k, k ≠ 0 → k ≠ 83 → k ≠ 84 → k ≠ 11 → k ≠ 12 → up2 (anC p.1 p.2.2) 84 0 0 k = σ k := fun k c1 c2 c3 c4 c5 => by rw [up2_o c3, a1 k c1 c2, p3 k (by omega)]
    have F84 : ∀ j, j ≠ 0 → up2 (anC p.1 p.2.2) 84 0 0 84 j = σ 84 j := fun j c => by rw [u84 c, a1 84 (by omega) (by omega), p3 84 (by omega)]
    have e86 := F 86 (by omega) (by omega) (by omega) (by omega) (by omega)
    have F0 : ∀ j, j ≠ 14 → up2 (anC p.1 p.2.2) 84 0 0 0 j = σ 0 j := fun j c => by rw [up2_o (by omega), a2 j c, p3 0 (by omega)]
    have F014 : up2 (anC p.1 p.2.2) 84 0 0 0 14 = mn0 p.1 := by rw [up2_o (by omega)]; exact a3
    have F83 : up2 (anC p.1 p.2.2) 84 0 0 83 = bmp (σ 83) p.1 := by rw [up2_o (by omega), a4, p3 83 (by omega)]
    generalize up2 (anC p.1 p.2.2) 84 0 0 = τ at *
    refine T_bd2 (m_act (D := D) (L := L) (a := a) (b := b) (by rw [e86]; exact hW) (by rw [e86]; exact hDM) (by rw [F84 20 (by omega)]; exact h20) (UM_f u2 (F84 8 (by omega)) (fun j _ => by rw [F 89 (by omega) (by omega) (by omega) (by omega) (by omega)]) (F 90 (by omega) (by omega) (by omega) (by omega) (by omega))) hk) (fun y σ3 hy => ?_)
    rcases hy with ⟨q0, q1, q2, q3⟩ | ⟨q0, -⟩
    · dsimp only at q1 q2 q3
      rw [e86] at q1
      rw [m_told (by omega) (fun _ => by rw [q2.1 85 (by omega) (by omega) (by omega) (by omega) (by omega), F 85 (by omega) (by omega) (by omega) (by omega) (by omega), q1, ← p1]; exact iv.2), bd2_some]
      have ey : y = p.1 := by rw [q1, p1]
      obtain ⟨b1, b2, b3, b4⟩ := anM_k (v := y) (σ := σ3)
      rw [e86] at q3
      refine T_some ⟨ey, ⟨hK, ⟨?_, ?_⟩, ?_, ?_, ?_, ?_, ?_, ?_⟩, InvS_t (v := p.1) hS ⟨by omega, ?_, ?_, ?_, ?_⟩⟩
      all_goals dsimp only
      all_goals (try rw [ey] at b1 b2 b3 b4)
      · rw [ey, b1 86 (by omega) (by omega), q3]; exact hW
      · rw [ey, b1 86 (by omega) (by omega), q3]
        exact HallIs_s hH (fun k k1 k2 => by rw [b1 k (by omega) (by omega), q2.1 k (by omega) (by omega) (by omega) (by omega) (by omega), F k (by omega) (by omega) (by omega) (by omega) (by omega)])
      all_goals rw [ey]
      all_goals (
        have G : ∀ k, k ≠ 0 → k ≠ 83 → k ≠ 84 → k ≠ 85 → k ≠ 86 → k ≠ 89 → k ≠ 11 → k ≠ 12 → k ≠ 102 → k ≠ 104 → anM p.1 σ3 k = σ k := fun k c1 c2 c3 c4 c5 c6 c7 c8 c9 c10 => by rw [b1 k c3 c4, q2.1 k c3 c5 c6 c9 c10, F k c1 c2 c3 c7 c8]
        have G84 : ∀ j, j ≠ 0 → j ≠ 1 → ¬ sc84 j → anM p.1 σ3 84 j = σ 84 j := fun j c1 c2 c3 => by rw [b2 j c2, q2.2.1 j c3, F84 j c1]
        have G86 : anM p.1 σ3 86 = σ 86 := by rw [b1 86 (by omega) (by omega), q3]
        have G0 : ∀ j, j ≠ 14 → anM p.1 σ3 0 j = σ 0 j := fun j c => by rw [b1 0 (by omega) (by omega), q2.1 0 (by omega) (by omega) (by omega) (by omega) (by omega), F0 j c]
        have E : ∀ k, (k = 1 ∨ k = 2 ∨ k = 27 ∨ k = 29 ∨ k = 90 ∨ k = 47 ∨ (51 ≤ k ∧ k ≤ 55) ∨ k = 61 ∨ k = 62 ∨ k = 63 ∨ k = 93 ∨ k = 87 ∨ k = 88 ∨ (99 ≤ k ∧ k ≤ 101) ∨ k = 112 ∨ k = 114 ∨ 115 ≤ k) → anM p.1 σ3 k = σ k := fun k hk => G k (by omega) (by omega) (by omega) (by omega) (by omega) (by omega) (by omega) (by omega) (by omega) (by omega))
      · exact InvL_f hK hL hW.1.2.2.1.2 (by rw [E 1 (by omega)]) (by rw [E 1 (by omega)]) (by rw [E 2 (by omega)]) (by rw [G86]) (by rw [G86]) (fun i _ => by rw [G86]) (fun q' k _ c1 c2 _ => E k (by omega))
      · exact InvU_f hK hU (by rw [G86]; exact RS_w hW (fun _ _ => rfl)) (by rw [E 27 (by omega)]) (by rw [E 27 (by omega)]) (E 29 (by omega)) (fun i h hi' e k c1 c2 => E k (by have := (hK.2.2.1 i h hi' e).2.1; omega)) (G84 8 (by omega) (by omega) (by unfold sc84; omega)) (fun j hj => by rw [b1 89 (by omega) (by omega), q2.2.2 j (by omega), F 89 (by omega) (by omega) (by omega) (by omega) (by omega)]) (E 90 (by omega))
      · exact InvD_f hDD (by rw [E 47 (by omega)]) (by rw [E 47 (by omega)]) (E 51 (by omega)) (E 52 (by omega)) (E 54 (by omega)) (E 55 (by omega)) (E 114 (by omega)) (G84 56 (by omega) (by omega) (by unfold sc84; omega)) (G84 57 (by omega) (by omega) (by unfold sc84; omega))
      · exact InvT_f hT (by rw [E 61 (by omega)]) (E 62 (by omega)) (by rw [E 63 (by omega)]) (E 93 (by omega)) (G0 12 (by omega)) (G0 13 (by omega)) (G84 13 (by omega) (by omega) (by unfold sc84; omega)) (G84 18 (by omega) (by omega) (by unfold sc84; omega)) (G84 11 (by omega) (by omega) (by unfold sc84; omega)) (G84 52 (by omega) (by omega) (by unfold sc84; omega)) (G84 20 (by omega) (by omega) (by unfold sc84; omega))
      · exact InvI_f hK hM (E 87 (by omega)) (E 88 (by omega)) (fun k m hk e => by
          have h115 : 115 ≤ m := (hK.2.2.2.2.2.2.2.1 k m hk e).1.2.2.2.2.2.2.2.1
          exact ⟨E _ (by omega), fun k c1 _ => E k (by omega)⟩) (fun q' k _ c1 c2 _ => E k (by omega))
      · exact InvC_f hC' (E 99 (by omega)) (E 100 (by omega)) (E 101 (by omega)) (E 112 (by omega))
      · rw [b1 0 (by omega) (by omega), q2.1 0 (by omega) (by omega) (by omega) (by omega) (by omega), F014]
      · exact b3
      · rw [b1 83 (by omega) (by omega), q2.1 83 (by omega) (by omega) (by omega) (by omega) (by omega), F83]
      · rw [b4, q2.1 85 (by omega) (by omega) (by omega) (by omega) (by omega), F 85 (by omega) (by omega) (by omega) (by omega) (by omega)]
    · rw [e86] at q0; exact absurd q0 p0
  · -- done
    obtain ⟨w1, w2, w3⟩ := nwr_k (D := D) (a := a) (b := b) hW hk p0
    have v0 : 0 ≤ p.1 := by rw [p1]; exact w3.1
    obtain ⟨a1, a2, a3, a4⟩ := anC_k (v := p.1) (σ := p.2.2)
    have e0 : mn0 p.1 = 0 := by unfold mn0; rw [if_neg (by omega)]
    have eb : ∀ ρ, bmp ρ p.1 = ρ := by intro ρ; unfold bmp; rw [if_neg (by omega)]
    rw [e0] at a3
    rw [eb] at a4
    have uge : ∀ k, ucA p.2.1 28 k → 115 ≤ k := by
      rintro k ⟨i, h, hi, e, x, y⟩
      have := (p3.2.2.1 i h hi e).2.1
      omega
    have C : ∀ k, k < 115 → k ≠ 27 → k ≠ 29 → ¬ hC 13 k → p.2.2 k = σ k := fun k c1 c2 c3 c4 => p6 k (by omega) c2 c3 c4 (fun q => by have := uge k q; omega)
    refine ⟨p8, p3, c_answered (by omega) (fun q => by omega), T_nm ?_⟩
    have F : ∀ k, k < 115 → k ≠ 0 → k ≠ 84 → k ≠ 27 → k ≠ 29 → ¬ hC 13 k → up2 (anC p.1 p.2.2) 84 0 0 k = σ k := fun k c1 c2 c3 c4 c5 c6 => by
      rw [up2_o c3]
      by_cases e : k = 83
      · rw [e, a4]; exact C 83 (by omega) (by omega) (by omega) (by unfold hC; omega)
      · rw [a1 k c2 e]; exact C k c1 c4 c5 c6
    have F84 : ∀ j, j ≠ 0 → up2 (anC p.1 p.2.2) 84 0 0 84 j = σ 84 j := fun j c => by rw [u84 c, a1 84 (by omega) (by omega), C 84 (by omega) (by omega) (by omega) (by unfold hC; omega)]
    have F0 : ∀ j, j ≠ 14 → up2 (anC p.1 p.2.2) 84 0 0 0 j = σ 0 j := fun j c => by rw [up2_o (by omega), a2 j c, C 0 (by omega) (by omega) (by omega) (by unfold hC; omega)]
    have F014 : up2 (anC p.1 p.2.2) 84 0 0 0 14 = 0 := by rw [up2_o (by omega)]; exact a3
    have Fc : ∀ k, k ≠ 0 → k ≠ 84 → k ≠ 83 → up2 (anC p.1 p.2.2) 84 0 0 k = p.2.2 k := fun k c1 c2 c3 => by rw [up2_o c2, a1 k c1 c3]
    have e86 := F 86 (by omega) (by omega) (by omega) (by omega) (by omega) (by unfold hC; omega)
    generalize up2 (anC p.1 p.2.2) 84 0 0 = τ at *
    refine T_bd2 (m_act (D := D) (L := L) (a := a) (b := b) (by rw [e86]; exact hW) (by rw [e86]; exact hDM) (by rw [F84 20 (by omega)]; exact h20) (UM_f u2 (F84 8 (by omega)) (fun j _ => by rw [F 89 (by omega) (by omega) (by omega) (by omega) (by omega) (by unfold hC; omega)]) (F 90 (by omega) (by omega) (by omega) (by omega) (by omega) (by unfold hC; omega))) hk) (fun y σ3 hy => ?_)
    rcases hy with ⟨q0, -⟩ | ⟨q0, q1, q2, q3, q4⟩
    · rw [e86] at q0; exact absurd p0 q0
    · dsimp only at q1 q2 q3 q4
      rw [e86] at q1 q2 q4
      have ey : y = p.1 := by rw [q1, p1]
      rw [m_told (by omega) (fun q => by omega), bd2_some, ey]
      obtain ⟨b1, b2, b3, b4⟩ := anM_k (v := p.1) (σ := σ3)
      rw [e0] at b3
      rw [eb] at b4
      have G : ∀ k, k ≠ 84 → k ≠ 86 → k ≠ 89 → k ≠ 90 → k ≠ 102 → k ≠ 104 → anM p.1 σ3 k = τ k := fun k c1 c2 c3 c4 c5 c6 => by
        by_cases e : k = 85
        · rw [e, b4, q3.1 85 (by omega) (by omega) (by omega) (by omega) (by omega) (by omega)]
        · rw [b1 k c1 e, q3.1 k c1 c2 c3 c4 c5 c6]
      have G84 : ∀ j, j ≠ 0 → j ≠ 1 → j ≠ 8 → ¬ sc84 j → anM p.1 σ3 84 j = σ 84 j := fun j c1 c2 c3 c4 => by rw [b2 j c2, q3.2.1 j c3 c4, F84 j c1]
      have G86 : anM p.1 σ3 86 = nwr D (σ 86) kind a b := by rw [b1 86 (by omega) (by omega), q2]
      have Gs : ∀ k, k < 115 → k ≠ 0 → k ≠ 84 → k ≠ 27 → k ≠ 29 → ¬ hC 13 k → k ≠ 86 → k ≠ 89 → k ≠ 90 → k ≠ 102 → k ≠ 104 → anM p.1 σ3 k = σ k := fun k c1 c2 c3 c4 c5 c6 c7 c8 c9 c10 c11 => by rw [G k c3 c7 c8 c9 c10 c11, F k c1 c2 c3 c4 c5 c6]
      have G0 : ∀ j, j ≠ 14 → anM p.1 σ3 0 j = σ 0 j := fun j c => by rw [G 0 (by omega) (by omega) (by omega) (by omega) (by omega) (by omega), F0 j c]
      refine T_some ⟨rfl, ?_, ?_⟩
      · dsimp only
        refine InvX_hk hI.1 p3 (KY_x (Or.inl rfl) l115 p4) (fun k hk' => ?_) ?_ ⟨G0 12 (by omega), G0 13 (by omega)⟩ (fun j hj => G84 j (by omega) (by omega) (by omega) (by unfold sc84; omega)) (fun k c1 c2 c3 => ?_) (by rw [G86]; exact w1) ?_ (by rw [G86]; exact w2 2 (by omega)) (by rw [G86]; exact w2 3 (by omega)) (fun i hi => by rw [G86]; exact w2 i (by omega)) ⟨pushU L (snap (σ 86), kind), ?_, ?_⟩
        · unfold kpt at hk'
          exact Gs k (by omega) (by omega) (by omega) (by omega) (by omega) (by unfold hC; omega) (by omega) (by omega) (by omega) (by omega) (by omega)
        · rw [Gs 63 (by omega) (by omega) (by omega) (by omega) (by omega) (by unfold hC; omega) (by omega) (by omega) (by omega) (by omega) (by omega)]
        · rw [G k (by omega) (by omega) (by omega) (by omega) (by omega) (by omega), Fc k (by omega) (by omega) (by omega)]
          exact p6 k c2 (by omega) (by omega) (by unfold hC; omega) (fun ⟨i, h, hi, e, x, y⟩ => c3 ⟨i, h, hi, Or.inl e, x, y⟩)
        · rw [G86]
          exact HallIs_s p2 (fun k c1 c2 => by rw [G k (by omega) (by omega) (by omega) (by omega) (by omega) (by omega), Fc k (by omega) (by omega) (by omega)])
        · refine UC_f p5 (by rw [G86]; exact RS_w hW w2) ?_ ?_ ?_ (fun i h hi e k c1 c2 => ?_)
          · rw [G 27 (by omega) (by omega) (by omega) (by omega) (by omega) (by omega), Fc 27 (by omega) (by omega) (by omega)]
          · rw [G 27 (by omega) (by omega) (by omega) (by omega) (by omega) (by omega), Fc 27 (by omega) (by omega) (by omega)]
          · rw [G (27 + 2) (by omega) (by omega) (by omega) (by omega) (by omega) (by omega), Fc (27 + 2) (by omega) (by omega) (by omega)]
          · have := (p3.2.2.1 i h hi e).2.1
            rw [G k (by omega) (by omega) (by omega) (by omega) (by omega) (by omega), Fc k (by omega) (by omega) (by omega)]
        · exact UM_f q4 (b2 8 (by omega)) (fun j _ => by rw [b1 89 (by omega) (by omega)]) (b1 90 (by omega) (by omega))
      · dsimp only
        refine InvS_m (n := n) ⟨?_, fun j hj => ?_⟩ (by omega)
        · rw [G 0 (by omega) (by omega) (by omega) (by omega) (by omega) (by omega), F014, b3]
        · rw [Gs 83 (by omega) (by omega) (by omega) (by omega) (by omega) (by unfold hC; omega) (by omega) (by omega) (by omega) (by omega) (by omega), Gs 85 (by omega) (by omega) (by omega) (by omega) (by omega) (by unfold hC; omega) (by omega) (by omega) (by omega) (by omega) (by omega)]
          exact hS.2 j hj
theorem s_actW {K : Kt} {σ : Sg} {n kind a b : Int} {m : Sg → Option (Int × Sg)} (hI : Inv K σ n) (hn : n ≤ 600) (hk : 0 ≤ kind ∧ kind ≤ 3) (hm : ∀ σ1, m σ1 = nm (up2 σ1 84 0 0) (fun σ1 => bd2 (mAct kind a b σ1) (fun r2 σ3 => bd2 (vX10_tell r2 σ3) (fun r4 σ5 => some (r4, σ5))))) : StK K n (ckP (IsC K 0 9) ((K.1 0 2).bind (fun t2 => ckP (IsC K 0 9) (bdIK (vX9_act kind a b t2 K σ) (fun r4 K5 σ6 => ckP (cLay K5) (ckP (IsC K5 0 9) (bd2 (vX9_answered K5 r4 σ6) (fun r9 σ10 => some (r9, K5, σ10))))))))) m := by
  have hK := hI.1.1
  refine T_ckP (lcO_0 hK.1.1) ?_
  rw [lcR_0_2 hK.1.1, Option.bind_some]
  refine T_ckP (lcO_0 hK.1.1) ?_
  refine T_bdIK (s_actK hI hn hk) (fun r4 K5 σ6 h => ?_)
  obtain ⟨h1, h2, h3, h4⟩ := h
  dsimp only at h1 h2 h3 h4
  refine T_ckP h2.1.1 (T_ckP (lcO_0 h2.1.1) ?_)
  rw [h3, bd2_some]
  refine T_some ⟨RmL_r h1, ?_⟩
  dsimp only
  rw [hm]
  exact h4
theorem s_lend {K : Kt} {σ : Sg} {n a b : Int} (hI : Inv K σ n) (hn : n ≤ 600) : StK K n (vX9_lend a b K σ) (vX10_lend a b) := by
  unfold vX9_lend
  exact s_actW hI hn (by omega) (fun σ1 => rfl)
theorem s_bring {K : Kt} {σ : Sg} {n a : Int} (hI : Inv K σ n) (hn : n ≤ 600) : StK K n (vX9_bring a K σ) (vX10_bring a) := by
  unfold vX9_bring
  exact s_actW hI hn (by omega) (fun σ1 => rfl)
theorem s_waits {K : Kt} {σ : Sg} {n a b : Int} (hI : Inv K σ n) (hn : n ≤ 600) : StK K n (vX9_waits a b K σ) (vX10_waits a b) := by
  unfold vX9_waits
  exact s_actW hI hn (by omega) (fun σ1 => rfl)
theorem s_pass {K : Kt} {σ : Sg} {n : Int} (hI : Inv K σ n) (hn : n ≤ 600) : StK K n (vX9_pass K σ) (vX10_pass) := by
  unfold vX9_pass
  exact s_actW hI hn (by omega) (fun σ1 => rfl)
