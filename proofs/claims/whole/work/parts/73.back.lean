/-! ===== back ===== -/
theorem s_back {K : Kt} {σ : Sg} {n a : Int} (hI : Inv K σ n) (hn : n ≤ 600) : StK K n (vX9_back a K σ) (vX10_back a) := by
  obtain ⟨⟨hK, ⟨hW, hH⟩, hL, hU, hDD, hT, hM, hC'⟩, hS⟩ := id hI
  have c1 := hK.1.1
  have l115 := hK.1.2.2
  have m81 : (K.2.1 81).2 = 2 := by rw [(lcA_81 c1).2]
  unfold vX9_back
  rw [c_within, Option.bind_some]
  by_cases ha : 0 ≤ a ∧ a ≤ 1
  · rw [bI_t ha]
    obtain ⟨k0, ek⟩ : ∃ k0 : Nat, a = (k0 : Int) := ⟨a.toNat, by omega⟩
    subst ek
    have hk0 : k0 < 2 := by omega
    rcases hM k0 hk0 with ⟨e, e88⟩ | ⟨im, e, e88, b2, b3, b4⟩
    · have iv := InvR_v hS hn (v := -2) (by omega) (by omega)
      rw [if_neg (by omega), ckP_p (lcO_0 c1), lcR_0_9 c1, Option.bind_some, m81, ckP_p (lcA_81 c1), ck_p (by omega), Int.toNat_natCast, e, Option.elim_none, ckP_p c1, ckP_p (lcO_0 c1)]
      refine StK_2 (St2_ref hI hn (v := -2) (by omega) (c_refuse (by omega) iv.1) (fun σ1 h1 => ?_))
      unfold vX10_back
      show (vX10_in (k0 : Int) 0 1 (up2 σ1 84 0 0)).bind _ = _
      rw [m_in, Option.bind_some, bI_t ha, if_neg (show ¬ (1 : Int) = 0 by omega), ck_p (by omega), Int.toNat_natCast, up2_o (show (88 : Nat) ≠ 84 by omega), h1 88 (by omega) (by omega), if_pos e88, m_told (by omega) (fun _ => by rw [up2_o (by omega), h1 85 (by omega) (by omega)]; exact iv.2)]
      rfl
    · unfold StK
      obtain ⟨⟨i1, i2, i3, i4, i5, i6, i7, i8, i9⟩, dd⟩ := hK.2.2.2.2.2.2.2.1 k0 im hk0 e
      refine T_f (by omega) (T_ckP (lcO_0 c1) ?_)
      rw [lcR_0_9 c1, Option.bind_some, m81]
      refine T_ckP (lcA_81 c1) (T_ck (by omega) ?_)
      rw [Int.toNat_natCast, e, Option.elim_some]
      refine T_ckP (lcO_0 c1) ?_
      rw [lcR_0_1 c1, Option.bind_some]
      refine T_ckP (lcO_0 c1) ?_
      rw [Option.bind_some, m81]
      refine T_ckP (lcA_81 c1) (T_ck (by omega) ?_)
      rw [e, Option.bind_some]
      refine T_ckP i1 ?_
      rw [i3, Option.bind_some]
      refine T_ckP (hall13 c1).1 (T_ckP i7 (T_ckP (hall13 c1).1.1 ?_))
      refine T_bind (c_copyFrom (K := K) (σ := σ) (o := 13) (o2 := im + 13) (Or.inl (by omega))) (fun σ8 h8 => ?_)
      obtain ⟨S8, H8⟩ := h8
      refine T_ckP (lcO_0 c1) ?_
      rw [lcR_0_0 c1, Option.bind_some]
      refine T_ckP (lcO_0 c1) ?_
      rw [Option.bind_some, m81]
      refine T_ckP (lcA_81 c1) (T_ck (by omega) ?_)
      rw [e, Option.bind_some]
      refine T_ckP i1 ?_
      rw [i2, Option.bind_some]
      refine T_ckP (lcO_1 c1) ?_
      refine T_bdVK (c_lawCopy (σ := σ8) hK (lcO_1 c1) i4 (lcR_1_1 c1) i5 (lcA_9 c1) i6 (by omega) (by omega) i9) (fun K5 σ6 h5 => ?_)
      obtain ⟨ex, hs, p3, p4, p5, p6, p7, p8⟩ := h5
      dsimp only at ex hs p3 p4 p5 p6 p7 p8
      refine T_ckP (lcO_0 hs.1.1) ?_
      rw [lcR_0_2 hs.1.1, Option.bind_some]
      refine T_ckP (uAt_27 hs.1.1) (T_ckP (uAt_27 hs.1.1).1 ?_)
      obtain ⟨σ9, g1, g2, g3, g4⟩ := c_forget (K := K5) (σ := σ6) (u := 27)
      rw [g1, Option.bind_some]
      refine T_ckP hs.1.1 (T_ckP (lcO_0 hs.1.1) ?_)
      rw [c_grant (by omega), bd2_some]
      refine T_some ⟨?_, ?_⟩ <;> dsimp only
      · have z : ∀ b N, b ≠ 9 → nul K5 b N = nul K b N := fun b N hb => nul_c N (fun i _ => p4 b i hb)
        unfold RmL rmC rmS
        rw [z 28 16 (by omega), z 31 16 (by omega), z 81 2 (by omega), p3]
        omega
      · have C : ∀ k, k ≠ 1 → k ≠ 27 → ¬ (13 ≤ k ∧ k ≤ 26) → σ9 k = σ k := fun k k1 k2 k3 => by rw [g2 k k2, p6 k k1, S8 k k3]
        have q4 : σ9 1 4 = σ (im + 1) 4 := by rw [g2 1 (by omega), p7, S8 _ (by omega)]
        have q5 : σ9 1 5 = σ (im + 1) 5 := by rw [g2 1 (by omega), p8, S8 _ (by omega)]
        have qH : HallIs σ9 13 (imR σ k0) := HallIs_s (H8 _ b3) (fun k k1 k2 => by rw [g2 k (by omega), p6 k (by omega)])
        obtain ⟨a1, a2, a3, a4⟩ := anC_k (v := 0) (σ := σ9)
        have e0 : mn0 0 = 0 := rfl
        have eb : ∀ ρ, bmp ρ 0 = ρ := fun _ => rfl
        rw [e0] at a3
        rw [eb] at a4
        unfold vX10_back
        refine T_nm ?_
        have F : ∀ k, k ≠ 0 → k ≠ 84 → up2 (anC 0 σ9) 84 0 0 k = σ9 k := fun k c1 c2 => by
          rw [up2_o c2]
          by_cases e : k = 83
          · rw [e, a4]
          · rw [a1 k c1 e]
        have F84 : ∀ j, j ≠ 0 → up2 (anC 0 σ9) 84 0 0 84 j = σ 84 j := fun j c => by rw [u84 c, a1 84 (by omega) (by omega), C 84 (by omega) (by omega) (by omega)]
        have F0 : ∀ j, j ≠ 14 → up2 (anC 0 σ9) 84 0 0 0 j = σ 0 j := fun j c => by rw [up2_o (by omega), a2 j c, C 0 (by omega) (by omega) (by omega)]
        have F014 : up2 (anC 0 σ9) 84 0 0 0 14 = 0 := by rw [up2_o (by omega)]; exact a3
        generalize up2 (anC 0 σ9) 84 0 0 = τ at *
        rw [m_in, Option.bind_some, bI_t ha]
        refine T_f (by omega) (T_ck (by omega) ?_)
        rw [Int.toNat_natCast, F 88 (by omega) (by omega), C 88 (by omega) (by omega) (by omega), e88]
        refine T_f (by omega) (T_mono (m_back_39 (σ0 := τ) hk0 FU 0 τ (by have := FU_b; omega) (by omega) (fun _ _ => rfl) (fun i hi => by omega)) (fun q hq => ?_))
        obtain ⟨q1, σ', q2, q3, q6⟩ := hq
        refine ⟨q1, ?_⟩
        rw [q2]
        obtain ⟨d1, d2, d3, d4⟩ := anM_k (v := 0) (σ := up2 σ' 84 8 0)
        rw [e0] at d3
        rw [eb] at d4
        have G : ∀ k, k ≠ 0 → k ≠ 84 → k ≠ 86 → anM 0 (up2 σ' 84 8 0) k = σ9 k := fun k c1 c2 c3 => by
          by_cases e : k = 85
          · rw [e, d4, up2_o (by omega), q3 85 (by omega), F 85 (by omega) (by omega)]
          · rw [d1 k c2 e, up2_o c2, q3 k c3, F k c1 c2]
        have Gs : ∀ k, k ≠ 0 → k ≠ 84 → k ≠ 86 → k ≠ 1 → k ≠ 27 → ¬ (13 ≤ k ∧ k ≤ 26) → anM 0 (up2 σ' 84 8 0) k = σ k := fun k c1 c2 c3 c4 c5 c6 => by rw [G k c1 c2 c3, C k c4 c5 c6]
        have G84 : ∀ j, j ≠ 0 → j ≠ 1 → j ≠ 8 → anM 0 (up2 σ' 84 8 0) 84 j = σ 84 j := fun j c1 c2 c3 => by rw [d2 j c2, up2_c, upw_n c3, q3 84 (by omega), F84 j c1]
        have G0 : ∀ j, j ≠ 14 → anM 0 (up2 σ' 84 8 0) 0 j = σ 0 j := fun j c => by rw [d1 0 (by omega) (by omega), up2_o (by omega), q3 0 (by omega), F0 j c]
        have eR : ∀ i, i < 5505 → anM 0 (up2 σ' 84 8 0) 86 i = imR σ k0 i := fun i hi => by
          rw [d1 86 (by omega) (by omega), up2_o (by omega), q6 i hi, F 87 (by omega) (by omega), C 87 (by omega) (by omega) (by omega)]
          rfl
        have g27 : anM 0 (up2 σ' 84 8 0) 27 = σ9 27 := G 27 (by omega) (by omega) (by omega)
        have G8 : anM 0 (up2 σ' 84 8 0) 84 8 = 0 := by rw [d2 8 (by omega), up2_c, upw_s]
        have G014 : anM 0 (up2 σ' 84 8 0) 0 14 = 0 := by rw [d1 0 (by omega) (by omega), up2_o (by omega), q3 0 (by omega), F014]
        generalize anM 0 (up2 σ' 84 8 0) = υ at *
        have nT : ∀ q k, TxtAt K q → 115 ≤ q → q ≤ k → k ≤ q + 6 → υ k = σ k := fun q k _ h1 h2 _ => Gs k (by omega) (by omega) (by omega) (by omega) (by omega) (by omega)
        have E : ∀ k, k = 2 ∨ k = 89 ∨ k = 90 ∨ k = 47 ∨ (51 ≤ k ∧ k ≤ 55) ∨ k = 61 ∨ k = 62 ∨ k = 63 ∨ k = 83 ∨ k = 85 ∨ k = 87 ∨ k = 88 ∨ k = 93 ∨ (99 ≤ k ∧ k ≤ 101) ∨ k = 112 ∨ k = 114 ∨ 115 ≤ k → υ k = σ k := fun k hk => Gs k (by omega) (by omega) (by omega) (by omega) (by omega) (by omega)
        have e81 : ∀ k, K5.1 81 k = K.1 81 k := fun k => p4 81 k (by omega)
        refine ⟨⟨hs, ⟨WF_e b2 (fun i _ _ hi => eR i (by omega)) (by rw [eR 2 (by omega)]; exact b2.1.2.2.1) (by rw [eR 2 (by omega), eR 3 (by omega)]; exact b2.1.2.2.2), HallIs_e (HallIs_s qH (fun k k1 k2 => G k (by omega) (by omega) (by omega))) (fun i _ _ hi => eR i (by omega))⟩, ⟨?_, by rw [E 2 (by omega)]; exact hL.2⟩, InvU_0 (by rw [g27]; exact g3) (by rw [g27]; exact g4) G8, ?_, ?_, ?_, ?_⟩, InvS_m (n := n) ⟨?_, fun j hj => ?_⟩ (by omega)⟩
        · refine LawAll_q (ρ := imR σ k0) ?_ b2.1.2.2.1.2 (eR 2 (by omega)) (eR 3 (by omega)) (fun i _ hi => eR i hi)
          have a := LawAll_x (K' := K5) c1 i9 ex b2.1.2.2.1.2 (fun i _ => p4 (im + 9) i (by omega)) b4
          have hx' : txs K5 (im + 9) := fun i q hi' e' => by
            rw [p4 (im + 9) i (by omega)] at e'
            exact ⟨TxtAt_x (i9 i q hi' e').1 ex, (i9 i q hi' e').2⟩
          have a2 := LawAll_s2 (σ' := υ) a b2.1.2.2.1.2 hx' (by rw [E (im + 1) (by omega)]) (by rw [E (im + 1) (by omega)]) (fun i q k hi' e' k1 k2 => by
            rw [p4 (im + 9) i (by omega)] at e'
            have ht := i9 i q hi' e'
            exact nT q k ht.1 ht.2 k1 k2)
          obtain ⟨x, y, z⟩ := a2
          have g1' : υ 1 = σ9 1 := G 1 (by omega) (by omega) (by omega)
          refine ⟨by rw [g1', q4, ← E (im + 1) (by omega)]; exact x, by rw [g1', q5, ← E (im + 1) (by omega)]; exact y, fun i hi => ?_⟩
          obtain ⟨q, e', r⟩ := z i hi
          refine ⟨q, ?_, r⟩
          rw [p4 (im + 9) i (by omega)] at e'
          rw [p5 i (by have := b2.1.2.2.1.2; omega)]; exact e'
        · exact InvD_f hDD (by rw [E 47 (by omega)]) (by rw [E 47 (by omega)]) (E 51 (by omega)) (E 52 (by omega)) (E 54 (by omega)) (E 55 (by omega)) (E 114 (by omega)) (G84 56 (by omega) (by omega) (by omega)) (G84 57 (by omega) (by omega) (by omega))
        · exact InvT_f hT (by rw [E 61 (by omega)]) (E 62 (by omega)) (by rw [E 63 (by omega)]) (E 93 (by omega)) (G0 12 (by omega)) (G0 13 (by omega)) (G84 13 (by omega) (by omega) (by omega)) (G84 18 (by omega) (by omega) (by omega)) (G84 11 (by omega) (by omega) (by omega)) (G84 52 (by omega) (by omega) (by omega)) (G84 20 (by omega) (by omega) (by omega))
        · intro k hk
          have er : imR υ k = imR σ k := by unfold imR; rw [E 87 (by omega)]
          rw [E 88 (by omega), er, e81]
          rcases hM k hk with q | ⟨m, em, a, b, d, f⟩
          · exact Or.inl q
          · have hA := (hK.2.2.2.2.2.2.2.1 k m hk em).1
            obtain ⟨j1, j2, j3, j4, j5, j6, j7, j8, j9⟩ := id hA
            have e14 : ∀ i, K5.1 (m + 9) i = K.1 (m + 9) i := fun i => p4 _ i (by omega)
            have hx' : txs K5 (m + 9) := fun i q hi' e' => by
              rw [e14] at e'
              exact ⟨TxtAt_x (j9 i q hi' e').1 ex, (j9 i q hi' e').2⟩
            refine Or.inr ⟨m, em, a, b, HallIs_s d (fun k k1 k2 => E k (by omega)), ?_⟩
            refine LawAll_s2 (LawAll_x (K' := K5) c1 j9 ex b.1.2.2.1.2 (fun i _ => e14 i) f) b.1.2.2.1.2 hx' (by rw [E (m + 1) (by omega)]) (by rw [E (m + 1) (by omega)]) (fun i q k hi' e' k1 k2 => ?_)
            rw [e14] at e'
            have ht := j9 i q hi' e'
            exact nT q k ht.1 ht.2 k1 k2
        · exact InvC_f hC' (E 99 (by omega)) (E 100 (by omega)) (E 101 (by omega)) (E 112 (by omega))
        · rw [G014, d3]
        · rw [E 83 (by omega), E 85 (by omega)]
          exact hS.2 j hj
  · rw [bI_f ha]
    have iv := InvR_v hS hn (v := -1) (by omega) (by omega)
    rw [if_pos rfl, ckP_p c1, ckP_p (lcO_0 c1)]
    refine StK_2 (St2_ref hI hn (v := -1) (by omega) (c_refuse (by omega) iv.1) (fun σ1 h1 => ?_))
    unfold vX10_back
    show (vX10_in a 0 1 (up2 σ1 84 0 0)).bind _ = _
    rw [m_in, Option.bind_some, bI_f ha, if_pos rfl, m_told (by omega) (fun _ => by rw [up2_o (by omega), h1 85 (by omega) (by omega)]; exact iv.2)]
    rfl
