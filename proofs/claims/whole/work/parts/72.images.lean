/-! ===== image and back ===== -/
theorem InvX_im {K K' : Kt} {σ σ' : Sg} {im k0 : Nat} (h : InvX K σ) (ex : Ext K K') (hs : Shp K') (hk0 : k0 < 2) (ei : K'.1 81 k0 = some im) (ek : ∀ k, k ≠ k0 → K'.1 81 k = K.1 81 k) (rf : ∀ k j, k < K.2.2.1 → k ≠ 81 → k ≠ im + 9 → K'.1 k j = K.1 k j) (rt : ∀ i, i < 6 → K'.1 (im + 9) i = K.1 9 i) (il : ∀ k m, k < 2 → k ≠ k0 → K.1 81 k = some m → m ≠ im)
    (fr : ∀ k, k < K.2.2.1 → k ≠ 0 → k ≠ 83 → k ≠ 84 → k ≠ 85 → k ≠ 87 → k ≠ 88 → k ≠ im + 1 → ¬ (im + 13 ≤ k ∧ k ≤ im + 26) → σ' k = σ k) (f0 : ∀ j, j ≠ 14 → σ' 0 j = σ 0 j) (f84 : ∀ j, j ≠ 0 → j ≠ 1 → σ' 84 j = σ 84 j) (h87 : ∀ i, i < 5505 → σ' 87 (5505 * k0 + i) = σ 86 i) (g87 : ∀ i, i < 5505 * k0 ∨ 5505 * k0 + 5505 ≤ i → σ' 87 i = σ 87 i) (h88 : σ' 88 = upw (σ 88) k0 1) (hH : HallIs σ' (im + 13) (σ 86)) (s4 : σ' (im + 1) 4 = σ 1 4) (s5 : σ' (im + 1) 5 = σ 1 5) : InvX K' σ' := by
  obtain ⟨hK, ⟨hW0, hH0⟩, hL, hU0, hD, hT, hI, hC⟩ := h
  have l115 := hK.1.2.2
  obtain ⟨⟨i1, i2, i3, i4, i5, i6, i7, i8, i9⟩, dd⟩ := hs.2.2.2.2.2.2.2.1 k0 im hk0 ei
  obtain ⟨hk1, hk2⟩ := hallAt_k i7
  have kim : (K'.2.1 (im + 1)).1 = 3 := i4.2
  have e86 : σ' 86 = σ 86 := fr 86 (by omega) (by omega) (by omega) (by omega) (by omega) (by omega) (by omega) (by omega) (by omega)
  have F : ∀ k, k = 1 ∨ k = 2 ∨ k = 27 ∨ k = 29 ∨ k = 89 ∨ k = 90 ∨ k = 47 ∨ (51 ≤ k ∧ k ≤ 55) ∨ k = 61 ∨ k = 62 ∨ k = 63 ∨ k = 93 ∨ (99 ≤ k ∧ k ≤ 101) ∨ k = 112 ∨ k = 114 → σ' k = σ k := fun k hk => fr k (by omega) (by omega) (by omega) (by omega) (by omega) (by omega) (by omega) (by omega) (by omega)
  have e9 : ∀ i, K'.1 9 i = K.1 9 i := fun i => rf 9 i (by omega) (by omega) (by omega)
  have e28 : ∀ i, K'.1 28 i = K.1 28 i := fun i => rf 28 i (by omega) (by omega) (by omega)
  have hlK : ∀ o k, hallAt K' o → o ≤ k → k ≤ o + 13 → k ≠ im + 1 := fun o k ho k1 k2 e => by
    obtain ⟨a, b⟩ := hallAt_k ho
    by_cases q : k = o
    · rw [← e, q, a] at kim; omega
    · have := b (k - o) (by omega) (by omega)
      rw [show o + (k - o) = k by omega, e, kim] at this
      omega
  have nT : ∀ q k, TxtAt K q → 115 ≤ q → q ≤ k → k ≤ q + 6 → σ' k = σ k := fun q k ht h1 h2 h3 => by
    have ht' := TxtAt_x ht ex
    refine fr k (by have := tx_lt ht; omega) (by omega) (by omega) (by omega) (by omega) (by omega) (by omega) (fun e => ?_) (fun e => ht_dis i7 ht' k e.1 e.2 ⟨h2, h3⟩)
    by_cases w : k = q
    · have := ht'.1.2
      rw [← w, e, kim] at this
      omega
    · have := (ht'.2 (k - q - 1) (by omega)).2.1
      rw [show q + 1 + (k - q - 1) = k by omega, e, kim] at this
      omega
  have nH : ∀ o k, hallAt K o → o ≠ im + 13 → 115 ≤ o → o ≤ k → k ≤ o + 13 → σ' k = σ k := fun o k ho hne h1 h2 h3 => by
    have ho' := hallAt_x ho ex
    exact fr k (by have := hl_lt ho; omega) (by omega) (by omega) (by omega) (by omega) (by omega) (by omega) (hlK o k ho' h2 h3) (fun e => hh_dis ho' i7 hne k h2 h3 e)
  have l9 : LawAll K' σ' 9 1 (σ 86) := by
    have a := LawAll_x (K' := K') hK.1.1 hK.2.1 ex hW0.1.2.2.1.2 (fun i _ => e9 i) hL.1
    refine LawAll_s2 a hW0.1.2.2.1.2 hs.2.1 (by rw [F 1 (by omega)]) (by rw [F 1 (by omega)]) (fun i q k hi' e k1 k2 => ?_)
    rw [e9] at e
    have ht := hK.2.1 i q hi' e
    exact nT q k ht.1 ht.2 k1 k2
  refine ⟨hs, ⟨by rw [e86]; exact hW0, ?_⟩, ⟨by rw [e86]; exact l9, by rw [F 2 (by omega)]; exact hL.2⟩, ?_, ?_, ?_, ?_, ?_⟩
  · rw [e86]
    exact HallIs_s hH0 (fun k k1 k2 => fr k (by omega) (by omega) (by omega) (by omega) (by omega) (by omega) (by omega) (by omega) (by omega))
  · obtain ⟨L, u1, u2⟩ := hU0
    refine ⟨L, ?_, UM_f u2 (f84 8 (by omega) (by omega)) (fun j _ => by rw [F 89 (by omega)]) (F 90 (by omega))⟩
    obtain ⟨h1, h2, h3, h4⟩ := u1
    unfold UC
    rw [F 27 (by omega), F (27 + 2) (by omega), e86]
    refine ⟨h1, h2, h3, fun i x hx => ?_⟩
    obtain ⟨g, e, b, w, d⟩ := h4 i x hx
    have e' : K.1 28 (((σ 27 2).toNat + i) % 16) = some g := e
    have m16 : ((σ 27 2).toNat + i) % 16 < 16 := Nat.mod_lt _ (by omega)
    have uh := hK.2.2.1 _ g m16 e'
    refine ⟨g, by show K'.1 28 _ = _; rw [e28]; exact e', HallIs_s b (fun k k1 k2 => nH g k uh.1 (fun q => ?_) uh.2.1 k1 k2), w, d⟩
    rw [q] at e'
    exact (dd _ m16).1 (by rw [e28]; exact e')
  · exact InvD_f hD (by rw [F 47 (by omega)]) (by rw [F 47 (by omega)]) (F 51 (by omega)) (F 52 (by omega)) (F 54 (by omega)) (F 55 (by omega)) (F 114 (by omega)) (f84 56 (by omega) (by omega)) (f84 57 (by omega) (by omega))
  · exact InvT_f hT (by rw [F 61 (by omega)]) (F 62 (by omega)) (by rw [F 63 (by omega)]) (F 93 (by omega)) (f0 12 (by omega)) (f0 13 (by omega)) (f84 13 (by omega) (by omega)) (f84 18 (by omega) (by omega)) (f84 11 (by omega) (by omega)) (f84 52 (by omega) (by omega)) (f84 20 (by omega) (by omega))
  · intro k hk
    by_cases q : k = k0
    · subst q
      have eR : ∀ i, i < 5505 → imR σ' k i = σ 86 i := h87
      refine Or.inr ⟨im, ei, by rw [h88, upw_s], WF_e hW0 (fun i _ _ hi => eR i (by omega)) (by rw [eR 2 (by omega)]; exact hW0.1.2.2.1) (by rw [eR 2 (by omega), eR 3 (by omega)]; exact hW0.1.2.2.2), HallIs_e hH (fun i _ _ hi => eR i (by omega)), ?_⟩
      refine LawAll_q (ρ := σ 86) ?_ hW0.1.2.2.1.2 (eR 2 (by omega)) (eR 3 (by omega)) (fun i _ hi => eR i hi)
      obtain ⟨a, b, c⟩ := l9
      refine ⟨by rw [s4]; exact hL.1.1, by rw [s5]; exact hL.1.2.1, fun i hi => ?_⟩
      obtain ⟨q, e, r⟩ := c i hi
      exact ⟨q, by rw [rt i (by have := hW0.1.2.2.1.2; omega), ← e9]; exact e, r⟩
    · rw [ek k q]
      rcases hI k hk with w | ⟨m, e, a, b, d, f⟩
      · exact Or.inl ⟨w.1, by rw [h88, upw_n q]; exact w.2⟩
      · have hA := (hK.2.2.2.2.2.2.2.1 k m hk e).1
        obtain ⟨j1, j2, j3, j4, j5, j6, j7, j8, j9⟩ := id hA
        have mne := il k m hk q e
        have m26 : m + 26 < K.2.2.1 := hl_lt j7
        have eR : ∀ i, i < 5505 → imR σ' k i = imR σ k i := fun i hi => g87 _ (by omega)
        have c1 : σ' (m + 1) = σ (m + 1) := by
          have j4' := (IsC_x j4 ex).2
          refine fr _ (by omega) (by omega) (by omega) (by omega) (by omega) (by omega) (by omega) (by omega) (fun w => ?_)
          by_cases z : m + 1 = im + 13
          · rw [z, hk1] at j4'; omega
          · have := hk2 (m + 1 - (im + 13)) (by omega) (by omega)
            rw [show im + 13 + (m + 1 - (im + 13)) = m + 1 by omega, j4'] at this
            omega
        have e14 : ∀ i, K'.1 (m + 9) i = K.1 (m + 9) i := fun i => rf _ i j6.1 (by omega) (by omega)
        have hx' : txs K' (m + 9) := fun i q hi' e' => by
          rw [e14] at e'
          exact ⟨TxtAt_x (j9 i q hi' e').1 ex, (j9 i q hi' e').2⟩
        refine Or.inr ⟨m, e, by rw [h88, upw_n q]; exact a, WF_e b (fun i _ _ hi => eR i (by omega)) (by rw [eR 2 (by omega)]; exact b.1.2.2.1) (by rw [eR 2 (by omega), eR 3 (by omega)]; exact b.1.2.2.2), HallIs_e (HallIs_s d (fun k k1 k2 => nH (m + 13) k j7 (by omega) (by omega) k1 k2)) (fun i _ _ hi => eR i (by omega)), ?_⟩
        refine LawAll_q (ρ := imR σ k) ?_ b.1.2.2.1.2 (eR 2 (by omega)) (eR 3 (by omega)) (fun i _ hi => eR i hi)
        refine LawAll_s2 (LawAll_x (K' := K') hK.1.1 j9 ex b.1.2.2.1.2 (fun i _ => e14 i) f) b.1.2.2.1.2 hx' (by rw [c1]) (by rw [c1]) (fun i q k hi' e' k1 k2 => ?_)
        rw [e14] at e'
        have ht := j9 i q hi' e'
        exact nT q k ht.1 ht.2 k1 k2
  · exact InvC_f hC (F 99 (by omega)) (F 100 (by omega)) (F 101 (by omega)) (F 112 (by omega))
theorem c_image_37 {K : Kt} {σ : Sg} {k0 im : Nat} (hK : Shp K) (hk0 : k0 < 2) (e : K.1 81 k0 = some im) : T (vX9_image_37 (k0 : Int) K σ) (fun p => p.1 = 0 ∧ Ext K p.2.1 ∧ Shp p.2.1 ∧ p.2.1.2 = K.2 ∧ (∀ k j, k ≠ im + 9 → p.2.1.1 k j = K.1 k j) ∧ (∀ j, j < 6 → p.2.1.1 (im + 9) j = K.1 9 j) ∧ ∃ σ', p.2.2 = anC 0 σ' ∧ (∀ k, k ≠ im + 1 → ¬ (im + 13 ≤ k ∧ k ≤ im + 26) → σ' k = σ k) ∧ σ' (im + 1) 4 = σ 1 4 ∧ σ' (im + 1) 5 = σ 1 5 ∧ ∀ ρ, HallIs σ 13 ρ → HallIs σ' (im + 13) ρ) := by
  have c1 := hK.1.1
  obtain ⟨⟨i1, i2, i3, i4, i5, i6, i7, i8, i9⟩, dd⟩ := hK.2.2.2.2.2.2.2.1 k0 im hk0 e
  have m81 : (K.2.1 81).2 = 2 := by rw [(lcA_81 c1).2]
  unfold vX9_image_37
  refine T_ckP (lcO_0 c1) ?_
  rw [lcR_0_9 c1, Option.bind_some, m81]
  refine T_ckP (lcA_81 c1) (T_ck (by omega) ?_)
  rw [Int.toNat_natCast, e, Option.bind_some]
  refine T_ckP i1 ?_
  rw [i3, Option.bind_some]
  refine T_ckP (lcO_0 c1) ?_
  rw [lcR_0_1 c1, Option.bind_some]
  refine T_ckP i7 (T_ckP (hall13 c1).1 (T_ckP i7.1 ?_))
  refine T_bind (c_copyFrom (K := K) (σ := σ) (o := im + 13) (o2 := 13) (Or.inr (by omega))) (fun σ8 h8 => ?_)
  obtain ⟨S8, H8⟩ := h8
  refine T_ckP (lcO_0 c1) ?_
  rw [Option.bind_some, m81]
  refine T_ckP (lcA_81 c1) (T_ck (by omega) ?_)
  rw [e, Option.bind_some]
  refine T_ckP i1 ?_
  rw [i2, Option.bind_some]
  refine T_ckP (lcO_0 c1) ?_
  rw [lcR_0_0 c1, Option.bind_some]
  refine T_ckP i4 ?_
  refine T_bdVK (c_lawCopy (σ := σ8) hK i4 (lcO_1 c1) i5 (lcR_1_1 c1) i6 (lcA_9 c1) (by omega) (by omega) hK.2.1) (fun K5 σ6 h5 => ?_)
  obtain ⟨p1, p2, p3, p4, p5, p6, p7, p8⟩ := h5
  dsimp only at p1 p2 p3 p4 p5 p6 p7 p8
  refine T_ckP p2.1.1 (T_ckP (lcO_0 p2.1.1) ?_)
  rw [c_grant (by omega), bd2_some]
  refine T_some ⟨rfl, p1, p2, p3, p4, p5, σ6, rfl, fun k k1 k2 => ?_, ?_, ?_, fun ρ hρ => ?_⟩
  · rw [p6 k k1, S8 k (by omega)]
  · rw [p7, S8 1 (by omega)]
  · rw [p8, S8 1 (by omega)]
  · exact HallIs_s (H8 ρ hρ) (fun k k1 k2 => p6 k (by omega))
theorem fin_image {K K' : Kt} {σ σc : Sg} {n : Int} {im k0 : Nat} (hI : Inv K σ n) (ex : Ext K K') (hs : Shp K') (hk0 : k0 < 2) (ei : K'.1 81 k0 = some im) (ek : ∀ k, k ≠ k0 → K'.1 81 k = K.1 81 k) (rf : ∀ k j, k < K.2.2.1 → k ≠ 81 → k ≠ im + 9 → K'.1 k j = K.1 k j) (rt : ∀ i, i < 6 → K'.1 (im + 9) i = K.1 9 i) (il : ∀ k m, k < 2 → k ≠ k0 → K.1 81 k = some m → m ≠ im)
    (fr : ∀ k, k < K.2.2.1 → k ≠ im + 1 → ¬ (im + 13 ≤ k ∧ k ≤ im + 26) → σc k = σ k) (hH : HallIs σc (im + 13) (σ 86)) (s4 : σc (im + 1) 4 = σ 1 4) (s5 : σc (im + 1) 5 = σ 1 5) : T (vX10_image (k0 : Int) (anC 0 σc)) (fun q => q.1 = 0 ∧ Inv K' q.2 (n + 1)) := by
  obtain ⟨a1, a2, a3, a4⟩ := anC_k (v := 0) (σ := σc)
  have l115 := hI.1.1.1.2.2
  have i8 := (hs.2.2.2.2.2.2.2.1 k0 im hk0 ei).1.2.2.2.2.2.2.2.1
  have e0 : mn0 0 = 0 := rfl
  have eb : ∀ ρ, bmp ρ 0 = ρ := fun _ => rfl
  rw [e0] at a3
  rw [eb] at a4
  unfold vX10_image
  refine T_nm ?_
  have F : ∀ k, k ≠ 0 → k ≠ 84 → up2 (anC 0 σc) 84 0 0 k = σc k := fun k c1 c2 => by
    rw [up2_o c2]
    by_cases e : k = 83
    · rw [e, a4]
    · rw [a1 k c1 e]
  have F84 : ∀ j, j ≠ 0 → up2 (anC 0 σc) 84 0 0 84 j = σ 84 j := fun j c => by rw [u84 c, a1 84 (by omega) (by omega), fr 84 (by omega) (by omega) (by omega)]
  have F0 : ∀ j, j ≠ 14 → up2 (anC 0 σc) 84 0 0 0 j = σ 0 j := fun j c => by rw [up2_o (by omega), a2 j c, fr 0 (by omega) (by omega) (by omega)]
  have F014 : up2 (anC 0 σc) 84 0 0 0 14 = 0 := by rw [up2_o (by omega)]; exact a3
  generalize up2 (anC 0 σc) 84 0 0 = τ at *
  rw [m_in, Option.bind_some, bI_t (by omega)]
  refine T_f (by omega) (T_mono (m_image_23 (σ0 := τ) hk0 FU 0 τ (by have := FU_b; omega) (by omega) (fun _ _ => rfl) (fun i hi => by omega) (fun _ _ => rfl)) (fun q hq => ?_))
  obtain ⟨q1, σ', q2, q3, q4, q5, q6⟩ := hq
  refine ⟨q1, ?_⟩
  rw [q2]
  obtain ⟨b1, b2, b3, b4⟩ := anM_k (v := 0) (σ := σ')
  rw [e0] at b3
  rw [eb] at b4
  have L : ∀ k, k < 115 → k ≠ 0 → k ≠ 84 → τ k = σ k := fun k c1 c2 c3 => by rw [F k c2 c3, fr k (by omega) (by omega) (by omega)]
  have G : ∀ k, k ≠ 0 → k ≠ 84 → k ≠ 87 → k ≠ 88 → anM 0 σ' k = σc k := fun k c1 c2 c3 c4 => by
    by_cases e : k = 85
    · rw [e, b4, q3 85 (by omega) (by omega), F 85 (by omega) (by omega)]
    · rw [b1 k c2 e, q3 k c3 c4, F k c1 c2]
  refine ⟨InvX_im hI.1 ex hs hk0 ei ek rf rt il (fun k k1 k2 k3 k4 k5 k6 k7 k8 k9 => ?_) (fun j hj => ?_) (fun j j0 j1 => ?_) (fun i hi => ?_) (fun i hi => ?_) ?_ ?_ ?_ ?_, InvS_m (n := n) ⟨?_, fun j hj => ?_⟩ (by omega)⟩
  · rw [G k k2 k4 k6 k7, fr k k1 k8 k9]
  · rw [b1 0 (by omega) (by omega), q3 0 (by omega) (by omega), F0 j hj]
  · rw [b2 j j1, q3 84 (by omega) (by omega), F84 j j0]
  · rw [b1 87 (by omega) (by omega), q4 i hi, L 86 (by omega) (by omega) (by omega)]
  · rw [b1 87 (by omega) (by omega), q5 i hi, L 87 (by omega) (by omega) (by omega)]
  · rw [b1 88 (by omega) (by omega), q6, L 88 (by omega) (by omega) (by omega)]
  · exact HallIs_s hH (fun k k1 k2 => G k (by omega) (by omega) (by omega) (by omega))
  · rw [G (im + 1) (by omega) (by omega) (by omega) (by omega)]; exact s4
  · rw [G (im + 1) (by omega) (by omega) (by omega) (by omega)]; exact s5
  · rw [b1 0 (by omega) (by omega), q3 0 (by omega) (by omega), F014, b3]
  · rw [G 83 (by omega) (by omega) (by omega) (by omega), fr 83 (by omega) (by omega) (by omega), G 85 (by omega) (by omega) (by omega) (by omega), fr 85 (by omega) (by omega) (by omega)]
    exact hI.2.2 j hj
theorem s_image {K : Kt} {σ : Sg} {n a : Int} (hI : Inv K σ n) (hn : n ≤ 600) : StK K n (vX9_image a K σ) (vX10_image a) := by
  obtain ⟨⟨hK, ⟨hW, hH⟩, hL, hU, hDD, hT, hM, hC'⟩, hS⟩ := id hI
  have c1 := hK.1.1
  have l115 := hK.1.2.2
  have m81 : (K.2.1 81).2 = 2 := by rw [(lcA_81 c1).2]
  unfold vX9_image
  rw [c_within, Option.bind_some]
  by_cases ha : 0 ≤ a ∧ a ≤ 1
  · unfold StK
    rw [bI_t ha]
    obtain ⟨k0, ek⟩ : ∃ k0 : Nat, a = (k0 : Int) := ⟨a.toNat, by omega⟩
    subst ek
    have hk0 : k0 < 2 := by omega
    refine T_f (by omega) (T_ckP (lcO_0 c1) ?_)
    rw [lcR_0_9 c1, Option.bind_some, m81]
    refine T_ckP (lcA_81 c1) (T_ck (by omega) ?_)
    rw [Int.toNat_natCast]
    cases e : K.1 81 k0 with
    | some im =>
      rw [Option.elim_some]
      refine T_mono (c_image_37 hK hk0 e) (fun p hp => ?_)
      obtain ⟨p0, p1, p2, p3, p4, p5, σc, p6, p7, p8, p9, p10⟩ := hp
      have i8 := (hK.2.2.2.2.2.2.2.1 k0 im hk0 e).1.2.2.2.2.2.2.2.1
      refine ⟨?_, ?_⟩
      · have z : ∀ b N, b < 115 → nul p.2.1 b N = nul K b N := fun b N hb => nul_c N (fun i _ => p4 b i (by omega))
        unfold RmL rmC rmS
        rw [z 28 16 (by omega), z 31 16 (by omega), z 81 2 (by omega), p3]
        omega
      · rw [p0, p6]
        refine fin_image hI p1 p2 hk0 (by rw [p4 81 _ (by omega)]; exact e) (fun k _ => p4 81 k (by omega)) (fun k j _ _ k3 => p4 k j k3) p5 (fun k m hk hne e' q => ?_) (fun k _ k2 k3 => p7 k k2 k3) (p10 _ hH) p8 p9
        subst q
        have im2 := hK.2.2.2.2.2.2.2.2 m
        by_cases z : k0 = 0
        · subst z; exact im2 e (by rw [show (1 : Nat) = k by omega]; exact e')
        · rw [show k0 = 1 by omega] at e
          exact im2 (by rw [show (0 : Nat) = k by omega]; exact e') e
    | none =>
      rw [Option.elim_none]
      refine T_ckP (lcO_0 c1) ?_
      rw [Option.bind_some]
      refine New_T (fun K2 σ3 n2 => ?_)
      obtain ⟨a1, a2, a3, a4, a5, a6, a7, a8⟩ := n2
      refine T_bdVK (c_imgInit (K := K2) (σ := σ3) (o := K.2.2.1) a1 (by rw [a4])) (fun K4 σ5 t4 => ?_)
      obtain ⟨b1, b2, b3, b4, b5, b6, b7, b8, b9, b10, b11, b12, b13⟩ := t4
      dsimp only at b1 b2 b3 b4 b5 b6 b7 b8 b9 b10 b11 b12 b13
      have sh4 : ∀ k, k < K.2.2.1 → K4.2.1 k = K.2.1 k := fun k hk => by rw [b3 k (by omega), a3 k (by omega)]
      have rf4 : ∀ k j, k < K.2.2.1 → K4.1 k j = K.1 k j := fun k j hk => by rw [b4 k j hk, a5 k j (by omega)]
      have ss4 : ∀ k, k < K.2.2.1 → σ5 k = σ k := fun k hk => by rw [b5 k hk, a7 k (by omega)]
      have m4 : (K4.2.1 81).2 = 2 := by rw [sh4 81 (by omega)]; exact m81
      rw [m4]
      refine T_ckP ⟨by omega, by rw [sh4 81 (by omega)]; exact (lcA_81 c1).2⟩ (T_ckP (fun x hx => by injection hx with hx; rw [← hx]; exact ⟨by omega, b6⟩) (T_ck (by omega) (Ref_T (fun K6 r6 => ?_))))
      obtain ⟨r1, r2, r3⟩ := r6
      have cl6 : K6.2.2.1 = K.2.2.1 + 27 := by rw [r1]; exact b1
      have hA : ImgAt K6 K.2.2.1 := by
        refine ⟨⟨by omega, by rw [r1]; exact b6⟩, by rw [r3 _ _ (by omega)]; exact b7, by rw [r3 _ _ (by omega)]; exact b8, ⟨by omega, by rw [r1]; exact b9⟩, by rw [r3 _ _ (by omega)]; exact b10, ⟨by omega, by rw [r1]; exact b11⟩, ⟨⟨by omega, by rw [r1]; exact b12.1.2⟩, fun p hp => ⟨by rw [r3 _ _ (by omega)]; exact (b12.2 p hp).1, by rw [r1]; exact (b12.2 p hp).2.1, by rw [r1]; exact (b12.2 p hp).2.2⟩⟩, l115, fun i q hi eq => ?_⟩
        rw [r3 _ _ (by omega), b13] at eq
        cases eq
      obtain ⟨ex6, hs6⟩ := Shp_im hK hk0 (by omega) (fun k hk => by rw [r1]; exact sh4 k hk) (fun k j hk hne => by rw [r3 k j hne]; exact rf4 k j hk) e r2 hA
      refine T_mono (c_image_37 hs6 hk0 r2) (fun p hp => ?_)
      obtain ⟨p0, p1, p2, p3, p4, p5, σc, p6, p7, p8, p9, p10⟩ := hp
      have ll : ∀ k j, k < K.2.2.1 → k ≠ 81 → p.2.1.1 k j = K.1 k j := fun k j hk hne => by rw [p4 k j (by omega), r3 k j (by omega), rf4 k j hk]
      refine ⟨?_, ?_⟩
      · have z : ∀ b N, b < 115 → b ≠ 81 → nul p.2.1 b N = nul K b N := fun b N hb hne => nul_c N (fun i _ => ll b i (by omega) hne)
        have z81 := nul_s (K := K) (K' := p.2.1) (a := 81) (z := k0) (h := K.2.2.1) 2 hk0 e (by rw [p4 81 _ (by omega)]; exact r2) (fun i _ hne => by rw [p4 81 _ (by omega), r3 81 i (by omega), rf4 81 i (by omega)])
        have s3 : p.2.1.2.2.2 = K.2.2.2 + 195 := by rw [p3, r1, b2, a2]
        have s2 : p.2.1.2.2.1 = K.2.2.1 + 27 := by rw [p3]; exact cl6
        unfold RmL rmC rmS
        rw [z 28 16 (by omega) (by omega), z 31 16 (by omega) (by omega), s3, s2]
        omega
      · rw [p0, p6]
        refine fin_image (im := K.2.2.1) hI (Ext_t ex6 p1) p2 hk0 (by rw [p4 81 _ (by omega)]; exact r2) (fun k hne => by rw [p4 81 k (by omega), r3 81 k (by omega), rf4 81 k (by omega)]) (fun k j k1 k2 _ => ll k j k1 k2) (fun i hi => by rw [p5 i hi, r3 9 i (by omega), rf4 9 i (by omega)]) (fun k m hk hne e' q => ?_) (fun k k1 k2 k3 => by rw [p7 k k2 k3, ss4 k k1]) (p10 _ (HallIs_s hH (fun k k1 k2 => ss4 k (by omega)))) (by rw [p8, ss4 1 (by omega)]) (by rw [p9, ss4 1 (by omega)])
        have := (hK.2.2.2.2.2.2.2.1 k m hk e').1.1.1
        omega
  · rw [bI_f ha]
    have iv := InvR_v hS hn (v := -1) (by omega) (by omega)
    rw [if_pos rfl, ckP_p c1, ckP_p (lcO_0 c1)]
    refine StK_2 (St2_ref hI hn (v := -1) (by omega) (c_refuse (by omega) iv.1) (fun σ1 h1 => ?_))
    unfold vX10_image
    show (vX10_in a 0 1 (up2 σ1 84 0 0)).bind _ = _
    rw [m_in, Option.bind_some, bI_f ha, if_pos rfl, m_told (by omega) (fun _ => by rw [up2_o (by omega), h1 85 (by omega) (by omega)]; exact iv.2)]
    rfl
