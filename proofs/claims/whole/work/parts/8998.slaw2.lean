/-! ===== law, both ===== -/
theorem law_cls {K : Kt} {σ : Sg} (hI : InvX K σ) : T (vX4_reads K 1 σ) (fun p => (∀ k, k < 63 ∨ 72 < k → p.2 k = σ k) ∧ ((p.1 = 1 ∧ ∃ m z : Nat, p.2 64 6 = (m : Int) ∧ m ≤ 12 ∧ p.2 64 7 = (z : Int) ∧ z ≤ 400) ∨ p.1 = 0)) := by
  obtain ⟨hK, ⟨hW, hH⟩, hL0, hU, hD, ⟨⟨t1, t2, t3⟩, t4, -⟩, hM, hC⟩ := hI
  obtain ⟨m, hm⟩ : ∃ m : Nat, σ 84 13 = (m : Int) := ⟨(σ 84 13).toNat, by omega⟩
  refine T_mono (law_reads (K := K) (σ := σ) (s0 := σ) (n := m) hK.1.1 (by omega) (by omega) (fun i hi => by have := t4 i (by omega); omega) hm (fun q hq => (t4 q (by omega)).1.symm) hC) (fun p hp => ?_)
  obtain ⟨tk, pl, st, N, σC, σm, hN, b1, b2, b3, b4⟩ := hp
  have fr : CGr σC p.2 → ∀ k, k < 63 ∨ 72 < k → p.2 k = σ k := fun g k hk => by rw [g.1 k (by omega), b1.1 k (by omega) (by omega) (by omega) (by omega)]
  rcases b4 with ⟨e, j, l, cd, L, σe, c, h1, h2, h3, h4, h5, h6⟩ | ⟨e, k, σe, h1, h2, h3⟩
  · refine ⟨fr h1.2.2.1, Or.inl ⟨e, L.length, cd.length, h1.2.2.2.1, h4, h1.1.2.2.1, ?_⟩⟩
    have := h1.2.1
    have := h1.1.2.1.1
    omega
  · exact ⟨fr h1.1, Or.inr e⟩
theorem law_bad {K : Kt} {σ σ10 : Sg} {n r : Int} (hI : Inv K σ n) (hn : n ≤ 600) (hp : vX4_reads K 1 σ = some (r, σ10)) (hr : r = 0) (cg : ∀ k, k < 63 ∨ 72 < k → σ10 k = σ k) (h6 : σ 86 2 ≠ 6) : T (vX10_law (anC (-6) (up2 σ10 61 1 0))) (fun q => q.1 = -6 ∧ Inv K q.2 (n + 1)) := by
  obtain ⟨⟨hK, ⟨hW, hH⟩, hL, hU, hDD, hT, hM, hC'⟩, hS⟩ := id hI
  have l115 := hK.1.2.2
  have w2 := hW.1.2.2.1
  obtain ⟨a1, a2, a3, a4⟩ := anC_k (v := -6) (σ := up2 σ10 61 1 0)
  obtain ⟨tk, pl, st, N, σC, σm, hN, b1, b2, b4, go⟩ := law_go (σf := anC (-6) (up2 σ10 61 1 0)) hI.1 hp (fun k k1 k2 => by rw [a1 k (by omega) (by omega), up2_o (by omega), cg k (by omega)]) h6
  rcases b4 with ⟨e, -⟩ | ⟨-, k, σe, x1, x2, x3⟩
  · dsimp only at e; omega
  refine go _ (x3 _ ?_)
  unfold vX10_law_64
  refine T_bind x2 (fun s hs => ?_)
  obtain ⟨s1, s19, s18⟩ := hs
  have Y : ∀ k, k ≠ 0 → k ≠ 61 → ¬ (63 ≤ k ∧ k ≤ 72) → k ≠ 83 → k ≠ 84 → ¬ (94 ≤ k ∧ k ≤ 98) → k ≠ 113 → s k = σ k := fun k k0 k1 k2 k3 k4 k6 k7 => by
    rw [s1.1 k k4 (by omega) k7, b2.1 k k4, up2_o k4, a1 k k0 k3, up2_o k1, cg k (by omega)]
  have iv := InvR_v hS hn (v := -6) (by omega) (by omega)
  refine T_f (by omega) ?_
  rw [m_told (by omega) (fun _ => by rw [Y 85 (by omega) (by omega) (by omega) (by omega) (by omega) (by omega) (by omega)]; exact iv.2), bd2_some]
  obtain ⟨d1, d2, d3, d4⟩ := anM_k (v := -6) (σ := s)
  have X : ∀ k, k ≠ 0 → k ≠ 61 → ¬ (63 ≤ k ∧ k ≤ 72) → k ≠ 83 → k ≠ 84 → k ≠ 85 → ¬ (94 ≤ k ∧ k ≤ 98) → k ≠ 113 → anM (-6) s k = σ k := fun k k0 k1 k2 k3 k4 k5 k6 k7 => by
    rw [d1 k k4 k5, Y k k0 k1 k2 k3 k4 k6 k7]
  have X84 : ∀ j, j ≠ 0 → j ≠ 1 → j < 13 ∨ 30 < j → anM (-6) s 84 j = σ 84 j := fun j j0 j1 j2 => by
    rw [d2 j j1, s1.2.1 j (by omega), b2.2 j (by omega), up2_c, upw_n j0, a1 84 (by omega) (by omega), up2_o (by omega), cg 84 (by omega)]
  have X0 : ∀ j, j ≠ 14 → anM (-6) s 0 j = σ 0 j := fun j hj => by
    rw [d1 0 (by omega) (by omega), s1.1 0 (by omega) (by omega) (by omega), b2.1 0 (by omega), up2_o (by omega), a2 j hj, up2_o (by omega), cg 0 (by omega)]
  have s61 : anM (-6) s 61 1 = 0 := by
    rw [d1 61 (by omega) (by omega), s1.1 61 (by omega) (by omega) (by omega), b2.1 61 (by omega), up2_o (by omega), a1 61 (by omega) (by omega), up2_c, upw_s]
  have s63 : anM (-6) s 63 2 = (pl k : Int) := by
    rw [d1 63 (by omega) (by omega), s1.1 63 (by omega) (by omega) (by omega), b2.1 63 (by omega), up2_o (by omega), a1 63 (by omega) (by omega), up2_o (by omega)]
    exact x1.2
  have e86 : anM (-6) s 86 = σ 86 := X 86 (by omega) (by omega) (by omega) (by omega) (by omega) (by omega) (by omega) (by omega)
  refine T_some ⟨rfl, ?_, ?_⟩ <;> dsimp only
  · refine InvX_L hI.1 Ext_r hK (fun _ _ _ _ => rfl) (fun k _ k0 _ k2 k3 k4 k5 k6 => X k k0 k2 k3 (by omega) (by omega) (by omega) k5 k6) (fun j hj => X84 j (by omega) (by omega) (by omega)) (fun i _ _ => by rw [e86]) (by rw [e86]; omega) ?_ ?_
    · obtain ⟨⟨t1, t2, t3⟩, t4, t5, t6, t7, t8⟩ := hT
      have m13 : anM (-6) s 84 13 = 0 := by rw [d2 13 (by omega)]; exact s1.2.2.1
      refine ⟨⟨by rw [s61, m13], by omega, by omega⟩, fun i hi => ?_, ?_, ?_, ?_, ?_⟩
      · rw [X 62 (by omega) (by omega) (by omega) (by omega) (by omega) (by omega) (by omega) (by omega), X 93 (by omega) (by omega) (by omega) (by omega) (by omega) (by omega) (by omega) (by omega)]; exact t4 i hi
      · rw [s63, d2 18 (by omega), s18]
      · rw [X0 12 (by omega), X84 11 (by omega) (by omega) (by omega)]; exact t6
      · rw [X0 13 (by omega), X84 52 (by omega) (by omega) (by omega)]; exact t7
      · rw [d2 20 (by omega)]; exact s1.2.2.2
    · rw [e86]
      exact LawAll_s hL.1 w2.2 hK.2.1 (by rw [X 1 (by omega) (by omega) (by omega) (by omega) (by omega) (by omega) (by omega) (by omega)]) (by rw [X 1 (by omega) (by omega) (by omega) (by omega) (by omega) (by omega) (by omega) (by omega)]) (fun q k ht h1 h2 h3 => X k (by omega) (by omega) (by omega) (by omega) (by omega) (by omega) (by omega) (by omega))
  · refine InvS_t (v := -6) hS ⟨by omega, ?_, d3, ?_, ?_⟩
    · rw [d1 0 (by omega) (by omega), s1.1 0 (by omega) (by omega) (by omega), b2.1 0 (by omega), up2_o (by omega), a3]
    · rw [d1 83 (by omega) (by omega), s1.1 83 (by omega) (by omega) (by omega), b2.1 83 (by omega), up2_o (by omega), a4, up2_o (by omega), cg 83 (by omega)]
    · rw [d4, Y 85 (by omega) (by omega) (by omega) (by omega) (by omega) (by omega) (by omega)]
theorem law_full {K : Kt} {σ : Sg} {n : Int} (hI : Inv K σ n) (hn : n ≤ 600) (h6 : σ 86 2 = 6) : T (vX10_law (anC (-5) (up2 σ 61 1 0))) (fun q => q.1 = -5 ∧ Inv K q.2 (n + 1)) := by
  obtain ⟨⟨hK, ⟨hW, hH⟩, hL, hU, hDD, hT, hM, hC'⟩, hS⟩ := id hI
  have w2 := hW.1.2.2.1
  obtain ⟨a1, a2, a3, a4⟩ := anC_k (v := -5) (σ := up2 σ 61 1 0)
  generalize hs : up2 (up2 (anC (-5) (up2 σ 61 1 0)) 84 0 0) 84 13 0 = s
  have Y : ∀ k, k ≠ 0 → k ≠ 61 → k ≠ 83 → k ≠ 84 → s k = σ k := fun k k0 k1 k3 k4 => by
    rw [← hs, up2_o k4, up2_o k4, a1 k k0 k3, up2_o k1]
  have iv := InvR_v hS hn (v := -5) (by omega) (by omega)
  obtain ⟨d1, d2, d3, d4⟩ := anM_k (v := -5) (σ := s)
  have X : ∀ k, k ≠ 0 → k ≠ 61 → k ≠ 83 → k ≠ 84 → k ≠ 85 → anM (-5) s k = σ k := fun k k0 k1 k3 k4 k5 => by
    rw [d1 k k4 k5, Y k k0 k1 k3 k4]
  have X84 : ∀ j, j ≠ 0 → j ≠ 1 → j ≠ 13 → anM (-5) s 84 j = σ 84 j := fun j j0 j1 j2 => by
    rw [d2 j j1, ← hs, up2_c, upw_n j2, up2_c, upw_n j0, a1 84 (by omega) (by omega), up2_o (by omega)]
  have X0 : ∀ j, j ≠ 14 → anM (-5) s 0 j = σ 0 j := fun j hj => by
    rw [d1 0 (by omega) (by omega), ← hs, up2_o (by omega), up2_o (by omega), a2 j hj, up2_o (by omega)]
  have s61 : anM (-5) s 61 1 = 0 := by
    rw [d1 61 (by omega) (by omega), ← hs, up2_o (by omega), up2_o (by omega), a1 61 (by omega) (by omega), up2_c, upw_s]
  have e86 : anM (-5) s 86 = σ 86 := X 86 (by omega) (by omega) (by omega) (by omega) (by omega)
  unfold vX10_law
  refine T_nm (T_t (by rw [up2_o (by omega), a1 86 (by omega) (by omega), up2_o (by omega)]; exact h6) (T_nm ?_))
  rw [hs, m_told (by omega) (fun _ => by rw [Y 85 (by omega) (by omega) (by omega) (by omega)]; exact iv.2), bd2_some]
  refine T_some ⟨rfl, ?_, ?_⟩ <;> dsimp only
  · refine InvX_L hI.1 Ext_r hK (fun _ _ _ _ => rfl) (fun k _ k0 _ k2 k3 k4 k5 k6 => X k k0 k2 (by omega) (by omega) (by omega)) (fun j hj => X84 j (by omega) (by omega) (by omega)) (fun i _ _ => by rw [e86]) (by rw [e86]; omega) ?_ ?_
    · obtain ⟨⟨t1, t2, t3⟩, t4, t5, t6, t7, t8⟩ := hT
      have m13 : anM (-5) s 84 13 = 0 := by rw [d2 13 (by omega), ← hs, up2_c, upw_s]
      refine ⟨⟨by rw [s61, m13], by omega, by omega⟩, fun i hi => ?_, ?_, ?_, ?_, ?_⟩
      · rw [X 62 (by omega) (by omega) (by omega) (by omega) (by omega), X 93 (by omega) (by omega) (by omega) (by omega) (by omega)]; exact t4 i hi
      · rw [X 63 (by omega) (by omega) (by omega) (by omega) (by omega), X84 18 (by omega) (by omega) (by omega)]; exact t5
      · rw [X0 12 (by omega), X84 11 (by omega) (by omega) (by omega)]; exact t6
      · rw [X0 13 (by omega), X84 52 (by omega) (by omega) (by omega)]; exact t7
      · rw [X84 20 (by omega) (by omega) (by omega)]; exact t8
    · rw [e86]
      exact LawAll_s hL.1 w2.2 hK.2.1 (by rw [X 1 (by omega) (by omega) (by omega) (by omega) (by omega)]) (by rw [X 1 (by omega) (by omega) (by omega) (by omega) (by omega)]) (fun q k ht h1 h2 h3 => X k (by omega) (by omega) (by omega) (by omega) (by omega))
  · refine InvS_t (v := -5) hS ⟨by omega, ?_, d3, ?_, ?_⟩
    · rw [d1 0 (by omega) (by omega), ← hs, up2_o (by omega), up2_o (by omega), a3]
    · rw [d1 83 (by omega) (by omega), ← hs, up2_o (by omega), up2_o (by omega), a4, up2_o (by omega)]
    · rw [d4, Y 85 (by omega) (by omega) (by omega) (by omega)]
