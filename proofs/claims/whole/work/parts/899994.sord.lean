/-! ===== orders ===== -/
theorem ord_go {K : Kt} {σ σf : Sg} {p : Int × Sg} (hI : InvX K σ) (hp : vX4_reads K 0 σ = some p) (fk : ∀ k, 84 ≤ k → k < 115 → σf k = σ k) : ∃ tk pl st N σC σm, N ≤ 400 ∧ CBg σ σC ∧ BgF (up2 (up2 σf 84 0 0) 84 52 (-1)) σm ∧ RdO (fun s => (vX10_readOrder s).bind (fun s' => vX10_orders_19 FU s')) vX10_orders_46 24 OrdR MRo tk pl st N σC σm σm p ∧ ∀ Q : Int × Sg → Prop, T ((vX10_readOrder σm).bind (fun s' => vX10_orders_19 FU s')) Q → T (vX10_orders σf) Q := by
  obtain ⟨hK, ⟨hW, hH⟩, hL0, hU, hD, ⟨⟨t1, t2, t3⟩, t4, -⟩, hM, hC⟩ := hI
  obtain ⟨m, hm⟩ : ∃ m : Nat, σ 84 13 = (m : Int) := ⟨(σ 84 13).toNat, by omega⟩
  have o : ∀ k, k ≠ 84 → up2 (up2 σf 84 0 0) 84 52 (-1) k = σf k := fun k hk => by rw [up2_o hk, up2_o hk]
  obtain ⟨p', hp', tk, pl, st, N, σC, σm, hN, b1, b2, b3, b4⟩ := ord_reads (K := K) (σ := σ) (s0 := up2 (up2 σf 84 0 0) 84 52 (-1)) (n := m) hK.1.1 (by omega) (by omega) (fun i hi => by have := t4 i (by omega); omega) (by rw [up2_c, upw_n (by omega), up2_c, upw_n (by omega), fk 84 (by omega) (by omega)]; exact hm) (fun q hq => by rw [o 93 (by omega), fk 93 (by omega) (by omega)]; exact (t4 q (by omega)).1.symm) (InvC_f hC (by rw [o 99 (by omega), fk 99 (by omega) (by omega)]) (by rw [o 100 (by omega), fk 100 (by omega) (by omega)]) (by rw [o 101 (by omega), fk 101 (by omega) (by omega)]) (by rw [o 112 (by omega), fk 112 (by omega) (by omega)]))
  rw [hp] at hp'
  injection hp' with hp'
  subst hp'
  refine ⟨tk, pl, st, N, σC, σm, hN, b1, b2, b4, fun Q k => ?_⟩
  unfold vX10_orders
  refine T_nm (T_nm ?_)
  rw [b3, Option.bind_some]
  exact k
theorem ord_bad {K : Kt} {σ σ6 : Sg} {n r : Int} (hI : Inv K σ n) (hn : n ≤ 600) (hp : vX4_reads K 0 σ = some (r, σ6)) (hr : r = 0) (cg : ∀ k, k < 63 ∨ 72 < k → σ6 k = σ k) : T (vX10_orders (anC (-6) (up2 (up2 σ6 61 1 0) 0 13 (-1)))) (fun q => q.1 = -6 ∧ Inv K q.2 (n + 1)) := by
  obtain ⟨⟨hK, ⟨hW, hH⟩, hL, hU, hDD, hT, hM, hC'⟩, hS⟩ := id hI
  have l115 := hK.1.2.2
  have w2 := hW.1.2.2.1
  obtain ⟨a1, a2, a3, a4⟩ := anC_k (v := -6) (σ := up2 (up2 σ6 61 1 0) 0 13 (-1))
  obtain ⟨tk, pl, st, N, σC, σm, hN, b1, b2, b4, go⟩ := ord_go (σf := anC (-6) (up2 (up2 σ6 61 1 0) 0 13 (-1))) hI.1 hp (fun k k1 k2 => by rw [a1 k (by omega) (by omega), up2_o (by omega), up2_o (by omega), cg k (by omega)])
  rcases b4 with ⟨e, -⟩ | ⟨-, k, σe, x1, x2, x3⟩
  · dsimp only at e; omega
  refine go _ (x3 _ ?_)
  unfold vX10_orders_46
  refine T_bind x2 (fun s hs => ?_)
  obtain ⟨s1, s19, s18⟩ := hs
  have f2 : ∀ x, x ≠ 84 → σm x = anC (-6) (up2 (up2 σ6 61 1 0) 0 13 (-1)) x := fun x hx => by rw [b2.1 x hx, up2_o hx, up2_o hx]
  have Y : ∀ k, k ≠ 0 → k ≠ 61 → ¬ (63 ≤ k ∧ k ≤ 72) → k ≠ 83 → k ≠ 84 → ¬ (94 ≤ k ∧ k ≤ 98) → k ≠ 113 → s k = σ k := fun k k0 k1 k2 k3 k4 k6 k7 => by
    rw [s1.1 k k4 (by omega) k7, f2 k k4, a1 k k0 k3, up2_o k0, up2_o k1, cg k (by omega)]
  have iv := InvR_v hS hn (v := -6) (by omega) (by omega)
  refine T_f (by omega) ?_
  rw [m_told (by omega) (fun _ => by rw [Y 85 (by omega) (by omega) (by omega) (by omega) (by omega) (by omega) (by omega)]; exact iv.2), bd2_some]
  obtain ⟨d1, d2, d3, d4⟩ := anM_k (v := -6) (σ := s)
  have X : ∀ k, k ≠ 0 → k ≠ 61 → ¬ (63 ≤ k ∧ k ≤ 72) → k ≠ 83 → k ≠ 84 → k ≠ 85 → ¬ (94 ≤ k ∧ k ≤ 98) → k ≠ 113 → anM (-6) s k = σ k := fun k k0 k1 k2 k3 k4 k5 k6 k7 => by
    rw [d1 k k4 k5, Y k k0 k1 k2 k3 k4 k6 k7]
  have X84 : ∀ j, j ≠ 0 → j ≠ 1 → j ≠ 52 → j < 13 ∨ 30 < j → anM (-6) s 84 j = σ 84 j := fun j j0 j1 j52 j2 => by
    rw [d2 j j1, s1.2.1 j (by omega), b2.2 j (by omega), up2_c, upw_n j52, up2_c, upw_n j0, a1 84 (by omega) (by omega), up2_o (by omega), up2_o (by omega), cg 84 (by omega)]
  have X52 : anM (-6) s 84 52 = -1 := by rw [d2 52 (by omega), s1.2.1 52 (by omega), b2.2 52 (by omega), up2_c, upw_s]
  have X0 : ∀ j, j ≠ 14 → j ≠ 13 → anM (-6) s 0 j = σ 0 j := fun j hj hj2 => by
    rw [d1 0 (by omega) (by omega), s1.1 0 (by omega) (by omega) (by omega), f2 0 (by omega), a2 j hj, up2_c, upw_n hj2, up2_o (by omega), cg 0 (by omega)]
  have X013 : anM (-6) s 0 13 = -1 := by
    rw [d1 0 (by omega) (by omega), s1.1 0 (by omega) (by omega) (by omega), f2 0 (by omega), a2 13 (by omega), up2_c, upw_s]
  have s61 : anM (-6) s 61 1 = 0 := by
    rw [d1 61 (by omega) (by omega), s1.1 61 (by omega) (by omega) (by omega), f2 61 (by omega), a1 61 (by omega) (by omega), up2_o (by omega), up2_c, upw_s]
  have s63 : anM (-6) s 63 2 = (pl k : Int) := by
    rw [d1 63 (by omega) (by omega), s1.1 63 (by omega) (by omega) (by omega), f2 63 (by omega), a1 63 (by omega) (by omega), up2_o (by omega), up2_o (by omega)]
    exact x1.2
  have e86 : anM (-6) s 86 = σ 86 := X 86 (by omega) (by omega) (by omega) (by omega) (by omega) (by omega) (by omega) (by omega)
  refine T_some ⟨rfl, ?_, ?_⟩ <;> dsimp only
  · refine InvX_L hI.1 Ext_r hK (fun _ _ _ _ => rfl) (fun k _ k0 _ k2 k3 k4 k5 k6 => X k k0 k2 k3 (by omega) (by omega) (by omega) k5 k6) (fun j hj => X84 j (by omega) (by omega) (by omega) (by omega)) (fun i _ _ => by rw [e86]) (by rw [e86]; omega) ?_ ?_
    · obtain ⟨⟨t1, t2, t3⟩, t4, t5, t6, t7, t8⟩ := hT
      have m13 : anM (-6) s 84 13 = 0 := by rw [d2 13 (by omega)]; exact s1.2.2.1
      refine ⟨⟨by rw [s61, m13], by omega, by omega⟩, fun i hi => ?_, ?_, ?_, ?_, ?_⟩
      · rw [X 62 (by omega) (by omega) (by omega) (by omega) (by omega) (by omega) (by omega) (by omega), X 93 (by omega) (by omega) (by omega) (by omega) (by omega) (by omega) (by omega) (by omega)]; exact t4 i hi
      · rw [s63, d2 18 (by omega), s18]
      · rw [X0 12 (by omega) (by omega), X84 11 (by omega) (by omega) (by omega) (by omega)]; exact t6
      · rw [X013, X52]
      · rw [d2 20 (by omega)]; exact s1.2.2.2
    · rw [e86]
      exact LawAll_s hL.1 w2.2 hK.2.1 (by rw [X 1 (by omega) (by omega) (by omega) (by omega) (by omega) (by omega) (by omega) (by omega)]) (by rw [X 1 (by omega) (by omega) (by omega) (by omega) (by omega) (by omega) (by omega) (by omega)]) (fun q k ht h1 h2 h3 => X k (by omega) (by omega) (by omega) (by omega) (by omega) (by omega) (by omega) (by omega))
  · refine InvS_t (v := -6) hS ⟨by omega, ?_, d3, ?_, ?_⟩
    · rw [d1 0 (by omega) (by omega), s1.1 0 (by omega) (by omega) (by omega), f2 0 (by omega), a3]
    · rw [d1 83 (by omega) (by omega), s1.1 83 (by omega) (by omega) (by omega), f2 83 (by omega), a4, up2_o (by omega), up2_o (by omega), cg 83 (by omega)]
    · rw [d4, Y 85 (by omega) (by omega) (by omega) (by omega) (by omega) (by omega) (by omega)]
def tpx (σ : Sg) (v : Int) : Sg := up2 (up2 (up2 (up2 (up2 (up2 σ 61 1 0) 84 13 0) 63 2 (-1)) 84 18 (-1)) 0 13 v) 84 52 v
theorem tpx_k {σ : Sg} {v : Int} : (∀ k, k ≠ 0 → k ≠ 61 → k ≠ 63 → k ≠ 84 → tpx σ v k = σ k) ∧ (∀ j, j ≠ 13 → j ≠ 18 → j ≠ 52 → tpx σ v 84 j = σ 84 j) ∧ (∀ j, j ≠ 13 → tpx σ v 0 j = σ 0 j) ∧ tpx σ v 0 13 = v ∧ tpx σ v 61 = upw (σ 61) 1 0 ∧ tpx σ v 63 2 = -1 ∧ tpx σ v 84 13 = 0 ∧ tpx σ v 84 18 = -1 ∧ tpx σ v 84 52 = v := by
  unfold tpx
  refine ⟨fun k k0 k1 k2 k3 => by rw [up2_o k3, up2_o k0, up2_o k3, up2_o k2, up2_o k3, up2_o k1], fun j j0 j1 j2 => ?_, fun j hj => ?_, ?_, ?_, ?_, ?_, ?_, ?_⟩
  · rw [up2_c, upw_n j2, up2_o (by omega), up2_c, upw_n j1, up2_o (by omega), up2_c, upw_n j0, up2_o (by omega)]
  · rw [up2_o (by omega), up2_c, upw_n hj, up2_o (by omega), up2_o (by omega), up2_o (by omega), up2_o (by omega)]
  · rw [up2_o (by omega), up2_c, upw_s]
  · rw [up2_o (by omega), up2_o (by omega), up2_o (by omega), up2_o (by omega), up2_o (by omega), up2_c]
  · rw [up2_o (by omega), up2_o (by omega), up2_o (by omega), up2_c, upw_s]
  · rw [up2_c, upw_n (by omega), up2_o (by omega), up2_c, upw_n (by omega), up2_o (by omega), up2_c, upw_s]
  · rw [up2_c, upw_n (by omega), up2_o (by omega), up2_c, upw_s]
  · rw [up2_c, upw_s]
theorem InvX_tpx {K : Kt} {σ : Sg} {v : Int} (h : InvX K σ) : InvX K (tpx σ v) := by
  obtain ⟨hK, ⟨hW, hH⟩, hL, hU, hDD, hT, hM, hC'⟩ := id h
  obtain ⟨x1, x2, x3, x4, x5, x6, x7, x8, x9⟩ := tpx_k (σ := σ) (v := v)
  have w2 := hW.1.2.2.1
  have e86 : tpx σ v 86 = σ 86 := x1 86 (by omega) (by omega) (by omega) (by omega)
  refine InvX_L h Ext_r hK (fun _ _ _ _ => rfl) (fun k _ k0 _ k2 k3 k4 k5 k6 => x1 k k0 k2 (by omega) (by omega)) (fun j hj => x2 j (by omega) (by omega) (by omega)) (fun i _ _ => by rw [e86]) (by rw [e86]; omega) ?_ ?_
  · obtain ⟨⟨t1, t2, t3⟩, t4, t5, t6, t7, t8⟩ := hT
    refine ⟨⟨by rw [x5, upw_s, x7], by omega, by omega⟩, fun i hi => ?_, ?_, ?_, ?_, ?_⟩
    · rw [x1 62 (by omega) (by omega) (by omega) (by omega), x1 93 (by omega) (by omega) (by omega) (by omega)]; exact t4 i hi
    · rw [x6, x8]
    · rw [x3 12 (by omega), x2 11 (by omega) (by omega) (by omega)]; exact t6
    · rw [x4, x9]
    · rw [x2 20 (by omega) (by omega) (by omega)]; exact t8
  · rw [e86]
    exact LawAll_s hL.1 w2.2 hK.2.1 (by rw [x1 1 (by omega) (by omega) (by omega) (by omega)]) (by rw [x1 1 (by omega) (by omega) (by omega) (by omega)]) (fun q k ht h1 h2 h3 => x1 k (by omega) (by omega) (by omega) (by omega))
theorem fin_ord {K : Kt} {σ σm s : Sg} {n r v : Int} {ρ' : Nat → Int} {L' : UL} {p : Int × Kt × Sg} (hI : Inv K σ n) (hr : -6 ≤ r) (ho : OR K σ r ρ' L' v p) (hb : BgF (up2 (up2 p.2.2 84 0 0) 84 52 (-1)) σm) (og : OG σm s) (h86 : s 86 = ρ') (um : UM s L') (h52 : s 84 52 = v) : Inv p.2.1 (anM r s) (n + 1) := by
  obtain ⟨⟨hK, ⟨hW, hH⟩, hL, hU, hDD, hT, hM, hC'⟩, hS⟩ := id hI
  have l115 := hK.1.2.2
  obtain ⟨-, σ', ep, ⟨hs, ky, rm⟩, ⟨hH', hW', hF'⟩, hU', fr, f0, f013, f61, f63⟩ := ho
  obtain ⟨a1, a2, a3, a4⟩ := anC_k (v := r) (σ := σ')
  obtain ⟨d1, d2, d3, d4⟩ := anM_k (v := r) (σ := s)
  obtain ⟨x1, x2, x3, x4, x5, x6, x7, x8, x9⟩ := tpx_k (σ := σ) (v := v)
  have nuc : ∀ k, k < 115 → ¬ uc p.2.1 k := fun k hk w => by
    obtain ⟨i, g, hi, e, g1, g2⟩ := w
    rcases e with e | e
    · have := (hs.2.2.1 i g hi e).2.1; omega
    · have := (hs.2.2.2.1 i g hi e).2.1; omega
  have f2 : ∀ k, k ≠ 84 → σm k = anC r σ' k := fun k hk => by rw [hb.1 k hk, up2_o hk, up2_o hk, ep]
  have Y : ∀ k, k ≠ 84 → k ≠ 85 → k ≠ 86 → ¬ (89 ≤ k ∧ k ≤ 92) → ¬ (94 ≤ k ∧ k ≤ 98) → ¬ (102 ≤ k ∧ k ≤ 104) → k ≠ 113 → anM r s k = anC r σ' k := fun k k1 k2 k3 k4 k5 k6 k7 => by
    rw [d1 k k1 k2, og.1 k k1 k3 k4 k5 k6 k7, f2 k k1]
  have Z : ∀ k, k ≠ 0 → k ≠ 83 → k ≠ 84 → k ≠ 85 → k ≠ 86 → ¬ (89 ≤ k ∧ k ≤ 92) → ¬ (94 ≤ k ∧ k ≤ 98) → ¬ (102 ≤ k ∧ k ≤ 104) → k ≠ 113 → anM r s k = σ' k := fun k k0 k1 k2 k3 k4 k5 k6 k7 k8 => by
    rw [Y k k2 k3 k4 k5 k6 k7 k8, a1 k k0 k1]
  have C84 : ∀ j, j ≠ 0 → j ≠ 52 → j < 14 ∨ 30 < j → σm 84 j = σ 84 j := fun j j0 j1 j2 => by
    rw [hb.2 j (by omega), up2_c, upw_n j1, up2_c, upw_n j0, ep, a1 84 (by omega) (by omega), fr 84 (by omega) (by unfold hC; omega) (by omega) (by omega) (by omega) (by omega) (by omega) (by omega) (by omega) (by omega) (by omega) (nuc 84 (by omega))]
  have e86 : anM r s 86 = ρ' := by rw [d1 86 (by omega) (by omega)]; exact h86
  have t86 : tpx σ v 86 = σ 86 := x1 86 (by omega) (by omega) (by omega) (by omega)
  refine ⟨InvX_hk (K' := p.2.1) (σ' := anM r s) (InvX_tpx (v := v) hI.1) hs ky (fun k hk => ?_) ?_ ⟨?_, ?_⟩ (fun j hj => ?_) (fun k k1 k2 k3 => ?_) (by rw [e86]; exact hW') ?_ ?_ ?_ (fun i hi => ?_) ⟨L', ?_, ?_⟩, ?_⟩
  · unfold kpt at hk
    by_cases z : k = 61
    · subst z
      rw [Z 61 (by omega) (by omega) (by omega) (by omega) (by omega) (by omega) (by omega) (by omega) (by omega), f61, x5]
    · rw [Z k (by omega) (by omega) (by omega) (by omega) (by omega) (by omega) (by omega) (by omega) (by omega), x1 k (by omega) z (by omega) (by omega)]
      exact fr k (by omega) (by unfold hC; omega) (by omega) (by omega) (by omega) (by omega) (by omega) (by omega) z (by omega) (by omega) (nuc k (by omega))
  · rw [Z 63 (by omega) (by omega) (by omega) (by omega) (by omega) (by omega) (by omega) (by omega) (by omega), f63, x6]
  · rw [Y 0 (by omega) (by omega) (by omega) (by omega) (by omega) (by omega) (by omega), a2 12 (by omega), f0 12 (by omega), x3 12 (by omega)]
  · rw [Y 0 (by omega) (by omega) (by omega) (by omega) (by omega) (by omega) (by omega), a2 13 (by omega), f013, x4]
  · rcases hj with e | e | e | e | e | e | e <;> subst e
    · rw [d2 11 (by omega), og.2.1 11 (by omega), C84 11 (by omega) (by omega) (by omega), x2 11 (by omega) (by omega) (by omega)]
    · rw [d2 13 (by omega), og.2.2.1, x7]
    · rw [d2 18 (by omega), og.2.2.2.2, x8]
    · rw [d2 20 (by omega), og.2.2.2.1, x2 20 (by omega) (by omega) (by omega)]; exact hT.2.2.2.2.2.symm
    · rw [d2 52 (by omega), h52, x9]
    · rw [d2 56 (by omega), og.2.1 56 (by omega), C84 56 (by omega) (by omega) (by omega), x2 56 (by omega) (by omega) (by omega)]
    · rw [d2 57 (by omega), og.2.1 57 (by omega), C84 57 (by omega) (by omega) (by omega), x2 57 (by omega) (by omega) (by omega)]
  · rw [Z k (by omega) (by omega) (by omega) (by omega) (by omega) (by omega) (by omega) (by omega) (by omega), x1 k (by omega) (by omega) (by omega) (by omega)]
    exact fr k k2 (by unfold hC; omega) (by omega) (by omega) (by omega) (by omega) (by omega) (by omega) (by omega) (by omega) (by omega) k3
  · rw [e86]
    exact HallIs_s hH' (fun k k1 k2 => Z k (by omega) (by omega) (by omega) (by omega) (by omega) (by omega) (by omega) (by omega) (by omega))
  · rw [e86, t86]; exact hF' 2 (by omega)
  · rw [e86, t86]; exact hF' 3 (by omega)
  · rw [e86, t86]; exact hF' i (by omega)
  · rw [e86]
    refine UC_f hU' (RS_w hW' (fun _ _ => rfl)) (by rw [Z 27 (by omega) (by omega) (by omega) (by omega) (by omega) (by omega) (by omega) (by omega) (by omega)]) (by rw [Z 27 (by omega) (by omega) (by omega) (by omega) (by omega) (by omega) (by omega) (by omega) (by omega)]) (Z (27 + 2) (by omega) (by omega) (by omega) (by omega) (by omega) (by omega) (by omega) (by omega) (by omega)) (fun i g hi e k k1 k2 => ?_)
    have := (hs.2.2.1 i g hi e).2.1
    exact Z k (by omega) (by omega) (by omega) (by omega) (by omega) (by omega) (by omega) (by omega) (by omega)
  · exact UM_f um (d2 8 (by omega)) (fun j _ => by rw [d1 89 (by omega) (by omega)]) (d1 90 (by omega) (by omega))
  · refine InvS_t (v := r) hS ⟨hr, ?_, d3, ?_, ?_⟩
    · rw [Y 0 (by omega) (by omega) (by omega) (by omega) (by omega) (by omega) (by omega), a3]
    · rw [Y 83 (by omega) (by omega) (by omega) (by omega) (by omega) (by omega) (by omega), a4, fr 83 (by omega) (by unfold hC; omega) (by omega) (by omega) (by omega) (by omega) (by omega) (by omega) (by omega) (by omega) (by omega) (nuc 83 (by omega))]
    · rw [d4, og.1 85 (by omega) (by omega) (by omega) (by omega) (by omega) (by omega), f2 85 (by omega), a1 85 (by omega) (by omega), fr 85 (by omega) (by unfold hC; omega) (by omega) (by omega) (by omega) (by omega) (by omega) (by omega) (by omega) (by omega) (by omega) (nuc 85 (by omega))]
theorem OCl_k {D : Int → (Nat → Int) → Option Int} {K : Kt} {σ : Sg} {L0 : UL} {L : List Ru} {p : Int × Kt × Sg} (hK : Shp K) (h : OCl D K σ L0 L p) : Rm K p.2.1 ∧ ∀ k, 84 ≤ k → k < 115 → p.2.2 k = σ k := by
  have l115 := hK.1.2.2
  have go : ∀ (r : Int) (ρ' : Nat → Int) (L' : UL) (v : Int), OR K σ r ρ' L' v p → Rm K p.2.1 ∧ ∀ k, 84 ≤ k → k < 115 → p.2.2 k = σ k := fun r ρ' L' v ho => by
    obtain ⟨-, σ', ep, ⟨hs, ky, rm⟩, -, -, fr, -⟩ := ho
    obtain ⟨a1, -⟩ := anC_k (v := r) (σ := σ')
    refine ⟨rm, fun k k1 k2 => ?_⟩
    rw [ep, a1 k (by omega) (by omega)]
    refine fr k (by omega) (by unfold hC; omega) (by omega) (by omega) (by omega) (by omega) (by omega) (by omega) (by omega) (by omega) (by omega) (fun w => ?_)
    obtain ⟨i, g, hi, e, g1, g2⟩ := w
    rcases e with e | e
    · have := (hs.2.2.1 i g hi e).2.1; omega
    · have := (hs.2.2.2.1 i g hi e).2.1; omega
  cases e : (rnl D L 0 (rs0 (σ 86))).2 with
  | some s' => exact go _ _ _ _ (h.2 s' e).1
  | none => exact go _ _ _ _ (h.1 (rnl D L 0 (rs0 (σ 86))).1 (by rw [← e]))
theorem s_orders {K : Kt} {σ : Sg} {n : Int} (hI : Inv K σ n) (hn : n ≤ 600) : StK K n (vX9_orders K σ) vX10_orders := by
  obtain ⟨⟨hK, ⟨hW, hH⟩, hL, hU, hDD, hT, hM, hC'⟩, hS⟩ := id hI
  have c1 := hK.1.1
  have l115 := hK.1.2.2
  obtain ⟨D, hDC, hDM⟩ := inv_force c1 hL hW
  obtain ⟨L0, u1, u2⟩ := id hU
  have iv := InvR_v hS hn (v := -3) (by omega) (by omega)
  obtain ⟨⟨t1, t2, t3⟩, t4, -⟩ := id hT
  obtain ⟨m, hm⟩ : ∃ m : Nat, σ 84 13 = (m : Int) := ⟨(σ 84 13).toNat, by omega⟩
  obtain ⟨⟨r, σ6⟩, hp, tk, pl, st, N, σC, σm, hN, b1, -, -, b4⟩ := ord_reads (K := K) (σ := σ) (s0 := σ) (n := m) c1 (by omega) (by omega) (fun i hi => by have := t4 i (by omega); omega) hm (fun q hq => (t4 q (by omega)).1.symm) hC'
  rcases b4 with ⟨e1, j, l, cd, L, σe, c, h1, -, -, h4, h5, -⟩ | ⟨e0, k, σe, x1, -, -⟩
  · dsimp only at e1 h1
    obtain ⟨p, ep, hp1⟩ := c_orders (L0 := L0) (D := D) hK hW hH hL.2 hDC u1 iv.1 hp e1 b1 hN h1 h4 h5
    obtain ⟨rm, fk⟩ := OCl_k hK hp1
    refine ⟨p, ep, RmL_r rm, ?_⟩
    obtain ⟨tk2, pl2, st2, N2, σC2, σm2, hN2, y1, y2, y4, go⟩ := ord_go (σf := p.2.2) hI.1 hp fk
    rcases Or.symm y4 with ⟨e, -⟩ | ⟨-, j2, l2, cd2, L2, σe2, cc, z1, z2, z3, z4, z5, z6⟩
    · dsimp only at e; omega
    dsimp only at z1
    obtain ⟨p', ep', hp2⟩ := c_orders (L0 := L0) (D := D) hK hW hH hL.2 hDC u1 iv.1 hp e1 y1 hN2 z1 z4 z5
    rw [ep] at ep'
    injection ep' with ep'
    subst ep'
    have f2 : ∀ k, 85 ≤ k → k < 115 → σm2 k = σ k := fun k k1 k2 => by rw [y2.1 k (by omega), up2_o (by omega), up2_o (by omega), fk k (by omega) k2]
    have e86 : σm2 86 = σ 86 := f2 86 (by omega) (by omega)
    have e8 : σm2 84 8 = σ 84 8 := by rw [y2.2 8 (by omega), up2_c, upw_n (by omega), up2_c, upw_n (by omega), fk 84 (by omega) (by omega)]
    have e52 : σm2 84 52 = -1 := by rw [y2.2 52 (by omega), up2_c, upw_s]
    refine go _ (z6 _ (T_mono (m_orders46 (D := D) (L0 := L0) hN2 z2 z3 z4 z5 (by rw [e86]; exact hW) (by rw [e86]; exact hDM) (UM_f u2 e8 (fun j _ => by rw [f2 89 (by omega) (by omega)]) (f2 90 (by omega) (by omega))) (by rw [f2 85 (by omega) (by omega)]; exact iv.2)) (fun q hq => ?_)))
    unfold MO at hq
    rw [e86] at hq
    cases e : (rnl D L2 0 (rs0 (σ 86))).2 with
    | some s' =>
      obtain ⟨q1, s, q2, q3, q4, q5, q6⟩ := hq.2 s' e
      obtain ⟨ho, hb⟩ := hp2.2 s' e
      refine ⟨by rw [q1, ho.1], ?_⟩
      rw [q2]
      exact fin_ord hI (by have := hb.1.1; omega) ho y2 q3 q4 q5 (by rw [q6]; exact e52)
    | none =>
      have ee : rnl D L2 0 (rs0 (σ 86)) = ((rnl D L2 0 (rs0 (σ 86))).1, none) := by rw [← e]
      obtain ⟨q1, s, q2, q3, q4, q5, q6⟩ := hq.1 _ ee
      have ho := hp2.1 _ ee
      refine ⟨by rw [q1, ho.1], ?_⟩
      rw [q2]
      exact fin_ord hI (by omega) ho y2 q3 q4 q5 q6
  · dsimp only at e0 x1
    have g6 : ∀ k, k < 63 ∨ 72 < k → σ6 k = σ k := fun k hk => by rw [x1.1.1 k (by omega), b1.1 k (by omega) (by omega) (by omega) (by omega)]
    have iv6 := InvR_v hS hn (v := -6) (by omega) (by omega)
    unfold StK vX9_orders
    rw [lcR_0_7 c1, Option.bind_some, hp, bd2_some, lcR_0_6 c1, Option.bind_some]
    refine T_ckP (lcO_0 c1) (T_ckP ⟨c1, rfl⟩ (T_ckP (lcO_63 c1) (T_ckP (lcO_0 c1) (T_ckP (lcO_61 c1) (T_nm (T_ckP (lcO_0 c1) (T_nm (T_t e0 (T_ckP c1 (T_ckP (lcO_0 c1) ?_))))))))))
    rw [c_refuse (by omega) (by rw [up2_o (by omega), up2_o (by omega), g6 83 (by omega)]; exact iv6.1), bd2_some]
    exact T_some ⟨RmL_r Rm_r, ord_bad hI hn hp e0 g6⟩
