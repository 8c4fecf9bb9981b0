/-! ===== law ===== -/
theorem InvX_L {K K' : Kt} {σ σ' : Sg} (h : InvX K σ) (ex : Ext K K') (hs : Shp K') (rf : ∀ k j, k < K.2.2.1 → k ≠ 9 → K'.1 k j = K.1 k j) (fr : ∀ k, k < K.2.2.1 → k ≠ 0 → k ≠ 1 → k ≠ 61 → ¬ (63 ≤ k ∧ k ≤ 72) → ¬ (83 ≤ k ∧ k ≤ 86) → ¬ (94 ≤ k ∧ k ≤ 98) → k ≠ 113 → σ' k = σ k) (f84 : ∀ j, j = 8 ∨ j = 56 ∨ j = 57 → σ' 84 j = σ 84 j) (r86 : ∀ i, i ≠ 2 → i < 105 → σ' 86 i = σ 86 i) (h2 : σ 86 2 ≤ σ' 86 2 ∧ σ' 86 2 ≤ 6) (hT : InvT σ') (hL : LawAll K' σ' 9 1 (σ' 86)) : InvX K' σ' := by
  obtain ⟨hK, ⟨hW, hH⟩, hL0, hU, hD, hT0, hM, hC⟩ := h
  have l115 := hK.1.2.2
  have F : ∀ k, k < 115 → k ≠ 0 → k ≠ 1 → k ≠ 61 → ¬ (63 ≤ k ∧ k ≤ 72) → ¬ (83 ≤ k ∧ k ≤ 86) → ¬ (94 ≤ k ∧ k ≤ 98) → k ≠ 113 → σ' k = σ k := fun k k0 => fr k (by omega)
  have G : ∀ k, 115 ≤ k → k < K.2.2.1 → σ' k = σ k := fun k k0 k1 => fr k k1 (by omega) (by omega) (by omega) (by omega) (by omega) (by omega) (by omega)
  have w2 := hW.1.2.2.1
  have w3 := hW.1.2.2.2
  have RSx : RS (σ 86) (σ' 86) := ⟨fun i hi => r86 i (by omega) (by omega), by omega, by rw [r86 3 (by omega) (by omega)]; omega⟩
  refine ⟨hs, ⟨WF_e hW (fun i a _ c => r86 i a c) (by omega) (by rw [r86 3 (by omega) (by omega)]; omega), ?_⟩, ⟨hL, by rw [F 2 (by omega) (by omega) (by omega) (by omega) (by omega) (by omega) (by omega) (by omega)]; exact hL0.2⟩, ?_, ?_, hT, ?_, ?_⟩
  · exact HallIs_e (HallIs_s hH (fun k k1 k2 => F k (by omega) (by omega) (by omega) (by omega) (by omega) (by omega) (by omega) (by omega))) (fun i a _ c => r86 i a c)
  · obtain ⟨L, u1, u2⟩ := hU
    refine ⟨L, ?_, UM_f u2 (f84 8 (by omega)) (fun j _ => by rw [F 89 (by omega) (by omega) (by omega) (by omega) (by omega) (by omega) (by omega) (by omega)]) (F 90 (by omega) (by omega) (by omega) (by omega) (by omega) (by omega) (by omega) (by omega))⟩
    have u := UC_f (K := K) (σ' := σ') u1 RSx (by rw [F 27 (by omega) (by omega) (by omega) (by omega) (by omega) (by omega) (by omega) (by omega)]) (by rw [F 27 (by omega) (by omega) (by omega) (by omega) (by omega) (by omega) (by omega) (by omega)]) (F 29 (by omega) (by omega) (by omega) (by omega) (by omega) (by omega) (by omega) (by omega)) (fun i h hi e k k1 k2 => G k (by have := (hK.2.2.1 i h hi e).2.1; omega) (by have := hl_lt (hK.2.2.1 i h hi e).1; omega))
    obtain ⟨u3, u4, u5, u6⟩ := u
    refine ⟨u3, u4, u5, fun i x hx => ?_⟩
    obtain ⟨g, e, r⟩ := u6 i x hx
    exact ⟨g, by rw [rf (27 + 1) _ (by omega) (by omega)]; exact e, r⟩
  · exact InvD_f hD (by rw [F 47 (by omega) (by omega) (by omega) (by omega) (by omega) (by omega) (by omega) (by omega)]) (by rw [F 47 (by omega) (by omega) (by omega) (by omega) (by omega) (by omega) (by omega) (by omega)]) (F 51 (by omega) (by omega) (by omega) (by omega) (by omega) (by omega) (by omega) (by omega)) (F 52 (by omega) (by omega) (by omega) (by omega) (by omega) (by omega) (by omega) (by omega)) (F 54 (by omega) (by omega) (by omega) (by omega) (by omega) (by omega) (by omega) (by omega)) (F 55 (by omega) (by omega) (by omega) (by omega) (by omega) (by omega) (by omega) (by omega)) (F 114 (by omega) (by omega) (by omega) (by omega) (by omega) (by omega) (by omega) (by omega)) (f84 56 (by omega)) (f84 57 (by omega))
  · intro k hk
    have er : imR σ' k = imR σ k := by unfold imR; rw [F 87 (by omega) (by omega) (by omega) (by omega) (by omega) (by omega) (by omega) (by omega)]
    rw [rf 81 k (by omega) (by omega), F 88 (by omega) (by omega) (by omega) (by omega) (by omega) (by omega) (by omega) (by omega), er]
    rcases hM k hk with w | ⟨m, e, a, b, d, f⟩
    · exact Or.inl w
    · obtain ⟨j1, j2, j3, j4, j5, j6, j7, j8, j9⟩ := (hK.2.2.2.2.2.2.2.1 k m hk e).1
      have m26 : m + 26 < K.2.2.1 := hl_lt j7
      have c1 : σ' (m + 1) = σ (m + 1) := G _ (by omega) (by omega)
      have e14 : ∀ i, K'.1 (m + 9) i = K.1 (m + 9) i := fun i => rf _ i (by omega) (by omega)
      have hx' : txs K' (m + 9) := fun i q hi' e' => by
        rw [e14] at e'
        exact ⟨TxtAt_x (j9 i q hi' e').1 ex, (j9 i q hi' e').2⟩
      refine Or.inr ⟨m, e, a, b, HallIs_s d (fun k k1 k2 => G k (by omega) (by omega)), LawAll_s2 (LawAll_x (K' := K') hK.1.1 j9 ex b.1.2.2.1.2 (fun i _ => e14 i) f) b.1.2.2.1.2 hx' (by rw [c1]) (by rw [c1]) (fun i q k hi' e' k1 k2 => ?_)⟩
      rw [e14] at e'
      have ht := j9 i q hi' e'
      exact G k (by omega) (by have := tx_lt ht.1; omega)
  · exact InvC_f hC (F 99 (by omega) (by omega) (by omega) (by omega) (by omega) (by omega) (by omega) (by omega)) (F 100 (by omega) (by omega) (by omega) (by omega) (by omega) (by omega) (by omega) (by omega)) (F 101 (by omega) (by omega) (by omega) (by omega) (by omega) (by omega) (by omega) (by omega)) (F 112 (by omega) (by omega) (by omega) (by omega) (by omega) (by omega) (by omega) (by omega))
theorem law_go {K : Kt} {σ σf : Sg} {p : Int × Sg} (hI : InvX K σ) (hp : vX4_reads K 1 σ = some p) (fk : ∀ k, 84 ≤ k → k < 115 → σf k = σ k) (h6 : σ 86 2 ≠ 6) : ∃ tk pl st N σC σm, N ≤ 400 ∧ CBg σ σC ∧ BgF (up2 σf 84 0 0) σm ∧ RdO (fun s => (vX10_readLaw s).bind (fun s' => vX10_law_37 FU s')) vX10_law_64 9 LawR MRl tk pl st N σC σm σm p ∧ ∀ Q : Int × Sg → Prop, T ((vX10_readLaw σm).bind (fun s' => vX10_law_37 FU s')) Q → T (vX10_law σf) Q := by
  obtain ⟨hK, ⟨hW, hH⟩, hL0, hU, hD, ⟨⟨t1, t2, t3⟩, t4, -⟩, hM, hC⟩ := hI
  obtain ⟨m, hm⟩ : ∃ m : Nat, σ 84 13 = (m : Int) := ⟨(σ 84 13).toNat, by omega⟩
  obtain ⟨p', hp', tk, pl, st, N, σC, σm, hN, b1, b2, b3, b4⟩ := law_reads (K := K) (σ := σ) (s0 := up2 σf 84 0 0) (n := m) hK.1.1 (by omega) (by omega) (fun i hi => by have := t4 i (by omega); omega) (by rw [up2_c, upw_n (by omega), fk 84 (by omega) (by omega)]; exact hm) (fun q hq => by rw [up2_o (by omega), fk 93 (by omega) (by omega)]; exact (t4 q (by omega)).1.symm) (InvC_f hC (by rw [up2_o (by omega), fk 99 (by omega) (by omega)]) (by rw [up2_o (by omega), fk 100 (by omega) (by omega)]) (by rw [up2_o (by omega), fk 101 (by omega) (by omega)]) (by rw [up2_o (by omega), fk 112 (by omega) (by omega)]))
  rw [hp] at hp'
  injection hp' with hp'
  subst hp'
  refine ⟨tk, pl, st, N, σC, σm, hN, b1, b2, b4, fun Q k => ?_⟩
  unfold vX10_law
  refine T_nm (T_f (by rw [up2_o (by omega), fk 86 (by omega) (by omega)]; exact h6) ?_)
  rw [b3, Option.bind_some]
  exact k
theorem c_lawAdd {K : Kt} {σ : Sg} {q k : Nat} (hO : IsC K 1 3) (r1 : K.1 1 1 = some 9) (a9 : IsA K 9 23 6) (hq : IsC K q 7) (h4 : σ 1 4 = (k : Int)) (hk : k < 6) : T (vX3_add 1 q K σ) (fun r => r.1 = (k : Int) ∧ RefS K 9 k (some q) r.2.1 ∧ r.2.2 = up2 σ 1 4 ((k : Int) + 1)) := by
  have m9 : (K.2.1 9).2 = 6 := by rw [a9.2]
  unfold vX3_add
  rw [r1, Option.bind_some, m9, h4, Int.toNat_natCast]
  refine T_ckP hO (T_t (by omega) (T_ckP hO (T_ckP hO (T_ckP a9 (T_ckP (fun x hx => by injection hx with hx; rw [← hx]; exact hq) (T_ck (by omega) (Ref_T (fun K7 r7 => ?_))))))))
  have hO7 : IsC K7 1 3 := by rw [IsC, r7.1]; exact hO
  refine T_ckP hO7 (T_ck (by omega) (T_ckP hO7 (T_nm (T_ckP hO7 ?_))))
  have e : up2 σ 1 4 ((k : Int) + 1) 1 4 = (k : Int) + 1 := by rw [up2_c, upw_s]
  rw [e, show (k : Int) + 1 - 1 = (k : Int) by omega]
  exact T_ck (by omega) (T_some ⟨rfl, r7, rfl⟩)
