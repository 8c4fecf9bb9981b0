/-! ===== what each part of the invariant rests on ===== -/
theorem LawAll_r {K : Kt} {σ : Sg} {ta la : Nat} {ρ ρ' : Nat → Int} (h : LawAll K σ ta la ρ) (r2 : ρ' 2 = ρ 2) (r3 : ρ' 3 = ρ 3) (rh : ∀ i, 105 ≤ i → ρ' i = ρ i) : LawAll K σ ta la ρ' := by
  obtain ⟨a, b, c⟩ := h
  refine ⟨by rw [r2]; exact a, by rw [r3]; exact b, fun i hi => ?_⟩
  rw [r2] at hi
  obtain ⟨q, e, n, kd, ts, fs, x, y⟩ := c i hi
  exact ⟨q, e, n, kd, ts, fs, x, MLaw_p y (by omega) rh⟩
theorem InvL_f {K : Kt} {σ σ' : Sg} (hK : Shp K) (h : InvL K σ) (h2 : σ 86 2 ≤ 6) (a4 : σ' 1 4 = σ 1 4) (a5 : σ' 1 5 = σ 1 5) (a6 : σ' 2 6 = σ 2 6) (r2 : σ' 86 2 = σ 86 2) (r3 : σ' 86 3 = σ 86 3) (rh : ∀ i, 105 ≤ i → σ' 86 i = σ 86 i) (tx : ∀ q k, TxtAt K q → 115 ≤ q → q ≤ k → k ≤ q + 6 → σ' k = σ k) : InvL K σ' :=
  ⟨LawAll_r (LawAll_s h.1 h2 hK.2.1 a4 a5 tx) r2 r3 rh, by rw [a6]; exact h.2⟩
theorem HallIs_e {σ : Sg} {o : Nat} {ρ ρ' : Nat → Int} (h : HallIs σ o ρ) (e : ∀ i, i ≠ 2 → i ≠ 3 → i < 105 → ρ' i = ρ i) : HallIs σ o ρ' := by
  obtain ⟨⟨g0, g1, g8⟩, gB, gR, gI, g4, g5, g6, g7⟩ := h
  refine ⟨⟨?_, ?_, ?_⟩, fun b h1 h2 => ?_, fun r h1 h2 => ?_, fun i h1 h2 => ?_, ?_, ?_, ?_, ?_⟩
  · rw [e 0 (by omega) (by omega) (by omega)]; exact g0
  · rw [e 1 (by omega) (by omega) (by omega)]; exact g1
  · rw [e 8 (by omega) (by omega) (by omega)]; exact g8
  · have g := gB b h1 h2
    rw [e (71 + b).toNat (by omega) (by omega) (by omega), e (79 + b).toNat (by omega) (by omega) (by omega), e (87 + b).toNat (by omega) (by omega) (by omega), e (9 + b).toNat (by omega) (by omega) (by omega)]; exact g
  · have g := gR r h1 h2
    rw [e (17 + r).toNat (by omega) (by omega) (by omega), e (95 + r).toNat (by omega) (by omega) (by omega), e (23 + r).toNat (by omega) (by omega) (by omega), e (29 + r).toNat (by omega) (by omega) (by omega), e (35 + r).toNat (by omega) (by omega) (by omega), e (41 + r).toNat (by omega) (by omega) (by omega)]; exact g
  · have g := gI i h1 h2
    rw [e (47 + 2 * i).toNat (by omega) (by omega) (by omega), e (47 + 2 * i + 1).toNat (by omega) (by omega) (by omega)]; exact g
  · rw [e 4 (by omega) (by omega) (by omega)]; exact g4
  · rw [e 5 (by omega) (by omega) (by omega)]; exact g5
  · rw [e 6 (by omega) (by omega) (by omega)]; exact g6
  · rw [e 7 (by omega) (by omega) (by omega)]; exact g7
theorem WF_e {ρ ρ' : Nat → Int} (h : WF ρ) (e : ∀ i, i ≠ 2 → i ≠ 3 → i < 105 → ρ' i = ρ i) (e2 : 0 ≤ ρ' 2 ∧ ρ' 2 ≤ 6) (e3 : -1 ≤ ρ' 3 ∧ ρ' 3 < ρ' 2) : WF ρ' := by
  obtain ⟨⟨h0, h1, -, -⟩, ⟨h4, h5, h6, h7, h8⟩, hB, hR, hU, hI, hV⟩ := h
  unfold WF
  rw [e 0 (by omega) (by omega) (by omega), e 1 (by omega) (by omega) (by omega), e 4 (by omega) (by omega) (by omega), e 5 (by omega) (by omega) (by omega), e 6 (by omega) (by omega) (by omega), e 7 (by omega) (by omega) (by omega), e 8 (by omega) (by omega) (by omega)]
  refine ⟨⟨h0, h1, e2, e3⟩, ⟨h4, h5, h6, h7, h8⟩, fun b b0 b1 => ?_, fun r r0 r1 => ?_, fun s u s0 s1 u0 u1 => ?_, fun i i0 i1 => ?_, fun i j i0 i1 j0 j1 => ?_⟩
  · rw [e (71 + b).toNat (by omega) (by omega) (by omega), e (79 + b).toNat (by omega) (by omega) (by omega), e (87 + b).toNat (by omega) (by omega) (by omega), e (9 + b).toNat (by omega) (by omega) (by omega)]; exact hB b b0 b1
  · rw [e (17 + r).toNat (by omega) (by omega) (by omega), e (95 + r).toNat (by omega) (by omega) (by omega), e (23 + r).toNat (by omega) (by omega) (by omega), e (29 + r).toNat (by omega) (by omega) (by omega), e (35 + r).toNat (by omega) (by omega) (by omega), e (41 + r).toNat (by omega) (by omega) (by omega)]; exact hR r r0 r1
  · rw [e (29 + s).toNat (by omega) (by omega) (by omega), e (29 + u).toNat (by omega) (by omega) (by omega)]; exact hU s u s0 s1 u0 u1
  · rw [e (47 + 2 * i).toNat (by omega) (by omega) (by omega), e (47 + 2 * i + 1).toNat (by omega) (by omega) (by omega)]; exact hI i i0 i1
  · rw [e (47 + 2 * i).toNat (by omega) (by omega) (by omega), e (47 + 2 * i + 1).toNat (by omega) (by omega) (by omega), e (47 + 2 * j).toNat (by omega) (by omega) (by omega), e (47 + 2 * j + 1).toNat (by omega) (by omega) (by omega)]; exact hV i j i0 i1 j0 j1
/-- rows whose fixed parts agree -/
def RS (ρ ρ' : Nat → Int) : Prop := (∀ i, i < 2 ∨ (71 ≤ i ∧ i < 105) → ρ' i = ρ i) ∧ (0 ≤ ρ' 2 ∧ ρ' 2 ≤ 6) ∧ (-1 ≤ ρ' 3 ∧ ρ' 3 < ρ' 2)
theorem RS_w {ρ ρ' : Nat → Int} (h : WF ρ) (e : ∀ i, i < 4 ∨ 71 ≤ i → ρ' i = ρ i) : RS ρ ρ' := by
  refine ⟨fun i hi => e i (by omega), ?_, ?_⟩
  · rw [e 2 (by omega)]; exact h.1.2.2.1
  · rw [e 2 (by omega), e 3 (by omega)]; exact h.1.2.2.2
theorem putR_rs {ρ ρ' s : Nat → Int} (h : RS ρ ρ') : ∀ i, i ≠ 2 → i ≠ 3 → i < 105 → putR ρ' s i = putR ρ s i := by
  intro i h2 h3 hi
  unfold putR
  split
  · rfl
  · exact h.1 i (by omega)
theorem UC_f {K : Kt} {σ σ' : Sg} {u : Nat} {ρ ρ' : Nat → Int} {L : UL} (h : UC K σ u ρ L) (hs : RS ρ ρ') (a2 : σ' u 2 = σ u 2) (a3 : σ' u 3 = σ u 3) (ak : σ' (u + 2) = σ (u + 2)) (hh : ∀ i h, i < 16 → K.1 (u + 1) i = some h → ∀ k, h ≤ k → k ≤ h + 13 → σ' k = σ k) : UC K σ' u ρ' L := by
  obtain ⟨h1, h2, h3, h4⟩ := h
  unfold UC
  rw [a2, a3, ak]
  refine ⟨h1, h2, h3, fun i x hx => ?_⟩
  obtain ⟨h, e, b, w, d⟩ := h4 i x hx
  refine ⟨h, e, HallIs_e (HallIs_s b (hh _ h (Nat.mod_lt _ (by omega)) e)) (putR_rs hs), WF_e w (putR_rs hs) ?_ ?_, d⟩
  · show 0 ≤ putR ρ' x.1 2 ∧ putR ρ' x.1 2 ≤ 6
    exact hs.2.1
  · exact hs.2.2
theorem UM_f {σ σ' : Sg} {L : UL} (h : UM σ L) (a8 : σ' 84 8 = σ 84 8) (a89 : ∀ j, j < 1072 → σ' 89 j = σ 89 j) (a90 : σ' 90 = σ 90) : UM σ' L := by
  obtain ⟨h1, h2, h3⟩ := h
  refine ⟨by rw [a8]; exact h1, h2, fun i x hx => ?_⟩
  have hi : i < L.length := (List.getElem?_eq_some_iff.mp hx).1
  obtain ⟨b, c⟩ := h3 i x hx
  exact ⟨fun j hj => by rw [a89 _ (by omega)]; exact b j hj, by rw [a90]; exact c⟩
theorem InvU_f {K : Kt} {σ σ' : Sg} (hK : Shp K) (h : InvU K σ) (hs : RS (σ 86) (σ' 86)) (a2 : σ' 27 2 = σ 27 2) (a3 : σ' 27 3 = σ 27 3) (ak : σ' 29 = σ 29) (hh : ∀ i h, i < 16 → K.1 28 i = some h → ∀ k, h ≤ k → k ≤ h + 13 → σ' k = σ k) (a8 : σ' 84 8 = σ 84 8) (a89 : ∀ j, j < 1072 → σ' 89 j = σ 89 j) (a90 : σ' 90 = σ 90) : InvU K σ' := by
  obtain ⟨L, h1, h2⟩ := h
  exact ⟨L, UC_f h1 hs a2 a3 ak hh, UM_f h2 a8 a89 a90⟩
/-- nothing can be undone -/
theorem InvU_0 {K : Kt} {σ : Sg} (a2 : σ 27 2 = 0) (a3 : σ 27 3 = 0) (a8 : σ 84 8 = 0) : InvU K σ :=
  ⟨[], ⟨by rw [a2]; omega, a3, by simp, fun i x hx => by simp at hx⟩, ⟨a8, by simp, fun i x hx => by simp at hx⟩⟩
theorem InvD_f {σ σ' : Sg} (h : InvD σ) (b1 : σ' 47 1 = σ 47 1) (b2 : σ' 47 2 = σ 47 2) (c51 : σ' 51 = σ 51) (c52 : σ' 52 = σ 52) (c54 : σ' 54 = σ 54) (c55 : σ' 55 = σ 55) (c114 : σ' 114 = σ 114) (s56 : σ' 84 56 = σ 84 56) (s57 : σ' 84 57 = σ 84 57) : InvD σ' := by
  unfold InvD at h ⊢
  rw [b1, b2, c51, c52, c54, c55, c114, s56, s57]
  exact h
theorem InvT_f {σ σ' : Sg} (h : InvT σ) (c61 : σ' 61 1 = σ 61 1) (c62 : σ' 62 = σ 62) (c63 : σ' 63 2 = σ 63 2) (c93 : σ' 93 = σ 93) (c012 : σ' 0 12 = σ 0 12) (c013 : σ' 0 13 = σ 0 13) (s13 : σ' 84 13 = σ 84 13) (s18 : σ' 84 18 = σ 84 18) (s11 : σ' 84 11 = σ 84 11) (s52 : σ' 84 52 = σ 84 52) (s20 : σ' 84 20 = σ 84 20) : InvT σ' := by
  unfold InvT at h ⊢
  rw [c61, c62, c63, c93, c012, c013, s13, s18, s11, s52, s20]
  exact h
theorem InvI_f {K : Kt} {σ σ' : Sg} (hK : Shp K) (h : InvI K σ) (c87 : σ' 87 = σ 87) (c88 : σ' 88 = σ 88) (im : ∀ k m, k < 2 → K.1 81 k = some m → σ' (m + 1) = σ (m + 1) ∧ ∀ k, m + 13 ≤ k → k ≤ m + 26 → σ' k = σ k) (tx : ∀ q k, TxtAt K q → 115 ≤ q → q ≤ k → k ≤ q + 6 → σ' k = σ k) : InvI K σ' := by
  intro k hk
  have er : imR σ' k = imR σ k := by unfold imR; rw [c87]
  rw [c88, er]
  rcases h k hk with h | ⟨m, e, a, b, d, f⟩
  · exact Or.inl h
  · have hA := (hK.2.2.2.2.2.2.2.1 k m hk e).1
    obtain ⟨i1, i2⟩ := im k m hk e
    refine Or.inr ⟨m, e, a, b, HallIs_s d (fun k k1 k2 => i2 k (by omega) (by omega)), LawAll_s f (by have := b.1.2.2.1; omega) hA.2.2.2.2.2.2.2.2 ?_ ?_ tx⟩
    · rw [i1]
    · rw [i1]
theorem InvC_f {σ σ' : Sg} (h : InvC σ) (c99 : σ' 99 = σ 99) (c100 : σ' 100 = σ 100) (c101 : σ' 101 = σ 101) (c112 : σ' 112 = σ 112) : InvC σ' := by
  unfold InvC at h ⊢
  rw [c99, c100, c101, c112]
  exact h
/-! ===== what questions scratch ===== -/
def scA (k : Nat) : Prop := k = 11 ∨ k = 12 ∨ (74 ≤ k ∧ k ≤ 80) ∨ k = 102 ∨ k = 104 ∨ (105 ≤ k ∧ k ≤ 111)
def Scr (σ σ' : Sg) : Prop := (∀ k, k ≠ 84 → ¬ scA k → σ' k = σ k) ∧ ∀ j, j ≠ 0 → ¬ sc84 j → σ' 84 j = σ 84 j
theorem Scr_r {σ : Sg} : Scr σ σ := ⟨fun _ _ _ => rfl, fun _ _ _ => rfl⟩
theorem Scr_t {σ σ' σ'' : Sg} (h : Scr σ σ') (h' : Scr σ' σ'') : Scr σ σ'' := ⟨fun k a b => (h'.1 k a b).trans (h.1 k a b), fun j a b => (h'.2 j a b).trans (h.2 j a b)⟩
theorem Scr_m {σ σ' : Sg} (h : ScM σ σ') : Scr σ σ' := ⟨fun k a b => ScM_k h (by unfold scA at b; omega), fun j _ b => h.2 j b⟩
theorem Scr_c {σ σ' : Sg} (h : Sme (fun k => k = 11 ∨ k = 12) σ σ') : Scr σ σ' := ⟨fun k a b => h k (by unfold scA at b; omega), fun j _ _ => by rw [h 84 (by omega)]⟩
theorem Scr_s {σ σ' : Sg} (h : Sme scA σ σ') : Scr σ σ' := ⟨fun k _ b => h k b, fun j _ _ => by rw [h 84 (by unfold scA; omega)]⟩
theorem Scr_0 {σ σ' : Sg} {z : Int} (h : Scr σ σ') : Scr σ (up2 σ' 84 0 z) := by
  refine ⟨fun k a b => ?_, fun j a b => ?_⟩
  · rw [up2_o a]; exact h.1 k a b
  · rw [up2_c, upw_n a]; exact h.2 j a b
/-- what questions scratch, and what tells an answer -/
def ScS (σ σ' : Sg) : Prop := (∀ k, k ≠ 84 → k ≠ 0 → k ≠ 83 → k ≠ 85 → ¬ scA k → σ' k = σ k) ∧ (∀ j, j ≠ 0 → j ≠ 1 → ¬ sc84 j → σ' 84 j = σ 84 j) ∧ ∀ j, j ≠ 14 → σ' 0 j = σ 0 j
theorem ScS_s {σ σ' : Sg} (h : Scr σ σ') : ScS σ σ' := ⟨fun k a _ _ _ b => h.1 k a b, fun j a _ b => h.2 j a b, fun j _ => by rw [h.1 0 (by omega) (by unfold scA; omega)]⟩
theorem ScS_t {σ σ' σ'' : Sg} (h : ScS σ σ') (h' : ScS σ' σ'') : ScS σ σ'' := ⟨fun k a b c d e => (h'.1 k a b c d e).trans (h.1 k a b c d e), fun j a b c => (h'.2.1 j a b c).trans (h.2.1 j a b c), fun j a => (h'.2.2 j a).trans (h.2.2 j a)⟩
theorem InvX_s {K : Kt} {σ σ' : Sg} (h : InvX K σ) (hs : ScS σ σ') : InvX K σ' := by
  obtain ⟨hK, ⟨hW, hH⟩, hL, hU, hD, hT, hI, hC⟩ := h
  obtain ⟨c, s, z⟩ := hs
  have C : ∀ k, k ≠ 84 → k ≠ 0 → k ≠ 83 → k ≠ 85 → k ≠ 11 → k ≠ 12 → (k < 74 ∨ 80 < k) → k ≠ 102 → k ≠ 104 → (k < 105 ∨ 111 < k) → σ' k = σ k := fun k a b d e f g h i j l => c k a b d e (by unfold scA; omega)
  have S : ∀ j, j ≠ 0 → j ≠ 1 → j ≠ 34 → j ≠ 38 → j ≠ 39 → j ≠ 40 → σ' 84 j = σ 84 j := fun j a b d e f g => s j a b (by unfold sc84; omega)
  have e86 : σ' 86 = σ 86 := C 86 (by omega) (by omega) (by omega) (by omega) (by omega) (by omega) (by omega) (by omega) (by omega) (by omega)
  have hi : ∀ k, 115 ≤ k → σ' k = σ k := fun k hk => C k (by omega) (by omega) (by omega) (by omega) (by omega) (by omega) (by omega) (by omega) (by omega) (by omega)
  have tx : ∀ q k, TxtAt K q → 115 ≤ q → q ≤ k → k ≤ q + 6 → σ' k = σ k := fun q k _ h1 h2 _ => hi k (by omega)
  have E : ∀ k, k = 1 ∨ k = 2 ∨ k = 27 ∨ k = 29 ∨ k = 89 ∨ k = 90 ∨ k = 47 ∨ (51 ≤ k ∧ k ≤ 63) ∨ k = 114 ∨ k = 93 ∨ k = 87 ∨ k = 88 ∨ (99 ≤ k ∧ k ≤ 101) ∨ k = 112 → σ' k = σ k := fun k hk => C k (by omega) (by omega) (by omega) (by omega) (by omega) (by omega) (by omega) (by omega) (by omega) (by omega)
  refine ⟨hK, ⟨by rw [e86]; exact hW, ?_⟩, ?_, ?_, ?_, ?_, ?_, ?_⟩
  · rw [e86]
    exact HallIs_s hH (fun k a b => C k (by omega) (by omega) (by omega) (by omega) (by omega) (by omega) (by omega) (by omega) (by omega) (by omega))
  · exact InvL_f hK hL hW.1.2.2.1.2 (by rw [E 1 (by omega)]) (by rw [E 1 (by omega)]) (by rw [E 2 (by omega)]) (by rw [e86]) (by rw [e86]) (fun i _ => by rw [e86]) tx
  · exact InvU_f hK hU (by rw [e86]; exact RS_w hW (fun _ _ => rfl)) (by rw [E 27 (by omega)]) (by rw [E 27 (by omega)]) (E 29 (by omega)) (fun i h hi' e k k1 k2 => hi k (by have := (hK.2.2.1 i h hi' e).2.1; omega)) (S 8 (by omega) (by omega) (by omega) (by omega) (by omega) (by omega)) (fun j _ => by rw [E 89 (by omega)]) (E 90 (by omega))
  · exact InvD_f hD (by rw [E 47 (by omega)]) (by rw [E 47 (by omega)]) (E 51 (by omega)) (E 52 (by omega)) (E 54 (by omega)) (E 55 (by omega)) (E 114 (by omega)) (S 56 (by omega) (by omega) (by omega) (by omega) (by omega) (by omega)) (S 57 (by omega) (by omega) (by omega) (by omega) (by omega) (by omega))
  · exact InvT_f hT (by rw [E 61 (by omega)]) (E 62 (by omega)) (by rw [E 63 (by omega)]) (E 93 (by omega)) (z 12 (by omega)) (z 13 (by omega)) (S 13 (by omega) (by omega) (by omega) (by omega) (by omega) (by omega)) (S 18 (by omega) (by omega) (by omega) (by omega) (by omega) (by omega)) (S 11 (by omega) (by omega) (by omega) (by omega) (by omega) (by omega)) (S 52 (by omega) (by omega) (by omega) (by omega) (by omega) (by omega)) (S 20 (by omega) (by omega) (by omega) (by omega) (by omega) (by omega))
  · exact InvI_f hK hI (E 87 (by omega)) (E 88 (by omega)) (fun k m hk e => by
      have h115 : 115 ≤ m := (hK.2.2.2.2.2.2.2.1 k m hk e).1.2.2.2.2.2.2.2.1
      exact ⟨hi _ (by omega), fun k k1 _ => hi k (by omega)⟩) tx
  · exact InvC_f hC (E 99 (by omega)) (E 100 (by omega)) (E 101 (by omega)) (E 112 (by omega))
theorem InvS_m {σ : Sg} {n m : Int} (h : InvS σ n) (hm : n ≤ m) : InvS σ m := ⟨h.1, fun j hj => ⟨(h.2 j hj).1, (h.2 j hj).2.1, by have := (h.2 j hj).2.2; omega⟩⟩
theorem Inv_scr {K : Kt} {σ σ' : Sg} {n : Int} (h : Inv K σ n) (hs : Scr σ σ') : Inv K σ' (n + 1) := by
  refine ⟨InvX_s h.1 (ScS_s hs), InvS_m (n := n) ⟨?_, fun j hj => ?_⟩ (by omega)⟩
  · rw [hs.1 0 (by omega) (by unfold scA; omega), hs.2 1 (by omega) (by unfold sc84; omega)]; exact h.2.1
  · rw [hs.1 83 (by omega) (by unfold scA; omega), hs.1 85 (by omega) (by unfold scA; omega)]; exact h.2.2 j hj
/-! ===== answers that are told ===== -/
def mn0 (v : Int) : Int := if v < 0 then v else 0
def bmp (ρ : Nat → Int) (v : Int) : Nat → Int := if v < 0 then upw ρ (-v).toNat (ρ (-v).toNat + 1) else ρ
/-- both have told the answer v -/
def Tel (v : Int) (σ σ' : Sg) : Prop := -6 ≤ v ∧ σ' 0 14 = mn0 v ∧ σ' 84 1 = mn0 v ∧ σ' 83 = bmp (σ 83) v ∧ σ' 85 = bmp (σ 85) v
theorem InvS_t {σ σ' : Sg} {n v : Int} (h : InvS σ n) (t : Tel v σ σ') : InvS σ' (n + 1) := by
  obtain ⟨t0, t1, t2, t3, t4⟩ := t
  refine ⟨by rw [t1, t2], fun j hj => ?_⟩
  rw [t3, t4]
  have hj := h.2 j hj
  unfold bmp
  split
  · unfold upw
    split
    · rename_i h1 h2
      rw [← h2]
      omega
    · omega
  · omega
def anC (v : Int) (σ : Sg) : Sg := if v < 0 then up2 (up2 σ 0 14 v) 83 (-v).toNat (σ 83 (-v).toNat + 1) else up2 σ 0 14 0
def anM (v : Int) (σ : Sg) : Sg := if v < 0 then up2 (up2 σ 84 1 v) 85 (-v).toNat (σ 85 (-v).toNat + 1) else up2 σ 84 1 0
theorem anC_k {v : Int} {σ : Sg} : (∀ k, k ≠ 0 → k ≠ 83 → anC v σ k = σ k) ∧ (∀ j, j ≠ 14 → anC v σ 0 j = σ 0 j) ∧ anC v σ 0 14 = mn0 v ∧ anC v σ 83 = bmp (σ 83) v := by
  unfold anC mn0 bmp
  by_cases h : v < 0
  · rw [if_pos h, if_pos h, if_pos h]
    refine ⟨fun k a b => by rw [up2_o b, up2_o a], fun j a => ?_, ?_, ?_⟩
    · rw [up2_o (by omega), up2_c, upw_n a]
    · rw [up2_o (by omega), up2_c, upw_s]
    · rw [up2_c, up2_o (by omega)]
  · rw [if_neg h, if_neg h, if_neg h]
    refine ⟨fun k a b => by rw [up2_o a], fun j a => ?_, ?_, ?_⟩
    · rw [up2_c, upw_n a]
    · rw [up2_c, upw_s]
    · rw [up2_o (by omega)]
theorem anM_k {v : Int} {σ : Sg} : (∀ k, k ≠ 84 → k ≠ 85 → anM v σ k = σ k) ∧ (∀ j, j ≠ 1 → anM v σ 84 j = σ 84 j) ∧ anM v σ 84 1 = mn0 v ∧ anM v σ 85 = bmp (σ 85) v := by
  unfold anM mn0 bmp
  by_cases h : v < 0
  · rw [if_pos h, if_pos h, if_pos h]
    refine ⟨fun k a b => by rw [up2_o b, up2_o a], fun j a => ?_, ?_, ?_⟩
    · rw [up2_o (by omega), up2_c, upw_n a]
    · rw [up2_o (by omega), up2_c, upw_s]
    · rw [up2_c, up2_o (by omega)]
  · rw [if_neg h, if_neg h, if_neg h]
    refine ⟨fun k a b => by rw [up2_o a], fun j a => ?_, ?_, ?_⟩
    · rw [up2_c, upw_n a]
    · rw [up2_c, upw_s]
    · rw [up2_o (by omega)]
theorem c_refuse {K : Kt} {σ : Sg} {v : Int} (hv : -6 ≤ v ∧ v < 0) (h : 0 ≤ σ 83 (-v).toNat ∧ σ 83 (-v).toNat ≤ 600) : vX9_refuse K v σ = some (v, anC v σ) := by
  unfold vX9_refuse anC
  simp only [nm]
  have e : up2 σ 0 14 v 83 = σ 83 := up2_o (by omega)
  rw [if_pos hv.2, if_neg (by omega), e, ck_p (by omega), ck_p (by omega), ck_p (by omega), ck_p (by omega), if_pos hv.2]
theorem c_grant {K : Kt} {σ : Sg} {v : Int} (hv : 0 ≤ v) : vX9_grant K v σ = some (v, anC v σ) := by
  unfold vX9_grant anC
  rw [if_neg (by omega)]
  rfl
theorem c_answered {K : Kt} {σ : Sg} {v : Int} (hv : -6 ≤ v) (h : v < 0 → 0 ≤ σ 83 (-v).toNat ∧ σ 83 (-v).toNat ≤ 600) : vX9_answered K v σ = some (v, anC v σ) := by
  unfold vX9_answered
  by_cases h0 : v < 0
  · rw [if_pos h0, c_refuse ⟨hv, h0⟩ (h h0)]; rfl
  · rw [if_neg h0, c_grant (by omega)]; rfl
theorem m_told {σ : Sg} {v : Int} (hv : -6 ≤ v) (h : v < 0 → 0 ≤ σ 85 (-v).toNat ∧ σ 85 (-v).toNat ≤ 600) : vX10_tell v σ = some (v, anM v σ) := m_tell (fun h0 => ⟨hv, h h0⟩)
theorem m_settled {σ : Sg} {v : Int} (hv : -6 ≤ v) (h : v < 0 → 0 ≤ σ 85 (-v).toNat ∧ σ 85 (-v).toNat ≤ 600) : vX10_settled v σ = some (v, anM v (up2 σ 84 8 (if v < 0 then σ 84 8 else 0))) := by
  unfold vX10_settled
  have key : ∀ z, vX10_settled_13 v z σ = some (v, anM v (up2 σ 84 8 z)) := by
    intro z
    unfold vX10_settled_13
    simp only [nm]
    rw [m_told hv (by intro h0; rw [up2_o (by omega)]; exact h h0)]
    rfl
  by_cases h0 : v < 0
  · rw [if_pos h0, if_pos h0]; exact key _
  · rw [if_neg h0, if_neg h0]; exact key _
theorem InvR_v {σ : Sg} {n v : Int} (h : InvS σ n) (hn : n ≤ 600) (hv : -6 ≤ v) (h0 : v < 0) : (0 ≤ σ 83 (-v).toNat ∧ σ 83 (-v).toNat ≤ 600) ∧ (0 ≤ σ 85 (-v).toNat ∧ σ 85 (-v).toNat ≤ 600) := by
  have := h.2 (-v).toNat (by omega)
  omega
theorem c_within {a b c : Int} {σ : Sg} : vX9_within a b c σ = some (bI (b ≤ a ∧ a ≤ c)) := by
  unfold vX9_within
  by_cases h1 : a < b
  · rw [if_pos h1, bI_f (by omega)]
  · rw [if_neg h1]
    by_cases h2 : c < a
    · rw [if_pos h2, bI_f (by omega)]
    · rw [if_neg h2, bI_t (by omega)]
/-! ===== calls ===== -/
/-- a call of both: the same answer, and the invariant holds behind it -/
def St0 (K : Kt) (n : Int) (c : Option Int) (m : Option (Int × Sg)) : Prop := T c (fun r => T m (fun q => q.1 = r ∧ Inv K q.2 (n + 1)))
def St2 (K : Kt) (n : Int) (c : Option (Int × Sg)) (m : Sg → Option (Int × Sg)) : Prop := T c (fun p => T (m p.2) (fun q => q.1 = p.1 ∧ Inv K q.2 (n + 1)))
/-- both refuse at once -/
theorem St2_ref {K : Kt} {σ : Sg} {n v : Int} {c : Option (Int × Sg)} {m : Sg → Option (Int × Sg)} (hI : Inv K σ n) (hn : n ≤ 600) (hv : -6 ≤ v ∧ v < 0) (hc : c = some (v, anC v σ)) (hm : ∀ σ1, (∀ k, k ≠ 0 → k ≠ 83 → σ1 k = σ k) → m σ1 = some (v, anM v (up2 σ1 84 0 0))) : St2 K n c m := by
  obtain ⟨a1, a2, a3, a4⟩ := anC_k (v := v) (σ := σ)
  obtain ⟨b1, b2, b3, b4⟩ := anM_k (v := v) (σ := up2 (anC v σ) 84 0 0)
  refine ⟨_, hc, ⟨_, hm _ a1, rfl, ?_, ?_⟩⟩ <;> dsimp only
  · refine InvX_s hI.1 ⟨fun k k1 k2 k3 k4 _ => ?_, fun j j1 j2 _ => ?_, fun j j1 => ?_⟩
    · rw [b1 k k1 k4, up2_o k1, a1 k k2 k3]
    · rw [b2 j j2, up2_c, upw_n j1, a1 84 (by omega) (by omega)]
    · rw [b1 0 (by omega) (by omega), up2_o (by omega), a2 j j1]
  · refine InvS_t (v := v) hI.2 ⟨hv.1, ?_, b3, ?_, ?_⟩
    · rw [b1 0 (by omega) (by omega), up2_o (by omega), a3]
    · rw [b1 83 (by omega) (by omega), up2_o (by omega), a4]
    · rw [b4, up2_o (by omega), a1 85 (by omega) (by omega)]
