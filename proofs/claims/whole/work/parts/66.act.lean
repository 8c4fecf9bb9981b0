/-! ===== one thing is done ===== -/
/-- only arrays 28 and 31 have been filled where they were empty -/
def KY (K K' : Kt) : Prop := K.2.2.1 ≤ K'.2.2.1 ∧ (∀ k, k < K.2.2.1 → K'.2.1 k = K.2.1 k) ∧ (∀ k j, k < K.2.2.1 → k ≠ 28 → k ≠ 31 → K'.1 k j = K.1 k j) ∧ ∀ a j h, a = 28 ∨ a = 31 → K.1 a j = some h → K'.1 a j = some h
theorem KY_x {a : Nat} {K K' : Kt} (ha : a = 28 ∨ a = 31) (hl : 115 ≤ K.2.2.1) (h : KX a K K') : KY K K' := by
  refine ⟨h.1, h.2.1, fun k j hk h1 h2 => h.2.2.1 k j hk (by omega), fun b j x hb e => ?_⟩
  by_cases q : b = a
  · rw [q] at e ⊢; exact h.2.2.2 j x e
  · rw [h.2.2.1 b j (by omega) q]; exact e
theorem KY_r {K : Kt} : KY K K := ⟨Nat.le_refl _, fun _ _ => rfl, fun _ _ _ _ _ => rfl, fun _ _ _ _ h => h⟩
theorem KY_t {K K' K'' : Kt} (h : KY K K') (h' : KY K' K'') : KY K K'' := ⟨by have := h.1; have := h'.1; omega, fun k hk => by rw [h'.2.1 k (by have := h.1; omega), h.2.1 k hk], fun k j hk a b => by rw [h'.2.2.1 k j (by have := h.1; omega) a b, h.2.2.1 k j hk a b], fun a j x ha e => h'.2.2.2 a j x ha (h.2.2.2 a j x ha e)⟩
theorem KY_e {K K' : Kt} (hK : Shp K) (h : KY K K') : Ext K K' := by
  have b28 := lcA_28 hK.1.1
  have b31 := lcA_31 hK.1.1
  refine ⟨h.1, h.2.1, fun k j hk hl => h.2.2.1 k j hk (fun e => ?_) (fun e => ?_)⟩
  · rw [e, b28.2] at hl; omega
  · rw [e, b31.2] at hl; omega
theorem LawAll_s2 {K : Kt} {σ σ' : Sg} {ta la : Nat} {ρ : Nat → Int} (h : LawAll K σ ta la ρ) (hr : ρ 2 ≤ 6) (hx : txs K ta) (h4 : σ' la 4 = σ la 4) (h5 : σ' la 5 = σ la 5) (hc : ∀ i q k, i < 6 → K.1 ta i = some q → q ≤ k → k ≤ q + 6 → σ' k = σ k) : LawAll K σ' ta la ρ := by
  obtain ⟨a, b, c⟩ := h
  refine ⟨by rw [h4]; exact a, by rw [h5]; exact b, fun i hi => ?_⟩
  obtain ⟨q, e, n, kd, ts, fs, x, y⟩ := c i hi
  have ht := hx i q (by omega) e
  refine ⟨q, e, n, kd, ts, fs, CLaw_a x ⟨hc i q q (by omega) e (by omega) (by omega), fun j t hj e' => ?_⟩, y⟩
  have := (ht.1.2 j hj).1
  rw [e'] at this
  have e2 : t = q + 1 + j := by injection this
  rw [e2]
  exact hc i q _ (by omega) e (by omega) (by omega)
theorem tx_lt {K : Kt} {q : Nat} (h : TxtAt K q) : q + 6 < K.2.2.1 := (h.2 5 (by omega)).2.2
theorem InvX_hk {K K' : Kt} {σ σ' : Sg} (h : InvX K σ) (hs : Shp K') (ky : KY K K') (fr : ∀ k, kpt k → σ' k = σ k) (f63 : σ' 63 2 = σ 63 2) (f0 : σ' 0 12 = σ 0 12 ∧ σ' 0 13 = σ 0 13) (f84 : ∀ j, j = 11 ∨ j = 13 ∨ j = 18 ∨ j = 20 ∨ j = 52 ∨ j = 56 ∨ j = 57 → σ' 84 j = σ 84 j) (hi : ∀ k, 115 ≤ k → k < K.2.2.1 → ¬ uc K' k → σ' k = σ k) (hW : WF (σ' 86)) (hH : HallIs σ' 13 (σ' 86)) (r2 : σ' 86 2 = σ 86 2) (r3 : σ' 86 3 = σ 86 3) (rh : ∀ i, 105 ≤ i → σ' 86 i = σ 86 i) (hU : InvU K' σ') : InvX K' σ' := by
  obtain ⟨hK, ⟨hW0, hH0⟩, hL, hU0, hD, hT, hI, hC⟩ := h
  have ex := KY_e hK ky
  have F : ∀ k, k = 1 ∨ k = 2 ∨ k = 47 ∨ (51 ≤ k ∧ k ≤ 55) ∨ k = 61 ∨ k = 62 ∨ k = 87 ∨ k = 88 ∨ k = 93 ∨ (99 ≤ k ∧ k ≤ 101) ∨ k = 112 ∨ k = 114 → σ' k = σ k := fr
  have l115 := hK.1.2.2
  have e9 : ∀ i, K'.1 9 i = K.1 9 i := fun i => ky.2.2.1 9 i (by omega) (by omega) (by omega)
  have txc : ∀ q k, TxtAt K q → 115 ≤ q → q ≤ k → k ≤ q + 6 → σ' k = σ k := fun q k ht h1 h2 h3 => hi k (by omega) (by have := tx_lt ht; omega) (uc_tx hs (TxtAt_x ht ex) h2 h3)
  refine ⟨hs, ⟨hW, hH⟩, ⟨?_, by rw [F 2 (by omega)]; exact hL.2⟩, hU, ?_, ?_, ?_, ?_⟩
  · have a := LawAll_x (K' := K') hK.1.1 hK.2.1 ex hW0.1.2.2.1.2 (fun i _ => e9 i) hL.1
    refine LawAll_r (LawAll_s2 a hW0.1.2.2.1.2 hs.2.1 (by rw [F 1 (by omega)]) (by rw [F 1 (by omega)]) (fun i q k hi' e k1 k2 => ?_)) r2 r3 rh
    rw [e9] at e
    have ht := hK.2.1 i q hi' e
    exact txc q k ht.1 ht.2 k1 k2
  · exact InvD_f hD (by rw [F 47 (by omega)]) (by rw [F 47 (by omega)]) (F 51 (by omega)) (F 52 (by omega)) (F 54 (by omega)) (F 55 (by omega)) (F 114 (by omega)) (f84 56 (by omega)) (f84 57 (by omega))
  · exact InvT_f hT (by rw [F 61 (by omega)]) (F 62 (by omega)) f63 (F 93 (by omega)) f0.1 f0.2 (f84 13 (by omega)) (f84 18 (by omega)) (f84 11 (by omega)) (f84 52 (by omega)) (f84 20 (by omega))
  · intro k hk
    have er : imR σ' k = imR σ k := by unfold imR; rw [F 87 (by omega)]
    have e81 : K'.1 81 k = K.1 81 k := ky.2.2.1 81 k (by omega) (by omega) (by omega)
    rw [F 88 (by omega), er, e81]
    rcases hI k hk with q | ⟨m, e, a, b, d, f⟩
    · exact Or.inl q
    · have hA := (hK.2.2.2.2.2.2.2.1 k m hk e).1
      obtain ⟨i1, i2, i3, i4, i5, i6, i7, i8, i9⟩ := id hA
      have m13 : m + 26 < K.2.2.1 := by
        have := (i7.2 (16, 13, 4) (List.mem_of_getElem? (i := 12) rfl)).2.1
        exact this
      obtain ⟨n1, n2⟩ := uc_im hs hk (by rw [e81]; exact e)
      have c1 : σ' (m + 1) = σ (m + 1) := hi _ (by omega) (by omega) n1
      have e14 : ∀ i, K'.1 (m + 9) i = K.1 (m + 9) i := fun i => ky.2.2.1 _ i i6.1 (by omega) (by omega)
      have hx' : txs K' (m + 9) := fun i q hi' e' => by
        rw [e14] at e'
        exact ⟨TxtAt_x (i9 i q hi' e').1 ex, (i9 i q hi' e').2⟩
      refine Or.inr ⟨m, e, a, b, HallIs_s d (fun k k1 k2 => hi k (by omega) (by omega) (n2 k k1 (by omega))), ?_⟩
      refine LawAll_s2 (LawAll_x (K' := K') hK.1.1 i9 ex b.1.2.2.1.2 (fun i _ => e14 i) f) b.1.2.2.1.2 hx' (by rw [c1]) (by rw [c1]) (fun i q k hi' e' k1 k2 => ?_)
      rw [e14] at e'
      have ht := i9 i q hi' e'
      exact txc q k ht.1 ht.2 k1 k2
  · exact InvC_f hC (F 99 (by omega)) (F 100 (by omega)) (F 101 (by omega)) (F 112 (by omega))
/-! room -/
def rmC (K : Kt) : Nat := K.2.2.1 + 14 * (nul K 28 16 + nul K 31 16) + 27 * nul K 81 2
def rmS (K : Kt) : Nat := K.2.2.2 + 113 * (nul K 28 16 + nul K 31 16) + 300 * nul K 81 2
/-- no more room than this is taken -/
def Rm (K K' : Kt) : Prop := rmC K' ≤ rmC K ∧ rmS K' ≤ rmS K
theorem Rm_r {K : Kt} : Rm K K := ⟨Nat.le_refl _, Nat.le_refl _⟩
theorem Rm_t {K K' K'' : Kt} (h : Rm K K') (h' : Rm K' K'') : Rm K K'' := ⟨by have := h.1; have := h'.1; omega, by have := h.2; have := h'.2; omega⟩
theorem Rm_k {K K' : Kt} {a : Nat} (ha : a = 28 ∨ a = 31) (hl : 115 ≤ K.2.2.1) (kx : KX a K K') (h1 : K'.2.2.1 + 14 * nul K' a 16 ≤ K.2.2.1 + 14 * nul K a 16) (h2 : K'.2.2.2 + 113 * nul K' a 16 ≤ K.2.2.2 + 113 * nul K a 16) : Rm K K' := by
  have o : ∀ b n, b < 115 → b ≠ a → nul K' b n = nul K b n := fun b n hb hne => nul_c n (fun i _ => kx.2.2.1 b i (by omega) hne)
  unfold Rm rmC rmS
  rcases ha with w | w
  · subst w
    rw [o 31 16 (by omega) (by omega), o 81 2 (by omega) (by omega)]
    omega
  · subst w
    rw [o 28 16 (by omega) (by omega), o 81 2 (by omega) (by omega)]
    omega
/-! the law in force, over grown shapes -/
theorem LawC_x {K K' : Kt} {σ : Sg} {law : Int} {D : Int → (Nat → Int) → Option Int} (hK : Shp K) (hs : Shp K') (ex : Ext K K') (e9 : ∀ i, K'.1 9 i = K.1 9 i) (h2 : σ 2 6 = 0) (h : LawC K σ law D) : LawC K' σ law D := by
  obtain ⟨n, kd, ts, fs, hF, hD⟩ := h
  rcases hF with ⟨f1, f2, f3⟩ | ⟨f1, f2, f3, q, f4, f5⟩
  · subst f2
    exact ⟨0, kd, ts, fs, Or.inl ⟨f1, rfl, CLaw_2 hs.1.1 h2 _ _ _⟩, hD⟩
  · exact ⟨n, kd, ts, fs, Or.inr ⟨f1, f2, f3, q, by rw [e9]; exact f4, CLaw_x hK.1.1 (hK.2.1 _ q (by omega) f4).1 ex f5⟩, hD⟩
theorem LwO_u {K K' : Kt} {u : Nat} (hu : u = 27 ∨ u = 30) (hK : Shp K) (hs : Shp K') (e9 : ∀ i, K'.1 9 i = K.1 9 i) (ex : Ext K K') : LwO K' (fun k => k = u ∨ k = u + 2 ∨ hC 13 k ∨ ucA K' (u + 1) k ∨ K.2.2.1 ≤ k) := by
  have l115 := hK.1.2.2
  have uh : ∀ i h, i < 16 → K'.1 (u + 1) i = some h → uH K' h := fun i h hi e => by
    rcases hu with w | w
    · subst w; exact hs.2.2.1 i h hi e
    · subst w; exact hs.2.2.2.1 i h hi e
  have lo : ∀ k, k < 9 → ¬ (k = u ∨ k = u + 2 ∨ hC 13 k ∨ ucA K' (u + 1) k ∨ K.2.2.1 ≤ k) := by
    rintro k hk (q | q | q | ⟨i, h, hi, e, a, b⟩ | q)
    · omega
    · omega
    · unfold hC at q; omega
    · have := (uh i h hi e).2.1; omega
    · omega
  have tx : ∀ q k, TxtAt K q → 115 ≤ q → q ≤ k → k ≤ q + 6 → ¬ (k = u ∨ k = u + 2 ∨ hC 13 k ∨ ucA K' (u + 1) k ∨ K.2.2.1 ≤ k) := by
    rintro q k ht h1 h2 h3 (w | w | w | ⟨i, h, hi, e, a, b⟩ | w)
    · omega
    · omega
    · unfold hC at w; omega
    · exact ht_dis (uh i h hi e).1 (TxtAt_x ht ex) k a b ⟨h2, h3⟩
    · have := tx_lt ht; omega
  refine ⟨⟨lo 1 (by omega), lo 2 (by omega), fun j t hj e => ?_⟩, fun i q hi e => ?_⟩
  · have hc := hs.1.1
    have r0 := lcR_2_0 hc; have r1 := lcR_2_1 hc; have r2 := lcR_2_2 hc; have r3 := lcR_2_3 hc; have r4 := lcR_2_4 hc; have r5 := lcR_2_5 hc
    match j with
    | 0 => rw [r0] at e; injection e with e; rw [← e]; exact lo 3 (by omega)
    | 1 => rw [r1] at e; injection e with e; rw [← e]; exact lo 4 (by omega)
    | 2 => rw [r2] at e; injection e with e; rw [← e]; exact lo 5 (by omega)
    | 3 => rw [r3] at e; injection e with e; rw [← e]; exact lo 6 (by omega)
    | 4 => rw [r4] at e; injection e with e; rw [← e]; exact lo 7 (by omega)
    | 5 => rw [r5] at e; injection e with e; rw [← e]; exact lo 8 (by omega)
    | j + 6 => omega
  · rw [e9] at e
    have ht := hK.2.1 i q hi e
    refine ⟨tx q q ht.1 ht.2 (by omega) (by omega), fun j t hj e' => ?_⟩
    have := ((TxtAt_x ht.1 ex).2 j hj).1
    rw [e'] at this
    injection this with this
    rw [this]
    exact tx q _ ht.1 ht.2 (by omega) (by omega)
/-! what is done, by its kind -/
noncomputable def rfv (D : Int → (Nat → Int) → Option Int) (ρ : Nat → Int) (kind a b : Int) : Int :=
  if kind = 0 then lref D ρ a b else if kind = 1 then (if 0 ≤ a ∧ a < ρ 1 then (if ρ (29 + a).toNat = -1 then -3 else 0) else -2)
  else if kind = 2 then (if (0 ≤ b ∧ b < ρ 1) ∧ (0 ≤ a ∧ a < ρ 0) then @ite Int (ρ (29 + b).toNat = a ∨ ∃ i : Int, 0 ≤ i ∧ i < ρ 8 ∧ wtM ρ a b i) (Classical.propDecidable _) (-3) (if ρ 8 < 12 then 0 else -5) else -2)
  else if ρ 4 < 999 then 0 else -3
noncomputable def nwv (D : Int → (Nat → Int) → Option Int) (ρ : Nat → Int) (kind a : Int) : Int := if kind = 0 then payS D ρ a else if kind = 1 then payS D ρ a else if kind = 2 then ρ 8 + 1 else ρ 4 + 1
noncomputable def nwr (D : Int → (Nat → Int) → Option Int) (ρ : Nat → Int) (kind a b : Int) : Nat → Int := if kind = 0 then lendR D ρ a b else if kind = 1 then leaveR D ρ a else if kind = 2 then waitR ρ a b else passR D ρ
theorem rfv_0 {D : Int → (Nat → Int) → Option Int} {ρ : Nat → Int} {kind a b : Int} (hk : 0 ≤ kind ∧ kind ≤ 3) (h : rfv D ρ kind a b = 0) : (kind = 0 → (0 ≤ a ∧ a < ρ 1) ∧ (0 ≤ b ∧ b < ρ 0) ∧ lendP D ρ a b) ∧ (kind = 1 → (0 ≤ a ∧ a < ρ 1) ∧ ρ (29 + a).toNat ≠ -1) ∧ (kind = 2 → (0 ≤ b ∧ b < ρ 1) ∧ (0 ≤ a ∧ a < ρ 0) ∧ ρ (29 + b).toNat ≠ a ∧ (∀ i : Int, 0 ≤ i → i < ρ 8 → ¬ wtM ρ a b i) ∧ ρ 8 < 12) ∧ (kind = 3 → ρ 4 < 999) := by
  unfold rfv lref at h
  refine ⟨fun e => ?_, fun e => ?_, fun e => ?_, fun e => ?_⟩
  · rw [if_pos e] at h
    by_cases c : (0 ≤ a ∧ a < ρ 1) ∧ (0 ≤ b ∧ b < ρ 0)
    · rw [if_pos c] at h
      by_cases c2 : lendP D ρ a b
      · exact ⟨c.1, c.2, c2⟩
      · rw [if_neg c2] at h; omega
    · rw [if_neg c] at h; omega
  · rw [if_neg (by omega), if_pos e] at h
    by_cases c : 0 ≤ a ∧ a < ρ 1
    · rw [if_pos c] at h
      refine ⟨c, fun q => ?_⟩
      rw [if_pos q] at h; omega
    · rw [if_neg c] at h; omega
  · rw [if_neg (by omega), if_neg (by omega), if_pos e] at h
    by_cases c : (0 ≤ b ∧ b < ρ 1) ∧ (0 ≤ a ∧ a < ρ 0)
    · rw [if_pos c] at h
      by_cases c2 : ρ (29 + b).toNat = a ∨ ∃ i : Int, 0 ≤ i ∧ i < ρ 8 ∧ wtM ρ a b i
      · rw [if_pos c2] at h; omega
      · rw [if_neg c2] at h
        refine ⟨c.1, c.2, fun q => c2 (Or.inl q), fun i i0 i1 q => c2 (Or.inr ⟨i, i0, i1, q⟩), ?_⟩
        by_cases c3 : ρ 8 < 12
        · exact c3
        · rw [if_neg c3] at h; omega
    · rw [if_neg c] at h; omega
  · rw [if_neg (by omega), if_neg (by omega), if_neg (by omega)] at h
    by_cases c : ρ 4 < 999
    · exact c
    · rw [if_neg c] at h; omega
theorem rfv_b {D : Int → (Nat → Int) → Option Int} {ρ : Nat → Int} {kind a b : Int} : -6 ≤ rfv D ρ kind a b ∧ rfv D ρ kind a b ≤ 0 := by
  unfold rfv lref
  by_cases k0 : kind = 0
  · rw [if_pos k0]
    by_cases c : (0 ≤ a ∧ a < ρ 1) ∧ (0 ≤ b ∧ b < ρ 0)
    · rw [if_pos c]
      by_cases c2 : lendP D ρ a b
      · rw [if_pos c2]; omega
      · rw [if_neg c2]; omega
    · rw [if_neg c]; omega
  · rw [if_neg k0]
    by_cases k1 : kind = 1
    · rw [if_pos k1]; split <;> (try split) <;> omega
    · rw [if_neg k1]
      by_cases k2 : kind = 2
      · rw [if_pos k2]
        by_cases c : (0 ≤ b ∧ b < ρ 1) ∧ (0 ≤ a ∧ a < ρ 0)
        · rw [if_pos c]
          by_cases c2 : ρ (29 + b).toNat = a ∨ ∃ i : Int, 0 ≤ i ∧ i < ρ 8 ∧ wtM ρ a b i
          · rw [if_pos c2]; omega
          · rw [if_neg c2]; split <;> omega
        · rw [if_neg c]; omega
      · rw [if_neg k2]; split <;> omega
theorem nwr_k {D : Int → (Nat → Int) → Option Int} {ρ : Nat → Int} {kind a b : Int} (hW : WF ρ) (hk : 0 ≤ kind ∧ kind ≤ 3) (h : rfv D ρ kind a b = 0) : WF (nwr D ρ kind a b) ∧ RF ρ (nwr D ρ kind a b) ∧ (0 ≤ nwv D ρ kind a ∧ nwv D ρ kind a ≤ 1000) := by
  obtain ⟨r0, r1, r2, r3⟩ := rfv_0 hk h
  have h4 := hW.2.1.1
  have h8 := hW.2.1.2.2.2.2
  unfold nwr nwv
  obtain k | k | k | k : kind = 0 ∨ kind = 1 ∨ kind = 2 ∨ kind = 3 := by omega
  · obtain ⟨a1, a2, a3⟩ := r0 k
    have p := payS_rg (D := D) hW a1
    obtain ⟨q1, q2, q3⟩ := lendR_k (D := D) hW a1 a2 a3.1
    rw [if_pos k, if_pos k]
    exact ⟨q1, q2, by omega⟩
  · obtain ⟨a1, a2⟩ := r1 k
    have p := payS_rg (D := D) hW a1
    rw [if_neg (by omega), if_pos k, if_neg (by omega), if_pos k]
    exact ⟨WF_leave hW a1, fun i hi => (leaveR_k hW a1).1 i (by omega), by omega⟩
  · obtain ⟨a1, a2, a3, a4, a5⟩ := r2 k
    rw [if_neg (by omega), if_neg (by omega), if_pos k, if_neg (by omega), if_neg (by omega), if_pos k]
    refine ⟨WF_waitR hW a1 a2 a5 a4, fun i hi => ?_, by omega⟩
    unfold waitR
    rw [upw_n (by omega), upw_n (by omega), upw_n (by omega)]
  · have a1 := r3 k
    rw [if_neg (by omega), if_neg (by omega), if_neg (by omega), if_neg (by omega), if_neg (by omega), if_neg (by omega)]
    exact ⟨WF_passR hW a1, (passR_k hW).1, by omega⟩
def snap (ρ : Nat → Int) : Nat → Int := fun j => ρ (4 + j)
theorem put_snap {ρ : Nat → Int} : putR ρ (snap ρ) = ρ := putR_b (fun _ _ => rfl) (fun _ _ => rfl)
