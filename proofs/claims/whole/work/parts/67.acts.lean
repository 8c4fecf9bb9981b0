/-! ===== the class does one thing ===== -/
def ActD (D : Int → (Nat → Int) → Option Int) (K : Kt) (σ : Sg) (u : Nat) (ρ : Nat → Int) (L : UL) (kind a b : Int) (p : Int × Kt × Sg) : Prop :=
  p.1 = nwv D ρ kind a ∧ HallIs p.2.2 13 (nwr D ρ kind a b) ∧ Shp p.2.1 ∧ KX (u + 1) K p.2.1 ∧ UC p.2.1 p.2.2 u ρ (pushU L (snap ρ, kind)) ∧ (∀ k, k < K.2.2.1 → k ≠ u → k ≠ u + 2 → ¬ hC 13 k → ¬ ucA p.2.1 (u + 1) k → p.2.2 k = σ k) ∧ (∀ j, j ≠ 2 → j ≠ 3 → p.2.2 u j = σ u j) ∧ Rm K p.2.1
def ActC (D : Int → (Nat → Int) → Option Int) (K : Kt) (σ : Sg) (u : Nat) (ρ : Nat → Int) (L : UL) (kind a b : Int) (p : Int × Kt × Sg) : Prop :=
  (rfv D ρ kind a b ≠ 0 ∧ p.1 = rfv D ρ kind a b ∧ p.2.1 = K ∧ Sme (fun k => k = 11 ∨ k = 12) σ p.2.2) ∨ (rfv D ρ kind a b = 0 ∧ ActD D K σ u ρ L kind a b p)
theorem hall13 {K : Kt} (h : cLay K) : hallAt K 13 ∧ K.1 13 0 = some 1 := ⟨(hPre_13 h).2.1, (hPre_13 h).2.2⟩
theorem c_act_78 {K : Kt} {σ : Sg} {u : Nat} {ρ : Nat → Int} {L : UL} {D : Int → (Nat → Int) → Option Int} {kind a b why : Int} (hK : Shp K) (hu : u = 27 ∨ u = 30) (hU : UC K σ u ρ L) (hH : HallIs σ 13 ρ) (hW : WF ρ) (h2 : σ 2 6 = 0) (hD : LawC K σ (σ 1 5) D) (hk : 0 ≤ kind ∧ kind ≤ 3) (hw : why = rfv D ρ kind a b) :
    T (vX9_act_78 kind a b u why K σ) (fun p => ActC D K σ u ρ L kind a b p) := by
  obtain ⟨c1, c2, c3⟩ := hK.1
  obtain ⟨H13a, H13b⟩ := hall13 c1
  unfold vX9_act_78
  refine T_ite (fun c => ?_) (fun c => T_some (Or.inl ⟨by rw [← hw]; exact c, hw, rfl, Sme_r⟩))
  have h0 : rfv D ρ kind a b = 0 := by rw [← hw]; exact c
  obtain ⟨r0, r1, r2, r3⟩ := rfv_0 hk h0
  have hua : uAt K u := by rcases hu with w | w <;> subst w; exact uAt_27 c1; exact uAt_30 c1
  refine T_ckP (lcO_0 c1) ?_
  rw [lcR_0_1 c1, Option.bind_some]
  refine T_ckP hua.1 ?_
  refine T_bdVK (c_keep (s := snap ρ) (kind := kind) hK hu hU H13a H13b (fun i h hi e => by
    have : uH K h := by
      rcases hu with w | w
      · subst w; exact hK.2.2.1 i h hi e
      · subst w; exact hK.2.2.2.1 i h hi e
    have := this.2.1
    omega) (by rw [put_snap]; exact hH) (by rw [put_snap]; exact hW) hk) (fun K5 σ6 hp => ?_)
  obtain ⟨s1, kx, uc1, fr, fu, rm1, rm2⟩ := hp
  dsimp only at s1 kx uc1 fr fu rm1 rm2
  have a28 : u + 1 = 28 ∨ u + 1 = 31 := by omega
  have ex : Ext K K5 := KX_e kx (by rw [hua.2.2.1.2]; decide)
  have e9 : ∀ i, K5.1 9 i = K.1 9 i := fun i => kx.2.2.1 9 i (by omega) (by omega)
  have rm := Rm_k a28 c3 kx rm1 rm2
  have uge : ∀ k, ucA K5 (u + 1) k → 115 ≤ k := by
    rintro k ⟨i, h, hi, e, x, y⟩
    have : uH K5 h := by
      rcases hu with w | w
      · subst w; exact s1.2.2.1 i h hi e
      · subst w; exact s1.2.2.2.1 i h hi e
    have := this.2.1
    omega
  have S6 : Sme (fun k => k = u ∨ k = u + 2 ∨ hC 13 k ∨ ucA K5 (u + 1) k ∨ K.2.2.1 ≤ k) σ σ6 := fun k hk => by
    refine fr k ?_ (fun q => hk (Or.inl q)) (fun q => hk (Or.inr (Or.inl q))) (fun q => hk (Or.inr (Or.inr (Or.inr (Or.inl q)))))
    rcases Nat.lt_or_ge k K.2.2.1 with z | z
    · exact z
    · exact absurd (Or.inr (Or.inr (Or.inr (Or.inr z)))) hk
  have lo : ∀ k, k < 115 → k ≠ u → k ≠ u + 2 → σ6 k = σ k := fun k x y z => fr k (by omega) y z (fun q => by have := uge k q; omega)
  have hO := LwO_u hu hK s1 e9 ex
  have hO13 : LwO K5 (hC 13) := LwO_m hO (fun k hk => Or.inr (Or.inr (Or.inl hk)))
  have hD6 : LawC K5 σ6 (σ6 1 5) D := by
    rw [lo 1 (by omega) (by omega) (by omega)]
    exact LawC_s (LawC_x hK s1 ex e9 h2 hD) S6 hO
  have H6 : HallIs σ6 13 ρ := HallIs_s hH (fun k k1 k2 => lo k (by omega) (by omega) (by omega))
  have hc5 := s1.1.1
  have fin : ∀ (v : Int) (σ7 : Sg), Sme (hC 13) σ6 σ7 → v = nwv D ρ kind a → HallIs σ7 13 (nwr D ρ kind a b) → ActC D K σ u ρ L kind a b (v, K5, σ7) := by
    intro v σ7 S7 hv hH7
    have u7 : σ7 u = σ6 u := S7 u (by unfold hC; omega)
    refine Or.inr ⟨h0, hv, hH7, s1, kx, ?_, fun k k1 k2 k3 k4 k5 => ?_, fun j j1 j2 => ?_, rm⟩
    · refine UC_f uc1 (RS_w hW (fun _ _ => rfl)) (by dsimp only; rw [u7]) (by dsimp only; rw [u7]) (S7 (u + 2) (by unfold hC; omega)) (fun i h hi e k k1 k2 => S7 k ?_)
      have := uge k ⟨i, h, hi, e, k1, k2⟩
      unfold hC; omega
    · dsimp only; rw [S7 k k4, fr k k1 k2 k3 k5]
    · dsimp only; rw [u7, fu j j1 j2]
  obtain k | k | k | k : kind = 0 ∨ kind = 1 ∨ kind = 2 ∨ kind = 3 := by omega
  · obtain ⟨b1, b2, b3⟩ := r0 k
    refine T_t k (T_ckP (lcO_0 hc5) ?_)
    rw [lcR_0_1 hc5, Option.bind_some]
    refine T_ckP (hPre_13 hc5) (T_ckP (lcO_13 hc5) ?_)
    refine T_bd2 (c_lendOut (by omega) hO13 H6 hW hD6 b1 b2 b3.1) (fun v σ7 h7 => T_some (fin v σ7 h7.1 ?_ ?_))
    · have := h7.2.1; dsimp only at this; rw [this]; unfold nwv; rw [if_pos k]
    · unfold nwr; rw [if_pos k]; exact h7.2.2
  · obtain ⟨b1, b2⟩ := r1 k
    refine T_f (by omega) (T_t k (T_ckP (lcO_0 hc5) ?_))
    rw [lcR_0_1 hc5, Option.bind_some]
    refine T_ckP (hPre_13 hc5) (T_ckP (lcO_13 hc5) ?_)
    refine T_bd2 (c_leave (by omega) hO13 H6 hW hD6 b1) (fun v σ7 h7 => T_some (fin v σ7 h7.1 ?_ ?_))
    · have := h7.2.1; dsimp only at this; rw [this]; unfold nwv; rw [if_neg (by omega), if_pos k]
    · unfold nwr; rw [if_neg (by omega), if_pos k]; exact h7.2.2
  · obtain ⟨b1, b2, b3, b4, b5⟩ := r2 k
    refine T_f (by omega) (T_f (by omega) (T_t k (T_ckP (lcO_0 hc5) ?_)))
    rw [lcR_0_1 hc5, Option.bind_some]
    refine T_ckP (hPre_13 hc5) (T_ckP (lcO_13 hc5) ?_)
    refine T_bd2 (c_addWaiting H6 hW b5) (fun v σ7 h7 => T_some (fin v σ7 h7.1 ?_ ?_))
    · have := h7.2.1; dsimp only at this; rw [this]; unfold nwv; rw [if_neg (by omega), if_neg (by omega), if_pos k]
    · unfold nwr; rw [if_neg (by omega), if_neg (by omega), if_pos k]; exact h7.2.2
  · refine T_f (by omega) (T_f (by omega) (T_f (by omega) (T_ckP (lcO_0 hc5) ?_)))
    rw [lcR_0_1 hc5, Option.bind_some]
    refine T_ckP (hPre_13 hc5) (T_ckP (lcO_13 hc5) ?_)
    refine T_bd2 (c_passWeek (by omega) hO13 hW H6 hD6) (fun v σ7 h7 => T_some (fin v σ7 h7.1 ?_ ?_))
    · have := h7.2.1; dsimp only at this; rw [this]; unfold nwv; rw [if_neg (by omega), if_neg (by omega), if_neg (by omega)]
    · unfold nwr; rw [if_neg (by omega), if_neg (by omega), if_neg (by omega)]; exact h7.2.2
theorem ActC_s {D : Int → (Nat → Int) → Option Int} {K : Kt} {σ σ1 : Sg} {u : Nat} {ρ : Nat → Int} {L : UL} {kind a b : Int} {p : Int × Kt × Sg} (hu : u = 27 ∨ u = 30) (hS : Sme (fun k => k = 11 ∨ k = 12) σ σ1) (h : ActC D K σ1 u ρ L kind a b p) : ActC D K σ u ρ L kind a b p := by
  rcases h with ⟨a1, a2, a3, a4⟩ | ⟨a1, b1, b2, b3, b4, b5, b6, b7, b8⟩
  · exact Or.inl ⟨a1, a2, a3, Sme_t hS a4⟩
  · refine Or.inr ⟨a1, b1, b2, b3, b4, b5, fun k k1 k2 k3 k4 k5 => ?_, fun j j1 j2 => ?_, b8⟩
    · rw [b6 k k1 k2 k3 k4 k5, hS k (by unfold hC at k4; omega)]
    · rw [b7 j j1 j2, hS u (by omega)]
theorem c_act {K : Kt} {σ : Sg} {u : Nat} {ρ : Nat → Int} {L : UL} {D : Int → (Nat → Int) → Option Int} {kind a b : Int} (hK : Shp K) (hu : u = 27 ∨ u = 30) (hU : UC K σ u ρ L) (hH : HallIs σ 13 ρ) (hW : WF ρ) (h2 : σ 2 6 = 0) (hD : LawC K σ (σ 1 5) D) (hk : 0 ≤ kind ∧ kind ≤ 3) :
    T (vX9_act kind a b u K σ) (fun p => ActC D K σ u ρ L kind a b p) := by
  obtain ⟨c1, c2, c3⟩ := hK.1
  obtain ⟨⟨g0, g1, g8⟩, gB, gR, gI, g4, -⟩ := H13 hH
  have h08 := hW.1.1
  have h16 := hW.1.2.1
  have h4' := hW.2.1.1
  have h8' := hW.2.1.2.2.2.2
  have hO : LwO K (fun k => k = 11 ∨ k = 12) := LwO_lo c1 hK.2.1 (fun k h => by omega)
  unfold vX9_act
  obtain k | k | k | k : kind = 0 ∨ kind = 1 ∨ kind = 2 ∨ kind = 3 := by omega
  · refine T_t k (T_ckP (lcO_0 c1) ?_)
    rw [lcR_0_1 c1, Option.bind_some]
    refine T_ckP (hPre_13 c1) (T_ckP (lcO_13 c1) ?_)
    refine T_bd2 (c_lendRefusal (r := a) (b := b) (by omega) hO hH hW hD) (fun y σ1 h1 => ?_)
    dsimp only at h1
    obtain ⟨S1, hy⟩ := h1
    refine T_mono (c_act_78 (K := K) (σ := σ1) (L := L) hK hu ?_ (HallIs_k (by omega) hH S1) hW (by rw [S1 2 (by omega)]; exact h2) (by rw [S1 1 (by omega)]; exact LawC_s hD S1 hO) hk (by rw [hy]; unfold rfv; rw [if_pos k])) (fun p hp => ActC_s hu S1 hp)
    refine UC_f hU (RS_w hW (fun _ _ => rfl)) (by rw [S1 u (by omega)]) (by rw [S1 u (by omega)]) (S1 (u + 2) (by omega)) (fun i h hi e k k1 k2 => S1 k ?_)
    have : uH K h := by
      rcases hu with w | w
      · subst w; exact hK.2.2.1 i h hi e
      · subst w; exact hK.2.2.2.1 i h hi e
    have := this.2.1
    omega
  · refine T_f (by omega) (T_t k (T_ckP (lcO_0 c1) ?_))
    rw [lcR_0_1 c1, Option.bind_some]
    refine T_ckP (hPre_13 c1) (T_ckP (lcO_13 c1) ?_)
    refine T_bind (R := fun y => y = rfv D ρ kind a b) ?_ (fun y hy => c_act_78 hK hu hU hH hW h2 hD hk hy)
    unfold vX1_bringRefusal rfv
    rw [h_hasReader, Option.bind_some, g1, if_neg (show ¬ kind = 0 by omega), if_pos k]
    by_cases hr : 0 ≤ a ∧ a < ρ 1
    · refine T_f (by rw [bI_t hr]; omega) ?_
      rw [if_pos hr]
      with_reducible refine T_ck (by omega) ?_
      have g : σ (13 + 8) a.toNat = ρ (29 + a).toNat := (gR a (by omega) (by omega)).2.2.2.1
      rw [g]
      refine T_ite (fun c => T_some (by rw [if_pos c])) (fun c => T_some (by rw [if_neg c]))
    · rw [if_neg hr]
      exact T_t (bI_f hr) (T_some rfl)
  · refine T_f (by omega) (T_f (by omega) (T_t k (T_ckP (lcO_0 c1) ?_)))
    rw [lcR_0_1 c1, Option.bind_some]
    refine T_ckP (hPre_13 c1) (T_ckP (lcO_13 c1) ?_)
    refine T_bind (R := fun y => y = rfv D ρ kind a b) ?_ (fun y hy => c_act_78 hK hu hU hH hW h2 hD hk hy)
    unfold vX1_waitRefusal rfv
    rw [h_hasReader, Option.bind_some, g1, if_neg (show ¬ kind = 0 by omega), if_neg (show ¬ kind = 1 by omega), if_pos k]
    by_cases hr : 0 ≤ b ∧ b < ρ 1
    · refine T_f (by rw [bI_t hr]; omega) ?_
      rw [h_hasBook, Option.bind_some, g0]
      by_cases hb : 0 ≤ a ∧ a < ρ 0
      · refine T_f (by rw [bI_t hb]; omega) ?_
        rw [if_pos (show (0 ≤ b ∧ b < ρ 1) ∧ (0 ≤ a ∧ a < ρ 0) from ⟨hr, hb⟩)]
        with_reducible refine T_ck (by omega) ?_
        have g : σ (13 + 8) b.toNat = ρ (29 + b).toNat := (gR b (by omega) (by omega)).2.2.2.1
        rw [g]
        refine T_ite (fun c => T_some (by rw [if_pos (Or.inl c)])) (fun c => ?_)
        refine T_bind (c_placeWaiting (b := a) (r := b) hH h8') (fun z hz => ?_)
        rcases hz with ⟨z1, z2⟩ | ⟨z1, z2, z3⟩
        · rw [if_neg (show ¬ (ρ (29 + b).toNat = a ∨ ∃ i : Int, 0 ≤ i ∧ i < ρ 8 ∧ wtM ρ a b i) from fun q => q.elim c (fun ⟨i, i0, i1, i2⟩ => z2 i i0 i1 i2))]
          refine T_t z1 ?_
          rw [g8]
          refine T_ite (fun c2 => T_some (by rw [if_pos c2])) (fun c2 => T_some (by rw [if_neg c2]))
        · rw [if_pos (show ρ (29 + b).toNat = a ∨ ∃ i : Int, 0 ≤ i ∧ i < ρ 8 ∧ wtM ρ a b i from Or.inr ⟨z, z1, z2, z3⟩)]
          exact T_f (by omega) (T_some rfl)
      · rw [if_neg (show ¬ ((0 ≤ b ∧ b < ρ 1) ∧ (0 ≤ a ∧ a < ρ 0)) from fun q => hb q.2)]
        exact T_t (bI_f hb) (T_some rfl)
    · rw [if_neg (show ¬ ((0 ≤ b ∧ b < ρ 1) ∧ (0 ≤ a ∧ a < ρ 0)) from fun q => hr q.1)]
      exact T_t (bI_f hr) (T_some rfl)
  · refine T_f (by omega) (T_f (by omega) (T_f (by omega) (T_ckP (lcO_0 c1) ?_)))
    rw [lcR_0_1 c1, Option.bind_some]
    refine T_ckP (hPre_13 c1) (T_ckP (lcO_13 c1) ?_)
    refine T_bind (R := fun y => y = rfv D ρ kind a b) ?_ (fun y hy => c_act_78 hK hu hU hH hW h2 hD hk hy)
    unfold vX1_passRefusal rfv
    have g : σ (13 + 13) 0 = ρ 4 := g4
    rw [g, if_neg (show ¬ kind = 0 by omega), if_neg (show ¬ kind = 1 by omega), if_neg (show ¬ kind = 2 by omega)]
    refine T_ite (fun c => T_some (by rw [if_pos c])) (fun c => T_some (by rw [if_neg c]))
/-! ===== the reference does it ===== -/
def RwU (σ σ' : Sg) : Prop := (∀ k, k ≠ 84 → k ≠ 86 → k ≠ 89 → k ≠ 90 → k ≠ 102 → k ≠ 104 → σ' k = σ k) ∧ (∀ j, j ≠ 8 → ¬ sc84 j → σ' 84 j = σ 84 j) ∧ ∀ j, 1072 ≤ j → j < 1206 → σ' 89 j = σ 89 j
theorem RwU_t {σ σ' σ'' : Sg} (h : RwU σ σ') (h' : RwU σ' σ'') : RwU σ σ'' := ⟨fun k a b c d e f => (h'.1 k a b c d e f).trans (h.1 k a b c d e f), fun j a hj => (h'.2.1 j a hj).trans (h.2.1 j a hj), fun j a b => (h'.2.2 j a b).trans (h.2.2 j a b)⟩
theorem RwU_w {σ σ' : Sg} (h : RwT σ σ') : RwU σ σ' := ⟨fun k a b c _ e f => h.1 k a b c e f, fun j _ hj => h.2.1 j hj, fun j _ hj => h.2.2 j hj⟩
theorem RwU_r {σ : Sg} : RwU σ σ := RwU_w RwT_r
theorem m_remember_77 {σ : Sg} {n : Nat} {kind : Int} (h8 : σ 84 8 = (n : Int)) (hn : n < 16) : T (vX10_remember_77 kind σ) (fun σ' => (∀ k, k ≠ 84 → k ≠ 89 → k ≠ 90 → σ' k = σ k) ∧ (∀ j, j ≠ 8 → σ' 84 j = σ 84 j) ∧ σ' 84 8 = (n : Int) + 1 ∧ σ' 90 = upw (σ 90) n kind ∧ (∀ j, j < 67 → σ' 89 (67 * n + j) = σ 86 (4 + j)) ∧ ∀ j, j < 67 * n ∨ 67 * n + 67 ≤ j → σ' 89 j = σ 89 j) := by
  unfold vX10_remember_77
  rw [h8]
  refine T_bind (m_keepAll (σ := σ) (k := n) (by omega)) (fun σ1 h1 => ?_)
  obtain ⟨a1, a2, a3⟩ := h1
  have e8 : σ1 84 8 = (n : Int) := by rw [a1 84 (by omega)]; exact h8
  rw [e8]
  with_reducible refine T_ck (by omega) ?_
  refine T_nm ?_
  rw [Int.toNat_natCast]
  have f8 : up2 σ1 90 n kind 84 8 = (n : Int) := by rw [up2_o (by omega)]; exact e8
  rw [f8]
  repeat (with_reducible first | refine T_ck (by omega) ?_ | refine T_nm ?_)
  refine T_some ⟨fun k b c d => ?_, fun j hj => ?_, ?_, ?_, fun j hj => ?_, fun j hj => ?_⟩
  · rw [up2_o b, up2_o d, a1 k c]
  · rw [up2_c, upw_n hj, up2_o (by omega), a1 84 (by omega)]
  · rw [up2_c, upw_s]
  · rw [up2_o (by omega), up2_c, a1 90 (by omega)]
  · rw [up2_o (by omega), up2_o (by omega)]
    exact a2 j hj
  · rw [up2_o (by omega), up2_o (by omega)]
    exact a3 j hj
theorem m_remember_41 {σ0 : Sg} {kind : Int} {Q : Sg → Prop} (cont : ∀ σ, (∀ k, k ≠ 90 → σ k = σ0 k) → (∀ j, j < 15 → σ 90 j = σ0 90 (j + 1)) → T (ck (in32 ((σ 84 8) - 1)) (nm (up2 σ 84 8 ((σ 84 8) - 1)) (fun σ3 => vX10_remember_77 kind σ3))) Q) : ∀ (f x : Nat) (σ : Sg), 15 - x < f → x ≤ 15 → (∀ k, k ≠ 90 → σ k = σ0 k) → (∀ j, j < x → σ 90 j = σ0 90 (j + 1)) → (∀ j, x ≤ j → σ 90 j = σ0 90 j) → T (vX10_remember_41 f kind (x : Int) σ) Q := by
  intro f
  induction f with
  | zero => intro x σ h; omega
  | succ f ih =>
    intro x σ hf hx h1 h2 h3
    rw [vX10_remember_41]
    refine T_ite (fun h => ?_) (fun h => ?_)
    · repeat (with_reducible first | refine T_ck (by omega) ?_ | refine T_nm ?_)
      rw [Int.toNat_natCast, show ((x : Int) + 1).toNat = x + 1 by omega, show (x : Int) + 1 = ((x + 1 : Nat) : Int) by omega]
      refine ih (x + 1) _ (by omega) (by omega) (fun k hk => by rw [up2_o hk]; exact h1 k hk) (fun j hj => ?_) (fun j hj => ?_)
      · rw [up2_c]
        by_cases e : j = x
        · rw [e, upw_s]; exact h3 (x + 1) (by omega)
        · rw [upw_n e]; exact h2 j (by omega)
      · rw [up2_c, upw_n (by omega)]; exact h3 j (by omega)
    · have e : x = 15 := by omega
      subst e
      exact cont σ h1 h2
theorem m_remember_11 {σ0 : Sg} {kind : Int} {Q : Sg → Prop} (cont : ∀ σ, (∀ k, k ≠ 89 → σ k = σ0 k) → (∀ j, j < 1005 → σ 89 j = σ0 89 (j + 67)) → (∀ j, 1005 ≤ j → σ 89 j = σ0 89 j) → T (vX10_remember_41 FU kind 0 σ) Q) : ∀ (f x : Nat) (σ : Sg), 1005 - x < f → x ≤ 1005 → (∀ k, k ≠ 89 → σ k = σ0 k) → (∀ j, j < x → σ 89 j = σ0 89 (j + 67)) → (∀ j, x ≤ j → σ 89 j = σ0 89 j) → T (vX10_remember_11 f kind (x : Int) σ) Q := by
  intro f
  induction f with
  | zero => intro x σ h; omega
  | succ f ih =>
    intro x σ hf hx h1 h2 h3
    rw [vX10_remember_11]
    refine T_ite (fun h => ?_) (fun h => ?_)
    · repeat (with_reducible first | refine T_ck (by omega) ?_ | refine T_nm ?_)
      rw [Int.toNat_natCast, show ((x : Int) + 67).toNat = x + 67 by omega, show (x : Int) + 1 = ((x + 1 : Nat) : Int) by omega]
      refine ih (x + 1) _ (by omega) (by omega) (fun k hk => by rw [up2_o hk]; exact h1 k hk) (fun j hj => ?_) (fun j hj => ?_)
      · rw [up2_c]
        by_cases e : j = x
        · rw [e, upw_s]; exact h3 (x + 67) (by omega)
        · rw [upw_n e]; exact h2 j (by omega)
      · rw [up2_c, upw_n (by omega)]; exact h3 j (by omega)
    · have e : x = 1005 := by omega
      subst e
      exact cont σ h1 h2 h3
theorem m_remember {σ : Sg} {L : UL} {kind : Int} (hU : UM σ L) : T (vX10_remember kind σ) (fun σ' => UM σ' (pushU L (snap (σ 86), kind)) ∧ (∀ k, k ≠ 84 → k ≠ 89 → k ≠ 90 → σ' k = σ k) ∧ (∀ j, j ≠ 8 → σ' 84 j = σ 84 j) ∧ ∀ j, 1072 ≤ j → σ' 89 j = σ 89 j) := by
  obtain ⟨h1, h2, h3⟩ := hU
  have pl := pushU_l (x := (snap (σ 86), kind)) h2
  unfold vX10_remember
  rw [h1]
  refine T_ite (fun c => ?_) (fun c => ?_)
  · have e16 : L.length = 16 := by omega
    refine m_remember_11 (σ0 := σ) (fun σ1 a1 a2 a3 => ?_) FU 0 σ (by have := FU_b; omega) (by omega) (fun _ _ => rfl) (fun j hj => by omega) (fun _ _ => rfl)
    refine m_remember_41 (σ0 := σ1) (fun σ2 b1 b2 => ?_) FU 0 σ1 (by have := FU_b; omega) (by omega) (fun _ _ => rfl) (fun j hj => by omega) (fun _ _ => rfl)
    have e8 : σ2 84 8 = 16 := by rw [b1 84 (by omega), a1 84 (by omega)]; omega
    rw [e8]
    with_reducible refine T_ck (by omega) ?_
    refine T_nm ?_
    have g8 : up2 σ2 84 8 (16 - 1) 84 8 = ((15 : Nat) : Int) := by rw [up2_c, upw_s]; rfl
    refine T_mono (m_remember_77 (σ := up2 σ2 84 8 (16 - 1)) (n := 15) (kind := kind) g8 (by omega)) (fun σ3 d => ?_)
    obtain ⟨d1, d2, d3, d4, d5, d6⟩ := d
    have e86 : up2 σ2 84 8 (16 - 1) 86 = σ 86 := by rw [up2_o (by omega), b1 86 (by omega), a1 86 (by omega)]
    have e89 : up2 σ2 84 8 (16 - 1) 89 = σ1 89 := by rw [up2_o (by omega), b1 89 (by omega)]
    have e90 : up2 σ2 84 8 (16 - 1) 90 = σ2 90 := up2_o (by omega)
    refine ⟨⟨?_, by rw [pl]; split <;> omega, fun i x hx => ?_⟩, fun k k1 k2 k3 => ?_, fun j hj => ?_, fun j hj => ?_⟩
    · rw [d3, pl, if_neg (by omega)]; rfl
    · unfold pushU at hx
      rw [if_neg (by omega)] at hx
      have tl : L.tail.length = 15 := by simp; omega
      rcases Nat.lt_or_ge i 15 with q | q
      · rw [List.getElem?_append_left (by omega), List.getElem?_tail] at hx
        obtain ⟨x1, x2⟩ := h3 (i + 1) x hx
        refine ⟨fun j hj => ?_, ?_⟩
        · rw [d6 _ (by omega), e89, a2 _ (by omega), ← x1 j hj]
          congr 1; omega
        · rw [d4, upw_n (by omega), e90, b2 i q, a1 90 (by omega)]; exact x2
      · rw [List.getElem?_append_right (by omega)] at hx
        have e0 : i = 15 := by
          have := (List.getElem?_eq_some_iff.mp hx).1
          simp at this
          omega
        subst e0
        rw [tl] at hx
        simp at hx
        subst hx
        refine ⟨fun j hj => ?_, ?_⟩
        · rw [d5 j hj, e86]; rfl
        · rw [d4, upw_s]
    · rw [d1 k k1 k2 k3, up2_o k1, b1 k k3, a1 k k2]
    · rw [d2 j hj, up2_c, upw_n hj, b1 84 (by omega), a1 84 (by omega)]
    · rw [d6 j (by omega), e89, a3 j (by omega)]
  · refine T_mono (m_remember_77 (σ := σ) (n := L.length) (kind := kind) h1 (by omega)) (fun σ3 d => ?_)
    obtain ⟨d1, d2, d3, d4, d5, d6⟩ := d
    refine ⟨⟨?_, by rw [pl]; split <;> omega, fun i x hx => ?_⟩, d1, d2, fun j hj => d6 j (by omega)⟩
    · rw [d3, pl, if_pos (by omega)]; rfl
    · unfold pushU at hx
      rw [if_pos (by omega)] at hx
      rcases Nat.lt_or_ge i L.length with q | q
      · rw [List.getElem?_append_left q] at hx
        obtain ⟨x1, x2⟩ := h3 i x hx
        refine ⟨fun j hj => ?_, ?_⟩
        · rw [d6 _ (by left; omega)]; exact x1 j hj
        · rw [d4, upw_n (by omega)]; exact x2
      · rw [List.getElem?_append_right q] at hx
        have e0 : i = L.length := by
          have := (List.getElem?_eq_some_iff.mp hx).1
          simp at this
          omega
        subst e0
        rw [Nat.sub_self] at hx
        simp at hx
        subst hx
        refine ⟨fun j hj => ?_, ?_⟩
        · rw [d5 j hj]; rfl
        · rw [d4, upw_s]
/-- one thing done by the reference -/
noncomputable def mAct (kind a b : Int) (σ : Sg) : Option (Int × Sg) := if kind = 0 then vX10_lendNow a b σ else if kind = 1 then vX10_bringNow a σ else if kind = 2 then vX10_waitsNow a b σ else vX10_passNow σ
def ActM (D : Int → (Nat → Int) → Option Int) (σ : Sg) (L : UL) (kind a b : Int) (p : Int × Sg) : Prop :=
  (rfv D (σ 86) kind a b ≠ 0 ∧ p.1 = rfv D (σ 86) kind a b ∧ RwT σ p.2 ∧ p.2 86 = σ 86) ∨ (rfv D (σ 86) kind a b = 0 ∧ p.1 = nwv D (σ 86) kind a ∧ p.2 86 = nwr D (σ 86) kind a b ∧ RwU σ p.2 ∧ UM p.2 (pushU L (snap (σ 86), kind)))
theorem UM_T {σ σ' : Sg} {L : UL} (h : UM σ L) (r : RwT σ σ') : UM σ' L := UM_f h (r.2.1 8 (by unfold sc84; omega)) (fun j hj => r.2.2 j (by omega)) (r.1 90 (by omega) (by omega) (by omega) (by omega) (by omega))
theorem m_act {σ : Sg} {L : UL} {D : Int → (Nat → Int) → Option Int} {kind a b : Int} (hW : WF (σ 86)) (hD : LawM (σ 86) D) (h20 : σ 84 20 = 0) (hU : UM σ L) (hk : 0 ≤ kind ∧ kind ≤ 3) : T (mAct kind a b σ) (fun p => ActM D σ L kind a b p) := by
  have h08 := hW.1.1
  have h16 := hW.1.2.1
  have h4' := hW.2.1.1
  have h8' := hW.2.1.2.2.2.2
  have aft : ∀ (σ1 : Sg), RwT σ σ1 → σ1 86 = σ 86 → UM σ1 L → T (vX10_remember kind σ1) (fun σ2 => RwU σ σ2 ∧ σ2 86 = σ 86 ∧ UM σ2 (pushU L (snap (σ 86), kind)) ∧ σ2 84 20 = 0) := by
    intro σ1 R1 e1 U1
    refine T_mono (m_remember (kind := kind) U1) (fun σ2 h => ?_)
    obtain ⟨a1, a2, a3, a4⟩ := h
    rw [e1] at a1
    have R2 : RwU σ1 σ2 := ⟨fun k c1 c2 c3 c4 c5 c6 => a2 k c1 c3 c4, fun j c1 _ => a3 j c1, fun j c1 c2 => a4 j c1⟩
    refine ⟨RwU_t (RwU_w R1) R2, by rw [a2 86 (by omega) (by omega) (by omega), e1], a1, ?_⟩
    rw [a3 20 (by omega), R1.2.1 20 (by unfold sc84; omega)]; exact h20
  have keepU : ∀ (σ2 σ3 : Sg), RwM σ2 σ3 → ∀ M, UM σ2 M → UM σ3 M := fun σ2 σ3 r M h => UM_f h (r.2 8 (by unfold sc84; omega)) (fun j _ => by rw [r.1 89 (by omega) (by omega) (by omega) (by omega)]) (r.1 90 (by omega) (by omega) (by omega) (by omega))
  unfold mAct
  obtain k | k | k | k : kind = 0 ∨ kind = 1 ∨ kind = 2 ∨ kind = 3 := by omega
  · rw [if_pos k]
    have er : rfv D (σ 86) kind a b = lref D (σ 86) a b := by unfold rfv; rw [if_pos k]
    unfold vX10_lendNow
    rw [m_isReader h16, Option.bind_some]
    by_cases hr : 0 ≤ a ∧ a < σ 86 1
    · refine T_f (by rw [bI_t hr]; omega) ?_
      rw [m_isBook h08, Option.bind_some]
      by_cases hb : 0 ≤ b ∧ b < σ 86 0
      · refine T_f (by rw [bI_t hb]; omega) ?_
        have el : rfv D (σ 86) kind a b = @ite _ (lendP D (σ 86) a b) (Classical.propDecidable _) 0 (-3) := by rw [er]; unfold lref; rw [if_pos ⟨hr, hb⟩]
        refine T_bd2 (m_canLend hW hD h20 hb hr) (fun y σ1 h1 => ?_)
        dsimp only at h1
        obtain ⟨R1, e1, hy⟩ := h1
        by_cases c : lendP D (σ 86) a b
        · rw [bI_t c] at hy
          rw [if_pos c] at el
          refine T_f (by omega) ?_
          rw [← k]
          refine T_bind (aft σ1 R1 e1 (UM_T hU R1)) (fun σ2 h2 => ?_)
          obtain ⟨R2, e2, U2, z2⟩ := h2
          refine T_bd2 (m_lendIt (D := D) (b := b) (r := a) (by rw [e2]; exact hW) (by rw [e2]; exact hD) z2 (by rw [e2]; exact hb) (by rw [e2]; exact hr) (by rw [e2]; exact c.1)) (fun v σ3 h3 => T_some (Or.inr ⟨el, ?_, ?_, ?_, keepU σ2 σ3 h3.1 _ U2⟩))
          · have := h3.2.1; dsimp only at this; rw [e2] at this; dsimp only; rw [this]; unfold nwv; rw [if_pos k]
          · have := h3.2.2.1; dsimp only at this; rw [e2] at this; dsimp only; rw [this]; unfold nwr; rw [if_pos k]
          · exact RwU_t R2 (RwU_w (RwT_m h3.1))
        · rw [bI_f c] at hy
          rw [if_neg c] at el
          exact T_t hy (T_some (Or.inl ⟨by omega, by dsimp only; omega, R1, e1⟩))
      · have el : rfv D (σ 86) kind a b = -2 := by rw [er]; unfold lref; rw [if_neg (fun q => hb q.2)]
        exact T_t (bI_f hb) (T_some (Or.inl ⟨by omega, by dsimp only; omega, RwT_r, rfl⟩))
    · have el : rfv D (σ 86) kind a b = -2 := by rw [er]; unfold lref; rw [if_neg (fun q => hr q.1)]
      exact T_t (bI_f hr) (T_some (Or.inl ⟨by omega, by dsimp only; omega, RwT_r, rfl⟩))
  · rw [if_neg (show ¬ kind = 0 by omega), if_pos k]
    have er : rfv D (σ 86) kind a b = (if 0 ≤ a ∧ a < σ 86 1 then (if σ 86 (29 + a).toNat = -1 then -3 else 0) else -2) := by unfold rfv; rw [if_neg (show ¬ kind = 0 by omega), if_pos k]
    unfold vX10_bringNow
    rw [m_isReader h16, Option.bind_some]
    by_cases hr : 0 ≤ a ∧ a < σ 86 1
    · rw [if_pos hr] at er
      refine T_f (by rw [bI_t hr]; omega) ?_
      with_reducible refine T_ck (by omega) ?_
      with_reducible refine T_ck (by omega) ?_
      refine T_ite (fun c => ?_) (fun c => ?_)
      · rw [if_pos c] at er
        exact T_some (Or.inl ⟨by omega, by dsimp only; omega, RwT_r, rfl⟩)
      · rw [if_neg c] at er
        rw [← k]
        refine T_bind (aft σ RwT_r rfl hU) (fun σ2 h2 => ?_)
        obtain ⟨R2, e2, U2, z2⟩ := h2
        refine T_bd2 (m_leaveIt (D := D) (r := a) (by rw [e2]; exact hW) (by rw [e2]; exact hD) z2 (by rw [e2]; exact hr)) (fun v σ3 h3 => T_some (Or.inr ⟨er, ?_, ?_, ?_, keepU σ2 σ3 h3.1 _ U2⟩))
        · have := h3.2.1; dsimp only at this; rw [e2] at this; dsimp only; rw [this]; unfold nwv; rw [if_neg (show ¬ kind = 0 by omega), if_pos k]
        · have := h3.2.2; dsimp only at this; rw [e2] at this; dsimp only; rw [this]; unfold nwr; rw [if_neg (show ¬ kind = 0 by omega), if_pos k]
        · exact RwU_t R2 (RwU_w (RwT_m h3.1))
    · rw [if_neg hr] at er
      exact T_t (bI_f hr) (T_some (Or.inl ⟨by omega, by dsimp only; omega, RwT_r, rfl⟩))
  · rw [if_neg (show ¬ kind = 0 by omega), if_neg (show ¬ kind = 1 by omega), if_pos k]
    have er : rfv D (σ 86) kind a b = (if (0 ≤ b ∧ b < σ 86 1) ∧ (0 ≤ a ∧ a < σ 86 0) then @ite Int (σ 86 (29 + b).toNat = a ∨ ∃ i : Int, 0 ≤ i ∧ i < σ 86 8 ∧ wtM (σ 86) a b i) (Classical.propDecidable _) (-3) (if σ 86 8 < 12 then 0 else -5) else -2) := by unfold rfv; rw [if_neg (show ¬ kind = 0 by omega), if_neg (show ¬ kind = 1 by omega), if_pos k]
    unfold vX10_waitsNow
    rw [m_isBook h08, Option.bind_some]
    by_cases hb : 0 ≤ a ∧ a < σ 86 0
    · refine T_f (by rw [bI_t hb]; omega) ?_
      rw [m_isReader h16, Option.bind_some]
      by_cases hr : 0 ≤ b ∧ b < σ 86 1
      · rw [if_pos ⟨hr, hb⟩] at er
        refine T_f (by rw [bI_t hr]; omega) ?_
        refine T_bind (m_waitAt (b := a) (r := b) hW) (fun z hz => ?_)
        rcases hz with ⟨z1, z2⟩ | ⟨z1, z2, z3⟩
        · refine T_t z1 ?_
          with_reducible refine T_ck (by omega) ?_
          with_reducible refine T_ck (by omega) ?_
          refine T_ite (fun c => ?_) (fun c => ?_)
          · rw [if_pos (Or.inl c)] at er
            exact T_some (Or.inl ⟨by omega, by dsimp only; omega, RwT_r, rfl⟩)
          · rw [if_neg (fun q => q.elim c (fun ⟨i, i0, i1, i2⟩ => z2 i i0 i1 i2))] at er
            refine T_ite (fun c2 => ?_) (fun c2 => ?_)
            · rw [if_neg (by omega)] at er
              exact T_some (Or.inl ⟨by omega, by dsimp only; omega, RwT_r, rfl⟩)
            · rw [if_pos (by omega)] at er
              have aft2 := aft σ RwT_r rfl hU
              rw [k] at aft2
              refine T_bind aft2 (fun σ2 h2 => ?_)
              obtain ⟨R2, e2, U2', z2'⟩ := h2
              have U2 : UM σ2 (pushU L (snap (σ 86), kind)) := by rw [k]; exact U2'
              rw [e2]
              with_reducible refine T_ck (by omega) ?_
              with_reducible refine T_ck (by omega) ?_
              with_reducible refine T_ck (by omega) ?_
              refine T_nm ?_
              have x1 : up2 σ2 86 (47 + 2 * σ 86 8).toNat a 86 8 = σ 86 8 := by rw [up2_c, upw_n (by omega), e2]
              rw [x1]
              with_reducible refine T_ck (by omega) ?_
              with_reducible refine T_ck (by omega) ?_
              with_reducible refine T_ck (by omega) ?_
              with_reducible refine T_ck (by omega) ?_
              refine T_nm ?_
              have x2 : up2 (up2 σ2 86 (47 + 2 * σ 86 8).toNat a) 86 (47 + 2 * σ 86 8 + 1).toNat b 86 8 = σ 86 8 := by rw [up2_c, upw_n (by omega)]; exact x1
              rw [x2]
              with_reducible refine T_ck (by omega) ?_
              refine T_nm (T_some (Or.inr ⟨er, ?_, ?_, ?_, ?_⟩))
              · dsimp only; rw [up2_c, upw_s]; unfold nwv; rw [if_neg (show ¬ kind = 0 by omega), if_neg (show ¬ kind = 1 by omega), if_pos k]
              · dsimp only; simp only [up2_c]; rw [e2]; unfold nwr; rw [if_neg (show ¬ kind = 0 by omega), if_neg (show ¬ kind = 1 by omega), if_pos k]; rfl
              · exact RwU_t R2 (RwU_w (RwT_m (RwM_u (RwM_u (RwM_u RwM_r)))))
              · exact keepU σ2 _ (RwM_u (RwM_u (RwM_u RwM_r))) _ U2
        · rw [if_pos (Or.inr ⟨z, z1, z2, z3⟩)] at er
          exact T_f (by omega) (T_some (Or.inl ⟨by omega, by dsimp only; omega, RwT_r, rfl⟩))
      · rw [if_neg (fun q => hr q.1)] at er
        exact T_t (bI_f hr) (T_some (Or.inl ⟨by omega, by dsimp only; omega, RwT_r, rfl⟩))
    · rw [if_neg (fun q => hb q.2)] at er
      exact T_t (bI_f hb) (T_some (Or.inl ⟨by omega, by dsimp only; omega, RwT_r, rfl⟩))
  · rw [if_neg (show ¬ kind = 0 by omega), if_neg (show ¬ kind = 1 by omega), if_neg (show ¬ kind = 2 by omega)]
    have er : rfv D (σ 86) kind a b = (if σ 86 4 < 999 then 0 else -3) := by unfold rfv; rw [if_neg (show ¬ kind = 0 by omega), if_neg (show ¬ kind = 1 by omega), if_neg (show ¬ kind = 2 by omega)]
    unfold vX10_passNow
    rw [m_term (by omega), Option.bind_some]
    show T (if σ 86 4 = 999 then _ else _) _
    refine T_ite (fun c => ?_) (fun c => ?_)
    · rw [if_neg (by omega)] at er
      exact T_some (Or.inl ⟨by omega, by dsimp only; omega, RwT_r, rfl⟩)
    · rw [if_pos (by omega)] at er
      rw [← k]
      refine T_bind (aft σ RwT_r rfl hU) (fun σ2 h2 => ?_)
      obtain ⟨R2, e2, U2, z2⟩ := h2
      refine T_bind (m_passIt (D := D) (by rw [e2]; exact hW) (by rw [e2]; exact hD) z2) (fun σ3 h3 => ?_)
      rw [m_term (by omega), Option.bind_some]
      have p := passR_k (D := D) hW
      have h3' := h3.2
      rw [e2] at h3'
      refine T_some (Or.inr ⟨er, ?_, ?_, ?_, keepU σ2 σ3 h3.1 _ U2⟩)
      · dsimp only
        show σ3 86 4 = _
        rw [h3', p.2]; unfold nwv; rw [if_neg (show ¬ kind = 0 by omega), if_neg (show ¬ kind = 1 by omega), if_neg (show ¬ kind = 2 by omega)]
      · dsimp only; rw [h3']; unfold nwr; rw [if_neg (show ¬ kind = 0 by omega), if_neg (show ¬ kind = 1 by omega), if_neg (show ¬ kind = 2 by omega)]
      · exact RwU_t R2 (RwU_w (RwT_m h3.1))
