/-! ===== what is asked; whose turn it is; what is owed ===== -/
theorem s_asks {K : Kt} {σ : Sg} {n p1 p2 p3 : Int} (hI : Inv K σ n) : St2 K n (vX9_asks K p1 p2 p3 σ) (vX10_asks p1 p2 p3) := by
  obtain ⟨⟨hK, ⟨hW, hH⟩, hL, hU, hD, hT, hM, hC⟩, hS⟩ := id hI
  obtain ⟨⟨g0, g1, g8⟩, gB, gR, gI, g4, g5, g6, g7⟩ := H13 hH
  obtain ⟨D, hDC, hDM⟩ := inv_force hK.1.1 hL hW
  have hO : LwO K (fun k => k = 11 ∨ k = 12) := LwO_lo hK.1.1 hK.2.1 (fun k h => by omega)
  have h08 := hW.1.1
  have h16 := hW.1.2.1
  have h20 : σ 84 20 = 0 := hT.2.2.2.2.2
  have e86 : up2 σ 84 0 0 86 = σ 86 := u84o (by omega)
  have hI' := Inv_scr hI (Scr_0 (z := 0) Scr_r)
  have no : ¬ ((0 ≤ p1 ∧ p1 < σ 86 0) ∧ (0 ≤ p2 ∧ p2 < σ 86 1)) → T (vX10_asks p1 p2 p3 σ) (fun q => q.1 = -1 ∧ Inv K q.2 (n + 1)) := by
    intro h
    unfold vX10_asks
    refine T_nm ?_
    rw [m_isBook (by rw [e86]; exact h08), Option.bind_some, e86]
    by_cases hb : 0 ≤ p1 ∧ p1 < σ 86 0
    · refine T_f (by rw [bI_t hb]; omega) ?_
      rw [m_isReader (by rw [e86]; exact h16), Option.bind_some, e86]
      exact T_t (bI_f (fun hr => h ⟨hb, hr⟩)) (T_some ⟨rfl, hI'⟩)
    · exact T_t (bI_f hb) (T_some ⟨rfl, hI'⟩)
  unfold vX9_asks
  rw [h_hasBook, Option.bind_some, g0]
  by_cases hb : 0 ≤ p1 ∧ p1 < σ 86 0
  · refine T_f (by rw [bI_t hb]; omega) ?_
    rw [h_hasReader, Option.bind_some, g1]
    by_cases hr : 0 ≤ p2 ∧ p2 < σ 86 1
    · refine T_f (by rw [bI_t hr]; omega) ?_
      have hR := hW.2.2.2.1 p2 hr.1 hr.2
      repeat (with_reducible first | refine T_ck (by omega) ?_ | refine T_nm ?_)
      rw [(gR p2 hr.1 (by omega)).1]
      have ask : (0 ≤ p3 ∧ p3 < 4) → T (vX9_asks_76 K p1 p2 p3 (σ 86 (17 + p2).toNat) σ) (fun p => Scr σ p.2 ∧ p.1 = askS D (σ 86) p3 p1 p2 (σ 86 (17 + p2).toNat)) := by
        intro hk
        unfold vX9_asks_76
        exact T_bd2 (l_asked (by omega) hH hW hDC hk hb hr (by omega)) (fun r σ1 h => T_some ⟨Scr_c h.1, h.2⟩)
      have ref : ∀ (σ1 : Sg) (_ : Scr σ σ1) (z : Int) (w : Sg → Option (Int × Sg)), (∀ σ2, Scr σ σ2 → WF (σ2 86) → LawM (σ2 86) D → σ2 84 20 = 0 → σ2 86 = σ 86 → T (w σ2) (fun q => q.1 = z ∧ Scr σ2 q.2)) → T (nm (up2 σ1 84 0 0) (fun σ1 => (vX10_isBook p1 σ1).bind (fun r2 => if r2 = 0 then (some ((-1), σ1)) else ((vX10_isReader p2 σ1).bind (fun r4 => if r4 = 0 then (some ((-1), σ1)) else w σ1))))) (fun q => q.1 = z ∧ Inv K q.2 (n + 1)) := by
        intro σ1 hs z w hw
        refine T_nm ?_
        have hs2 := Scr_0 (z := 0) hs
        have f86 : up2 σ1 84 0 0 86 = σ 86 := hs2.1 86 (by omega) (by unfold scA; omega)
        rw [m_isBook (by rw [f86]; exact h08), Option.bind_some, f86]
        refine T_f (by rw [bI_t hb]; omega) ?_
        rw [m_isReader (by rw [f86]; exact h16), Option.bind_some, f86]
        refine T_f (by rw [bI_t hr]; omega) ?_
        exact T_mono (hw _ hs2 (by rw [f86]; exact hW) (by rw [f86]; exact hDM) (by rw [hs2.2 20 (by omega) (by unfold sc84; omega)]; exact h20) f86) (fun q hq => ⟨hq.1, Inv_scr hI (Scr_t hs2 hq.2)⟩)
      refine T_ite (fun h => ?_) (fun h0 => T_ite (fun h => ?_) (fun h1 => T_ite (fun h => ?_) (fun h2 => T_ite (fun h => ?_) (fun h3 => T_ite (fun h => ?_) (fun h4 => T_ite (fun h => ?_) (fun h5 => ?_))))))
      · refine T_mono (ask (by omega)) (fun p hp => ref p.2 hp.1 _ _ (fun σ2 hs a b c e => ?_))
        repeat (with_reducible first | refine T_ck (by omega) ?_ | refine T_nm ?_ | refine T_t (by assumption) ?_ | refine T_f (by assumption) ?_)
        refine T_bd2 (m_finesOf a b c (by rw [e]; exact hb) (by rw [e]; exact hr)) (fun r σ3 h => T_some ⟨?_, Scr_m h.1⟩)
        have h2 := h.2
        rw [e] at h2
        show r = p.1
        rw [hp.2, ‹p3 = 0›]; exact h2
      · refine T_mono (ask (by omega)) (fun p hp => ref p.2 hp.1 _ _ (fun σ2 hs a b c e => ?_))
        repeat (with_reducible first | refine T_ck (by omega) ?_ | refine T_nm ?_ | refine T_t (by assumption) ?_ | refine T_f (by assumption) ?_)
        refine T_bd2 (m_wearsOf a b c (by rw [e]; exact hb) (by rw [e]; exact hr)) (fun r σ3 h => T_some ⟨?_, Scr_m h.1⟩)
        have h2 := h.2
        rw [e] at h2
        show r = p.1
        rw [hp.2, ‹p3 = 1›]; exact h2
      · refine T_mono (ask (by omega)) (fun p hp => ref p.2 hp.1 _ _ (fun σ2 hs a b c e => ?_))
        repeat (with_reducible first | refine T_ck (by omega) ?_ | refine T_nm ?_ | refine T_t (by assumption) ?_ | refine T_f (by assumption) ?_)
        refine T_bd2 (m_takesOf a b c (by rw [e]; exact hb) (by rw [e]; exact hr)) (fun r σ3 h => T_some ⟨?_, Scr_m h.1⟩)
        have h2 := h.2
        rw [e] at h2
        show r = p.1
        rw [hp.2, ‹p3 = 2›]; exact h2
      · refine T_mono (ask (by omega)) (fun p hp => ref p.2 hp.1 _ _ (fun σ2 hs a b c e => ?_))
        repeat (with_reducible first | refine T_ck (by omega) ?_ | refine T_nm ?_ | refine T_t (by assumption) ?_ | refine T_f (by assumption) ?_)
        refine T_bd2 (m_isBarred a b c (by rw [e]; exact hb) (by rw [e]; exact hr)) (fun r σ3 h => ?_)
        have h2 := h.2.1
        have h3 := h.2.2
        rw [e] at h2
        have h2 : r = _ := h2
        have h3 : r = 0 ∨ r = 1 := h3
        have e3 : p.1 = r := by rw [hp.2, ‹p3 = 3›]; exact h2.symm
        exact T_ite (fun h0 => T_some ⟨by show (0 : Int) = p.1; omega, Scr_m h.1⟩) (fun h0 => T_some ⟨by show (1 : Int) = p.1; omega, Scr_m h.1⟩)
      · rw [c_fits hH (by omega), Option.bind_some]
        have go : T (some (bI (fitP (σ 86) p1 (σ 86 (17 + p2).toNat)), σ)) (fun p => T (vX10_asks p1 p2 p3 p.2) (fun q => q.1 = p.1 ∧ Inv K q.2 (n + 1))) := by
          refine T_some (ref σ Scr_r _ _ (fun σ2 hs a b c e => ?_))
          repeat (with_reducible first | refine T_ck (by omega) ?_ | refine T_nm ?_ | refine T_t (by assumption) ?_ | refine T_f (by assumption) ?_)
          rw [m_isFitting (by omega) (by omega), Option.bind_some, e]
          by_cases hf : fitP (σ 86) p1 (σ 86 (17 + p2).toNat)
          · exact T_f (by rw [bI_t hf]; omega) (T_some ⟨(bI_t hf).symm, Scr_r⟩)
          · exact T_t (bI_f hf) (T_some ⟨(bI_f hf).symm, Scr_r⟩)
        by_cases hf : fitP (σ 86) p1 (σ 86 (17 + p2).toNat)
        · rw [bI_t hf] at go
          exact T_f (by rw [bI_t hf]; omega) go
        · rw [bI_f hf] at go
          exact T_t (bI_f hf) go
      · refine T_bd2 (c_canHave (by omega) hO hH hW hDC hr hb) (fun r σ1 h1 => ?_)
        have go : r = bI (canP D (σ 86) p1 p2) → T (some (r, σ1)) (fun p => T (vX10_asks p1 p2 p3 p.2) (fun q => q.1 = p.1 ∧ Inv K q.2 (n + 1))) := by
          intro hr1
          refine T_some (ref σ1 (Scr_c h1.1) _ _ (fun σ2 hs a b c e => ?_))
          repeat (with_reducible first | refine T_ck (by omega) ?_ | refine T_nm ?_ | refine T_t (by assumption) ?_ | refine T_f (by assumption) ?_)
          refine T_bd2 (m_canHave a b c (by rw [e]; exact hb) (by rw [e]; exact hr)) (fun y σ3 h => ?_)
          have h2 : y = _ := h.2
          rw [e] at h2
          have h3 := bI_01 (canP D (σ 86) p1 p2)
          exact T_ite (fun h0 => T_some ⟨by show (0 : Int) = r; omega, Scr_m h.1⟩) (fun h0 => T_some ⟨by show (1 : Int) = r; omega, Scr_m h.1⟩)
        have h2 : r = _ := h1.2
        have h3 := bI_01 (canP D (σ 86) p1 p2)
        refine T_ite (fun h0 => ?_) (fun h0 => ?_)
        · have := go h2; rw [h0] at this; exact this
        · have := go h2; rw [show r = 1 by omega] at this; exact this
      · refine T_some (ref σ Scr_r _ _ (fun σ2 hs a b c e => ?_))
        repeat (with_reducible first | refine T_ck (by omega) ?_ | refine T_nm ?_ | refine T_t (by assumption) ?_ | refine T_f (by assumption) ?_)
        exact T_some ⟨rfl, Scr_r⟩
    · exact T_t (bI_f hr) (T_some (no (fun h => hr h.2)))
  · exact T_t (bI_f hb) (T_some (no (fun h => hb h.1)))
def trW (D : Int → (Nat → Int) → Option Int) (ρ : Nat → Int) (r x : Int) : Prop := ρ (47 + 2 * x + 1).toNat = r ∧ canP D ρ (ρ (47 + 2 * x).toNat) r
noncomputable def trn (D : Int → (Nat → Int) → Option Int) (ρ : Nat → Int) (r : Int) : Nat → Int → Int
  | 0, _ => -1
  | m + 1, x => @ite Int (trW D ρ r x) (Classical.propDecidable _) (ρ (47 + 2 * x).toNat) (trn D ρ r m (x + 1))
theorem c_firstWaiting_2 {K : Kt} {o : Nat} {σ0 : Sg} {ρ : Nat → Int} {D : Int → (Nat → Int) → Option Int} {r : Int} (ho : 12 < o) (hO : LwO K (fun k => k = 11 ∨ k = 12)) (hH : HallIs σ0 o ρ) (hW : WF ρ) (hD : LawC K σ0 (σ0 1 5) D) (hr : 0 ≤ r ∧ r < ρ 1) :
    ∀ (f : Nat) (x : Int) (σ : Sg), 0 ≤ x → x ≤ ρ 8 → (ρ 8 - x).toNat < f → Sme (fun k => k = 11 ∨ k = 12) σ0 σ → T (vX1_firstWaiting_2 K o f r x σ) (fun p => Sme (fun k => k = 11 ∨ k = 12) σ0 p.2 ∧ p.1 = trn D ρ r (ρ 8 - x).toNat x) := by
  have h8 := hW.2.1.2.2.2.2
  intro f
  induction f with
  | zero => intro x σ _ _ h; omega
  | succ f ih =>
    intro x σ h0 hx hf hS
    have hHs := HallIs_k ho hH hS
    have hDs : LawC K σ (σ 1 5) D := by rw [hS 1 (by omega)]; exact LawC_s hD hS hO
    rw [vX1_firstWaiting_2, hHs.1.2.2]
    refine T_ite (fun h => ?_) (fun h => ?_)
    · have gx := hHs.2.2.2.1 x h0 (by omega)
      have hIx := hW.2.2.2.2.2.1 x h0 h
      have em : (ρ 8 - x).toNat = (ρ 8 - (x + 1)).toNat + 1 := by omega
      rw [em, trn]
      with_reducible refine T_ck (by omega) ?_
      rw [gx.2]
      refine T_ite (fun c1 => ?_) (fun c1 => ?_)
      · with_reducible refine T_ck (by omega) ?_
        rw [gx.1]
        refine T_bd2 (c_canHave ho hO hHs hW hDs hr hIx.1) (fun y σ1 h1 => ?_)
        dsimp only at h1
        obtain ⟨hS1, hy⟩ := h1
        have hS2 := Sme_t hS hS1
        by_cases hc : canP D ρ (ρ (47 + 2 * x).toNat) r
        · rw [if_pos (show trW D ρ r x from ⟨c1, hc⟩)]
          rw [bI_t hc] at hy
          refine T_f (by omega) ?_
          with_reducible refine T_ck (by omega) ?_
          refine T_some ⟨hS2, ?_⟩
          exact ((HallIs_k ho hH hS2).2.2.2.1 x h0 (by omega)).1
        · rw [if_neg (show ¬ trW D ρ r x from fun h => hc h.2)]
          rw [bI_f hc] at hy
          refine T_t hy ?_
          with_reducible refine T_ck (by omega) ?_
          exact ih (x + 1) σ1 (by omega) (by omega) (by omega) hS2
      · rw [if_neg (show ¬ trW D ρ r x from fun h => c1 h.1)]
        with_reducible refine T_ck (by omega) ?_
        exact ih (x + 1) σ (by omega) (by omega) (by omega) hS
    · rw [show (ρ 8 - x).toNat = 0 by omega]
      exact T_some ⟨hS, rfl⟩
theorem m_turn_9 {σ0 : Sg} {D : Int → (Nat → Int) → Option Int} {r : Int} (hW : WF (σ0 86)) (hD : LawM (σ0 86) D) (h20 : σ0 84 20 = 0) (hr : 0 ≤ r ∧ r < σ0 86 1) :
    ∀ (f : Nat) (x : Int) (σ : Sg), 0 ≤ x → x ≤ σ0 86 8 → (σ0 86 8 - x).toNat + 1 < f → ScM σ0 σ → T (vX10_turn_9 f r (-1) x σ) (fun p => ScM σ0 p.2 ∧ p.1 = trn D (σ0 86) r (σ0 86 8 - x).toNat x) := by
  have h8 := hW.2.1.2.2.2.2
  have h16 := hW.1.2.1
  intro f
  induction f with
  | zero => intro x σ _ _ h; omega
  | succ f ih =>
    intro x σ h0 hx hf hS
    have e86 : σ 86 = σ0 86 := ScM_k hS (by omega)
    have e20 : σ 84 20 = 0 := by rw [hS.2 20 (by unfold sc84; omega)]; exact h20
    rw [vX10_turn_9, m_isReader (by rw [e86]; exact h16), Option.bind_some, e86]
    refine T_f (by rw [bI_t hr]; omega) (T_t rfl ?_)
    refine T_ite (fun h => ?_) (fun h => ?_)
    · have hIx := hW.2.2.2.2.2.1 x h0 h
      have em : (σ0 86 8 - x).toNat = (σ0 86 8 - (x + 1)).toNat + 1 := by omega
      rw [em, trn]
      repeat (with_reducible first | refine T_ck (by omega) ?_ | refine T_nm ?_)
      refine T_ite (fun c1 => ?_) (fun c1 => ?_)
      · repeat (with_reducible first | refine T_ck (by omega) ?_ | refine T_nm ?_)
        refine T_bd2 (m_canHave (D := D) (by rw [e86]; exact hW) (by rw [e86]; exact hD) e20 (by rw [e86]; exact hIx.1) (by rw [e86]; exact hr)) (fun y σ1 h1 => ?_)
        dsimp only at h1
        obtain ⟨hS1, hy⟩ := h1
        rw [e86] at hy
        have hS2 := ScM_t hS hS1
        by_cases hc : canP D (σ0 86) (σ0 86 (47 + 2 * x).toNat) r
        · rw [if_pos (show trW D (σ0 86) r x from ⟨c1, hc⟩)]
          rw [bI_t hc] at hy
          refine T_f (by omega) ?_
          repeat (with_reducible first | refine T_ck (by omega) ?_ | refine T_nm ?_)
          have f86 : σ1 86 = σ0 86 := ScM_k hS2 (by omega)
          rw [f86]
          obtain ⟨f', rfl⟩ : ∃ f', f = f' + 1 := ⟨f - 1, by omega⟩
          rw [vX10_turn_9, m_isReader (by rw [f86]; exact h16), Option.bind_some, f86]
          exact T_f (by rw [bI_t hr]; omega) (T_f (by omega) (T_some ⟨hS2, rfl⟩))
        · rw [if_neg (show ¬ trW D (σ0 86) r x from fun h => hc h.2)]
          rw [bI_f hc] at hy
          refine T_t hy ?_
          with_reducible refine T_ck (by omega) ?_
          exact ih (x + 1) σ1 (by omega) (by omega) (by omega) hS2
      · rw [if_neg (show ¬ trW D (σ0 86) r x from fun h => c1 h.1)]
        with_reducible refine T_ck (by omega) ?_
        exact ih (x + 1) σ (by omega) (by omega) (by omega) hS
    · rw [show (σ0 86 8 - x).toNat = 0 by omega]
      exact T_some ⟨hS, rfl⟩
theorem s_turn {K : Kt} {σ : Sg} {n p1 : Int} (hI : Inv K σ n) : St2 K n (vX9_turn K p1 σ) (vX10_turn p1) := by
  obtain ⟨⟨hK, ⟨hW, hH⟩, hL, hU, hD, hT, hM, hC⟩, hS⟩ := id hI
  obtain ⟨⟨g0, g1, g8⟩, -⟩ := H13 hH
  obtain ⟨D, hDC, hDM⟩ := inv_force hK.1.1 hL hW
  have hO : LwO K (fun k => k = 11 ∨ k = 12) := LwO_lo hK.1.1 hK.2.1 (fun k h => by omega)
  have h16 := hW.1.2.1
  have h8 := hW.2.1.2.2.2.2
  have h20 : σ 84 20 = 0 := hT.2.2.2.2.2
  unfold vX9_turn vX10_turn
  rw [h_hasReader, Option.bind_some, g1]
  by_cases hr : 0 ≤ p1 ∧ p1 < σ 86 1
  · refine T_f (by rw [bI_t hr]; omega) ?_
    unfold vX1_firstWaiting
    refine T_bd2 (c_firstWaiting_2 (by omega) hO hH hW hDC hr FU 0 σ (by omega) (by omega) (by have := FU_b; omega) Sme_r) (fun y σ1 h1 => T_some (T_nm ?_))
    have hs := Scr_0 (z := 0) (Scr_c h1.1)
    have e86 : up2 σ1 84 0 0 86 = σ 86 := hs.1 86 (by omega) (by unfold scA; omega)
    have t := m_turn_9 (σ0 := up2 σ1 84 0 0) (D := D) (r := p1) (by rw [e86]; exact hW) (by rw [e86]; exact hDM) (by rw [hs.2 20 (by omega) (by unfold sc84; omega)]; exact h20) (by rw [e86]; exact hr) FU 0 (up2 σ1 84 0 0) (by omega) (by rw [e86]; omega) (by rw [e86]; have := FU_b; omega) ScM_r
    rw [e86] at t
    refine T_mono t (fun q hq => ⟨?_, Inv_scr hI (Scr_t hs (Scr_m hq.1))⟩)
    show q.1 = y
    have h2 : y = _ := h1.2
    rw [h2]; exact hq.2
  · refine T_t (bI_f hr) (T_some (T_nm ?_))
    have e86 : up2 σ 84 0 0 86 = σ 86 := u84o (by omega)
    rw [FU_s, vX10_turn_9, m_isReader (by rw [e86]; exact h16), Option.bind_some, e86]
    exact T_t (bI_f hr) (T_some ⟨rfl, Inv_scr hI (Scr_0 Scr_r)⟩)
/-! what is owed -/
theorem lw_3 {ρ : Nat → Int} {b r t f : Int} (hb : 0 ≤ b) (hr : 0 ≤ r) : lw (upw ρ 3 f) b r t = lw ρ b r t := by
  funext j
  match j with
  | 0 => rfl
  | 1 => exact upw_n (by omega)
  | 2 => exact upw_n (by omega)
  | 3 => rfl
  | 4 => rfl
  | 5 => exact upw_n (by omega)
  | 6 =>
    show (if upw ρ 3 f (29 + r).toNat = b then upw ρ 3 f 4 - upw ρ 3 f (35 + r).toNat else -1) = (if ρ (29 + r).toNat = b then _ else _)
    rw [upw_n (by omega), upw_n (by omega), upw_n (by omega)]
  | 7 => exact upw_n (by omega)
  | 8 => exact upw_n (by omega)
  | j + 9 => rfl
theorem askS_3 {D : Int → (Nat → Int) → Option Int} {ρ : Nat → Int} {k b r t f : Int} (hb : 0 ≤ b) (hr : 0 ≤ r) : askS D (upw ρ 3 f) k b r t = askS D ρ k b r t := by
  unfold askS woK
  rw [lw_3 hb hr, upw_n (by omega)]
theorem dueS_3 {ρ : Nat → Int} {r f g : Int} (hr : 0 ≤ r) (hb : 0 ≤ ρ (29 + r).toNat) : dueS (upw ρ 3 f) g r = dueS ρ g r := by
  unfold dueS
  rw [upw_n (i := (29 + r).toNat) (by omega), upw_n (by omega), upw_n (by omega), upw_n (by omega), upw_n (by omega)]
def owS (D : Int → (Nat → Int) → Option Int) (ρ : Nat → Int) : Nat → Int
  | 0 => 0
  | k + 1 => owS D ρ k + (if ρ (29 + (k : Int)).toNat = -1 then 0 else dueS ρ (askS D ρ 0 (ρ (29 + (k : Int)).toNat) k (ρ (17 + (k : Int)).toNat)) k)
theorem owS_b {D : Int → (Nat → Int) → Option Int} {ρ : Nat → Int} (hW : WF ρ) : ∀ k : Nat, (k : Int) ≤ ρ 1 → 0 ≤ owS D ρ k ∧ owS D ρ k ≤ 999 * (k : Int)
  | 0, _ => by rw [owS]; omega
  | k + 1, h => by
    have ih := owS_b (D := D) hW k (by omega)
    have hR := hW.2.2.2.1 k (by omega) (by omega)
    rw [owS]
    split
    · omega
    · have hB := hW.2.2.1 (ρ (29 + (k : Int)).toNat) (by omega) (by omega)
      have := dueS_rg (ρ := ρ) (r := k) (f := askS D ρ 0 (ρ (29 + (k : Int)).toNat) k (ρ (17 + (k : Int)).toNat)) (by omega) askS_0.1
      omega
theorem c_owed_22 {K : Kt} {σ0 : Sg} {ρ : Nat → Int} {D : Int → (Nat → Int) → Option Int} {law : Int} (hO : LwO K (fun k => k = 11 ∨ k = 12)) (hH : HallIs σ0 13 ρ) (hW : WF ρ) (hD : LawC K σ0 law D) :
    ∀ (f k : Nat) (σ : Sg), (ρ 1).toNat - k < f → (k : Int) ≤ ρ 1 → Sme (fun k => k = 11 ∨ k = 12) σ0 σ → T (vX9_owed_22 K f law (owS D ρ k) (k : Int) σ) (fun p => Sme (fun k => k = 11 ∨ k = 12) σ0 p.2 ∧ p.1 = owS D ρ (ρ 1).toNat) := by
  have h16 := hW.1.2.1
  intro f
  induction f with
  | zero => intro k σ h; omega
  | succ f ih =>
    intro k σ hf hk hS
    have hHs := HallIs_k (by omega) hH hS
    obtain ⟨⟨g0, g1, g8⟩, gB, gR, gI, g4, g5, g6, g7⟩ := H13 hHs
    have hDs : LawC K σ law D := LawC_s hD hS hO
    have bk := owS_b (D := D) hW k hk
    rw [vX9_owed_22, g1]
    refine T_ite (fun h => ?_) (fun h => ?_)
    · have hR := hW.2.2.2.1 k (by omega) h
      have gR := gR k (by omega) (by omega)
      have bk1 := owS_b (D := D) hW (k + 1) (by omega)
      have es : owS D ρ (k + 1) = owS D ρ k + (if ρ (29 + (k : Int)).toNat = -1 then 0 else dueS ρ (askS D ρ 0 (ρ (29 + (k : Int)).toNat) k (ρ (17 + (k : Int)).toNat)) k) := rfl
      repeat (with_reducible first | refine T_ck (by omega) ?_ | refine T_nm ?_)
      rw [gR.2.2.2.1, gR.1, show (k : Int) + 1 = ((k + 1 : Nat) : Int) by omega]
      refine T_ite (fun c => ?_) (fun c => ?_)
      · rw [if_pos c, Int.add_zero] at es
        with_reducible refine T_ck (by omega) ?_
        rw [← es]
        exact ih (k + 1) σ (by omega) (by omega) hS
      · rw [if_neg c] at es
        with_reducible refine T_ck (by omega) ?_
        refine T_bd2 (l_asked (by omega) hHs hW hDs (by omega) (by omega) ⟨by omega, h⟩ (by omega)) (fun y σ1 h1 => ?_)
        dsimp only at h1
        obtain ⟨hS1, hy⟩ := h1
        have hf := askS_0 (D := D) (ρ := ρ) (b := ρ (29 + (k : Int)).toNat) (r := k) (t := ρ (17 + (k : Int)).toNat)
        rw [c_dues (HallIs_k (by omega) hHs hS1) hW ⟨by omega, h⟩ c (by rw [hy]; exact hf), Option.bind_some, hy, ← es]
        repeat (with_reducible first | refine T_ck (by omega) ?_ | refine T_nm ?_)
        exact ih (k + 1) σ1 (by omega) (by omega) (Sme_t hS hS1)
    · rw [show (ρ 1).toNat = k by omega]
      exact T_some ⟨hS, rfl⟩
theorem m_owed_34 {σ0 : Sg} {ρ : Nat → Int} {D : Int → (Nat → Int) → Option Int} {law z : Int} (hW : WF ρ) (hW3 : WF (upw ρ 3 law)) (e0 : σ0 86 = upw ρ 3 law) (hD : LawM (σ0 86) D) (h20 : σ0 84 20 = 0) :
    ∀ (f k : Nat) (σ : Sg), (ρ 1).toNat - k < f → (k : Int) ≤ ρ 1 → ScM σ0 σ → T (vX10_owed_34 f z (owS D ρ k) (k : Int) σ) (fun p => ∃ σ', ScM σ0 σ' ∧ p.2 = up2 σ' 86 3 z ∧ p.1 = owS D ρ (ρ 1).toNat) := by
  have h16 := hW.1.2.1
  intro f
  induction f with
  | zero => intro k σ h; omega
  | succ f ih =>
    intro k σ hf hk hS
    have e86 : σ 86 = σ0 86 := ScM_k hS (by omega)
    have e20 : σ 84 20 = 0 := by rw [hS.2 20 (by unfold sc84; omega)]; exact h20
    have e1 : upw ρ 3 law 1 = ρ 1 := upw_n (by omega)
    have bk := owS_b (D := D) hW k hk
    rw [vX10_owed_34, e86, e0, e1]
    refine T_ite (fun h => ?_) (fun h => ?_)
    · have hR := hW.2.2.2.1 k (by omega) h
      have bk1 := owS_b (D := D) hW (k + 1) (by omega)
      have es : owS D ρ (k + 1) = owS D ρ k + (if ρ (29 + (k : Int)).toNat = -1 then 0 else dueS ρ (askS D ρ 0 (ρ (29 + (k : Int)).toNat) k (ρ (17 + (k : Int)).toNat)) k) := rfl
      have e29 : upw ρ 3 law (29 + (k : Int)).toNat = ρ (29 + (k : Int)).toNat := upw_n (by omega)
      have e17 : upw ρ 3 law (17 + (k : Int)).toNat = ρ (17 + (k : Int)).toNat := upw_n (by omega)
      rw [e29, show (k : Int) + 1 = ((k + 1 : Nat) : Int) by omega]
      repeat (with_reducible first | refine T_ck (by omega) ?_ | refine T_nm ?_)
      refine T_ite (fun c => ?_) (fun c => ?_)
      · rw [if_pos c] at es
        rw [← es]
        repeat (with_reducible first | refine T_ck (by omega) ?_ | refine T_nm ?_)
        exact ih (k + 1) σ (by omega) (by omega) hS
      · rw [if_neg c] at es
        refine T_bd2 (m_dueOf (D := D) (by rw [e86, e0]; exact hW3) (by rw [e86]; exact hD) e20 (by rw [e86, e0, e1]; exact ⟨by omega, h⟩) (by rw [e86, e0, e29]; exact c)) (fun y σ1 h1 => ?_)
        dsimp only at h1
        obtain ⟨hS1, hy⟩ := h1
        rw [e86, e0, e29, e17, askS_3 (by omega) (by omega), dueS_3 (by omega) (by omega)] at hy
        rw [hy, ← es]
        repeat (with_reducible first | refine T_ck (by omega) ?_ | refine T_nm ?_)
        exact ih (k + 1) σ1 (by omega) (by omega) (ScM_t hS hS1)
    · rw [show (ρ 1).toNat = k by omega]
      exact T_nm (T_some ⟨σ, hS, rfl, rfl⟩)
theorem m_isLaw {σ : Sg} {p1 : Int} (h2 : 0 ≤ σ 86 2 ∧ σ 86 2 ≤ 6) : vX10_isLaw p1 σ = some (bI (p1 = -1 ∨ (0 ≤ p1 ∧ p1 < σ 86 2))) := by
  unfold vX10_isLaw
  by_cases h : p1 = -1
  · rw [if_pos h, bI_t (Or.inl h)]
  · rw [if_neg h, ck_p (by omega), m_in, Option.bind_some]
    by_cases h1 : 0 ≤ p1 ∧ p1 < σ 86 2
    · rw [if_neg (by rw [bI_t (by omega)]; omega), bI_t (Or.inr h1)]
    · rw [if_pos (bI_f (by omega)), bI_f (by omega)]
theorem s_owed {K : Kt} {σ : Sg} {n p1 : Int} (hI : Inv K σ n) : St2 K n (vX9_owed K p1 σ) (vX10_owed p1) := by
  obtain ⟨⟨hK, ⟨hW, hH⟩, hL, hU, hD, hT, hM, hC⟩, hS⟩ := id hI
  have hO : LwO K (fun k => k = 11 ∨ k = 12) := LwO_lo hK.1.1 hK.2.1 (fun k h => by omega)
  have h16 := hW.1.2.1
  have h26 := hW.1.2.2.1
  have h20 : σ 84 20 = 0 := hT.2.2.2.2.2
  have hl : σ 1 4 = σ 86 2 := hL.1.1
  have yes : (p1 = -1 ∨ (0 ≤ p1 ∧ p1 < σ 86 2)) → St2 K n (vX9_owed_22 K FU p1 0 0 σ) (vX10_owed p1) := by
    intro hp
    obtain ⟨D, hDC, hDM⟩ := inv_law hK.1.1 hL hW hp
    refine T_mono (c_owed_22 hO hH hW hDC FU 0 σ (by have := FU_b; omega) (by omega) Sme_r) (fun p h1 => ?_)
    have hs := Scr_0 (z := 0) (Scr_c h1.1)
    have e86 : up2 p.2 84 0 0 86 = σ 86 := hs.1 86 (by omega) (by unfold scA; omega)
    unfold vX10_owed
    refine T_nm ?_
    rw [m_isLaw (by rw [e86]; exact h26), Option.bind_some, e86]
    refine T_f (by rw [bI_t hp]; omega) (T_nm (T_nm ?_))
    have W3 : WF (upw (σ 86) 3 p1) := WF_e hW (fun i a b c => upw_n b) (by rw [upw_n (by omega)]; exact h26) (by rw [upw_s, upw_n (i := 2) (by omega)]; omega)
    have x86 : up2 (up2 p.2 84 0 0) 86 3 p1 86 = upw (σ 86) 3 p1 := by rw [up2_c, e86]
    refine T_mono (m_owed_34 (σ0 := up2 (up2 p.2 84 0 0) 86 3 p1) (ρ := σ 86) (D := D) (z := σ 86 3) hW W3 x86 (by rw [x86]; exact hDM) (by rw [up2_o (by omega), hs.2 20 (by omega) (by unfold sc84; omega)]; exact h20) FU 0 _ (by have := FU_b; omega) (by omega) ScM_r) (fun q hq => ?_)
    obtain ⟨σ', hS', hq2, hq1⟩ := hq
    refine ⟨by rw [hq1, h1.2], Inv_scr hI ⟨fun k k1 k2 => ?_, fun j j1 j2 => ?_⟩⟩
    · rw [hq2]
      by_cases hk : k = 86
      · rw [hk, up2_c, ScM_k hS' (by omega), x86]
        funext i
        unfold upw
        split
        · rename_i h; rw [h]
        · rfl
      · rw [up2_o hk, ScM_k hS' (by unfold scA at k2; omega), up2_o hk, hs.1 k k1 k2]
    · rw [hq2, up2_o (by omega), hS'.2 j j2, up2_o (by omega), hs.2 j j1 j2]
  unfold vX9_owed
  refine T_ite (fun h => yes (Or.inl h)) (fun h => ?_)
  rw [l_has, Option.bind_some, hl]
  by_cases h1 : 0 ≤ p1 ∧ p1 < σ 86 2
  · exact T_f (by rw [bI_t h1]; omega) (yes (Or.inr h1))
  · refine T_t (bI_f h1) (T_some ?_)
    have e86 : up2 σ 84 0 0 86 = σ 86 := u84o (by omega)
    unfold vX10_owed
    refine T_nm ?_
    rw [m_isLaw (by rw [e86]; exact h26), Option.bind_some, e86]
    exact T_t (bI_f (by omega)) (T_some ⟨rfl, Inv_scr hI (Scr_0 Scr_r)⟩)
