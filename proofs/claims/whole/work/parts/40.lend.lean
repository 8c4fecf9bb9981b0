/-! ===== a reader is lent ===== -/
noncomputable def ln1 (D : Int → (Nat → Int) → Option Int) (ρ : Nat → Int) (r b : Int) : Nat → Int := upw (upw (leaveR D ρ r) (29 + r).toNat b) (35 + r).toNat (ρ 4)
def drp (ρ : Nat → Int) (z : Int) : Nat → Int := if z = -1 then ρ else dq (upw ρ 8 (ρ 8 - 1)) (2 * z) (2 * (ρ 8 - 1))
noncomputable def wtA (ρ : Nat → Int) (b r : Int) : Int := Classical.epsilon (fun z => wtP ρ b r z)
theorem wtA_e {ρ : Nat → Int} {b r z : Int} (hW : WF ρ) (h : wtP ρ b r z) : wtA ρ b r = z := wtP_u hW (Classical.epsilon_spec (p := fun z => wtP ρ b r z) ⟨z, h⟩) h
noncomputable def lendR (D : Int → (Nat → Int) → Option Int) (ρ : Nat → Int) (r b : Int) : Nat → Int := drp (ln1 D ρ r b) (wtA (ln1 D ρ r b) b r)
theorem ln1_k {D : Int → (Nat → Int) → Option Int} {ρ : Nat → Int} {r b : Int} (hW : WF ρ) (hr : 0 ≤ r ∧ r < ρ 1) : ∀ i, i < 9 ∨ 47 ≤ i → ln1 D ρ r b i = ρ i := by
  intro i hi
  have h16 := hW.1.2.1
  unfold ln1
  rw [upw_n (by omega), upw_n (by omega)]
  exact (leaveR_k hW hr).1 i hi
theorem WF_ln1 {D : Int → (Nat → Int) → Option Int} {ρ : Nat → Int} {r b : Int} (hW : WF ρ) (hr : 0 ≤ r ∧ r < ρ 1) (hb : 0 ≤ b ∧ b < ρ 0) (hw : wthN ρ b) : WF (ln1 D ρ r b) := by
  have hk := ln1_k (D := D) (b := b) hW hr
  have hl := WF_leave (D := D) hW hr
  obtain ⟨k1, k2, k3, k4⟩ := leaveR_k (D := D) hW hr
  obtain ⟨-, -, hB, hR, hU, -, -⟩ := hl
  rw [k1 0 (by omega)] at hB hR
  rw [k1 1 (by omega)] at hR hU
  obtain ⟨⟨h0, h1, h2, h3⟩, ⟨h4, h5, h6, h7, h8⟩, -, -, hU0, hI, hV⟩ := hW
  unfold WF
  rw [hk 0 (by omega), hk 1 (by omega), hk 2 (by omega), hk 3 (by omega), hk 4 (by omega), hk 5 (by omega), hk 6 (by omega), hk 7 (by omega), hk 8 (by omega)]
  have a29 : ∀ s : Int, 0 ≤ s → s < 6 → ln1 D ρ r b (29 + s).toNat = if s = r then b else ρ (29 + s).toNat := by
    intro s s0 s1
    unfold ln1
    rw [upw_n (by omega)]
    by_cases e : s = r
    · rw [if_pos e, e, upw_s]
    · rw [if_neg e, upw_n (by omega)]; exact (k2 s s0 s1).2 e
  refine ⟨⟨h0, h1, h2, h3⟩, ⟨h4, h5, h6, h7, h8⟩, fun c c0 c1 => ?_, fun s s0 s1 => ?_, fun s u s0 s1 u0 u1 => ?_, fun i i0 i1 => ?_, fun i j i0 i1 j0 j1 => ?_⟩
  · have g := hB c c0 c1
    rw [hk _ (by omega), hk _ (by omega), hk _ (by omega)]
    rw [k1 _ (by omega), k1 _ (by omega), k1 _ (by omega)] at g
    have e9 : ln1 D ρ r b (9 + c).toNat = leaveR D ρ r (9 + c).toNat := by unfold ln1; rw [upw_n (by omega), upw_n (by omega)]
    rw [e9]
    exact g
  · have g := hR s s0 s1
    have e17 : ln1 D ρ r b (17 + s).toNat = leaveR D ρ r (17 + s).toNat := by unfold ln1; rw [upw_n (by omega), upw_n (by omega)]
    have e95 : ln1 D ρ r b (95 + s).toNat = leaveR D ρ r (95 + s).toNat := by unfold ln1; rw [upw_n (by omega), upw_n (by omega)]
    have e23 : ln1 D ρ r b (23 + s).toNat = leaveR D ρ r (23 + s).toNat := by unfold ln1; rw [upw_n (by omega), upw_n (by omega)]
    have e41 : ln1 D ρ r b (41 + s).toNat = leaveR D ρ r (41 + s).toNat := by unfold ln1; rw [upw_n (by omega), upw_n (by omega)]
    rw [e17, e95, e23, e41, a29 s s0 (by omega)]
    by_cases e : s = r
    · have e35 : ln1 D ρ r b (35 + s).toNat = ρ 4 := by unfold ln1; rw [e, upw_s]
      rw [if_pos e, e35]
      exact ⟨g.1, g.2.1, g.2.2.1, by omega, ⟨by omega, by omega, fun h => by omega, fun h => by omega⟩, g.2.2.2.2.2⟩
    · have e35 : ln1 D ρ r b (35 + s).toNat = leaveR D ρ r (35 + s).toNat := by unfold ln1; rw [upw_n (by omega), upw_n (by omega)]
      rw [if_neg e, e35, ← (k2 s s0 (by omega)).2 e]
      exact g
  · rw [a29 s s0 (by omega), a29 u u0 (by omega)]
    by_cases e : s = r
    · rw [if_pos e]
      by_cases e2 : u = r
      · intro _ _; omega
      · rw [if_neg e2]; intro h _; exact absurd h.symm (hw u u0 u1)
    · rw [if_neg e]
      by_cases e2 : u = r
      · rw [if_pos e2]; intro h _; exact absurd h (hw s s0 s1)
      · rw [if_neg e2]; exact hU0 s u s0 s1 u0 u1
  · rw [hk _ (by omega), hk _ (by omega)]; exact hI i i0 i1
  · rw [hk _ (by omega), hk _ (by omega), hk _ (by omega), hk _ (by omega)]; exact hV i j i0 i1 j0 j1
theorem drp_k {ρ : Nat → Int} {z : Int} (hz : z = -1 ∨ 0 ≤ z) : ∀ i, i ≠ 8 → i < 47 → drp ρ z i = ρ i := by
  intro i hi hi2
  unfold drp
  by_cases h : z = -1
  · rw [if_pos h]
  · rw [if_neg h]
    unfold dq
    rw [if_neg (by omega), upw_n hi]
theorem drp_h {ρ : Nat → Int} {z : Int} (h8 : ρ 8 ≤ 12) : ∀ i, 71 ≤ i → drp ρ z i = ρ i := by
  intro i hi
  unfold drp
  by_cases h : z = -1
  · rw [if_pos h]
  · rw [if_neg h]
    unfold dq
    rw [if_neg (by omega), upw_n (by omega)]
theorem drp_w {ρ : Nat → Int} {z i : Int} (hz : 0 ≤ z) (hi : 0 ≤ i ∧ i < ρ 8 - 1) : drp ρ z (47 + 2 * i).toNat = ρ (47 + 2 * (if z ≤ i then i + 1 else i)).toNat ∧ drp ρ z (47 + 2 * i + 1).toNat = ρ (47 + 2 * (if z ≤ i then i + 1 else i) + 1).toNat := by
  unfold drp
  rw [if_neg (by omega)]
  unfold dq
  by_cases h : z ≤ i
  · rw [if_pos h, if_pos (by omega), if_pos (by omega), upw_n (by omega), upw_n (by omega)]
    constructor <;> (congr 1; omega)
  · rw [if_neg h, if_neg (by omega), if_neg (by omega), upw_n (by omega), upw_n (by omega)]
    exact ⟨rfl, rfl⟩
theorem WF_drp {ρ : Nat → Int} {z : Int} (hW : WF ρ) (hz : z = -1 ∨ (0 ≤ z ∧ z < ρ 8)) : WF (drp ρ z) := by
  rcases hz with h | hz
  · unfold drp; rw [if_pos h]; exact hW
  · obtain ⟨⟨h0, h1, h2, h3⟩, ⟨h4, h5, h6, h7, h8⟩, hB, hR, hU, hI, hV⟩ := hW
    have k := drp_k (ρ := ρ) (z := z) (by omega)
    have kh := drp_h (ρ := ρ) (z := z) (by omega)
    have k8 : drp ρ z 8 = ρ 8 - 1 := by
      unfold drp
      rw [if_neg (by omega)]
      unfold dq
      rw [if_neg (by omega), upw_s]
    unfold WF
    rw [k 0 (by omega) (by omega), k 1 (by omega) (by omega), k 2 (by omega) (by omega), k 3 (by omega) (by omega), k 4 (by omega) (by omega), k 5 (by omega) (by omega), k 6 (by omega) (by omega), k 7 (by omega) (by omega), k8]
    refine ⟨⟨h0, h1, h2, h3⟩, ⟨h4, h5, h6, h7, by omega⟩, fun c c0 c1 => ?_, fun s s0 s1 => ?_, fun s u s0 s1 u0 u1 => ?_, fun i i0 i1 => ?_, fun i j i0 i1 j0 j1 => ?_⟩
    · rw [kh _ (by omega), kh _ (by omega), kh _ (by omega), k _ (by omega) (by omega)]; exact hB c c0 c1
    · rw [k (17 + s).toNat (by omega) (by omega), kh (95 + s).toNat (by omega), k (23 + s).toNat (by omega) (by omega), k (29 + s).toNat (by omega) (by omega), k (35 + s).toNat (by omega) (by omega), k (41 + s).toNat (by omega) (by omega)]
      exact hR s s0 s1
    · rw [k _ (by omega) (by omega), k _ (by omega) (by omega)]; exact hU s u s0 s1 u0 u1
    · have := drp_w (ρ := ρ) (z := z) (i := i) hz.1 ⟨i0, i1⟩
      rw [this.1, this.2]
      split
      · exact hI (i + 1) (by omega) (by omega)
      · exact hI i (by omega) (by omega)
    · have a := drp_w (ρ := ρ) (z := z) (i := i) hz.1 ⟨i0, i1⟩
      have b := drp_w (ρ := ρ) (z := z) (i := j) hz.1 ⟨j0, j1⟩
      rw [a.1, a.2, b.1, b.2]
      intro x y
      have := hV _ _ (by split <;> omega) (by split <;> omega) (by split <;> omega) (by split <;> omega) x y
      split at this <;> split at this <;> omega
theorem wtP_z {ρ : Nat → Int} {b r z : Int} (h : wtP ρ b r z) : z = -1 ∨ (0 ≤ z ∧ z < ρ 8) := by
  rcases h with ⟨a, -⟩ | ⟨a, b, -⟩
  · exact Or.inl a
  · exact Or.inr ⟨a, b⟩
theorem m_lendIt {σ : Sg} {D : Int → (Nat → Int) → Option Int} {b r : Int} (hW : WF (σ 86)) (hD : LawM (σ 86) D) (h20 : σ 84 20 = 0) (hb : 0 ≤ b ∧ b < σ 86 0) (hr : 0 ≤ r ∧ r < σ 86 1) (hw : wthN (σ 86) b) :
    T (vX10_lendIt r b σ) (fun p => RwM σ p.2 ∧ p.1 = payS D (σ 86) r ∧ p.2 86 = lendR D (σ 86) r b ∧ WF (p.2 86)) := by
  have h16 := hW.1.2.1
  have h08 := hW.1.1
  have hk := (leaveR_k (D := D) hW hr).1
  have hW1 := WF_ln1 (D := D) hW hr hb hw
  have hk1 := ln1_k (D := D) (b := b) hW hr
  unfold vX10_lendIt
  refine T_bd2 (m_leaveIt hW hD h20 hr) (fun p σ1 h1 => ?_)
  dsimp only at h1
  obtain ⟨R1, hp, e1⟩ := h1
  repeat (with_reducible first | refine T_ck (by omega) ?_ | refine T_nm ?_)
  rw [m_term (by omega), Option.bind_some]
  repeat (with_reducible first | refine T_ck (by omega) ?_ | refine T_nm ?_)
  have ew : up2 σ1 86 (29 + r).toNat b 86 (Int.toNat (4 + 0)) = σ 86 4 := by
    rw [up2_c, upw_n (by omega), e1]
    exact hk 4 (by omega)
  rw [ew]
  have e2 : up2 (up2 σ1 86 (29 + r).toNat b) 86 (35 + r).toNat (σ 86 4) 86 = ln1 D (σ 86) r b := by
    rw [up2_c, up2_c, e1]
    rfl
  have R2 : RwM σ (up2 (up2 σ1 86 (29 + r).toNat b) 86 (35 + r).toNat (σ 86 4)) := RwM_u (RwM_u R1)
  generalize up2 (up2 σ1 86 (29 + r).toNat b) 86 (35 + r).toNat (σ 86 4) = σ2 at e2 R2
  refine T_bind (m_waitAt (b := b) (r := r) (by rw [e2]; exact hW1)) (fun z hz => ?_)
  rw [e2] at hz
  have eA := wtA_e hW1 hz
  have hzz := wtP_z hz
  have hfin : WF (lendR D (σ 86) r b) := by unfold lendR; rw [eA]; exact WF_drp hW1 hzz
  refine T_ite (fun c => ?_) (fun c => ?_)
  · have e : lendR D (σ 86) r b = ln1 D (σ 86) r b := by unfold lendR drp; rw [eA, if_pos c]
    refine T_some ⟨R2, hp, ?_, ?_⟩
    · show σ2 86 = _; rw [e2, e]
    · show WF (σ2 86); rw [e2, ← e]; exact hfin
  · have e8 : ln1 D (σ 86) r b 8 = σ 86 8 := hk1 8 (by omega)
    have h8 := hW.2.1.2.2.2.2
    rw [e2, e8]
    repeat (with_reducible first | refine T_ck (by omega) ?_ | refine T_nm ?_)
    have e3 : up2 σ2 86 8 (σ 86 8 - 1) 86 = upw (ln1 D (σ 86) r b) 8 (σ 86 8 - 1) := by rw [up2_c, e2]
    have u8 : upw (ln1 D (σ 86) r b) 8 (σ 86 8 - 1) 8 = σ 86 8 - 1 := upw_s
    refine T_mono (m_lendIt_61 (ρ := upw (ln1 D (σ 86) r b) 8 (σ 86 8 - 1)) (a := 2 * z) (by omega) (by rw [u8]; omega) FU (2 * z) _ (by omega) (by rw [u8]; omega) (by rw [u8]; have := FU_b; omega) (by rw [e3, dq_0 (by omega)])) (fun q hq => ?_)
    obtain ⟨q1, q2, q3⟩ := hq
    have e : lendR D (σ 86) r b = q.2 86 := by
      rw [q3, u8]
      unfold lendR drp
      rw [eA, if_neg c, e8]
    refine ⟨RwM_t (RwM_u R2) ⟨fun k _ b _ _ => q1 k b, fun j _ => by rw [q1 84 (by omega)]⟩, by rw [q2]; exact hp, e.symm, by rw [← e]; exact hfin⟩
theorem c_lendOut {K : Kt} {o : Nat} {σ : Sg} {ρ : Nat → Int} {D : Int → (Nat → Int) → Option Int} {r b : Int} (ho : 12 < o) (hO : LwO K (hC o)) (hH : HallIs σ o ρ) (hW : WF ρ) (hD : LawC K σ (σ 1 5) D) (hr : 0 ≤ r ∧ r < ρ 1) (hb : 0 ≤ b ∧ b < ρ 0) (hw : wthN ρ b) :
    T (vX1_lendOut K o r b σ) (fun p => Sme (hC o) σ p.2 ∧ p.1 = payS D ρ r ∧ HallIs p.2 o (lendR D ρ r b)) := by
  have h16 := hW.1.2.1
  have h08 := hW.1.1
  have hk := (leaveR_k (D := D) hW hr).1
  have hW1 := WF_ln1 (D := D) hW hr hb hw
  have hk1 := ln1_k (D := D) (b := b) hW hr
  unfold vX1_lendOut
  refine T_bd2 (c_leave ho hO hH hW hD hr) (fun p σ1 h1 => ?_)
  dsimp only at h1
  obtain ⟨S1, hp, H1⟩ := h1
  repeat (with_reducible first | refine T_ck (by omega) ?_ | refine T_nm ?_)
  have ew : up2 σ1 (o + 8) r.toNat b (o + 13) 0 = ρ 4 := by
    rw [up2_o (by omega), H1.2.2.2.2.1]
    exact hk 4 (by omega)
  rw [ew]
  have H2 : HallIs (up2 (up2 σ1 (o + 8) r.toNat b) (o + 9) r.toNat (ρ 4)) o (ln1 D ρ r b) := HU_wi1 H1 (by omega)
  have S2 : Sme (hC o) σ (up2 (up2 σ1 (o + 8) r.toNat b) (o + 9) r.toNat (ρ 4)) := Sme_u (Sme_u S1 (by unfold hC; omega)) (by unfold hC; omega)
  generalize up2 (up2 σ1 (o + 8) r.toNat b) (o + 9) r.toNat (ρ 4) = σ2 at H2 S2
  refine T_bind (c_placeWaiting (b := b) (r := r) H2 hW1.2.1.2.2.2.2) (fun z hz => ?_)
  have eA := wtA_e hW1 hz
  have hzz := wtP_z hz
  unfold lendR
  rw [eA]
  unfold vX1_dropWaiting drp
  by_cases c : z = -1
  · rw [if_pos (show z < 0 by omega), if_pos c, Option.bind_some]
    exact T_some ⟨S2, hp, H2⟩
  · have e8 : ln1 D ρ r b 8 = ρ 8 := hk1 8 (by omega)
    have h8 := hW.2.1.2.2.2.2
    rw [if_neg (show ¬ z < 0 by omega), if_neg c, H2.1.2.2, if_pos (by omega), ck_p (by omega)]
    have H3 : HallIs (up2 σ2 o 3 (ln1 D ρ r b 8 - 1)) o (upw (ln1 D ρ r b) 8 (ln1 D ρ r b 8 - 1)) := HU_nw H2
    have u8 : upw (ln1 D ρ r b) 8 (ln1 D ρ r b 8 - 1) 8 = ln1 D ρ r b 8 - 1 := upw_s
    refine T_bind (T_nm (c_dropWaiting_25 (ρ := upw (ln1 D ρ r b) 8 (ln1 D ρ r b 8 - 1)) (a := z) (by omega) (by rw [u8]; omega) FU z _ (by omega) (by rw [u8]; omega) (by rw [u8]; have := FU_b; omega) (by rw [dq_0 (by omega)]; exact H3))) (fun σ3 h3 => ?_)
    rw [u8] at h3
    exact T_some ⟨Sme_t (Sme_u S2 (by unfold hC; omega)) h3.1, hp, h3.2⟩
/-! ===== one waits ===== -/
def waitR (ρ : Nat → Int) (b r : Int) : Nat → Int := upw (upw (upw ρ (47 + 2 * ρ 8).toNat b) (47 + 2 * ρ 8 + 1).toNat r) 8 (ρ 8 + 1)
theorem WF_waitR {ρ : Nat → Int} {b r : Int} (hW : WF ρ) (hr : 0 ≤ r ∧ r < ρ 1) (hb : 0 ≤ b ∧ b < ρ 0) (h8 : ρ 8 < 12) (hn : ∀ i : Int, 0 ≤ i → i < ρ 8 → ¬ wtM ρ b r i) : WF (waitR ρ b r) := by
  obtain ⟨⟨h0, h1, h2, h3⟩, ⟨h4, h5, h6, h7, h8'⟩, hB, hR, hU, hI, hV⟩ := hW
  have k : ∀ i, i ≠ 8 → i < 47 ∨ 71 ≤ i → waitR ρ b r i = ρ i := by
    intro i hi hi2
    unfold waitR
    rw [upw_n (by omega), upw_n (by omega), upw_n (by omega)]
  have k8 : waitR ρ b r 8 = ρ 8 + 1 := upw_s
  have kw : ∀ i : Int, 0 ≤ i → i < ρ 8 + 1 → (waitR ρ b r (47 + 2 * i).toNat = if i = ρ 8 then b else ρ (47 + 2 * i).toNat) ∧ (waitR ρ b r (47 + 2 * i + 1).toNat = if i = ρ 8 then r else ρ (47 + 2 * i + 1).toNat) := by
    intro i i0 i1
    unfold waitR
    by_cases e : i = ρ 8
    · rw [if_pos e, if_pos e, upw_n (by omega), upw_n (by omega), e, upw_s, upw_n (by omega), upw_s]
      exact ⟨rfl, rfl⟩
    · rw [if_neg e, if_neg e, upw_n (by omega), upw_n (by omega), upw_n (by omega), upw_n (by omega), upw_n (by omega), upw_n (by omega)]
      exact ⟨rfl, rfl⟩
  unfold WF
  rw [k 0 (by omega) (by omega), k 1 (by omega) (by omega), k 2 (by omega) (by omega), k 3 (by omega) (by omega), k 4 (by omega) (by omega), k 5 (by omega) (by omega), k 6 (by omega) (by omega), k 7 (by omega) (by omega), k8]
  refine ⟨⟨h0, h1, h2, h3⟩, ⟨h4, h5, h6, h7, by omega⟩, fun c c0 c1 => ?_, fun s s0 s1 => ?_, fun s u s0 s1 u0 u1 => ?_, fun i i0 i1 => ?_, fun i j i0 i1 j0 j1 => ?_⟩
  · rw [k _ (by omega) (by omega), k _ (by omega) (by omega), k _ (by omega) (by omega), k _ (by omega) (by omega)]; exact hB c c0 c1
  · rw [k (17 + s).toNat (by omega) (by omega), k (95 + s).toNat (by omega) (by omega), k (23 + s).toNat (by omega) (by omega), k (29 + s).toNat (by omega) (by omega), k (35 + s).toNat (by omega) (by omega), k (41 + s).toNat (by omega) (by omega)]
    exact hR s s0 s1
  · rw [k _ (by omega) (by omega), k _ (by omega) (by omega)]; exact hU s u s0 s1 u0 u1
  · rw [(kw i i0 i1).1, (kw i i0 i1).2]
    by_cases e : i = ρ 8
    · rw [if_pos e, if_pos e]; exact ⟨hb, hr⟩
    · rw [if_neg e, if_neg e]; exact hI i i0 (by omega)
  · rw [(kw i i0 i1).1, (kw i i0 i1).2, (kw j j0 j1).1, (kw j j0 j1).2]
    by_cases e : i = ρ 8
    · rw [if_pos e, if_pos e]
      by_cases e2 : j = ρ 8
      · intro _ _; omega
      · rw [if_neg e2, if_neg e2]; intro x y; exact absurd ⟨x.symm, y.symm⟩ (hn j j0 (by omega))
    · rw [if_neg e, if_neg e]
      by_cases e2 : j = ρ 8
      · rw [if_pos e2, if_pos e2]; intro x y; exact absurd ⟨x, y⟩ (hn i i0 (by omega))
      · rw [if_neg e2, if_neg e2]; exact hV i j i0 (by omega) j0 (by omega)
theorem c_addWaiting {K : Kt} {o : Nat} {σ : Sg} {ρ : Nat → Int} {r b : Int} (hH : HallIs σ o ρ) (hW : WF ρ) (h8 : ρ 8 < 12) :
    T (vX1_addWaiting K o b r σ) (fun p => Sme (hC o) σ p.2 ∧ p.1 = ρ 8 + 1 ∧ HallIs p.2 o (waitR ρ b r)) := by
  have h8' := hW.2.1.2.2.2.2
  unfold vX1_addWaiting
  rw [hH.1.2.2]
  refine T_t h8 ?_
  with_reducible refine T_ck (by omega) ?_
  refine T_nm ?_
  rw [up2_o (a := o) (by omega), hH.1.2.2]
  with_reducible refine T_ck (by omega) ?_
  refine T_nm ?_
  rw [up2_o (a := o) (by omega), up2_o (a := o) (by omega), hH.1.2.2]
  repeat (with_reducible first | refine T_ck (by omega) ?_ | refine T_nm ?_)
  refine T_some ⟨Sme_u (Sme_u (Sme_u Sme_r (by unfold hC; omega)) (by unfold hC; omega)) (by unfold hC; omega), ?_, HU_nw (HU_wre (HU_wbo hH (by omega)) (by omega))⟩
  show up2 _ o 3 _ o 3 = _
  rw [up2_c, upw_s]
/-! ===== a week passes ===== -/
def psN (D : Int → (Nat → Int) → Option Int) (ρ : Nat → Int) : Nat → Nat → Int
  | 0 => ρ
  | k + 1 => if psN D ρ k (29 + (k : Int)).toNat = -1 then psN D ρ k else upw (psN D ρ k) (23 + (k : Int)).toNat (imin 99 (psN D ρ k (23 + (k : Int)).toNat + askS D (psN D ρ k) 1 (psN D ρ k (29 + (k : Int)).toNat) k (psN D ρ k (17 + (k : Int)).toNat)))
def passR (D : Int → (Nat → Int) → Option Int) (ρ : Nat → Int) : Nat → Int := upw (psN D ρ (ρ 1).toNat) 4 (ρ 4 + 1)
theorem psN_k {D : Int → (Nat → Int) → Option Int} {ρ : Nat → Int} : ∀ (k : Nat), k ≤ 6 → ∀ i, i < 23 ∨ 29 ≤ i → psN D ρ k i = ρ i
  | 0, _, _, _ => rfl
  | k + 1, h, i, hi => by
    rw [psN]
    split
    · exact psN_k k (by omega) i hi
    · rw [upw_n (by omega)]; exact psN_k k (by omega) i hi
theorem WF_23 {ρ : Nat → Int} {k v : Int} (hW : WF ρ) (hk : 0 ≤ k ∧ k < 6) (hv : 0 ≤ v ∧ v ≤ 99) : WF (upw ρ (23 + k).toNat v) := by
  obtain ⟨⟨h0, h1, h2, h3⟩, ⟨h4, h5, h6, h7, h8⟩, hB, hR, hU, hI, hV⟩ := hW
  have e : ∀ i, i < 23 ∨ 29 ≤ i → upw ρ (23 + k).toNat v i = ρ i := fun i hi => upw_n (by omega)
  unfold WF
  rw [e 0 (by omega), e 1 (by omega), e 2 (by omega), e 3 (by omega), e 4 (by omega), e 5 (by omega), e 6 (by omega), e 7 (by omega), e 8 (by omega)]
  refine ⟨⟨h0, h1, h2, h3⟩, ⟨h4, h5, h6, h7, h8⟩, fun c c0 c1 => ?_, fun s s0 s1 => ?_, fun s u s0 s1 u0 u1 => ?_, fun i i0 i1 => ?_, fun i j i0 i1 j0 j1 => ?_⟩
  · rw [e _ (by omega), e _ (by omega), e _ (by omega), e _ (by omega)]; exact hB c c0 c1
  · rw [e (17 + s).toNat (by omega), e (95 + s).toNat (by omega), e (29 + s).toNat (by omega), e (35 + s).toNat (by omega), e (41 + s).toNat (by omega)]
    have g := hR s s0 s1
    by_cases c : s = k
    · rw [c, upw_s]; rw [c] at g; exact ⟨g.1, g.2.1, hv, g.2.2.2⟩
    · rw [upw_n (by omega)]; exact g
  · rw [e _ (by omega), e _ (by omega)]; exact hU s u s0 s1 u0 u1
  · rw [e _ (by omega), e _ (by omega)]; exact hI i i0 i1
  · rw [e _ (by omega), e _ (by omega), e _ (by omega), e _ (by omega)]; exact hV i j i0 i1 j0 j1
theorem WF_psN {D : Int → (Nat → Int) → Option Int} {ρ : Nat → Int} (hW : WF ρ) : ∀ (k : Nat), (k : Int) ≤ ρ 1 → WF (psN D ρ k)
  | 0, _ => hW
  | k + 1, h => by
    have h16 := hW.1.2.1
    have ih := WF_psN (D := D) hW k (by omega)
    rw [psN]
    split
    · exact ih
    · have e1 := psN_k (D := D) (ρ := ρ) k (by omega) 1 (by omega)
      have hR := ih.2.2.2.1 k (by omega) (by omega)
      refine WF_23 ih (by omega) ?_
      have := askS_1 (D := D) (ρ := psN D ρ k) (b := psN D ρ k (29 + (k : Int)).toNat) (r := k) (t := psN D ρ k (17 + (k : Int)).toNat)
      unfold imin
      split <;> omega
theorem WF_4 {ρ : Nat → Int} {v : Int} (hW : WF ρ) (hv : 0 ≤ v ∧ v ≤ 999) : WF (upw ρ 4 v) := by
  obtain ⟨⟨h0, h1, h2, h3⟩, ⟨h4, h5, h6, h7, h8⟩, hB, hR, hU, hI, hV⟩ := hW
  have e : ∀ i, i ≠ 4 → upw ρ 4 v i = ρ i := fun i hi => upw_n hi
  unfold WF
  rw [e 0 (by omega), e 1 (by omega), e 2 (by omega), e 3 (by omega), upw_s, e 5 (by omega), e 6 (by omega), e 7 (by omega), e 8 (by omega)]
  refine ⟨⟨h0, h1, h2, h3⟩, ⟨hv, h5, h6, h7, h8⟩, fun c c0 c1 => ?_, fun s s0 s1 => ?_, fun s u s0 s1 u0 u1 => ?_, fun i i0 i1 => ?_, fun i j i0 i1 j0 j1 => ?_⟩
  · rw [e _ (by omega), e _ (by omega), e _ (by omega), e _ (by omega)]; exact hB c c0 c1
  · rw [e (17 + s).toNat (by omega), e (95 + s).toNat (by omega), e (23 + s).toNat (by omega), e (29 + s).toNat (by omega), e (35 + s).toNat (by omega), e (41 + s).toNat (by omega)]
    exact hR s s0 s1
  · rw [e _ (by omega), e _ (by omega)]; exact hU s u s0 s1 u0 u1
  · rw [e _ (by omega), e _ (by omega)]; exact hI i i0 i1
  · rw [e _ (by omega), e _ (by omega), e _ (by omega), e _ (by omega)]; exact hV i j i0 i1 j0 j1
theorem WF_passR {D : Int → (Nat → Int) → Option Int} {ρ : Nat → Int} (hW : WF ρ) (h : ρ 4 < 999) : WF (passR D ρ) := by
  have h16 := hW.1.2.1
  have h4 := hW.2.1.1
  exact WF_4 (WF_psN hW _ (by omega)) (by omega)
theorem m_passIt_2 {ρ : Nat → Int} {D : Int → (Nat → Int) → Option Int} (hW : WF ρ) (hD : LawM ρ D) : ∀ (f k : Nat) (σ : Sg), (ρ 1).toNat - k < f → (k : Int) ≤ ρ 1 → σ 86 = psN D ρ k → σ 84 20 = 0 →
    T (vX10_passIt_2 f (k : Int) σ) (fun σ' => RwM σ σ' ∧ σ' 86 = passR D ρ) := by
  have h16 := hW.1.2.1
  have h4 := hW.2.1.1
  intro f
  induction f with
  | zero => intro k σ h; omega
  | succ f ih =>
    intro k σ hf hk he h20
    have kk := psN_k (D := D) (ρ := ρ) k (by omega)
    have hWk := WF_psN (D := D) hW k hk
    rw [vX10_passIt_2]
    have e1 : σ 86 1 = ρ 1 := by rw [he]; exact kk 1 (by omega)
    rw [e1]
    have es : psN D ρ (k + 1) = if psN D ρ k (29 + (k : Int)).toNat = -1 then psN D ρ k else upw (psN D ρ k) (23 + (k : Int)).toNat (imin 99 (psN D ρ k (23 + (k : Int)).toNat + askS D (psN D ρ k) 1 (psN D ρ k (29 + (k : Int)).toNat) k (psN D ρ k (17 + (k : Int)).toNat))) := rfl
    refine T_ite (fun h => ?_) (fun h => ?_)
    · have hR := hWk.2.2.2.1 k (by omega) (by rw [kk 1 (by omega)]; omega)
      repeat (with_reducible first | refine T_ck (by omega) ?_ | refine T_nm ?_)
      rw [show (k : Int) + 1 = ((k + 1 : Nat) : Int) by omega, he]
      refine T_ite (fun c => ?_) (fun c => ?_)
      · with_reducible refine T_ck (by omega) ?_
        refine ih (k + 1) σ (by omega) (by omega) ?_ h20
        rw [es, if_pos c, he]
      · rw [if_neg c] at es
        repeat (with_reducible first | refine T_ck (by omega) ?_ | refine T_nm ?_)
        rw [← he]
        have hWs : WF (σ 86) := by rw [he]; exact hWk
        refine T_bd2 (m_wearsOf (D := D) hWs (by rw [he]; exact LawM_p hD (kk 3 (by omega)) (fun i hi => kk i (by omega))) h20 (by rw [he]; omega) (by rw [e1]; omega)) (fun y σ1 h1 => ?_)
        dsimp only at h1
        obtain ⟨S1, hy⟩ := h1
        rw [he] at hy
        have hy1 := askS_1 (D := D) (ρ := psN D ρ k) (b := psN D ρ k (29 + (k : Int)).toNat) (r := k) (t := psN D ρ k (17 + (k : Int)).toNat)
        rw [he]
        with_reducible refine T_ck (by omega) ?_
        rw [m_within (by omega), Option.bind_some]
        repeat (with_reducible first | refine T_ck (by omega) ?_ | refine T_nm ?_)
        have hv : (if psN D ρ k (23 + (k : Int)).toNat + y < 0 then 0 else if 99 < psN D ρ k (23 + (k : Int)).toNat + y then 99 else psN D ρ k (23 + (k : Int)).toNat + y) = imin 99 (psN D ρ k (23 + (k : Int)).toNat + y) := by
          unfold imin
          repeat' split
          all_goals omega
        rw [hv]
        have R1 := RwM_s S1
        refine T_mono (ih (k + 1) (up2 σ1 86 (23 + (k : Int)).toNat (imin 99 (psN D ρ k (23 + (k : Int)).toNat + y))) (by omega) (by omega) ?_ ?_) (fun σ' h' => ⟨RwM_t (RwM_u R1) h'.1, h'.2⟩)
        · rw [up2_c, ScM_k S1 (by omega), he, es, hy]
        · rw [up2_o (by omega), S1.2 20 (by unfold sc84; omega)]; exact h20
    · have e : (ρ 1).toNat = k := by omega
      have e4 : σ 86 4 = ρ 4 := by rw [he]; exact kk 4 (by omega)
      rw [e4]
      repeat (with_reducible first | refine T_ck (by omega) ?_ | refine T_nm ?_)
      refine T_some ⟨RwM_u RwM_r, ?_⟩
      rw [up2_c, he]
      unfold passR
      rw [e]
theorem m_passIt {σ : Sg} {D : Int → (Nat → Int) → Option Int} (hW : WF (σ 86)) (hD : LawM (σ 86) D) (h20 : σ 84 20 = 0) : T (vX10_passIt σ) (fun σ' => RwM σ σ' ∧ σ' 86 = passR D (σ 86)) := by
  have h16 := hW.1.2.1
  unfold vX10_passIt
  exact m_passIt_2 hW hD FU 0 σ (by have := FU_b; omega) (by omega) rfl h20
theorem c_passWeek_2 {K : Kt} {o : Nat} {ρ : Nat → Int} {D : Int → (Nat → Int) → Option Int} (ho : 12 < o) (hO : LwO K (hC o)) (hW : WF ρ) : ∀ (f k : Nat) (σ : Sg), (ρ 1).toNat - k < f → (k : Int) ≤ ρ 1 → HallIs σ o (psN D ρ k) → LawC K σ (σ 1 5) D →
    T (vX1_passWeek_2 K o f (k : Int) σ) (fun p => Sme (hC o) σ p.2 ∧ p.1 = ρ 4 + 1 ∧ HallIs p.2 o (passR D ρ)) := by
  have h16 := hW.1.2.1
  have h4 := hW.2.1.1
  intro f
  induction f with
  | zero => intro k σ h; omega
  | succ f ih =>
    intro k σ hf hk hH hD
    have kk := psN_k (D := D) (ρ := ρ) k (by omega)
    have hWk := WF_psN (D := D) hW k hk
    have e1 : σ o 2 = ρ 1 := by rw [hH.1.2.1]; exact kk 1 (by omega)
    rw [vX1_passWeek_2, e1]
    have es : psN D ρ (k + 1) = if psN D ρ k (29 + (k : Int)).toNat = -1 then psN D ρ k else upw (psN D ρ k) (23 + (k : Int)).toNat (imin 99 (psN D ρ k (23 + (k : Int)).toNat + askS D (psN D ρ k) 1 (psN D ρ k (29 + (k : Int)).toNat) k (psN D ρ k (17 + (k : Int)).toNat))) := rfl
    refine T_ite (fun h => ?_) (fun h => ?_)
    · have hR := hWk.2.2.2.1 k (by omega) (by rw [kk 1 (by omega)]; omega)
      have gR := hH.2.2.1 k (by omega) (by omega)
      repeat (with_reducible first | refine T_ck (by omega) ?_ | refine T_nm ?_)
      rw [show (k : Int) + 1 = ((k + 1 : Nat) : Int) by omega, gR.2.2.2.1]
      refine T_ite (fun c => ?_) (fun c => ?_)
      · with_reducible refine T_ck (by omega) ?_
        refine ih (k + 1) σ (by omega) (by omega) ?_ hD
        rw [es, if_pos c]; exact hH
      · rw [if_neg c] at es
        repeat (with_reducible first | refine T_ck (by omega) ?_ | refine T_nm ?_)
        rw [gR.1]
        refine T_bd2 (l_asked ho hH hWk hD (by omega) (by omega) (by rw [kk 1 (by omega)]; omega) (by omega)) (fun y σ1 h1 => ?_)
        dsimp only at h1
        obtain ⟨S1, hy⟩ := h1
        have H1 := HallIs_k ho hH S1
        have gR1 := H1.2.2.1 k (by omega) (by omega)
        have hy1 := askS_1 (D := D) (ρ := psN D ρ k) (b := psN D ρ k (29 + (k : Int)).toNat) (r := k) (t := psN D ρ k (17 + (k : Int)).toNat)
        rw [gR1.2.2.1]
        repeat (with_reducible first | refine T_ck (by omega) ?_ | refine T_nm ?_)
        have SS : Sme (hC o) σ (up2 σ1 (o + 7) (k : Int).toNat (imin 99 (psN D ρ k (23 + (k : Int)).toNat + y))) := Sme_u (hC_s S1) (by unfold hC; omega)
        refine T_mono (ih (k + 1) (up2 σ1 (o + 7) (k : Int).toNat (imin 99 (psN D ρ k (23 + (k : Int)).toNat + y))) (by omega) (by omega) ?_ ?_) (fun p h' => ⟨Sme_t SS h'.1, h'.2⟩)
        · rw [es, ← hy]
          exact HU_wor H1 (by omega)
        · rw [SS 1 (by unfold hC; omega)]; exact LawC_s hD SS hO
    · have e : (ρ 1).toNat = k := by omega
      have e4 : σ (o + 13) 0 = ρ 4 := by rw [hH.2.2.2.2.1]; exact kk 4 (by omega)
      rw [e4]
      repeat (with_reducible first | refine T_ck (by omega) ?_ | refine T_nm ?_)
      refine T_some ⟨Sme_u Sme_r (by unfold hC; omega), ?_, ?_⟩
      · show up2 _ (o + 13) 0 _ (o + 13) 0 = _
        rw [up2_c, upw_s]
      · unfold passR
        rw [e]
        exact HU_t0 hH
theorem c_passWeek {K : Kt} {o : Nat} {σ : Sg} {ρ : Nat → Int} {D : Int → (Nat → Int) → Option Int} (ho : 12 < o) (hO : LwO K (hC o)) (hW : WF ρ) (hH : HallIs σ o ρ) (hD : LawC K σ (σ 1 5) D) : T (vX1_passWeek K o σ) (fun p => Sme (hC o) σ p.2 ∧ p.1 = ρ 4 + 1 ∧ HallIs p.2 o (passR D ρ)) := by
  have h16 := hW.1.2.1
  unfold vX1_passWeek
  exact c_passWeek_2 ho hO hW FU 0 σ (by have := FU_b; omega) (by omega) hH hD
