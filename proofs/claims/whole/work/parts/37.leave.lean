/-! ===== a reader leaves a book ===== -/
theorem mul_b {k f A B : Int} (h1 : -A ≤ k) (h2 : k ≤ A) (h3 : 0 ≤ f) (h4 : f ≤ B) : -(A * B) ≤ k * f ∧ k * f ≤ A * B := by
  have hA : 0 ≤ A := by omega
  have e1 : k * f ≤ A * f := Int.mul_le_mul_of_nonneg_right h2 h3
  have e2 : A * f ≤ A * B := Int.mul_le_mul_of_nonneg_left h4 hA
  have e3 : (-A) * f ≤ k * f := Int.mul_le_mul_of_nonneg_right h1 h3
  rw [Int.neg_mul] at e3
  constructor <;> omega
def dueS (ρ : Nat → Int) (f r : Int) : Int := imin (ρ (9 + ρ (29 + r).toNat).toNat) (imax 0 (ρ 4 - ρ (35 + r).toNat - ρ 5) * f)
theorem dueS_rg {ρ : Nat → Int} {f r : Int} (hp : 0 ≤ ρ (9 + ρ (29 + r).toNat).toNat) (hf : 0 ≤ f) : 0 ≤ dueS ρ f r ∧ dueS ρ f r ≤ ρ (9 + ρ (29 + r).toNat).toNat := by
  unfold dueS
  have h0 : 0 ≤ imax 0 (ρ 4 - ρ (35 + r).toNat - ρ 5) := by unfold imax; split <;> omega
  have h1 := Int.mul_nonneg h0 hf
  generalize imax 0 (ρ 4 - ρ (35 + r).toNat - ρ 5) * f = x at *
  unfold imin
  split <;> omega
theorem due_eq {p k f : Int} (hp : 0 ≤ p) (hf : 0 ≤ f) : (if k * f < 0 then 0 else if p < k * f then p else k * f) = imin p (imax 0 k * f) := by
  by_cases hk : k ≤ 0
  · have h1 : k * f ≤ 0 := Int.mul_nonpos_of_nonpos_of_nonneg hk hf
    have e : imax 0 k = 0 := by unfold imax; split <;> omega
    rw [e, Int.zero_mul]
    unfold imin
    repeat' split
    all_goals omega
  · have h1 : 0 ≤ k * f := Int.mul_nonneg (by omega) hf
    have e : imax 0 k = k := by unfold imax; split <;> omega
    rw [e]
    unfold imin
    repeat' split
    all_goals omega
theorem m_dueOf {σ : Sg} {D : Int → (Nat → Int) → Option Int} {r : Int} (hW : WF (σ 86)) (hD : LawM (σ 86) D) (h20 : σ 84 20 = 0) (hr : 0 ≤ r ∧ r < σ 86 1) (hb : σ 86 (29 + r).toNat ≠ -1) :
    T (vX10_dueOf r σ) (fun p => ScM σ p.2 ∧ p.1 = dueS (σ 86) (askS D (σ 86) 0 (σ 86 (29 + r).toNat) r (σ 86 (17 + r).toNat)) r) := by
  have hR := hW.2.2.2.1 r hr.1 hr.2
  have hB := hW.2.2.1 (σ 86 (29 + r).toNat) (by omega) (by omega)
  obtain ⟨⟨h0, h1, h2, h3⟩, ⟨h4, h5, h6, h7, h8⟩, -⟩ := id hW
  unfold vX10_dueOf
  repeat (with_reducible first | refine T_ck (by omega) ?_ | refine T_nm ?_)
  rw [m_keptFor (by omega) (by omega) (by omega), Option.bind_some, m_term (by omega), Option.bind_some]
  show T (ck (in32 (σ 86 4 - σ 86 (35 + r).toNat - σ 86 5)) _) _
  with_reducible refine T_ck (by omega) ?_
  refine T_bd2 (m_finesOf hW hD h20 (by omega) hr) (fun z σ1 h => ?_)
  dsimp only at h
  obtain ⟨hS, hz⟩ := h
  have hz : z = _ := hz
  have hf := askS_0 (D := D) (ρ := σ 86) (b := σ 86 (29 + r).toNat) (r := r) (t := σ 86 (17 + r).toNat)
  rw [← hz] at hf
  rw [← hz]
  have e86 : σ1 86 = σ 86 := ScM_k hS (by omega)
  show T (ck (in64 ((σ 86 4 - σ 86 (35 + r).toNat - σ 86 5) * z)) (nm ((σ 86 4 - σ 86 (35 + r).toNat - σ 86 5) * z) _)) _
  have hm := mul_b (k := σ 86 4 - σ 86 (35 + r).toNat - σ 86 5) (f := z) (A := 2000) (B := 99) (by omega) (by omega) (by omega) (by omega)
  with_reducible refine T_ck (by omega) ?_
  refine T_nm ?_
  repeat (with_reducible first | refine T_ck (by omega) ?_ | refine T_nm ?_)
  rw [m_within (by omega), Option.bind_some, e86]
  refine T_some ⟨hS, ?_⟩
  exact due_eq (by omega) (by omega)
theorem c_dues {K : Kt} {σ : Sg} {o : Nat} {ρ : Nat → Int} {r f : Int} (hH : HallIs σ o ρ) (hW : WF ρ) (hr : 0 ≤ r ∧ r < ρ 1) (hb : ρ (29 + r).toNat ≠ -1) (hf : 0 ≤ f ∧ f ≤ 99) : vX1_dues K o r f σ = some (dueS ρ f r) := by
  have hR := hW.2.2.2.1 r hr.1 hr.2
  have hB := hW.2.2.1 (ρ (29 + r).toNat) (by omega) (by omega)
  obtain ⟨⟨h0, h1, h2, h3⟩, ⟨h4, h5, h6, h7, h8⟩, -⟩ := id hW
  obtain ⟨⟨g0, g1, g8⟩, gB, gR, gI, g4, g5, g6, g7⟩ := id hH
  have gR := gR r (by omega) (by omega)
  have gB := gB (ρ (29 + r).toNat) (by omega) (by omega)
  unfold vX1_dues
  rw [ck_p (by omega)]
  show (vX1_hasBook K o (σ (o + 8) r.toNat) σ).bind _ = _
  rw [h_hasBook, Option.bind_some, gR.2.2.2.1, g0, if_neg (by rw [bI_t (by omega)]; omega), h_kept hH hW (by omega) hr, Option.bind_some]
  have e6 : lw ρ (ρ (29 + r).toNat) r 0 6 = ρ 4 - ρ (35 + r).toNat := by
    show (if _ then _ else _) = _
    rw [if_pos rfl]
  rw [e6, g5, ck_p (by omega)]
  have hm := mul_b (k := imax 0 (ρ 4 - ρ (35 + r).toNat - ρ 5)) (f := f) (A := 2000) (B := 99) (by unfold imax; split <;> omega) (by unfold imax; split <;> omega) (by omega) (by omega)
  show ck _ (ck (in32 (imax 0 (ρ 4 - ρ (35 + r).toNat - ρ 5) * f)) _) = _
  rw [ck_p (by omega), ck_p (by omega), gB.2.2.2]
  rfl
/-- the reader has kept its book as long as that takes -/
def dnS (D : Int → (Nat → Int) → Option Int) (ρ : Nat → Int) (r : Int) : Prop := askS D ρ 2 (ρ (29 + r).toNat) r (ρ (17 + r).toNat) ≤ ρ 4 - ρ (35 + r).toNat
theorem dnS_dec (D : Int → (Nat → Int) → Option Int) (ρ : Nat → Int) (r : Int) : dnS D ρ r ∨ ¬ dnS D ρ r := Classical.em _
def payS (D : Int → (Nat → Int) → Option Int) (ρ : Nat → Int) (r : Int) : Int := if ρ (29 + r).toNat = -1 then 0 else dueS ρ (askS D ρ 0 (ρ (29 + r).toNat) r (ρ (17 + r).toNat)) r
/-- a row behind a reader's leaving, read or not, with what is paid -/
def lvR (ρ : Nat → Int) (r b a t p : Int) : Nat → Int := upw (upw (upw (upw (upw ρ (41 + r).toNat a) (17 + r).toNat t) (9 + b).toNat (ρ (9 + b).toNat - p)) (29 + r).toNat (-1)) (35 + r).toNat (-1)
noncomputable def leaveR (D : Int → (Nat → Int) → Option Int) (ρ : Nat → Int) (r : Int) : Nat → Int :=
  if ρ (29 + r).toNat = -1 then ρ else
  @ite _ (dnS D ρ r) (Classical.propDecidable _)
    (lvR ρ r (ρ (29 + r).toNat) (bOr (ρ (41 + r).toNat) (bShl 1 (ρ (29 + r).toNat))) (bOr (ρ (17 + r).toNat) (ρ (87 + ρ (29 + r).toNat).toNat)) (payS D ρ r))
    (lvR ρ r (ρ (29 + r).toNat) (ρ (41 + r).toNat) (ρ (17 + r).toNat) (payS D ρ r))
/-- the reference's cells that change with the row -/
def RwM (σ σ' : Sg) : Prop := (∀ k, k ≠ 84 → k ≠ 86 → k ≠ 102 → k ≠ 104 → σ' k = σ k) ∧ ∀ j, ¬ sc84 j → σ' 84 j = σ 84 j
theorem RwM_s {σ σ' : Sg} (h : ScM σ σ') : RwM σ σ' := ⟨fun k a b c d => ScM_k h ⟨a, c, d⟩, h.2⟩
theorem RwM_t {σ σ' σ'' : Sg} (h : RwM σ σ') (h' : RwM σ' σ'') : RwM σ σ'' := ⟨fun k a b c d => (h'.1 k a b c d).trans (h.1 k a b c d), fun j hj => (h'.2 j hj).trans (h.2 j hj)⟩
theorem RwM_u {σ σ' : Sg} {j : Nat} {z : Int} (h : RwM σ σ') : RwM σ (up2 σ' 86 j z) := by
  refine ⟨fun k a b c d => ?_, fun i hi => ?_⟩
  · rw [up2_o b]; exact h.1 k a b c d
  · rw [up2_o (by omega)]; exact h.2 i hi
theorem RwM_r {σ : Sg} : RwM σ σ := ⟨fun _ _ _ _ _ => rfl, fun _ _ => rfl⟩
theorem m_leaveIt_96 {σ : Sg} {r b p a c : Int} (hr : 0 ≤ r ∧ r < 6) (hb : 0 ≤ b ∧ b < 8) (hp : 0 ≤ p ∧ p ≤ 999) (hq : 0 ≤ σ 86 (9 + b).toNat ∧ σ 86 (9 + b).toNat ≤ 999) :
    T (vX10_leaveIt_96 r b p (17 + r) a c σ) (fun q => RwM σ q.2 ∧ q.1 = p ∧ q.2 86 = upw (upw (upw (upw (σ 86) (17 + r).toNat (bOr a c)) (9 + b).toNat (σ 86 (9 + b).toNat - p)) (29 + r).toNat (-1)) (35 + r).toNat (-1)) := by
  unfold vX10_leaveIt_96
  with_reducible refine T_ck (by omega) ?_
  refine T_nm ?_
  have e : up2 σ 86 (17 + r).toNat (bOr a c) 86 (9 + b).toNat = σ 86 (9 + b).toNat := by rw [up2_c, upw_n (by omega)]
  rw [e]
  repeat (with_reducible first | refine T_ck (by omega) ?_ | refine T_nm ?_)
  refine T_some ⟨RwM_u (RwM_u (RwM_u (RwM_u RwM_r))), rfl, ?_⟩
  show up2 _ 86 _ _ 86 = _
  simp only [up2_c]
theorem m_leaveIt {σ : Sg} {D : Int → (Nat → Int) → Option Int} {r : Int} (hW : WF (σ 86)) (hD : LawM (σ 86) D) (h20 : σ 84 20 = 0) (hr : 0 ≤ r ∧ r < σ 86 1) :
    T (vX10_leaveIt r σ) (fun p => RwM σ p.2 ∧ p.1 = payS D (σ 86) r ∧ p.2 86 = leaveR D (σ 86) r) := by
  have hR := hW.2.2.2.1 r hr.1 hr.2
  obtain ⟨⟨h0, h1, h2, h3⟩, ⟨h4, h5, h6, h7, h8⟩, -⟩ := id hW
  unfold vX10_leaveIt payS leaveR
  repeat (with_reducible first | refine T_ck (by omega) ?_ | refine T_nm ?_)
  refine T_ite (fun hb => ?_) (fun hb => ?_)
  · rw [if_pos hb, if_pos hb]
    exact T_some ⟨RwM_r, rfl, rfl⟩
  · rw [if_neg hb, if_neg hb]
    have hB := hW.2.2.1 (σ 86 (29 + r).toNat) (by omega) (by omega)
    have hpay : payS D (σ 86) r = dueS (σ 86) (askS D (σ 86) 0 (σ 86 (29 + r).toNat) r (σ 86 (17 + r).toNat)) r := by unfold payS; rw [if_neg hb]
    rw [hpay]
    refine T_bd2 (m_dueOf hW hD h20 hr hb) (fun z σ1 h => ?_)
    dsimp only at h
    obtain ⟨hS, hz⟩ := h
    have hz : z = _ := hz
    have hzr := dueS_rg (ρ := σ 86) (r := r) (f := askS D (σ 86) 0 (σ 86 (29 + r).toNat) r (σ 86 (17 + r).toNat)) (by omega) askS_0.1
    rw [← hz] at hzr
    rw [← hz]
    have e86 : σ1 86 = σ 86 := ScM_k hS (by omega)
    have e20 : σ1 84 20 = 0 := by rw [hS.2 20 (by unfold sc84; omega)]; exact h20
    rw [m_keptFor (by omega) (by rw [e86]; omega) (by rw [e86]; omega), Option.bind_some, e86]
    refine T_bd2 (m_takesOf (D := D) (by rw [e86]; exact hW) (by rw [e86]; exact hD) e20 (by rw [e86]; omega) (by rw [e86]; omega)) (fun t σ2 h2 => ?_)
    dsimp only at h2
    obtain ⟨hS2, ht⟩ := h2
    have ht : t = _ := ht
    rw [e86] at ht
    have f86 : σ2 86 = σ 86 := by rw [ScM_k hS2 (by omega), e86]
    have hS3 := RwM_s (ScM_t hS hS2)
    refine T_ite (fun hlt => ?_) (fun hlt => ?_)
    · have hd : ¬ dnS D (σ 86) r := by unfold dnS; omega
      rw [if_neg hd]
      unfold vX10_leaveIt_42
      repeat (with_reducible first | refine T_ck (by omega) ?_ | refine T_nm ?_)
      refine T_t rfl ?_
      unfold vX10_leaveIt_66
      repeat (with_reducible first | refine T_ck (by omega) ?_ | refine T_nm ?_)
      refine T_t rfl ?_
      have x17 : up2 σ2 86 (41 + r).toNat (bOr (σ2 86 (41 + r).toNat) 0) 86 = upw (σ 86) (41 + r).toNat (σ 86 (41 + r).toNat) := by rw [up2_c, f86, bOr_0 (by omega)]
      refine T_mono (m_leaveIt_96 (by omega) (by omega) (by omega) (by rw [x17, upw_n (by omega)]; omega)) (fun q hq => ⟨RwM_t hS3 (RwM_t (RwM_u RwM_r) hq.1), hq.2.1, ?_⟩)
      rw [hq.2.2, x17, upw_n (i := (17 + r).toNat) (by omega), upw_n (i := (9 + σ 86 (29 + r).toNat).toNat) (by omega), bOr_0 (by omega)]
      rfl
    · have hd : dnS D (σ 86) r := by unfold dnS; omega
      rw [if_pos hd]
      unfold vX10_leaveIt_42
      repeat (with_reducible first | refine T_ck (by omega) ?_ | refine T_nm ?_)
      refine T_f (by decide) ?_
      unfold vX10_leaveIt_66
      repeat (with_reducible first | refine T_ck (by omega) ?_ | refine T_nm ?_)
      refine T_f (by decide) ?_
      repeat (with_reducible first | refine T_ck (by omega) ?_ | refine T_nm ?_)
      have x17 : up2 σ2 86 (41 + r).toNat (bOr (σ2 86 (41 + r).toNat) (bShl 1 (σ 86 (29 + r).toNat))) 86 = upw (σ 86) (41 + r).toNat (bOr (σ 86 (41 + r).toNat) (bShl 1 (σ 86 (29 + r).toNat))) := by rw [up2_c, f86]
      refine T_mono (m_leaveIt_96 (by omega) (by omega) (by omega) (by rw [x17, upw_n (by omega)]; omega)) (fun q hq => ⟨RwM_t hS3 (RwM_t (RwM_u RwM_r) hq.1), hq.2.1, ?_⟩)
      rw [hq.2.2, x17, upw_n (i := (17 + r).toNat) (by omega), upw_n (i := (87 + σ 86 (29 + r).toNat).toNat) (by omega), upw_n (i := (9 + σ 86 (29 + r).toNat).toNat) (by omega)]
      rfl
/-! ===== the class's hall ===== -/
/-- cells that asking and a hall's change touch -/
def hC (o : Nat) (k : Nat) : Prop := k = 11 ∨ k = 12 ∨ (o ≤ k ∧ k ≤ o + 13)
theorem LwO_m {K : Kt} {P P' : Nat → Prop} (h : LwO K P) (hp : ∀ k, P' k → P k) : LwO K P' := ⟨⟨fun c => h.1.1 (hp _ c), fun c => h.1.2.1 (hp _ c), fun j t hj e c => h.1.2.2 j t hj e (hp _ c)⟩, fun i q hi e => ⟨fun c => (h.2 i q hi e).1 (hp _ c), fun j t hj e' c => (h.2 i q hi e).2 j t hj e' (hp _ c)⟩⟩
theorem hC_s {o : Nat} {σ σ' : Sg} (h : Sme (fun k => k = 11 ∨ k = 12) σ σ') : Sme (hC o) σ σ' := Sme_m h (fun k hk => by unfold hC; omega)
theorem HallIs_k {σ σ' : Sg} {o : Nat} {ρ : Nat → Int} (ho : 12 < o) (h : HallIs σ o ρ) (hs : Sme (fun k => k = 11 ∨ k = 12) σ σ') : HallIs σ' o ρ := HallIs_s h (fun k a b => hs k (by omega))
theorem c_leave_101 {K : Kt} {o : Nat} {σ : Sg} {ρ : Nat → Int} {r b p : Int} (hH : HallIs σ o ρ) (hr : 0 ≤ r ∧ r < 6) (hb : 0 ≤ b ∧ b < 8) (hp : 0 ≤ p ∧ p ≤ 999) (hq : 0 ≤ ρ (9 + b).toNat ∧ ρ (9 + b).toNat ≤ 999) :
    T (vX1_leave_101 K o r b p σ) (fun q => Sme (hC o) σ q.2 ∧ q.1 = p ∧ HallIs q.2 o (upw (upw (upw ρ (9 + b).toNat (ρ (9 + b).toNat - p)) (29 + r).toNat (-1)) (35 + r).toNat (-1))) := by
  have gB := hH.2.1 b (by omega) (by omega)
  unfold vX1_leave_101
  rw [gB.2.2.2]
  repeat (with_reducible first | refine T_ck (by omega) ?_ | refine T_nm ?_)
  refine T_some ⟨Sme_u (Sme_u Sme_r (by unfold hC; omega)) (by unfold hC; omega), rfl, ?_⟩
  exact HU_wi0 (HU_pur hH hb) hr
theorem c_readsThrough {K : Kt} {o : Nat} {σ : Sg} {ρ : Nat → Int} {r t : Int} (hH : HallIs σ o ρ) (hW : WF ρ) (hr : 0 ≤ r ∧ r < ρ 1) (hb : ρ (29 + r).toNat ≠ -1) : vX1_readsThrough K o r t σ = some (bI (t ≤ ρ 4 - ρ (35 + r).toNat)) := by
  have hR := hW.2.2.2.1 r hr.1 hr.2
  have h1 := hW.1.2.1
  have gR := hH.2.2.1 r (by omega) (by omega)
  unfold vX1_readsThrough
  rw [ck_p (by omega), gR.2.2.2.1, h_kept hH hW (by omega) hr, Option.bind_some]
  have e6 : lw ρ (ρ (29 + r).toNat) r 0 6 = ρ 4 - ρ (35 + r).toNat := by
    show (if _ then _ else _) = _
    rw [if_pos rfl]
  rw [e6]
  by_cases h : ρ 4 - ρ (35 + r).toNat < t
  · rw [if_pos h, bI_f (by omega)]
  · rw [if_neg h, bI_t (by omega)]
theorem c_leave {K : Kt} {o : Nat} {σ : Sg} {ρ : Nat → Int} {D : Int → (Nat → Int) → Option Int} {r : Int} (ho : 12 < o) (hO : LwO K (hC o)) (hH : HallIs σ o ρ) (hW : WF ρ) (hD : LawC K σ (σ 1 5) D) (hr : 0 ≤ r ∧ r < ρ 1) :
    T (vX1_leave K o r σ) (fun p => Sme (hC o) σ p.2 ∧ p.1 = payS D ρ r ∧ HallIs p.2 o (leaveR D ρ r)) := by
  have hR := hW.2.2.2.1 r hr.1 hr.2
  obtain ⟨⟨h0, h1, h2, h3⟩, ⟨h4, h5, h6, h7, h8⟩, -⟩ := id hW
  obtain ⟨⟨g0, g1, g8⟩, gB, gR, gI, g4, g5, g6, g7⟩ := id hH
  have gR := gR r (by omega) (by omega)
  unfold vX1_leave payS leaveR
  repeat (with_reducible first | refine T_ck (by omega) ?_ | refine T_nm ?_)
  rw [h_hasBook, Option.bind_some, gR.2.2.2.1, g0]
  by_cases hb : ρ (29 + r).toNat = -1
  · rw [if_pos hb, if_pos hb]
    exact T_t (bI_f (by omega)) (T_some ⟨Sme_r, rfl, hH⟩)
  · rw [if_neg hb, if_neg hb]
    have hB := hW.2.2.1 (ρ (29 + r).toNat) (by omega) (by omega)
    have hpay : payS D ρ r = dueS ρ (askS D ρ 0 (ρ (29 + r).toNat) r (ρ (17 + r).toNat)) r := by unfold payS; rw [if_neg hb]
    rw [hpay]
    refine T_f (by rw [bI_t (by omega)]; omega) ?_
    repeat (with_reducible first | refine T_ck (by omega) ?_ | refine T_nm ?_)
    rw [gR.1]
    refine T_bd2 (l_asked ho hH hW hD (by omega) (by omega) hr (by omega)) (fun z σ1 h => ?_)
    dsimp only at h
    obtain ⟨hS, hz⟩ := h
    have hz : z = _ := hz
    have hH1 := HallIs_k ho hH hS
    have hD1 : LawC K σ1 (σ1 1 5) D := by rw [hS 1 (by omega)]; exact LawC_s hD hS (LwO_m hO (fun k hk => by unfold hC; omega))
    repeat (with_reducible first | refine T_ck (by omega) ?_ | refine T_nm ?_)
    rw [(hH1.2.2.1 r (by omega) (by omega)).1]
    refine T_bd2 (l_asked ho hH1 hW hD1 (by omega) (by omega) hr (by omega)) (fun y σ2 h => ?_)
    dsimp only at h
    obtain ⟨hS2, hy⟩ := h
    have hy : y = _ := hy
    have hH2 := HallIs_k ho hH1 hS2
    have hSS := Sme_t hS hS2
    have hf := askS_0 (D := D) (ρ := ρ) (b := ρ (29 + r).toNat) (r := r) (t := ρ (17 + r).toNat)
    rw [c_dues hH2 hW hr hb (by omega), Option.bind_some, c_readsThrough hH2 hW hr hb, Option.bind_some, ← hy]
    have hzr := dueS_rg (ρ := ρ) (r := r) (f := y) (by omega) (by omega)
    refine T_ite (fun hlt => ?_) (fun hlt => ?_)
    · have hd : ¬ dnS D ρ r := by rw [bI_0] at hlt; unfold dnS; rw [← hz]; exact hlt
      rw [if_neg hd]
      refine T_mono (c_leave_101 hH2 (by omega) (by omega) (by omega) (by omega)) (fun q hq => ⟨Sme_t (hC_s hSS) hq.1, hq.2.1, ?_⟩)
      have e : lvR ρ r (ρ (29 + r).toNat) (ρ (41 + r).toNat) (ρ (17 + r).toNat) (dueS ρ y r) = upw (upw (upw ρ (9 + ρ (29 + r).toNat).toNat (ρ (9 + ρ (29 + r).toNat).toNat - dueS ρ y r)) (29 + r).toNat (-1)) (35 + r).toNat (-1) := by
        unfold lvR
        have e1 : ∀ (f : Nat → Int) (i : Nat), upw f i (f i) = f := by
          intro f i
          funext j
          unfold upw
          split
          · rename_i h; rw [h]
          · rfl
        rw [e1, e1]
      rw [e]
      exact hq.2.2
    · have hd : dnS D ρ r := by rw [bI_0] at hlt; unfold dnS; rw [← hz]; exact Classical.not_not.mp hlt
      rw [if_pos hd]
      repeat (with_reducible first | refine T_ck (by omega) ?_ | refine T_nm ?_)
      have gR2 := hH2.2.2.1 r (by omega) (by omega)
      have x5 : up2 σ2 (o + 10) r.toNat (bOr (σ2 (o + 10) r.toNat) (bShl 1 (ρ (29 + r).toNat))) (o + 5) = σ2 (o + 5) := up2_o (by omega)
      have x3 : up2 σ2 (o + 10) r.toNat (bOr (σ2 (o + 10) r.toNat) (bShl 1 (ρ (29 + r).toNat))) (o + 3) = σ2 (o + 3) := up2_o (by omega)
      rw [x5, x3, gR2.1, gR2.2.2.2.2.2, (hH2.2.1 (ρ (29 + r).toNat) (by omega) (by omega)).2.2.1]
      refine T_mono (c_leave_101 (HU_tra (HU_rea hH2 (by omega)) (by omega)) (by omega) (by omega) (by omega) (by rw [upw_n (by omega), upw_n (by omega)]; omega)) (fun q hq => ⟨Sme_t (Sme_u (Sme_u (hC_s hSS) (by unfold hC; omega)) (by unfold hC; omega)) hq.1, hq.2.1, ?_⟩)
      have := hq.2.2
      rw [upw_n (i := (9 + ρ (29 + r).toNat).toNat) (by omega), upw_n (i := (9 + ρ (29 + r).toNat).toNat) (by omega)] at this
      exact this
