/-! ===== a hall copied ===== -/
theorem cpy2_o {σ : Sg} {q0 q1 sp dp n a : Nat} (h : a ≠ q1) : cpy2 σ q0 q1 sp dp n a = σ a := by
  funext b
  unfold cpy2
  rw [if_neg (fun q => h q.1)]
theorem cpy2_c {σ : Sg} {q0 q1 n b : Nat} (h : b < n) : cpy2 σ q0 q1 0 0 n q1 b = σ q0 b := by
  unfold cpy2
  rw [if_pos ⟨rfl, by omega, by omega⟩]
  congr 1
  omega
theorem Sme_y {P : Nat → Prop} {σ σ' : Sg} {q0 q1 sp dp n : Nat} (h : Sme P σ σ') (hk : P q1) : Sme P σ (cpy2 σ' q0 q1 sp dp n) := by
  intro a ha
  have e : a ≠ q1 := fun e => ha (by rw [e]; exact hk)
  rw [cpy2_o e]
  exact h a ha
theorem c_copyFrom {K : Kt} {σ : Sg} {o o2 : Nat} (hd : o + 13 < o2 ∨ o2 + 13 < o) : T (vX1_copyFrom K o o2 σ) (fun σ' => Sme (fun k => o ≤ k ∧ k ≤ o + 13) σ σ' ∧ ∀ ρ, HallIs σ o2 ρ → HallIs σ' o ρ) := by
  unfold vX1_copyFrom
  repeat (with_reducible first | refine T_ck (by omega) ?_ | refine T_nm ?_)
  refine T_some ⟨?_, fun ρ hH => ?_⟩
  · refine Sme_y (Sme_y (Sme_y (Sme_y (Sme_y (Sme_y (Sme_y (Sme_y (Sme_y (Sme_y (Sme_y (Sme_y (Sme_y (Sme_u (Sme_u (Sme_u Sme_r ?_) ?_) ?_) ?_) ?_) ?_) ?_) ?_) ?_) ?_) ?_) ?_) ?_) ?_) ?_) ?_ <;> omega
  · obtain ⟨⟨g0, g1, g8⟩, gB, gR, gI, g4, g5, g6, g7⟩ := hH
    refine ⟨⟨?_, ?_, ?_⟩, fun b h1 h2 => ?_, fun r h1 h2 => ?_, fun i h1 h2 => ?_, ?_, ?_, ?_, ?_⟩
    · simp (disch := omega) only [cpy2_o, up2_o, up2_c]
      rw [upw_n (by omega), upw_n (by omega), upw_s]; exact g0
    · simp (disch := omega) only [cpy2_o, up2_o, up2_c]
      rw [upw_n (by omega), upw_s]; exact g1
    · simp (disch := omega) only [cpy2_o, up2_o, up2_c]
      rw [upw_s]; exact g8
    · have g := gB b h1 h2
      have hb : b.toNat < 8 := by omega
      refine ⟨?_, ?_, ?_, ?_⟩
      · simp (disch := omega) only [cpy2_o, up2_o]
        show cpy2 _ (o2 + 1) (o + 1) 0 0 8 (o + 1) b.toNat = _
        rw [cpy2_c hb]
        simp (disch := omega) only [cpy2_o, up2_o]
        exact g.1
      · simp (disch := omega) only [cpy2_o, up2_o]
        show cpy2 _ (o2 + 2) (o + 2) 0 0 8 (o + 2) b.toNat = _
        rw [cpy2_c hb]
        simp (disch := omega) only [cpy2_o, up2_o]
        exact g.2.1
      · simp (disch := omega) only [cpy2_o, up2_o]
        show cpy2 _ (o2 + 3) (o + 3) 0 0 8 (o + 3) b.toNat = _
        rw [cpy2_c hb]
        simp (disch := omega) only [cpy2_o, up2_o]
        exact g.2.2.1
      · simp (disch := omega) only [cpy2_o, up2_o]
        show cpy2 _ (o2 + 4) (o + 4) 0 0 8 (o + 4) b.toNat = _
        rw [cpy2_c hb]
        simp (disch := omega) only [cpy2_o, up2_o]
        exact g.2.2.2
    · have g := gR r h1 h2
      have hb : r.toNat < 6 := by omega
      refine ⟨?_, ?_, ?_, ?_, fun hw => ?_, ?_⟩
      · simp (disch := omega) only [cpy2_o, up2_o]
        show cpy2 _ (o2 + 5) (o + 5) 0 0 6 (o + 5) r.toNat = _
        rw [cpy2_c hb]
        simp (disch := omega) only [cpy2_o, up2_o]
        exact g.1
      · simp (disch := omega) only [cpy2_o, up2_o]
        show cpy2 _ (o2 + 6) (o + 6) 0 0 6 (o + 6) r.toNat = _
        rw [cpy2_c hb]
        simp (disch := omega) only [cpy2_o, up2_o]
        exact g.2.1
      · simp (disch := omega) only [cpy2_o, up2_o]
        show cpy2 _ (o2 + 7) (o + 7) 0 0 6 (o + 7) r.toNat = _
        rw [cpy2_c hb]
        simp (disch := omega) only [cpy2_o, up2_o]
        exact g.2.2.1
      · simp (disch := omega) only [cpy2_o, up2_o]
        show cpy2 _ (o2 + 8) (o + 8) 0 0 6 (o + 8) r.toNat = _
        rw [cpy2_c hb]
        simp (disch := omega) only [cpy2_o, up2_o]
        exact g.2.2.2.1
      · simp (disch := omega) only [cpy2_o, up2_o]
        show cpy2 _ (o2 + 9) (o + 9) 0 0 6 (o + 9) r.toNat = _
        rw [cpy2_c hb]
        simp (disch := omega) only [cpy2_o, up2_o]
        exact g.2.2.2.2.1 hw
      · simp (disch := omega) only [cpy2_o, up2_o]
        show cpy2 _ (o2 + 10) (o + 10) 0 0 6 (o + 10) r.toNat = _
        rw [cpy2_c hb]
        simp (disch := omega) only [cpy2_o, up2_o]
        exact g.2.2.2.2.2
    · have g := gI i h1 h2
      have hb : i.toNat < 12 := by omega
      refine ⟨?_, ?_⟩
      · simp (disch := omega) only [cpy2_o, up2_o]
        show cpy2 _ (o2 + 11) (o + 11) 0 0 12 (o + 11) i.toNat = _
        rw [cpy2_c hb]
        simp (disch := omega) only [cpy2_o, up2_o]
        exact g.1
      · simp (disch := omega) only [cpy2_o, up2_o]
        show cpy2 _ (o2 + 12) (o + 12) 0 0 12 (o + 12) i.toNat = _
        rw [cpy2_c hb]
        simp (disch := omega) only [cpy2_o, up2_o]
        exact g.2
    · show cpy2 _ (o2 + 13) (o + 13) 0 0 4 (o + 13) 0 = _
      rw [cpy2_c (by omega)]
      simp (disch := omega) only [cpy2_o, up2_o]
      exact g4
    · show cpy2 _ (o2 + 13) (o + 13) 0 0 4 (o + 13) 1 = _
      rw [cpy2_c (by omega)]
      simp (disch := omega) only [cpy2_o, up2_o]
      exact g5
    · show cpy2 _ (o2 + 13) (o + 13) 0 0 4 (o + 13) 2 = _
      rw [cpy2_c (by omega)]
      simp (disch := omega) only [cpy2_o, up2_o]
      exact g6
    · show cpy2 _ (o2 + 13) (o + 13) 0 0 4 (o + 13) 3 = _
      rw [cpy2_c (by omega)]
      simp (disch := omega) only [cpy2_o, up2_o]
      exact g7
/-! ===== years by draws ===== -/
def nxd (s : Int) : Int := Int.tmod (s * 1103 + 12345) 1000003
theorem tm_b {a b : Int} (ha : 0 ≤ a) (hb : 0 < b) : 0 ≤ Int.tmod a b ∧ Int.tmod a b < b := ⟨Int.tmod_nonneg b ha, Int.tmod_lt_of_pos a hb⟩
theorem nxd_b {s : Int} (h : 0 ≤ s ∧ s < 1000003) : 0 ≤ nxd s ∧ nxd s < 1000003 := tm_b (by omega) (by omega)
theorem c_nextDrawn {s : Int} {σ : Sg} (h : 0 ≤ s ∧ s < 1000003) : vX9_nextDrawn s σ = some (nxd s) := by
  have b := nxd_b h
  unfold vX9_nextDrawn
  unfold nxd at b ⊢
  rw [ck_p (by omega), ck_p (by omega), ck_p ⟨by omega, by omega⟩]
theorem m_draw {p : Int} {σ : Sg} (h : 0 ≤ σ 84 54 ∧ σ 84 54 < 1000003) (hp : 0 < p ∧ p ≤ 8) : vX10_draw p σ = some (Int.tmod (nxd (σ 84 54)) p, up2 σ 84 54 (nxd (σ 84 54))) := by
  have b := nxd_b h
  have t := tm_b b.1 hp.1
  have key : T (vX10_draw p σ) (fun q => q = (Int.tmod (nxd (σ 84 54)) p, up2 σ 84 54 (nxd (σ 84 54)))) := by
    unfold vX10_draw
    have w : up2 σ 84 54 (nxd (σ 84 54)) 84 54 = nxd (σ 84 54) := by rw [up2_c, upw_s]
    refine T_ck (by omega) (T_ck (by omega) (T_ck ⟨by omega, ?_⟩ (T_nm ?_)))
    · show in64 (nxd (σ 84 54)); omega
    · show T (ck (¬ p = 0 ∧ in64 (Int.tmod (up2 σ 84 54 (nxd (σ 84 54)) 84 54) p)) (some (w32 (Int.tmod (up2 σ 84 54 (nxd (σ 84 54)) 84 54) p), up2 σ 84 54 (nxd (σ 84 54))))) _
      rw [w]
      refine T_ck ⟨by omega, by omega⟩ (T_some ?_)
      rw [w32_id (by omega)]
  obtain ⟨q, e, h'⟩ := key
  rw [e, h']
abbrev YS : Type := (Nat → Int) × Int × Int
noncomputable def yrM (D : Int → (Nat → Int) → Option Int) (ρ : Nat → Int) (r b h paid : Int) : (Nat → Int) × Int :=
  @ite _ (h = 0 ∧ ρ (29 + r).toNat ≠ -1) (Classical.propDecidable _) (leaveR D ρ r, paid + payS D ρ r) (@ite _ (lendP D ρ r b) (Classical.propDecidable _) (lendR D ρ r b, paid + payS D ρ r) (ρ, paid))
noncomputable def yrS (D : Int → (Nat → Int) → Option Int) (S : YS) : YS :=
  (passR D (yrM D S.1 (Int.tmod (nxd S.2.1) (S.1 1)) (Int.tmod (nxd (nxd S.2.1)) (S.1 0)) (Int.tmod (nxd (nxd (nxd S.2.1))) 3) S.2.2).1, nxd (nxd (nxd S.2.1)), (yrM D S.1 (Int.tmod (nxd S.2.1) (S.1 1)) (Int.tmod (nxd (nxd S.2.1)) (S.1 0)) (Int.tmod (nxd (nxd (nxd S.2.1))) 3) S.2.2).2)
noncomputable def yrN (D : Int → (Nat → Int) → Option Int) : Nat → YS → YS
  | 0, S => S
  | m + 1, S => if S.1 4 < 999 then yrN D m (yrS D S) else S
/-- the fixed parts of a row -/
def RF (ρ ρ' : Nat → Int) : Prop := ∀ i, i < 4 ∨ 71 ≤ i → ρ' i = ρ i
theorem lendR_k {D : Int → (Nat → Int) → Option Int} {ρ : Nat → Int} {r b : Int} (hW : WF ρ) (hr : 0 ≤ r ∧ r < ρ 1) (hb : 0 ≤ b ∧ b < ρ 0) (hw : wthN ρ b) : WF (lendR D ρ r b) ∧ RF ρ (lendR D ρ r b) ∧ lendR D ρ r b 4 = ρ 4 := by
  have hW1 := WF_ln1 (D := D) hW hr hb hw
  have k1 := ln1_k (D := D) (b := b) hW hr
  have ex : ∃ z, wtP (ln1 D ρ r b) b r z := by
    by_cases c : ∃ i : Int, 0 ≤ i ∧ i < ln1 D ρ r b 8 ∧ wtM (ln1 D ρ r b) b r i
    · obtain ⟨i, i0, i1, i2⟩ := c; exact ⟨i, Or.inr ⟨i0, i1, i2⟩⟩
    · exact ⟨-1, Or.inl ⟨rfl, fun i i0 i1 i2 => c ⟨i, i0, i1, i2⟩⟩⟩
  obtain ⟨z, hz⟩ := ex
  have eA := wtA_e hW1 hz
  have hzz := wtP_z hz
  have h8 : ln1 D ρ r b 8 ≤ 12 := hW1.2.1.2.2.2.2.2
  unfold lendR
  rw [eA]
  refine ⟨WF_drp hW1 hzz, fun i hi => ?_, ?_⟩
  · rcases hi with q | q
    · rw [drp_k (by omega) i (by omega) (by omega), k1 i (by omega)]
    · rw [drp_h h8 i q, k1 i (by omega)]
  · rw [drp_k (by omega) 4 (by omega) (by omega), k1 4 (by omega)]
theorem passR_k {D : Int → (Nat → Int) → Option Int} {ρ : Nat → Int} (hW : WF ρ) : RF ρ (passR D ρ) ∧ passR D ρ 4 = ρ 4 + 1 := by
  have h16 := hW.1.2.1
  refine ⟨fun i hi => ?_, upw_s⟩
  unfold passR
  rw [upw_n (by omega)]
  exact psN_k _ (by omega) i (by omega)
theorem yrM_k {D : Int → (Nat → Int) → Option Int} {ρ : Nat → Int} {r b h paid : Int} (hW : WF ρ) (hr : 0 ≤ r ∧ r < ρ 1) (hb : 0 ≤ b ∧ b < ρ 0) : WF (yrM D ρ r b h paid).1 ∧ RF ρ (yrM D ρ r b h paid).1 ∧ (yrM D ρ r b h paid).1 4 = ρ 4 ∧ paid ≤ (yrM D ρ r b h paid).2 ∧ (yrM D ρ r b h paid).2 ≤ paid + 999 := by
  have hp := payS_rg (D := D) hW hr
  unfold yrM
  by_cases c : h = 0 ∧ ρ (29 + r).toNat ≠ -1
  · rw [if_pos c]
    have lk := leaveR_k (D := D) hW hr
    exact ⟨WF_leave hW hr, fun i hi => lk.1 i (by omega), lk.1 4 (by omega), by dsimp only; omega, by dsimp only; omega⟩
  · rw [if_neg c]
    by_cases c2 : lendP D ρ r b
    · rw [if_pos c2]
      obtain ⟨a1, a2, a3⟩ := lendR_k (D := D) hW hr hb c2.1
      exact ⟨a1, a2, a3, by dsimp only; omega, by dsimp only; omega⟩
    · rw [if_neg c2]
      exact ⟨hW, fun _ _ => rfl, rfl, by dsimp only; omega, by dsimp only; omega⟩
def yOk (ρ0 : Nat → Int) (S : YS) (k : Nat) : Prop := WF S.1 ∧ RF ρ0 S.1 ∧ (0 ≤ S.2.1 ∧ S.2.1 < 1000003) ∧ (0 ≤ S.2.2 ∧ S.2.2 ≤ 999 * (k : Int)) ∧ 0 < S.1 0 ∧ 0 < S.1 1
theorem yrS_ok {D : Int → (Nat → Int) → Option Int} {ρ0 : Nat → Int} {S : YS} {k : Nat} (h : yOk ρ0 S k) (h4 : S.1 4 < 999) : yOk ρ0 (yrS D S) (k + 1) := by
  obtain ⟨hW, hF, hs, hp, h0, h1⟩ := h
  have s1 := nxd_b hs
  have s2 := nxd_b s1
  have s3 := nxd_b s2
  have t1 := tm_b s1.1 h1
  have t2 := tm_b s2.1 h0
  obtain ⟨m1, m2, m3, m4, m5⟩ := yrM_k (D := D) (h := Int.tmod (nxd (nxd (nxd S.2.1))) 3) (paid := S.2.2) hW t1 t2
  obtain ⟨p1, p2⟩ := passR_k (D := D) m1
  unfold yrS
  refine ⟨WF_passR m1 (by omega), fun i hi => ?_, s3, by dsimp only; omega, ?_, ?_⟩
  · dsimp only; rw [p1 i hi, m2 i hi, hF i hi]
  · dsimp only; rw [p1 0 (by omega), m2 0 (by omega)]; exact h0
  · dsimp only; rw [p1 1 (by omega), m2 1 (by omega)]; exact h1
theorem yrN_ok {D : Int → (Nat → Int) → Option Int} {ρ0 : Nat → Int} : ∀ (m k : Nat) (S : YS), yOk ρ0 S k → yOk ρ0 (yrN D m S) (k + m)
  | 0, k, S, h => h
  | m + 1, k, S, h => by
    rw [yrN]
    split
    · have := yrN_ok (D := D) m (k + 1) _ (yrS_ok (D := D) h (by assumption))
      rw [show k + 1 + m = k + (m + 1) by omega] at this
      exact this
    · obtain ⟨a, b, c, d, e⟩ := h
      exact ⟨a, b, c, by omega, e⟩
theorem c_paperMove {K : Kt} {σ : Sg} {ρ : Nat → Int} {D : Int → (Nat → Int) → Option Int} {r b h : Int} (hO : LwO K (hC 47)) (hH : HallIs σ 47 ρ) (hW : WF ρ) (hD : LawC K σ (σ 1 5) D) (hr : 0 ≤ r ∧ r < ρ 1) (hb : 0 ≤ b ∧ b < ρ 0) : T (vX9_paperMove K r b h σ) (fun p => Sme (hC 47) σ p.2 ∧ HallIs p.2 47 (yrM D ρ r b h 0).1 ∧ p.1 = (yrM D ρ r b h 0).2) := by
  have h16 := hW.1.2.1
  have hO2 : LwO K (fun k => k = 11 ∨ k = 12) := LwO_m hO (fun k hk => by unfold hC; omega)
  have mv : ¬ (h = 0 ∧ ρ (29 + r).toNat ≠ -1) → T (vX9_paperMove_26 K r b σ) (fun p => Sme (hC 47) σ p.2 ∧ HallIs p.2 47 (yrM D ρ r b h 0).1 ∧ p.1 = (yrM D ρ r b h 0).2) := by
    intro c
    unfold vX9_paperMove_26 yrM
    rw [if_neg c]
    refine T_bd2 (c_lendRefusal (by omega) hO2 hH hW hD) (fun z σ1 h1 => ?_)
    dsimp only at h1
    obtain ⟨S1, hz⟩ := h1
    unfold lref at hz
    rw [if_pos ⟨hr, hb⟩] at hz
    have H1 := HallIs_k (by omega) hH S1
    have D1 : LawC K σ1 (σ1 1 5) D := by rw [S1 1 (by omega)]; exact LawC_s hD S1 hO2
    by_cases c2 : lendP D ρ r b
    · rw [if_pos c2] at hz ⊢
      refine T_t hz ?_
      refine T_bd2 (c_lendOut (by omega) hO H1 hW D1 hr hb c2.1) (fun y σ2 h2 => T_some ⟨Sme_t (hC_s S1) h2.1, h2.2.2, ?_⟩)
      dsimp only
      have := h2.2.1
      dsimp only at this
      rw [this, Int.zero_add]
    · rw [if_neg c2] at hz ⊢
      exact T_f (by omega) (T_some ⟨hC_s S1, H1, rfl⟩)
  unfold vX9_paperMove
  refine T_ite (fun c => ?_) (fun c => mv (fun q => c q.1))
  have g : σ 55 r.toNat = ρ (29 + r).toNat := (hH.2.2.1 r (by omega) (by omega)).2.2.2.1
  with_reducible refine T_ck (by omega) ?_
  rw [g]
  refine T_ite (fun c2 => mv (fun q => q.2 c2)) (fun c2 => ?_)
  unfold yrM
  rw [if_pos ⟨c, c2⟩]
  refine T_bd2 (c_leave (by omega) hO hH hW hD hr) (fun y σ2 h2 => T_some ⟨h2.1, h2.2.2, ?_⟩)
  dsimp only
  have := h2.2.1
  dsimp only at this
  rw [this, Int.zero_add]
theorem yrM_p {D : Int → (Nat → Int) → Option Int} {ρ : Nat → Int} {r b h paid : Int} : yrM D ρ r b h paid = ((yrM D ρ r b h 0).1, paid + (yrM D ρ r b h 0).2) := by
  unfold yrM
  by_cases c : h = 0 ∧ ρ (29 + r).toNat ≠ -1
  · rw [if_pos c, if_pos c, Int.zero_add]
  · rw [if_neg c, if_neg c]
    by_cases c2 : lendP D ρ r b
    · rw [if_pos c2, if_pos c2, Int.zero_add]
    · rw [if_neg c2, if_neg c2, Int.add_zero]
theorem c_years_80 {K : Kt} {σ0 : Sg} {ρ0 : Nat → Int} {D : Int → (Nat → Int) → Option Int} {n : Nat} (hO : LwO K (hC 47)) (hD : LawC K σ0 (σ0 1 5) D) (hn : n ≤ 60) :
    ∀ (m f k : Nat) (S : YS) (σ : Sg), m < f → k + m = n → yOk ρ0 S k → HallIs σ 47 S.1 → Sme (hC 47) σ0 σ → T (vX9_years_80 K f (n : Int) (S.1 0) (S.1 1) S.2.1 S.2.2 (k : Int) σ) (fun p => ∃ σ', Sme (hC 47) σ0 σ' ∧ HallIs σ' 47 (yrN D m S).1 ∧ p.1 = (yrN D m S).2.2 ∧ p.2 = anC p.1 σ') := by
  intro m
  induction m with
  | zero =>
    intro f k S σ hf hk ok hH hS
    obtain ⟨f', rfl⟩ : ∃ f', f = f' + 1 := ⟨f - 1, by omega⟩
    rw [vX9_years_80]
    refine T_f (by omega) ?_
    unfold vX9_years_166
    rw [c_grant ok.2.2.2.1.1, bd2_some]
    exact T_some ⟨σ, hS, hH, rfl, rfl⟩
  | succ m ih =>
    intro f k S σ hf hk ok hH hS
    obtain ⟨f', rfl⟩ : ∃ f', f = f' + 1 := ⟨f - 1, by omega⟩
    obtain ⟨hW, hF, hs, hp, h0, h1⟩ := id ok
    have h08 := hW.1.1
    have h16 := hW.1.2.1
    have g4 : σ 60 0 = S.1 4 := hH.2.2.2.2.1
    rw [vX9_years_80, g4, yrN]
    refine T_t (by omega) ?_
    by_cases h4 : S.1 4 < 999
    · refine T_t h4 ?_
      rw [if_pos h4]
      have s1 := nxd_b hs
      have s2 := nxd_b s1
      have s3 := nxd_b s2
      have t1 := tm_b s1.1 h1
      have t2 := tm_b s2.1 h0
      have t3 := tm_b (b := 3) s3.1 (by omega)
      rw [c_nextDrawn hs, Option.bind_some]
      refine T_ck ⟨by omega, by omega⟩ (T_nm ?_)
      rw [c_nextDrawn s1, Option.bind_some]
      refine T_ck ⟨by omega, by omega⟩ (T_nm ?_)
      rw [c_nextDrawn s2, Option.bind_some]
      refine T_ck ⟨by omega, by omega⟩ ?_
      have hDs : LawC K σ (σ 1 5) D := by rw [hS 1 (by unfold hC; omega)]; exact LawC_s hD hS hO
      refine T_bd2 (c_paperMove (h := Int.tmod (nxd (nxd (nxd S.2.1))) 3) hO hH hW hDs t1 t2) (fun y σ1 hy => ?_)
      dsimp only at hy
      obtain ⟨S1, H1, ey⟩ := hy
      obtain ⟨m1, m2, m3, m4, m5⟩ := yrM_k (D := D) (h := Int.tmod (nxd (nxd (nxd S.2.1))) 3) (paid := 0) hW t1 t2
      rw [ey]
      repeat (with_reducible first | refine T_ck (by omega) ?_ | refine T_nm ?_)
      have hD1 : LawC K σ1 (σ1 1 5) D := by rw [S1 1 (by unfold hC; omega)]; exact LawC_s hDs S1 hO
      refine T_bd2 (c_passWeek (by omega) hO m1 H1 hD1) (fun z σ2 hz => ?_)
      dsimp only at hz
      obtain ⟨S2, -, H2⟩ := hz
      with_reducible refine T_ck (by omega) ?_
      rw [show (k : Int) + 1 = ((k + 1 : Nat) : Int) by omega]
      have ok' := yrS_ok (D := D) ok h4
      have es : yrS D S = (passR D (yrM D S.1 (Int.tmod (nxd S.2.1) (S.1 1)) (Int.tmod (nxd (nxd S.2.1)) (S.1 0)) (Int.tmod (nxd (nxd (nxd S.2.1))) 3) 0).1, nxd (nxd (nxd S.2.1)), S.2.2 + (yrM D S.1 (Int.tmod (nxd S.2.1) (S.1 1)) (Int.tmod (nxd (nxd S.2.1)) (S.1 0)) (Int.tmod (nxd (nxd (nxd S.2.1))) 3) 0).2) := by
        unfold yrS
        rw [yrM_p (paid := S.2.2)]
      have nx := ih f' (k + 1) (yrS D S) σ2 (by omega) (by omega) ok' (by rw [es]; exact H2) (Sme_t hS (Sme_t S1 S2))
      have e0 : (yrS D S).1 0 = S.1 0 := by rw [ok'.2.1 0 (by omega), hF 0 (by omega)]
      have e1 : (yrS D S).1 1 = S.1 1 := by rw [ok'.2.1 1 (by omega), hF 1 (by omega)]
      rw [e0, e1] at nx
      have e2 : (yrS D S).2.1 = nxd (nxd (nxd S.2.1)) := by rw [es]
      have e3 : (yrS D S).2.2 = S.2.2 + (yrM D S.1 (Int.tmod (nxd S.2.1) (S.1 1)) (Int.tmod (nxd (nxd S.2.1)) (S.1 0)) (Int.tmod (nxd (nxd (nxd S.2.1))) 3) 0).2 := by rw [es]
      rw [e2, e3] at nx
      exact nx
    · refine T_f h4 ?_
      rw [if_neg h4]
      unfold vX9_years_166
      rw [c_grant hp.1, bd2_some]
      exact T_some ⟨σ, hS, hH, rfl, rfl⟩
