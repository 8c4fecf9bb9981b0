/-! ===== a reader comes ===== -/
def readerR (ρ : Nat → Int) (t v : Int) : Nat → Int := upw (upw (upw (upw (upw (upw (upw ρ (17 + ρ 1).toNat t) (95 + ρ 1).toNat v) (23 + ρ 1).toNat 0) (29 + ρ 1).toNat (-1)) (35 + ρ 1).toNat (-1)) (41 + ρ 1).toNat 0) 1 (ρ 1 + 1)
theorem HU_si2 {σ : Sg} {o : Nat} {ρ : Nat → Int} {i z : Int} (h : HallIs σ o ρ) (hi : 0 ≤ i ∧ i < 6) (hn : ρ (29 + i).toNat = -1) : HallIs (up2 σ (o + 9) i.toNat z) o ρ := by
  obtain ⟨⟨g0, g1, g8⟩, gB, gR, gI, g4, g5, g6, g7⟩ := h
  refine ⟨⟨?_, ?_, ?_⟩, fun b h1 h2 => ?_, fun r h1 h2 => ?_, fun i h1 h2 => ?_, ?_, ?_, ?_, ?_⟩
  · simp (disch := omega) only [up2_o]; exact g0
  · simp (disch := omega) only [up2_o]; exact g1
  · simp (disch := omega) only [up2_o]; exact g8
  · simp (disch := omega) only [up2_o]; exact gB b h1 h2
  · obtain ⟨x0, x1, x2, x3, x4, x5⟩ := gR r h1 h2
    simp (disch := omega) only [up2_o]
    refine ⟨x0, x1, x2, x3, fun hw => ?_, x5⟩
    rw [up2_c, upw_n]
    · exact x4 hw
    · intro e
      have : r = i := by omega
      rw [this] at hw
      exact hw hn
  · simp (disch := omega) only [up2_o]; exact gI i h1 h2
  · simp (disch := omega) only [up2_o]; exact g4
  · simp (disch := omega) only [up2_o]; exact g5
  · simp (disch := omega) only [up2_o]; exact g6
  · simp (disch := omega) only [up2_o]; exact g7
theorem c_addReader {K : Kt} {o : Nat} {σ : Sg} {ρ : Nat → Int} {a b : Int} (hH : HallIs σ o ρ) (h6 : 0 ≤ ρ 1 ∧ ρ 1 < 6) : T (vX1_addReader K o a b σ) (fun p => Sme (fun k => o ≤ k ∧ k ≤ o + 13) σ p.2 ∧ p.1 = ρ 1 ∧ HallIs p.2 o (readerR ρ a b)) := by
  have g1 := hH.1.2.1
  unfold vX1_addReader
  refine T_t (by rw [g1]; omega) ?_
  rw [g1]
  with_reducible refine T_ck (by omega) ?_
  refine T_nm ?_
  have x1 : up2 σ (o + 5) (ρ 1).toNat a o 2 = ρ 1 := by rw [up2_o (by omega)]; exact g1
  rw [x1]
  with_reducible refine T_ck (by omega) ?_
  refine T_nm ?_
  have H2 : HallIs (up2 (up2 σ (o + 5) (ρ 1).toNat a) (o + 6) (ρ 1).toNat b) o (upw (upw ρ (17 + ρ 1).toNat a) (95 + ρ 1).toNat b) := HU_rar (HU_tra hH h6) h6
  have S2 : Sme (fun k => o ≤ k ∧ k ≤ o + 13) σ (up2 (up2 σ (o + 5) (ρ 1).toNat a) (o + 6) (ρ 1).toNat b) := Sme_u (Sme_u Sme_r (by omega)) (by omega)
  have x2 : up2 (up2 σ (o + 5) (ρ 1).toNat a) (o + 6) (ρ 1).toNat b o 2 = ρ 1 := by rw [up2_o (by omega)]; exact x1
  generalize up2 (up2 σ (o + 5) (ρ 1).toNat a) (o + 6) (ρ 1).toNat b = σ2 at H2 S2 x2
  rw [x2]
  with_reducible refine T_ck (by omega) ?_
  refine T_nm ?_
  have x3 : up2 σ2 (o + 7) (ρ 1).toNat 0 o 2 = ρ 1 := by rw [up2_o (by omega)]; exact x2
  rw [x3]
  with_reducible refine T_ck (by omega) ?_
  refine T_nm ?_
  have H4 : HallIs (up2 (up2 σ2 (o + 7) (ρ 1).toNat 0) (o + 8) (ρ 1).toNat (-1)) o (upw (upw (upw (upw (upw ρ (17 + ρ 1).toNat a) (95 + ρ 1).toNat b) (23 + ρ 1).toNat 0) (29 + ρ 1).toNat (-1)) (35 + ρ 1).toNat (-1)) := HU_wi0 (HU_wor H2 h6) h6
  have S4 : Sme (fun k => o ≤ k ∧ k ≤ o + 13) σ (up2 (up2 σ2 (o + 7) (ρ 1).toNat 0) (o + 8) (ρ 1).toNat (-1)) := Sme_u (Sme_u S2 (by omega)) (by omega)
  have x4 : up2 (up2 σ2 (o + 7) (ρ 1).toNat 0) (o + 8) (ρ 1).toNat (-1) o 2 = ρ 1 := by rw [up2_o (by omega)]; exact x3
  generalize up2 (up2 σ2 (o + 7) (ρ 1).toNat 0) (o + 8) (ρ 1).toNat (-1) = σ4 at H4 S4 x4
  rw [x4]
  with_reducible refine T_ck (by omega) ?_
  refine T_nm ?_
  have H5 : HallIs (up2 σ4 (o + 9) (ρ 1).toNat 0) o (upw (upw (upw (upw (upw ρ (17 + ρ 1).toNat a) (95 + ρ 1).toNat b) (23 + ρ 1).toNat 0) (29 + ρ 1).toNat (-1)) (35 + ρ 1).toNat (-1)) := HU_si2 H4 h6 (by rw [upw_n (by omega), upw_s])
  have x5 : up2 σ4 (o + 9) (ρ 1).toNat 0 o 2 = ρ 1 := by rw [up2_o (by omega)]; exact x4
  rw [x5]
  with_reducible refine T_ck (by omega) ?_
  refine T_nm ?_
  have x6 : up2 (up2 σ4 (o + 9) (ρ 1).toNat 0) (o + 10) (ρ 1).toNat 0 o 2 = ρ 1 := by rw [up2_o (by omega)]; exact x5
  rw [x6]
  with_reducible refine T_ck (by omega) ?_
  refine T_nm ?_
  have x7 : up2 (up2 (up2 σ4 (o + 9) (ρ 1).toNat 0) (o + 10) (ρ 1).toNat 0) o 2 (ρ 1 + 1) o 2 = ρ 1 + 1 := by rw [up2_c, upw_s]
  rw [x7]
  with_reducible refine T_ck (by omega) ?_
  refine T_some ⟨Sme_u (Sme_u (Sme_u S4 (by omega)) (by omega)) (by omega), by show ρ 1 + 1 - 1 = ρ 1; omega, ?_⟩
  exact HU_nr (HU_rea H5 h6)
theorem readerR_k {ρ : Nat → Int} {a b : Int} (h6 : 0 ≤ ρ 1 ∧ ρ 1 < 6) : ∀ i, i ≠ 1 → (i < 17 ∨ (47 ≤ i ∧ i < 95) ∨ 101 ≤ i) → readerR ρ a b i = ρ i := by
  intro i h0 hi
  unfold readerR
  rw [upw_n h0, upw_n (by omega), upw_n (by omega), upw_n (by omega), upw_n (by omega), upw_n (by omega), upw_n (by omega)]
theorem readerR_r {ρ : Nat → Int} {a b s : Int} (h6 : 0 ≤ ρ 1 ∧ ρ 1 < 6) (hs : 0 ≤ s ∧ s < 6) :
    readerR ρ a b (17 + s).toNat = (if s = ρ 1 then a else ρ (17 + s).toNat) ∧ readerR ρ a b (95 + s).toNat = (if s = ρ 1 then b else ρ (95 + s).toNat) ∧ readerR ρ a b (23 + s).toNat = (if s = ρ 1 then 0 else ρ (23 + s).toNat) ∧ readerR ρ a b (29 + s).toNat = (if s = ρ 1 then -1 else ρ (29 + s).toNat) ∧ readerR ρ a b (35 + s).toNat = (if s = ρ 1 then -1 else ρ (35 + s).toNat) ∧ readerR ρ a b (41 + s).toNat = (if s = ρ 1 then 0 else ρ (41 + s).toNat) := by
  by_cases e : s = ρ 1
  · simp only [if_pos e]
    unfold readerR
    rw [e]
    refine ⟨?_, ?_, ?_, ?_, ?_, ?_⟩
    · simp (disch := omega) only [upw_n]; rw [upw_s]
    · rw [upw_n (by omega), upw_n (by omega), upw_n (by omega), upw_n (by omega), upw_n (by omega), upw_s]
    · rw [upw_n (by omega), upw_n (by omega), upw_n (by omega), upw_n (by omega), upw_s]
    · rw [upw_n (by omega), upw_n (by omega), upw_n (by omega), upw_s]
    · rw [upw_n (by omega), upw_n (by omega), upw_s]
    · rw [upw_n (by omega), upw_s]
  · simp only [if_neg e]
    unfold readerR
    refine ⟨?_, ?_, ?_, ?_, ?_, ?_⟩ <;> (simp (disch := omega) only [upw_n])
theorem WF_readerR {ρ : Nat → Int} {a b : Int} (hW : WF ρ) (h6 : ρ 1 < 6) (ha : 0 ≤ a ∧ a ≤ 63) (hb : 0 ≤ b ∧ b ≤ 1) : WF (readerR ρ a b) := by
  obtain ⟨⟨h0, h1, h2, h3⟩, ⟨h4, h5, h6', h7, h8'⟩, hB, hR, hU, hI, hV⟩ := hW
  have k := readerR_k (ρ := ρ) (a := a) (b := b) ⟨h1.1, h6⟩
  have rr := fun s => readerR_r (ρ := ρ) (a := a) (b := b) (s := s) ⟨h1.1, h6⟩
  have k1 : readerR ρ a b 1 = ρ 1 + 1 := upw_s
  unfold WF
  rw [k1, k 0 (by omega) (by omega), k 2 (by omega) (by omega), k 3 (by omega) (by omega), k 4 (by omega) (by omega), k 5 (by omega) (by omega), k 6 (by omega) (by omega), k 7 (by omega) (by omega), k 8 (by omega) (by omega)]
  refine ⟨⟨h0, by omega, h2, h3⟩, ⟨h4, h5, h6', h7, h8'⟩, fun x x0 x1 => ?_, fun s s0 s1 => ?_, fun s u s0 s1 u0 u1 => ?_, fun i i0 i1 => ?_, fun i j i0 i1 j0 j1 => ?_⟩
  · rw [k (71 + x).toNat (by omega) (by omega), k (79 + x).toNat (by omega) (by omega), k (87 + x).toNat (by omega) (by omega), k (9 + x).toNat (by omega) (by omega)]
    exact hB x x0 x1
  · obtain ⟨r1, r2, r3, r4, r5, r6⟩ := rr s ⟨s0, by omega⟩
    rw [r1, r2, r3, r4, r5, r6]
    by_cases e : s = ρ 1
    · simp only [if_pos e]
      exact ⟨ha, hb, by omega, by omega, ⟨by omega, by omega, by simp, by simp⟩, by omega⟩
    · simp only [if_neg e]
      exact hR s s0 (by omega)
  · rw [(rr s ⟨s0, by omega⟩).2.2.2.1, (rr u ⟨u0, by omega⟩).2.2.2.1]
    by_cases e : s = ρ 1
    · simp only [if_pos e]; intro _ x; exact absurd rfl x
    · rw [if_neg e]
      by_cases e2 : u = ρ 1
      · rw [if_pos e2]; intro x y; exact absurd x y
      · rw [if_neg e2]; exact hU s u s0 (by omega) u0 (by omega)
  · rw [k (47 + 2 * i).toNat (by omega) (by omega), k (47 + 2 * i + 1).toNat (by omega) (by omega)]
    have g := hI i i0 i1
    exact ⟨g.1, by omega⟩
  · rw [k (47 + 2 * i).toNat (by omega) (by omega), k (47 + 2 * i + 1).toNat (by omega) (by omega), k (47 + 2 * j).toNat (by omega) (by omega), k (47 + 2 * j + 1).toNat (by omega) (by omega)]; exact hV i j i0 i1 j0 j1
/-- the end of a call of the reference that has changed the row: nothing can be undone -/
theorem m_setl {σ : Sg} {v : Int} (hv : 0 ≤ v) : vX10_settled v σ = some (v, up2 (up2 σ 84 8 0) 84 1 0) := by
  rw [m_settled (by omega) (fun h => by omega), if_neg (by omega)]
  unfold anM
  rw [if_neg (by omega)]
theorem s_reader {K : Kt} {σ : Sg} {n a b : Int} (hI : Inv K σ n) (hn : n ≤ 600) : St2 K n (vX9_reader K a b σ) (vX10_reader a b) := by
  obtain ⟨⟨hK, ⟨hW, hH⟩, hL, hU, hD, hT, hM, hC⟩, hS⟩ := id hI
  have g1 : σ 13 2 = σ 86 1 := hH.1.2.1
  have h16 := hW.1.2.1
  have no : ¬ ((0 ≤ a ∧ a ≤ 63) ∧ (0 ≤ b ∧ b ≤ 1)) → St2 K n (vX9_reader K a b σ) (vX10_reader a b) := by
    intro ok
    refine St2_ref hI hn (v := -1) (by omega) ?_ (fun σ1 fr => ?_)
    · unfold vX9_reader vX9_reader_19
      rw [c_within, Option.bind_some, c_within, Option.bind_some, c_refuse (by omega) (InvR_v hS hn (by omega) (by omega)).1]
      by_cases h1 : 0 ≤ a ∧ a ≤ 63
      · rw [if_neg (by rw [bI_t h1]; omega), if_pos (bI_f (fun h => ok ⟨h1, h⟩))]; rfl
      · rw [if_pos (bI_f h1)]; rfl
    · unfold vX10_reader vX10_reader_27
      simp only [nm]
      rw [m_in, Option.bind_some, m_in, Option.bind_some, m_told (by omega) (fun _ => by rw [up2_o (by omega), fr 85 (by omega) (by omega)]; exact (InvR_v hS hn (by omega) (by omega)).2)]
      by_cases h1 : 0 ≤ a ∧ a ≤ 63
      · rw [if_neg (by rw [bI_t h1]; omega), if_pos (bI_f (fun h => ok ⟨h1, h⟩))]; rfl
      · rw [if_pos (bI_f h1)]; rfl
  by_cases ha : 0 ≤ a ∧ a ≤ 63
  · by_cases hb : 0 ≤ b ∧ b ≤ 1
    · by_cases h6 : σ 86 1 < 6
      · obtain ⟨σ6, e6, s6, z2, z3⟩ := c_forget (K := K) (σ := σ) (u := 27)
        have hH6 : HallIs σ6 13 (σ 86) := HallIs_s hH (fun k k1 k2 => s6 k (by omega))
        unfold St2 vX9_reader
        rw [c_within, Option.bind_some]
        refine T_f (by rw [bI_t ha]; omega) ?_
        rw [c_within, Option.bind_some]
        refine T_f (by rw [bI_t hb]; omega) (T_t (by rw [g1]; exact h6) ?_)
        rw [e6, Option.bind_some]
        refine T_bd2 (c_addReader (a := a) (b := b) hH6 ⟨h16.1, h6⟩) (fun r σ8 h => ?_)
        dsimp only at h
        obtain ⟨s8, hr, hH8⟩ := h
        rw [c_grant (by omega)]
        have kk := readerR_k (ρ := σ 86) (a := a) (b := b) ⟨h16.1, h6⟩
        refine T_some (St2_chg (m := vX10_reader a b) hI (v := r) (z := r) (by omega) (fun k hk => ?_) ?_ ?_ hH8 (WF_readerR hW h6 ha hb) (kk 2 (by omega) (by omega)) (kk 3 (by omega) (by omega)) (fun i hi => kk i (by omega) (by omega)) (fun σ1 fr => ?_))
        · rw [s8 k (by omega), s6 k (by omega)]
        · rw [s8 27 (by omega)]; exact z2
        · rw [s8 27 (by omega)]; exact z3
        · unfold vX10_reader
          refine T_nm ?_
          have e86 : up2 σ1 84 0 0 86 = σ 86 := by rw [up2_o (by omega), fr 86 (by omega) (by omega) (by omega) (by omega)]
          rw [m_in, Option.bind_some]
          refine T_f (by rw [bI_t ha]; omega) ?_
          rw [m_in, Option.bind_some]
          refine T_f (by rw [bI_t hb]; omega) (T_nm ?_)
          rw [e86]
          refine T_f (by omega) ?_
          with_reducible refine T_ck (by omega) ?_
          with_reducible refine T_ck (by omega) ?_
          refine T_nm ?_
          with_reducible refine T_ck (by omega) ?_
          with_reducible refine T_ck (by omega) ?_
          refine T_nm ?_
          with_reducible refine T_ck (by omega) ?_
          with_reducible refine T_ck (by omega) ?_
          refine T_nm ?_
          with_reducible refine T_ck (by omega) ?_
          with_reducible refine T_ck (by omega) ?_
          refine T_nm ?_
          with_reducible refine T_ck (by omega) ?_
          with_reducible refine T_ck (by omega) ?_
          refine T_nm ?_
          with_reducible refine T_ck (by omega) ?_
          with_reducible refine T_ck (by omega) ?_
          refine T_nm ?_
          have x1 : up2 (up2 (up2 (up2 (up2 (up2 (up2 σ1 84 0 0) 86 (17 + σ 86 1).toNat a) 86 (95 + σ 86 1).toNat b) 86 (23 + σ 86 1).toNat 0) 86 (29 + σ 86 1).toNat (-1)) 86 (35 + σ 86 1).toNat (-1)) 86 (41 + σ 86 1).toNat 0 86 1 = σ 86 1 := by
            simp only [up2_c]
            rw [upw_n (by omega), upw_n (by omega), upw_n (by omega), upw_n (by omega), upw_n (by omega), upw_n (by omega), e86]
          rw [x1]
          with_reducible refine T_ck (by omega) ?_
          refine T_nm ?_
          rw [m_setl (by omega), bd2_some]
          refine T_some ⟨hr.symm, fun k k1 k2 => ?_, fun j j0 j1 j8 => ?_, ?_, ?_, ?_⟩
          · simp only [up2_o k1, up2_o k2]
          · dsimp only
            rw [up2_c, upw_n j1, up2_c, upw_n j8]
            simp (disch := omega) only [up2_o]
            rw [up2_c, upw_n j0]
          · dsimp only
            rw [up2_c, upw_s]
          · dsimp only
            rw [up2_c, upw_n (by omega), up2_c, upw_s]
          · dsimp only
            rw [up2_o (by omega), up2_o (by omega)]
            simp only [up2_c]
            rw [e86]
            rfl
      · refine St2_ref hI hn (v := -5) (by omega) ?_ (fun σ1 fr => ?_)
        · unfold vX9_reader
          rw [c_within, Option.bind_some, if_neg (by rw [bI_t ha]; omega), c_within, Option.bind_some, if_neg (by rw [bI_t hb]; omega), if_neg (by rw [g1]; exact h6), c_refuse (by omega) (InvR_v hS hn (by omega) (by omega)).1]
          rfl
        · unfold vX10_reader
          simp only [nm]
          have e86 : up2 σ1 84 0 0 86 = σ 86 := by rw [up2_o (by omega), fr 86 (by omega) (by omega)]
          rw [m_in, Option.bind_some, if_neg (by rw [bI_t ha]; omega), m_in, Option.bind_some, if_neg (by rw [bI_t hb]; omega), if_pos (by rw [e86]; omega), m_told (by omega) (fun _ => by rw [up2_o (by omega), fr 85 (by omega) (by omega)]; exact (InvR_v hS hn (by omega) (by omega)).2)]
          rfl
    · exact no (fun h => hb h.2)
  · exact no (fun h => ha h.1)
/-! ===== terms ===== -/
theorem WF_tm {ρ ρ' : Nat → Int} (hW : WF ρ) (e : ∀ i, i < 4 ∨ 8 ≤ i → ρ' i = ρ i) (c4 : 0 ≤ ρ' 4 ∧ ρ' 4 ≤ 999) (c5 : 1 ≤ ρ' 5 ∧ ρ' 5 ≤ 20) (c6 : 0 ≤ ρ' 6 ∧ ρ' 6 ≤ 10) (c7 : 0 ≤ ρ' 7 ∧ ρ' 7 ≤ 9) : WF ρ' := by
  obtain ⟨⟨h0, h1, h2, h3⟩, ⟨h4, h5, h6, h7, h8⟩, hB, hR, hU, hI, hV⟩ := hW
  unfold WF
  rw [e 0 (by omega), e 1 (by omega), e 2 (by omega), e 3 (by omega), e 8 (by omega)]
  refine ⟨⟨h0, h1, h2, h3⟩, ⟨c4, c5, c6, c7, h8⟩, fun c c0 c1 => ?_, fun s s0 s1 => ?_, fun s u s0 s1 u0 u1 => ?_, fun i i0 i1 => ?_, fun i j i0 i1 j0 j1 => ?_⟩
  · rw [e _ (by omega), e _ (by omega), e _ (by omega), e _ (by omega)]; exact hB c c0 c1
  · rw [e (17 + s).toNat (by omega), e (95 + s).toNat (by omega), e (23 + s).toNat (by omega), e (29 + s).toNat (by omega), e (35 + s).toNat (by omega), e (41 + s).toNat (by omega)]
    exact hR s s0 s1
  · rw [e _ (by omega), e _ (by omega)]; exact hU s u s0 s1 u0 u1
  · rw [e _ (by omega), e _ (by omega)]; exact hI i i0 i1
  · rw [e _ (by omega), e _ (by omega), e _ (by omega), e _ (by omega)]; exact hV i j i0 i1 j0 j1
def tmLo (t : Int) : Int := if t = 1 then 1 else 0
def tmHi (t : Int) : Int := if t = 0 then 999 else if t = 1 then 20 else if t = 2 then 10 else 9
theorem WF_trm {ρ : Nat → Int} {t v : Int} (hW : WF ρ) (ht : 0 ≤ t ∧ t < 4) (hv : tmLo t ≤ v ∧ v ≤ tmHi t) : WF (upw ρ (4 + t).toNat v) := by
  obtain ⟨⟨h0, h1, h2, h3⟩, ⟨h4, h5, h6, h7, h8⟩, -⟩ := id hW
  unfold tmLo tmHi at hv
  obtain h | h | h | h : t = 0 ∨ t = 1 ∨ t = 2 ∨ t = 3 := by omega
  · subst h
    simp only [if_pos, if_neg (show ¬ (0 : Int) = 1 by omega)] at hv
    exact WF_tm hW (fun i hi => upw_n (by omega)) (by show 0 ≤ upw ρ 4 v 4 ∧ upw ρ 4 v 4 ≤ 999; rw [upw_s]; exact hv) h5 h6 h7
  · subst h
    simp only [if_pos, if_neg (show ¬ (1 : Int) = 0 by omega)] at hv
    exact WF_tm hW (fun i hi => upw_n (by omega)) h4 (by show 1 ≤ upw ρ 5 v 5 ∧ upw ρ 5 v 5 ≤ 20; rw [upw_s]; exact hv) h6 h7
  · subst h
    simp only [if_pos, if_neg (show ¬ (2 : Int) = 0 by omega), if_neg (show ¬ (2 : Int) = 1 by omega)] at hv
    exact WF_tm hW (fun i hi => upw_n (by omega)) h4 h5 (by show 0 ≤ upw ρ 6 v 6 ∧ upw ρ 6 v 6 ≤ 10; rw [upw_s]; exact hv) h7
  · subst h
    simp only [if_neg (show ¬ (3 : Int) = 0 by omega), if_neg (show ¬ (3 : Int) = 1 by omega), if_neg (show ¬ (3 : Int) = 2 by omega)] at hv
    exact WF_tm hW (fun i hi => upw_n (by omega)) h4 h5 h6 (by show 0 ≤ upw ρ 7 v 7 ∧ upw ρ 7 v 7 ≤ 9; rw [upw_s]; exact hv)
theorem HU_trm {σ : Sg} {ρ : Nat → Int} {t v : Int} (h : HallIs σ 13 ρ) (ht : 0 ≤ t ∧ t < 4) : HallIs (up2 σ 26 t.toNat v) 13 (upw ρ (4 + t).toNat v) := by
  obtain e | e | e | e : t = 0 ∨ t = 1 ∨ t = 2 ∨ t = 3 := by omega
  · subst e; exact HU_t0 h
  · subst e; exact HU_t1 h
  · subst e; exact HU_t2 h
  · subst e; exact HU_t3 h
theorem trm_get {σ : Sg} {ρ : Nat → Int} {t : Int} (h : HallIs σ 13 ρ) (ht : 0 ≤ t ∧ t < 4) : σ 26 t.toNat = ρ (4 + t).toNat := by
  obtain e | e | e | e : t = 0 ∨ t = 1 ∨ t = 2 ∨ t = 3 := by omega
  · subst e; exact h.2.2.2.2.1
  · subst e; exact h.2.2.2.2.2.1
  · subst e; exact h.2.2.2.2.2.2.1
  · subst e; exact h.2.2.2.2.2.2.2
theorem stV_lo {t : Int} (ht : 0 ≤ t ∧ t < 4) : stV 0 t.toNat = tmLo t ∧ stV 1 t.toNat = tmHi t := by
  obtain e | e | e | e : t = 0 ∨ t = 1 ∨ t = 2 ∨ t = 3 := by omega
  · subst e; exact ⟨rfl, rfl⟩
  · subst e; exact ⟨rfl, rfl⟩
  · subst e; exact ⟨rfl, rfl⟩
  · subst e; exact ⟨rfl, rfl⟩
theorem m_terms {σ : Sg} {t v : Int} : vX10_terms t v σ = nm (up2 σ 84 0 0) (fun σ1 => vX10_terms_77 t v (bI ((0 ≤ t ∧ t < 4) ∧ tmLo t ≤ v ∧ v ≤ tmHi t)) σ1) := by
  unfold vX10_terms
  simp only [nm, m_in, Option.bind_some]
  by_cases h0 : t = 0
  · rw [if_pos h0]; subst h0
    rw [bI_c (show (0 ≤ v ∧ v ≤ 999) ↔ ((0 ≤ (0 : Int) ∧ (0 : Int) < 4) ∧ tmLo 0 ≤ v ∧ v ≤ tmHi 0) by show _ ↔ (_ ∧ (0 : Int) ≤ v ∧ v ≤ 999); omega)]
  · rw [if_neg h0]
    by_cases h1 : t = 1
    · rw [if_pos h1]; subst h1
      rw [bI_c (show (1 ≤ v ∧ v ≤ 20) ↔ ((0 ≤ (1 : Int) ∧ (1 : Int) < 4) ∧ tmLo 1 ≤ v ∧ v ≤ tmHi 1) by show _ ↔ (_ ∧ (1 : Int) ≤ v ∧ v ≤ 20); omega)]
    · rw [if_neg h1]
      by_cases h2 : t = 2
      · rw [if_pos h2]; subst h2
        rw [bI_c (show (0 ≤ v ∧ v ≤ 10) ↔ ((0 ≤ (2 : Int) ∧ (2 : Int) < 4) ∧ tmLo 2 ≤ v ∧ v ≤ tmHi 2) by show _ ↔ (_ ∧ (0 : Int) ≤ v ∧ v ≤ 10); omega)]
      · rw [if_neg h2]
        by_cases h3 : t = 3
        · rw [if_pos h3]; subst h3
          rw [bI_c (show ((0 ≤ (3 : Int) ∧ (3 : Int) < 4) ∧ tmLo 3 ≤ v ∧ v ≤ tmHi 3) ↔ (0 ≤ v ∧ v ≤ 9) by show (_ ∧ (0 : Int) ≤ v ∧ v ≤ 9) ↔ _; omega)]
          by_cases h4 : 0 ≤ v ∧ v ≤ 9
          · rw [if_neg (by rw [bI_t h4]; omega), bI_t h4]
          · rw [if_pos (bI_f h4), bI_f h4]; rfl
        · rw [if_neg h3, bI_f (by omega)]; rfl
theorem s_terms {K : Kt} {σ : Sg} {n t v : Int} (hI : Inv K σ n) (hn : n ≤ 600) : St2 K n (vX9_terms K t v σ) (vX10_terms t v) := by
  obtain ⟨⟨hK, ⟨hW, hH⟩, hL, hU, hD, hT, hM, hC⟩, hS⟩ := id hI
  obtain ⟨⟨h0, h1, h2, h3⟩, ⟨h4, h5, h6, h7, h8⟩, -⟩ := id hW
  by_cases ht : 0 ≤ t ∧ t < 4
  · by_cases hv : tmLo t ≤ v ∧ v ≤ tmHi t
    · obtain ⟨σ6, e6, s6, z2, z3⟩ := c_forget (K := K) (σ := σ) (u := 27)
      have hH6 : HallIs σ6 13 (σ 86) := HallIs_s hH (fun k k1 k2 => s6 k (by omega))
      have hg := trm_get hH ht
      have hz : 0 ≤ σ 86 (4 + t).toNat := by
        obtain e | e | e | e : t = 0 ∨ t = 1 ∨ t = 2 ∨ t = 3 := by omega
        · subst e; exact h4.1
        · subst e; show 0 ≤ σ 86 5; omega
        · subst e; exact h6.1
        · subst e; exact h7.1
      have hlo := stV_lo ht
      unfold St2 vX9_terms
      rw [c_within, Option.bind_some]
      refine T_f (by rw [bI_t (by omega)]; omega) ?_
      with_reducible refine T_ck (by omega) ?_
      with_reducible refine T_ck (by omega) ?_
      rw [c_within, Option.bind_some, hlo.1, hlo.2]
      refine T_f (by rw [bI_t hv]; omega) ?_
      with_reducible refine T_ck (by omega) ?_
      refine T_nm ?_
      rw [e6, Option.bind_some, hg]
      with_reducible refine T_ck (by omega) ?_
      refine T_nm ?_
      rw [c_grant hz, bd2_some]
      have kk : ∀ i, i < 4 ∨ 8 ≤ i → upw (σ 86) (4 + t).toNat v i = σ 86 i := fun i hi => upw_n (by omega)
      refine T_some (St2_chg (m := vX10_terms t v) hI (z := σ 86 (4 + t).toNat) hz (fun k hk => ?_) ?_ ?_ (HU_trm hH6 ht) (WF_trm hW ht hv) (kk 2 (by omega)) (kk 3 (by omega)) (fun i hi => kk i (by omega)) (fun σ1 fr => ?_))
      · rw [up2_o (by omega), s6 k (by omega)]
      · rw [up2_o (by omega)]; exact z2
      · rw [up2_o (by omega)]; exact z3
      · rw [m_terms]
        refine T_nm ?_
        rw [bI_t ⟨ht, hv⟩]
        unfold vX10_terms_77 vX10_change
        have e86 : up2 (up2 σ1 84 0 0) 84 8 0 86 = σ 86 := by rw [up2_o (by omega), up2_o (by omega), fr 86 (by omega) (by omega) (by omega) (by omega)]
        refine T_f (by decide) (T_nm ?_)
        with_reducible refine T_ck (by omega) ?_
        refine T_bd2 (R := fun p => p = (σ 86 (4 + t).toNat, up2 (up2 (up2 (up2 σ1 84 0 0) 84 8 0) 86 (4 + t).toNat v) 84 1 0)) ?_ (fun r σ5 h => ?_)
        · repeat (with_reducible first | refine T_ck (by omega) ?_ | refine T_nm ?_)
          rw [e86]
          exact T_some rfl
        · have hr : r = _ := congrArg Prod.fst h
          have hs : σ5 = _ := congrArg Prod.snd h
          rw [hs]
          refine T_some ⟨hr, fun k k1 k2 => ?_, fun j j0 j1 j8 => ?_, ?_, ?_, ?_⟩
          · simp only [up2_o k1, up2_o k2]
          · dsimp only
            rw [up2_c, upw_n j1, up2_o (by omega), up2_c, upw_n j8, up2_c, upw_n j0]
          · dsimp only
            rw [up2_c, upw_s]
          · dsimp only
            rw [up2_c, upw_n (by omega), up2_o (by omega), up2_c, upw_s]
          · dsimp only
            rw [up2_o (by omega), up2_c, e86]
    · refine St2_ref hI hn (v := -1) (by omega) ?_ (fun σ1 fr => ?_)
      · have hlo := stV_lo ht
        unfold vX9_terms vX9_terms_26
        rw [c_within, Option.bind_some, if_neg (by rw [bI_t (by omega)]; omega), ck_p (by omega), ck_p (by omega), c_within, Option.bind_some, hlo.1, hlo.2, if_pos (bI_f hv), c_refuse (by omega) (InvR_v hS hn (by omega) (by omega)).1]
        rfl
      · rw [m_terms]
        unfold vX10_terms_77
        simp only [nm]
        rw [if_pos (bI_f (fun h => hv h.2)), m_told (by omega) (fun _ => by rw [up2_o (by omega), fr 85 (by omega) (by omega)]; exact (InvR_v hS hn (by omega) (by omega)).2)]
        rfl
  · refine St2_ref hI hn (v := -1) (by omega) ?_ (fun σ1 fr => ?_)
    · unfold vX9_terms vX9_terms_26
      rw [c_within, Option.bind_some, if_pos (bI_f (by omega)), c_refuse (by omega) (InvR_v hS hn (by omega) (by omega)).1]
      rfl
    · rw [m_terms]
      unfold vX10_terms_77
      simp only [nm]
      rw [if_pos (bI_f (fun h => ht h.1)), m_told (by omega) (fun _ => by rw [up2_o (by omega), fr 85 (by omega) (by omega)]; exact (InvR_v hS hn (by omega) (by omega)).2)]
      rfl
