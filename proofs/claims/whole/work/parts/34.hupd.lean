/-! ===== a hall and a row, one word anew in both ===== -/
theorem upw_sh {f ρ : Nat → Int} {c : Nat} {r x v : Int} (hr : 0 ≤ r) (hx : 0 ≤ x) (h : f x.toNat = ρ ((c : Int) + x).toNat) : upw f r.toNat v x.toNat = upw ρ ((c : Int) + r).toNat v ((c : Int) + x).toNat := by
  unfold upw
  by_cases e : x = r
  · rw [if_pos (by rw [e]), if_pos (by rw [e])]
  · rw [if_neg (by omega), if_neg (by omega)]; exact h
theorem upw_sh2 {f ρ : Nat → Int} {c : Nat} {r x v : Int} (hr : 0 ≤ r) (hx : 0 ≤ x) (h : f x.toNat = ρ ((c : Int) + 2 * x).toNat) : upw f r.toNat v x.toNat = upw ρ ((c : Int) + 2 * r).toNat v ((c : Int) + 2 * x).toNat := by
  unfold upw
  by_cases e : x = r
  · rw [if_pos (by rw [e]), if_pos (by rw [e])]
  · rw [if_neg (by omega), if_neg (by omega)]; exact h
theorem upw_sh3 {f ρ : Nat → Int} {c : Nat} {r x v : Int} (hr : 0 ≤ r) (hx : 0 ≤ x) (h : f x.toNat = ρ ((c : Int) + 2 * x + 1).toNat) : upw f r.toNat v x.toNat = upw ρ ((c : Int) + 2 * r + 1).toNat v ((c : Int) + 2 * x + 1).toNat := by
  unfold upw
  by_cases e : x = r
  · rw [if_pos (by rw [e]), if_pos (by rw [e])]
  · rw [if_neg (by omega), if_neg (by omega)]; exact h
theorem HU_len {σ : Sg} {o : Nat} {ρ : Nat → Int} {i v : Int} (h : HallIs σ o ρ) (hi : 0 ≤ i ∧ i < 8) : HallIs (up2 σ (o + 1) i.toNat v) o (upw ρ (71 + i).toNat v) := by
  obtain ⟨⟨g0, g1, g8⟩, gB, gR, gI, g4, g5, g6, g7⟩ := h
  refine ⟨⟨?_, ?_, ?_⟩, fun b h1 h2 => ?_, fun r h1 h2 => ?_, fun i h1 h2 => ?_, ?_, ?_, ?_, ?_⟩
  · simp (disch := omega) only [up2_o, upw_n]; assumption
  · simp (disch := omega) only [up2_o, upw_n]; assumption
  · simp (disch := omega) only [up2_o, upw_n]; assumption
  · have g := gB b h1 h2
    obtain ⟨x0, x1, x2, x3⟩ := g
    exact ⟨by rw [up2_c]; exact upw_sh (c := 71) hi.1 h1 x0, by simp (disch := omega) only [up2_o, upw_n]; exact x1, by simp (disch := omega) only [up2_o, upw_n]; exact x2, by simp (disch := omega) only [up2_o, upw_n]; exact x3⟩
  · have g := gR r h1 h2
    simp (disch := omega) only [up2_o, upw_n]; exact g
  · have g := gI i h1 h2
    simp (disch := omega) only [up2_o, upw_n]; exact g
  · simp (disch := omega) only [up2_o, upw_n]; assumption
  · simp (disch := omega) only [up2_o, upw_n]; assumption
  · simp (disch := omega) only [up2_o, upw_n]; assumption
  · simp (disch := omega) only [up2_o, upw_n]; assumption
theorem HU_wan {σ : Sg} {o : Nat} {ρ : Nat → Int} {i v : Int} (h : HallIs σ o ρ) (hi : 0 ≤ i ∧ i < 8) : HallIs (up2 σ (o + 2) i.toNat v) o (upw ρ (79 + i).toNat v) := by
  obtain ⟨⟨g0, g1, g8⟩, gB, gR, gI, g4, g5, g6, g7⟩ := h
  refine ⟨⟨?_, ?_, ?_⟩, fun b h1 h2 => ?_, fun r h1 h2 => ?_, fun i h1 h2 => ?_, ?_, ?_, ?_, ?_⟩
  · simp (disch := omega) only [up2_o, upw_n]; assumption
  · simp (disch := omega) only [up2_o, upw_n]; assumption
  · simp (disch := omega) only [up2_o, upw_n]; assumption
  · have g := gB b h1 h2
    obtain ⟨x0, x1, x2, x3⟩ := g
    exact ⟨by simp (disch := omega) only [up2_o, upw_n]; exact x0, by rw [up2_c]; exact upw_sh (c := 79) hi.1 h1 x1, by simp (disch := omega) only [up2_o, upw_n]; exact x2, by simp (disch := omega) only [up2_o, upw_n]; exact x3⟩
  · have g := gR r h1 h2
    simp (disch := omega) only [up2_o, upw_n]; exact g
  · have g := gI i h1 h2
    simp (disch := omega) only [up2_o, upw_n]; exact g
  · simp (disch := omega) only [up2_o, upw_n]; assumption
  · simp (disch := omega) only [up2_o, upw_n]; assumption
  · simp (disch := omega) only [up2_o, upw_n]; assumption
  · simp (disch := omega) only [up2_o, upw_n]; assumption
theorem HU_giv {σ : Sg} {o : Nat} {ρ : Nat → Int} {i v : Int} (h : HallIs σ o ρ) (hi : 0 ≤ i ∧ i < 8) : HallIs (up2 σ (o + 3) i.toNat v) o (upw ρ (87 + i).toNat v) := by
  obtain ⟨⟨g0, g1, g8⟩, gB, gR, gI, g4, g5, g6, g7⟩ := h
  refine ⟨⟨?_, ?_, ?_⟩, fun b h1 h2 => ?_, fun r h1 h2 => ?_, fun i h1 h2 => ?_, ?_, ?_, ?_, ?_⟩
  · simp (disch := omega) only [up2_o, upw_n]; assumption
  · simp (disch := omega) only [up2_o, upw_n]; assumption
  · simp (disch := omega) only [up2_o, upw_n]; assumption
  · have g := gB b h1 h2
    obtain ⟨x0, x1, x2, x3⟩ := g
    exact ⟨by simp (disch := omega) only [up2_o, upw_n]; exact x0, by simp (disch := omega) only [up2_o, upw_n]; exact x1, by rw [up2_c]; exact upw_sh (c := 87) hi.1 h1 x2, by simp (disch := omega) only [up2_o, upw_n]; exact x3⟩
  · have g := gR r h1 h2
    simp (disch := omega) only [up2_o, upw_n]; exact g
  · have g := gI i h1 h2
    simp (disch := omega) only [up2_o, upw_n]; exact g
  · simp (disch := omega) only [up2_o, upw_n]; assumption
  · simp (disch := omega) only [up2_o, upw_n]; assumption
  · simp (disch := omega) only [up2_o, upw_n]; assumption
  · simp (disch := omega) only [up2_o, upw_n]; assumption
theorem HU_pur {σ : Sg} {o : Nat} {ρ : Nat → Int} {i v : Int} (h : HallIs σ o ρ) (hi : 0 ≤ i ∧ i < 8) : HallIs (up2 σ (o + 4) i.toNat v) o (upw ρ (9 + i).toNat v) := by
  obtain ⟨⟨g0, g1, g8⟩, gB, gR, gI, g4, g5, g6, g7⟩ := h
  refine ⟨⟨?_, ?_, ?_⟩, fun b h1 h2 => ?_, fun r h1 h2 => ?_, fun i h1 h2 => ?_, ?_, ?_, ?_, ?_⟩
  · simp (disch := omega) only [up2_o, upw_n]; assumption
  · simp (disch := omega) only [up2_o, upw_n]; assumption
  · simp (disch := omega) only [up2_o, upw_n]; assumption
  · have g := gB b h1 h2
    obtain ⟨x0, x1, x2, x3⟩ := g
    exact ⟨by simp (disch := omega) only [up2_o, upw_n]; exact x0, by simp (disch := omega) only [up2_o, upw_n]; exact x1, by simp (disch := omega) only [up2_o, upw_n]; exact x2, by rw [up2_c]; exact upw_sh (c := 9) hi.1 h1 x3⟩
  · have g := gR r h1 h2
    simp (disch := omega) only [up2_o, upw_n]; exact g
  · have g := gI i h1 h2
    simp (disch := omega) only [up2_o, upw_n]; exact g
  · simp (disch := omega) only [up2_o, upw_n]; assumption
  · simp (disch := omega) only [up2_o, upw_n]; assumption
  · simp (disch := omega) only [up2_o, upw_n]; assumption
  · simp (disch := omega) only [up2_o, upw_n]; assumption
theorem HU_tra {σ : Sg} {o : Nat} {ρ : Nat → Int} {i v : Int} (h : HallIs σ o ρ) (hi : 0 ≤ i ∧ i < 6) : HallIs (up2 σ (o + 5) i.toNat v) o (upw ρ (17 + i).toNat v) := by
  obtain ⟨⟨g0, g1, g8⟩, gB, gR, gI, g4, g5, g6, g7⟩ := h
  refine ⟨⟨?_, ?_, ?_⟩, fun b h1 h2 => ?_, fun r h1 h2 => ?_, fun i h1 h2 => ?_, ?_, ?_, ?_, ?_⟩
  · simp (disch := omega) only [up2_o, upw_n]; assumption
  · simp (disch := omega) only [up2_o, upw_n]; assumption
  · simp (disch := omega) only [up2_o, upw_n]; assumption
  · have g := gB b h1 h2
    simp (disch := omega) only [up2_o, upw_n]; exact g
  · have g := gR r h1 h2
    obtain ⟨x0, x1, x2, x3, x4, x5⟩ := g
    exact ⟨by rw [up2_c]; exact upw_sh (c := 17) hi.1 h1 x0, by simp (disch := omega) only [up2_o, upw_n]; exact x1, by simp (disch := omega) only [up2_o, upw_n]; exact x2, by simp (disch := omega) only [up2_o, upw_n]; exact x3, by simp (disch := omega) only [up2_o, upw_n]; exact x4, by simp (disch := omega) only [up2_o, upw_n]; exact x5⟩
  · have g := gI i h1 h2
    simp (disch := omega) only [up2_o, upw_n]; exact g
  · simp (disch := omega) only [up2_o, upw_n]; assumption
  · simp (disch := omega) only [up2_o, upw_n]; assumption
  · simp (disch := omega) only [up2_o, upw_n]; assumption
  · simp (disch := omega) only [up2_o, upw_n]; assumption
theorem HU_rar {σ : Sg} {o : Nat} {ρ : Nat → Int} {i v : Int} (h : HallIs σ o ρ) (hi : 0 ≤ i ∧ i < 6) : HallIs (up2 σ (o + 6) i.toNat v) o (upw ρ (95 + i).toNat v) := by
  obtain ⟨⟨g0, g1, g8⟩, gB, gR, gI, g4, g5, g6, g7⟩ := h
  refine ⟨⟨?_, ?_, ?_⟩, fun b h1 h2 => ?_, fun r h1 h2 => ?_, fun i h1 h2 => ?_, ?_, ?_, ?_, ?_⟩
  · simp (disch := omega) only [up2_o, upw_n]; assumption
  · simp (disch := omega) only [up2_o, upw_n]; assumption
  · simp (disch := omega) only [up2_o, upw_n]; assumption
  · have g := gB b h1 h2
    simp (disch := omega) only [up2_o, upw_n]; exact g
  · have g := gR r h1 h2
    obtain ⟨x0, x1, x2, x3, x4, x5⟩ := g
    exact ⟨by simp (disch := omega) only [up2_o, upw_n]; exact x0, by rw [up2_c]; exact upw_sh (c := 95) hi.1 h1 x1, by simp (disch := omega) only [up2_o, upw_n]; exact x2, by simp (disch := omega) only [up2_o, upw_n]; exact x3, by simp (disch := omega) only [up2_o, upw_n]; exact x4, by simp (disch := omega) only [up2_o, upw_n]; exact x5⟩
  · have g := gI i h1 h2
    simp (disch := omega) only [up2_o, upw_n]; exact g
  · simp (disch := omega) only [up2_o, upw_n]; assumption
  · simp (disch := omega) only [up2_o, upw_n]; assumption
  · simp (disch := omega) only [up2_o, upw_n]; assumption
  · simp (disch := omega) only [up2_o, upw_n]; assumption
theorem HU_wor {σ : Sg} {o : Nat} {ρ : Nat → Int} {i v : Int} (h : HallIs σ o ρ) (hi : 0 ≤ i ∧ i < 6) : HallIs (up2 σ (o + 7) i.toNat v) o (upw ρ (23 + i).toNat v) := by
  obtain ⟨⟨g0, g1, g8⟩, gB, gR, gI, g4, g5, g6, g7⟩ := h
  refine ⟨⟨?_, ?_, ?_⟩, fun b h1 h2 => ?_, fun r h1 h2 => ?_, fun i h1 h2 => ?_, ?_, ?_, ?_, ?_⟩
  · simp (disch := omega) only [up2_o, upw_n]; assumption
  · simp (disch := omega) only [up2_o, upw_n]; assumption
  · simp (disch := omega) only [up2_o, upw_n]; assumption
  · have g := gB b h1 h2
    simp (disch := omega) only [up2_o, upw_n]; exact g
  · have g := gR r h1 h2
    obtain ⟨x0, x1, x2, x3, x4, x5⟩ := g
    exact ⟨by simp (disch := omega) only [up2_o, upw_n]; exact x0, by simp (disch := omega) only [up2_o, upw_n]; exact x1, by rw [up2_c]; exact upw_sh (c := 23) hi.1 h1 x2, by simp (disch := omega) only [up2_o, upw_n]; exact x3, by simp (disch := omega) only [up2_o, upw_n]; exact x4, by simp (disch := omega) only [up2_o, upw_n]; exact x5⟩
  · have g := gI i h1 h2
    simp (disch := omega) only [up2_o, upw_n]; exact g
  · simp (disch := omega) only [up2_o, upw_n]; assumption
  · simp (disch := omega) only [up2_o, upw_n]; assumption
  · simp (disch := omega) only [up2_o, upw_n]; assumption
  · simp (disch := omega) only [up2_o, upw_n]; assumption
theorem HU_rea {σ : Sg} {o : Nat} {ρ : Nat → Int} {i v : Int} (h : HallIs σ o ρ) (hi : 0 ≤ i ∧ i < 6) : HallIs (up2 σ (o + 10) i.toNat v) o (upw ρ (41 + i).toNat v) := by
  obtain ⟨⟨g0, g1, g8⟩, gB, gR, gI, g4, g5, g6, g7⟩ := h
  refine ⟨⟨?_, ?_, ?_⟩, fun b h1 h2 => ?_, fun r h1 h2 => ?_, fun i h1 h2 => ?_, ?_, ?_, ?_, ?_⟩
  · simp (disch := omega) only [up2_o, upw_n]; assumption
  · simp (disch := omega) only [up2_o, upw_n]; assumption
  · simp (disch := omega) only [up2_o, upw_n]; assumption
  · have g := gB b h1 h2
    simp (disch := omega) only [up2_o, upw_n]; exact g
  · have g := gR r h1 h2
    obtain ⟨x0, x1, x2, x3, x4, x5⟩ := g
    exact ⟨by simp (disch := omega) only [up2_o, upw_n]; exact x0, by simp (disch := omega) only [up2_o, upw_n]; exact x1, by simp (disch := omega) only [up2_o, upw_n]; exact x2, by simp (disch := omega) only [up2_o, upw_n]; exact x3, by simp (disch := omega) only [up2_o, upw_n]; exact x4, by rw [up2_c]; exact upw_sh (c := 41) hi.1 h1 x5⟩
  · have g := gI i h1 h2
    simp (disch := omega) only [up2_o, upw_n]; exact g
  · simp (disch := omega) only [up2_o, upw_n]; assumption
  · simp (disch := omega) only [up2_o, upw_n]; assumption
  · simp (disch := omega) only [up2_o, upw_n]; assumption
  · simp (disch := omega) only [up2_o, upw_n]; assumption
theorem HU_wbo {σ : Sg} {o : Nat} {ρ : Nat → Int} {i v : Int} (h : HallIs σ o ρ) (hi : 0 ≤ i ∧ i < 12) : HallIs (up2 σ (o + 11) i.toNat v) o (upw ρ (47 + 2 * i).toNat v) := by
  obtain ⟨⟨g0, g1, g8⟩, gB, gR, gI, g4, g5, g6, g7⟩ := h
  refine ⟨⟨?_, ?_, ?_⟩, fun b h1 h2 => ?_, fun r h1 h2 => ?_, fun j h1 h2 => ?_, ?_, ?_, ?_, ?_⟩
  · simp (disch := omega) only [up2_o, upw_n]; assumption
  · simp (disch := omega) only [up2_o, upw_n]; assumption
  · simp (disch := omega) only [up2_o, upw_n]; assumption
  · have g := gB b h1 h2
    simp (disch := omega) only [up2_o, upw_n]; exact g
  · have g := gR r h1 h2
    simp (disch := omega) only [up2_o, upw_n]; exact g
  · obtain ⟨x0, x1⟩ := gI j h1 h2
    exact ⟨by rw [up2_c]; exact upw_sh2 (c := 47) hi.1 h1 x0, by simp (disch := omega) only [up2_o, upw_n]; exact x1⟩
  · simp (disch := omega) only [up2_o, upw_n]; assumption
  · simp (disch := omega) only [up2_o, upw_n]; assumption
  · simp (disch := omega) only [up2_o, upw_n]; assumption
  · simp (disch := omega) only [up2_o, upw_n]; assumption
theorem HU_wre {σ : Sg} {o : Nat} {ρ : Nat → Int} {i v : Int} (h : HallIs σ o ρ) (hi : 0 ≤ i ∧ i < 12) : HallIs (up2 σ (o + 12) i.toNat v) o (upw ρ (47 + 2 * i + 1).toNat v) := by
  obtain ⟨⟨g0, g1, g8⟩, gB, gR, gI, g4, g5, g6, g7⟩ := h
  refine ⟨⟨?_, ?_, ?_⟩, fun b h1 h2 => ?_, fun r h1 h2 => ?_, fun j h1 h2 => ?_, ?_, ?_, ?_, ?_⟩
  · simp (disch := omega) only [up2_o, upw_n]; assumption
  · simp (disch := omega) only [up2_o, upw_n]; assumption
  · simp (disch := omega) only [up2_o, upw_n]; assumption
  · have g := gB b h1 h2
    simp (disch := omega) only [up2_o, upw_n]; exact g
  · have g := gR r h1 h2
    simp (disch := omega) only [up2_o, upw_n]; exact g
  · obtain ⟨x0, x1⟩ := gI j h1 h2
    exact ⟨by simp (disch := omega) only [up2_o, upw_n]; exact x0, by rw [up2_c]; exact upw_sh3 (c := 47) hi.1 h1 x1⟩
  · simp (disch := omega) only [up2_o, upw_n]; assumption
  · simp (disch := omega) only [up2_o, upw_n]; assumption
  · simp (disch := omega) only [up2_o, upw_n]; assumption
  · simp (disch := omega) only [up2_o, upw_n]; assumption
theorem HU_nb {σ : Sg} {o : Nat} {ρ : Nat → Int} {v : Int} (h : HallIs σ o ρ) : HallIs (up2 σ o 1 v) o (upw ρ 0 v) := by
  obtain ⟨⟨g0, g1, g8⟩, gB, gR, gI, g4, g5, g6, g7⟩ := h
  refine ⟨⟨?_, ?_, ?_⟩, fun b h1 h2 => ?_, fun r h1 h2 => ?_, fun j h1 h2 => ?_, ?_, ?_, ?_, ?_⟩
  · rw [up2_c, upw_s, upw_s]
  · rw [up2_c]; simp (disch := omega) only [up2_o, upw_n]; exact g1
  · rw [up2_c]; simp (disch := omega) only [up2_o, upw_n]; exact g8
  · have g := gB b h1 h2
    simp (disch := omega) only [up2_o, upw_n]; exact g
  · have g := gR r h1 h2
    simp (disch := omega) only [up2_o, upw_n]; exact g
  · have g := gI j h1 h2
    simp (disch := omega) only [up2_o, upw_n]; exact g
  · simp (disch := omega) only [up2_o, upw_n]; exact g4
  · simp (disch := omega) only [up2_o, upw_n]; exact g5
  · simp (disch := omega) only [up2_o, upw_n]; exact g6
  · simp (disch := omega) only [up2_o, upw_n]; exact g7
theorem HU_nr {σ : Sg} {o : Nat} {ρ : Nat → Int} {v : Int} (h : HallIs σ o ρ) : HallIs (up2 σ o 2 v) o (upw ρ 1 v) := by
  obtain ⟨⟨g0, g1, g8⟩, gB, gR, gI, g4, g5, g6, g7⟩ := h
  refine ⟨⟨?_, ?_, ?_⟩, fun b h1 h2 => ?_, fun r h1 h2 => ?_, fun j h1 h2 => ?_, ?_, ?_, ?_, ?_⟩
  · rw [up2_c]; simp (disch := omega) only [up2_o, upw_n]; exact g0
  · rw [up2_c, upw_s, upw_s]
  · rw [up2_c]; simp (disch := omega) only [up2_o, upw_n]; exact g8
  · have g := gB b h1 h2
    simp (disch := omega) only [up2_o, upw_n]; exact g
  · have g := gR r h1 h2
    simp (disch := omega) only [up2_o, upw_n]; exact g
  · have g := gI j h1 h2
    simp (disch := omega) only [up2_o, upw_n]; exact g
  · simp (disch := omega) only [up2_o, upw_n]; exact g4
  · simp (disch := omega) only [up2_o, upw_n]; exact g5
  · simp (disch := omega) only [up2_o, upw_n]; exact g6
  · simp (disch := omega) only [up2_o, upw_n]; exact g7
theorem HU_nw {σ : Sg} {o : Nat} {ρ : Nat → Int} {v : Int} (h : HallIs σ o ρ) : HallIs (up2 σ o 3 v) o (upw ρ 8 v) := by
  obtain ⟨⟨g0, g1, g8⟩, gB, gR, gI, g4, g5, g6, g7⟩ := h
  refine ⟨⟨?_, ?_, ?_⟩, fun b h1 h2 => ?_, fun r h1 h2 => ?_, fun j h1 h2 => ?_, ?_, ?_, ?_, ?_⟩
  · rw [up2_c]; simp (disch := omega) only [up2_o, upw_n]; exact g0
  · rw [up2_c]; simp (disch := omega) only [up2_o, upw_n]; exact g1
  · rw [up2_c, upw_s, upw_s]
  · have g := gB b h1 h2
    simp (disch := omega) only [up2_o, upw_n]; exact g
  · have g := gR r h1 h2
    simp (disch := omega) only [up2_o, upw_n]; exact g
  · have g := gI j h1 h2
    simp (disch := omega) only [up2_o, upw_n]; exact g
  · simp (disch := omega) only [up2_o, upw_n]; exact g4
  · simp (disch := omega) only [up2_o, upw_n]; exact g5
  · simp (disch := omega) only [up2_o, upw_n]; exact g6
  · simp (disch := omega) only [up2_o, upw_n]; exact g7
theorem HU_t0 {σ : Sg} {o : Nat} {ρ : Nat → Int} {v : Int} (h : HallIs σ o ρ) : HallIs (up2 σ (o + 13) 0 v) o (upw ρ 4 v) := by
  obtain ⟨⟨g0, g1, g8⟩, gB, gR, gI, g4, g5, g6, g7⟩ := h
  refine ⟨⟨?_, ?_, ?_⟩, fun b h1 h2 => ?_, fun r h1 h2 => ?_, fun j h1 h2 => ?_, ?_, ?_, ?_, ?_⟩
  · simp (disch := omega) only [up2_o, upw_n]; exact g0
  · simp (disch := omega) only [up2_o, upw_n]; exact g1
  · simp (disch := omega) only [up2_o, upw_n]; exact g8
  · have g := gB b h1 h2
    simp (disch := omega) only [up2_o, upw_n]; exact g
  · have g := gR r h1 h2
    simp (disch := omega) only [up2_o, upw_n]; exact g
  · have g := gI j h1 h2
    simp (disch := omega) only [up2_o, upw_n]; exact g
  · rw [up2_c, upw_s, upw_s]
  · rw [up2_c]; simp (disch := omega) only [up2_o, upw_n]; exact g5
  · rw [up2_c]; simp (disch := omega) only [up2_o, upw_n]; exact g6
  · rw [up2_c]; simp (disch := omega) only [up2_o, upw_n]; exact g7
theorem HU_t1 {σ : Sg} {o : Nat} {ρ : Nat → Int} {v : Int} (h : HallIs σ o ρ) : HallIs (up2 σ (o + 13) 1 v) o (upw ρ 5 v) := by
  obtain ⟨⟨g0, g1, g8⟩, gB, gR, gI, g4, g5, g6, g7⟩ := h
  refine ⟨⟨?_, ?_, ?_⟩, fun b h1 h2 => ?_, fun r h1 h2 => ?_, fun j h1 h2 => ?_, ?_, ?_, ?_, ?_⟩
  · simp (disch := omega) only [up2_o, upw_n]; exact g0
  · simp (disch := omega) only [up2_o, upw_n]; exact g1
  · simp (disch := omega) only [up2_o, upw_n]; exact g8
  · have g := gB b h1 h2
    simp (disch := omega) only [up2_o, upw_n]; exact g
  · have g := gR r h1 h2
    simp (disch := omega) only [up2_o, upw_n]; exact g
  · have g := gI j h1 h2
    simp (disch := omega) only [up2_o, upw_n]; exact g
  · rw [up2_c]; simp (disch := omega) only [up2_o, upw_n]; exact g4
  · rw [up2_c, upw_s, upw_s]
  · rw [up2_c]; simp (disch := omega) only [up2_o, upw_n]; exact g6
  · rw [up2_c]; simp (disch := omega) only [up2_o, upw_n]; exact g7
theorem HU_t2 {σ : Sg} {o : Nat} {ρ : Nat → Int} {v : Int} (h : HallIs σ o ρ) : HallIs (up2 σ (o + 13) 2 v) o (upw ρ 6 v) := by
  obtain ⟨⟨g0, g1, g8⟩, gB, gR, gI, g4, g5, g6, g7⟩ := h
  refine ⟨⟨?_, ?_, ?_⟩, fun b h1 h2 => ?_, fun r h1 h2 => ?_, fun j h1 h2 => ?_, ?_, ?_, ?_, ?_⟩
  · simp (disch := omega) only [up2_o, upw_n]; exact g0
  · simp (disch := omega) only [up2_o, upw_n]; exact g1
  · simp (disch := omega) only [up2_o, upw_n]; exact g8
  · have g := gB b h1 h2
    simp (disch := omega) only [up2_o, upw_n]; exact g
  · have g := gR r h1 h2
    simp (disch := omega) only [up2_o, upw_n]; exact g
  · have g := gI j h1 h2
    simp (disch := omega) only [up2_o, upw_n]; exact g
  · rw [up2_c]; simp (disch := omega) only [up2_o, upw_n]; exact g4
  · rw [up2_c]; simp (disch := omega) only [up2_o, upw_n]; exact g5
  · rw [up2_c, upw_s, upw_s]
  · rw [up2_c]; simp (disch := omega) only [up2_o, upw_n]; exact g7
theorem HU_t3 {σ : Sg} {o : Nat} {ρ : Nat → Int} {v : Int} (h : HallIs σ o ρ) : HallIs (up2 σ (o + 13) 3 v) o (upw ρ 7 v) := by
  obtain ⟨⟨g0, g1, g8⟩, gB, gR, gI, g4, g5, g6, g7⟩ := h
  refine ⟨⟨?_, ?_, ?_⟩, fun b h1 h2 => ?_, fun r h1 h2 => ?_, fun j h1 h2 => ?_, ?_, ?_, ?_, ?_⟩
  · simp (disch := omega) only [up2_o, upw_n]; exact g0
  · simp (disch := omega) only [up2_o, upw_n]; exact g1
  · simp (disch := omega) only [up2_o, upw_n]; exact g8
  · have g := gB b h1 h2
    simp (disch := omega) only [up2_o, upw_n]; exact g
  · have g := gR r h1 h2
    simp (disch := omega) only [up2_o, upw_n]; exact g
  · have g := gI j h1 h2
    simp (disch := omega) only [up2_o, upw_n]; exact g
  · rw [up2_c]; simp (disch := omega) only [up2_o, upw_n]; exact g4
  · rw [up2_c]; simp (disch := omega) only [up2_o, upw_n]; exact g5
  · rw [up2_c]; simp (disch := omega) only [up2_o, upw_n]; exact g6
  · rw [up2_c, upw_s, upw_s]
theorem HU_sin {σ : Sg} {o : Nat} {ρ : Nat → Int} {i v : Int} (h : HallIs σ o ρ) (hi : 0 ≤ i ∧ i < 6) : HallIs (up2 σ (o + 9) i.toNat v) o (upw ρ (35 + i).toNat v) := by
  obtain ⟨⟨g0, g1, g8⟩, gB, gR, gI, g4, g5, g6, g7⟩ := h
  refine ⟨⟨?_, ?_, ?_⟩, fun b h1 h2 => ?_, fun r h1 h2 => ?_, fun j h1 h2 => ?_, ?_, ?_, ?_, ?_⟩
  · simp (disch := omega) only [up2_o, upw_n]; assumption
  · simp (disch := omega) only [up2_o, upw_n]; assumption
  · simp (disch := omega) only [up2_o, upw_n]; assumption
  · have g := gB b h1 h2
    simp (disch := omega) only [up2_o, upw_n]; exact g
  · obtain ⟨x0, x1, x2, x3, x4, x5⟩ := gR r h1 h2
    refine ⟨by simp (disch := omega) only [up2_o, upw_n]; exact x0, by simp (disch := omega) only [up2_o, upw_n]; exact x1, by simp (disch := omega) only [up2_o, upw_n]; exact x2, by simp (disch := omega) only [up2_o, upw_n]; exact x3, ?_, by simp (disch := omega) only [up2_o, upw_n]; exact x5⟩
    rw [up2_c, upw_n (by omega)]
    intro hne
    exact upw_sh (c := 35) hi.1 h1 (x4 hne)
  · have g := gI j h1 h2
    simp (disch := omega) only [up2_o, upw_n]; exact g
  · simp (disch := omega) only [up2_o, upw_n]; assumption
  · simp (disch := omega) only [up2_o, upw_n]; assumption
  · simp (disch := omega) only [up2_o, upw_n]; assumption
  · simp (disch := omega) only [up2_o, upw_n]; assumption
/-- a reader goes to the desk: the class lets since be -/
theorem HU_wi0 {σ : Sg} {o : Nat} {ρ : Nat → Int} {i z : Int} (h : HallIs σ o ρ) (hi : 0 ≤ i ∧ i < 6) : HallIs (up2 σ (o + 8) i.toNat (-1)) o (upw (upw ρ (29 + i).toNat (-1)) (35 + i).toNat z) := by
  obtain ⟨⟨g0, g1, g8⟩, gB, gR, gI, g4, g5, g6, g7⟩ := h
  refine ⟨⟨?_, ?_, ?_⟩, fun b h1 h2 => ?_, fun r h1 h2 => ?_, fun j h1 h2 => ?_, ?_, ?_, ?_, ?_⟩
  · simp (disch := omega) only [up2_o, upw_n]; assumption
  · simp (disch := omega) only [up2_o, upw_n]; assumption
  · simp (disch := omega) only [up2_o, upw_n]; assumption
  · have g := gB b h1 h2
    simp (disch := omega) only [up2_o, upw_n]; exact g
  · obtain ⟨x0, x1, x2, x3, x4, x5⟩ := gR r h1 h2
    refine ⟨by simp (disch := omega) only [up2_o, upw_n]; exact x0, by simp (disch := omega) only [up2_o, upw_n]; exact x1, by simp (disch := omega) only [up2_o, upw_n]; exact x2, ?_, ?_, by simp (disch := omega) only [up2_o, upw_n]; exact x5⟩
    · rw [up2_c, upw_n (i := (29 + r).toNat) (by omega)]
      exact upw_sh (c := 29) hi.1 h1 x3
    · rw [up2_o (by omega), upw_n (i := (29 + r).toNat) (by omega)]
      intro hne
      by_cases e : r = i
      · rw [e, upw_s] at hne; exact absurd rfl hne
      · rw [upw_n (by omega)] at hne
        rw [upw_n (by omega), upw_n (by omega)]
        exact x4 hne
  · have g := gI j h1 h2
    simp (disch := omega) only [up2_o, upw_n]; exact g
  · simp (disch := omega) only [up2_o, upw_n]; assumption
  · simp (disch := omega) only [up2_o, upw_n]; assumption
  · simp (disch := omega) only [up2_o, upw_n]; assumption
  · simp (disch := omega) only [up2_o, upw_n]; assumption
/-- a reader goes to a book -/
theorem HU_wi1 {σ : Sg} {o : Nat} {ρ : Nat → Int} {i b z : Int} (h : HallIs σ o ρ) (hi : 0 ≤ i ∧ i < 6) : HallIs (up2 (up2 σ (o + 8) i.toNat b) (o + 9) i.toNat z) o (upw (upw ρ (29 + i).toNat b) (35 + i).toNat z) := by
  obtain ⟨⟨g0, g1, g8⟩, gB, gR, gI, g4, g5, g6, g7⟩ := h
  refine ⟨⟨?_, ?_, ?_⟩, fun b h1 h2 => ?_, fun r h1 h2 => ?_, fun j h1 h2 => ?_, ?_, ?_, ?_, ?_⟩
  · simp (disch := omega) only [up2_o, upw_n]; assumption
  · simp (disch := omega) only [up2_o, upw_n]; assumption
  · simp (disch := omega) only [up2_o, upw_n]; assumption
  · have g := gB b h1 h2
    simp (disch := omega) only [up2_o, upw_n]; exact g
  · obtain ⟨x0, x1, x2, x3, x4, x5⟩ := gR r h1 h2
    refine ⟨by simp (disch := omega) only [up2_o, upw_n]; exact x0, by simp (disch := omega) only [up2_o, upw_n]; exact x1, by simp (disch := omega) only [up2_o, upw_n]; exact x2, ?_, ?_, by simp (disch := omega) only [up2_o, upw_n]; exact x5⟩
    · rw [up2_o (by omega), up2_c, upw_n (i := (29 + r).toNat) (by omega)]
      exact upw_sh (c := 29) hi.1 h1 x3
    · rw [up2_c, up2_o (by omega), upw_n (i := (29 + r).toNat) (by omega)]
      intro hne
      by_cases e : r = i
      · rw [e, upw_s, upw_s]
      · rw [upw_n (by omega)] at hne
        rw [upw_n (by omega), upw_n (by omega), upw_n (by omega)]
        exact x4 hne
  · have g := gI j h1 h2
    simp (disch := omega) only [up2_o, upw_n]; exact g
  · simp (disch := omega) only [up2_o, upw_n]; assumption
  · simp (disch := omega) only [up2_o, upw_n]; assumption
  · simp (disch := omega) only [up2_o, upw_n]; assumption
  · simp (disch := omega) only [up2_o, upw_n]; assumption
