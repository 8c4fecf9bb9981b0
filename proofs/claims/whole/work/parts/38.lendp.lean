/-! ===== rows behind a leaving ===== -/
theorem lv_lo {ρ : Nat → Int} {r b a t p : Int} {i : Nat} (hr : 0 ≤ r) (hb : 0 ≤ b) (hi : i < 9) : lvR ρ r b a t p i = ρ i := by
  unfold lvR
  simp (disch := omega) only [upw_n]
theorem lv_hi {ρ : Nat → Int} {r b a t p : Int} {i : Nat} (hr : 0 ≤ r ∧ r < 6) (hb : 0 ≤ b ∧ b < 8) (hi : 47 ≤ i) : lvR ρ r b a t p i = ρ i := by
  unfold lvR
  simp (disch := omega) only [upw_n]
theorem lv_9 {ρ : Nat → Int} {r b a t p c : Int} (hr : 0 ≤ r ∧ r < 6) (hb : 0 ≤ b ∧ b < 8) (hc : 0 ≤ c ∧ c < 8) : lvR ρ r b a t p (9 + c).toNat = if c = b then ρ (9 + b).toNat - p else ρ (9 + c).toNat := by
  unfold lvR
  rw [upw_n (by omega), upw_n (by omega)]
  by_cases h : c = b
  · rw [if_pos h, h, upw_s]
  · rw [if_neg h]
    simp (disch := omega) only [upw_n]
theorem lv_17 {ρ : Nat → Int} {r b a t p s : Int} (hr : 0 ≤ r ∧ r < 6) (hb : 0 ≤ b ∧ b < 8) (hs : 0 ≤ s ∧ s < 6) : lvR ρ r b a t p (17 + s).toNat = if s = r then t else ρ (17 + s).toNat := by
  unfold lvR
  rw [upw_n (by omega), upw_n (by omega), upw_n (by omega)]
  by_cases h : s = r
  · rw [if_pos h, h, upw_s]
  · rw [if_neg h]
    simp (disch := omega) only [upw_n]
theorem lv_23 {ρ : Nat → Int} {r b a t p s : Int} (hr : 0 ≤ r ∧ r < 6) (hb : 0 ≤ b ∧ b < 8) (hs : 0 ≤ s ∧ s < 6) : lvR ρ r b a t p (23 + s).toNat = ρ (23 + s).toNat := by
  unfold lvR
  simp (disch := omega) only [upw_n]
theorem lv_29 {ρ : Nat → Int} {r b a t p s : Int} (hr : 0 ≤ r ∧ r < 6) (hb : 0 ≤ b ∧ b < 8) (hs : 0 ≤ s ∧ s < 6) : lvR ρ r b a t p (29 + s).toNat = if s = r then -1 else ρ (29 + s).toNat := by
  unfold lvR
  rw [upw_n (by omega)]
  by_cases h : s = r
  · rw [if_pos h, h, upw_s]
  · rw [if_neg h]
    simp (disch := omega) only [upw_n]
theorem lv_35 {ρ : Nat → Int} {r b a t p s : Int} (hr : 0 ≤ r ∧ r < 6) (hb : 0 ≤ b ∧ b < 8) (hs : 0 ≤ s ∧ s < 6) : lvR ρ r b a t p (35 + s).toNat = if s = r then -1 else ρ (35 + s).toNat := by
  unfold lvR
  by_cases h : s = r
  · rw [if_pos h, h, upw_s]
  · rw [if_neg h]
    simp (disch := omega) only [upw_n]
theorem lv_41 {ρ : Nat → Int} {r b a t p s : Int} (hr : 0 ≤ r ∧ r < 6) (hb : 0 ≤ b ∧ b < 8) (hs : 0 ≤ s ∧ s < 6) : lvR ρ r b a t p (41 + s).toNat = if s = r then a else ρ (41 + s).toNat := by
  unfold lvR
  rw [upw_n (by omega), upw_n (by omega), upw_n (by omega), upw_n (by omega)]
  by_cases h : s = r
  · rw [if_pos h, h, upw_s]
  · rw [if_neg h]
    simp (disch := omega) only [upw_n]
theorem WF_lvR {ρ : Nat → Int} {r b a t p : Int} (hW : WF ρ) (hr : 0 ≤ r ∧ r < ρ 1) (hb : 0 ≤ b ∧ b < ρ 0) (ha : 0 ≤ a ∧ a ≤ 255) (ht : 0 ≤ t ∧ t ≤ 63) (hp : 0 ≤ p ∧ p ≤ ρ (9 + b).toNat) : WF (lvR ρ r b a t p) := by
  obtain ⟨⟨h0, h1, h2, h3⟩, ⟨h4, h5, h6, h7, h8⟩, hB, hR, hU, hI, hV⟩ := hW
  have r6 : 0 ≤ r ∧ r < 6 := by omega
  have b8 : 0 ≤ b ∧ b < 8 := by omega
  have lo : ∀ i, i < 9 → lvR ρ r b a t p i = ρ i := fun i hi => lv_lo (by omega) (by omega) hi
  have hi : ∀ i, 47 ≤ i → lvR ρ r b a t p i = ρ i := fun i hi => lv_hi r6 b8 hi
  unfold WF
  rw [lo 0 (by omega), lo 1 (by omega), lo 2 (by omega), lo 3 (by omega), lo 4 (by omega), lo 5 (by omega), lo 6 (by omega), lo 7 (by omega), lo 8 (by omega)]
  refine ⟨⟨h0, h1, h2, h3⟩, ⟨h4, h5, h6, h7, h8⟩, fun c c0 c1 => ?_, fun s s0 s1 => ?_, fun s u s0 s1 u0 u1 => ?_, fun i i0 i1 => ?_, fun i j i0 i1 j0 j1 => ?_⟩
  · have g := hB c c0 c1
    have gb := hB b hb.1 hb.2
    rw [hi _ (by omega), hi _ (by omega), hi _ (by omega), lv_9 r6 b8 (by omega)]
    split <;> omega
  · have g := hR s s0 s1
    rw [lv_17 r6 b8 (by omega), hi (95 + s).toNat (by omega), lv_23 r6 b8 (by omega), lv_29 r6 b8 (by omega), lv_35 r6 b8 (by omega), lv_41 r6 b8 (by omega)]
    by_cases e : s = r
    · simp only [if_pos e]
      exact ⟨by omega, by omega, by omega, by omega, ⟨by omega, by omega, by simp, by simp⟩, by omega⟩
    · simp only [if_neg e]; exact g
  · rw [lv_29 r6 b8 (by omega), lv_29 r6 b8 (by omega)]
    by_cases e : s = r
    · simp only [if_pos e]; intro _ x; exact absurd rfl x
    · rw [if_neg e]
      by_cases e2 : u = r
      · rw [if_pos e2]; intro x y; exact absurd x y
      · rw [if_neg e2]; exact hU s u s0 s1 u0 u1
  · rw [hi _ (by omega), hi _ (by omega)]; exact hI i i0 i1
  · rw [hi _ (by omega), hi _ (by omega), hi _ (by omega), hi _ (by omega)]; exact hV i j i0 i1 j0 j1
theorem payS_rg {D : Int → (Nat → Int) → Option Int} {ρ : Nat → Int} {r : Int} (hW : WF ρ) (hr : 0 ≤ r ∧ r < ρ 1) : 0 ≤ payS D ρ r ∧ payS D ρ r ≤ 999 ∧ (ρ (29 + r).toNat ≠ -1 → payS D ρ r ≤ ρ (9 + ρ (29 + r).toNat).toNat) := by
  have hR := hW.2.2.2.1 r hr.1 hr.2
  unfold payS
  by_cases hb : ρ (29 + r).toNat = -1
  · rw [if_pos hb]; exact ⟨by omega, by omega, fun h => absurd hb h⟩
  · rw [if_neg hb]
    have hB := hW.2.2.1 (ρ (29 + r).toNat) (by omega) (by omega)
    have := dueS_rg (ρ := ρ) (r := r) (f := askS D ρ 0 (ρ (29 + r).toNat) r (ρ (17 + r).toNat)) (by omega) askS_0.1
    exact ⟨by omega, by omega, fun _ => by omega⟩
/-- leaving: either nothing, or one of those rows -/
theorem leaveR_c {D : Int → (Nat → Int) → Option Int} {ρ : Nat → Int} {r : Int} (hW : WF ρ) (hr : 0 ≤ r ∧ r < ρ 1) : (ρ (29 + r).toNat = -1 ∧ leaveR D ρ r = ρ) ∨ ∃ b a t p, leaveR D ρ r = lvR ρ r b a t p ∧ b = ρ (29 + r).toNat ∧ (0 ≤ b ∧ b < ρ 0) ∧ (0 ≤ a ∧ a ≤ 255) ∧ (0 ≤ t ∧ t ≤ 63) ∧ (0 ≤ p ∧ p ≤ ρ (9 + b).toNat) := by
  have hR := hW.2.2.2.1 r hr.1 hr.2
  have h08 := hW.1.1
  unfold leaveR
  by_cases hb : ρ (29 + r).toNat = -1
  · rw [if_pos hb]; exact Or.inl ⟨hb, rfl⟩
  · rw [if_neg hb]
    have hB := hW.2.2.1 (ρ (29 + r).toNat) (by omega) (by omega)
    have hp := payS_rg (D := D) hW hr
    have hs := bShl_r (b := ρ (29 + r).toNat) (by omega)
    have o1 := bOr_255 (a := ρ (41 + r).toNat) (b := bShl 1 (ρ (29 + r).toNat)) (by omega) (by omega)
    have o2 := bOr_63 (a := ρ (17 + r).toNat) (b := ρ (87 + ρ (29 + r).toNat).toNat) (by omega) (by omega)
    by_cases hd : dnS D ρ r
    · rw [if_pos hd]
      exact Or.inr ⟨_, _, _, _, rfl, rfl, by omega, o1, o2, by omega, hp.2.2 hb⟩
    · rw [if_neg hd]
      exact Or.inr ⟨_, _, _, _, rfl, rfl, by omega, by omega, by omega, by omega, hp.2.2 hb⟩
theorem WF_leave {D : Int → (Nat → Int) → Option Int} {ρ : Nat → Int} {r : Int} (hW : WF ρ) (hr : 0 ≤ r ∧ r < ρ 1) : WF (leaveR D ρ r) := by
  rcases leaveR_c (D := D) hW hr with ⟨-, e⟩ | ⟨b, a, t, p, e, eb, hb, ha, ht, hp⟩
  · rw [e]; exact hW
  · rw [e]; exact WF_lvR hW hr hb ha ht hp
/-- what leaving lets be -/
theorem leaveR_k {D : Int → (Nat → Int) → Option Int} {ρ : Nat → Int} {r : Int} (hW : WF ρ) (hr : 0 ≤ r ∧ r < ρ 1) : (∀ i, i < 9 ∨ 47 ≤ i → leaveR D ρ r i = ρ i) ∧ (∀ s : Int, 0 ≤ s → s < 6 → leaveR D ρ r (23 + s).toNat = ρ (23 + s).toNat ∧ (s ≠ r → leaveR D ρ r (29 + s).toNat = ρ (29 + s).toNat)) ∧ leaveR D ρ r (29 + r).toNat = -1 ∧ (∀ c : Int, 0 ≤ c → c < 8 → c ≠ ρ (29 + r).toNat → leaveR D ρ r (9 + c).toNat = ρ (9 + c).toNat) := by
  have h08 := hW.1.1
  have h16 := hW.1.2.1
  rcases leaveR_c (D := D) hW hr with ⟨h, e⟩ | ⟨b, a, t, p, e, eb, hb, ha, ht, hp⟩
  · rw [e]; exact ⟨fun _ _ => rfl, fun _ _ _ => ⟨rfl, fun _ => rfl⟩, h, fun _ _ _ _ => rfl⟩
  · rw [e]
    refine ⟨fun i hi => ?_, fun s s0 s1 => ⟨lv_23 (by omega) (by omega) (by omega), fun hs => ?_⟩, ?_, fun c c0 c1 hc => ?_⟩
    · rcases hi with hi | hi
      · exact lv_lo (by omega) (by omega) hi
      · exact lv_hi (by omega) (by omega) hi
    · rw [lv_29 (by omega) (by omega) (by omega), if_neg hs]
    · rw [lv_29 (by omega) (by omega) (by omega), if_pos rfl]
    · rw [lv_9 (by omega) (by omega) (by omega), if_neg (by omega)]
/-! ===== whether a book can have a reader ===== -/
def fitP (ρ : Nat → Int) (b t : Int) : Prop := bAnd (ρ (79 + b).toNat) (bXor t (-1)) = 0
def canP (D : Int → (Nat → Int) → Option Int) (ρ : Nat → Int) (b r : Int) : Prop := wthN ρ b ∧ ρ (29 + r).toNat = -1 ∧ ρ (95 + r).toNat = 0 ∧ ρ (23 + r).toNat < 99 ∧ fitP ρ b (ρ (17 + r).toNat) ∧ askS D ρ 3 b r (ρ (17 + r).toNat) = 0
def lendP (D : Int → (Nat → Int) → Option Int) (ρ : Nat → Int) (r b : Int) : Prop := wthN ρ b ∧ canP D (leaveR D ρ r) b r
theorem m_isIn (a b : Int) (σ : Sg) : vX10_isIn a b σ = some (bI (bAnd a (bXor b (-1)) = 0)) := by
  unfold vX10_isIn
  by_cases h : bAnd a (bXor b (-1)) = 0
  · rw [if_pos h, bI_t h]
  · rw [if_neg h, bI_f h]
theorem m_isFitting {σ : Sg} {b r : Int} (hb : 0 ≤ b ∧ b < 8) (hr : 0 ≤ r ∧ r < 6) : vX10_isFitting b r σ = some (bI (fitP (σ 86) b (σ 86 (17 + r).toNat))) := by
  unfold vX10_isFitting
  rw [ck_p (by omega), ck_p (by omega), ck_p (by omega), ck_p (by omega), m_isIn, Option.bind_some, ck_p (bI_01 _)]
  rfl
theorem m_canHave {σ : Sg} {D : Int → (Nat → Int) → Option Int} {b r : Int} (hW : WF (σ 86)) (hD : LawM (σ 86) D) (h20 : σ 84 20 = 0) (hb : 0 ≤ b ∧ b < σ 86 0) (hr : 0 ≤ r ∧ r < σ 86 1) :
    T (vX10_canHave b r σ) (fun p => ScM σ p.2 ∧ p.1 = bI (canP D (σ 86) b r)) := by
  obtain ⟨⟨h0, h1, h2, h3⟩, -⟩ := id hW
  unfold vX10_canHave
  refine T_bind (m_readerWith hW (by omega)) (fun z hz => ?_)
  have no : ∀ {P : Prop}, ¬ P → (fun p : Int × Sg => ScM σ p.2 ∧ p.1 = bI P) (0, σ) := fun h => ⟨ScM_r, (bI_f h).symm⟩
  refine T_ite (fun hz1 => ?_) (fun hz1 => ?_)
  · have hw : wthN (σ 86) b := by rcases hz with ⟨_, h⟩ | ⟨h, _⟩; exact h; omega
    repeat (with_reducible first | refine T_ck (by omega) ?_ | refine T_nm ?_)
    refine T_ite (fun c1 => ?_) (fun c1 => T_some (no (fun h => c1 h.2.1)))
    repeat (with_reducible first | refine T_ck (by omega) ?_ | refine T_nm ?_)
    refine T_ite (fun c2 => ?_) (fun c2 => T_some (no (fun h => c2 h.2.2.1)))
    repeat (with_reducible first | refine T_ck (by omega) ?_ | refine T_nm ?_)
    refine T_ite (fun c3 => ?_) (fun c3 => T_some (no (fun h => c3 h.2.2.2.1)))
    rw [m_isFitting (by omega) (by omega), Option.bind_some]
    refine T_ite (fun c4 => T_some (no (fun h => bI_0.mp c4 h.2.2.2.2.1))) (fun c4 => ?_)
    have c4 : fitP (σ 86) b (σ 86 (17 + r).toNat) := Classical.not_not.mp (fun h => c4 (bI_0.mpr h))
    refine T_bd2 (m_isBarred hW hD h20 hb hr) (fun y σ1 h => ?_)
    dsimp only at h
    obtain ⟨hS, hy, hy2⟩ := h
    refine T_ite (fun c5 => T_some ⟨hS, ?_⟩) (fun c5 => T_some ⟨hS, ?_⟩)
    · exact (bI_t ⟨hw, c1, c2, c3, c4, by omega⟩).symm
    · exact (bI_f (fun h => c5 (by rw [hy]; exact h.2.2.2.2.2))).symm
  · refine T_some (no (fun h => ?_))
    rcases hz with ⟨h, _⟩ | ⟨a1, a2, a3⟩
    · exact hz1 h
    · exact h.1 z a1 a2 a3
/-! ===== the class's refusal ===== -/
theorem lw_leave {D : Int → (Nat → Int) → Option Int} {ρ : Nat → Int} {r b t : Int} (hW : WF ρ) (hr : 0 ≤ r ∧ r < ρ 1) (hb : 0 ≤ b ∧ b < ρ 0) (hw : wthN ρ b) : lw (leaveR D ρ r) b r t = lw ρ b r t := by
  obtain ⟨k1, k2, k3, k4⟩ := leaveR_k (D := D) hW hr
  have h08 := hW.1.1
  have h16 := hW.1.2.1
  have hrb := hw r hr.1 hr.2
  funext j
  match j with
  | 0 => rfl
  | 1 => exact k1 _ (by omega)
  | 2 => exact k4 b (by omega) (by omega) (by omega)
  | 3 => rfl
  | 4 => rfl
  | 5 => exact (k2 r (by omega) (by omega)).1
  | 6 =>
    show (if leaveR D ρ r (29 + r).toNat = b then _ else _) = (if ρ (29 + r).toNat = b then _ else _)
    rw [k3, if_neg (by omega), if_neg hrb]
  | 7 => exact k1 4 (by omega)
  | 8 => exact k1 7 (by omega)
  | j + 9 => rfl
theorem lendP_e {D : Int → (Nat → Int) → Option Int} {ρ : Nat → Int} {r b : Int} (hW : WF ρ) (hr : 0 ≤ r ∧ r < ρ 1) (hb : 0 ≤ b ∧ b < ρ 0) : lendP D ρ r b ↔ wthN ρ b ∧ ρ (95 + r).toNat = 0 ∧ ρ (23 + r).toNat < 99 ∧ fitP ρ b (leaveR D ρ r (17 + r).toNat) ∧ askS D ρ 3 b r (leaveR D ρ r (17 + r).toNat) = 0 := by
  obtain ⟨k1, k2, k3, k4⟩ := leaveR_k (D := D) hW hr
  have h08 := hW.1.1
  have h16 := hW.1.2.1
  unfold lendP canP fitP
  rw [k3, k1 (95 + r).toNat (by omega), (k2 r (by omega) (by omega)).1, k1 (79 + b).toNat (by omega)]
  constructor
  · rintro ⟨a, -, -, c, d, e, f⟩
    refine ⟨a, c, d, e, ?_⟩
    unfold askS at f ⊢
    rw [lw_leave hW hr hb a] at f
    exact f
  · rintro ⟨a, c, d, e, f⟩
    refine ⟨a, ?_, rfl, c, d, e, ?_⟩
    · intro s s0 s1
      rw [k1 1 (by omega)] at s1
      by_cases es : s = r
      · rw [es, k3]; omega
      · rw [(k2 s (by omega) (by omega)).2 es]; exact a s s0 s1
    · unfold askS at f ⊢
      rw [lw_leave hW hr hb a]
      exact f
theorem leave_17 {D : Int → (Nat → Int) → Option Int} {ρ : Nat → Int} {r : Int} (hW : WF ρ) (hr : 0 ≤ r ∧ r < ρ 1) : leaveR D ρ r (17 + r).toNat = if ρ (29 + r).toNat = -1 then ρ (17 + r).toNat else @ite _ (dnS D ρ r) (Classical.propDecidable _) (bOr (ρ (17 + r).toNat) (ρ (87 + ρ (29 + r).toNat).toNat)) (ρ (17 + r).toNat) := by
  have hR := hW.2.2.2.1 r hr.1 hr.2
  have h08 := hW.1.1
  have h16 := hW.1.2.1
  unfold leaveR
  by_cases hb : ρ (29 + r).toNat = -1
  · rw [if_pos hb, if_pos hb]
  · rw [if_neg hb, if_neg hb]
    by_cases hd : dnS D ρ r
    · rw [if_pos hd, if_pos hd, lv_17 (by omega) (by omega) (by omega), if_pos rfl]
    · rw [if_neg hd, if_neg hd, lv_17 (by omega) (by omega) (by omega), if_pos rfl]
theorem c_traitsBehind {K : Kt} {o : Nat} {σ : Sg} {ρ : Nat → Int} {D : Int → (Nat → Int) → Option Int} {r : Int} (ho : 12 < o) (hH : HallIs σ o ρ) (hW : WF ρ) (hD : LawC K σ (σ 1 5) D) (hr : 0 ≤ r ∧ r < ρ 1) :
    T (vX1_traitsBehind K o r σ) (fun p => Sme (fun k => k = 11 ∨ k = 12) σ p.2 ∧ p.1 = leaveR D ρ r (17 + r).toNat) := by
  have hR := hW.2.2.2.1 r hr.1 hr.2
  obtain ⟨⟨h0, h1, h2, h3⟩, ⟨h4, h5, h6, h7, h8⟩, -⟩ := id hW
  obtain ⟨⟨g0, g1, g8⟩, gB, gR, gI, g4, g5, g6, g7⟩ := id hH
  have gR := gR r (by omega) (by omega)
  rw [leave_17 hW hr]
  unfold vX1_traitsBehind
  repeat (with_reducible first | refine T_ck (by omega) ?_ | refine T_nm ?_)
  rw [h_hasBook, Option.bind_some, gR.2.2.2.1, g0]
  by_cases hb : ρ (29 + r).toNat = -1
  · rw [if_pos hb]
    refine T_t (bI_f (by omega)) ?_
    with_reducible refine T_ck (by omega) ?_
    exact T_some ⟨Sme_r, gR.1⟩
  · rw [if_neg hb]
    refine T_f (by rw [bI_t (by omega)]; omega) ?_
    repeat (with_reducible first | refine T_ck (by omega) ?_ | refine T_nm ?_)
    rw [gR.1]
    refine T_bd2 (l_asked ho hH hW hD (by omega) (by omega) hr (by omega)) (fun z σ1 h => ?_)
    dsimp only at h
    obtain ⟨hS, hz⟩ := h
    have hH1 := HallIs_k ho hH hS
    have gR1 := hH1.2.2.1 r (by omega) (by omega)
    have gB1 := hH1.2.1 (ρ (29 + r).toNat) (by omega) (by omega)
    rw [c_readsThrough hH1 hW hr hb, Option.bind_some]
    refine T_ite (fun hlt => ?_) (fun hlt => ?_)
    · have hd : ¬ dnS D ρ r := by rw [bI_0] at hlt; unfold dnS; rw [← hz]; exact hlt
      rw [if_neg hd]
      with_reducible refine T_ck (by omega) ?_
      exact T_some ⟨hS, gR1.1⟩
    · have hd : dnS D ρ r := by rw [bI_0] at hlt; unfold dnS; rw [← hz]; exact Classical.not_not.mp hlt
      rw [if_pos hd]
      repeat (with_reducible first | refine T_ck (by omega) ?_ | refine T_nm ?_)
      rw [gR1.1, gB1.2.2.1]
      exact T_some ⟨hS, rfl⟩
theorem c_fits {K : Kt} {o : Nat} {σ : Sg} {ρ : Nat → Int} {b t : Int} (hH : HallIs σ o ρ) (hb : 0 ≤ b ∧ b < 8) : vX1_fits K o t b σ = some (bI (fitP ρ b t)) := by
  unfold vX1_fits fitP
  rw [ck_p (by omega), (hH.2.1 b hb.1 hb.2).2.1]
  by_cases h : bAnd (ρ (79 + b).toNat) (bXor t (-1)) = 0
  · rw [if_pos h, bI_t h]
  · rw [if_neg h, bI_f h]
noncomputable def lref (D : Int → (Nat → Int) → Option Int) (ρ : Nat → Int) (r b : Int) : Int := if (0 ≤ r ∧ r < ρ 1) ∧ (0 ≤ b ∧ b < ρ 0) then @ite _ (lendP D ρ r b) (Classical.propDecidable _) 0 (-3) else -2
theorem c_lendRefusal {K : Kt} {o : Nat} {σ : Sg} {ρ : Nat → Int} {D : Int → (Nat → Int) → Option Int} {r b : Int} (ho : 12 < o) (hO : LwO K (fun k => k = 11 ∨ k = 12)) (hH : HallIs σ o ρ) (hW : WF ρ) (hD : LawC K σ (σ 1 5) D) :
    T (vX1_lendRefusal K o r b σ) (fun p => Sme (fun k => k = 11 ∨ k = 12) σ p.2 ∧ p.1 = lref D ρ r b) := by
  obtain ⟨⟨g0, g1, g8⟩, gB, gR, gI, g4, g5, g6, g7⟩ := id hH
  obtain ⟨⟨h0, h1, h2, h3⟩, ⟨h4, h5, h6, h7, h8⟩, -⟩ := id hW
  unfold vX1_lendRefusal
  rw [h_hasReader, Option.bind_some, g1]
  by_cases hr : 0 ≤ r ∧ r < ρ 1
  · refine T_f (by rw [bI_t hr]; omega) ?_
    rw [h_hasBook, Option.bind_some, g0]
    by_cases hb : 0 ≤ b ∧ b < ρ 0
    · refine T_f (by rw [bI_t hb]; omega) ?_
      have hR := hW.2.2.2.1 r hr.1 hr.2
      have gR := gR r (by omega) (by omega)
      have el : lref D ρ r b = @ite _ (lendP D ρ r b) (Classical.propDecidable _) 0 (-3) := if_pos ⟨hr, hb⟩
      rw [el]
      have eP := lendP_e (D := D) hW hr hb
      have no : ∀ σ' : Sg, Sme (fun k => k = 11 ∨ k = 12) σ σ' → ¬ lendP D ρ r b → (fun p : Int × Sg => Sme (fun k => k = 11 ∨ k = 12) σ p.2 ∧ p.1 = @ite _ (lendP D ρ r b) (Classical.propDecidable _) 0 (-3)) (-3, σ') := fun σ' hS h => ⟨hS, (if_neg h).symm⟩
      refine T_bind (c_readerWith hH hW) (fun z hz => ?_)
      refine T_ite (fun hz1 => ?_) (fun hz1 => ?_)
      · have hw : wthN ρ b := by rcases hz with ⟨_, h⟩ | ⟨h, _⟩; exact h; omega
        repeat (with_reducible first | refine T_ck (by omega) ?_ | refine T_nm ?_)
        rw [gR.2.1]
        refine T_ite (fun c2 => ?_) (fun c2 => T_some (no σ Sme_r (fun h => c2 (eP.mp h).2.1)))
        repeat (with_reducible first | refine T_ck (by omega) ?_ | refine T_nm ?_)
        rw [gR.2.2.1]
        refine T_ite (fun c3 => ?_) (fun c3 => T_some (no σ Sme_r (fun h => c3 (eP.mp h).2.2.1)))
        refine T_bd2 (c_traitsBehind ho hH hW hD hr) (fun t σ1 h => ?_)
        dsimp only at h
        obtain ⟨hS, ht⟩ := h
        have hH1 := HallIs_k ho hH hS
        rw [c_fits hH1 (by omega), Option.bind_some]
        rw [← ht] at eP
        unfold vX1_lendRefusal_88 vX1_lendRefusal_89
        refine T_ite (fun c4 => ?_) (fun c4 => ?_)
        · exact T_t rfl (T_some (no σ1 hS (fun h => bI_0.mp c4 (eP.mp h).2.2.2.1)))
        · have c4 : fitP ρ b t := Classical.not_not.mp (fun h => c4 (bI_0.mpr h))
          have hD1 : LawC K σ1 (σ1 1 5) D := by rw [hS 1 (by omega)]; exact LawC_s hD hS hO
          have ht63 := ((WF_leave (D := D) hW hr).2.2.2.1 r hr.1 (by rw [(leaveR_k (D := D) hW hr).1 1 (by omega)]; exact hr.2)).1
          refine T_bd2 (l_asked ho hH1 hW hD1 (by omega) hb hr (by rw [ht]; exact ht63)) (fun y σ2 h => ?_)
          dsimp only at h
          obtain ⟨hS2, hy⟩ := h
          refine T_ite (fun c5 => ?_) (fun c5 => ?_)
          · refine T_f (by decide) (T_some ⟨Sme_t hS hS2, ?_⟩)
            exact (if_pos (eP.mpr ⟨hw, c2, c3, c4, by rw [← hy]; exact c5⟩)).symm
          · exact T_t rfl (T_some (no σ2 (Sme_t hS hS2) (fun h => c5 (by rw [hy]; exact (eP.mp h).2.2.2.2))))
      · refine T_some (no σ Sme_r (fun h => ?_))
        rcases hz with ⟨h, _⟩ | ⟨a1, a2, a3⟩
        · exact hz1 h
        · exact h.1 z a1 a2 a3
    · refine T_t (bI_f hb) (T_some ⟨Sme_r, ?_⟩)
      unfold lref
      rw [if_neg (fun h => hb h.2)]
  · refine T_t (bI_f hr) (T_some ⟨Sme_r, ?_⟩)
    unfold lref
    rw [if_neg (fun h => hr h.1)]
theorem c_canHave {K : Kt} {o : Nat} {σ : Sg} {ρ : Nat → Int} {D : Int → (Nat → Int) → Option Int} {r b : Int} (ho : 12 < o) (hO : LwO K (fun k => k = 11 ∨ k = 12)) (hH : HallIs σ o ρ) (hW : WF ρ) (hD : LawC K σ (σ 1 5) D) (hr : 0 ≤ r ∧ r < ρ 1) (hb : 0 ≤ b ∧ b < ρ 0) :
    T (vX1_canHave K o b r σ) (fun p => Sme (fun k => k = 11 ∨ k = 12) σ p.2 ∧ p.1 = bI (canP D ρ b r)) := by
  have h16 := hW.1.2.1
  have gR := hH.2.2.1 r (by omega) (by omega)
  unfold vX1_canHave
  repeat (with_reducible first | refine T_ck (by omega) ?_ | refine T_nm ?_)
  rw [gR.2.2.2.1]
  refine T_ite (fun c1 => ?_) (fun c1 => T_some ⟨Sme_r, (bI_f (fun h => c1 h.2.1)).symm⟩)
  refine T_bd2 (c_lendRefusal ho hO hH hW hD) (fun y σ1 h => ?_)
  dsimp only at h
  obtain ⟨hS, hy⟩ := h
  unfold lref at hy
  rw [if_pos ⟨hr, hb⟩] at hy
  have e : leaveR D ρ r = ρ := by unfold leaveR; rw [if_pos c1]
  have eq : lendP D ρ r b ↔ canP D ρ b r := by
    unfold lendP
    rw [e]
    exact ⟨fun h => h.2, fun h => ⟨h.1, h⟩⟩
  by_cases hl : lendP D ρ r b
  · rw [if_pos hl] at hy
    exact T_t hy (T_some ⟨hS, (bI_t (eq.mp hl)).symm⟩)
  · rw [if_neg hl] at hy
    exact T_f (by omega) (T_some ⟨hS, (bI_f (fun h => hl (eq.mpr h))).symm⟩)
