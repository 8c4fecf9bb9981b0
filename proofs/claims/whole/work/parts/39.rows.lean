/-! ===== snapshots of a row ===== -/
def snp (u : Nat → Int) (k : Nat) : Nat → Int := fun i => u (67 * k + i)
def putR (ρ s : Nat → Int) : Nat → Int := fun i => if 4 ≤ i ∧ i < 71 then s (i - 4) else ρ i
theorem putR_b {ρ ρ' s : Nat → Int} (h : ∀ i, i < 4 ∨ 71 ≤ i → ρ' i = ρ i) (hs : ∀ i, i < 67 → s i = ρ (4 + i)) : putR ρ' s = ρ := by
  funext i
  unfold putR
  by_cases hi : 4 ≤ i ∧ i < 71
  · rw [if_pos hi, hs _ (by omega)]
    congr 1
    omega
  · rw [if_neg hi]; exact h i (by omega)
theorem m_keepAll_2 {σ0 : Sg} {k : Nat} (hk : k < 19) : ∀ (f x : Nat) (σ : Sg), 67 - x < f → x ≤ 67 → (∀ c, c ≠ 89 → σ c = σ0 c) → (∀ i, i < x → σ 89 (67 * k + i) = σ0 86 (4 + i)) → (∀ j, j < 67 * k ∨ 67 * k + 67 ≤ j → σ 89 j = σ0 89 j) →
    T (vX10_keepAll_2 f (k : Int) (x : Int) σ) (fun σ' => (∀ c, c ≠ 89 → σ' c = σ0 c) ∧ (∀ i, i < 67 → snp (σ' 89) k i = σ0 86 (4 + i)) ∧ (∀ j, j < 67 * k ∨ 67 * k + 67 ≤ j → σ' 89 j = σ0 89 j)) := by
  intro f
  induction f with
  | zero => intro x σ h; omega
  | succ f ih =>
    intro x σ hf hx h1 h2 h3
    rw [vX10_keepAll_2]
    refine T_ite (fun h => ?_) (fun h => ?_)
    · repeat (with_reducible first | refine T_ck (by omega) ?_ | refine T_nm ?_)
      rw [show (x : Int) + 1 = ((x + 1 : Nat) : Int) by omega]
      have ei : (67 * (k : Int) + (x : Int)).toNat = 67 * k + x := by omega
      have e4 : (4 + (x : Int)).toNat = 4 + x := by omega
      rw [ei, e4]
      refine ih (x + 1) _ (by omega) (by omega) (fun c hc => by rw [up2_o hc]; exact h1 c hc) (fun i hi => ?_) (fun j hj => ?_)
      · rw [up2_c]
        by_cases e : i = x
        · rw [e, upw_s, h1 86 (by omega)]
        · rw [upw_n (by omega)]; exact h2 i (by omega)
      · rw [up2_c, upw_n (by omega)]; exact h3 j hj
    · have e : x = 67 := by omega
      subst e
      exact T_some ⟨h1, h2, h3⟩
theorem m_keepAll {σ : Sg} {k : Nat} (hk : k < 19) : T (vX10_keepAll (k : Int) σ) (fun σ' => (∀ c, c ≠ 89 → σ' c = σ c) ∧ (∀ i, i < 67 → snp (σ' 89) k i = σ 86 (4 + i)) ∧ (∀ j, j < 67 * k ∨ 67 * k + 67 ≤ j → σ' 89 j = σ 89 j)) := by
  unfold vX10_keepAll
  exact m_keepAll_2 hk FU 0 σ (by have := FU_b; omega) (by omega) (fun _ _ => rfl) (fun i hi => by omega) (fun _ _ => rfl)
theorem m_putBack_2 {σ0 : Sg} {k : Nat} (hk : k < 19) : ∀ (f x : Nat) (σ : Sg), 67 - x < f → x ≤ 67 → (∀ c, c ≠ 86 → σ c = σ0 c) → (∀ i, i < 4 + x → 4 ≤ i → σ 86 i = σ0 89 (67 * k + (i - 4))) → (∀ i, i < 4 ∨ 4 + x ≤ i → σ 86 i = σ0 86 i) →
    T (vX10_putBack_2 f (k : Int) (x : Int) σ) (fun σ' => (∀ c, c ≠ 86 → σ' c = σ0 c) ∧ σ' 86 = putR (σ0 86) (snp (σ0 89) k)) := by
  intro f
  induction f with
  | zero => intro x σ h; omega
  | succ f ih =>
    intro x σ hf hx h1 h2 h3
    rw [vX10_putBack_2]
    refine T_ite (fun h => ?_) (fun h => ?_)
    · repeat (with_reducible first | refine T_ck (by omega) ?_ | refine T_nm ?_)
      rw [show (x : Int) + 1 = ((x + 1 : Nat) : Int) by omega]
      have ei : (67 * (k : Int) + (x : Int)).toNat = 67 * k + x := by omega
      have e4 : (4 + (x : Int)).toNat = 4 + x := by omega
      rw [ei, e4]
      refine ih (x + 1) _ (by omega) (by omega) (fun c hc => by rw [up2_o hc]; exact h1 c hc) (fun i hi hi4 => ?_) (fun j hj => ?_)
      · rw [up2_c]
        by_cases e : i = 4 + x
        · rw [e, upw_s, h1 89 (by omega)]
          congr 1
          omega
        · rw [upw_n (by omega)]; exact h2 i (by omega) hi4
      · rw [up2_c, upw_n (by omega)]; exact h3 j (by omega)
    · have e : x = 67 := by omega
      subst e
      refine T_some ⟨h1, ?_⟩
      funext i
      unfold putR
      by_cases hi : 4 ≤ i ∧ i < 71
      · rw [if_pos hi]; exact h2 i (by omega) hi.1
      · rw [if_neg hi]; exact h3 i (by omega)
theorem m_putBack {σ : Sg} {k : Nat} (hk : k < 19) : T (vX10_putBack (k : Int) σ) (fun σ' => (∀ c, c ≠ 86 → σ' c = σ c) ∧ σ' 86 = putR (σ 86) (snp (σ 89) k)) := by
  unfold vX10_putBack
  exact m_putBack_2 hk FU 0 σ (by have := FU_b; omega) (by omega) (fun _ _ => rfl) (fun i hi _ => by omega) (fun _ _ => rfl)
/-- the reference's cells that change with the row, and trial's snapshot -/
def RwT (σ σ' : Sg) : Prop := (∀ k, k ≠ 84 → k ≠ 86 → k ≠ 89 → k ≠ 102 → k ≠ 104 → σ' k = σ k) ∧ (∀ j, ¬ sc84 j → σ' 84 j = σ 84 j) ∧ ∀ j, j < 1206 → σ' 89 j = σ 89 j
theorem RwT_r {σ : Sg} : RwT σ σ := ⟨fun _ _ _ _ _ _ => rfl, fun _ _ => rfl, fun _ _ => rfl⟩
theorem RwT_t {σ σ' σ'' : Sg} (h : RwT σ σ') (h' : RwT σ' σ'') : RwT σ σ'' := ⟨fun k a b c d e => (h'.1 k a b c d e).trans (h.1 k a b c d e), fun j hj => (h'.2.1 j hj).trans (h.2.1 j hj), fun j hj => (h'.2.2 j hj).trans (h.2.2 j hj)⟩
theorem RwT_m {σ σ' : Sg} (h : RwM σ σ') : RwT σ σ' := ⟨fun k a b c d e => h.1 k a b d e, h.2, fun j _ => by rw [h.1 89 (by omega) (by omega) (by omega) (by omega)]⟩
theorem m_canLend {σ : Sg} {D : Int → (Nat → Int) → Option Int} {b r : Int} (hW : WF (σ 86)) (hD : LawM (σ 86) D) (h20 : σ 84 20 = 0) (hb : 0 ≤ b ∧ b < σ 86 0) (hr : 0 ≤ r ∧ r < σ 86 1) :
    T (vX10_canLend r b σ) (fun p => RwT σ p.2 ∧ p.2 86 = σ 86 ∧ p.1 = bI (lendP D (σ 86) r b)) := by
  unfold vX10_canLend
  refine T_bind (m_keepAll (k := 18) (by omega)) (fun σ1 h1 => ?_)
  obtain ⟨a1, a2, a3⟩ := h1
  have e86 : σ1 86 = σ 86 := a1 86 (by omega)
  have e20 : σ1 84 20 = 0 := by rw [a1 84 (by omega)]; exact h20
  have R1 : RwT σ σ1 := ⟨fun k _ _ c _ _ => a1 k c, fun j _ => by rw [a1 84 (by omega)], fun j hj => a3 j (by omega)⟩
  have hW1 : WF (σ1 86) := by rw [e86]; exact hW
  have hD1 : LawM (σ1 86) D := by rw [e86]; exact hD
  have fin : ∀ (σ2 : Sg) (y : Int), RwM σ1 σ2 → σ2 86 = leaveR D (σ 86) r → y = bI (lendP D (σ 86) r b) → T (vX10_canLend_45 y σ2) (fun p => RwT σ p.2 ∧ p.2 86 = σ 86 ∧ p.1 = bI (lendP D (σ 86) r b)) := by
    intro σ2 y R2 e2 hy
    unfold vX10_canLend_45
    refine T_bind (m_putBack (k := 18) (by omega)) (fun σ3 h3 => ?_)
    have hk := (leaveR_k (D := D) hW hr).1
    have R3 : RwT σ2 σ3 := ⟨fun k _ b _ _ _ => h3.1 k b, fun j _ => by rw [h3.1 84 (by omega)], fun j _ => by rw [h3.1 89 (by omega)]⟩
    refine T_ck (by rw [hy]; exact bI_01 _) (T_some ⟨RwT_t R1 (RwT_t (RwT_m R2) R3), ?_, hy⟩)
    show σ3 86 = _
    rw [h3.2, R2.1 89 (by omega) (by omega) (by omega) (by omega), e2]
    exact putR_b (fun i hi => hk i (by omega)) (fun i hi => a2 i hi)
  refine T_bind (m_readerWith (b := b) hW1 (by omega)) (fun z hz => ?_)
  rw [e86] at hz
  have goLeave : ∀ y : Int, (y = 0 ∧ ¬ wthN (σ 86) b) ∨ (y = 1 ∧ wthN (σ 86) b) → T (vX10_canLend_20 r b y σ1) (fun p => RwT σ p.2 ∧ p.2 86 = σ 86 ∧ p.1 = bI (lendP D (σ 86) r b)) := by
    intro y hy
    unfold vX10_canLend_20
    refine T_bd2 (m_leaveIt hW1 hD1 e20 (by rw [e86]; exact hr)) (fun p σ2 h2 => ?_)
    dsimp only at h2
    obtain ⟨R2, -, e2⟩ := h2
    rw [e86] at e2
    rcases hy with ⟨y0, hn⟩ | ⟨y1, hw⟩
    · rw [y0]
      exact T_t rfl (fin σ2 0 R2 e2 (bI_f (fun h => hn h.1)).symm)
    · rw [y1]
      refine T_f (by decide) ?_
      obtain ⟨k1, k2, k3, k4⟩ := leaveR_k (D := D) hW hr
      refine T_bd2 (m_canHave (D := D) (σ := σ2) (b := b) (r := r) ?_ ?_ ?_ ?_ ?_) (fun q σ3 h3 => ?_)
      · rw [e2]; exact WF_leave hW hr
      · rw [e2]; exact LawM_p hD (k1 3 (by omega)) (fun i hi => k1 i (by omega))
      · rw [R2.2 20 (by unfold sc84; omega)]; exact e20
      · rw [e2, k1 0 (by omega)]; exact hb
      · rw [e2, k1 1 (by omega)]; exact hr
      · dsimp only at h3
        obtain ⟨S3, hq⟩ := h3
        rw [e2] at hq
        have R3 := RwM_t R2 (RwM_s S3)
        have e3 : σ3 86 = leaveR D (σ 86) r := by rw [ScM_k S3 (by omega)]; exact e2
        have el : lendP D (σ 86) r b ↔ canP D (leaveR D (σ 86) r) b r := ⟨fun h => h.2, fun h => ⟨hw, h⟩⟩
        by_cases hc : canP D (leaveR D (σ 86) r) b r
        · rw [bI_t hc] at hq
          exact T_f (by omega) (fin σ3 1 R3 e3 (bI_t (el.mpr hc)).symm)
        · rw [bI_f hc] at hq
          exact T_t hq (fin σ3 0 R3 e3 (bI_f (fun h => hc (el.mp h))).symm)
  refine T_ite (fun hz1 => goLeave 1 (Or.inr ⟨rfl, ?_⟩)) (fun hz1 => goLeave 0 (Or.inl ⟨rfl, fun hw => ?_⟩))
  · rcases hz with ⟨_, h⟩ | ⟨h, _⟩
    · exact h
    · omega
  · rcases hz with ⟨h, _⟩ | ⟨b1, b2, b3⟩
    · exact hz1 h
    · exact hw z b1 b2 b3
/-! ===== who waits ===== -/
def wtM (ρ : Nat → Int) (b r i : Int) : Prop := ρ (47 + 2 * i).toNat = b ∧ ρ (47 + 2 * i + 1).toNat = r
def wtP (ρ : Nat → Int) (b r z : Int) : Prop := (z = -1 ∧ ∀ i : Int, 0 ≤ i → i < ρ 8 → ¬ wtM ρ b r i) ∨ (0 ≤ z ∧ z < ρ 8 ∧ wtM ρ b r z)
theorem wtP_u {ρ : Nat → Int} {b r z z' : Int} (hW : WF ρ) (h : wtP ρ b r z) (h' : wtP ρ b r z') : z = z' := by
  rcases h with ⟨a, n⟩ | ⟨a1, a2, a3⟩
  · rcases h' with ⟨a', n'⟩ | ⟨a1', a2', a3'⟩
    · omega
    · exact absurd a3' (n z' a1' a2')
  · rcases h' with ⟨a', n'⟩ | ⟨a1', a2', a3'⟩
    · exact absurd a3 (n' z a1 a2)
    · exact hW.2.2.2.2.2.2 z z' a1 a2 a1' a2' (by rw [a3.1, a3'.1]) (by rw [a3.2, a3'.2])
theorem m_waitAt_5 {σ : Sg} {b r : Int} (h8 : 0 ≤ σ 86 8 ∧ σ 86 8 ≤ 12) : ∀ (f : Nat) (x z : Int), 0 ≤ x → x ≤ σ 86 8 → (σ 86 8 - x).toNat < f → ((z = -1 ∧ ∀ i : Int, 0 ≤ i → i < x → ¬ wtM (σ 86) b r i) ∨ (0 ≤ z ∧ z < x ∧ wtM (σ 86) b r z)) →
    T (vX10_waitAt_5 σ f b r z x) (fun p => wtP (σ 86) b r p) := by
  intro f
  induction f with
  | zero => intro x z _ _ h; omega
  | succ f ih =>
    intro x z h0 hx hf hz
    have keep : ¬ wtM (σ 86) b r x → ((z = -1 ∧ ∀ i : Int, 0 ≤ i → i < x + 1 → ¬ wtM (σ 86) b r i) ∨ (0 ≤ z ∧ z < x + 1 ∧ wtM (σ 86) b r z)) := by
      intro hn
      rcases hz with ⟨z1, z2⟩ | ⟨z1, z2, z3⟩
      · refine Or.inl ⟨z1, fun i i0 i1 => ?_⟩
        by_cases e : i = x
        · rw [e]; exact hn
        · exact z2 i i0 (by omega)
      · exact Or.inr ⟨z1, by omega, z3⟩
    rw [vX10_waitAt_5]
    refine T_ite (fun h => ?_) (fun h => ?_)
    · repeat (with_reducible first | refine T_ck (by omega) ?_ | refine T_nm ?_)
      refine T_ite (fun c1 => ?_) (fun c1 => ?_)
      · repeat (with_reducible first | refine T_ck (by omega) ?_ | refine T_nm ?_)
        refine T_ite (fun c2 => ?_) (fun c2 => ?_)
        · with_reducible refine T_ck (by omega) ?_
          exact ih (x + 1) x (by omega) (by omega) (by omega) (Or.inr ⟨h0, by omega, c1, c2⟩)
        · with_reducible refine T_ck (by omega) ?_
          exact ih (x + 1) z (by omega) (by omega) (by omega) (keep (fun h => c2 h.2))
      · with_reducible refine T_ck (by omega) ?_
        exact ih (x + 1) z (by omega) (by omega) (by omega) (keep (fun h => c1 h.1))
    · have e : x = σ 86 8 := by omega
      rw [e] at hz
      exact T_some hz
theorem m_waitAt {σ : Sg} {b r : Int} (hW : WF (σ 86)) : T (vX10_waitAt b r σ) (fun p => wtP (σ 86) b r p) := by
  unfold vX10_waitAt
  have h8 := hW.2.1.2.2.2.2
  exact m_waitAt_5 h8 FU 0 (-1) (by omega) (by omega) (by have := FU_b; omega) (Or.inl ⟨rfl, fun i a b => by omega⟩)
theorem c_placeWaiting_2 {K : Kt} {σ : Sg} {o : Nat} {ρ : Nat → Int} {b r : Int} (hH : HallIs σ o ρ) (h8 : 0 ≤ ρ 8 ∧ ρ 8 ≤ 12) : ∀ (f : Nat) (x : Int), 0 ≤ x → x ≤ ρ 8 → (ρ 8 - x).toNat < f → (∀ i : Int, 0 ≤ i → i < x → ¬ wtM ρ b r i) →
    T (vX1_placeWaiting_2 K o σ f b r x) (fun p => wtP ρ b r p) := by
  obtain ⟨⟨g0, g1, g8⟩, gB, gR, gI, g4, g5, g6, g7⟩ := hH
  intro f
  induction f with
  | zero => intro x _ _ h; omega
  | succ f ih =>
    intro x h0 hx hf hz
    have keep : ¬ wtM ρ b r x → ∀ i : Int, 0 ≤ i → i < x + 1 → ¬ wtM ρ b r i := by
      intro hn i i0 i1
      by_cases e : i = x
      · rw [e]; exact hn
      · exact hz i i0 (by omega)
    rw [vX1_placeWaiting_2, g8]
    refine T_ite (fun h => ?_) (fun h => ?_)
    · have gx := gI x h0 (by omega)
      repeat (with_reducible first | refine T_ck (by omega) ?_ | refine T_nm ?_)
      rw [gx.1]
      refine T_ite (fun c1 => ?_) (fun c1 => ?_)
      · repeat (with_reducible first | refine T_ck (by omega) ?_ | refine T_nm ?_)
        rw [gx.2]
        refine T_ite (fun c2 => ?_) (fun c2 => ?_)
        · exact T_some (Or.inr ⟨h0, h, c1, c2⟩)
        · with_reducible refine T_ck (by omega) ?_
          exact ih (x + 1) (by omega) (by omega) (by omega) (keep (fun h => c2 h.2))
      · with_reducible refine T_ck (by omega) ?_
        exact ih (x + 1) (by omega) (by omega) (by omega) (keep (fun h => c1 h.1))
    · have e : x = ρ 8 := by omega
      rw [e] at hz
      exact T_some (Or.inl ⟨rfl, hz⟩)
theorem c_placeWaiting {K : Kt} {σ : Sg} {o : Nat} {ρ : Nat → Int} {b r : Int} (hH : HallIs σ o ρ) (h8 : 0 ≤ ρ 8 ∧ ρ 8 ≤ 12) : T (vX1_placeWaiting K o b r σ) (fun p => wtP ρ b r p) := by
  unfold vX1_placeWaiting
  exact c_placeWaiting_2 hH h8 FU 0 (by omega) (by omega) (by have := FU_b; omega) (fun i a b => by omega)
/-- the row of those who wait, moved up from a on as far as y -/
def dq (ρ : Nat → Int) (a y : Int) : Nat → Int := fun i => if 47 + a ≤ (i : Int) ∧ (i : Int) < 47 + y then ρ (i + 2) else ρ i
theorem dq_0 {ρ : Nat → Int} {a y : Int} (h : y ≤ a) : dq ρ a y = ρ := by
  funext i
  unfold dq
  rw [if_neg (by omega)]
theorem dq_s {ρ : Nat → Int} {a y : Int} (h0 : 0 ≤ a) (h : a ≤ y) : upw (dq ρ a y) (47 + y).toNat (dq ρ a y (47 + y + 2).toNat) = dq ρ a (y + 1) := by
  have e1 : dq ρ a y (47 + y + 2).toNat = ρ (47 + y + 2).toNat := by unfold dq; rw [if_neg (by omega)]
  rw [e1]
  funext i
  unfold upw
  by_cases e : i = (47 + y).toNat
  · rw [if_pos e, e]
    unfold dq
    rw [if_pos (by omega)]
    congr 1
    omega
  · rw [if_neg e]
    unfold dq
    by_cases h1 : 47 + a ≤ (i : Int) ∧ (i : Int) < 47 + y
    · rw [if_pos h1, if_pos (by omega)]
    · rw [if_neg h1, if_neg (by omega)]
theorem m_lendIt_61 {ρ : Nat → Int} {a p : Int} (ha : 0 ≤ a) (h8 : 0 ≤ ρ 8 ∧ ρ 8 ≤ 11) : ∀ (f : Nat) (y : Int) (σ : Sg), a ≤ y → y ≤ 2 * ρ 8 → (2 * ρ 8 - y).toNat < f → σ 86 = dq ρ a y →
    T (vX10_lendIt_61 f p y σ) (fun q => (∀ c, c ≠ 86 → q.2 c = σ c) ∧ q.1 = p ∧ q.2 86 = dq ρ a (2 * ρ 8)) := by
  intro f
  induction f with
  | zero => intro y σ _ _ h; omega
  | succ f ih =>
    intro y σ hy hy2 hf he
    have e8 : σ 86 8 = ρ 8 := by rw [he]; unfold dq; rw [if_neg (by omega)]
    rw [vX10_lendIt_61, e8]
    with_reducible refine T_ck (by omega) ?_
    refine T_ite (fun h => ?_) (fun h => ?_)
    · repeat (with_reducible first | refine T_ck (by omega) ?_ | refine T_nm ?_)
      refine T_mono (ih (y + 1) (up2 σ 86 (47 + y).toNat (σ 86 (47 + y + 2).toNat)) (by omega) (by omega) (by omega) ?_) (fun q hq => ⟨fun c hc => by rw [hq.1 c hc, up2_o hc], hq.2⟩)
      rw [up2_c, he]
      exact dq_s ha hy
    · have e : y = 2 * ρ 8 := by omega
      rw [e] at he
      exact T_some ⟨fun _ _ => rfl, rfl, he⟩
theorem c_dropWaiting_25 {K : Kt} {o : Nat} {ρ : Nat → Int} {a : Int} (ha : 0 ≤ a) (h8 : 0 ≤ ρ 8 ∧ ρ 8 ≤ 11) : ∀ (f : Nat) (x : Int) (σ : Sg), a ≤ x → x ≤ ρ 8 → (ρ 8 - x).toNat < f → HallIs σ o (dq ρ (2 * a) (2 * x)) →
    T (vX1_dropWaiting_25 K o f x σ) (fun σ' => Sme (hC o) σ σ' ∧ HallIs σ' o (dq ρ (2 * a) (2 * ρ 8))) := by
  intro f
  induction f with
  | zero => intro y σ _ _ h; omega
  | succ f ih =>
    intro x σ hx hx2 hf hH
    have g8 : σ o 3 = ρ 8 := by rw [hH.1.2.2]; unfold dq; rw [if_neg (by omega)]
    rw [vX1_dropWaiting_25, g8]
    refine T_ite (fun h => ?_) (fun h => ?_)
    · have gx := hH.2.2.2.1 (x + 1) (by omega) (by omega)
      repeat (with_reducible first | refine T_ck (by omega) ?_ | refine T_nm ?_)
      rw [up2_o (a := o + 12) (k := o + 11) (by omega), gx.1, gx.2]
      refine T_mono (ih (x + 1) _ (by omega) (by omega) (by omega) ?_) (fun σ' h' => ⟨Sme_t (Sme_u (Sme_u Sme_r (by unfold hC; omega)) (by unfold hC; omega)) h'.1, h'.2⟩)
      have key := HU_wre (i := x) (v := dq ρ (2 * a) (2 * x) (47 + 2 * (x + 1) + 1).toNat) (HU_wbo (i := x) (v := dq ρ (2 * a) (2 * x) (47 + 2 * (x + 1)).toNat) hH (by omega)) (by omega)
      have e1 : upw (dq ρ (2 * a) (2 * x)) (47 + 2 * x).toNat (dq ρ (2 * a) (2 * x) (47 + 2 * (x + 1)).toNat) = dq ρ (2 * a) (2 * x + 1) := by
        rw [show 47 + 2 * (x + 1) = 47 + 2 * x + 2 by omega]
        exact dq_s (by omega) (by omega)
      have e2 : dq ρ (2 * a) (2 * x) (47 + 2 * (x + 1) + 1).toNat = dq ρ (2 * a) (2 * x + 1) (47 + (2 * x + 1) + 2).toNat := by
        unfold dq
        rw [if_neg (by omega), if_neg (by omega)]
        congr 1
        omega
      rw [e1, e2, show 47 + 2 * x + 1 = 47 + (2 * x + 1) by omega, dq_s (by omega) (by omega), show 2 * x + 1 + 1 = 2 * (x + 1) by omega, ← e2] at key
      exact key
    · have e : x = ρ 8 := by omega
      rw [e] at hH
      exact T_some ⟨Sme_r, hH⟩
