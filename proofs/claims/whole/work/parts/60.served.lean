/-! ===== who is served ===== -/
noncomputable def gbb (can : Nat → Nat → Prop) (R N m : Nat) (F : Nat → Prop) : Int := fstN (fun b => F b ∧ can (R - (m + 1)) b ∧ bst can R N m (rmv F b) = bst can R N (m + 1) F - 1) N 0
noncomputable def grw (can : Nat → Nat → Prop) (R N : Nat) : Nat → (Nat → Prop) → Nat → Int
  | 0, _, _ => 100
  | m + 1, F, 0 => if gbb can R N m F = -1 then 100 else gbb can R N m F
  | m + 1, F, j + 1 => if gbb can R N m F = -1 then grw can R N m F j else grw can R N m (rmv F (gbb can R N m F).toNat) j
theorem bst_0 {can : Nat → Nat → Prop} {R N : Nat} : ∀ (m : Nat) (F : Nat → Prop), 0 ≤ bst can R N m F ∧ bst can R N m F ≤ (m : Int)
  | 0, F => by rw [bst]; omega
  | m + 1, F => by
    have ih := bst_0 (can := can) (R := R) (N := N) m
    rw [bst]
    have im := imax_l (bst can R N m F) (mxN (fun b => 1 + bst can R N m (rmv F b)) (fun b => F b ∧ can (R - (m + 1)) b) N)
    have a := ih F
    refine ⟨by omega, ?_⟩
    rcases im.2.2 with e | e
    · omega
    · rcases mxN_e (ℓ := fun b => 1 + bst can R N m (rmv F b)) (P := fun b => F b ∧ can (R - (m + 1)) b) N with q | ⟨b, b1, b2, b3⟩
      · omega
      · have := ih (rmv F b)
        rw [e, b3]; omega
theorem fstN_r {P : Nat → Prop} {n : Nat} : ∀ m x : Nat, x + m = n → (fstN P m x = -1 ∧ ∀ b, x ≤ b → b < n → ¬ P b) ∨ ∃ r : Nat, fstN P m x = (r : Int) ∧ x ≤ r ∧ r < n ∧ P r ∧ ∀ b, x ≤ b → b < r → ¬ P b
  | 0, x, h => Or.inl ⟨rfl, fun b b1 b2 => by omega⟩
  | m + 1, x, h => by
    by_cases ex : ∃ b, x ≤ b ∧ b < n ∧ P b
    · exact Or.inr (fstN_e (m + 1) x h ex)
    · left
      have no : ∀ b, x ≤ b → b < n → ¬ P b := fun b b1 b2 b3 => ex ⟨b, b1, b2, b3⟩
      rw [fstN, if_neg (no x (by omega) (by omega))]
      rcases fstN_r (P := P) (n := n) m (x + 1) (by omega) with ⟨q, -⟩ | ⟨r, -, r1, r2, r3, -⟩
      · exact ⟨q, no⟩
      · exact absurd r3 (no r (by omega) r2)
/-- without a book for the next reader nothing is lost -/
theorem bst_n {can : Nat → Nat → Prop} {R N m : Nat} {F : Nat → Prop} (h : gbb can R N m F = -1) : bst can R N (m + 1) F = bst can R N m F := by
  have b0 := bst_0 (can := can) (R := R) (N := N) m F
  have hno : ∀ b, b < N → ¬ (F b ∧ can (R - (m + 1)) b ∧ bst can R N m (rmv F b) = bst can R N (m + 1) F - 1) := by
    rcases fstN_r (P := fun b => F b ∧ can (R - (m + 1)) b ∧ bst can R N m (rmv F b) = bst can R N (m + 1) F - 1) (n := N) N 0 (by omega) with ⟨-, q⟩ | ⟨r, q, -⟩
    · exact fun b hb => q b (by omega) hb
    · unfold gbb at h; rw [q] at h; omega
  have es : bst can R N (m + 1) F = imax (bst can R N m F) (mxN (fun b => 1 + bst can R N m (rmv F b)) (fun b => F b ∧ can (R - (m + 1)) b) N) := rfl
  have im := imax_l (bst can R N m F) (mxN (fun b => 1 + bst can R N m (rmv F b)) (fun b => F b ∧ can (R - (m + 1)) b) N)
  rcases mxN_e (ℓ := fun b => 1 + bst can R N m (rmv F b)) (P := fun b => F b ∧ can (R - (m + 1)) b) N with q | ⟨b, b1, b2, b3⟩
  · omega
  · rcases im.2.2 with e | e
    · omega
    · exact absurd ⟨b2.1, b2.2, by omega⟩ (hno b b1)
theorem c_firstServed_3 {K : Kt} {σ : Sg} {can : Nat → Nat → Prop} {N R r : Nat} {fr left : Int} {F : Nat → Prop} (h8 : N ≤ 8) (hR6 : R ≤ 6) (hr : r < R) (hN : σ 13 1 = (N : Int)) (hg : σ 13 2 = (R : Int)) (hO : nrOk can N R (2 ^ R) (σ 74)) (hF : MK fr F) (hFN : ∀ b, F b → b < N) (hl : 0 ≤ left ∧ left ≤ 10) :
    ∀ (f x : Nat), N - x < f → x ≤ N → T (vX0_firstServed_3 K σ f (r : Int) fr left (x : Int)) (fun p => p = if fstN (fun b => F b ∧ can r b ∧ bst can R N (R - (r + 1)) (rmv F b) = left - 1) (N - x) x = -1 then 100 else fstN (fun b => F b ∧ can r b ∧ bst can R N (R - (r + 1)) (rmv F b) = left - 1) (N - x) x) := by
  have p3 := Nat.two_pow_pos r
  have pr : 2 ^ r < 2 ^ R := Nat.pow_lt_pow_right (by omega) hr
  have pR : 2 ^ R ≤ 64 := by
    have : 2 ^ R ≤ 2 ^ 6 := Nat.pow_le_pow_right (by omega) hR6
    omega
  have nr : MK (σ 74 (2 ^ r)) (fun b => b < N ∧ can r b) := MK_p (hO _ pr) (fun b => ⟨fun ⟨b1, i, i1, i2, i3⟩ => ⟨b1, by rw [tb_2] at i2; rw [i2] at i3; exact i3⟩, fun ⟨b1, b2⟩ => ⟨b1, r, hr, tb_2.mpr rfl, b2⟩⟩)
  intro f
  induction f with
  | zero => intro x h; omega
  | succ f ih =>
    intro x hf hx
    rw [vX0_firstServed_3, hN]
    refine T_ite (fun h => ?_) (fun h => ?_)
    · have nx := ih (x + 1) (by omega) (by omega)
      rw [show N - x = (N - (x + 1)) + 1 by omega, fstN]
      refine T_nm ?_
      rw [bShl_n (k := r) (by omega), Int.toNat_natCast]
      with_reducible refine T_ck (by omega) ?_
      have zz := MK_z (MK_and nr hF) (show x < 8 by omega)
      by_cases c : can r x ∧ F x
      · refine T_f (fun q => (zz.mp q) ⟨⟨by omega, c.1⟩, c.2⟩) ?_
        unfold vX0_firstServed_42
        refine T_f (by decide) ?_
        with_reducible refine T_ck (by omega) ?_
        rw [show (r : Int) + 1 = ((r + 1 : Nat) : Int) by omega, c_mostPairs (can := can) (N := N) (R := R) h8 hR6 (by omega) hg hO (MK_rm hF (by omega)) (fun b q => hFN b q.1), Option.bind_some]
        with_reducible refine T_ck (by omega) ?_
        refine T_ite (fun c2 => ?_) (fun c2 => ?_)
        · rw [if_pos (show F x ∧ can r x ∧ bst can R N (R - (r + 1)) (rmv F x) = left - 1 from ⟨c.2, c.1, c2⟩), if_neg (by omega)]
          exact T_some rfl
        · rw [if_neg (show ¬ (F x ∧ can r x ∧ bst can R N (R - (r + 1)) (rmv F x) = left - 1) from fun q => c2 q.2.2)]
          with_reducible refine T_ck (by omega) ?_
          rw [show (x : Int) + 1 = ((x + 1 : Nat) : Int) by omega]
          exact nx
      · refine T_t (zz.mpr (fun q => c ⟨q.1.2, q.2⟩)) ?_
        unfold vX0_firstServed_42
        refine T_t rfl ?_
        rw [if_neg (show ¬ (F x ∧ can r x ∧ bst can R N (R - (r + 1)) (rmv F x) = left - 1) from fun q => c ⟨q.2.1, q.1⟩)]
        with_reducible refine T_ck (by omega) ?_
        rw [show (x : Int) + 1 = ((x + 1 : Nat) : Int) by omega]
        exact nx
    · rw [show N - x = 0 by omega]; exact T_some rfl
theorem c_mostServed_28 {K : Kt} {σ : Sg} {can : Nat → Nat → Prop} {N R : Nat} {w : Nat} (h8 : N ≤ 8) (hR6 : R ≤ 6) (hw : w < R) (hN : σ 13 1 = (N : Int)) (hg : σ 13 2 = (R : Int)) (hO : nrOk can N R (2 ^ R) (σ 74)) :
    ∀ (f r : Nat) (fr : Int) (F : Nat → Prop), R - r < f → r ≤ w → MK fr F → (∀ b, F b → b < N) → T (vX0_mostServed_28 K σ f ((w : Int) + 1) fr (bst can R N (R - r) F) (r : Int)) (fun p => p = grw can R N (R - r) F (w - r)) := by
  intro f
  induction f with
  | zero => intro r fr F h; omega
  | succ f ih =>
    intro r fr F hf hr hF hFN
    have b0 := bst_0 (can := can) (R := R) (N := N) (R - r) F
    have em : R - r = (R - (r + 1)) + 1 := by omega
    have er : R - ((R - (r + 1)) + 1) = r := by omega
    rw [vX0_mostServed_28, hg]
    refine T_t (by omega) ?_
    unfold vX0_firstServed
    refine T_bind (c_firstServed_3 (K := K) (can := can) (N := N) (R := R) h8 hR6 (by omega) hN hg hO hF hFN (by omega) FU 0 (by have := FU_b; omega) (by omega)) (fun z hz => ?_)
    have eg : fstN (fun b => F b ∧ can r b ∧ bst can R N (R - (r + 1)) (rmv F b) = bst can R N (R - r) F - 1) (N - 0) 0 = gbb can R N (R - (r + 1)) F := by
      unfold gbb
      rw [er, ← em]
      rfl
    rw [eg] at hz
    with_reducible refine T_ck (by omega) ?_
    have s01 := fstN_r (P := fun b => F b ∧ can (R - (R - (r + 1) + 1)) b ∧ bst can R N (R - (r + 1)) (rmv F b) = bst can R N (R - (r + 1) + 1) F - 1) (n := N) N 0 (by omega)
    refine T_ite (fun c => ?_) (fun c => ?_)
    · refine T_some ?_
      have e0 : w - r = 0 := by omega
      rw [e0, em, grw]
      exact hz
    · obtain ⟨j, ej⟩ : ∃ j, w - r = j + 1 := ⟨w - r - 1, by omega⟩
      have ej' : w - (r + 1) = j := by omega
      rw [em] at b0
      rw [ej, em, grw]
      rcases s01 with ⟨q, -⟩ | ⟨b, q, -, q2, q3, -⟩
      · have q' : gbb can R N (R - (r + 1)) F = -1 := q
        rw [if_pos q'] at hz ⊢
        refine T_t hz ?_
        with_reducible refine T_ck (by omega) ?_
        rw [bst_n q', show (r : Int) + 1 = ((r + 1 : Nat) : Int) by omega, ← ej']
        exact ih (r + 1) fr F (by omega) (by omega) hF hFN
      · have q' : gbb can R N (R - (r + 1)) F = (b : Int) := q
        rw [q'] at hz ⊢
        rw [if_neg (show ¬ (b : Int) = -1 by omega)] at hz ⊢
        refine T_f (by omega) (T_nm ?_)
        with_reducible refine T_ck (by omega) ?_
        with_reducible refine T_ck (by omega) ?_
        have e1 : bst can R N (R - (r + 1) + 1) F + -1 = bst can R N (R - (r + 1)) (rmv F b) := by have := q3.2.2; omega
        rw [hz, e1, show (r : Int) + 1 = ((r + 1 : Nat) : Int) by omega, ← ej', Int.toNat_natCast]
        exact ih (r + 1) _ (rmv F b) (by omega) (by omega) (MK_rm hF (by omega)) (fun b' q => hFN b' q.1)
/-! ===== the reference tries all rows ===== -/
def Fs (σ σ' : Sg) : Prop := (∀ k, k ≠ 84 → k ≠ 102 → k ≠ 104 → k ≠ 105 → k ≠ 106 → σ' k = σ k) ∧ ∀ j, ¬ sc84 j → σ' 84 j = σ 84 j
theorem Fs_r {σ : Sg} : Fs σ σ := ⟨fun _ _ _ _ _ _ => rfl, fun _ _ => rfl⟩
theorem Fs_t {σ σ' σ'' : Sg} (h : Fs σ σ') (h' : Fs σ' σ'') : Fs σ σ'' := ⟨fun k a b c d e => (h'.1 k a b c d e).trans (h.1 k a b c d e), fun j a => (h'.2 j a).trans (h.2 j a)⟩
theorem Fs_m {σ σ' : Sg} (h : ScM σ σ') : Fs σ σ' := ⟨fun k a b c _ _ => ScM_k h ⟨a, b, c⟩, h.2⟩
theorem Fs_u {σ σ' : Sg} {k j : Nat} {z : Int} (h : Fs σ σ') (hk : k = 105 ∨ k = 106) : Fs σ (up2 σ' k j z) := by
  refine ⟨fun c a1 a2 a3 a4 a5 => ?_, fun i hi => ?_⟩
  · rw [up2_o (by omega)]; exact h.1 c a1 a2 a3 a4 a5
  · rw [up2_o (by omega)]; exact h.2 i hi
def Fk (N : Nat) (p : Nat → Int) (k : Nat) : Nat → Prop := fun b => b < N ∧ ∀ i, i < k → p i ≠ (b : Int)
noncomputable def cnt (N : Nat) (p : Nat → Int) (k : Nat) : Int := cnS (fun i => p i ≠ (N : Int)) k
def prw (N : Nat) (p : Nat → Int) (i : Nat) : Int := if p i = (N : Int) then 100 else p i
theorem m_isFree_14 {k : Nat} (hk : k < 7) : ∀ (f i : Nat) (z : Int) (σ : Sg), k - i < f → i ≤ k → (z = 0 ∨ z = 1) → T (vX10_isFree_14 f (k : Int) z (i : Int) σ) (fun p => p.2 = σ ∧ p.1 = bI (z = 1 ∧ ∀ j, i ≤ j → j < k → σ 105 j ≠ σ 105 k)) := by
  intro f
  induction f with
  | zero => intro i z σ h; omega
  | succ f ih =>
    intro i z σ hf hi hz
    rw [vX10_isFree_14]
    refine T_ite (fun h => ?_) (fun h => ?_)
    · rw [show (i : Int) + 1 = ((i + 1 : Nat) : Int) by omega, Int.toNat_natCast, Int.toNat_natCast]
      refine T_ite (fun c => ?_) (fun c => ?_)
      · with_reducible refine T_ck (by omega) ?_
        refine T_mono (ih (i + 1) 0 σ (by omega) (by omega) (Or.inl rfl)) (fun p hp => ⟨hp.1, ?_⟩)
        rw [hp.2, bI_f (fun q => absurd q.1 (by decide)), bI_f (fun q => by have := q.1; omega)]
      · with_reducible refine T_ck (by omega) ?_
        with_reducible refine T_ck (by omega) ?_
        refine T_ite (fun c2 => ?_) (fun c2 => ?_)
        · with_reducible refine T_ck (by omega) ?_
          refine T_mono (ih (i + 1) 0 σ (by omega) (by omega) (Or.inl rfl)) (fun p hp => ⟨hp.1, ?_⟩)
          rw [hp.2, bI_f (fun q => absurd q.1 (by decide)), bI_f (fun q => q.2 i (by omega) (by omega) c2)]
        · with_reducible refine T_ck (by omega) ?_
          refine T_mono (ih (i + 1) 1 σ (by omega) (by omega) (Or.inr rfl)) (fun p hp => ⟨hp.1, ?_⟩)
          rw [hp.2]
          refine bI_c ⟨fun q => ⟨by omega, fun j j1 j2 => ?_⟩, fun q => ⟨rfl, fun j j1 j2 => q.2 j (by omega) j2⟩⟩
          by_cases e : j = i
          · rw [e]; exact c2
          · exact q.2 j (by omega) j2
    · refine T_ck hz (T_some ⟨rfl, ?_⟩)
      dsimp only
      rcases hz with e | e
      · rw [e, bI_f (fun q => absurd q.1 (by decide))]
      · rw [e, bI_t ⟨rfl, fun j j1 j2 => by omega⟩]
theorem m_isFree {σ : Sg} {D : Int → (Nat → Int) → Option Int} {N k t : Nat} (hW : WF (σ 86)) (hD : LawM (σ 86) D) (h20 : σ 84 20 = 0) (hN : σ 86 0 = (N : Int)) (hk : (k : Int) < σ 86 1) (ht : σ 105 k = (t : Int)) (htN : t < N) :
    T (vX10_isFree (k : Int) σ) (fun p => ScM σ p.2 ∧ p.1 = bI (canP D (σ 86) (t : Int) (k : Int) ∧ ∀ i, i < k → σ 105 i ≠ (t : Int))) := by
  have h16 := hW.1.2.1
  unfold vX10_isFree
  with_reducible refine T_ck (by omega) ?_
  rw [Int.toNat_natCast, ht]
  refine T_bd2 (m_canHave hW hD h20 (by omega) (by omega)) (fun z σ1 h1 => ?_)
  dsimp only at h1
  obtain ⟨S1, hz⟩ := h1
  refine T_mono (m_isFree_14 (by omega) FU 0 z σ1 (by have := FU_b; omega) (by omega) (by rw [hz]; exact bI_01 _)) (fun p hp => ⟨by rw [hp.1]; exact S1, ?_⟩)
  rw [hp.2, hz, ScM_k S1 (by omega), ht]
  refine bI_c ⟨fun q => ⟨bI_1.mp q.1, fun i hi => q.2 i (by omega) hi⟩, fun q => ⟨bI_1.mpr q.1, fun i _ hi => q.2 i hi⟩⟩
theorem m_fs_79 {rec : Int → Int → Int → Int → Sg → Option (Int × Sg)} {Q : Int × Sg → Prop} {σ0 : Sg} {N R : Nat} {most v : Int} (hR : R ≤ 6)
    (cont : ∀ σ, (∀ c, c ≠ 106 → σ c = σ0 c) → (if most < v then ∀ i, i < R → σ 106 i = prw N (σ0 105) i else σ = σ0) → T (rec (R : Int) (N : Int) (if most < v then v else most) ((R : Int) + -1) σ) Q) :
    ∀ (f i : Nat) (σ : Sg), R - i < f → i ≤ R → (∀ c, c ≠ 106 → σ c = σ0 c) → (if most < v then ∀ j, j < i → σ 106 j = prw N (σ0 105) j else σ = σ0) → T (vX10_findServed_79 rec f (R : Int) (N : Int) most (R : Int) v (i : Int) σ) Q := by
  intro f
  induction f with
  | zero => intro i σ h; omega
  | succ f ih =>
    intro i σ hf hi hS hrow
    have fin : (most < v → i = R) → T (vX10_findServed_127 rec (R : Int) (N : Int) most (R : Int) v σ) Q := by
      intro hi2
      unfold vX10_findServed_127
      by_cases c : most < v
      · have e := hi2 c
        subst e
        rw [if_pos c] at hrow
        have co := cont σ hS (by rw [if_pos c]; exact hrow)
        rw [if_pos c] at co
        refine T_t c ?_
        with_reducible refine T_ck (by omega) ?_
        exact co
      · rw [if_neg c] at hrow
        have co := cont σ hS (by rw [if_neg c]; exact hrow)
        rw [if_neg c] at co
        refine T_f c ?_
        with_reducible refine T_ck (by omega) ?_
        exact co
    rw [vX10_findServed_79]
    refine T_ite (fun h => ?_) (fun h => fin (fun _ => by omega))
    refine T_ite (fun c => ?_) (fun c => fin (fun q => absurd q c))
    rw [if_pos c] at hrow
    have e105 : σ 105 = σ0 105 := hS 105 (by omega)
    have put : ∀ y, y = prw N (σ0 105) i → T (vX10_findServed_120 rec (vX10_findServed_79 rec f) (R : Int) (N : Int) most (R : Int) v (i : Int) (i : Int) y σ) Q := by
      intro y hy
      unfold vX10_findServed_120
      repeat (with_reducible first | refine T_ck (by omega) ?_ | refine T_nm ?_)
      rw [Int.toNat_natCast, show (i : Int) + 1 = ((i + 1 : Nat) : Int) by omega]
      refine ih (i + 1) _ (by omega) (by omega) (fun c hc => by rw [up2_o hc]; exact hS c hc) ?_
      rw [if_pos c]
      intro j hj
      rw [up2_c]
      by_cases e : j = i
      · rw [e, upw_s]; exact hy
      · rw [upw_n e]; exact hrow j (by omega)
    with_reducible refine T_ck (by omega) ?_
    rw [Int.toNat_natCast, e105]
    refine T_ite (fun c2 => put 100 ?_) (fun c2 => ?_)
    · unfold prw; rw [if_pos c2]
    · with_reducible refine T_ck (by omega) ?_
      refine put _ ?_
      unfold prw; rw [if_neg c2]
theorem m_fs_43 {rec : Int → Int → Int → Int → Sg → Option (Int × Sg)} {Q : Int × Sg → Prop} {σ : Sg} {N R : Nat} {most : Int} (hR : R ≤ 6)
    (cont : ∀ σ', (∀ c, c ≠ 106 → σ' c = σ c) → (if most < cnt N (σ 105) R then ∀ i, i < R → σ' 106 i = prw N (σ 105) i else σ' = σ) → T (rec (R : Int) (N : Int) (if most < cnt N (σ 105) R then cnt N (σ 105) R else most) ((R : Int) + -1) σ') Q) :
    ∀ (f i : Nat), R - i < f → i ≤ R → T (vX10_findServed_43 rec f (R : Int) (N : Int) most (R : Int) (cnt N (σ 105) i) (i : Int) σ) Q := by
  intro f
  induction f with
  | zero => intro i h; omega
  | succ f ih =>
    intro i hf hi
    have cb := cnS_b (fun j => σ 105 j ≠ (N : Int)) i
    rw [vX10_findServed_43]
    refine T_ite (fun h => ?_) (fun h => ?_)
    · have nx := ih (i + 1) (by omega) (by omega)
      have es : cnt N (σ 105) (i + 1) = cnt N (σ 105) i + bI (σ 105 i ≠ (N : Int)) := rfl
      have cb2 : 0 ≤ cnt N (σ 105) i ∧ cnt N (σ 105) i ≤ (i : Int) := cb
      with_reducible refine T_ck (by omega) ?_
      rw [Int.toNat_natCast, show (i : Int) + 1 = ((i + 1 : Nat) : Int) by omega]
      refine T_ite (fun c => ?_) (fun c => ?_)
      · rw [bI_f (fun q => q c)] at es
        rw [es] at nx
        repeat (with_reducible first | refine T_ck (by omega) ?_ | refine T_nm ?_)
        exact nx
      · rw [bI_t c] at es
        rw [es] at nx
        repeat (with_reducible first | refine T_ck (by omega) ?_ | refine T_nm ?_)
        exact nx
    · have e : i = R := by omega
      subst e
      refine m_fs_79 (σ0 := σ) hR cont FU 0 σ (by have := FU_b; omega) (by omega) (fun _ _ => rfl) ?_
      by_cases c : most < cnt N (σ 105) i
      · rw [if_pos c]; intro j hj; omega
      · rw [if_neg c]
def cstm : Nat → Nat
  | 0 => 1
  | m + 1 => 9 * (1 + cstm m) + 1
/-- what exploring has found behind -/
def ExR (can : Nat → Nat → Prop) (R N m k : Nat) (p : Nat → Int) (most : Int) (r0 : Nat → Int) (most' : Int) (r1 : Nat → Int) : Prop :=
  most' = imax most (cnt N p k + bst can R N m (Fk N p k)) ∧ (if most < cnt N p k + bst can R N m (Fk N p k) then ∀ i, i < R → r1 i = (if i < k then prw N p i else grw can R N m (Fk N p k) (i - k)) else r1 = r0)
/-- of the books below t, for reader k -/
def InR (can : Nat → Nat → Prop) (R N m k t : Nat) (p : Nat → Int) (most : Int) (r0 : Nat → Int) (most' : Int) (r1 : Nat → Int) : Prop :=
  (most' = most ∧ r1 = r0 ∧ ∀ b, b < t → Fk N p k b → can k b → cnt N p k + 1 + bst can R N m (rmv (Fk N p k) b) ≤ most) ∨
  (∃ b, b < t ∧ Fk N p k b ∧ can k b ∧ most' = cnt N p k + 1 + bst can R N m (rmv (Fk N p k) b) ∧ most < most' ∧ (∀ b', b' < t → Fk N p k b' → can k b' → cnt N p k + 1 + bst can R N m (rmv (Fk N p k) b') ≤ most') ∧ (∀ b', b' < b → Fk N p k b' → can k b' → cnt N p k + 1 + bst can R N m (rmv (Fk N p k) b') < most') ∧ ∀ i, i < R → r1 i = (if i < k then prw N p i else if i = k then (b : Int) else grw can R N m (rmv (Fk N p k) b) (i - (k + 1))))
