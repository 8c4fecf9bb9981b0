/-! ===== sets of books as words ===== -/
def MK (v : Int) (P : Nat → Prop) : Prop := ∃ m : Nat, v = (m : Int) ∧ m < 256 ∧ ∀ b, m.testBit b = true ↔ P b
theorem MK_p {v : Int} {P Q : Nat → Prop} (h : MK v P) (e : ∀ b, P b ↔ Q b) : MK v Q := by
  obtain ⟨m, a, b, c⟩ := h
  exact ⟨m, a, b, fun x => (c x).trans (e x)⟩
theorem MK_lt {v : Int} {P : Nat → Prop} (h : MK v P) : ∀ b, P b → b < 8 := by
  obtain ⟨m, a, b, c⟩ := h
  intro x hx
  rcases Nat.lt_or_ge x 8 with q | q
  · exact q
  · have : m.testBit x = false := Nat.testBit_lt_two_pow (Nat.lt_of_lt_of_le (show m < 2 ^ 8 from b) (Nat.pow_le_pow_right (by omega) q))
    rw [(c x).mpr hx] at this; cases this
theorem MK_0 : MK 0 (fun _ => False) := ⟨0, rfl, by omega, fun b => by simp⟩
theorem MK_or {v w : Int} {P Q : Nat → Prop} (h : MK v P) (h' : MK w Q) : MK (bOr v w) (fun b => P b ∨ Q b) := by
  obtain ⟨m, a, b, c⟩ := h
  obtain ⟨n, a', b', c'⟩ := h'
  subst a; subst a'
  refine ⟨m ||| n, bOr_n (by omega) (by omega), Nat.or_lt_two_pow (n := 8) b b', fun x => ?_⟩
  rw [Nat.testBit_or, Bool.or_eq_true]
  exact or_congr (c x) (c' x)
theorem MK_and {v w : Int} {P Q : Nat → Prop} (h : MK v P) (h' : MK w Q) : MK (bAnd v w) (fun b => P b ∧ Q b) := by
  obtain ⟨m, a, b, c⟩ := h
  obtain ⟨n, a', b', c'⟩ := h'
  subst a; subst a'
  have : m &&& n ≤ m := Nat.and_le_left
  refine ⟨m &&& n, bAnd_n (by omega), by omega, fun x => ?_⟩
  rw [Nat.testBit_and, Bool.and_eq_true]
  exact and_congr (c x) (c' x)
theorem tb_2 {b x : Nat} : (2 ^ b).testBit x = true ↔ x = b := by
  by_cases e : b = x
  · subst e; rw [Nat.testBit_two_pow_self]; simp
  · rw [Nat.testBit_two_pow_of_ne e]
    exact ⟨fun q => (by cases q), fun q => absurd q.symm e⟩
theorem MK_bit {b : Nat} (hb : b < 8) : MK (bShl 1 (b : Int)) (fun x => x = b) := by
  have h2 : 2 ^ b < 2 ^ 8 := Nat.pow_lt_pow_right (by omega) hb
  exact ⟨2 ^ b, bShl_n (by omega), by omega, fun x => tb_2⟩
theorem MK_rm {v : Int} {P : Nat → Prop} {b : Nat} (h : MK v P) (hb : b < 8) : MK (bAnd v (bXor (bShl 1 (b : Int)) (-1))) (rmv P b) := by
  obtain ⟨m, a, l, c⟩ := h
  subst a
  have : m &&& (m ^^^ 2 ^ b) ≤ m := Nat.and_le_left
  refine ⟨m &&& (m ^^^ 2 ^ b), by rw [bShl_n (by omega), bAnd_nx (by omega)], by omega, fun x => ?_⟩
  rw [Nat.testBit_and, Nat.testBit_xor]
  unfold rmv
  rw [← c x]
  by_cases e : x = b
  · have : (2 ^ b).testBit x = true := tb_2.mpr e
    rw [this]
    cases m.testBit x <;> simp [e]
  · have : (2 ^ b).testBit x = false := by
      cases q : (2 ^ b).testBit x with
      | false => rfl
      | true => exact absurd (tb_2.mp q) e
    rw [this]
    cases m.testBit x <;> simp [e]
theorem MK_z {v : Int} {P : Nat → Prop} {b : Nat} (h : MK v P) (hb : b < 8) : bAnd v (bShl 1 (b : Int)) = 0 ↔ ¬ P b := by
  obtain ⟨m, a, l, c⟩ := h
  subst a
  rw [bit_c (by omega) (by omega), tb_n, ← c b]
  cases m.testBit b <;> simp
theorem pc_cn {s : Nat} (hs : s < 2147483648) : ∀ j : Nat, j ≤ 30 → pc (s : Int) j = cnS (fun i => s.testBit i = true) j
  | 0, _ => rfl
  | j + 1, h => by
    rw [pc, cnS, pc_cn hs j (by omega), bit_m (by omega) (by omega), tb_n]
    cases q : s.testBit j with
    | true => rw [bI_t rfl]; rfl
    | false => rw [bI_f (fun z => by cases z)]; rfl
theorem bc_tab8 : ∀ x : Fin 256, vJ6_bitCount_0f7a4 (x.val : Int) (fun _ _ => 0) = some (pc (x.val : Int) 8) := by decide +kernel
theorem c_bits8 {σ : Sg} {s : Nat} (h : s < 256) : vJ6_bitCount_0f7a4 (s : Int) σ = some (cnS (fun i => s.testBit i = true) 8) := by
  rw [← pc_cn (by omega) 8 (by omega)]
  exact bc_tab8 ⟨s, h⟩
theorem MK_pc {v : Int} {P : Nat → Prop} {σ : Sg} (h : MK v P) : vJ6_bitCount_0f7a4 v σ = some (cnS P 8) := by
  obtain ⟨m, a, l, c⟩ := h
  subst a
  rw [c_bits8 l]
  exact congrArg some (cnS_c 8 (fun u _ => c u))
theorem cnS_ext {P : Nat → Prop} {R : Nat} (h : ∀ i, P i → i < R) : ∀ n : Nat, R ≤ n → cnS P n = cnS P R
  | 0, hn => by rw [show R = 0 by omega]
  | n + 1, hn => by
    by_cases e : R = n + 1
    · rw [e]
    · rw [cnS, cnS_ext h n (by omega), bI_f (fun q => by have := h n q; omega), Int.add_zero]
theorem mask_e : ∀ (n : Nat) (S : Nat → Prop), (∀ i, S i → i < n) → ∃ m : Nat, m < 2 ^ n ∧ ∀ i, m.testBit i = true ↔ S i
  | 0, S, h => ⟨0, by omega, fun i => ⟨fun q => (by rw [Nat.zero_testBit] at q; cases q), fun q => (by have := h i q; omega)⟩⟩
  | n + 1, S, h => by
    obtain ⟨m, m1, m2⟩ := mask_e n (fun i => S i ∧ i < n) (fun i q => q.2)
    by_cases c : S n
    · have h2 : 2 ^ n < 2 ^ (n + 1) := Nat.pow_lt_pow_right (by omega) (by omega)
      refine ⟨m ||| 2 ^ n, Nat.or_lt_two_pow (by omega) h2, fun i => ?_⟩
      rw [Nat.testBit_or, Bool.or_eq_true, m2 i, tb_2]
      refine ⟨fun q => q.elim (fun z => z.1) (fun z => by rw [z]; exact c), fun q => ?_⟩
      have := h i q
      by_cases e : i = n
      · exact Or.inr e
      · exact Or.inl ⟨q, by omega⟩
    · have h2 : 2 ^ n < 2 ^ (n + 1) := Nat.pow_lt_pow_right (by omega) (by omega)
      refine ⟨m, by omega, fun i => (m2 i).trans ⟨fun q => q.1, fun q => ⟨q, ?_⟩⟩⟩
      have := h i q
      rcases Nat.lt_or_ge i n with z | z
      · exact z
      · have : i = n := by omega
        rw [this] at q; exact absurd q c
/-! ===== near ===== -/
def nrP (can : Nat → Nat → Prop) (N x s b : Nat) : Prop := b < N ∧ ∃ i, i < x ∧ s.testBit i = true ∧ can i b
def nrOk (can : Nat → Nat → Prop) (N x M : Nat) (A : Nat → Int) : Prop := ∀ s, s < M → MK (A s) (nrP can N x s)
theorem c_fillNear_66 {K : Kt} {σ0 : Sg} {rec : Int → Sg → Option Sg} {Q : Sg → Prop} {can : Nat → Nat → Prop} {N r : Nat} {w : Int} (h8 : N ≤ 8) (hr : r < 6) (hw : MK w (fun b => b < N ∧ can r b))
    (cont : ∀ σ, Sme (fun k => k = 74) σ0 σ → nrOk can N (r + 1) (2 ^ (r + 1)) (σ 74) → T (rec ((r : Int) + 1) σ) Q) :
    ∀ (f s : Nat) (σ : Sg), 2 ^ (r + 1) - s < f → 2 ^ r ≤ s → s ≤ 2 ^ (r + 1) → Sme (fun k => k = 74) σ0 σ → nrOk can N (r + 1) s (σ 74) → (∀ u, u < 2 ^ r → MK (σ 74 u) (nrP can N r u)) → T (vX0_fillNear_66 K rec f (r : Int) w ((2 ^ r : Nat) : Int) (s : Int) σ) Q := by
  have p1 : 2 ^ (r + 1) = 2 * 2 ^ r := by rw [Nat.pow_succ]; omega
  have p2 : 2 ^ r ≤ 32 := by
    have : 2 ^ r ≤ 2 ^ 5 := Nat.pow_le_pow_right (by omega) (by omega)
    omega
  have p3 := Nat.two_pow_pos r
  intro f
  induction f with
  | zero => intro s σ h; omega
  | succ f ih =>
    intro s σ hf hs hs2 hS hO hB
    rw [vX0_fillNear_66]
    with_reducible refine T_ck (by omega) ?_
    refine T_ite (fun h => ?_) (fun h => ?_)
    · have e1 : ((s : Int) - ((2 ^ r : Nat) : Int)).toNat = s - 2 ^ r := by omega
      rw [e1]
      repeat (with_reducible first | refine T_ck (by omega) ?_ | refine T_nm ?_)
      rw [Int.toNat_natCast, show (s : Int) + 1 = ((s + 1 : Nat) : Int) by omega]
      refine ih (s + 1) _ (by omega) (by omega) (by omega) (Sme_u hS rfl) (fun u hu => ?_) (fun u hu => ?_)
      · rw [up2_c]
        by_cases e : u = s
        · rw [e, upw_s]
          refine MK_p (MK_or (hB (s - 2 ^ r) (by omega)) hw) (fun b => ?_)
          have es : s = 2 ^ r + (s - 2 ^ r) := by omega
          have lo : ∀ i, i < r → s.testBit i = (s - 2 ^ r).testBit i := fun i hi => by rw [es, Nat.testBit_two_pow_add_gt hi]; congr 1; omega
          have hi : s.testBit r = true := by
            have z : (s - 2 ^ r).testBit r = false := Nat.testBit_lt_two_pow (by omega)
            have q := Nat.testBit_two_pow_add_eq (s - 2 ^ r) r
            rw [← es, z] at q
            exact q
          unfold nrP
          constructor
          · rintro (⟨b1, i, i1, i2, i3⟩ | ⟨b1, b2⟩)
            · exact ⟨b1, i, by omega, by rw [lo i i1]; exact i2, i3⟩
            · exact ⟨b1, r, by omega, hi, b2⟩
          · rintro ⟨b1, i, i1, i2, i3⟩
            by_cases e' : i = r
            · rw [e'] at i3; exact Or.inr ⟨b1, i3⟩
            · exact Or.inl ⟨b1, i, by omega, by rw [← lo i (by omega)]; exact i2, i3⟩
        · rw [upw_n e]; exact hO u (by omega)
      · rw [up2_c, upw_n (by omega)]; exact hB u hu
    · with_reducible refine T_ck (by omega) ?_
      have e : s = 2 ^ (r + 1) := by omega
      subst e
      exact cont σ hS hO
theorem c_fillNear_24 {K : Kt} {σ0 : Sg} {ρ : Nat → Int} {D : Int → (Nat → Int) → Option Int} {rec : Int → Sg → Option Sg} {Q : Sg → Prop} {N r : Nat} (hO : LwO K (fun k => k = 11 ∨ k = 12)) (hH : HallIs σ0 13 ρ) (hW : WF ρ) (hD : LawC K σ0 (σ0 1 5) D) (hN : ρ 0 = (N : Int)) (hr : (r : Int) < ρ 1) (hB : ∀ u, u < 2 ^ r → MK (σ0 74 u) (nrP (fun i b => canP D ρ (b : Int) (i : Int)) N r u))
    (cont : ∀ σ, Sme (fun k => k = 11 ∨ k = 12 ∨ k = 74) σ0 σ → nrOk (fun i b => canP D ρ (b : Int) (i : Int)) N (r + 1) (2 ^ (r + 1)) (σ 74) → T (rec ((r : Int) + 1) σ) Q) :
    ∀ (f x : Nat) (w : Int) (σ : Sg), N - x < f → x ≤ N → Sme (fun k => k = 11 ∨ k = 12) σ0 σ → MK w (fun b => b < x ∧ canP D ρ (b : Int) (r : Int)) → T (vX0_fillNear_24 K rec f (r : Int) w (x : Int) σ) Q := by
  have h08 := hW.1.1
  have h16 := hW.1.2.1
  have p3 := Nat.two_pow_pos r
  intro f
  induction f with
  | zero => intro x w σ h; omega
  | succ f ih =>
    intro x w σ hf hx hS hw
    have hHs := HallIs_k (by omega) hH hS
    have hDs : LawC K σ (σ 1 5) D := by rw [hS 1 (by omega)]; exact LawC_s hD hS hO
    rw [vX0_fillNear_24, show σ 13 1 = ρ 0 from hHs.1.1, hN]
    refine T_ite (fun h => ?_) (fun h => ?_)
    · refine T_bd2 (c_canHave (b := (x : Int)) (r := (r : Int)) (by omega) hO hHs hW hDs (by omega) (by omega)) (fun y σ1 h1 => ?_)
      dsimp only at h1
      obtain ⟨S1, hy⟩ := h1
      rw [show (x : Int) + 1 = ((x + 1 : Nat) : Int) by omega]
      by_cases c : canP D ρ (x : Int) (r : Int)
      · rw [bI_t c] at hy
        refine T_f (by omega) (T_nm ?_)
        with_reducible refine T_ck (by omega) ?_
        refine ih (x + 1) _ σ1 (by omega) (by omega) (Sme_t hS S1) (MK_p (MK_or hw (MK_bit (by omega))) (fun b => ?_))
        constructor
        · rintro (⟨b1, b2⟩ | e)
          · exact ⟨by omega, b2⟩
          · rw [e]; exact ⟨by omega, c⟩
        · rintro ⟨b1, b2⟩
          by_cases e : b = x
          · exact Or.inr e
          · exact Or.inl ⟨by omega, b2⟩
      · rw [bI_f c] at hy
        refine T_t hy ?_
        with_reducible refine T_ck (by omega) ?_
        refine ih (x + 1) w σ1 (by omega) (by omega) (Sme_t hS S1) (MK_p hw (fun b => ?_))
        constructor
        · rintro ⟨b1, b2⟩; exact ⟨by omega, b2⟩
        · rintro ⟨b1, b2⟩
          by_cases e : b = x
          · rw [e] at b2; exact absurd b2 c
          · exact ⟨by omega, b2⟩
    · have e : x = N := by omega
      subst e
      refine T_nm ?_
      rw [bShl_n (by omega)]
      have e74 : σ 74 = σ0 74 := hS 74 (by omega)
      refine c_fillNear_66 (σ0 := σ) (can := fun i b => canP D ρ (b : Int) (i : Int)) (N := x) (by omega) (by omega) hw (fun σ1 S1 O1 => cont σ1 (fun k hk => ?_) O1) FU (2 ^ r) σ ?_ (by omega) (Nat.pow_le_pow_right (by omega) (by omega)) Sme_r (fun u hu => ?_) (by rw [e74]; exact hB)
      · rw [S1 k (by omega), hS k (by omega)]
      · have : 2 ^ (r + 1) ≤ 2 ^ 6 := Nat.pow_le_pow_right (by omega) (by omega)
        have := FU_b
        omega
      · rw [e74]
        refine MK_p (hB u hu) (fun b => ?_)
        unfold nrP
        constructor
        · rintro ⟨b1, i, i1, i2⟩; exact ⟨b1, i, by omega, i2⟩
        · rintro ⟨b1, i, i1, i2, i3⟩
          by_cases e' : i = r
          · rw [e', Nat.testBit_lt_two_pow hu] at i2; cases i2
          · exact ⟨b1, i, by omega, i2, i3⟩
theorem c_fillNear_9 {K : Kt} {σ0 : Sg} {ρ : Nat → Int} {D : Int → (Nat → Int) → Option Int} {N R : Nat} (hO : LwO K (fun k => k = 11 ∨ k = 12 ∨ k = 74)) (hH : HallIs σ0 13 ρ) (hW : WF ρ) (hD : LawC K σ0 (σ0 1 5) D) (hN : ρ 0 = (N : Int)) (hR : ρ 1 = (R : Int)) :
    ∀ (f r : Nat) (σ : Sg), R - r < f → r ≤ R → Sme (fun k => k = 11 ∨ k = 12 ∨ k = 74) σ0 σ → nrOk (fun i b => canP D ρ (b : Int) (i : Int)) N r (2 ^ r) (σ 74) → T (vX0_fillNear_9 K f (r : Int) σ) (fun σ' => Sme (fun k => k = 11 ∨ k = 12 ∨ k = 74) σ0 σ' ∧ nrOk (fun i b => canP D ρ (b : Int) (i : Int)) N R (2 ^ R) (σ' 74)) := by
  have h08 := hW.1.1
  have h16 := hW.1.2.1
  intro f
  induction f with
  | zero => intro r σ h; omega
  | succ f ih =>
    intro r σ hf hr hS hB
    have hHs : HallIs σ 13 ρ := HallIs_s hH (fun k k1 k2 => hS k (by omega))
    have hDs : LawC K σ (σ 1 5) D := by rw [hS 1 (by omega)]; exact LawC_s hD hS hO
    rw [vX0_fillNear_9, show σ 13 2 = ρ 1 from hHs.1.2.1, hR]
    refine T_ite (fun h => ?_) (fun h => ?_)
    · refine c_fillNear_24 (σ0 := σ) (ρ := ρ) (D := D) (N := N) (LwO_m hO (fun k hk => by omega)) hHs hW hDs hN (by omega) hB (fun σ1 S1 O1 => ?_) FU 0 0 σ (by have := FU_b; omega) (by omega) Sme_r (MK_p MK_0 (fun b => ⟨fun q => q.elim, fun q => by have := q.1; omega⟩))
      rw [show (r : Int) + 1 = ((r + 1 : Nat) : Int) by omega]
      exact ih (r + 1) σ1 (by omega) (by omega) (Sme_t hS S1) O1
    · have e : r = R := by omega
      subst e
      exact T_some ⟨hS, hB⟩
/-! ===== pairs ===== -/
theorem c_mostPairs {K : Kt} {σ : Sg} {can : Nat → Nat → Prop} {N R r : Nat} {fr : Int} {F : Nat → Prop} (h8 : N ≤ 8) (hR6 : R ≤ 6) (hr : r ≤ R) (hg : σ 13 2 = (R : Int)) (hO : nrOk can N R (2 ^ R) (σ 74)) (hF : MK fr F) (hFN : ∀ b, F b → b < N) : vX0_mostPairs K (r : Int) fr σ = some (bst can R N (R - r) F) := by
  have p3 := Nat.two_pow_pos r
  have pR : 2 ^ R ≤ 64 := by
    have : 2 ^ R ≤ 2 ^ 6 := Nat.pow_le_pow_right (by omega) hR6
    omega
  have pr : 2 ^ r ≤ 2 ^ R := Nat.pow_le_pow_right (by omega) hr
  have lt8 : ∀ s, s < 2 ^ R → ∀ i, s.testBit i = true → i < R := by
    intro s hs i hi
    rcases Nat.lt_or_ge i R with q | q
    · exact q
    · have : s.testBit i = false := Nat.testBit_lt_two_pow (Nat.lt_of_lt_of_le hs (Nat.pow_le_pow_right (by omega) q))
      rw [this] at hi; cases hi
  have val : ∀ s, s < 2 ^ R → ((R : Int) - (r : Int)) - cnS (fun i => s.testBit i = true) 8 + cnS (fun b => nrP can N R s b ∧ F b) 8 = gH can R N r F (fun i => s.testBit i = true) := by
    intro s hs
    unfold gH
    rw [cnS_ext (lt8 s hs) 8 (by omega)]
    have e1 : cnS (fun b => nrP can N R s b ∧ F b) 8 = cnS (fun b => nrP can N R s b ∧ F b) N := cnS_ext (fun b q => q.1.1) 8 h8
    have e2 : cnS (fun b => nrP can N R s b ∧ F b) N = cnS (fun b => F b ∧ NB can (fun i => s.testBit i = true) b) N := cnS_c N (fun b hb => ⟨fun ⟨⟨_, i, i1, i2, i3⟩, q⟩ => ⟨q, i, i2, i3⟩, fun ⟨q, i, i2, i3⟩ => ⟨⟨hb, i, lt8 s hs i i2, i2, i3⟩, q⟩⟩)
    rw [e1, e2]
  have loop : ∀ (f j : Nat) (x4 : Int), 2 ^ R - j * 2 ^ r < f → (j = 0 ∨ (j - 1) * 2 ^ r < 2 ^ R) → ((j = 0 ∧ x4 = (R : Int) - (r : Int)) ∨ ((∀ j', j' < j → x4 ≤ gH can R N r F (fun i => (j' * 2 ^ r).testBit i = true)) ∧ ∃ j', j' < j ∧ x4 = gH can R N r F (fun i => (j' * 2 ^ r).testBit i = true))) →
      T (vX0_mostPairs_16 K σ f (r : Int) fr ((R : Int) - (r : Int)) x4 ((j * 2 ^ r : Nat) : Int)) (fun v => ∃ j, 2 ^ R ≤ j * 2 ^ r ∧ (j = 0 ∨ (j - 1) * 2 ^ r < 2 ^ R) ∧ (∀ j', j' < j → v ≤ gH can R N r F (fun i => (j' * 2 ^ r).testBit i = true)) ∧ ∃ j', j' < j ∧ v = gH can R N r F (fun i => (j' * 2 ^ r).testBit i = true)) := by
    intro f
    induction f with
    | zero => intro j x4 h; omega
    | succ f ih =>
      intro j x4 hf hj hI
      rw [vX0_mostPairs_16, hg, bShl_n (by omega)]
      refine T_ite (fun h => ?_) (fun h => ?_)
      · have hlt : j * 2 ^ r < 2 ^ R := by omega
        rw [c_bits8 (by omega), Option.bind_some, Int.toNat_natCast]
        have cb := cnS_b (fun i => (j * 2 ^ r).testBit i = true) 8
        with_reducible refine T_ck (by omega) ?_
        with_reducible refine T_ck (by omega) ?_
        rw [MK_pc (MK_and (hO (j * 2 ^ r) hlt) hF), Option.bind_some]
        have cb2 := cnS_b (fun b => nrP can N R (j * 2 ^ r) b ∧ F b) 8
        rw [val _ hlt]
        have v := val _ hlt
        with_reducible refine T_ck (by omega) ?_
        refine T_nm (T_nm ?_)
        rw [bShl_n (by omega)]
        with_reducible refine T_ck (by omega) ?_
        refine T_nm ?_
        have e1 : ((j * 2 ^ r : Nat) : Int) + ((2 ^ r : Nat) : Int) = (((j + 1) * 2 ^ r : Nat) : Int) := by rw [Nat.add_mul, Nat.one_mul]; omega
        rw [e1]
        have im := imin_l x4 (gH can R N r F (fun i => (j * 2 ^ r).testBit i = true))
        refine ih (j + 1) _ (by clear hI; rw [Nat.add_mul, Nat.one_mul]; omega) (Or.inr (by rw [show j + 1 - 1 = j by omega]; exact hlt)) (Or.inr ?_)
        rcases hI with ⟨j0, x0⟩ | ⟨a1, a2⟩
        · subst j0
          have z : gH can R N r F (fun i => (0 * 2 ^ r).testBit i = true) = (R : Int) - (r : Int) := by
            have c0 : ∀ n, cnS (fun i => (0 * 2 ^ r).testBit i = true) n = 0 := by
              intro n
              induction n with
              | zero => rfl
              | succ n ih' => rw [cnS, ih', bI_f (fun q => by rw [Nat.zero_mul, Nat.zero_testBit] at q; cases q)]; rfl
            have c1 : ∀ n, cnS (fun b => F b ∧ NB can (fun i => (0 * 2 ^ r).testBit i = true) b) n = 0 := by
              intro n
              induction n with
              | zero => rfl
              | succ n ih' => rw [cnS, ih', bI_f (fun ⟨_, i, q, _⟩ => by rw [Nat.zero_mul, Nat.zero_testBit] at q; cases q)]; rfl
            unfold gH
            rw [c0, c1]
            omega
          refine ⟨fun j' hj' => ?_, 0, by omega, by omega⟩
          have : j' = 0 := by omega
          subst this
          omega
        · refine ⟨fun j' hj' => ?_, ?_⟩
          · by_cases e : j' = j
            · rw [e]; omega
            · have := a1 j' (by omega); omega
          · rcases im.2.2 with e | e
            · obtain ⟨j', b1, b2⟩ := a2
              exact ⟨j', by omega, by rw [e]; exact b2⟩
            · exact ⟨j, by omega, e⟩
      · rcases hI with ⟨j0, x0⟩ | ⟨a1, a2⟩
        · subst j0
          have := Nat.two_pow_pos R
          omega
        · exact T_some ⟨j, by omega, hj, a1, a2⟩
  have run := loop FU 0 ((R : Int) - (r : Int)) (by have := FU_b; omega) (Or.inl rfl) (Or.inl ⟨rfl, rfl⟩)
  obtain ⟨v, e, j, j1, j2, j3, j4⟩ := run
  have hv : IsMin can R N r F v := by
    have low : ∀ s, s % 2 ^ r = 0 → ∀ i, s.testBit i = true → r ≤ i := by
      intro s hs i hi
      rcases Nat.lt_or_ge i r with q | q
      · have := Nat.testBit_mod_two_pow s r i
        rw [hs, Nat.zero_testBit] at this
        simp [q, hi] at this
      · exact q
    refine ⟨fun S hS => ?_, ?_⟩
    · obtain ⟨m, m1, m2⟩ := mask_e R S (fun i q => (hS i q).2)
      have m0 : m % 2 ^ r = 0 := by
        apply Nat.eq_of_testBit_eq
        intro i
        rw [Nat.testBit_mod_two_pow, Nat.zero_testBit]
        by_cases q : m.testBit i = true
        · have := (hS i ((m2 i).mp q)).1
          simp [show ¬ i < r by omega]
        · have : m.testBit i = false := by simpa using q
          rw [this, Bool.and_false]
      have em : m / 2 ^ r * 2 ^ r = m := Nat.div_mul_cancel (Nat.dvd_of_mod_eq_zero m0)
      have lt : m / 2 ^ r < j := by
        rcases Nat.lt_or_ge (m / 2 ^ r) j with q | q
        · exact q
        · have := Nat.mul_le_mul_right (2 ^ r) q
          omega
      have := j3 _ lt
      rw [em] at this
      have eS : S = (fun i => m.testBit i = true) := funext (fun i => propext (m2 i).symm)
      rw [eS]; exact this
    · obtain ⟨j', k1, k2⟩ := j4
      have lt : j' * 2 ^ r < 2 ^ R := by
        have := Nat.mul_le_mul_right (2 ^ r) (show j' ≤ j - 1 by omega)
        rcases j2 with z | z
        · omega
        · omega
      exact ⟨_, fun i hi => ⟨low _ (Nat.mul_mod_left _ _) i hi, lt8 _ lt i hi⟩, k2.symm⟩
  have hb := bst_hall (can := can) (R := R) (N := N) (R - r) (by omega) F
  rw [show R - (R - r) = r by omega] at hb
  unfold vX0_mostPairs
  rw [hg, ck_p (by omega)]
  simp only [nm]
  have e' : vX0_mostPairs_16 K σ FU (r : Int) fr ((R : Int) - (r : Int)) ((R : Int) - (r : Int)) 0 = some v := by
    rw [Nat.zero_mul] at e
    exact e
  rw [e', IsMin_u hv hb]
