/-! ===== the fewest readers by whom all can be had ===== -/
theorem bAnd_le (y : Int) {m : Nat} (hm : m < 2147483648) : 0 ≤ bAnd y (m : Int) ∧ bAnd y (m : Int) ≤ (m : Int) := by
  unfold bAnd
  have e : (Int32.ofInt y &&& Int32.ofInt (m : Int)).toBitVec = (Int32.ofInt y).toBitVec &&& BitVec.ofNat 32 m := by rw [Int32.toBitVec_and, i32_bv]
  have h : (Int32.ofInt y &&& Int32.ofInt (m : Int)).toBitVec.toNat ≤ m := by
    rw [e, BitVec.toNat_and, BitVec.toNat_ofNat, Nat.mod_eq_of_lt (by omega)]
    exact Nat.and_le_right
  have h2 : (Int32.ofInt y &&& Int32.ofInt (m : Int)).toInt = ((Int32.ofInt y &&& Int32.ofInt (m : Int)).toBitVec.toNat : Int) := by
    show (Int32.ofInt y &&& Int32.ofInt (m : Int)).toBitVec.toInt = _
    rw [BitVec.toInt_eq_toNat_of_lt (by omega)]
  omega
theorem and_1 (m : Nat) : m &&& 1 = m % 2 := Nat.and_one_is_mod m
theorem bit_m {s : Int} {k : Nat} (hs : 0 ≤ s ∧ s < 2147483648) (hk : k < 31) : bAnd (bShr s (k : Int)) 1 = if tb s k then 1 else 0 := by
  obtain ⟨m, e, -⟩ := bI_n s hs.1
  subst e
  have hle : m >>> k ≤ m := by rw [Nat.shiftRight_eq_div_pow]; exact Nat.div_le_self _ _
  rw [bShr_n (by omega) (by omega), show (1 : Int) = ((1 : Nat) : Int) from rfl, bAnd_n (by omega), tb_n, and_1, Nat.testBit_eq_decide_div_mod_eq, Nat.shiftRight_eq_div_pow]
  by_cases h : m / 2 ^ k % 2 = 1
  · rw [h]; simp
  · have : m / 2 ^ k % 2 = 0 := by omega
    rw [this]; simp
theorem bit_c {s : Int} {k : Nat} (hs : 0 ≤ s ∧ s < 2147483648) (hk : k < 31) : bAnd s (bShl 1 (k : Int)) = 0 ↔ tb s k = false := by
  obtain ⟨m, e, -⟩ := bI_n s hs.1
  subst e
  rw [bShl_n hk, bAnd_n (by omega), tb_n]
  constructor
  · intro h
    have h0 : m &&& 2 ^ k = 0 := by omega
    have := congrArg (fun z => Nat.testBit z k) h0
    simp only [Nat.testBit_and, Nat.testBit_two_pow_self, Bool.and_true, Nat.zero_testBit] at this
    exact this
  · intro h
    have h0 : m &&& 2 ^ k = 0 := by
      apply Nat.eq_of_testBit_eq
      intro i
      rw [Nat.testBit_and, Nat.zero_testBit]
      by_cases e : k = i
      · rw [← e, h]; rfl
      · rw [Nat.testBit_two_pow_of_ne e, Bool.and_false]
    rw [h0]; rfl
def pc (x : Int) : Nat → Int
  | 0 => 0
  | j + 1 => pc x j + bAnd (bShr x (j : Int)) 1
theorem pc_b (x : Int) : ∀ j : Nat, 0 ≤ pc x j ∧ pc x j ≤ (j : Int)
  | 0 => by rw [pc]; omega
  | j + 1 => by
    have := pc_b x j
    have h1 : 0 ≤ bAnd (bShr x (j : Int)) 1 ∧ bAnd (bShr x (j : Int)) 1 ≤ 1 := bAnd_le (bShr x (j : Int)) (m := 1) (by omega)
    rw [pc]
    omega
theorem m_ones_4 {σ : Sg} {x : Int} : ∀ (f j : Nat), 8 - j < f → j ≤ 8 → T (vX10_ones_4 σ f x (pc x j) (j : Int)) (fun p => p = pc x 8) := by
  intro f
  induction f with
  | zero => intro j h; omega
  | succ f ih =>
    intro j hf hj
    rw [vX10_ones_4]
    refine T_ite (fun h => ?_) (fun h => ?_)
    · have es : pc x (j + 1) = pc x j + bAnd (bShr x (j : Int)) 1 := rfl
      have b := pc_b x (j + 1)
      rw [← es, show (j : Int) + 1 = ((j + 1 : Nat) : Int) by omega]
      repeat (with_reducible first | refine T_ck (by omega) ?_ | refine T_nm ?_)
      exact ih (j + 1) (by omega) (by omega)
    · rw [show j = 8 by omega]
      exact T_some rfl
theorem m_ones {σ : Sg} {x : Int} : vX10_ones x σ = some (pc x 8) := by
  obtain ⟨a, e, h⟩ := m_ones_4 (σ := σ) (x := x) FU 0 (by have := FU_b; omega) (by omega)
  have e' : vX10_ones x σ = some a := e
  rw [e', h]
theorem bc_tab : ∀ x : Fin 64, vJ6_bitCount_0f7a4 (x.val : Int) (fun _ _ => 0) = some (pc (x.val : Int) 8) := by decide +kernel
theorem c_bits {σ : Sg} {x : Int} (h : 0 ≤ x ∧ x < 64) : vJ6_bitCount_0f7a4 x σ = some (pc x 8) := by
  obtain ⟨m, e, -⟩ := bI_n x h.1
  subst e
  exact bc_tab ⟨m, by omega⟩
/-- the books that some of these readers fit -/
noncomputable def ftb (ρ : Nat → Int) (s : Int) (r : Nat) (acc : Int) : Nat → Int
  | 0 => acc
  | b + 1 => @ite Int (tb s r = true ∧ fitP ρ (b : Int) (ρ (17 + (r : Int)).toNat)) (Classical.propDecidable _) (bOr (ftb ρ s r acc b) (bShl 1 (b : Int))) (ftb ρ s r acc b)
noncomputable def ftr (ρ : Nat → Int) (s : Int) : Nat → Int
  | 0 => 0
  | r + 1 => ftb ρ s r (ftr ρ s r) (ρ 0).toNat
theorem ftb_b {ρ : Nat → Int} {s : Int} {r : Nat} {acc : Int} (ha : 0 ≤ acc ∧ acc ≤ 255) : ∀ b : Nat, b ≤ 8 → 0 ≤ ftb ρ s r acc b ∧ ftb ρ s r acc b ≤ 255
  | 0, _ => ha
  | b + 1, h => by
    have ih := ftb_b (ρ := ρ) (s := s) (r := r) ha b (by omega)
    rw [ftb]
    by_cases c : tb s r = true ∧ fitP ρ (b : Int) (ρ (17 + (r : Int)).toNat)
    · rw [if_pos c]
      have := bShl_r (b := (b : Int)) (by omega)
      exact bOr_255 ih (by omega)
    · rw [if_neg c]; exact ih
theorem ftr_b {ρ : Nat → Int} {s : Int} (h08 : 0 ≤ ρ 0 ∧ ρ 0 ≤ 8) : ∀ r : Nat, 0 ≤ ftr ρ s r ∧ ftr ρ s r ≤ 255
  | 0 => by rw [ftr]; omega
  | r + 1 => by rw [ftr]; exact ftb_b (ftr_b h08 r) _ (by omega)
theorem c_fittedBy_18 {K : Kt} {σ : Sg} {ρ : Nat → Int} {rec : Int → Int → Int → Option Int} {s acc : Int} {r : Nat} {Q : Int → Prop} (hH : HallIs σ 13 ρ) (hW : WF ρ) (hs : 0 ≤ s ∧ s < 64) (hr : (r : Int) < ρ 1) (cont : T (rec s (ftb ρ s r acc (ρ 0).toNat) ((r : Int) + 1)) Q) : ∀ (f b : Nat), (ρ 0).toNat - b < f → (b : Int) ≤ ρ 0 → T (vX0_fittedBy_18 K σ rec f s (ftb ρ s r acc b) (r : Int) (b : Int)) Q := by
  have h08 := hW.1.1
  have h16 := hW.1.2.1
  intro f
  induction f with
  | zero => intro b h; omega
  | succ f ih =>
    intro b hf hb
    obtain ⟨⟨g0, g1, g8⟩, gB, gR, -⟩ := H13 hH
    rw [vX0_fittedBy_18, g0]
    refine T_ite (fun h => ?_) (fun h => ?_)
    · have nx := ih (b + 1) (by omega) (by omega)
      have es : ftb ρ s r acc (b + 1) = @ite Int (tb s r = true ∧ fitP ρ (b : Int) (ρ (17 + (r : Int)).toNat)) (Classical.propDecidable _) (bOr (ftb ρ s r acc b) (bShl 1 (b : Int))) (ftb ρ s r acc b) := rfl
      rw [show (b : Int) + 1 = ((b + 1 : Nat) : Int) by omega]
      refine T_ite (fun c => ?_) (fun c => ?_)
      · rw [bit_c (by omega) (by omega)] at c
        rw [if_neg (fun h => by rw [c] at h; exact absurd h.1 (by decide))] at es
        with_reducible refine T_ck (by omega) ?_
        rw [← es]; exact nx
      · rw [bit_c (by omega) (by omega)] at c
        with_reducible refine T_ck (by omega) ?_
        rw [(gR r (by omega) (by omega)).1, c_fits hH (by omega), Option.bind_some]
        by_cases hf : fitP ρ (b : Int) (ρ (17 + (r : Int)).toNat)
        · rw [if_pos ⟨by simpa using c, hf⟩] at es
          refine T_f (by rw [bI_t hf]; omega) (T_nm ?_)
          with_reducible refine T_ck (by omega) ?_
          rw [← es]; exact nx
        · rw [if_neg (fun h => hf h.2)] at es
          refine T_t (bI_f hf) ?_
          with_reducible refine T_ck (by omega) ?_
          rw [← es]; exact nx
    · rw [show (ρ 0).toNat = b by omega] at cont
      with_reducible refine T_ck (by omega) ?_
      exact cont
theorem c_fittedBy_4 {K : Kt} {σ : Sg} {ρ : Nat → Int} {s : Int} (hH : HallIs σ 13 ρ) (hW : WF ρ) (hs : 0 ≤ s ∧ s < 64) : ∀ (f r : Nat), (ρ 1).toNat - r < f → (r : Int) ≤ ρ 1 → T (vX0_fittedBy_4 K σ f s (ftr ρ s r) (r : Int)) (fun p => p = ftr ρ s (ρ 1).toNat) := by
  have h08 := hW.1.1
  have h16 := hW.1.2.1
  intro f
  induction f with
  | zero => intro b h; omega
  | succ f ih =>
    intro r hf hr
    rw [vX0_fittedBy_4, show σ 13 2 = ρ 1 from hH.1.2.1]
    refine T_ite (fun h => ?_) (fun h => ?_)
    · refine c_fittedBy_18 (acc := ftr ρ s r) hH hW hs h ?_ FU 0 (by have := FU_b; omega) (by omega)
      have nx := ih (r + 1) (by omega) (by omega)
      rw [ftr, show ((r + 1 : Nat) : Int) = (r : Int) + 1 by omega] at nx
      exact nx
    · rw [show (ρ 1).toNat = r by omega]; exact T_some rfl
theorem c_fittedBy {K : Kt} {σ : Sg} {ρ : Nat → Int} {s : Int} (hH : HallIs σ 13 ρ) (hW : WF ρ) (hs : 0 ≤ s ∧ s < 64) : vX0_fittedBy K s σ = some (ftr ρ s (ρ 1).toNat) := by
  obtain ⟨a, e, h⟩ := c_fittedBy_4 (K := K) hH hW hs FU 0 (by have := FU_b; have := hW.1.2.1; omega) (by have := hW.1.2.1; omega)
  have e' : vX0_fittedBy K s σ = some a := e
  rw [e', h]
theorem m_is {σ : Sg} {s : Int} {k : Nat} (hs : 0 ≤ s ∧ s < 2147483648) (hk : k < 31) : vX10_is s (k : Int) σ = some (if tb s k then 1 else 0) := by
  unfold vX10_is
  rw [bit_m hs hk]
  cases tb s k <;> rfl
theorem m_fittedBy_17 {σ : Sg} {rec : Int → Int → Int → Option Int} {s acc : Int} {r : Nat} {Q : Int → Prop} (hW : WF (σ 86)) (hs : 0 ≤ s ∧ s < 64) (hr : (r : Int) < σ 86 1) (ha : 0 ≤ acc ∧ acc ≤ 255) (cont : T (rec s (ftb (σ 86) s r acc (σ 86 0).toNat) ((r : Int) + 1)) Q) : ∀ (f b : Nat), (σ 86 0).toNat - b < f → (b : Int) ≤ σ 86 0 → T (vX10_fittedBy_17 σ rec f s (ftb (σ 86) s r acc b) (r : Int) (b : Int)) Q := by
  have h08 := hW.1.1
  have h16 := hW.1.2.1
  intro f
  induction f with
  | zero => intro b h; omega
  | succ f ih =>
    intro b hf hb
    rw [vX10_fittedBy_17]
    refine T_ite (fun h => ?_) (fun h => ?_)
    · have nx := ih (b + 1) (by omega) (by omega)
      have bb := ftb_b (ρ := σ 86) (s := s) (r := r) ha b (by omega)
      have es : ftb (σ 86) s r acc (b + 1) = @ite Int (tb s r = true ∧ fitP (σ 86) (b : Int) (σ 86 (17 + (r : Int)).toNat)) (Classical.propDecidable _) (bOr (ftb (σ 86) s r acc b) (bShl 1 (b : Int))) (ftb (σ 86) s r acc b) := rfl
      rw [show (b : Int) + 1 = ((b + 1 : Nat) : Int) by omega, m_is (by omega) (by omega), Option.bind_some]
      cases c : tb s r with
      | false =>
        rw [c, if_neg (fun h => absurd h.1 (by decide))] at es
        refine T_t rfl (T_nm ?_)
        with_reducible refine T_ck (by omega) ?_
        rw [bOr_0 (by omega), ← es]; exact nx
      | true =>
        refine T_f (by decide) ?_
        rw [m_isFitting (by omega) (by omega), Option.bind_some]
        by_cases hf : fitP (σ 86) (b : Int) (σ 86 (17 + (r : Int)).toNat)
        · rw [if_pos ⟨c, hf⟩] at es
          refine T_f (by rw [bI_t hf]; omega) (T_nm ?_)
          with_reducible refine T_ck (by omega) ?_
          rw [← es]; exact nx
        · rw [if_neg (fun h => hf h.2)] at es
          refine T_t (bI_f hf) (T_nm ?_)
          with_reducible refine T_ck (by omega) ?_
          rw [bOr_0 (by omega), ← es]; exact nx
    · rw [show (σ 86 0).toNat = b by omega] at cont
      with_reducible refine T_ck (by omega) ?_
      exact cont
theorem m_fittedBy_4 {σ : Sg} {s : Int} (hW : WF (σ 86)) (hs : 0 ≤ s ∧ s < 64) : ∀ (f r : Nat), (σ 86 1).toNat - r < f → (r : Int) ≤ σ 86 1 → T (vX10_fittedBy_4 σ f s (ftr (σ 86) s r) (r : Int)) (fun p => p = ftr (σ 86) s (σ 86 1).toNat) := by
  have h08 := hW.1.1
  have h16 := hW.1.2.1
  intro f
  induction f with
  | zero => intro b h; omega
  | succ f ih =>
    intro r hf hr
    rw [vX10_fittedBy_4]
    refine T_ite (fun h => ?_) (fun h => ?_)
    · refine m_fittedBy_17 (acc := ftr (σ 86) s r) hW hs h (ftr_b h08 r) ?_ FU 0 (by have := FU_b; omega) (by omega)
      have nx := ih (r + 1) (by omega) (by omega)
      rw [ftr, show ((r + 1 : Nat) : Int) = (r : Int) + 1 by omega] at nx
      exact nx
    · rw [show (σ 86 1).toNat = r by omega]; exact T_some rfl
theorem m_fittedBy {σ : Sg} {s : Int} (hW : WF (σ 86)) (hs : 0 ≤ s ∧ s < 64) : vX10_fittedBy s σ = some (ftr (σ 86) s (σ 86 1).toNat) := by
  obtain ⟨a, e, h⟩ := m_fittedBy_4 hW hs FU 0 (by have := FU_b; have := hW.1.2.1; omega) (by have := hW.1.2.1; omega)
  have e' : vX10_fittedBy s σ = some a := e
  rw [e', h]
/-- the set of readers sought -/
def alP (P : Int → Prop) (A t : Int) : Prop := (0 ≤ t ∧ t ≤ A) ∧ P t ∧ (∀ s, 0 ≤ s → s ≤ A → P s → pc t 8 ≤ pc s 8) ∧ ∀ s, 0 ≤ s → s < t → P s → pc t 8 < pc s 8
theorem alP_u {P : Int → Prop} {A t u : Int} (h : alP P A t) (h' : alP P A u) : t = u := by
  obtain ⟨a, b, c, d⟩ := h
  obtain ⟨a', b', c', d'⟩ := h'
  have x := c u (by omega) (by omega) b'
  have y := c' t (by omega) (by omega) b
  rcases Int.lt_trichotomy t u with l | l | l
  · have := d' t (by omega) l b; omega
  · exact l
  · have := d u (by omega) l b'; omega
theorem c_fewest_30 {K : Kt} {σ : Sg} {ρ : Nat → Int} {A : Int} (hH : HallIs σ 13 ρ) (hW : WF ρ) (hA : 0 ≤ A ∧ A < 64) : ∀ (f : Nat) (t s : Int), (s + 1).toNat < f → -1 ≤ s → s ≤ A → (0 ≤ t ∧ t ≤ A) → ftr ρ t (ρ 1).toNat = ftr ρ A (ρ 1).toNat → (∀ u, s < u → u ≤ A → ftr ρ u (ρ 1).toNat = ftr ρ A (ρ 1).toNat → pc t 8 ≤ pc u 8) → (∀ u, s < u → u < t → ftr ρ u (ρ 1).toNat = ftr ρ A (ρ 1).toNat → pc t 8 < pc u 8) →
    T (vX0_fewestReaders_30 K σ f (ftr ρ A (ρ 1).toNat) t s) (fun p => alP (fun u => ftr ρ u (ρ 1).toNat = ftr ρ A (ρ 1).toNat) A p) := by
  intro f
  induction f with
  | zero => intro t s h; omega
  | succ f ih =>
    intro t s hf h1 h2 ht hP h3 h4
    rw [vX0_fewestReaders_30]
    refine T_ite (fun h => T_some ⟨ht, hP, fun u u0 u1 => h3 u (by omega) u1, fun u u0 u1 => h4 u (by omega) u1⟩) (fun h => ?_)
    rw [c_bits (by omega), Option.bind_some, c_bits (by omega), Option.bind_some]
    refine T_ite (fun c => ?_) (fun c => ?_)
    · with_reducible refine T_ck (by omega) ?_
      refine ih t (s + -1) (by omega) (by omega) (by omega) ht hP (fun u u0 u1 hu => ?_) (fun u u0 u1 hu => ?_)
      · by_cases e : u = s
        · rw [e]; omega
        · exact h3 u (by omega) u1 hu
      · by_cases e : u = s
        · rw [e]; exact c
        · exact h4 u (by omega) u1 hu
    · rw [c_fittedBy hH hW (by omega), Option.bind_some]
      refine T_ite (fun c2 => ?_) (fun c2 => ?_)
      · with_reducible refine T_ck (by omega) ?_
        refine ih s (s + -1) (by omega) (by omega) (by omega) (by omega) c2 (fun u u0 u1 hu => ?_) (fun u u0 u1 hu => by omega)
        by_cases e : u = s
        · rw [e]; omega
        · have := h3 u (by omega) u1 hu; omega
      · with_reducible refine T_ck (by omega) ?_
        refine ih t (s + -1) (by omega) (by omega) (by omega) ht hP (fun u u0 u1 hu => ?_) (fun u u0 u1 hu => ?_)
        · by_cases e : u = s
          · rw [e] at hu; exact absurd hu c2
          · exact h3 u (by omega) u1 hu
        · by_cases e : u = s
          · rw [e] at hu; exact absurd hu c2
          · exact h4 u (by omega) u1 hu
theorem m_all_38 {σ : Sg} {A w : Int} (hW : WF (σ 86)) (hA : 0 ≤ A ∧ A < 64) : ∀ (f : Nat) (c t s : Int), (A + 1 - s).toNat < f → 0 ≤ s → s ≤ A + 1 → ((t = -1 ∧ c = 100000000 ∧ ∀ u, 0 ≤ u → u < s → ftr (σ 86) u (σ 86 1).toNat ≠ ftr (σ 86) A (σ 86 1).toNat) ∨ ((0 ≤ t ∧ t < s) ∧ c = pc t 8 ∧ ftr (σ 86) t (σ 86 1).toNat = ftr (σ 86) A (σ 86 1).toNat ∧ (∀ u, 0 ≤ u → u < s → ftr (σ 86) u (σ 86 1).toNat = ftr (σ 86) A (σ 86 1).toNat → pc t 8 ≤ pc u 8) ∧ (∀ u, 0 ≤ u → u < t → ftr (σ 86) u (σ 86 1).toNat = ftr (σ 86) A (σ 86 1).toNat → pc t 8 < pc u 8))) →
    T (vX10_all_38 f w A c t s σ) (fun p => ∃ t, alP (fun u => ftr (σ 86) u (σ 86 1).toNat = ftr (σ 86) A (σ 86 1).toNat) A t ∧ p.1 = (if w = 0 then pc t 8 else t) ∧ p.2 = σ) := by
  intro f
  induction f with
  | zero => intro c t s h; omega
  | succ f ih =>
    intro c t s hf h1 h2 hI
    rw [vX10_all_38]
    refine T_ite (fun h => ?_) (fun h => ?_)
    · have e : s = A + 1 := by omega
      rcases hI with ⟨a, b, d⟩ | ⟨a, b, d, e1, e2⟩
      · exact absurd rfl (d A (by omega) (by omega))
      · have fin : alP (fun u => ftr (σ 86) u (σ 86 1).toNat = ftr (σ 86) A (σ 86 1).toNat) A t := ⟨by omega, d, fun u u0 u1 => e1 u u0 (by omega), e2⟩
        refine T_ite (fun c0 => T_some ⟨t, fin, by rw [if_pos c0]; exact b, rfl⟩) (fun c0 => T_some ⟨t, fin, by rw [if_neg c0], rfl⟩)
    · rw [m_ones, Option.bind_some]
      have pb := pc_b s 8
      have no : ((∃ hh : ftr (σ 86) s (σ 86 1).toNat = ftr (σ 86) A (σ 86 1).toNat, ¬ pc s 8 < c) ∨ ftr (σ 86) s (σ 86 1).toNat ≠ ftr (σ 86) A (σ 86 1).toNat) → T (vX10_all_71 (vX10_all_38 f) w A c t s σ) (fun p => ∃ t, alP (fun u => ftr (σ 86) u (σ 86 1).toNat = ftr (σ 86) A (σ 86 1).toNat) A t ∧ p.1 = (if w = 0 then pc t 8 else t) ∧ p.2 = σ) := by
        intro hn
        unfold vX10_all_71 vX10_all_72 vX10_all_86
        refine T_t rfl (T_t rfl ?_)
        with_reducible refine T_ck (by omega) ?_
        refine ih c t (s + 1) (by omega) (by omega) (by omega) ?_
        rcases hI with ⟨a, b, d⟩ | ⟨a, b, d, e1, e2⟩
        · refine Or.inl ⟨a, b, fun u u0 u1 => ?_⟩
          by_cases e : u = s
          · rw [e]
            rcases hn with ⟨_, x⟩ | x
            · omega
            · exact x
          · exact d u u0 (by omega)
        · refine Or.inr ⟨by omega, b, d, fun u u0 u1 hu => ?_, e2⟩
          by_cases e : u = s
          · rw [e]
            rcases hn with ⟨_, x⟩ | x
            · omega
            · rw [e] at hu; exact absurd hu x
          · exact e1 u u0 (by omega) hu
      refine T_ite (fun hlt => ?_) (fun hlt => ?_)
      · rw [m_fittedBy hW (by omega), Option.bind_some, m_fittedBy hW (by omega), Option.bind_some]
        refine T_ite (fun c2 => ?_) (fun c2 => no (Or.inr c2))
        unfold vX10_all_72 vX10_all_86
        refine T_f (by decide) (T_f (by decide) ?_)
        rw [m_ones, Option.bind_some]
        with_reducible refine T_ck (by omega) ?_
        refine ih _ s (s + 1) (by omega) (by omega) (by omega) (Or.inr ⟨by omega, rfl, c2, fun u u0 u1 hu => ?_, fun u u0 u1 hu => ?_⟩)
        · by_cases e : u = s
          · rw [e]; omega
          · rcases hI with ⟨a, b, d⟩ | ⟨a, b, d, e1, e2⟩
            · exact absurd hu (d u u0 (by omega))
            · have := e1 u u0 (by omega) hu; omega
        · rcases hI with ⟨a, b, d⟩ | ⟨a, b, d, e1, e2⟩
          · exact absurd hu (d u u0 u1)
          · have := e1 u u0 u1 hu; omega
      · by_cases c2 : ftr (σ 86) s (σ 86 1).toNat = ftr (σ 86) A (σ 86 1).toNat
        · exact no (Or.inl ⟨c2, hlt⟩)
        · exact no (Or.inr c2)
theorem shl_6 {r : Int} (h : 0 ≤ r ∧ r ≤ 6) : 1 ≤ bShl 1 r ∧ bShl 1 r ≤ 64 := by
  obtain ⟨m, e, -⟩ := bI_n r h.1
  subst e
  rw [bShl_n (by omega)]
  have h1 : 2 ^ m ≤ 2 ^ 6 := Nat.pow_le_pow_right (by omega) (by omega)
  have h2 : 0 < 2 ^ m := Nat.two_pow_pos m
  omega
theorem s_all {K : Kt} {σ : Sg} {n w : Int} (hI : Inv K σ n) : St0 K n (vX9_all K w σ) (vX10_all w σ) := by
  obtain ⟨⟨hK, ⟨hW, hH⟩, hL, hU, hD, hT, hM, hC⟩, hS⟩ := id hI
  have h16 := hW.1.2.1
  have g1 : σ 13 2 = σ 86 1 := hH.1.2.1
  have sh := shl_6 h16
  have hI' := Inv_scr hI (Scr_0 (z := 0) Scr_r)
  have e86 : up2 σ 84 0 0 86 = σ 86 := u84o (by omega)
  unfold vX9_all vX10_all
  rw [c_within, Option.bind_some]
  by_cases hw : 0 ≤ w ∧ w ≤ 1
  · refine T_f (by rw [bI_t hw]; omega) ?_
    unfold vX0_fewestReaders
    rw [g1, ck_p (by omega), c_fittedBy hH hW (by omega), Option.bind_some, ck_p (by omega)]
    refine T_bind (T_nm (c_fewest_30 (K := K) (A := bShl 1 (σ 86 1) - 1) hH hW (by omega) FU (bShl 1 (σ 86 1) - 1) (bShl 1 (σ 86 1) - 1) (by have := FU_b; omega) (by omega) (by omega) (by omega) rfl (fun u u0 u1 => by omega) (fun u u0 u1 => by omega))) (fun t ht => ?_)
    have go : T (nm (up2 σ 84 0 0) (fun σ1 => (vX10_in w 0 1 σ1).bind (fun r2 => if r2 = 0 then (some ((-1), σ1)) else (ck (in32 ((bShl 1 (σ1 86 1)) - 1)) (nm ((bShl 1 (σ1 86 1)) - 1) (fun z4 => vX10_all_38 FU w z4 100000000 (-1) 0 σ1)))))) (fun q => q.1 = (if w = 0 then pc t 8 else t) ∧ Inv K q.2 (n + 1)) := by
      refine T_nm ?_
      rw [m_in, Option.bind_some]
      refine T_f (by rw [bI_t hw]; omega) ?_
      rw [e86]
      repeat (with_reducible first | refine T_ck (by omega) ?_ | refine T_nm ?_)
      refine T_mono (m_all_38 (σ := up2 σ 84 0 0) (A := bShl 1 (σ 86 1) - 1) (w := w) (by rw [e86]; exact hW) (by omega) FU 100000000 (-1) 0 (by have := FU_b; omega) (by omega) (by omega) (Or.inl ⟨rfl, rfl, fun u u0 u1 => by omega⟩)) (fun q hq => ?_)
      obtain ⟨t', h1, h2, h3⟩ := hq
      rw [e86] at h1
      rw [alP_u ht h1]
      exact ⟨h2, by rw [h3]; exact hI'⟩
    refine T_ite (fun h0 => ?_) (fun h0 => ?_)
    · rw [c_bits (by have := ht.1; omega), Option.bind_some]
      refine T_some ?_
      rw [if_pos h0] at go
      exact go
    · refine T_some ?_
      rw [if_neg h0] at go
      exact go
  · refine T_t (bI_f hw) (T_some (T_nm ?_))
    rw [m_in, Option.bind_some]
    exact T_t (bI_f hw) (T_some ⟨rfl, hI'⟩)
