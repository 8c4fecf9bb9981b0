/-! ===== bits of words that are not below 0 ===== -/
theorem i32_bv (m : Nat) : (Int32.ofInt (m : Int)).toBitVec = BitVec.ofNat 32 m := by
  show BitVec.ofInt 32 (m : Int) = _
  rw [BitVec.ofInt_natCast]
theorem bOr_n {m n : Nat} (hm : m < 2147483648) (hn : n < 2147483648) : bOr (m : Int) (n : Int) = ((m ||| n : Nat) : Int) := by
  have e : Int32.ofInt (m : Int) ||| Int32.ofInt (n : Int) = Int32.ofInt ((m ||| n : Nat) : Int) := by
    apply Int32.toBitVec_inj.1
    rw [Int32.toBitVec_or, i32_bv, i32_bv, i32_bv]
    apply BitVec.eq_of_getLsbD_eq
    intro i hi
    simp [hi]
  have h : m ||| n < 2 ^ 31 := Nat.or_lt_two_pow hm hn
  unfold bOr
  rw [e, n32_t]
  omega
theorem bAnd_n {m n : Nat} (hm : m < 2147483648) : bAnd (m : Int) (n : Int) = ((m &&& n : Nat) : Int) := by
  have e : Int32.ofInt (m : Int) &&& Int32.ofInt (n : Int) = Int32.ofInt ((m &&& n : Nat) : Int) := by
    apply Int32.toBitVec_inj.1
    rw [Int32.toBitVec_and, i32_bv, i32_bv, i32_bv]
    apply BitVec.eq_of_getLsbD_eq
    intro i hi
    simp [hi]
  have h : m &&& n ≤ m := Nat.and_le_left
  unfold bAnd
  rw [e, n32_t]
  omega
theorem bAnd_nx {m n : Nat} (hm : m < 2147483648) : bAnd (m : Int) (bXor (n : Int) (-1)) = ((m &&& (m ^^^ n) : Nat) : Int) := by
  have hle : m &&& (m ^^^ n) ≤ m := Nat.and_le_left
  have e : Int32.ofInt (m : Int) &&& (Int32.ofInt (n : Int) ^^^ Int32.ofInt (-1)) = Int32.ofInt ((m &&& (m ^^^ n) : Nat) : Int) := by
    apply Int32.toBitVec_inj.1
    rw [Int32.toBitVec_and, Int32.toBitVec_xor, i32_bv, i32_bv, i32_bv]
    have em : (Int32.ofInt (-1)).toBitVec = BitVec.allOnes 32 := by decide
    rw [em]
    apply BitVec.eq_of_getLsbD_eq
    intro i hi
    simp only [BitVec.getLsbD_and, BitVec.getLsbD_xor, BitVec.getLsbD_ofNat, BitVec.getLsbD_allOnes, hi, decide_true, Bool.true_and, Nat.testBit_and, Nat.testBit_xor]
    cases m.testBit i <;> cases n.testBit i <;> rfl
  have hx : bXor (n : Int) (-1) = (Int32.ofInt (n : Int) ^^^ Int32.ofInt (-1)).toInt := rfl
  unfold bAnd
  rw [hx, Int32.ofInt_toInt, e, n32_t]
  omega
theorem bShl_n {k : Nat} (hk : k < 31) : bShl 1 (k : Int) = ((2 ^ k : Nat) : Int) := by
  have h : ∀ k : Fin 31, bShl 1 (k.val : Int) = ((2 ^ k.val : Nat) : Int) := by decide +kernel
  exact h ⟨k, hk⟩
theorem bShr_n {m k : Nat} (hm : m < 2147483648) (hk : k < 32) : bShr (m : Int) (k : Int) = ((m >>> k : Nat) : Int) := by
  have hc : ∀ k : Fin 32, ((Int32.ofInt (k.val : Int) &&& 31).toBitVec.smod 32).toNat = k.val := by decide +kernel
  have e : Int32.ofInt (m : Int) >>> (Int32.ofInt (k : Int) &&& 31) = Int32.ofInt ((m >>> k : Nat) : Int) := by
    apply Int32.toBitVec_inj.1
    rw [Int32.toBitVec_shiftRight, i32_bv (m >>> k)]
    show (Int32.ofInt (m : Int)).toBitVec.sshiftRight ((Int32.ofInt (k : Int) &&& 31).toBitVec.smod 32).toNat = _
    rw [hc ⟨k, hk⟩, i32_bv m]
    apply BitVec.eq_of_getLsbD_eq
    intro i hi
    rw [BitVec.getLsbD_sshiftRight, BitVec.msb_eq_getLsbD_last]
    have hb : m.testBit 31 = false := Nat.testBit_lt_two_pow hm
    have hbb : 32 ≤ k + i → m.testBit (k + i) = false := fun h => Nat.testBit_lt_two_pow (Nat.lt_of_lt_of_le (show m < 2 ^ 31 from hm) (Nat.pow_le_pow_right (by omega) (by omega)))
    simp only [BitVec.getLsbD_ofNat, Nat.testBit_shiftRight]
    by_cases h : k + i < 32
    · rw [if_pos h]; simp [hi, h]
    · rw [if_neg h]; simp [hi, hb, hbb (by omega)]
  have h : m >>> k ≤ m := by rw [Nat.shiftRight_eq_div_pow]; exact Nat.div_le_self _ _
  unfold bShr
  generalize m >>> k = x at *
  rw [e, n32_t]
  omega
theorem bI_n (m : Int) (h : 0 ≤ m) : ∃ n : Nat, m = (n : Int) ∧ m.toNat = n := ⟨m.toNat, by omega, rfl⟩
/-- bit k of a word -/
def tb (a : Int) (k : Nat) : Bool := a.toNat.testBit k
theorem tb_n (m k : Nat) : tb (m : Int) k = m.testBit k := rfl
theorem tb_or {a b : Int} (ha : 0 ≤ a ∧ a ≤ 2147483647) (hb : 0 ≤ b ∧ b ≤ 2147483647) (k : Nat) : tb (bOr a b) k = (tb a k || tb b k) := by
  obtain ⟨m, e, -⟩ := bI_n a ha.1
  obtain ⟨n, e', -⟩ := bI_n b hb.1
  subst e; subst e'
  rw [bOr_n (by omega) (by omega), tb_n, tb_n, tb_n, Nat.testBit_or]
theorem tb_and {a b : Int} (ha : 0 ≤ a ∧ a ≤ 2147483647) (hb : 0 ≤ b ∧ b ≤ 2147483647) (k : Nat) : tb (bAnd a b) k = (tb a k && tb b k) := by
  obtain ⟨m, e, -⟩ := bI_n a ha.1
  obtain ⟨n, e', -⟩ := bI_n b hb.1
  subst e; subst e'
  rw [bAnd_n (by omega), tb_n, tb_n, tb_n, Nat.testBit_and]
theorem bOr_rg {a b : Int} {k : Nat} (hk : k < 32) (ha : 0 ≤ a ∧ a < ((2 ^ k : Nat) : Int)) (hb : 0 ≤ b ∧ b < ((2 ^ k : Nat) : Int)) : 0 ≤ bOr a b ∧ bOr a b < ((2 ^ k : Nat) : Int) := by
  obtain ⟨m, e, -⟩ := bI_n a ha.1
  obtain ⟨n, e', -⟩ := bI_n b hb.1
  subst e; subst e'
  have h31 : 2 ^ k ≤ 2 ^ 31 := Nat.pow_le_pow_right (by omega) (by omega)
  rw [bOr_n (by omega) (by omega)]
  have := Nat.or_lt_two_pow (x := m) (y := n) (n := k) (by omega) (by omega)
  omega
theorem bOr_63 {a b : Int} (ha : 0 ≤ a ∧ a ≤ 63) (hb : 0 ≤ b ∧ b ≤ 63) : 0 ≤ bOr a b ∧ bOr a b ≤ 63 := by
  have := bOr_rg (k := 6) (by omega) (a := a) (b := b) (by simp; omega) (by simp; omega)
  simp at this
  omega
theorem bOr_255 {a b : Int} (ha : 0 ≤ a ∧ a ≤ 255) (hb : 0 ≤ b ∧ b ≤ 255) : 0 ≤ bOr a b ∧ bOr a b ≤ 255 := by
  have := bOr_rg (k := 8) (by omega) (a := a) (b := b) (by simp; omega) (by simp; omega)
  simp at this
  omega
theorem bOr_0 {a : Int} (ha : 0 ≤ a ∧ a ≤ 2147483647) : bOr a 0 = a := by
  obtain ⟨m, e, -⟩ := bI_n a ha.1
  subst e
  rw [show (0 : Int) = ((0 : Nat) : Int) from rfl, bOr_n (by omega) (by omega), Nat.or_zero]
theorem bShl_r {b : Int} (h : 0 ≤ b ∧ b < 8) : 1 ≤ bShl 1 b ∧ bShl 1 b ≤ 128 := by
  obtain ⟨m, e, -⟩ := bI_n b h.1
  subst e
  rw [bShl_n (by omega)]
  have h1 : 2 ^ m ≤ 2 ^ 7 := Nat.pow_le_pow_right (by omega) (by omega)
  have h2 : 0 < 2 ^ m := Nat.two_pow_pos m
  omega
