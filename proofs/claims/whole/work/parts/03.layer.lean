/-! ===== the pure picture: words and references of numbered cells (cell k lies at address base + k) ===== -/
abbrev Sg : Type := Nat → Nat → Int
abbrev Rf : Type := Nat → Nat → Option Nat
/-- references, (kind, length) of each cell, number of cells, number of slots -/
abbrev Kt : Type := Rf × (Nat → Nat × Nat) × Nat × Nat
/-- an int, a long, a reference to a cell of ours (or null), one of the old cells that are known -/
abbrev AV : Type := Int ⊕ (Int ⊕ (Option Nat ⊕ Nat))
abbrev Out : Type := Option AV × Kt × Sg
/-- base, the classes' numbers and slots, the array classes' numbers, where the known old cells lie -/
abbrev Wd : Type := Nat × va_G × (Nat → ClassId) × (Nat → Nat)
abbrev aI (z : Int) : AV := .inl z
abbrev aL (z : Int) : AV := .inr (.inl z)
abbrev aQ (r : Option Nat) : AV := .inr (.inr (.inl r))
abbrev aR (k : Nat) : AV := .inr (.inr (.inl (some k)))
abbrev aT (t : Nat) : AV := .inr (.inr (.inr t))
abbrev in32 (z : Int) : Prop := -2147483648 ≤ z ∧ z ≤ 2147483647
abbrev in64 (z : Int) : Prop := -9223372036854775808 ≤ z ∧ z ≤ 9223372036854775807
def cv (ω : Wd) : AV → Value
  | .inl z => .int (Int32.ofInt z)
  | .inr (.inl z) => .long (Int64.ofInt z)
  | .inr (.inr (.inl r)) => va_rf (r.map (fun k => ω.1 + k))
  | .inr (.inr (.inr t)) => .ref (ω.2.2.2 t)
def okv : AV → Prop
  | .inl z => in32 z
  | .inr (.inl z) => in64 z
  | .inr (.inr _) => True
def tyOf (t : Nat) : Nat → FieldType := match t with
  | 0 => tyX0 | 1 => tyX1 | 2 => tyX2 | 3 => tyX3 | 4 => tyX4 | 5 => tyX5 | 6 => tyX6 | 7 => tyX7 | 8 => tyX8 | 9 => tyX9 | _ => tyX10
def nfs (t : Nat) : Nat := match t with
  | 0 => 8 | 1 => 17 | 2 => 2 | 3 => 6 | 4 => 8 | 5 => 1 | 6 => 2 | 7 => 8 | 8 => 4 | 9 => 15 | _ => 58
def fldV (ω : Wd) (t : FieldType) (z : Int) (r : Option Nat) : Value := match t with
  | .long => .long (Int64.ofInt z)
  | .object _ => va_rf (r.map (fun k => ω.1 + k))
  | .array _ => va_rf (r.map (fun k => ω.1 + k))
  | _ => .int (Int32.ofInt z)
def cellE (ω : Wd) (K : Kt) (σ : Sg) (k : Nat) : va_E := match (K.2.1 k).1 with
  | 20 => .inl (ω.2.2.1 0, (K.2.1 k).2, .inl (fun i => Int32.ofInt (σ k i)))
  | 21 => .inl (ω.2.2.1 1, (K.2.1 k).2, .inr (.inl (fun i => Int64.ofInt (σ k i))))
  | 22 => .inl (ω.2.2.1 2, (K.2.1 k).2, .inl (fun i => Int32.ofInt (σ k i)))
  | 23 => .inl (ω.2.2.1 3, (K.2.1 k).2, .inr (.inr (.inr (.inr (fun i => (K.1 k i).map (fun q => ω.1 + q))))))
  | 24 => .inl (ω.2.2.1 4, (K.2.1 k).2, .inr (.inr (.inr (.inr (fun i => (K.1 k i).map (fun q => ω.1 + q))))))
  | 25 => .inl (ω.2.2.1 5, (K.2.1 k).2, .inr (.inr (.inr (.inr (fun i => (K.1 k i).map (fun q => ω.1 + q))))))
  | t => .inr (t, (List.range (nfs t)).map (fun j => fldV ω (tyOf t j) (σ k j) (K.1 k j)))
def tys6 (ω : Wd) : List (ClassId × FieldType) := [(ω.2.2.1 0, .int), (ω.2.2.1 1, .long), (ω.2.2.1 2, .boolean), (ω.2.2.1 3, .object RX7), (ω.2.2.1 4, .object RX1), (ω.2.2.1 5, .object RX2)]
def ww (ω : Wd) (K : Kt) (σ : Sg) : va_W := (List.range K.2.2.1).map (fun k => (ω.1 + k, cellE ω K σ k))
/-- whether slot j of cell k is a long -/
def lng (K : Kt) (k j : Nat) : Bool := match (K.2.1 k).1 with
  | 21 => true
  | 20 => false
  | 22 => false
  | 23 => false
  | 24 => false
  | 25 => false
  | t => match tyOf t j with
    | .long => true
    | _ => false
def oks (K : Kt) (σ : Sg) : Prop := ∀ k j, in64 (σ k j) ∧ (lng K k j = false → in32 (σ k j))
def up2 (σ : Sg) (k j : Nat) (z : Int) : Sg := fun a b => if a = k ∧ b = j then z else σ a b
def upR (ρ : Rf) (k j : Nat) (r : Option Nat) : Rf := fun a b => if a = k ∧ b = j then r else ρ a b
theorem ww_get {ω : Wd} {K : Kt} {σ : Sg} {k : Nat} (h : k < K.2.2.1) : (ww ω K σ)[k]? = some (ω.1 + k, cellE ω K σ k) := by
  simp [ww, h]
theorem ww_set {ω : Wd} {K K' : Kt} {σ σ' : Sg} {k : Nat} {e : va_E} (hn : K'.2.2.1 = K.2.2.1) (he : cellE ω K' σ' k = e) (ho : ∀ j, j ≠ k → cellE ω K' σ' j = cellE ω K σ j) : (ww ω K σ).set k (ω.1 + k, e) = ww ω K' σ' := by
  apply List.ext_getElem?
  intro j
  by_cases hj : j < K.2.2.1
  · by_cases hjk : j = k
    · subst hjk
      rw [List.getElem?_set_self (by simp [ww, hj]), ww_get (by rw [hn]; exact hj), he]
    · rw [List.getElem?_set_ne (Ne.symm hjk), ww_get hj, ww_get (by rw [hn]; exact hj), ho j hjk]
  · have h1 : (ww ω K' σ').length ≤ j := by simp [ww, hn]; omega
    have h2 : ((ww ω K σ).set k (ω.1 + k, e)).length ≤ j := by simp [ww]; omega
    rw [List.getElem?_eq_none h1, List.getElem?_eq_none h2]
theorem ww_D {ω : Wd} {K : Kt} {σ : Sg} : va_D (fun q => ω.1 ≤ q) (ww ω K σ) := by
  have key : ∀ (i : Nat) (p : Nat × va_E), (ww ω K σ)[i]? = some p → p.1 = ω.1 + i := by
    intro i p h
    by_cases hi : i < K.2.2.1
    · rw [ww_get hi] at h; cases h; rfl
    · rw [List.getElem?_eq_none (by simp [ww]; omega)] at h; cases h
  refine ⟨fun i j p q hp hq e => ?_, fun k q hk => ?_⟩
  · have := key i p hp; have := key j q hq; omega
  · have := key k q hk; show ω.1 ≤ q.1; omega
theorem ww_push {ω : Wd} {K K' : Kt} {σ σ' : Sg} {a : Nat} {e : va_E} (hn : K'.2.2.1 = K.2.2.1 + 1) (ha : a = ω.1 + K.2.2.1) (he : cellE ω K' σ' K.2.2.1 = e) (ho : ∀ j, j < K.2.2.1 → cellE ω K' σ' j = cellE ω K σ j) : ww ω K σ ++ [(a, e)] = ww ω K' σ' := by
  unfold ww
  rw [hn, List.range_succ, List.map_append, List.map_singleton, he, ha]
  congr 1
  apply List.map_congr_left
  intro j hj
  rw [ho j (List.mem_range.mp hj)]
/-! ===== numbers ===== -/
theorem n32_t {a : Int} (h : in32 a) : (Int32.ofInt a).toInt = a := Int32.toInt_ofInt_of_le (by omega) (by omega)
theorem n64_t {a : Int} (h : in64 a) : (Int64.ofInt a).toInt = a := Int64.toInt_ofInt_of_le (by omega) (by omega)
theorem n32_eq {a b : Int} (ha : in32 a) (hb : in32 b) : Int32.ofInt a = Int32.ofInt b ↔ a = b := by
  rw [← Int32.toInt_inj, n32_t ha, n32_t hb]
theorem n32_lt {a b : Int} (ha : in32 a) (hb : in32 b) : Int32.ofInt a < Int32.ofInt b ↔ a < b := by
  rw [Int32.lt_iff_toInt_lt, n32_t ha, n32_t hb]
theorem n32_le {a b : Int} (ha : in32 a) (hb : in32 b) : Int32.ofInt a ≤ Int32.ofInt b ↔ a ≤ b := by
  rw [Int32.le_iff_toInt_le, n32_t ha, n32_t hb]
theorem n64_eq {a b : Int} (ha : in64 a) (hb : in64 b) : Int64.ofInt a = Int64.ofInt b ↔ a = b := by
  rw [← Int64.toInt_inj, n64_t ha, n64_t hb]
theorem n64_lt {a b : Int} (ha : in64 a) (hb : in64 b) : Int64.ofInt a < Int64.ofInt b ↔ a < b := by
  rw [Int64.lt_iff_toInt_lt, n64_t ha, n64_t hb]
theorem n32_0 : (0 : Int32) = Int32.ofInt 0 := rfl
theorem n64_0 : (0 : Int64) = Int64.ofInt 0 := rfl
theorem n32_cl {a : Int} (h : in32 a) : (Int32.ofInt a).toNatClampNeg = a.toNat := by
  show (Int32.ofInt a).toInt.toNat = a.toNat
  rw [n32_t h]
theorem n32_in {a : Int} {n : Nat} (h : in32 a) (h1 : 0 ≤ a) (h2 : a < n) : vp_in (Int32.ofInt a) n := by
  refine vp_in_iff.mpr ?_
  rw [n32_t h]
  exact ⟨h1, h2⟩
theorem n32_div {a b : Int} (ha : in32 a) (hb : in32 b) : Int32.ofInt a / Int32.ofInt b = Int32.ofInt (a.tdiv b) := by
  rw [Int32.ofInt_tdiv (by exact ha.1) (by exact ha.2) (by exact hb.1) (by exact hb.2)]
theorem n64_div {a b : Int} (ha : in64 a) (hb : in64 b) : Int64.ofInt a / Int64.ofInt b = Int64.ofInt (a.tdiv b) := by
  rw [Int64.ofInt_tdiv (by exact ha.1) (by exact ha.2) (by exact hb.1) (by exact hb.2)]
theorem n32_rem {a b : Int} (ha : in32 a) (hb : in32 b) : Int32.ofInt a - Int32.ofInt a / Int32.ofInt b * Int32.ofInt b = Int32.ofInt (a.tmod b) := by
  rw [n32_div ha hb, ← Int32.ofInt_mul, ← Int32.ofInt_sub]
  congr 1
  rw [Int.tmod_def, Int.mul_comm]
theorem n64_rem {a b : Int} (ha : in64 a) (hb : in64 b) : Int64.ofInt a - Int64.ofInt a / Int64.ofInt b * Int64.ofInt b = Int64.ofInt (a.tmod b) := by
  rw [n64_div ha hb, ← Int64.ofInt_mul, ← Int64.ofInt_sub]
  congr 1
  rw [Int.tmod_def, Int.mul_comm]
theorem n32_i2l {a : Int} (h : in32 a) : (Int32.ofInt a).toInt64 = Int64.ofInt a := by
  rw [← Int64.ofInt_int32ToInt, n32_t h]
/-- what is left of a number in 32 bits -/
def w32 (z : Int) : Int := (Int32.ofInt z).toInt
theorem w32_in (z : Int) : in32 (w32 z) := by
  have h1 := Int32.le_toInt (Int32.ofInt z)
  have h2 := Int32.toInt_lt (Int32.ofInt z)
  unfold w32
  constructor <;> omega
theorem w32_id {z : Int} (h : in32 z) : w32 z = z := n32_t h
theorem w32_of (z : Int) : Int32.ofInt (w32 z) = Int32.ofInt z := Int32.ofInt_toInt _
def bAnd (a b : Int) : Int := (Int32.ofInt a &&& Int32.ofInt b).toInt
def bOr (a b : Int) : Int := (Int32.ofInt a ||| Int32.ofInt b).toInt
def bXor (a b : Int) : Int := (Int32.ofInt a ^^^ Int32.ofInt b).toInt
def bShl (a b : Int) : Int := (Int32.ofInt a <<< (Int32.ofInt b &&& 31)).toInt
def bShr (a b : Int) : Int := (Int32.ofInt a >>> (Int32.ofInt b &&& 31)).toInt
def bUsh (a b : Int) : Int := ((Int32.ofInt a).toUInt32 >>> ((Int32.ofInt b).toUInt32 &&& Int32.toUInt32 31)).toInt32.toInt
theorem t32_in (x : Int32) : in32 x.toInt := by
  have h1 := Int32.le_toInt x
  have h2 := Int32.toInt_lt x
  constructor <;> omega
theorem t64_in (x : Int64) : in64 x.toInt := by
  have h1 := Int64.le_toInt x
  have h2 := Int64.toInt_lt x
  constructor <;> omega
