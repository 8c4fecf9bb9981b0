/-! ===== total outcomes of the pure functions ===== -/
def T {α : Type} (v : Option α) (Q : α → Prop) : Prop := ∃ a, v = some a ∧ Q a
theorem T_some {α : Type} {a : α} {Q : α → Prop} (h : Q a) : T (some a) Q := ⟨a, rfl, h⟩
theorem T_ck {α : Type} {c : Prop} [Decidable c] {v : Option α} {Q : α → Prop} (h : c) (k : T v Q) : T (ck c v) Q := by rw [ck_p h]; exact k
theorem T_ckP {α : Type} {c : Prop} {v : Option α} {Q : α → Prop} (h : c) (k : T v Q) : T (ckP c v) Q := by rw [ckP_p h]; exact k
theorem T_nm {α β : Type} {e : β} {k : β → Option α} {Q : α → Prop} (h : T (k e) Q) : T (nm e k) Q := h
theorem T_nmE {α β : Type} {e : β} {k : β → Option α} {Q : α → Prop} (h : ∀ z, z = e → T (k z) Q) : T (nm e k) Q := h e rfl
theorem T_nw {α : Type} {q : Nat} {K : Kt} {σ : Sg} {k : Nat → Kt → Sg → Option α} {Q : α → Prop} (h : T (k q K σ) Q) : T (nw q K σ k) Q := h
theorem T_ite {α : Type} {c : Prop} [Decidable c] {v w : Option α} {Q : α → Prop} (h1 : c → T v Q) (h2 : ¬ c → T w Q) : T (if c then v else w) Q := by
  by_cases h : c
  · rw [if_pos h]; exact h1 h
  · rw [if_neg h]; exact h2 h
theorem T_t {α : Type} {c : Prop} [Decidable c] {v w : Option α} {Q : α → Prop} (h : c) (k : T v Q) : T (if c then v else w) Q := by rw [if_pos h]; exact k
theorem T_f {α : Type} {c : Prop} [Decidable c] {v w : Option α} {Q : α → Prop} (h : ¬ c) (k : T w Q) : T (if c then v else w) Q := by rw [if_neg h]; exact k
theorem T_bind {α β : Type} {v : Option β} {k : β → Option α} {R : β → Prop} {Q : α → Prop} (h : T v R) (hk : ∀ b, R b → T (k b) Q) : T (v.bind k) Q := by
  obtain ⟨a, e, r⟩ := h
  rw [e]
  exact hk a r
theorem T_bd2 {α : Type} {v : Option (Int × Sg)} {k : Int → Sg → Option α} {R : Int × Sg → Prop} {Q : α → Prop} (h : T v R) (hk : ∀ r s, R (r, s) → T (k r s) Q) : T (bd2 v k) Q := by
  obtain ⟨⟨a, s⟩, e, r⟩ := h
  rw [e]
  exact hk a s r
theorem T_bdVK {α : Type} {v : Option (Kt × Sg)} {k : Kt → Sg → Option α} {R : Kt × Sg → Prop} {Q : α → Prop} (h : T v R) (hk : ∀ r s, R (r, s) → T (k r s) Q) : T (bdVK v k) Q := by
  obtain ⟨⟨a, s⟩, e, r⟩ := h
  rw [e]
  exact hk a s r
theorem T_bdIK {α : Type} {v : Option (Int × Kt × Sg)} {k : Int → Kt → Sg → Option α} {R : Int × Kt × Sg → Prop} {Q : α → Prop} (h : T v R) (hk : ∀ r K s, R (r, K, s) → T (k r K s) Q) : T (bdIK v k) Q := by
  obtain ⟨⟨a, K, s⟩, e, r⟩ := h
  rw [e]
  exact hk a K s r
theorem T_bdQK {α : Type} {v : Option (Option Nat × Kt × Sg)} {k : Option Nat → Kt → Sg → Option α} {R : Option Nat × Kt × Sg → Prop} {Q : α → Prop} (h : T v R) (hk : ∀ r K s, R (r, K, s) → T (k r K s) Q) : T (bdQK v k) Q := by
  obtain ⟨⟨a, K, s⟩, e, r⟩ := h
  rw [e]
  exact hk a K s r
theorem T_mono {α : Type} {v : Option α} {P Q : α → Prop} (h : T v P) (k : ∀ a, P a → Q a) : T v Q := by
  obtain ⟨a, e, r⟩ := h
  exact ⟨a, e, k a r⟩
theorem T_eq {α : Type} {v w : Option α} {Q : α → Prop} (e : v = w) (h : T w Q) : T v Q := by rw [e]; exact h
theorem FU_s : FU = 999999999 + 1 := rfl
theorem FU_b : 999999999 < FU := by unfold FU; omega
/-- one word of a cell anew -/
def upw (ρ : Nat → Int) (j : Nat) (z : Int) : Nat → Int := fun i => if i = j then z else ρ i
theorem upw_s {ρ : Nat → Int} {j : Nat} {z : Int} : upw ρ j z j = z := if_pos rfl
theorem upw_n {ρ : Nat → Int} {i j : Nat} {z : Int} (h : i ≠ j) : upw ρ j z i = ρ i := if_neg h
theorem up2_c {σ : Sg} {k j : Nat} {z : Int} : up2 σ k j z k = upw (σ k) j z := by
  funext b
  unfold up2 upw
  by_cases h : b = j <;> simp [h]
theorem up2_o {σ : Sg} {k j a : Nat} {z : Int} (h : a ≠ k) : up2 σ k j z a = σ a := by
  funext b
  unfold up2
  simp [h]
/-- a truth as a word -/
noncomputable def bI (p : Prop) : Int := @ite Int p (Classical.propDecidable p) 1 0
theorem bI_t {p : Prop} (h : p) : bI p = 1 := @if_pos p (Classical.propDecidable p) h Int 1 0
theorem bI_f {p : Prop} (h : ¬ p) : bI p = 0 := @if_neg p (Classical.propDecidable p) h Int 1 0
theorem bI_0 {p : Prop} : bI p = 0 ↔ ¬ p := by
  by_cases h : p
  · rw [bI_t h]; simp [h]
  · rw [bI_f h]; simp [h]
theorem bI_1 {p : Prop} : bI p = 1 ↔ p := by
  by_cases h : p
  · rw [bI_t h]; simp [h]
  · rw [bI_f h]; simp [h]
theorem bI_01 (p : Prop) : bI p = 0 ∨ bI p = 1 := by
  by_cases h : p
  · right; exact bI_t h
  · left; exact bI_f h
theorem bI_c {p q : Prop} (h : p ↔ q) : bI p = bI q := by rw [propext h]
/-! ===== the reference's smallest ones ===== -/
theorem m_in (a b c : Int) (σ : Sg) : vX10_in a b c σ = some (bI (b ≤ a ∧ a ≤ c)) := by
  unfold vX10_in
  by_cases h1 : a < b
  · rw [if_pos h1, bI_f (by omega)]
  · rw [if_neg h1]
    by_cases h2 : c < a
    · rw [if_pos h2, bI_f (by omega)]
    · rw [if_neg h2, bI_t (by omega)]
theorem m_isBook {σ : Sg} {b : Int} (h : 0 ≤ σ 86 0 ∧ σ 86 0 ≤ 8) : vX10_isBook b σ = some (bI (0 ≤ b ∧ b < σ 86 0)) := by
  unfold vX10_isBook
  rw [ck_p (by omega), m_in, Option.bind_some, ck_p (bI_01 _)]
  exact congrArg some (bI_c (by omega))
theorem m_isReader {σ : Sg} {b : Int} (h : 0 ≤ σ 86 1 ∧ σ 86 1 ≤ 6) : vX10_isReader b σ = some (bI (0 ≤ b ∧ b < σ 86 1)) := by
  unfold vX10_isReader
  rw [ck_p (by omega), m_in, Option.bind_some, ck_p (bI_01 _)]
  exact congrArg some (bI_c (by omega))
theorem m_tell {σ : Sg} {v : Int} (h : v < 0 → -6 ≤ v ∧ 0 ≤ σ 85 (-v).toNat ∧ σ 85 (-v).toNat ≤ 600) : vX10_tell v σ = some (v, if v < 0 then up2 (up2 σ 84 1 v) 85 (-v).toNat (σ 85 (-v).toNat + 1) else up2 σ 84 1 0) := by
  unfold vX10_tell
  by_cases h1 : v < 0
  · rw [if_pos h1, if_pos h1]
    simp only [vX10_tell_10, nm]
    rw [if_pos h1]
    have := h h1
    have e : up2 σ 84 1 v 85 = σ 85 := up2_o (by omega)
    rw [e]
    rw [ck_p (by omega), ck_p (by omega), ck_p (by omega), ck_p (by omega)]
  · rw [if_neg h1, if_neg h1]
    simp only [vX10_tell_10, nm]
    rw [if_neg h1]

/-! ===== rows: the abstract state is the reference's row ===== -/
/-- a hall of the class holds what the row holds -/
def HallIs (σ : Sg) (o : Nat) (ρ : Nat → Int) : Prop :=
  (σ o 1 = ρ 0 ∧ σ o 2 = ρ 1 ∧ σ o 3 = ρ 8)
  ∧ (∀ b : Int, 0 ≤ b → b < 8 → σ (o + 1) b.toNat = ρ (71 + b).toNat ∧ σ (o + 2) b.toNat = ρ (79 + b).toNat ∧ σ (o + 3) b.toNat = ρ (87 + b).toNat ∧ σ (o + 4) b.toNat = ρ (9 + b).toNat)
  ∧ (∀ r : Int, 0 ≤ r → r < 6 → σ (o + 5) r.toNat = ρ (17 + r).toNat ∧ σ (o + 6) r.toNat = ρ (95 + r).toNat ∧ σ (o + 7) r.toNat = ρ (23 + r).toNat ∧ σ (o + 8) r.toNat = ρ (29 + r).toNat ∧ (ρ (29 + r).toNat ≠ -1 → σ (o + 9) r.toNat = ρ (35 + r).toNat) ∧ σ (o + 10) r.toNat = ρ (41 + r).toNat)
  ∧ (∀ i : Int, 0 ≤ i → i < 12 → σ (o + 11) i.toNat = ρ (47 + 2 * i).toNat ∧ σ (o + 12) i.toNat = ρ (47 + 2 * i + 1).toNat)
  ∧ (σ (o + 13) 0 = ρ 4 ∧ σ (o + 13) 1 = ρ 5 ∧ σ (o + 13) 2 = ρ 6 ∧ σ (o + 13) 3 = ρ 7)
/-- what can stand in a row -/
def WF (ρ : Nat → Int) : Prop :=
  ((0 ≤ ρ 0 ∧ ρ 0 ≤ 8) ∧ (0 ≤ ρ 1 ∧ ρ 1 ≤ 6) ∧ (0 ≤ ρ 2 ∧ ρ 2 ≤ 6) ∧ (-1 ≤ ρ 3 ∧ ρ 3 < ρ 2))
  ∧ ((0 ≤ ρ 4 ∧ ρ 4 ≤ 999) ∧ (1 ≤ ρ 5 ∧ ρ 5 ≤ 20) ∧ (0 ≤ ρ 6 ∧ ρ 6 ≤ 10) ∧ (0 ≤ ρ 7 ∧ ρ 7 ≤ 9) ∧ (0 ≤ ρ 8 ∧ ρ 8 ≤ 12))
  ∧ (∀ b : Int, 0 ≤ b → b < ρ 0 → (1 ≤ ρ (71 + b).toNat ∧ ρ (71 + b).toNat ≤ 9) ∧ (0 ≤ ρ (79 + b).toNat ∧ ρ (79 + b).toNat ≤ 63) ∧ (0 ≤ ρ (87 + b).toNat ∧ ρ (87 + b).toNat ≤ 63) ∧ (0 ≤ ρ (9 + b).toNat ∧ ρ (9 + b).toNat ≤ 999))
  ∧ (∀ r : Int, 0 ≤ r → r < ρ 1 → (0 ≤ ρ (17 + r).toNat ∧ ρ (17 + r).toNat ≤ 63) ∧ (0 ≤ ρ (95 + r).toNat ∧ ρ (95 + r).toNat ≤ 1) ∧ (0 ≤ ρ (23 + r).toNat ∧ ρ (23 + r).toNat ≤ 99) ∧ (-1 ≤ ρ (29 + r).toNat ∧ ρ (29 + r).toNat < ρ 0) ∧ (-1 ≤ ρ (35 + r).toNat ∧ ρ (35 + r).toNat ≤ 999 ∧ (ρ (29 + r).toNat = -1 → ρ (35 + r).toNat = -1) ∧ (ρ (29 + r).toNat ≠ -1 → 0 ≤ ρ (35 + r).toNat)) ∧ (0 ≤ ρ (41 + r).toNat ∧ ρ (41 + r).toNat ≤ 255))
  ∧ (∀ r s : Int, 0 ≤ r → r < ρ 1 → 0 ≤ s → s < ρ 1 → ρ (29 + r).toNat = ρ (29 + s).toNat → ρ (29 + r).toNat ≠ -1 → r = s)
  ∧ (∀ i : Int, 0 ≤ i → i < ρ 8 → (0 ≤ ρ (47 + 2 * i).toNat ∧ ρ (47 + 2 * i).toNat < ρ 0) ∧ (0 ≤ ρ (47 + 2 * i + 1).toNat ∧ ρ (47 + 2 * i + 1).toNat < ρ 1))
  ∧ (∀ i j : Int, 0 ≤ i → i < ρ 8 → 0 ≤ j → j < ρ 8 → ρ (47 + 2 * i).toNat = ρ (47 + 2 * j).toNat → ρ (47 + 2 * i + 1).toNat = ρ (47 + 2 * j + 1).toNat → i = j)
/-- a law's nine words for a book, a reader, traits -/
def lw (ρ : Nat → Int) (b r t : Int) (j : Nat) : Int := match j with
  | 0 => b
  | 1 => ρ (71 + b).toNat
  | 2 => ρ (9 + b).toNat
  | 3 => r
  | 4 => t
  | 5 => ρ (23 + r).toNat
  | 6 => if ρ (29 + r).toNat = b then ρ 4 - ρ (35 + r).toNat else -1
  | 7 => ρ 4
  | 8 => ρ 7
  | _ => 0
/-- cells but some are as they were -/
def Sme (P : Nat → Prop) (σ σ' : Sg) : Prop := ∀ k, ¬ P k → σ' k = σ k
theorem Sme_r {P : Nat → Prop} {σ : Sg} : Sme P σ σ := fun _ _ => rfl
theorem Sme_t {P : Nat → Prop} {σ σ' σ'' : Sg} (h : Sme P σ σ') (h' : Sme P σ' σ'') : Sme P σ σ'' := fun k hk => (h' k hk).trans (h k hk)
theorem Sme_m {P P' : Nat → Prop} {σ σ' : Sg} (h : Sme P σ σ') (hp : ∀ k, P k → P' k) : Sme P' σ σ' := fun k hk => h k (fun c => hk (hp k c))
theorem Sme_u {P : Nat → Prop} {σ σ' : Sg} {k j : Nat} {z : Int} (h : Sme P σ σ') (hk : P k) : Sme P σ (up2 σ' k j z) := by
  intro a ha
  have e : a ≠ k := fun e => ha (by rw [e]; exact hk)
  rw [up2_o e]
  exact h a ha
theorem m_term {σ : Sg} {t : Int} (h : 0 ≤ t ∧ t < 4) : vX10_term t σ = some (σ 86 (4 + t).toNat) := by
  unfold vX10_term
  rw [ck_p (by omega), ck_p (by omega)]
theorem m_keptFor {σ : Sg} {r : Int} (h : 0 ≤ r ∧ r < 6) (h1 : 0 ≤ σ 86 4 ∧ σ 86 4 ≤ 999) (h2 : -1 ≤ σ 86 (35 + r).toNat ∧ σ 86 (35 + r).toNat ≤ 999) : vX10_keptFor r σ = some (σ 86 4 - σ 86 (35 + r).toNat) := by
  unfold vX10_keptFor
  rw [m_term (by omega), Option.bind_some, ck_p (by omega), ck_p (by omega)]
  show ck _ _ = _
  rw [ck_p]
  · rfl
  · show in32 (σ 86 4 - _)
    omega
