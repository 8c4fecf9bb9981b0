/-! ===== what a law tells: the same clauses in both ===== -/
/-- the last clause of a kind, below n, that holds: what it tells -/
def Dn (kd : Nat → Int) (ts fs : Nat → (Nat → Int) → Int) : Nat → Int → (Nat → Int) → Option Int
  | 0, _, _ => none
  | c + 1, k, w => if kd c = k ∧ ts c w = 1 ∧ fs c w ≠ -2000000000 then some (fs c w) else Dn kd ts fs c k w
/-- words that may stand -/
def wOk (w : Nat → Int) : Prop := ∀ j, -1000000000 ≤ w j ∧ w j ≤ 1000000000
/-- the reference's own cells that are scratch of a law's asking -/
def scM (k : Nat) : Prop := k = 84 ∨ k = 102 ∨ k = 104
def sc84 (j : Nat) : Prop := j = 34 ∨ j = 38 ∨ j = 39 ∨ j = 40
/-- nothing but what asking a law scratches is changed -/
def ScM (σ σ' : Sg) : Prop := Sme scM σ σ' ∧ ∀ j, ¬ sc84 j → σ' 84 j = σ 84 j
theorem ScM_r {σ : Sg} : ScM σ σ := ⟨Sme_r, fun _ _ => rfl⟩
theorem ScM_t {σ σ' σ'' : Sg} (h : ScM σ σ') (h' : ScM σ' σ'') : ScM σ σ'' := ⟨Sme_t h.1 h'.1, fun j hj => (h'.2 j hj).trans (h.2 j hj)⟩
theorem ScM_84 {σ σ' : Sg} {j : Nat} {z : Int} (h : ScM σ σ') (hj : sc84 j) : ScM σ (up2 σ' 84 j z) := by
  refine ⟨Sme_u h.1 (Or.inl rfl), fun i hi => ?_⟩
  rw [up2_c, upw_n (fun e => hi (by rw [e]; exact hj))]
  exact h.2 i hi
theorem ScM_o {σ σ' : Sg} {k j : Nat} {z : Int} (h : ScM σ σ') (hk : k = 102 ∨ k = 104) : ScM σ (up2 σ' k j z) := by
  refine ⟨Sme_u h.1 (Or.inr hk), fun i hi => ?_⟩
  rw [up2_o (by omega)]
  exact h.2 i hi
theorem ScM_k {σ σ' : Sg} (h : ScM σ σ') {k : Nat} (hk : k ≠ 84 ∧ k ≠ 102 ∧ k ≠ 104) : σ' k = σ k := h.1 k (by unfold scM; omega)
/-- reckonAll over a stretch of the law at `base` gives what E gives (the words lie in cell 102 from 1 on) -/
def MVal (ρ : Nat → Int) (base a b : Int) (E : (Nat → Int) → Int) : Prop := ∀ (σ : Sg) (w : Nat → Int), (∀ i : Nat, base ≤ (i : Int) → (i : Int) < base + 900 → σ 86 i = ρ i) → σ 84 34 = base → σ 84 20 = 0 → wOk w → (∀ j : Nat, j < 9 → σ 102 (j + 1) = w j) →
  T (vX10_reckonAll a b σ) (fun σ' => Sme (fun k => k = 84 ∨ k = 104) σ σ' ∧ (∀ j, j ≠ 38 → j ≠ 39 → σ' 84 j = σ 84 j) ∧ (E w = -2000000000 → σ' 84 38 = 1) ∧ (E w ≠ -2000000000 → σ' 84 38 = 0 ∧ σ' 84 39 = E w))
/-- the law at `base` of a row has these clauses -/
def MLaw (ρ : Nat → Int) (base : Int) (n : Nat) (kd : Nat → Int) (ts fs : Nat → (Nat → Int) → Int) : Prop :=
  n ≤ 12 ∧ ρ (base + 1).toNat = (n : Int) ∧ ∀ c : Nat, c < n → ρ (base + 2 + 8 * (c : Int)).toNat = kd c ∧ (0 ≤ kd c ∧ kd c ≤ 3)
    ∧ (∀ w, wOk w → ts c w = 0 ∨ ts c w = 1 ∨ ts c w = -2000000000) ∧ (∀ w, wOk w → fs c w = -2000000000 ∨ (-1000000000 ≤ fs c w ∧ fs c w ≤ 1000000000))
    ∧ (if ρ (base + 2 + 8 * (c : Int) + 5).toNat < ρ (base + 2 + 8 * (c : Int) + 6).toNat then MVal ρ base (ρ (base + 2 + 8 * (c : Int) + 5).toNat) (ρ (base + 2 + 8 * (c : Int) + 6).toNat) (ts c) else ∀ w, wOk w → ts c w = 1)
    ∧ (if kd c = 3 then ∀ w, wOk w → fs c w = 1 else MVal ρ base (ρ (base + 2 + 8 * (c : Int) + 3).toNat) (ρ (base + 2 + 8 * (c : Int) + 4).toNat) (fs c))
theorem m_isSo {σ : Sg} {n : Nat} {kd : Nat → Int} {ts fs : Nat → (Nat → Int) → Int} {base : Int} {c : Nat} {w : Nat → Int} (hL : MLaw (σ 86) base n kd ts fs) (hc : c < n) (hb : 0 ≤ base ∧ base ≤ 4605) (h34 : σ 84 34 = base) (h20 : σ 84 20 = 0) (hw : wOk w) (hs : ∀ j : Nat, j < 9 → σ 102 (j + 1) = w j) :
    T (vX10_isSo (base + 2 + 8 * (c : Int)) σ) (fun p => Sme (fun k => k = 84 ∨ k = 104) σ p.2 ∧ (∀ j, j ≠ 38 → j ≠ 39 → j ≠ 40 → p.2 84 j = σ 84 j) ∧ p.1 = bI (ts c w = 1 ∧ fs c w ≠ -2000000000) ∧ (p.1 = 1 → kd c ≠ 3 → p.2 84 40 = fs c w) ∧ (kd c = 3 → fs c w = 1)) := by
  obtain ⟨hn, h1, hcl⟩ := hL
  obtain ⟨hk, hk3, ht, hf, hT, hF⟩ := hcl c hc
  have hc' : (c : Int) < 12 := by omega
  have key : ∀ σ1 : Sg, Sme (fun k => k = 84 ∨ k = 104) σ σ1 → (∀ j, j ≠ 38 → j ≠ 39 → σ1 84 j = σ 84 j) → ts c w = 1 → T (vX10_isSo_59 (base + 2 + 8 * (c : Int)) σ1) (fun p => Sme (fun k => k = 84 ∨ k = 104) σ p.2 ∧ (∀ j, j ≠ 38 → j ≠ 39 → j ≠ 40 → p.2 84 j = σ 84 j) ∧ p.1 = bI (ts c w = 1 ∧ fs c w ≠ -2000000000) ∧ (p.1 = 1 → kd c ≠ 3 → p.2 84 40 = fs c w) ∧ (kd c = 3 → fs c w = 1)) := by
    intro σ1 hS h84 ht1
    have e86 : σ1 86 = σ 86 := hS 86 (by omega)
    have e102 : σ1 102 = σ 102 := hS 102 (by omega)
    unfold vX10_isSo_59
    with_reducible refine T_ck (by omega) ?_
    rw [e86, hk]
    refine T_ite (fun h3 => ?_) (fun h3 => ?_)
    · rw [if_pos h3] at hF
      have := hF w hw
      refine T_some ⟨hS, fun j a b _ => h84 j a b, ?_, fun _ h => absurd h3 h, fun _ => this⟩
      rw [bI_t ⟨ht1, by omega⟩]
    · rw [if_neg h3] at hF
      repeat (with_reducible first | refine T_ck (by omega) ?_ | refine T_nm ?_)
      refine T_bind (hF σ1 w (fun i _ _ => by rw [e86]) (by rw [h84 34 (by omega) (by omega)]; exact h34) (by rw [h84 20 (by omega) (by omega)]; exact h20) hw (fun j hj => by rw [e102]; exact hs j hj)) (fun σ2 h2 => ?_)
      obtain ⟨hS2, h842, hb1, hb0⟩ := h2
      refine T_nm ?_
      have e1 : up2 σ2 84 40 (σ2 84 39) 84 38 = σ2 84 38 := by rw [up2_c, upw_n (by omega)]
      rw [e1]
      have hS3 : Sme (fun k => k = 84 ∨ k = 104) σ (up2 σ2 84 40 (σ2 84 39)) := Sme_u (Sme_t hS hS2) (Or.inl rfl)
      have h843 : ∀ j, j ≠ 38 → j ≠ 39 → j ≠ 40 → up2 σ2 84 40 (σ2 84 39) 84 j = σ 84 j := by
        intro j a b d
        rw [up2_c, upw_n d, h842 j a b, h84 j a b]
      by_cases hB : fs c w = -2000000000
      · refine T_f (by rw [hb1 hB]; omega) (T_some ⟨hS3, h843, ?_, fun h => ?_, fun h => absurd h h3⟩)
        · rw [bI_f (fun h => h.2 hB)]
        · exact absurd h (by show ¬ (0 : Int) = 1; omega)
      · obtain ⟨h38, h39⟩ := hb0 hB
        refine T_t h38 (T_some ⟨hS3, h843, ?_, fun _ _ => ?_, fun h => absurd h h3⟩)
        · rw [bI_t ⟨ht1, hB⟩]
        · show up2 σ2 84 40 (σ2 84 39) 84 40 = _
          rw [up2_c, upw_s]
          exact h39
  unfold vX10_isSo
  repeat (with_reducible first | refine T_ck (by omega) ?_ | refine T_nm ?_)
  refine T_ite (fun hlt => ?_) (fun hlt => ?_)
  · rw [if_pos hlt] at hT
    repeat (with_reducible first | refine T_ck (by omega) ?_ | refine T_nm ?_)
    refine T_bind (hT σ w (fun _ _ _ => rfl) h34 h20 hw hs) (fun σ2 h2 => ?_)
    obtain ⟨hS2, h842, hb1, hb0⟩ := h2
    have tri := ht w hw
    have fin0 : ts c w ≠ 1 → (fun p : Int × Sg => Sme (fun k => k = 84 ∨ k = 104) σ p.2 ∧ (∀ j, j ≠ 38 → j ≠ 39 → j ≠ 40 → p.2 84 j = σ 84 j) ∧ p.1 = bI (ts c w = 1 ∧ fs c w ≠ -2000000000) ∧ (p.1 = 1 → kd c ≠ 3 → p.2 84 40 = fs c w) ∧ (kd c = 3 → fs c w = 1)) (0, σ2) := by
      intro h
      refine ⟨hS2, fun j a b _ => h842 j a b, ?_, fun h => ?_, fun h3 => ?_⟩
      · rw [bI_f (fun x => h x.1)]
      · exact absurd h (by show ¬ (0 : Int) = 1; omega)
      · rw [if_pos h3] at hF; exact hF w hw
    by_cases hB : ts c w = -2000000000
    · exact T_f (by rw [hb1 hB]; omega) (T_some (fin0 (by omega)))
    · obtain ⟨h38, h39⟩ := hb0 hB
      refine T_t h38 ?_
      rw [h39]
      refine T_ite (fun h0 => T_some (fin0 (by omega))) (fun h0 => key σ2 hS2 h842 (by omega))
  · rw [if_neg hlt] at hT
    exact key σ Sme_r (fun _ _ _ => rfl) (hT w hw)
theorem MVal_r {ρ ρ' : Nat → Int} {base a b : Int} {E : (Nat → Int) → Int} (h : MVal ρ base a b E) (hp : ∀ i : Nat, base ≤ (i : Int) → (i : Int) < base + 900 → ρ' i = ρ i) : MVal ρ' base a b E := fun σ w h1 => h σ w (fun i hi hi2 => (h1 i hi hi2).trans (hp i hi hi2))
theorem MLaw_r {ρ ρ' : Nat → Int} {base : Int} {n : Nat} {kd : Nat → Int} {ts fs : Nat → (Nat → Int) → Int} (h : MLaw ρ base n kd ts fs) (hb : 0 ≤ base) (hp : ∀ i : Nat, base ≤ (i : Int) → (i : Int) < base + 900 → ρ' i = ρ i) : MLaw ρ' base n kd ts fs := by
  obtain ⟨h1, h2, h3⟩ := h
  refine ⟨h1, by rw [hp _ (by omega) (by omega)]; exact h2, fun c hc => ?_⟩
  rw [hp _ (by omega) (by omega), hp _ (by omega) (by omega), hp _ (by omega) (by omega), hp _ (by omega) (by omega), hp _ (by omega) (by omega)]
  obtain ⟨x1, x2, x3, x4, x5, x6⟩ := h3 c hc
  refine ⟨x1, x2, x3, x4, ?_, ?_⟩
  · split
    · rw [if_pos (by assumption)] at x5; exact MVal_r x5 hp
    · rw [if_neg (by assumption)] at x5; exact x5
  · split
    · rw [if_pos (by assumption)] at x6; exact x6
    · rw [if_neg (by assumption)] at x6; exact MVal_r x6 hp
theorem MLaw_p {ρ ρ' : Nat → Int} {base : Int} {n : Nat} {kd : Nat → Int} {ts fs : Nat → (Nat → Int) → Int} (h : MLaw ρ base n kd ts fs) (hb : 105 ≤ base) (hp : ∀ i, 105 ≤ i → ρ' i = ρ i) : MLaw ρ' base n kd ts fs := MLaw_r h (by omega) (fun i h1 _ => hp i (by omega))
theorem MLaw_q {ρ ρ' : Nat → Int} {base : Int} {n : Nat} {kd : Nat → Int} {ts fs : Nat → (Nat → Int) → Int} (h : MLaw ρ base n kd ts fs) (hb : 105 ≤ base ∧ base ≤ 4605) (hp : ∀ i, 105 ≤ i → i < 5505 → ρ' i = ρ i) : MLaw ρ' base n kd ts fs := MLaw_r h (by omega) (fun i h1 h2 => hp i (by omega) (by omega))
