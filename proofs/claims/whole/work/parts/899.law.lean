/-! ===== a law's clause in the reference ===== -/
theorem PF_r {σ : Sg} : PF σ σ := ⟨fun _ _ _ _ _ _ => rfl, fun _ _ => rfl⟩
theorem PS_r {N i l : Nat} {tk : Nat → Int} {pl st : Nat → Nat} {σ0 σ : Sg} {c : Cd} (h : PSv tk pl st N σ0 σ i l c) : PSv tk pl st N σ σ i l c := ⟨PF_r, h.2⟩
theorem PZ_r {b : Nat → Int} {n : Nat} {ord : Int} {σ0 σ : Sg} (hz : PZ b n ord σ0) (h : PF σ0 σ) : PZ b n ord σ := ⟨by rw [h.2 13 (by omega)]; exact hz.1, fun q hq => by rw [h.1 93 (by omega) (by omega) (by omega) (by omega) (by omega)]; exact hz.2.1 q hq, (PZ_C hz h).2, (PZ_C hz h).1⟩
/-- a change elsewhere -/
theorem PS_e {N i l : Nat} {tk : Nat → Int} {pl st : Nat → Nat} {σ σ' : Sg} {c : Cd} (h : PSv tk pl st N σ σ i l c) (e84 : ∀ j, j ≠ 21 → σ' 84 j = σ 84 j) (e : ∀ k, 95 ≤ k → k ≤ 98 → σ' k = σ k) : PSv tk pl st N σ' σ' i l c := by
  obtain ⟨-, ⟨⟨a1, b1, e1⟩, h2⟩, hT, h18⟩ := h
  refine ⟨PF_r, ⟨⟨by rw [e84 19 (by omega)]; exact a1, by rw [e84 23 (by omega)]; exact b1, by rw [e84 26 (by omega)]; exact e1⟩, fun k hk => by rw [e 95 (by omega) (by omega), e 96 (by omega) (by omega)]; exact h2 k hk⟩, PT_84 hT (fun j hj => e84 j (by omega)), by rw [e84 18 (by omega)]; exact h18⟩
theorem PZ_e {b : Nat → Int} {n : Nat} {ord : Int} {σ σ' : Sg} (hz : PZ b n ord σ) (e84 : ∀ j, j ≠ 21 → σ' 84 j = σ 84 j) (e : ∀ k, k = 93 ∨ (99 ≤ k ∧ k ≤ 112) → σ' k = σ k) : PZ b n ord σ' := ⟨by rw [e84 13 (by omega)]; exact hz.1, fun q hq => by rw [e 93 (by omega)]; exact hz.2.1 q hq, by rw [e84 20 (by omega)]; exact hz.2.2.1, InvC_f hz.2.2.2 (e 99 (by omega)) (e 100 (by omega)) (e 101 (by omega)) (e 112 (by omega))⟩
/-- which verb it is -/
def vrb (lo t : Int) : Int := if lo ≤ t ∧ t ≤ lo + 3 then t - lo else -1
theorem m_readLaw_4 {tk : Nat → Int} {pl st : Nat → Nat} {N i n : Nat} {σ : Sg} {Q : Sg → Prop} (h : PT tk pl st N σ i) (hC : InvC σ) (h21 : σ 84 21 = (n : Int)) (k : T (vX10_readLaw_54 (vrb 300 (tk i)) (if vrb 300 (tk i) ≠ -1 ∧ n < 12 then 1 else 0) σ) Q) : T (vX10_readLaw σ) Q := by
  obtain ⟨-, -, ⟨c0, c1, c2, c3⟩, -⟩ := hC
  have hw : ∀ j : Nat, j < 4 → wfold (wl.getD j []) = σ 101 j := fun j hj => by
    match j with
    | 0 => rw [c0]; decide
    | 1 => rw [c1]; decide
    | 2 => rw [c2]; decide
    | 3 => rw [c3]; decide
    | j + 4 => omega
  have key : ∀ (f x : Nat) (y : Int), 4 - x < f → x ≤ 4 → (if 300 + (x : Int) ≤ tk i ∧ tk i ≤ 303 then tk i - 300 else y) = vrb 300 (tk i) → T (vX10_readLaw_4 f y (x : Int) σ) Q := by
    intro f
    induction f with
    | zero => intro x y h; omega
    | succ f ih =>
      intro x y hf hx hv
      rw [vX10_readLaw_4]
      refine T_ite (fun q => ?_) (fun q => ?_)
      · refine T_ck (by omega) ?_
        rw [Int.toNat_natCast, ps_word h (by omega) (hw x (by omega)), Option.bind_some]
        have ex : (x : Int) + 1 = ((x + 1 : Nat) : Int) := by omega
        by_cases e : tk i = 300 + (x : Int)
        · rw [bI_t e]
          refine T_f (by omega) (T_ck (by omega) ?_)
          rw [ex]
          refine ih (x + 1) _ (by omega) (by omega) ?_
          rw [← hv, if_neg (by omega), if_pos (by omega)]
          omega
        · rw [bI_f e]
          refine T_t rfl (T_ck (by omega) ?_)
          rw [ex]
          refine ih (x + 1) _ (by omega) (by omega) ?_
          rw [← hv]
          by_cases z : 300 + (x : Int) ≤ tk i ∧ tk i ≤ 303
          · rw [if_pos (by omega), if_pos z]
          · rw [if_neg (by omega), if_neg z]
      · rw [if_neg (by omega)] at hv
        subst hv
        rw [h21]
        unfold vX10_readLaw_53
        refine T_ite (fun q1 => ?_) (fun q1 => T_ite (fun q2 => ?_) (fun q2 => ?_))
        · rw [if_neg (fun z => z.1 q1)] at k; exact k
        · rw [if_pos ⟨q1, by omega⟩] at k; exact k
        · rw [if_neg (fun z => q2 (by omega))] at k; exact k
  unfold vX10_readLaw
  exact key FU 0 (-1) (by have := FU_b; omega) (by omega) (by unfold vrb; rw [show ((0 : Nat) : Int) = 0 from rfl, Int.add_zero]; rfl)
