/-! ===== how the reference reads a law's code ===== -/
theorem md_law {w : Nat → Int} {op ar : Nat → Int} {lo hi : Nat} {σ : Sg} {base : Int} (hb : 105 ≤ base ∧ base ≤ 4605) (hhi : hi ≤ 400) (h20 : σ 84 20 = 0) (h34 : σ 84 34 = base) (hcd : ∀ k : Nat, lo ≤ k → k < hi → σ 86 (base + 98 + 2 * (k : Int)).toNat = op k ∧ σ 86 (base + 98 + 2 * (k : Int) + 1).toNat = ar k) (hww : ∀ j : Nat, j < 9 → σ 102 (j + 1) = w j) : Md 0 w op ar lo hi σ := by
  intro σ' hR
  have e20 : σ' 84 20 = 0 := by rw [hR.2 20 (by omega)]; exact h20
  have e34 : σ' 84 34 = base := by rw [hR.2 34 (by omega)]; exact h34
  have e86 : σ' 86 = σ 86 := hR.1 86 (by omega) (by omega)
  have e102 : σ' 102 = σ 102 := hR.1 102 (by omega) (by omega)
  refine ⟨fun f x2 n k k1 k2 k3 h38 => ?_, fun rec x2 n k o a hk hl ho => ?_⟩
  · obtain ⟨c1, c2⟩ := hcd k k1 k2
    rw [vX10_reckonAll_10, if_pos k3, if_pos h38, if_pos e20, e34, ck_p (by omega), ck_p (by omega), ck_p (by omega), ck_p (by omega)]
    unfold vX10_reckonAll_57
    rw [if_pos e20, e34, ck_p (by omega), ck_p (by omega), ck_p (by omega), ck_p (by omega), ck_p (by omega), e86, c1, c2]
  · obtain ⟨o1, o2, o3, -⟩ := hl
    have o9 := o3 rfl
    unfold vX10_reckonAll_95
    rw [ck_p (by omega), if_pos ho]
    by_cases z : o = 0
    · have := o2 z
      rw [if_pos z]
      have e : lvl w (lf 0 o a) = a := by
        unfold lf lvl
        rw [if_pos z, if_pos (by omega)]
      rw [e]
    · rw [if_neg z, if_pos e20, ck_p (by omega)]
      have e : lvl w (lf 0 o a) = σ' 102 o.toNat := by
        unfold lf lvl
        rw [if_neg z, if_pos rfl, if_neg (by omega), e102, show o.toNat = (o - 1).toNat + 1 by omega, hww _ (by omega)]
        congr 1
        omega
      rw [e]
theorem MVal_s {ρ : Nat → Int} {op ar : Nat → Int} {lo hi l : Nat} {base : Int} {E : (Nat → Int) → Int} (hb : 105 ≤ base ∧ base ≤ 4605) (hhi : hi ≤ 400) (hl : l ≤ 50) (hcd : ∀ k : Nat, lo ≤ k → k < hi → ρ (base + 98 + 2 * (k : Int)).toNat = op k ∧ ρ (base + 98 + 2 * (k : Int) + 1).toNat = ar k) (hS : SegM 0 op ar lo hi l E) : MVal ρ base (lo : Int) (hi : Int) E := by
  intro σ w h86 h34 h20 hw hww
  exact m_reckon (md_law hb hhi h20 h34 (fun k k1 k2 => by rw [h86 _ (by omega) (by omega), h86 _ (by omega) (by omega)]; exact hcd k k1 k2) hww) hS hw hl hhi
theorem CVal_s {K : Kt} {σ0 : Sg} {q t M z s l : Nat} {cs : List Int} {E : (Nat → Int) → Int} (hC : cLay K) (hq : IsC K q 7) (e5 : K.1 q 5 = some t) (hat : IsA K t 20 M) (ho : TxO K q) (hz : z ≤ M) (hM : M ≤ 400) (hz7 : σ0 q 7 = (z : Int)) (hcd : ∀ j y, cs[j]? = some y → σ0 t (s + j) = y) (hi : s + cs.length ≤ z) (hs : s + cs.length < z → σ0 t (s + cs.length) = -1) (hl : l ≤ 50) (hS : SegC 9 cs l E) : CVal K σ0 q 12 9 (s : Int) E := by
  intro σ w ag hw hww
  have et : σ t = σ0 t := ag.2 5 t (by omega) e5
  exact c_val hS hl hw hq e5 hat (lcA_12 hC) ho.1.1 (ho.2 5 t (by omega) e5).1 (by omega) hz hM (by omega) (fun j y hy => by rw [et]; exact hcd j y hy) hi (fun h => by rw [et]; exact hs h) (by rw [ag.1]; exact hz7) hww
