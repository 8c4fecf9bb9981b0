/-! ===== the words of orders ===== -/
def wOr (ρ : Nat → Int) (dn lt : Int) (j : Nat) : Int := if j = 0 then ρ 4 else if j = 1 then dn else if j = 2 then lt else if j = 3 then ρ 8 else if j < 10 then (if (j : Int) - 4 < ρ 1 then ρ (25 + j) else -1) else if j < 16 then (if (j : Int) - 10 < ρ 1 then ρ (13 + j) else -1) else if j < 24 then (if (j : Int) - 16 < ρ 0 then ρ (j - 7) else -1) else 0
theorem wOr_a {ρ : Nat → Int} {dn lt : Int} {x : Nat} (h : x < 6) : wOr ρ dn lt (4 + x) = if (x : Int) < ρ 1 then ρ (29 + x) else -1 := by
  unfold wOr
  rw [if_neg (by omega), if_neg (by omega), if_neg (by omega), if_neg (by omega), if_pos (by omega), show 25 + (4 + x) = 29 + x by omega]
  by_cases q : (x : Int) < ρ 1
  · rw [if_pos (by omega), if_pos q]
  · rw [if_neg (by omega), if_neg q]
theorem wOr_b {ρ : Nat → Int} {dn lt : Int} {x : Nat} (h : x < 6) : wOr ρ dn lt (10 + x) = if (x : Int) < ρ 1 then ρ (23 + x) else -1 := by
  unfold wOr
  rw [if_neg (by omega), if_neg (by omega), if_neg (by omega), if_neg (by omega), if_neg (by omega), if_pos (by omega), show 13 + (10 + x) = 23 + x by omega]
  by_cases q : (x : Int) < ρ 1
  · rw [if_pos (by omega), if_pos q]
  · rw [if_neg (by omega), if_neg q]
theorem wOr_c {ρ : Nat → Int} {dn lt : Int} {x : Nat} (h : x < 8) : wOr ρ dn lt (16 + x) = if (x : Int) < ρ 0 then ρ (9 + x) else -1 := by
  unfold wOr
  rw [if_neg (by omega), if_neg (by omega), if_neg (by omega), if_neg (by omega), if_neg (by omega), if_neg (by omega), if_pos (by omega), show 16 + x - 7 = 9 + x by omega]
  by_cases q : (x : Int) < ρ 0
  · rw [if_pos (by omega), if_pos q]
  · rw [if_neg (by omega), if_neg q]
theorem wOr_k {ρ : Nat → Int} {dn lt : Int} (hW : WF ρ) (hd : 0 ≤ dn ∧ dn ≤ 1000000) (hl : -1 ≤ lt ∧ lt ≤ 1000) : wOk (wOr ρ dn lt) := by
  obtain ⟨⟨w0, w1, -, -⟩, ⟨w4, -, -, -, w8⟩, wB, wR, -⟩ := hW
  intro j
  by_cases q : j < 4
  · unfold wOr
    by_cases q0 : j = 0
    · rw [if_pos q0]; omega
    · rw [if_neg q0]
      by_cases q1 : j = 1
      · rw [if_pos q1]; omega
      · rw [if_neg q1]
        by_cases q2 : j = 2
        · rw [if_pos q2]; omega
        · rw [if_neg q2, if_pos (by omega)]; omega
  · by_cases qa : j < 10
    · obtain ⟨x, e⟩ : ∃ x, j = 4 + x := ⟨j - 4, by omega⟩
      subst e
      rw [wOr_a (by omega)]
      split
      · rename_i h
        have := (wR (x : Int) (by omega) h).2.2.2.1
        rw [show (29 + (x : Int)).toNat = 29 + x by omega] at this
        omega
      · omega
    · by_cases qb : j < 16
      · obtain ⟨x, e⟩ : ∃ x, j = 10 + x := ⟨j - 10, by omega⟩
        subst e
        rw [wOr_b (by omega)]
        split
        · rename_i h
          have := (wR (x : Int) (by omega) h).2.2.1
          rw [show (23 + (x : Int)).toNat = 23 + x by omega] at this
          omega
        · omega
      · by_cases qc : j < 24
        · obtain ⟨x, e⟩ : ∃ x, j = 16 + x := ⟨j - 16, by omega⟩
          subst e
          rw [wOr_c (by omega)]
          split
          · rename_i h
            have := (wB (x : Int) (by omega) h).2.2.2
            rw [show (9 + (x : Int)).toNat = 9 + x by omega] at this
            omega
          · omega
        · unfold wOr
          rw [if_neg (by omega), if_neg (by omega), if_neg (by omega), if_neg (by omega), if_neg (by omega), if_neg (by omega), if_neg (by omega)]
          omega
theorem c_oWords {K : Kt} {σ0 : Sg} {ρ : Nat → Int} {dn lt : Int} (hH : HallIs σ0 13 ρ) (hW : WF ρ) (h1 : σ0 82 1 = dn) (h2 : σ0 82 2 = lt) : T (vX9_tellOrderWords K σ0) (fun σ' => (∀ k, k ≠ 82 → σ' k = σ0 k) ∧ ∀ j, j < 24 → σ' 82 j = wOr ρ dn lt j) := by
  obtain ⟨⟨g0, g1, g8⟩, gB, gR, -, g4, -⟩ := H13 hH
  obtain ⟨⟨w0, w1, -, -⟩, -⟩ := hW
  have key2 : ∀ (f x : Nat) (σ : Sg), 8 - x < f → x ≤ 8 → (∀ k, k ≠ 82 → σ k = σ0 k) → (∀ j, j < 16 + x → σ 82 j = wOr ρ dn lt j) → T (vX9_tellOrderWords_109 K f (x : Int) σ) (fun σ' => (∀ k, k ≠ 82 → σ' k = σ0 k) ∧ ∀ j, j < 24 → σ' 82 j = wOr ρ dn lt j) := by
    intro f
    induction f with
    | zero => intro x σ h; omega
    | succ f ih =>
      intro x σ hf hx fr hw
      rw [vX9_tellOrderWords_109]
      refine T_ite (fun q => ?_) (fun q => T_some ⟨fr, fun j hj => hw j (by omega)⟩)
      have ex : (16 : Int) + (x : Int) = ((16 + x : Nat) : Int) := by omega
      have ex1 : (x : Int) + 1 = ((x + 1 : Nat) : Int) := by omega
      have go : ∀ v, v = wOr ρ dn lt (16 + x) → T (vX9_tellOrderWords_147 K (vX9_tellOrderWords_109 K f) (x : Int) ((16 + x : Nat) : Int) v σ) (fun σ' => (∀ k, k ≠ 82 → σ' k = σ0 k) ∧ ∀ j, j < 24 → σ' 82 j = wOr ρ dn lt j) := by
        intro v hv
        unfold vX9_tellOrderWords_147
        refine T_ck (by omega) (T_nm (T_ck (by omega) ?_))
        rw [Int.toNat_natCast, ex1]
        refine ih (x + 1) _ (by omega) (by omega) (fun k hk => by rw [up2_o hk]; exact fr k hk) (fun j hj => ?_)
        rw [up2_c]
        by_cases z : j = 16 + x
        · rw [z, upw_s]; exact hv
        · rw [upw_n z]; exact hw j (by omega)
      rw [h_hasBook, Option.bind_some, fr 13 (by omega), g0, ex]
      have cc := wOr_c (ρ := ρ) (dn := dn) (lt := lt) (x := x) (by omega)
      by_cases z : (x : Int) < ρ 0
      · rw [bI_t (by omega)]
        rw [if_pos z] at cc
        refine T_ck (by omega) (T_f (by omega) (T_ck (by omega) (go _ ?_)))
        have := (gB (x : Int) (by omega) (by omega)).2.2.2
        rw [cc, fr 17 (by omega), this, show (9 + (x : Int)).toNat = 9 + x by omega]
      · rw [bI_f (by omega)]
        rw [if_neg z] at cc
        exact T_ck (by omega) (T_t rfl (go _ cc.symm))
  have key1 : ∀ (f x : Nat) (σ : Sg), 6 - x < f → x ≤ 6 → (∀ k, k ≠ 82 → σ k = σ0 k) → (∀ j, (j < 4 + x ∨ (10 ≤ j ∧ j < 10 + x)) → σ 82 j = wOr ρ dn lt j) → T (vX9_tellOrderWords_30 K f (x : Int) σ) (fun σ' => (∀ k, k ≠ 82 → σ' k = σ0 k) ∧ ∀ j, j < 24 → σ' 82 j = wOr ρ dn lt j) := by
    intro f
    induction f with
    | zero => intro x σ h; omega
    | succ f ih =>
      intro x σ hf hx fr hw
      rw [vX9_tellOrderWords_30]
      refine T_ite (fun q => ?_) (fun q => ?_)
      · have ex : (4 : Int) + (x : Int) = ((4 + x : Nat) : Int) := by omega
        have ey : (10 : Int) + (x : Int) = ((10 + x : Nat) : Int) := by omega
        have ex1 : (x : Int) + 1 = ((x + 1 : Nat) : Int) := by omega
        have c1 := wOr_a (ρ := ρ) (dn := dn) (lt := lt) (x := x) (by omega)
        have c2 := wOr_b (ρ := ρ) (dn := dn) (lt := lt) (x := x) (by omega)
        have go2 : ∀ v u, v = wOr ρ dn lt (4 + x) → u = wOr ρ dn lt (10 + x) → T (vX9_tellOrderWords_100 K (vX9_tellOrderWords_30 K f) (x : Int) ((10 + x : Nat) : Int) u (up2 σ 82 (4 + x) v)) (fun σ' => (∀ k, k ≠ 82 → σ' k = σ0 k) ∧ ∀ j, j < 24 → σ' 82 j = wOr ρ dn lt j) := by
          intro v u hv hu
          unfold vX9_tellOrderWords_100
          refine T_ck (by omega) (T_nm (T_ck (by omega) ?_))
          rw [Int.toNat_natCast, ex1]
          refine ih (x + 1) _ (by omega) (by omega) (fun k hk => by rw [up2_o hk, up2_o hk]; exact fr k hk) (fun j hj => ?_)
          rw [up2_c, up2_c]
          by_cases z : j = 10 + x
          · rw [z, upw_s]; exact hu
          · rw [upw_n z]
            by_cases z2 : j = 4 + x
            · rw [z2, upw_s]; exact hv
            · rw [upw_n z2]; exact hw j (by omega)
        have go : ∀ v, v = wOr ρ dn lt (4 + x) → T (vX9_tellOrderWords_67 K (vX9_tellOrderWords_30 K f) (x : Int) ((4 + x : Nat) : Int) v σ) (fun σ' => (∀ k, k ≠ 82 → σ' k = σ0 k) ∧ ∀ j, j < 24 → σ' 82 j = wOr ρ dn lt j) := by
          intro v hv
          unfold vX9_tellOrderWords_67
          refine T_ck (by omega) (T_nm (T_ck (by omega) ?_))
          rw [Int.toNat_natCast, h_hasReader, Option.bind_some, up2_o (show (13 : Nat) ≠ 82 by omega), fr 13 (by omega), g1, ey, up2_o (show (20 : Nat) ≠ 82 by omega), fr 20 (by omega)]
          by_cases z : (x : Int) < ρ 1
          · rw [bI_t (by omega)]
            rw [if_pos z] at c2
            refine T_f (by omega) (T_ck (by omega) (go2 _ _ hv ?_))
            have := (gR (x : Int) (by omega) (by omega)).2.2.1
            rw [c2, this, show (23 + (x : Int)).toNat = 23 + x by omega]
          · rw [bI_f (by omega)]
            rw [if_neg z] at c2
            exact T_t rfl (go2 _ _ hv c2.symm)
        rw [h_hasReader, Option.bind_some, fr 13 (by omega), g1, ex]
        by_cases z : (x : Int) < ρ 1
        · rw [bI_t (by omega)]
          rw [if_pos z] at c1
          refine T_ck (by omega) (T_f (by omega) (T_ck (by omega) (go _ ?_)))
          have := (gR (x : Int) (by omega) (by omega)).2.2.2.1
          rw [c1, fr 21 (by omega), this, show (29 + (x : Int)).toNat = 29 + x by omega]
        · rw [bI_f (by omega)]
          rw [if_neg z] at c1
          exact T_ck (by omega) (T_t rfl (go _ c1.symm))
      · have := key2 FU 0 σ (by have := FU_b; omega) (by omega) fr (fun j hj => hw j (by omega))
        exact this
  unfold vX9_tellOrderWords
  refine T_nm (T_nm ?_)
  have := key1 FU 0 (up2 (up2 σ0 82 0 (σ0 26 0)) 82 3 (up2 σ0 82 0 (σ0 26 0) 13 3)) (by have := FU_b; omega) (by omega) (fun k hk => by rw [up2_o hk, up2_o hk]) (fun j hj => ?_)
  · exact this
  · rw [up2_c, up2_c, up2_o (show (13 : Nat) ≠ 82 by omega), g8, g4]
    have : j = 0 ∨ j = 1 ∨ j = 2 ∨ j = 3 := by omega
    rcases this with e | e | e | e <;> subst e
    · rw [upw_n (by omega), upw_s]; rfl
    · rw [upw_n (by omega), upw_n (by omega), h1]; rfl
    · rw [upw_n (by omega), upw_n (by omega), h2]; rfl
    · rw [upw_s]; rfl
theorem md_ord {op ar : Nat → Int} {lo hi : Nat} {σ : Sg} {dn lt : Int} (hhi : hi ≤ 400) (hW : WF (σ 86)) (h20 : σ 84 20 = 1) (hcd : ∀ k : Nat, k < hi → σ 95 k = op k ∧ σ 96 k = ar k) (hww : ∀ j : Nat, j < 4 → σ 103 (j + 1) = wOr (σ 86) dn lt j) : Md 1 (wOr (σ 86) dn lt) op ar lo hi σ := by
  intro σ' hR
  have e20 : σ' 84 20 = 1 := by rw [hR.2 20 (by omega)]; exact h20
  have e86 : σ' 86 = σ 86 := hR.1 86 (by omega) (by omega)
  have e95 : σ' 95 = σ 95 := hR.1 95 (by omega) (by omega)
  have e96 : σ' 96 = σ 96 := hR.1 96 (by omega) (by omega)
  have e103 : σ' 103 = σ 103 := hR.1 103 (by omega) (by omega)
  obtain ⟨⟨w0, w1, -, -⟩, -⟩ := hW
  refine ⟨fun f x2 n k k1 k2 k3 h38 => ?_, fun rec x2 n k o a hk hl ho => ?_⟩
  · obtain ⟨c1, c2⟩ := hcd k k2
    rw [vX10_reckonAll_10, if_pos k3, if_pos h38, if_neg (by omega), ck_p (by omega), Int.toNat_natCast]
    unfold vX10_reckonAll_57
    rw [if_neg (by omega), ck_p (by omega), Int.toNat_natCast, e95, e96, c1, c2]
  · obtain ⟨o1, o2, -, o3⟩ := hl
    obtain ⟨o7, o5, o6⟩ := o3 (by omega)
    unfold vX10_reckonAll_95
    rw [ck_p (by omega), if_pos ho]
    by_cases z : o = 0
    · have := o2 z
      rw [if_pos z]
      have e : lvl (wOr (σ 86) dn lt) (lf 1 o a) = a := by
        unfold lf lvl
        rw [if_pos z, if_pos (by omega)]
      rw [e]
    · rw [if_neg z, if_neg (by omega)]
      by_cases z5 : o < 5
      · have e : lvl (wOr (σ 86) dn lt) (lf 1 o a) = σ' 103 o.toNat := by
          unfold lf lvl
          rw [if_neg z, if_neg (by omega), if_pos z5, if_neg (by omega), e103, show o.toNat = (o - 1).toNat + 1 by omega, hww _ (by omega)]
          congr 1
          omega
        rw [if_pos z5, ck_p (by omega), e]
      · have oa := o5 (by omega)
        rw [if_neg z5]
        by_cases z7 : o = 7
        · have e : lvl (wOr (σ 86) dn lt) (lf 1 o a) = if a < σ 86 0 then σ 86 (9 + a).toNat else -1 := by
            unfold lf lvl
            rw [if_neg z, if_neg (by omega), if_neg z5, if_neg (by omega), if_neg (by omega), if_neg (by omega), show (2016 + a - 2000).toNat = 16 + a.toNat by omega, wOr_c (by omega), show ((a.toNat : Nat) : Int) = a by omega, show (9 + a).toNat = 9 + a.toNat by omega]
          rw [if_pos z7, m_isBook (by rw [e86]; exact w0), Option.bind_some, e, e86]
          by_cases q : a < σ 86 0
          · rw [bI_t (by omega), if_neg (by omega), ck_p (by omega), ck_p (by omega), if_pos q]
            rfl
          · rw [bI_f (by omega), if_pos rfl, if_neg q]
            rfl
        · rw [if_neg z7, m_isReader (by rw [e86]; exact w1), Option.bind_some, e86]
          by_cases z6 : o = 5
          · have a5 := o6 (by omega)
            have e : lvl (wOr (σ 86) dn lt) (lf 1 o a) = if a < σ 86 1 then σ 86 (29 + a).toNat else -1 := by
              unfold lf lvl
              rw [if_neg z, if_neg (by omega), if_neg z5, if_pos z6, if_neg (by omega), show (2004 + a - 2000).toNat = 4 + a.toNat by omega, wOr_a (by omega), show ((a.toNat : Nat) : Int) = a by omega, show (29 + a).toNat = 29 + a.toNat by omega]
            rw [e]
            by_cases q : a < σ 86 1
            · rw [bI_t (by omega), if_neg (by omega), if_pos z6, ck_p (by omega), ck_p (by omega), if_pos q]
            · rw [bI_f (by omega), if_pos rfl, if_neg q]
          · have a5 := o6 (by omega)
            have e : lvl (wOr (σ 86) dn lt) (lf 1 o a) = if a < σ 86 1 then σ 86 (23 + a).toNat else -1 := by
              unfold lf lvl
              rw [if_neg z, if_neg (by omega), if_neg z5, if_neg z6, if_pos (show o = 6 by omega), if_neg (by omega), show (2010 + a - 2000).toNat = 10 + a.toNat by omega, wOr_b (by omega), show ((a.toNat : Nat) : Int) = a by omega, show (23 + a).toNat = 23 + a.toNat by omega]
            rw [e]
            by_cases q : a < σ 86 1
            · rw [bI_t (by omega), if_neg (by omega), if_neg z6, ck_p (by omega), ck_p (by omega), if_pos q]
            · rw [bI_f (by omega), if_pos rfl, if_neg q]
