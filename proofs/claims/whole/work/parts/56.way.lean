/-! ===== the quickest way ===== -/
def zb (s : Nat) : Int := 6 - ((s % 2 + s / 2 % 2 + s / 4 % 2 + s / 8 % 2 + s / 16 % 2 + s / 32 % 2 : Nat) : Int)
theorem zb_t : ∀ s g : Fin 64, (s.val ||| g.val) ≠ s.val → zb (s.val ||| g.val) + 1 ≤ zb s.val := by decide +kernel
theorem zb_b (s : Nat) : 0 ≤ zb s ∧ zb s ≤ 6 := by unfold zb; omega
def gB (ρ : Nat → Int) (b : Nat) : Nat := (ρ (87 + (b : Int)).toNat).toNat
def thn (ρ : Nat → Int) (s b : Nat) : Nat := s ||| gB ρ b
/-- what a row's books must be -/
def bkW (ρ : Nat → Int) (N : Nat) : Prop := N ≤ 8 ∧ ρ 0 = (N : Int) ∧ ∀ b : Nat, b < N → (1 ≤ ρ (71 + (b : Int)).toNat ∧ ρ (71 + (b : Int)).toNat ≤ 9) ∧ (0 ≤ ρ (87 + (b : Int)).toNat ∧ ρ (87 + (b : Int)).toNat ≤ 63)
theorem thn_o {ρ : Nat → Int} {N s b : Nat} (h : bkW ρ N) (hb : b < N) (hs : s < 64) : bOr (s : Int) (ρ (87 + (b : Int)).toNat) = (thn ρ s b : Int) ∧ thn ρ s b < 64 ∧ s ≤ thn ρ s b ∧ (thn ρ s b ≠ s → zb (thn ρ s b) + 1 ≤ zb s) := by
  have hg := (h.2.2 b hb).2
  have e : ρ (87 + (b : Int)).toNat = (gB ρ b : Int) := by unfold gB; omega
  have l : gB ρ b < 64 := by unfold gB; omega
  have o : s ||| gB ρ b < 2 ^ 6 := Nat.or_lt_two_pow hs l
  refine ⟨?_, o, Nat.left_le_or, fun hne => zb_t ⟨s, hs⟩ ⟨gB ρ b, l⟩ hne⟩
  rw [e, bOr_n (by omega) (by omega)]
  rfl
def cst (ρ : Nat → Int) (b : Nat) : Int := ρ (71 + (b : Int)).toNat * 16 + 1
noncomputable def cf (ρ : Nat → Int) (tg : Prop) (c : Nat → Int) (s : Nat) : Nat → Int
  | 0 => @ite Int tg (Classical.propDecidable _) 0 1000000
  | b + 1 => @ite Int (fitP ρ (b : Int) (s : Int) ∧ thn ρ s b ≠ s) (Classical.propDecidable _) (imin (cf ρ tg c s b) (c (thn ρ s b) + cst ρ b)) (cf ρ tg c s b)
theorem cf_c {ρ : Nat → Int} {tg : Prop} {c c' : Nat → Int} {s : Nat} : ∀ b : Nat, (∀ b', b' < b → thn ρ s b' ≠ s → c (thn ρ s b') = c' (thn ρ s b')) → cf ρ tg c s b = cf ρ tg c' s b
  | 0, _ => rfl
  | b + 1, h => by
    rw [cf, cf, cf_c b (fun b' hb' => h b' (by omega))]
    by_cases q : fitP ρ (b : Int) (s : Int) ∧ thn ρ s b ≠ s
    · rw [if_pos q, if_pos q, h b (by omega) q.2]
    · rw [if_neg q, if_neg q]
theorem imin_l (a b : Int) : imin a b ≤ a ∧ imin a b ≤ b ∧ (imin a b = a ∨ imin a b = b) := by unfold imin; split <;> omega
theorem cf_e {ρ : Nat → Int} {tg : Prop} {c : Nat → Int} {s : Nat} : ∀ b : Nat, (cf ρ tg c s b = cf ρ tg c s 0 ∨ ∃ b', b' < b ∧ fitP ρ (b' : Int) (s : Int) ∧ thn ρ s b' ≠ s ∧ cf ρ tg c s b = c (thn ρ s b') + cst ρ b')
  | 0 => Or.inl rfl
  | b + 1 => by
    have ih := cf_e (ρ := ρ) (tg := tg) (c := c) (s := s) b
    have es : cf ρ tg c s (b + 1) = @ite Int (fitP ρ (b : Int) (s : Int) ∧ thn ρ s b ≠ s) (Classical.propDecidable _) (imin (cf ρ tg c s b) (c (thn ρ s b) + cst ρ b)) (cf ρ tg c s b) := rfl
    rw [es]
    by_cases q : fitP ρ (b : Int) (s : Int) ∧ thn ρ s b ≠ s
    · rw [if_pos q]
      rcases (imin_l (cf ρ tg c s b) (c (thn ρ s b) + cst ρ b)).2.2 with e | e
      · rw [e]
        rcases ih with x | ⟨b', x1, x2⟩
        · exact Or.inl x
        · exact Or.inr ⟨b', by omega, x2⟩
      · exact Or.inr ⟨b, by omega, q.1, q.2, e⟩
    · rw [if_neg q]
      rcases ih with x | ⟨b', x1, x2⟩
      · exact Or.inl x
      · exact Or.inr ⟨b', by omega, x2⟩
theorem cf_b {ρ : Nat → Int} {tg : Prop} {c : Nat → Int} {N s : Nat} (h : bkW ρ N) (hs : s < 64) (hc : ∀ u, s < u → u < 64 → 0 ≤ c u ∧ c u ≤ 1000000) : ∀ b : Nat, b ≤ N → 0 ≤ cf ρ tg c s b ∧ cf ρ tg c s b ≤ 1000000
  | 0, _ => by
    rw [cf]
    by_cases q : tg
    · rw [if_pos q]; omega
    · rw [if_neg q]; omega
  | b + 1, hb => by
    have ih := cf_b (tg := tg) h hs hc b (by omega)
    have l := (h.2.2 b (by omega)).1
    rw [cf]
    by_cases q : fitP ρ (b : Int) (s : Int) ∧ thn ρ s b ≠ s
    · rw [if_pos q]
      obtain ⟨-, t1, t2, -⟩ := thn_o h (b := b) (by omega) hs
      have := hc (thn ρ s b) (by have := q.2; omega) t1
      have := imin_l (cf ρ tg c s b) (c (thn ρ s b) + cst ρ b)
      unfold cst at *
      omega
    · rw [if_neg q]; exact ih
/-- the cost of traits above v is known -/
def CcOk (ρ : Nat → Int) (N : Nat) (to : Int) (c : Nat → Int) (v : Int) : Prop := ∀ u : Nat, v < (u : Int) → u < 64 → c u = cf ρ (bAnd (u : Int) to = to) c u N ∧ 0 ≤ c u ∧ c u ≤ 1000000
theorem CcOk_u {ρ : Nat → Int} {N : Nat} {to : Int} {c : Nat → Int} {s : Nat} {z : Int} (h : bkW ρ N) (hc : CcOk ρ N to c (s : Int)) : CcOk ρ N to (upw c s z) (s : Int) := by
  intro u h1 h2
  have := hc u h1 h2
  rw [upw_n (by omega)]
  refine ⟨?_, this.2⟩
  rw [this.1]
  refine cf_c N (fun b hb hne => ?_)
  obtain ⟨-, t1, t2, -⟩ := thn_o h hb h2
  rw [upw_n (by omega)]
theorem c_costOf {K : Kt} {σ : Sg} {ρ : Nat → Int} {N b : Nat} (hH : HallIs σ 13 ρ) (h : bkW ρ N) (hb : b < N) : vX0_costOf K (b : Int) σ = some (cst ρ b) := by
  have l := (h.2.2 b hb).1
  have h8 := h.1
  obtain ⟨-, gB', -⟩ := H13 hH
  unfold vX0_costOf cst
  rw [(gB' b (by omega) (by omega)).1, ck_p (by omega), ck_p (by omega), ck_p (by omega)]
theorem c_fillCost_28 {K : Kt} {σ0 : Sg} {ρ : Nat → Int} {rec : Int → Int → Sg → Option Sg} {Q : Sg → Prop} {N s : Nat} {to : Int} (hH : HallIs σ0 13 ρ) (h : bkW ρ N) (hs : s < 64)
    (cont : ∀ σ, Sme (fun k => k = 75) σ0 σ → CcOk ρ N to (σ 75) ((s : Int) - 1) → T (rec to ((s : Int) + -1) σ) Q) :
    ∀ (f x : Nat) (σ : Sg), N - x < f → x ≤ N → Sme (fun k => k = 75) σ0 σ → CcOk ρ N to (σ 75) (s : Int) → σ 75 s = cf ρ (bAnd (s : Int) to = to) (σ 75) s x → T (vX0_fillCost_28 K rec f to (s : Int) (x : Int) σ) Q := by
  have h8 := h.1
  intro f
  induction f with
  | zero => intro x σ h; omega
  | succ f ih =>
    intro x σ hf hx hS hC hv
    have hHs : HallIs σ 13 ρ := HallIs_s hH (fun k k1 k2 => hS k (by omega))
    obtain ⟨⟨g0, -⟩, gB', -⟩ := H13 hHs
    have bd : ∀ u, s < u → u < 64 → 0 ≤ σ 75 u ∧ σ 75 u ≤ 1000000 := fun u h1 h2 => (hC u (by omega) h2).2
    have bs := cf_b (tg := bAnd (s : Int) to = to) h hs bd x hx
    rw [vX0_fillCost_28, g0, h.2.1]
    refine T_ite (fun hlt => ?_) (fun hlt => ?_)
    · rw [c_fits hHs (by omega), Option.bind_some, show (x : Int) + 1 = ((x + 1 : Nat) : Int) by omega]
      obtain ⟨t0, t1, t2, t3⟩ := thn_o h (b := x) (by omega) hs
      have l := (h.2.2 x (by omega)).1
      by_cases c : fitP ρ (x : Int) (s : Int)
      · refine T_f (by rw [bI_t c]; omega) ?_
        rw [(gB' x (by omega) (by omega)).2.2.1, t0, c_costOf hHs h (by omega), Option.bind_some, Int.toNat_natCast, Int.toNat_natCast]
        have bt : 0 ≤ σ 75 (thn ρ s x) ∧ σ 75 (thn ρ s x) ≤ 1000000 := by
          by_cases e : thn ρ s x = s
          · rw [e, hv]; exact bs
          · exact bd _ (by omega) t1
        have bc : 1 ≤ cst ρ x ∧ cst ρ x ≤ 200 := by unfold cst; omega
        repeat (with_reducible first | refine T_ck (by omega) ?_ | refine T_nm ?_)
        have hn : imin (σ 75 s) (σ 75 (thn ρ s x) + cst ρ x) = cf ρ (bAnd (s : Int) to = to) (σ 75) s (x + 1) := by
          rw [cf]
          by_cases e : thn ρ s x = s
          · rw [if_neg (fun q => q.2 e), e, ← hv]
            unfold imin; split <;> omega
          · rw [if_pos ⟨c, e⟩, hv]
        refine ih (x + 1) _ (by omega) (by omega) (Sme_u hS rfl) (by rw [up2_c]; exact CcOk_u h hC) ?_
        rw [up2_c, upw_s, hn]
        refine cf_c (x + 1) (fun b hb hne => ?_)
        obtain ⟨-, -, u2, -⟩ := thn_o h (b := b) (by omega) hs
        rw [upw_n hne]
      · refine T_t (bI_f c) ?_
        with_reducible refine T_ck (by omega) ?_
        refine ih (x + 1) σ (by omega) (by omega) hS hC ?_
        rw [cf, if_neg (fun q => c q.1)]; exact hv
    · have e : x = N := by omega
      subst e
      with_reducible refine T_ck (by omega) ?_
      refine cont σ hS (fun u h1 h2 => ?_)
      by_cases e : u = s
      · rw [e]; exact ⟨hv, by rw [hv]; exact bs⟩
      · exact hC u (by omega) h2
theorem c_fillCost_3 {K : Kt} {σ0 : Sg} {ρ : Nat → Int} {N : Nat} {to : Int} (hH : HallIs σ0 13 ρ) (h : bkW ρ N) : ∀ (f : Nat) (v : Int) (σ : Sg), (v + 1).toNat < f → -1 ≤ v → v < 64 → Sme (fun k => k = 75) σ0 σ → CcOk ρ N to (σ 75) v → T (vX0_fillCost_3 K f to v σ) (fun σ' => Sme (fun k => k = 75) σ0 σ' ∧ CcOk ρ N to (σ' 75) (-1)) := by
  have h8 := h.1
  intro f
  induction f with
  | zero => intro v σ h; omega
  | succ f ih =>
    intro v σ hf h1 h2 hS hC
    rw [vX0_fillCost_3]
    refine T_ite (fun hlt => ?_) (fun hlt => ?_)
    · rw [show v = -1 by omega] at hC
      exact T_some ⟨hS, hC⟩
    · obtain ⟨s, e, -⟩ := bI_n v (by omega)
      subst e
      have go : ∀ z, z = cf ρ (bAnd (s : Int) to = to) (σ 75) s 0 → T (vX0_fillCost_25 K (vX0_fillCost_3 K f) to (s : Int) (s : Int) z σ) (fun σ' => Sme (fun k => k = 75) σ0 σ' ∧ CcOk ρ N to (σ' 75) (-1)) := by
        intro z hz
        unfold vX0_fillCost_25
        repeat (with_reducible first | refine T_ck (by omega) ?_ | refine T_nm ?_)
        rw [Int.toNat_natCast]
        refine c_fillCost_28 (σ0 := σ0) hH h (by omega) (fun σ1 S1 C1 => ?_) FU 0 _ (by have := FU_b; omega) (by omega) (Sme_u hS rfl) (by rw [up2_c]; exact CcOk_u h hC) ?_
        · exact ih ((s : Int) + -1) σ1 (by omega) (by omega) (by omega) S1 C1
        · rw [up2_c, upw_s]; exact hz
      refine T_ite (fun c => go 0 ?_) (fun c => go _ ?_)
      · rw [cf, if_pos c]
      · rw [cf, if_neg c]
theorem c_fillCost {K : Kt} {σ : Sg} {ρ : Nat → Int} {N : Nat} {to : Int} (hH : HallIs σ 13 ρ) (h : bkW ρ N) : T (vX0_fillCost K to σ) (fun σ' => Sme (fun k => k = 75) σ σ' ∧ CcOk ρ N to (σ' 75) (-1)) := by
  unfold vX0_fillCost
  exact c_fillCost_3 hH h FU 63 σ (by have := FU_b; omega) (by omega) (by omega) Sme_r (fun u h1 h2 => by omega)
/-- a cost of the class and one of the reference -/
def Rl (s : Nat) (c w : Int) : Prop := (c = 1000000 ∧ w = 100000000) ∨ ∃ W C : Int, (0 ≤ W ∧ W ≤ 9 * zb s) ∧ (0 ≤ C ∧ C ≤ zb s) ∧ c = 16 * W + C ∧ w = 100 * W + C
theorem sub_iff {s to : Nat} (hs : s < 2147483648) (ht : to < 2147483648) : bAnd (s : Int) (to : Int) = (to : Int) ↔ bAnd (to : Int) (bXor (s : Int) (-1)) = 0 := by
  rw [bAnd_n hs, bAnd_nx ht]
  constructor
  · intro h
    have h' : s &&& to = to := by omega
    have : to &&& (to ^^^ s) = 0 := by
      apply Nat.eq_of_testBit_eq
      intro i
      have hi := congrArg (fun z => Nat.testBit z i) h'
      simp only [Nat.testBit_and] at hi
      rw [Nat.testBit_and, Nat.testBit_xor, Nat.zero_testBit]
      revert hi
      cases to.testBit i <;> cases s.testBit i <;> simp
    rw [this]; rfl
  · intro h
    have h' : to &&& (to ^^^ s) = 0 := by omega
    have : s &&& to = to := by
      apply Nat.eq_of_testBit_eq
      intro i
      have hi := congrArg (fun z => Nat.testBit z i) h'
      simp only [Nat.testBit_and, Nat.testBit_xor, Nat.zero_testBit] at hi
      rw [Nat.testBit_and]
      revert hi
      cases to.testBit i <;> cases s.testBit i <;> simp
    rw [this]
/-- what the reference reckons by one book -/
noncomputable def wby (ρ : Nat → Int) (w : Nat → Int) (s b : Nat) : Int := @ite Int (fitP ρ (b : Int) (s : Int) ∧ thn ρ s b ≠ s ∧ w (thn ρ s b) ≠ 100000000) (Classical.propDecidable _) (100 * ρ (71 + (b : Int)).toNat + 1 + w (thn ρ s b)) 100000000
theorem m_weeksBy {σ : Sg} {N s b : Nat} (h : bkW (σ 86) N) (hb : b < N) (hs : s < 64) (hw : thn (σ 86) s b ≠ s → 0 ≤ σ 107 (thn (σ 86) s b) ∧ σ 107 (thn (σ 86) s b) ≤ 100000000) : vX10_weeksBy (s : Int) (b : Int) σ = some (wby (σ 86) (σ 107) s b) := by
  obtain ⟨t0, t1, t2, t3⟩ := thn_o h hb hs
  have l := (h.2.2 b hb).1
  have h8 := h.1
  unfold vX10_weeksBy wby
  simp only [nm]
  rw [t0, ck_p (by omega), ck_p (by omega), ck_p (by omega), ck_p (by omega), m_isIn, Option.bind_some, Int.toNat_natCast]
  by_cases c1 : fitP (σ 86) (b : Int) (s : Int)
  · have c1' := c1
    unfold fitP at c1'
    rw [if_neg (show ¬ bI (bAnd (σ 86 (79 + (b : Int)).toNat) (bXor (s : Int) (-1)) = 0) = 0 by rw [bI_t c1']; omega)]
    by_cases c2 : thn (σ 86) s b = s
    · rw [if_pos (show (thn (σ 86) s b : Int) = (s : Int) by rw [c2]), if_neg (fun q => q.2.1 c2)]
    · rw [if_neg (show ¬ (thn (σ 86) s b : Int) = (s : Int) by omega), ck_p (by omega)]
      by_cases c3 : σ 107 (thn (σ 86) s b) = 100000000
      · rw [if_pos c3, if_neg (fun q => q.2.2 c3)]
      · have := hw c2
        rw [if_neg c3, if_pos ⟨c1, c2, c3⟩, ck_p (by omega), ck_p (by omega), ck_p (by omega), ck_p (by omega), ck_p (by omega), ck_p (by omega)]
  · have c1' := c1
    unfold fitP at c1'
    rw [if_pos (bI_f c1'), if_neg (fun q => c1 q.1)]
theorem Rl_s {ρ : Nat → Int} {N s b : Nat} {c w : Nat → Int} {x y : Int} (h : bkW ρ N) (hb : b < N) (hs : s < 64) (hf : fitP ρ (b : Int) (s : Int)) (hne : thn ρ s b ≠ s) (ht : Rl (thn ρ s b) (c (thn ρ s b)) (w (thn ρ s b))) (hx : Rl s x y) : Rl s (imin x (c (thn ρ s b) + cst ρ b)) (if wby ρ w s b < y then wby ρ w s b else y) ∧ (y ≠ 100000000 → (c (thn ρ s b) + cst ρ b = x ↔ wby ρ w s b = y)) := by
  obtain ⟨-, t1, t2, t3⟩ := thn_o h hb hs
  have t3 := t3 hne
  have l := (h.2.2 b hb).1
  have z1 := zb_b s
  have z2 := zb_b (thn ρ s b)
  have bc : cst ρ b = ρ (71 + (b : Int)).toNat * 16 + 1 := rfl
  rcases ht with ⟨a1, a2⟩ | ⟨W, C, a1, a2, a3, a4⟩
  · have ew : wby ρ w s b = 100000000 := by unfold wby; rw [if_neg (fun q => q.2.2 a2)]
    have hx' : x ≤ 1000000 ∧ y ≤ 100000000 := by rcases hx with ⟨x1, x2⟩ | ⟨W', C', x1, x2, x3, x4⟩ <;> omega
    have ei : imin x (c (thn ρ s b) + cst ρ b) = x := by unfold imin; split <;> omega
    rw [ei, ew, if_neg (by omega)]
    refine ⟨hx, fun hy => ?_⟩
    rcases hx with ⟨x1, x2⟩ | ⟨W', C', x1, x2, x3, x4⟩
    · exact absurd x2 hy
    · omega
  · have ne : w (thn ρ s b) ≠ 100000000 := by omega
    have ew : wby ρ w s b = 100 * ρ (71 + (b : Int)).toNat + 1 + w (thn ρ s b) := by unfold wby; rw [if_pos ⟨hf, hne, ne⟩]
    rcases hx with ⟨x1, x2⟩ | ⟨W', C', x1, x2, x3, x4⟩
    · have ei : imin x (c (thn ρ s b) + cst ρ b) = c (thn ρ s b) + cst ρ b := by unfold imin; split <;> omega
      rw [ei, ew, if_pos (by omega)]
      exact ⟨Or.inr ⟨W + ρ (71 + (b : Int)).toNat, C + 1, by omega, by omega, by omega, by omega⟩, fun q => absurd x2 q⟩
    · rw [ew]
      refine ⟨?_, fun _ => by omega⟩
      by_cases lt : 100 * ρ (71 + (b : Int)).toNat + 1 + w (thn ρ s b) < y
      · have ei : imin x (c (thn ρ s b) + cst ρ b) = c (thn ρ s b) + cst ρ b := by unfold imin; split <;> omega
        rw [ei, if_pos lt]
        exact Or.inr ⟨W + ρ (71 + (b : Int)).toNat, C + 1, by omega, by omega, by omega, by omega⟩
      · have ei : imin x (c (thn ρ s b) + cst ρ b) = x := by unfold imin; split <;> omega
        rw [ei, if_neg lt]
        exact Or.inr ⟨W', C', x1, x2, x3, x4⟩
theorem cf_0 {ρ : Nat → Int} {tg : Prop} {c : Nat → Int} {N s : Nat} (h : bkW ρ N) (hs : s < 64) (ht : tg) (hc : ∀ u, s < u → u < 64 → 0 ≤ c u) : ∀ b : Nat, b ≤ N → cf ρ tg c s b = 0
  | 0, _ => by rw [cf, if_pos ht]
  | b + 1, hb => by
    rw [cf, cf_0 h hs ht hc b (by omega)]
    by_cases q : fitP ρ (b : Int) (s : Int) ∧ thn ρ s b ≠ s
    · rw [if_pos q]
      obtain ⟨-, t1, t2, -⟩ := thn_o h (b := b) (by omega) hs
      have := hc (thn ρ s b) (by have := q.2; omega) t1
      have l := (h.2.2 b (by omega)).1
      unfold imin cst
      split <;> omega
    · rw [if_neg q]
theorem Rl_b {s : Nat} {c w : Int} (h : Rl s c w) : 0 ≤ w ∧ w ≤ 100000000 ∧ 0 ≤ c := by
  have z := zb_b s
  rcases h with ⟨a, b⟩ | ⟨W, C, a1, a2, a3, a4⟩
  · omega
  · omega
theorem m_layWeeks_30 {σ0 : Sg} {rec : Int → Int → Sg → Option Sg} {Q : Sg → Prop} {N s to : Nat} {c : Nat → Int} (h : bkW (σ0 86) N) (hs : s < 64) (hto : to < 64) (hC : CcOk (σ0 86) N (to : Int) c (-1))
    (cont : ∀ σ, Sme (fun k => k = 107) σ0 σ → (∀ u, s ≤ u → u < 64 → Rl u (c u) (σ 107 u)) → T (rec (to : Int) ((s : Int) + -1) σ) Q) :
    ∀ (f x : Nat) (σ : Sg), N - x < f → x ≤ N → Sme (fun k => k = 107) σ0 σ → (∀ u, s < u → u < 64 → Rl u (c u) (σ 107 u)) → Rl s (cf (σ0 86) (bAnd (s : Int) (to : Int) = (to : Int)) c s x) (σ 107 s) → T (vX10_layWeeks_30 rec f (to : Int) (s : Int) (x : Int) σ) Q := by
  have h8 := h.1
  intro f
  induction f with
  | zero => intro x σ h; omega
  | succ f ih =>
    intro x σ hf hx hS hR hv
    have e86 : σ 86 = σ0 86 := hS 86 (by omega)
    have fin : x = N → T (rec (to : Int) ((s : Int) + -1) σ) Q := by
      intro e
      refine cont σ hS (fun u u1 u2 => ?_)
      by_cases e' : u = s
      · rw [e', (hC s (by omega) hs).1, ← e]; exact hv
      · exact hR u (by omega) u2
    rw [vX10_layWeeks_30, e86, h.2.1]
    refine T_ite (fun hlt => ?_) (fun hlt => ?_)
    · rw [m_isIn, Option.bind_some]
      by_cases tg : bAnd (s : Int) (to : Int) = (to : Int)
      · refine T_f (by rw [bI_t ((sub_iff (by omega) (by omega)).mp tg)]; omega) ?_
        with_reducible refine T_ck (by omega) ?_
        refine cont σ hS (fun u u1 u2 => ?_)
        by_cases e' : u = s
        · rw [e', (hC s (by omega) hs).1, cf_0 h hs tg (fun u u1 u2 => (hC u (by omega) u2).2.1) N (by omega)]
          rw [cf_0 h hs tg (fun u u1 u2 => (hC u (by omega) u2).2.1) x hx] at hv
          exact hv
        · exact hR u (by omega) u2
      · refine T_t (bI_f (fun q => tg ((sub_iff (by omega) (by omega)).mpr q))) ?_
        obtain ⟨t0, t1, t2, t3⟩ := thn_o h (b := x) (by omega) hs
        rw [m_weeksBy (by rw [e86]; exact h) (by omega) hs (fun hne => by
          rw [e86] at hne ⊢
          have := Rl_b (hR (thn (σ0 86) s x) (by omega) t1)
          omega), Option.bind_some, e86, Int.toNat_natCast]
        have put : ∀ z, Rl s (cf (σ0 86) (bAnd (s : Int) (to : Int) = (to : Int)) c s (x + 1)) z → T (vX10_layWeeks_83 rec (vX10_layWeeks_30 rec f) (to : Int) (s : Int) (x : Int) (s : Int) z σ) Q := by
          intro z hz
          unfold vX10_layWeeks_83
          repeat (with_reducible first | refine T_ck (by omega) ?_ | refine T_nm ?_)
          rw [Int.toNat_natCast, show (x : Int) + 1 = ((x + 1 : Nat) : Int) by omega]
          refine ih (x + 1) _ (by omega) (by omega) (Sme_u hS rfl) (fun u u1 u2 => ?_) ?_
          · rw [up2_c, upw_n (by omega)]; exact hR u u1 u2
          · rw [up2_c, upw_s]; exact hz
        have key : Rl s (cf (σ0 86) (bAnd (s : Int) (to : Int) = (to : Int)) c s (x + 1)) (if wby (σ0 86) (σ 107) s x < σ 107 s then wby (σ0 86) (σ 107) s x else σ 107 s) := by
          rw [cf]
          by_cases q : fitP (σ0 86) (x : Int) (s : Int) ∧ thn (σ0 86) s x ≠ s
          · rw [if_pos q]
            exact (Rl_s h (by omega) hs q.1 q.2 (hR _ (by have := q.2; omega) t1) hv).1
          · rw [if_neg q]
            have ew : wby (σ0 86) (σ 107) s x = 100000000 := by unfold wby; rw [if_neg (fun p => q ⟨p.1, p.2.1⟩)]
            have := Rl_b hv
            rw [if_neg (by omega)]
            exact hv
        with_reducible refine T_ck (by omega) ?_
        refine T_ite (fun lt => ?_) (fun lt => ?_)
        · rw [if_pos lt] at key
          exact put _ key
        · rw [if_neg lt] at key
          with_reducible refine T_ck (by omega) ?_
          exact put _ key
    · with_reducible refine T_ck (by omega) ?_
      exact fin (by omega)
theorem m_layWeeks_3 {σ0 : Sg} {N to : Nat} {c : Nat → Int} (h : bkW (σ0 86) N) (hto : to < 64) (hC : CcOk (σ0 86) N (to : Int) c (-1)) : ∀ (f : Nat) (v : Int) (σ : Sg), (v + 1).toNat < f → -1 ≤ v → v < 64 → Sme (fun k => k = 107) σ0 σ → (∀ u : Nat, v < (u : Int) → u < 64 → Rl u (c u) (σ 107 u)) → T (vX10_layWeeks_3 f (to : Int) v σ) (fun σ' => Sme (fun k => k = 107) σ0 σ' ∧ ∀ u : Nat, u < 64 → Rl u (c u) (σ' 107 u)) := by
  have h8 := h.1
  intro f
  induction f with
  | zero => intro v σ h; omega
  | succ f ih =>
    intro v σ hf h1 h2 hS hR
    rw [vX10_layWeeks_3]
    refine T_ite (fun hlt => ?_) (fun hlt => ?_)
    · exact T_some ⟨hS, fun u hu => hR u (by omega) hu⟩
    · obtain ⟨s, e, -⟩ := bI_n v (by omega)
      subst e
      have z := zb_b s
      have go : ∀ y, Rl s (cf (σ0 86) (bAnd (s : Int) (to : Int) = (to : Int)) c s 0) y → T (vX10_layWeeks_27 (vX10_layWeeks_3 f) (to : Int) (s : Int) (s : Int) y σ) (fun σ' => Sme (fun k => k = 107) σ0 σ' ∧ ∀ u : Nat, u < 64 → Rl u (c u) (σ' 107 u)) := by
        intro y hy
        unfold vX10_layWeeks_27
        repeat (with_reducible first | refine T_ck (by omega) ?_ | refine T_nm ?_)
        rw [Int.toNat_natCast]
        refine m_layWeeks_30 (σ0 := σ0) h (by omega) hto hC (fun σ1 S1 R1 => ?_) FU 0 _ (by have := FU_b; omega) (by omega) (Sme_u hS rfl) (fun u u1 u2 => ?_) ?_
        · exact ih ((s : Int) + -1) σ1 (by omega) (by omega) (by omega) S1 (fun u u1 u2 => R1 u (by omega) u2)
        · rw [up2_c, upw_n (by omega)]; exact hR u (by omega) u2
        · rw [up2_c, upw_s]; exact hy
      rw [m_isIn, Option.bind_some]
      by_cases tg : bAnd (s : Int) (to : Int) = (to : Int)
      · refine T_f (by rw [bI_t ((sub_iff (by omega) (by omega)).mp tg)]; omega) (go 0 ?_)
        rw [cf, if_pos tg]
        exact Or.inr ⟨0, 0, by omega, by omega, by omega, by omega⟩
      · refine T_t (bI_f (fun q => tg ((sub_iff (by omega) (by omega)).mpr q))) (go _ ?_)
        rw [cf, if_neg tg]
        exact Or.inl ⟨rfl, rfl⟩
