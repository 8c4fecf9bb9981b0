/-! ===== a law comes in force ===== -/
theorem InvX_g {K : Kt} {σ σ' : Sg} (h : InvX K σ) (fr : ∀ k, k = 47 ∨ (51 ≤ k ∧ k ≤ 55) ∨ k = 87 ∨ k = 88 ∨ (99 ≤ k ∧ k ≤ 101) ∨ k = 112 ∨ k = 114 → σ' k = σ k) (f84 : ∀ j, j = 56 ∨ j = 57 → σ' 84 j = σ 84 j) (hi : ∀ k, 115 ≤ k → ¬ uc K k → σ' k = σ k) (hW : WF (σ' 86)) (hH : HallIs σ' 13 (σ' 86)) (hL : InvL K σ') (hT : InvT σ') (hU : InvU K σ') : InvX K σ' := by
  obtain ⟨hK, ⟨hW0, hH0⟩, hL0, hU0, hD, hT0, hI, hC⟩ := h
  have tx : ∀ q k, TxtAt K q → 115 ≤ q → q ≤ k → k ≤ q + 6 → σ' k = σ k := fun q k a h1 h2 h3 => hi k (by omega) (uc_tx hK a h2 h3)
  refine ⟨hK, ⟨hW, hH⟩, hL, hU, ?_, hT, ?_, ?_⟩
  · exact InvD_f hD (by rw [fr 47 (by omega)]) (by rw [fr 47 (by omega)]) (fr 51 (by omega)) (fr 52 (by omega)) (fr 54 (by omega)) (fr 55 (by omega)) (fr 114 (by omega)) (f84 56 (by omega)) (f84 57 (by omega))
  · exact InvI_f hK hI (fr 87 (by omega)) (fr 88 (by omega)) (fun k m hk e => by
      have h115 : 115 ≤ m := (hK.2.2.2.2.2.2.2.1 k m hk e).1.2.2.2.2.2.2.2.1
      obtain ⟨a, b⟩ := uc_im hK hk e
      exact ⟨hi _ (by omega) a, fun k k1 k2 => hi k (by omega) (b k k1 k2)⟩) tx
  · exact InvC_f hC (fr 99 (by omega)) (fr 100 (by omega)) (fr 101 (by omega)) (fr 112 (by omega))
theorem s_force {K : Kt} {σ : Sg} {n p1 : Int} (hI : Inv K σ n) (hn : n ≤ 600) : St2 K n (vX9_force K p1 σ) (vX10_force p1) := by
  obtain ⟨⟨hK, ⟨hW, hH⟩, hL, hU, hD, hT, hM, hC⟩, hS⟩ := id hI
  have h26 := hW.1.2.2.1
  have hl : σ 1 4 = σ 86 2 := hL.1.1
  have h5 : σ 1 5 = σ 86 3 := hL.1.2.1
  have yes : (p1 = -1 ∨ (0 ≤ p1 ∧ p1 < σ 86 2)) → St2 K n (vX9_force_23 K p1 σ) (vX10_force p1) := by
    intro hp
    unfold vX9_force_23 vX9_grant St2
    refine T_nm (T_nm ?_)
    show T (some (σ 1 5, up2 (up2 σ 1 5 p1) 0 14 0)) _
    refine T_some ?_
    unfold vX10_force vX10_change
    refine T_nm ?_
    have e86 : up2 (up2 (up2 σ 1 5 p1) 0 14 0) 84 0 0 86 = σ 86 := by rw [up2_o (by omega), up2_o (by omega), up2_o (by omega)]
    dsimp only
    rw [m_isLaw (by rw [e86]; exact h26), Option.bind_some, e86]
    refine T_f (by rw [bI_t hp]; omega) ?_
    rw [ck_p (by omega)]
    simp only [nm]
    rw [ck_p (by omega), bd2_some]
    refine T_some ⟨?_, ?_, ?_⟩
    · show σ 86 3 = σ 1 5
      exact h5.symm
    · dsimp only
      have x86 : up2 (up2 (up2 (up2 (up2 σ 1 5 p1) 0 14 0) 84 0 0) 86 (Int.toNat 3) p1) 84 1 0 86 = upw (σ 86) 3 p1 := by rw [up2_o (by omega), up2_c, e86]; rfl
      have x1 : up2 (up2 (up2 (up2 (up2 σ 1 5 p1) 0 14 0) 84 0 0) 86 (Int.toNat 3) p1) 84 1 0 1 = upw (σ 1) 5 p1 := by rw [up2_o (by omega), up2_o (by omega), up2_o (by omega), up2_o (by omega), up2_c]
      have x0 : ∀ j, j ≠ 14 → up2 (up2 (up2 (up2 (up2 σ 1 5 p1) 0 14 0) 84 0 0) 86 (Int.toNat 3) p1) 84 1 0 0 j = σ 0 j := by intro j hj; rw [up2_o (by omega), up2_o (by omega), up2_o (by omega), up2_c, upw_n hj, up2_o (by omega)]
      have x84 : ∀ j, j ≠ 0 → j ≠ 1 → up2 (up2 (up2 (up2 (up2 σ 1 5 p1) 0 14 0) 84 0 0) 86 (Int.toNat 3) p1) 84 1 0 84 j = σ 84 j := by intro j h0 h1; rw [up2_c, upw_n h1, up2_o (by omega), up2_c, upw_n h0, up2_o (by omega), up2_o (by omega)]
      have xo : ∀ k, k ≠ 0 → k ≠ 1 → k ≠ 84 → k ≠ 86 → up2 (up2 (up2 (up2 (up2 σ 1 5 p1) 0 14 0) 84 0 0) 86 (Int.toNat 3) p1) 84 1 0 k = σ k := by intro k a b c d; rw [up2_o c, up2_o d, up2_o c, up2_o a, up2_o b]
      generalize up2 (up2 (up2 (up2 (up2 σ 1 5 p1) 0 14 0) 84 0 0) 86 (Int.toNat 3) p1) 84 1 0 = σ' at *
      have tx : ∀ q k, TxtAt K q → 115 ≤ q → q ≤ k → k ≤ q + 6 → σ' k = σ k := fun q k _ h1 h2 _ => xo k (by omega) (by omega) (by omega) (by omega)
      refine InvX_g hI.1 (fun k hk => xo k (by omega) (by omega) (by omega) (by omega)) (fun j hj => x84 j (by omega) (by omega)) (fun k hk _ => xo k (by omega) (by omega) (by omega) (by omega)) ?_ ?_ ⟨?_, ?_⟩ ?_ ?_
      · rw [x86]; exact WF_e hW (fun i a b c => upw_n b) (by rw [upw_n (by omega)]; exact h26) (by rw [upw_s, upw_n (i := 2) (by omega)]; omega)
      · rw [x86]; exact HallIs_e (HallIs_s hH (fun k k1 k2 => xo k (by omega) (by omega) (by omega) (by omega))) (fun i a b c => upw_n b)
      · rw [x86]
        obtain ⟨l1, l2, l3⟩ := hL.1
        refine ⟨?_, ?_, fun i hi => ?_⟩
        · rw [x1, upw_n (by omega), upw_n (by omega)]; exact hl
        · rw [x1, upw_s, upw_s]
        · rw [upw_n (by omega)] at hi
          obtain ⟨q, e, n', kd, ts, fs, x, y⟩ := l3 i hi
          have ht := hK.2.1 i q (by omega) e
          refine ⟨q, e, n', kd, ts, fs, CLaw_a x ⟨tx q q ht.1 ht.2 (by omega) (by omega), fun j t hj e' => ?_⟩, MLaw_p y (by omega) (fun i hi => upw_n (by omega))⟩
          have := (ht.1.2 j hj).1
          rw [e'] at this
          have e2 : t = q + 1 + j := by injection this
          rw [e2]
          exact tx q _ ht.1 ht.2 (by omega) (by omega)
      · rw [xo 2 (by omega) (by omega) (by omega) (by omega)]; exact hL.2
      · exact InvT_f hT (by rw [xo 61 (by omega) (by omega) (by omega) (by omega)]) (xo 62 (by omega) (by omega) (by omega) (by omega)) (by rw [xo 63 (by omega) (by omega) (by omega) (by omega)]) (xo 93 (by omega) (by omega) (by omega) (by omega)) (x0 12 (by omega)) (x0 13 (by omega)) (x84 13 (by omega) (by omega)) (x84 18 (by omega) (by omega)) (x84 11 (by omega) (by omega)) (x84 52 (by omega) (by omega)) (x84 20 (by omega) (by omega))
      · refine InvU_f hK hU ?_ (by rw [xo 27 (by omega) (by omega) (by omega) (by omega)]) (by rw [xo 27 (by omega) (by omega) (by omega) (by omega)]) (xo 29 (by omega) (by omega) (by omega) (by omega)) (fun i h hi' e k k1 k2 => xo k (by have := (hK.2.2.1 i h hi' e).2.1; omega) (by have := (hK.2.2.1 i h hi' e).2.1; omega) (by have := (hK.2.2.1 i h hi' e).2.1; omega) (by have := (hK.2.2.1 i h hi' e).2.1; omega)) (x84 8 (by omega) (by omega)) (fun j _ => by rw [xo 89 (by omega) (by omega) (by omega) (by omega)]) (xo 90 (by omega) (by omega) (by omega) (by omega))
        rw [x86]
        exact ⟨fun i hi => upw_n (by omega), by rw [upw_n (by omega)]; exact h26, by rw [upw_s, upw_n (i := 2) (by omega)]; omega⟩
    · refine InvS_m (n := n) ⟨?_, fun j hj => ?_⟩ (by omega)
      · dsimp only
        rw [up2_o (by omega), up2_o (by omega), up2_o (by omega), up2_c, upw_s, up2_c, upw_s]
      · dsimp only
        simp (disch := omega) only [up2_o]
        exact hS.2 j hj
  have no : ¬ (p1 = -1 ∨ (0 ≤ p1 ∧ p1 < σ 86 2)) → St2 K n (vX9_force K p1 σ) (vX10_force p1) := by
    intro hp
    refine St2_ref hI hn (v := -2) (by omega) ?_ (fun σ1 fr => ?_)
    · unfold vX9_force
      rw [if_neg (by omega), l_has, Option.bind_some, hl, if_pos (bI_f (by omega)), c_refuse (by omega) (InvR_v hS hn (by omega) (by omega)).1]
      rfl
    · unfold vX10_force
      simp only [nm]
      have e86 : up2 σ1 84 0 0 86 = σ 86 := by rw [up2_o (by omega), fr 86 (by omega) (by omega)]
      rw [m_isLaw (by rw [e86]; exact h26), Option.bind_some, e86, if_pos (bI_f hp), m_told (by omega) (fun _ => by rw [up2_o (by omega), fr 85 (by omega) (by omega)]; exact (InvR_v hS hn (by omega) (by omega)).2)]
      rfl
  by_cases hp : p1 = -1 ∨ (0 ≤ p1 ∧ p1 < σ 86 2)
  · have y := yes hp
    unfold vX9_force
    by_cases h1 : p1 = -1
    · rw [if_pos h1]; exact y
    · rw [if_neg h1, l_has, Option.bind_some, hl, if_neg (by rw [bI_t (by omega)]; omega)]; exact y
  · exact no hp
/-! ===== the tape ===== -/
theorem InvX_tp {K : Kt} {σ σ' : Sg} {n : Int} (h : Inv K σ n) (fr : ∀ k, k ≠ 84 → k ≠ 61 → k ≠ 62 → k ≠ 93 → σ' k = σ k) (f84 : ∀ j, j ≠ 0 → j ≠ 13 → σ' 84 j = σ 84 j) (t1 : σ' 61 1 = σ' 84 13 ∧ 0 ≤ σ' 84 13 ∧ σ' 84 13 ≤ 400) (t2 : ∀ i : Nat, i < 400 → σ' 62 i = σ' 93 i ∧ 0 ≤ σ' 93 i ∧ σ' 93 i ≤ 255) : Inv K σ' (n + 1) := by
  obtain ⟨⟨hK, ⟨hW, hH⟩, hL, hU, hD, hT, hM, hC⟩, hS⟩ := id h
  have e86 := fr 86 (by omega) (by omega) (by omega) (by omega)
  have F : ∀ k, k ≠ 84 → k ≠ 61 → k ≠ 62 → k ≠ 93 → σ' k = σ k := fr
  refine ⟨InvX_g h.1 (fun k hk => F k (by omega) (by omega) (by omega) (by omega)) (fun j hj => f84 j (by omega) (by omega)) (fun k hk _ => F k (by omega) (by omega) (by omega) (by omega)) (by rw [e86]; exact hW) ?_ ?_ ⟨t1, t2, ?_⟩ ?_, ?_⟩
  · rw [e86]; exact HallIs_s hH (fun k k1 k2 => F k (by omega) (by omega) (by omega) (by omega))
  · exact InvL_f hK hL hW.1.2.2.1.2 (by rw [F 1 (by omega) (by omega) (by omega) (by omega)]) (by rw [F 1 (by omega) (by omega) (by omega) (by omega)]) (by rw [F 2 (by omega) (by omega) (by omega) (by omega)]) (by rw [e86]) (by rw [e86]) (fun i _ => by rw [e86]) (fun q k _ h1 h2 _ => F k (by omega) (by omega) (by omega) (by omega))
  · obtain ⟨x1, x2, x3, x4, x5, x6⟩ := hT
    rw [F 63 (by omega) (by omega) (by omega) (by omega), F 0 (by omega) (by omega) (by omega) (by omega), f84 18 (by omega) (by omega), f84 11 (by omega) (by omega), f84 52 (by omega) (by omega), f84 20 (by omega) (by omega)]
    exact ⟨x3, x4, x5, x6⟩
  · exact InvU_f hK hU (by rw [e86]; exact RS_w hW (fun _ _ => rfl)) (by rw [F 27 (by omega) (by omega) (by omega) (by omega)]) (by rw [F 27 (by omega) (by omega) (by omega) (by omega)]) (F 29 (by omega) (by omega) (by omega) (by omega)) (fun i h hi' e k k1 k2 => F k (by have := (hK.2.2.1 i h hi' e).2.1; omega) (by have := (hK.2.2.1 i h hi' e).2.1; omega) (by have := (hK.2.2.1 i h hi' e).2.1; omega) (by have := (hK.2.2.1 i h hi' e).2.1; omega)) (f84 8 (by omega) (by omega)) (fun j _ => by rw [F 89 (by omega) (by omega) (by omega) (by omega)]) (F 90 (by omega) (by omega) (by omega) (by omega))
  · refine InvS_m (n := n) ⟨?_, fun j hj => ?_⟩ (by omega)
    · rw [F 0 (by omega) (by omega) (by omega) (by omega), f84 1 (by omega) (by omega)]; exact hS.1
    · rw [F 83 (by omega) (by omega) (by omega) (by omega), F 85 (by omega) (by omega) (by omega) (by omega)]; exact hS.2 j hj
theorem s_end {K : Kt} {σ : Sg} {n p1 : Int} (hI : Inv K σ n) : St2 K n (vX9_end K p1 σ) (vX10_end p1) := by
  obtain ⟨⟨hK, ⟨hW, hH⟩, hL, hU, hD, hT, hM, hC⟩, hS⟩ := id hI
  have ht := hT.1
  unfold vX9_end vX10_end
  rw [c_within, Option.bind_some]
  by_cases hp : 0 ≤ p1 ∧ p1 ≤ σ 61 1
  · refine T_f (by rw [bI_t hp]; omega) (T_nm (T_some (T_nm ?_)))
    have e13 : up2 (up2 σ 61 1 p1) 84 0 0 84 13 = σ 84 13 := by rw [up2_c, upw_n (by omega), up2_o (by omega)]
    dsimp only
    rw [e13]
    refine T_f (by omega) (T_f (by omega) (T_nm (T_some ⟨rfl, InvX_tp hI (fun k a b c d => ?_) (fun j a b => ?_) ?_ (fun i hi => ?_)⟩)))
    · dsimp only; rw [up2_o a, up2_o a, up2_o b]
    · dsimp only; rw [up2_c, upw_n b, up2_c, upw_n a, up2_o (by omega)]
    · dsimp only
      rw [up2_c, upw_s, up2_o (by omega), up2_o (by omega), up2_c, upw_s]
      exact ⟨rfl, by omega, by omega⟩
    · dsimp only
      simp (disch := omega) only [up2_o]
      exact hT.2.1 i hi
  · refine T_t (bI_f hp) (T_some (T_nm ?_))
    dsimp only
    rw [u84 (by omega)]
    have hI' := Inv_scr hI (Scr_0 (z := 0) Scr_r)
    exact T_ite (fun _ => T_some ⟨rfl, hI'⟩) (fun h1 => T_t (by omega) (T_some ⟨rfl, hI'⟩))
/-- bytes of a number, j of them, put from m on -/
def fdW (x : Int) : Nat → (Nat → Int) → Int → Nat → Int
  | 0, τ, _ => τ
  | j + 1, τ, m => fdW x j (upw τ m.toNat (bAnd (bShr x (8 * (j : Int))) 255)) (m + 1)
theorem b255 (y : Int) : 0 ≤ bAnd y 255 ∧ bAnd y 255 ≤ 255 := by
  unfold bAnd
  have e : (Int32.ofInt y &&& Int32.ofInt 255).toBitVec = (Int32.ofInt y).toBitVec &&& 255#32 := rfl
  have h : (Int32.ofInt y &&& Int32.ofInt 255).toBitVec.toNat ≤ 255 := by
    rw [e, BitVec.toNat_and]
    exact Nat.and_le_right
  have h2 : (Int32.ofInt y &&& Int32.ofInt 255).toInt = ((Int32.ofInt y &&& Int32.ofInt 255).toBitVec.toNat : Int) := by
    show (Int32.ofInt y &&& Int32.ofInt 255).toBitVec.toInt = _
    rw [BitVec.toInt_eq_toNat_of_lt (by omega)]
  omega
theorem bUsh_r {x : Int} {s : Nat} (hs : s = 0 ∨ s = 8 ∨ s = 16 ∨ s = 24) : bAnd (bUsh x (s : Int)) 255 = bAnd (bShr x (s : Int)) 255 := by
  have key : ∀ s : Nat, s ≤ 24 → ∀ X : BitVec 32, (X >>> s) &&& 255#32 = (X.sshiftRight s) &&& 255#32 := by
    intro s hs X
    apply BitVec.eq_of_getLsbD_eq
    intro i hi
    rw [BitVec.getLsbD_and, BitVec.getLsbD_and]
    by_cases h8 : i < 8
    · have e1 : (X >>> s).getLsbD i = X.getLsbD (s + i) := BitVec.getLsbD_ushiftRight ..
      rw [e1, BitVec.getLsbD_sshiftRight]
      have h32 : s + i < 32 := by omega
      have hn : ¬ 32 ≤ i := by omega
      simp [hi, h32, hn]
    · have e2 : (255#32).getLsbD i = false := by
        have : ∀ i : Fin 32, 8 ≤ i.val → (255#32).getLsbD i.val = false := by decide
        exact this ⟨i, hi⟩ (by show 8 ≤ i; omega)
      rw [e2, Bool.and_false, Bool.and_false]
  have go : ∀ (U S : Int32), U.toBitVec &&& 255#32 = S.toBitVec &&& 255#32 → bAnd U.toInt 255 = bAnd S.toInt 255 := by
    intro U S h
    unfold bAnd
    rw [Int32.ofInt_toInt, Int32.ofInt_toInt]
    have : U &&& Int32.ofInt 255 = S &&& Int32.ofInt 255 := Int32.toBitVec_inj.1 h
    rw [this]
  unfold bUsh bShr
  refine go _ _ ?_
  rcases hs with rfl | rfl | rfl | rfl
  · exact key 0 (by omega) _
  · exact key 8 (by omega) _
  · exact key 16 (by omega) _
  · exact key 24 (by omega) _
theorem c_add_3 {K : Kt} {x : Int} : ∀ (j f : Nat) (σ : Sg), j < f → j ≤ 4 → 0 ≤ σ 61 1 → σ 61 1 + (j : Int) ≤ 400 → T (vX6_add_3 K f x (8 * (j : Int) - 8) σ) (fun σ' => (∀ k, k ≠ 61 → k ≠ 62 → σ' k = σ k) ∧ σ' 61 1 = σ 61 1 + (j : Int) ∧ σ' 62 = fdW x j (σ 62) (σ 61 1)) := by
  intro j
  induction j with
  | zero =>
    intro f σ hf _ h0 h4
    obtain ⟨f', rfl⟩ : ∃ f', f = f' + 1 := ⟨f - 1, by omega⟩
    rw [vX6_add_3]
    exact T_t (by omega) (T_some ⟨fun _ _ _ => rfl, by omega, rfl⟩)
  | succ j ih =>
    intro f σ hf hj h0 h4
    obtain ⟨f', rfl⟩ : ∃ f', f = f' + 1 := ⟨f - 1, by omega⟩
    rw [vX6_add_3]
    refine T_f (by omega) (T_t (by omega) ?_)
    with_reducible refine T_ck (by omega) ?_
    refine T_nm ?_
    have e1 : up2 σ 62 (σ 61 1).toNat (bAnd (bUsh x (8 * ((j + 1 : Nat) : Int) - 8)) 255) 61 1 = σ 61 1 := by rw [up2_o (by omega)]
    rw [e1]
    repeat (with_reducible first | refine T_ck (by omega) ?_ | refine T_nm ?_)
    rw [show 8 * ((j + 1 : Nat) : Int) - 8 + -8 = 8 * (j : Int) - 8 by omega]
    have eb : bAnd (bUsh x (8 * ((j + 1 : Nat) : Int) - 8)) 255 = bAnd (bShr x (8 * (j : Int))) 255 := by
      rw [show 8 * ((j + 1 : Nat) : Int) - 8 = ((8 * j : Nat) : Int) by omega, show 8 * (j : Int) = ((8 * j : Nat) : Int) by omega]
      exact bUsh_r (by omega)
    rw [eb]
    have y1 : up2 (up2 σ 62 (σ 61 1).toNat (bAnd (bShr x (8 * (j : Int))) 255)) 61 1 (σ 61 1 + 1) 61 1 = σ 61 1 + 1 := by rw [up2_c, upw_s]
    refine T_mono (ih f' (up2 (up2 σ 62 (σ 61 1).toNat (bAnd (bShr x (8 * (j : Int))) 255)) 61 1 (σ 61 1 + 1)) (by omega) (by omega) (by rw [y1]; omega) (by rw [y1]; omega)) (fun σ' h => ?_)
    obtain ⟨a, b, c⟩ := h
    refine ⟨fun k k1 k2 => by rw [a k k1 k2, up2_o k1, up2_o k2], by rw [b, y1]; omega, ?_⟩
    rw [c, y1, up2_o (by omega), up2_c]
    rfl
theorem m_four_3 {x : Int} : ∀ (j f : Nat) (σ : Sg), j < f → j ≤ 4 → 0 ≤ σ 84 13 → σ 84 13 + (j : Int) ≤ 400 → T (vX10_four_3 f x (8 * (j : Int) - 8) σ) (fun σ' => (∀ k, k ≠ 84 → k ≠ 93 → σ' k = σ k) ∧ (∀ i, i ≠ 13 → σ' 84 i = σ 84 i) ∧ σ' 84 13 = σ 84 13 + (j : Int) ∧ σ' 93 = fdW x j (σ 93) (σ 84 13)) := by
  intro j
  induction j with
  | zero =>
    intro f σ hf _ h0 h4
    obtain ⟨f', rfl⟩ : ∃ f', f = f' + 1 := ⟨f - 1, by omega⟩
    rw [vX10_four_3]
    exact T_t (by omega) (T_some ⟨fun _ _ _ => rfl, fun _ _ => rfl, by omega, rfl⟩)
  | succ j ih =>
    intro f σ hf hj h0 h4
    obtain ⟨f', rfl⟩ : ∃ f', f = f' + 1 := ⟨f - 1, by omega⟩
    rw [vX10_four_3]
    refine T_f (by omega) ?_
    with_reducible refine T_ck (by omega) ?_
    refine T_nm ?_
    have e1 : up2 σ 93 (σ 84 13).toNat (bAnd (bShr x (8 * ((j + 1 : Nat) : Int) - 8)) 255) 84 13 = σ 84 13 := by rw [up2_o (by omega)]
    rw [e1]
    repeat (with_reducible first | refine T_ck (by omega) ?_ | refine T_nm ?_)
    rw [show 8 * ((j + 1 : Nat) : Int) - 8 + -8 = 8 * (j : Int) - 8 by omega, show 8 * ((j + 1 : Nat) : Int) - 8 = 8 * (j : Int) by omega]
    have y1 : up2 (up2 σ 93 (σ 84 13).toNat (bAnd (bShr x (8 * (j : Int))) 255)) 84 13 (σ 84 13 + 1) 84 13 = σ 84 13 + 1 := by rw [up2_c, upw_s]
    refine T_mono (ih f' (up2 (up2 σ 93 (σ 84 13).toNat (bAnd (bShr x (8 * (j : Int))) 255)) 84 13 (σ 84 13 + 1)) (by omega) (by omega) (by rw [y1]; omega) (by rw [y1]; omega)) (fun σ' h => ?_)
    obtain ⟨a, a2, b, c⟩ := h
    refine ⟨fun k k1 k2 => by rw [a k k1 k2, up2_o k1, up2_o k2], fun i hi => by rw [a2 i hi, up2_c, upw_n hi, up2_o (by omega)], by rw [b, y1]; omega, ?_⟩
    rw [c, y1, up2_o (by omega), up2_c]
    rfl
def okTp (τ τ' : Nat → Int) : Prop := ∀ i : Nat, i < 400 → τ i = τ' i ∧ 0 ≤ τ' i ∧ τ' i ≤ 255
theorem fdW_ok {x : Int} : ∀ (j : Nat) (τ τ' : Nat → Int) (m : Int), okTp τ τ' → okTp (fdW x j τ m) (fdW x j τ' m)
  | 0, τ, τ', m, h => h
  | j + 1, τ, τ', m, h => by
    rw [fdW, fdW]
    refine fdW_ok j _ _ _ (fun i hi => ?_)
    unfold upw
    by_cases e : i = m.toNat
    · rw [if_pos e, if_pos e]
      have := b255 (bShr x (8 * (j : Int)))
      exact ⟨rfl, this.1, this.2⟩
    · rw [if_neg e, if_neg e]; exact h i hi
theorem c_add {K : Kt} {σ : Sg} {x : Int} (h0 : 0 ≤ σ 61 1) (h4 : σ 61 1 + 4 ≤ 400) : T (vX6_add K x σ) (fun σ' => (∀ k, k ≠ 61 → k ≠ 62 → σ' k = σ k) ∧ σ' 61 1 = σ 61 1 + 4 ∧ σ' 62 = fdW x 4 (σ 62) (σ 61 1)) := c_add_3 4 FU σ (by have := FU_b; omega) (by omega) h0 h4
theorem m_four {σ : Sg} {x : Int} (h0 : 0 ≤ σ 84 13) (h4 : σ 84 13 + 4 ≤ 400) : T (vX10_four x σ) (fun σ' => (∀ k, k ≠ 84 → k ≠ 93 → σ' k = σ k) ∧ (∀ i, i ≠ 13 → σ' 84 i = σ 84 i) ∧ σ' 84 13 = σ 84 13 + 4 ∧ σ' 93 = fdW x 4 (σ 93) (σ 84 13)) := m_four_3 4 FU σ (by have := FU_b; omega) (by omega) h0 h4
theorem s_feed {K : Kt} {σ : Sg} {n a b c d e : Int} (hI : Inv K σ n) : St2 K n (vX9_feed K a b c d e σ) (vX10_feed a b c d e) := by
  obtain ⟨⟨hK, ⟨hW, hH⟩, hL, hU, hD, hT, hM, hC⟩, hS⟩ := id hI
  have ht := hT.1
  unfold vX9_feed St2
  with_reducible refine T_ck (by omega) ?_
  refine T_ite (fun h => T_some ?_) (fun h => ?_)
  · unfold vX10_feed
    refine T_nm ?_
    dsimp only
    rw [u84 (by omega)]
    with_reducible refine T_ck (by omega) ?_
    exact T_t (by omega) (T_some ⟨rfl, Inv_scr hI (Scr_0 Scr_r)⟩)
  · refine T_bind (c_add (x := a) (by omega) (by omega)) (fun σ1 h1 => ?_)
    refine T_bind (c_add (x := b) (by omega) (by omega)) (fun σ2 h2 => ?_)
    refine T_bind (c_add (x := c) (by omega) (by omega)) (fun σ3 h3 => ?_)
    refine T_bind (c_add (x := d) (by omega) (by omega)) (fun σ4 h4 => ?_)
    refine T_bind (c_add (x := e) (by omega) (by omega)) (fun σ5 h5 => T_some ?_)
    obtain ⟨a1, b1, c1⟩ := h1
    obtain ⟨a2, b2, c2⟩ := h2
    obtain ⟨a3, b3, c3⟩ := h3
    obtain ⟨a4, b4, c4⟩ := h4
    obtain ⟨a5, b5, c5⟩ := h5
    have A : ∀ k, k ≠ 61 → k ≠ 62 → σ5 k = σ k := fun k x y => by rw [a5 k x y, a4 k x y, a3 k x y, a2 k x y, a1 k x y]
    unfold vX10_feed
    refine T_nm ?_
    dsimp only
    have z0 : up2 σ5 84 0 0 84 13 = σ 84 13 := by rw [u84 (by omega), A 84 (by omega) (by omega)]
    have A0 : ∀ k, k ≠ 84 → k ≠ 61 → k ≠ 62 → up2 σ5 84 0 0 k = σ k := fun k x y z => by rw [u84o x, A k y z]
    have A84 : ∀ j, j ≠ 0 → up2 σ5 84 0 0 84 j = σ 84 j := fun j x => by rw [u84 x, A 84 (by omega) (by omega)]
    have Z61 : up2 σ5 84 0 0 61 = σ5 61 := u84o (by omega)
    have Z62 : up2 σ5 84 0 0 62 = σ5 62 := u84o (by omega)
    generalize up2 σ5 84 0 0 = τ0 at *
    rw [z0]
    with_reducible refine T_ck (by omega) ?_
    refine T_f (by omega) ?_
    refine T_bind (m_four (x := a) (by omega) (by omega)) (fun τ1 m1 => ?_)
    refine T_bind (m_four (x := b) (by omega) (by omega)) (fun τ2 m2 => ?_)
    refine T_bind (m_four (x := c) (by omega) (by omega)) (fun τ3 m3 => ?_)
    refine T_bind (m_four (x := d) (by omega) (by omega)) (fun τ4 m4 => ?_)
    refine T_bind (m_four (x := e) (by omega) (by omega)) (fun τ5 m5 => T_some ?_)
    obtain ⟨p1, q1, r1, s1⟩ := m1
    obtain ⟨p2, q2, r2, s2⟩ := m2
    obtain ⟨p3, q3, r3, s3⟩ := m3
    obtain ⟨p4, q4, r4, s4⟩ := m4
    obtain ⟨p5, q5, r5, s5⟩ := m5
    have P : ∀ k, k ≠ 84 → k ≠ 93 → τ5 k = τ0 k := fun k x y => by rw [p5 k x y, p4 k x y, p3 k x y, p2 k x y, p1 k x y]
    have Q : ∀ j, j ≠ 13 → τ5 84 j = τ0 84 j := fun j x => by rw [q5 j x, q4 j x, q3 j x, q2 j x, q1 j x]
    have l0 : σ 61 1 = σ 84 13 := ht.1
    dsimp only
    refine ⟨by omega, InvX_tp hI (fun k x y z w => by rw [P k x w, A0 k x y z]) (fun j x y => by rw [Q j y, A84 j x]) ?_ ?_⟩
    · rw [P 61 (by omega) (by omega), Z61]; omega
    · have k0 : okTp (σ 62) (σ 93) := hT.2.1
      have e93 : τ0 93 = σ 93 := A0 93 (by omega) (by omega) (by omega)
      rw [P 62 (by omega) (by omega), Z62]
      have k1 : okTp (σ1 62) (τ1 93) := by rw [c1, s1, e93, z0, l0]; exact fdW_ok 4 _ _ _ k0
      have k2 : okTp (σ2 62) (τ2 93) := by rw [c2, s2, show τ1 84 13 = σ1 61 1 by omega]; exact fdW_ok 4 _ _ _ k1
      have k3 : okTp (σ3 62) (τ3 93) := by rw [c3, s3, show τ2 84 13 = σ2 61 1 by omega]; exact fdW_ok 4 _ _ _ k2
      have k4 : okTp (σ4 62) (τ4 93) := by rw [c4, s4, show τ3 84 13 = σ3 61 1 by omega]; exact fdW_ok 4 _ _ _ k3
      have k5 : okTp (σ5 62) (τ5 93) := by rw [c5, s5, show τ4 84 13 = σ4 61 1 by omega]; exact fdW_ok 4 _ _ _ k4
      exact k5
