/-! ===== the class asks a law ===== -/
/-- a text's own cells are as they were -/
def AgT (K : Kt) (σ0 σ : Sg) (q : Nat) : Prop := σ q = σ0 q ∧ ∀ j t, j < 6 → K.1 q j = some t → σ t = σ0 t
/-- a text does not lie in cells that asking scratches -/
def TxO (K : Kt) (q : Nat) : Prop := (q ≠ 11 ∧ q ≠ 12) ∧ ∀ j t, j < 6 → K.1 q j = some t → t ≠ 11 ∧ t ≠ 12
theorem AgT_r {K : Kt} {σ : Sg} {q : Nat} : AgT K σ σ q := ⟨rfl, fun _ _ _ _ => rfl⟩
theorem AgT_t {K : Kt} {σ σ' σ'' : Sg} {q : Nat} (h : AgT K σ σ' q) (h' : AgT K σ' σ'' q) : AgT K σ σ'' q := ⟨h'.1.trans h.1, fun j t hj e => (h'.2 j t hj e).trans (h.2 j t hj e)⟩
theorem AgT_s {K : Kt} {σ σ' : Sg} {q : Nat} (h : Sme (fun k => k = 11 ∨ k = 12) σ σ') (o : TxO K q) : AgT K σ σ' q := ⟨h q (by have := o.1; omega), fun j t hj e => h t (by have := o.2 j t hj e; omega)⟩
/-- the reckoner over a text's code from s on gives what E gives -/
def CVal (K : Kt) (σ0 : Sg) (q W nW : Nat) (s : Int) (E : (Nat → Int) → Int) : Prop := ∀ (σ : Sg) (w : Nat → Int), AgT K σ0 σ q → wOk w → (∀ j : Nat, j < nW → σ W j = w j) → T (vX5_value K q s W σ) (fun p => p.1 = E w ∧ Sme (fun k => k = 11) σ p.2)
/-- a text of the class has these clauses -/
def CLaw (K : Kt) (σ : Sg) (q n : Nat) (kd : Nat → Int) (ts fs : Nat → (Nat → Int) → Int) : Prop :=
  IsC K q 7 ∧ TxO K q ∧ n ≤ 12 ∧ σ q 6 = (n : Int) ∧ ∃ k0 k1 k3 m : Nat, K.1 q 0 = some k0 ∧ K.1 q 1 = some k1 ∧ K.1 q 3 = some k3 ∧ n ≤ m ∧ IsA K k0 20 m ∧ IsA K k1 20 m ∧ IsA K k3 20 m
    ∧ ∀ c : Nat, c < n → σ k0 c = kd c ∧ (if σ k3 c = -1 then ∀ w, wOk w → ts c w = 1 else CVal K σ q 12 9 (σ k3 c) (ts c)) ∧ (if σ k1 c = -1 then ∀ w, wOk w → fs c w = 1 else CVal K σ q 12 9 (σ k1 c) (fs c))
theorem CVal_a {K : Kt} {σ0 σ : Sg} {q W nW : Nat} {s : Int} {E : (Nat → Int) → Int} (h : CVal K σ0 q W nW s E) (a : AgT K σ0 σ q) : CVal K σ q W nW s E := fun σ' w a' => h σ' w (AgT_t a a')
theorem CLaw_a {K : Kt} {σ0 σ : Sg} {q n : Nat} {kd : Nat → Int} {ts fs : Nat → (Nat → Int) → Int} (h : CLaw K σ0 q n kd ts fs) (a : AgT K σ0 σ q) : CLaw K σ q n kd ts fs := by
  obtain ⟨h1, h2, h3, h4, k0, k1, k3, m, e0, e1, e3, hm, a0, a1, a3, hc⟩ := h
  refine ⟨h1, h2, h3, by rw [a.1]; exact h4, k0, k1, k3, m, e0, e1, e3, hm, a0, a1, a3, fun c hcn => ?_⟩
  rw [a.2 0 k0 (by omega) e0, a.2 3 k3 (by omega) e3, a.2 1 k1 (by omega) e1]
  obtain ⟨x, y, z⟩ := hc c hcn
  refine ⟨x, ?_, ?_⟩
  · split
    · rw [if_pos (by assumption)] at y; exact y
    · rw [if_neg (by assumption)] at y; exact CVal_a y a
  · split
    · rw [if_pos (by assumption)] at z; exact z
    · rw [if_neg (by assumption)] at z; exact CVal_a z a
/-- without a clause that holds -/
def woK (ρ : Nat → Int) (kind b : Int) : Int := if kind = 0 then 2 else if kind = 1 then 1 else if kind = 2 then ρ (71 + b).toNat else 0
def clK (kind v : Int) : Int := imax (stV 2 kind.toNat) (imin (stV 3 kind.toNat) v)
/-- what a law tells of a kind, for a book, a reader, traits -/
def askS (D : Int → (Nat → Int) → Option Int) (ρ : Nat → Int) (kind b r t : Int) : Int := (D kind (lw ρ b r t)).elim (woK ρ kind b) (clK kind)
theorem c_asked_28 {K : Kt} {o : Nat} {σ0 : Sg} {ρ : Nat → Int} {q n : Nat} {kd : Nat → Int} {ts fs : Nat → (Nat → Int) → Int} {k b : Int} {w : Nat → Int} (hk : 0 ≤ k ∧ k < 4) (hb : 0 ≤ b ∧ b < 8) (ho : 12 < o) (hL : CLaw K σ0 q n kd ts fs) (hH : σ0 (o + 1) b.toNat = ρ (71 + b).toNat) (hw : wOk w) (hs : ∀ j : Nat, j < 9 → σ0 12 j = w j) :
    ∀ (f c : Nat) (σ : Sg), c < f → c ≤ n → Sme (fun k => k = 11) σ0 σ →
    T (vX1_asked_28 K o f k b q ((c : Int) - 1) σ) (fun p => Sme (fun k => k = 11) σ0 p.2 ∧ p.1 = (Dn kd ts fs c k w).elim (woK ρ k b) (clK k)) := by
  intro f
  induction f with
  | zero => intro c σ h; omega
  | succ f ih =>
    intro c σ hf hc hS
    rw [vX1_asked_28]
    match c with
    | 0 =>
      refine T_t (by omega) ?_
      unfold vX1_toldWithout
      have e : σ (o + 1) = σ0 (o + 1) := hS _ (by omega)
      refine T_bind (R := fun z => z = woK ρ k b) ?_ (fun z hz => T_some ⟨hS, hz⟩)
      unfold woK
      by_cases h0 : k = 0
      · rw [if_pos h0, if_pos h0]; exact T_some rfl
      · rw [if_neg h0, if_neg h0]
        by_cases h1 : k = 1
        · rw [if_pos h1, if_pos h1]; exact T_some rfl
        · rw [if_neg h1, if_neg h1]
          by_cases h2 : k = 2
          · rw [if_pos h2, if_pos h2, e]
            with_reducible refine T_ck (by omega) ?_
            exact T_some hH
          · rw [if_neg h2, if_neg h2]; exact T_some rfl
    | c + 1 =>
      have hag : AgT K σ0 σ q := AgT_s (Sme_m hS (fun k h => Or.inl h)) hL.2.1
      obtain ⟨h1, h2, h3, h4, k0, k1, k3, m, e0, e1, e3, hm, a0, a1, a3, hcl⟩ := CLaw_a hL hag
      obtain ⟨x, y, z⟩ := hcl c (by omega)
      have ei : (((c + 1 : Nat) : Int) - 1) = (c : Int) := by omega
      rw [ei]
      have m0 : (K.2.1 k0).2 = m := by rw [a0.2]
      have m1 : (K.2.1 k1).2 = m := by rw [a1.2]
      have m3 : (K.2.1 k3).2 = m := by rw [a3.2]
      have hws : ∀ (σ1 : Sg), Sme (fun k => k = 11) σ0 σ1 → ∀ j : Nat, j < 9 → σ1 12 j = w j := by
        intro σ1 h j hj
        rw [h 12 (by omega)]
        exact hs j hj
      have em : (c : Int) + -1 = (c : Int) - 1 := by omega
      refine T_f (by omega) (T_ckP h1 ?_)
      rw [e0, Option.bind_some, m0, e3, Option.bind_some, m3]
      refine T_ckP a0 ?_
      with_reducible refine T_ck (by omega) ?_
      rw [Int.toNat_natCast, x]
      have noD : ∀ (σ1 : Sg), Sme (fun k => k = 11) σ0 σ1 → ¬ (kd c = k ∧ ts c w = 1 ∧ fs c w ≠ -2000000000) → T (ck (in32 ((c : Int) + (-1))) (vX1_asked_28 K o f k b q ((c : Int) + (-1)) σ1)) (fun p => Sme (fun k => k = 11) σ0 p.2 ∧ p.1 = (Dn kd ts fs (c + 1) k w).elim (woK ρ k b) (clK k)) := by
        intro σ1 hS1 hno
        with_reducible refine T_ck (by omega) ?_
        rw [Dn, if_neg hno, em]
        exact ih c σ1 (by omega) (by omega) hS1
      refine T_ite (fun hkd => ?_) (fun hkd => noD σ hS (fun h => hkd h.1))
      have fin : ∀ (σ1 : Sg) (y0 : Int), Sme (fun k => k = 11) σ0 σ1 → ts c w = 1 → y0 = fs c w → T (vX1_asked_137 K o (vX1_asked_28 K o f) k b q (c : Int) y0 σ1) (fun p => Sme (fun k => k = 11) σ0 p.2 ∧ p.1 = (Dn kd ts fs (c + 1) k w).elim (woK ρ k b) (clK k)) := by
        intro σ1 y0 hS1 ht hy
        unfold vX1_asked_137
        refine T_ite (fun hB => ?_) (fun hB => ?_)
        · exact noD σ1 hS1 (fun h => h.2.2 (by rw [← hy]; exact hB))
        · repeat (with_reducible first | refine T_ck (by omega) ?_ | refine T_nm ?_)
          rw [Dn, if_pos ⟨hkd, ht, by rw [← hy]; exact hB⟩, hy]
          exact T_some ⟨hS1, rfl⟩
      have fst : ∀ (σ1 : Sg), Sme (fun k => k = 11) σ0 σ1 → ts c w = 1 → T (vX1_asked_94 K o (vX1_asked_28 K o f) k b q (c : Int) σ1) (fun p => Sme (fun k => k = 11) σ0 p.2 ∧ p.1 = (Dn kd ts fs (c + 1) k w).elim (woK ρ k b) (clK k)) := by
        intro σ1 hS1 ht
        have hag1 : AgT K σ σ1 q := ⟨(hS1 q (by have := h2.1; omega)).trans (hS q (by have := h2.1; omega)).symm, fun j t hj e => (hS1 t (by have := h2.2 j t hj e; omega)).trans (hS t (by have := h2.2 j t hj e; omega)).symm⟩
        unfold vX1_asked_94
        refine T_ckP h1 ?_
        rw [e1, Option.bind_some, m1]
        refine T_ckP a1 ?_
        with_reducible refine T_ck (by omega) ?_
        rw [Int.toNat_natCast, hag1.2 1 k1 (by omega) e1]
        refine T_ite (fun hn => ?_) (fun hn => ?_)
        · rw [if_pos hn] at z
          exact fin σ1 1 hS1 ht (z w hw).symm
        · rw [if_neg hn] at z
          refine T_ckP h1 ?_
          rw [Option.bind_some, m1]
          refine T_ckP a1 ?_
          with_reducible refine T_ck (by omega) ?_
          rw [hag1.2 1 k1 (by omega) e1]
          refine T_bd2 (z σ1 w hag1 hw (hws σ1 hS1)) (fun r σ2 h2 => ?_)
          exact fin σ2 r (Sme_t hS1 h2.2) ht h2.1
      refine T_ckP h1 (T_ckP a3 ?_)
      with_reducible refine T_ck (by omega) ?_
      refine T_ite (fun hn => ?_) (fun hn => ?_)
      · rw [if_pos hn] at y
        exact fst σ hS (y w hw)
      · rw [if_neg hn] at y
        refine T_ckP h1 ?_
        rw [Option.bind_some, m3]
        refine T_ckP a3 ?_
        with_reducible refine T_ck (by omega) ?_
        refine T_bd2 (y σ w AgT_r hw (hws σ hS)) (fun r σ2 h2 => ?_)
        have hS2 := Sme_t hS h2.2
        have hr : r = ts c w := h2.1
        refine T_ite (fun h1 => fst σ2 hS2 (by omega)) (fun h1 => noD σ2 hS2 (fun h => h1 (by rw [hr]; exact h.2.1)))
/-- which text a law's number has -/
def CForce (K : Kt) (σ : Sg) (law : Int) (n : Nat) (kd : Nat → Int) (ts fs : Nat → (Nat → Int) → Int) : Prop :=
  (law = -1 ∧ n = 0 ∧ CLaw K σ 2 n kd ts fs) ∨ (0 ≤ law ∧ law < 6 ∧ law < σ 1 4 ∧ ∃ q, K.1 9 law.toNat = some q ∧ CLaw K σ q n kd ts fs)
theorem h_hasBook {K : Kt} {σ : Sg} {o : Nat} {b : Int} : vX1_hasBook K o b σ = some (bI (0 ≤ b ∧ b < σ o 1)) := by
  unfold vX1_hasBook
  by_cases h1 : b < 0
  · rw [if_pos h1, bI_f (by omega)]
  · rw [if_neg h1]
    by_cases h2 : b < σ o 1
    · rw [if_pos h2, bI_t (by omega)]
    · rw [if_neg h2, bI_f (by omega)]
theorem h_hasReader {K : Kt} {σ : Sg} {o : Nat} {b : Int} : vX1_hasReader K o b σ = some (bI (0 ≤ b ∧ b < σ o 2)) := by
  unfold vX1_hasReader
  by_cases h1 : b < 0
  · rw [if_pos h1, bI_f (by omega)]
  · rw [if_neg h1]
    by_cases h2 : b < σ o 2
    · rw [if_pos h2, bI_t (by omega)]
    · rw [if_neg h2, bI_f (by omega)]
theorem l_has {K : Kt} {σ : Sg} {b : Int} : vX3_has K b σ = some (bI (0 ≤ b ∧ b < σ 1 4)) := by
  unfold vX3_has
  by_cases h1 : b < 0
  · rw [if_pos h1, bI_f (by omega)]
  · rw [if_neg h1]
    by_cases h2 : b < σ 1 4
    · rw [if_pos h2, bI_t (by omega)]
    · rw [if_neg h2, bI_f (by omega)]
theorem h_kept {K : Kt} {σ : Sg} {o : Nat} {ρ : Nat → Int} {b r : Int} (hH : HallIs σ o ρ) (hW : WF ρ) (hb : 0 ≤ b) (hr : 0 ≤ r ∧ r < ρ 1) : vX1_keptWeeks K o b r σ = some (lw ρ b r 0 6) := by
  obtain ⟨⟨g0, g1, g8⟩, gB, gR, gI, g4, g5, g6, g7⟩ := hH
  obtain ⟨⟨h0, h1, h2, h3⟩, ⟨h4, h5, h6, h7, h8⟩, hB, hR, -⟩ := hW
  have gR := gR r (by omega) (by omega)
  have hR := hR r (by omega) (by omega)
  unfold vX1_keptWeeks
  rw [ck_p (by omega), gR.2.2.2.1]
  show _ = some (if ρ (29 + r).toNat = b then ρ 4 - ρ (35 + r).toNat else -1)
  by_cases h : ρ (29 + r).toNat = b
  · rw [if_pos h, if_pos h, ck_p (by omega), gR.2.2.2.2.1 (by omega), g4, ck_p (by omega)]
  · rw [if_neg h, if_neg h]
theorem HallIs_s {σ σ' : Sg} {o : Nat} {ρ : Nat → Int} (h : HallIs σ o ρ) (hs : ∀ k, o ≤ k → k ≤ o + 13 → σ' k = σ k) : HallIs σ' o ρ := by
  obtain ⟨⟨g0, g1, g8⟩, gB, gR, gI, g4, g5, g6, g7⟩ := h
  unfold HallIs
  rw [hs o (by omega) (by omega), hs (o + 1) (by omega) (by omega), hs (o + 2) (by omega) (by omega), hs (o + 3) (by omega) (by omega), hs (o + 4) (by omega) (by omega), hs (o + 5) (by omega) (by omega), hs (o + 6) (by omega) (by omega), hs (o + 7) (by omega) (by omega), hs (o + 8) (by omega) (by omega), hs (o + 9) (by omega) (by omega), hs (o + 10) (by omega) (by omega), hs (o + 11) (by omega) (by omega), hs (o + 12) (by omega) (by omega), hs (o + 13) (by omega) (by omega)]
  exact ⟨⟨g0, g1, g8⟩, gB, gR, gI, g4, g5, g6, g7⟩
theorem c_words {K : Kt} {o : Nat} {σ : Sg} {ρ : Nat → Int} {b r t : Int} (ho : 12 < o) (hH : HallIs σ o ρ) (hW : WF ρ) (hb : 0 ≤ b ∧ b < ρ 0) (hr : 0 ≤ r ∧ r < ρ 1) : T (vX1_tellLawWords K o b r t σ) (fun σ' => Sme (fun k => k = 12) σ σ' ∧ ∀ j : Nat, j < 9 → σ' 12 j = lw ρ b r t j) := by
  have hHH := hH
  obtain ⟨⟨g0, g1, g8⟩, gB, gR, gI, g4, g5, g6, g7⟩ := hH
  have hWW := hW
  obtain ⟨⟨h0, h1, h2, h3⟩, ⟨h4, h5, h6, h7, h8⟩, hB, hR, -⟩ := hW
  have gB := gB b (by omega) (by omega)
  have gR := gR r (by omega) (by omega)
  unfold vX1_tellLawWords
  repeat (with_reducible first | refine T_ck (by omega) ?_ | refine T_nm ?_)
  simp (disch := omega) only [up2_o]
  have hk : vX1_keptWeeks K o b r (up2 (up2 (up2 (up2 (up2 (up2 σ 12 0 b) 12 1 (σ (o + 1) b.toNat)) 12 2 (σ (o + 4) b.toNat)) 12 3 r) 12 4 t) 12 5 (σ (o + 7) r.toNat)) = some (lw ρ b r 0 6) := h_kept (HallIs_s hHH (fun k h1 h2 => by simp (disch := omega) only [up2_o])) hWW (by omega) hr
  rw [hk, Option.bind_some]
  repeat (with_reducible first | refine T_ck (by omega) ?_ | refine T_nm ?_)
  simp (disch := omega) only [up2_o]
  refine T_some ⟨Sme_u (Sme_u (Sme_u (Sme_u (Sme_u (Sme_u (Sme_u (Sme_u (Sme_u Sme_r rfl) rfl) rfl) rfl) rfl) rfl) rfl) rfl) rfl, fun j hj => ?_⟩
  simp only [up2_c]
  match j with
  | 0 => rfl
  | 1 => exact gB.1
  | 2 => exact gB.2.2.2
  | 3 => rfl
  | 4 => rfl
  | 5 => exact gR.2.2.1
  | 6 => rfl
  | 7 => exact g4
  | 8 => exact g7
  | j + 9 => omega
theorem c_asked {K : Kt} {o : Nat} {σ : Sg} {ρ : Nat → Int} {n : Nat} {kd : Nat → Int} {ts fs : Nat → (Nat → Int) → Int} {k law b r t : Int} (ho : 12 < o) (hH : HallIs σ o ρ) (hW : WF ρ) (hF : CForce K σ law n kd ts fs) (hk : 0 ≤ k ∧ k < 4) (hb : 0 ≤ b ∧ b < ρ 0) (hr : 0 ≤ r ∧ r < ρ 1) (ht : 0 ≤ t ∧ t ≤ 63) :
    T (vX1_asked K o k law b r t σ) (fun p => Sme (fun k => k = 11 ∨ k = 12) σ p.2 ∧ p.1 = askS (Dn kd ts fs n) ρ k b r t) := by
  unfold vX1_asked
  refine T_bind (c_words ho hH hW hb hr) (fun σ1 h1 => ?_)
  obtain ⟨hS1, hw1⟩ := h1
  have hwo := lw_ok hW hb hr ht
  have h08 := hW.1.1
  have hB := hH.2.1 b (by omega) (by omega)
  have go : ∀ q, CLaw K σ q n kd ts fs → T ((some q).bind (fun t3 => ckP (IsC K t3 7) (ck (in32 ((σ1 t3 6) - 1)) (nm ((σ1 t3 6) - 1) (fun z5 => vX1_asked_28 K o FU k b t3 z5 σ1))))) (fun p => Sme (fun k => k = 11 ∨ k = 12) σ p.2 ∧ p.1 = askS (Dn kd ts fs n) ρ k b r t) := by
    intro q hL
    have hL1 : CLaw K σ1 q n kd ts fs := CLaw_a hL (AgT_s (Sme_m hS1 (fun k h => Or.inr h)) hL.2.1)
    rw [Option.bind_some]
    refine T_ckP hL1.1 ?_
    rw [hL1.2.2.2.1]
    have hn := hL1.2.2.1
    repeat (with_reducible first | refine T_ck (by omega) ?_ | refine T_nm ?_)
    refine T_mono (c_asked_28 (ρ := ρ) (n := n) hk (by omega) ho hL1 ?_ hwo hw1 FU n σ1 (by have := FU_b; omega) (by omega) Sme_r) (fun p hp => ⟨Sme_t (Sme_m hS1 (fun k h => Or.inr h)) (Sme_m hp.1 (fun k h => Or.inl h)), hp.2⟩)
    rw [hS1 _ (by omega)]
    exact hB.1
  unfold vX3_textOf
  rw [l_has, Option.bind_some]
  rcases hF with ⟨f1, f2, f3⟩ | ⟨f1, f2, f3, q, f4, f5⟩
  · rw [if_pos (bI_f (by omega)), Option.bind_some]
    exact go 2 f3
  · rw [if_neg (by rw [bI_t (by rw [hS1 1 (by omega)]; omega)]; omega), ck_p (by omega), f4]
    show T ((ck _ (Option.bind (some q) _)).bind _) _
    rw [ck_p (by omega), Option.bind_some, Option.bind_some]
    exact go q f5
