/-! ===== the law in force, as what it tells ===== -/
def LawC (K : Kt) (σ : Sg) (law : Int) (D : Int → (Nat → Int) → Option Int) : Prop := ∃ n kd ts fs, CForce K σ law n kd ts fs ∧ D = Dn kd ts fs n
def LawM (ρ : Nat → Int) (D : Int → (Nat → Int) → Option Int) : Prop := ∃ n kd ts fs, MForce ρ n kd ts fs ∧ D = Dn kd ts fs n
theorem LawM_p {ρ ρ' : Nat → Int} {D : Int → (Nat → Int) → Option Int} (h : LawM ρ D) (h3 : ρ' 3 = ρ 3) (hp : ∀ i, 105 ≤ i → ρ' i = ρ i) : LawM ρ' D := by
  obtain ⟨n, kd, ts, fs, hF, hD⟩ := h
  refine ⟨n, kd, ts, fs, ?_, hD⟩
  rcases hF with ⟨f1, f2⟩ | ⟨f1, f2, f3⟩
  · exact Or.inl ⟨by rw [h3]; exact f1, f2⟩
  · refine Or.inr ⟨by rw [h3]; exact f1, by rw [h3]; exact f2, ?_⟩
    rw [h3]
    exact MLaw_p f3 (by omega) hp
theorem Dn_rg {kd : Nat → Int} {ts fs : Nat → (Nat → Int) → Int} {w : Nat → Int} (hw : wOk w) : ∀ (n : Nat), (∀ c : Nat, c < n → (∀ w, wOk w → fs c w = -2000000000 ∨ (-1000000000 ≤ fs c w ∧ fs c w ≤ 1000000000)) ∧ (kd c = 3 → ∀ w, wOk w → fs c w = 1)) → ∀ k v, Dn kd ts fs n k w = some v → (-1000000000 ≤ v ∧ v ≤ 1000000000) ∧ (k = 3 → v = 1)
  | 0, _, k, v, h => by cases h
  | c + 1, hc, k, v, h => by
    rw [Dn] at h
    split at h
    · rename_i hh
      obtain ⟨x1, x2⟩ := hc c (by omega)
      have e : fs c w = v := by injection h
      rw [← e]
      have := x1 w hw
      refine ⟨by omega, fun h3 => x2 (by omega) w hw⟩
    · exact Dn_rg hw c (fun c' h' => hc c' (by omega)) k v h
theorem LawM_rg {ρ : Nat → Int} {D : Int → (Nat → Int) → Option Int} (h : LawM ρ D) {w : Nat → Int} (hw : wOk w) {k v : Int} (hv : D k w = some v) : (-1000000000 ≤ v ∧ v ≤ 1000000000) ∧ (k = 3 → v = 1) := by
  obtain ⟨n, kd, ts, fs, hF, hD⟩ := h
  rw [hD] at hv
  rcases hF with ⟨f1, f2⟩ | ⟨f1, f2, f3⟩
  · rw [f2] at hv; cases hv
  · refine Dn_rg hw n (fun c hc => ?_) k v hv
    obtain ⟨x1, x2, x3, x4, x5, x6⟩ := f3.2.2 c hc
    refine ⟨x4, fun h3 => ?_⟩
    rw [if_pos h3] at x6
    exact x6
theorem l_tells {σ : Sg} {D : Int → (Nat → Int) → Option Int} {k b r wo : Int} (hW : WF (σ 86)) (hD : LawM (σ 86) D) (h20 : σ 84 20 = 0) (hb : 0 ≤ b ∧ b < σ 86 0) (hr : 0 ≤ r ∧ r < σ 86 1) :
    T (vX10_tells k b r wo σ) (fun p => ScM σ p.2 ∧ p.1 = (D k (lw (σ 86) b r (σ 86 (17 + r).toNat))).getD wo) := by
  obtain ⟨n, kd, ts, fs, hF, hD⟩ := hD
  rw [hD]
  exact m_tells hW hF h20 hb hr
theorem l_asked {K : Kt} {o : Nat} {σ : Sg} {ρ : Nat → Int} {D : Int → (Nat → Int) → Option Int} {k law b r t : Int} (ho : 12 < o) (hH : HallIs σ o ρ) (hW : WF ρ) (hD : LawC K σ law D) (hk : 0 ≤ k ∧ k < 4) (hb : 0 ≤ b ∧ b < ρ 0) (hr : 0 ≤ r ∧ r < ρ 1) (ht : 0 ≤ t ∧ t ≤ 63) :
    T (vX1_asked K o k law b r t σ) (fun p => Sme (fun k => k = 11 ∨ k = 12) σ p.2 ∧ p.1 = askS D ρ k b r t) := by
  obtain ⟨n, kd, ts, fs, hF, hD⟩ := hD
  rw [hD]
  exact c_asked ho hH hW hF hk hb hr ht
/-- where the laws of the class lie; writes elsewhere let them be -/
def LwO (K : Kt) (P : Nat → Prop) : Prop := (¬ P 1 ∧ ¬ P 2 ∧ ∀ j t, j < 6 → K.1 2 j = some t → ¬ P t) ∧ ∀ i q, i < 6 → K.1 9 i = some q → ¬ P q ∧ ∀ j t, j < 6 → K.1 q j = some t → ¬ P t
theorem LawC_s {K : Kt} {σ σ' : Sg} {law : Int} {D : Int → (Nat → Int) → Option Int} {P : Nat → Prop} (h : LawC K σ law D) (hS : Sme P σ σ') (hO : LwO K P) : LawC K σ' law D := by
  obtain ⟨n, kd, ts, fs, hF, hD⟩ := h
  refine ⟨n, kd, ts, fs, ?_, hD⟩
  rcases hF with ⟨f1, f2, f3⟩ | ⟨f1, f2, f3, q, f4, f5⟩
  · exact Or.inl ⟨f1, f2, CLaw_a f3 ⟨hS 2 hO.1.2.1, fun j t hj e => hS t (hO.1.2.2 j t hj e)⟩⟩
  · refine Or.inr ⟨f1, f2, by rw [hS 1 hO.1.1]; exact f3, q, f4, CLaw_a f5 ?_⟩
    obtain ⟨x, y⟩ := hO.2 law.toNat q (by omega) f4
    exact ⟨hS q x, fun j t hj e => hS t (y j t hj e)⟩
/-! ===== what is told, in bounds ===== -/
theorem clK_0 (v : Int) : clK 0 v = if v < 0 then 0 else if 99 < v then 99 else v := by
  show imax 0 (imin 99 v) = _
  unfold imax imin
  repeat' split
  all_goals omega
theorem clK_1 (v : Int) : clK 1 v = if v < 0 then 0 else if 20 < v then 20 else v := by
  show imax 0 (imin 20 v) = _
  unfold imax imin
  repeat' split
  all_goals omega
theorem clK_2 (v : Int) : clK 2 v = if v < 1 then 1 else if 99 < v then 99 else v := by
  show imax 1 (imin 99 v) = _
  unfold imax imin
  repeat' split
  all_goals omega
theorem m_within {v a b : Int} (h : in32 v) (σ : Sg) : vX10_within v a b σ = some (if v < a then a else if b < v then b else v) := by
  unfold vX10_within
  rw [w32_id h]
  split
  · rfl
  · split <;> rfl
theorem askS_0 {D : Int → (Nat → Int) → Option Int} {ρ : Nat → Int} {b r t : Int} : 0 ≤ askS D ρ 0 b r t ∧ askS D ρ 0 b r t ≤ 99 := by
  unfold askS
  cases D 0 (lw ρ b r t) with
  | none => show 0 ≤ (2 : Int) ∧ (2 : Int) ≤ 99; omega
  | some v => show 0 ≤ clK 0 v ∧ clK 0 v ≤ 99; rw [clK_0]; split <;> (try split) <;> omega
theorem askS_1 {D : Int → (Nat → Int) → Option Int} {ρ : Nat → Int} {b r t : Int} : 0 ≤ askS D ρ 1 b r t ∧ askS D ρ 1 b r t ≤ 20 := by
  unfold askS
  cases D 1 (lw ρ b r t) with
  | none => show 0 ≤ (1 : Int) ∧ (1 : Int) ≤ 20; omega
  | some v => show 0 ≤ clK 1 v ∧ clK 1 v ≤ 20; rw [clK_1]; split <;> (try split) <;> omega
theorem m_finesOf {σ : Sg} {D : Int → (Nat → Int) → Option Int} {b r : Int} (hW : WF (σ 86)) (hD : LawM (σ 86) D) (h20 : σ 84 20 = 0) (hb : 0 ≤ b ∧ b < σ 86 0) (hr : 0 ≤ r ∧ r < σ 86 1) :
    T (vX10_finesOf b r σ) (fun p => ScM σ p.2 ∧ p.1 = askS D (σ 86) 0 b r (σ 86 (17 + r).toNat)) := by
  have hw := lw_ok hW hb hr (t := σ 86 (17 + r).toNat) (by have := hW.2.2.2.1 r hr.1 hr.2; omega)
  unfold vX10_finesOf
  refine T_bd2 (l_tells hW hD h20 hb hr) (fun z σ1 h => ?_)
  obtain ⟨hS, hz⟩ := h
  have hz : z = _ := hz
  unfold askS
  cases e : D 0 (lw (σ 86) b r (σ 86 (17 + r).toNat)) with
  | none =>
    rw [e] at hz
    rw [hz, m_within (by decide), Option.bind_some]
    exact T_some ⟨hS, rfl⟩
  | some v =>
    rw [e] at hz
    have := LawM_rg hD hw e
    rw [hz, m_within (by show in32 v; omega), Option.bind_some]
    exact T_some ⟨hS, (clK_0 v).symm⟩
theorem m_wearsOf {σ : Sg} {D : Int → (Nat → Int) → Option Int} {b r : Int} (hW : WF (σ 86)) (hD : LawM (σ 86) D) (h20 : σ 84 20 = 0) (hb : 0 ≤ b ∧ b < σ 86 0) (hr : 0 ≤ r ∧ r < σ 86 1) :
    T (vX10_wearsOf b r σ) (fun p => ScM σ p.2 ∧ p.1 = askS D (σ 86) 1 b r (σ 86 (17 + r).toNat)) := by
  have hw := lw_ok hW hb hr (t := σ 86 (17 + r).toNat) (by have := hW.2.2.2.1 r hr.1 hr.2; omega)
  unfold vX10_wearsOf
  refine T_bd2 (l_tells hW hD h20 hb hr) (fun z σ1 h => ?_)
  obtain ⟨hS, hz⟩ := h
  have hz : z = _ := hz
  unfold askS
  cases e : D 1 (lw (σ 86) b r (σ 86 (17 + r).toNat)) with
  | none =>
    rw [e] at hz
    rw [hz, m_within (by decide), Option.bind_some]
    exact T_some ⟨hS, rfl⟩
  | some v =>
    rw [e] at hz
    have := LawM_rg hD hw e
    rw [hz, m_within (by show in32 v; omega), Option.bind_some]
    exact T_some ⟨hS, (clK_1 v).symm⟩
theorem m_takesOf {σ : Sg} {D : Int → (Nat → Int) → Option Int} {b r : Int} (hW : WF (σ 86)) (hD : LawM (σ 86) D) (h20 : σ 84 20 = 0) (hb : 0 ≤ b ∧ b < σ 86 0) (hr : 0 ≤ r ∧ r < σ 86 1) :
    T (vX10_takesOf b r σ) (fun p => ScM σ p.2 ∧ p.1 = askS D (σ 86) 2 b r (σ 86 (17 + r).toNat)) := by
  have hw := lw_ok hW hb hr (t := σ 86 (17 + r).toNat) (by have := hW.2.2.2.1 r hr.1 hr.2; omega)
  have h08 := hW.1.1
  have hl := (hW.2.2.1 b hb.1 hb.2).1
  unfold vX10_takesOf
  repeat (with_reducible first | refine T_ck (by omega) ?_ | refine T_nm ?_)
  refine T_bd2 (l_tells hW hD h20 hb hr) (fun z σ1 h => ?_)
  obtain ⟨hS, hz⟩ := h
  have hz : z = _ := hz
  unfold askS
  cases e : D 2 (lw (σ 86) b r (σ 86 (17 + r).toNat)) with
  | none =>
    rw [e] at hz
    have hz : z = σ 86 (71 + b).toNat := hz
    rw [hz, m_within (by omega), Option.bind_some, if_neg (by omega), if_neg (by omega)]
    exact T_some ⟨hS, rfl⟩
  | some v =>
    rw [e] at hz
    have := LawM_rg hD hw e
    rw [hz, m_within (by show in32 v; omega), Option.bind_some]
    exact T_some ⟨hS, (clK_2 v).symm⟩
theorem m_isBarred {σ : Sg} {D : Int → (Nat → Int) → Option Int} {b r : Int} (hW : WF (σ 86)) (hD : LawM (σ 86) D) (h20 : σ 84 20 = 0) (hb : 0 ≤ b ∧ b < σ 86 0) (hr : 0 ≤ r ∧ r < σ 86 1) :
    T (vX10_isBarred b r σ) (fun p => ScM σ p.2 ∧ p.1 = askS D (σ 86) 3 b r (σ 86 (17 + r).toNat) ∧ (p.1 = 0 ∨ p.1 = 1)) := by
  have hw := lw_ok hW hb hr (t := σ 86 (17 + r).toNat) (by have := hW.2.2.2.1 r hr.1 hr.2; omega)
  unfold vX10_isBarred
  refine T_bd2 (l_tells hW hD h20 hb hr) (fun z σ1 h => ?_)
  obtain ⟨hS, hz⟩ := h
  have hz : z = _ := hz
  unfold askS
  cases e : D 3 (lw (σ 86) b r (σ 86 (17 + r).toNat)) with
  | none =>
    rw [e] at hz
    rw [hz]
    exact T_f (by decide) (T_some ⟨hS, rfl, Or.inl rfl⟩)
  | some v =>
    rw [e] at hz
    have h1 := (LawM_rg hD hw e).2 rfl
    rw [hz, h1]
    exact T_t rfl (T_some ⟨hS, rfl, Or.inr rfl⟩)
/-! ===== who is with a book ===== -/
def wthN (ρ : Nat → Int) (b : Int) : Prop := ∀ r : Int, 0 ≤ r → r < ρ 1 → ρ (29 + r).toNat ≠ b
theorem m_readerWith_4 {σ : Sg} {b : Int} (h1 : 0 ≤ σ 86 1 ∧ σ 86 1 ≤ 6) (hu : ∀ r s : Int, 0 ≤ r → r < σ 86 1 → 0 ≤ s → s < σ 86 1 → σ 86 (29 + r).toNat = b → σ 86 (29 + s).toNat = b → r = s) :
    ∀ (f : Nat) (x z : Int), 0 ≤ x → x ≤ σ 86 1 → (σ 86 1 - x).toNat < f → ((z = -1 ∧ ∀ r : Int, 0 ≤ r → r < x → σ 86 (29 + r).toNat ≠ b) ∨ (0 ≤ z ∧ z < x ∧ σ 86 (29 + z).toNat = b)) →
    T (vX10_readerWith_4 σ f b z x) (fun p => (p = -1 ∧ wthN (σ 86) b) ∨ (0 ≤ p ∧ p < σ 86 1 ∧ σ 86 (29 + p).toNat = b)) := by
  intro f
  induction f with
  | zero => intro x z _ _ h; omega
  | succ f ih =>
    intro x z h0 hx hf hz
    rw [vX10_readerWith_4]
    refine T_ite (fun h => ?_) (fun h => ?_)
    · repeat (with_reducible first | refine T_ck (by omega) ?_ | refine T_nm ?_)
      refine T_ite (fun hb => ?_) (fun hb => ?_)
      · with_reducible refine T_ck (by omega) ?_
        exact ih (x + 1) x (by omega) (by omega) (by omega) (Or.inr ⟨h0, by omega, hb⟩)
      · with_reducible refine T_ck (by omega) ?_
        refine ih (x + 1) z (by omega) (by omega) (by omega) ?_
        rcases hz with ⟨z1, z2⟩ | ⟨z1, z2, z3⟩
        · refine Or.inl ⟨z1, fun r h1 h2 => ?_⟩
          by_cases e : r = x
          · rw [e]; exact hb
          · exact z2 r h1 (by omega)
        · exact Or.inr ⟨z1, by omega, z3⟩
    · have e : x = σ 86 1 := by omega
      rw [e] at hz
      refine T_some ?_
      rcases hz with ⟨z1, z2⟩ | ⟨z1, z2, z3⟩
      · exact Or.inl ⟨z1, z2⟩
      · exact Or.inr ⟨z1, z2, z3⟩
theorem m_readerWith {σ : Sg} {b : Int} (hW : WF (σ 86)) (hb : b ≠ -1) :
    T (vX10_readerWith b σ) (fun p => (p = -1 ∧ wthN (σ 86) b) ∨ (0 ≤ p ∧ p < σ 86 1 ∧ σ 86 (29 + p).toNat = b)) := by
  unfold vX10_readerWith
  have h1 := hW.1.2.1
  refine m_readerWith_4 h1 (fun r s a b c d e g => hW.2.2.2.2.1 r s a b c d (by rw [e, g]) (by omega)) FU 0 (-1) (by omega) (by omega) (by have := FU_b; omega) (Or.inl ⟨rfl, fun r a b => by omega⟩)
theorem c_readerWith_2 {K : Kt} {σ : Sg} {o : Nat} {ρ : Nat → Int} {b : Int} (hH : HallIs σ o ρ) (h1 : 0 ≤ ρ 1 ∧ ρ 1 ≤ 6) :
    ∀ (f : Nat) (x : Int), 0 ≤ x → x ≤ ρ 1 → (ρ 1 - x).toNat < f → (∀ r : Int, 0 ≤ r → r < x → ρ (29 + r).toNat ≠ b) →
    T (vX1_readerWith_2 K o σ f b x) (fun p => (p = -1 ∧ wthN ρ b) ∨ (0 ≤ p ∧ p < ρ 1 ∧ ρ (29 + p).toNat = b)) := by
  obtain ⟨⟨g0, g1, g8⟩, gB, gR, gI, g4, g5, g6, g7⟩ := hH
  intro f
  induction f with
  | zero => intro x _ _ h; omega
  | succ f ih =>
    intro x h0 hx hf hz
    rw [vX1_readerWith_2, g1]
    refine T_ite (fun h => ?_) (fun h => ?_)
    · repeat (with_reducible first | refine T_ck (by omega) ?_ | refine T_nm ?_)
      rw [(gR x h0 (by omega)).2.2.2.1]
      refine T_ite (fun hb => ?_) (fun hb => ?_)
      · exact T_some (Or.inr ⟨h0, h, hb⟩)
      · with_reducible refine T_ck (by omega) ?_
        refine ih (x + 1) (by omega) (by omega) (by omega) (fun r h1 h2 => ?_)
        by_cases e : r = x
        · rw [e]; exact hb
        · exact hz r h1 (by omega)
    · have e : x = ρ 1 := by omega
      rw [e] at hz
      exact T_some (Or.inl ⟨rfl, hz⟩)
theorem c_readerWith {K : Kt} {σ : Sg} {o : Nat} {ρ : Nat → Int} {b : Int} (hH : HallIs σ o ρ) (hW : WF ρ) :
    T (vX1_readerWith K o b σ) (fun p => (p = -1 ∧ wthN ρ b) ∨ (0 ≤ p ∧ p < ρ 1 ∧ ρ (29 + p).toNat = b)) := by
  unfold vX1_readerWith
  have h1 := hW.1.2.1
  exact c_readerWith_2 hH h1 FU 0 (by omega) (by omega) (by have := FU_b; omega) (fun r a b => by omega)
