/-! ===== the reference's orders, once they are read ===== -/
theorem m_o77 {x1 : Int} {σ0 : Sg} {Q : Int × Sg → Prop} (cont : ∀ σ, (∀ k, k ≠ 91 → σ k = σ0 k) → (∀ j, j < 1072 → σ 91 j = σ0 89 j) → T (vX10_orders_104 FU x1 0 σ) Q) : ∀ (f x : Nat) (σ : Sg), 1072 - x < f → x ≤ 1072 → (∀ k, k ≠ 91 → σ k = σ0 k) → (∀ j, j < x → σ 91 j = σ0 89 j) → T (vX10_orders_77 f x1 (x : Int) σ) Q := by
  intro f
  induction f with
  | zero => intro x σ h; omega
  | succ f ih =>
    intro x σ hf hx fr hw
    rw [vX10_orders_77]
    refine T_ite (fun q => ?_) (fun q => cont σ fr (fun j hj => hw j (by omega)))
    refine T_ck (by omega) (T_ck (by omega) (T_nm (T_ck (by omega) ?_)))
    rw [Int.toNat_natCast, show (x : Int) + 1 = ((x + 1 : Nat) : Int) by omega]
    refine ih (x + 1) _ (by omega) (by omega) (fun k hk => by rw [up2_o hk]; exact fr k hk) (fun j hj => ?_)
    rw [up2_c]
    by_cases z : j = x
    · rw [z, upw_s, fr 89 (by omega)]
    · rw [upw_n z]; exact hw j (by omega)
theorem m_o104 {x1 : Int} {σ0 : Sg} {Q : Int × Sg → Prop} (cont : ∀ σ, (∀ k, k ≠ 92 → σ k = σ0 k) → (∀ j, j < 16 → σ 92 j = σ0 90 j) → T (vX10_orders_140 FU x1 0 (up2 (up2 σ 84 50 0) 84 51 (-1))) Q) : ∀ (f x : Nat) (σ : Sg), 16 - x < f → x ≤ 16 → (∀ k, k ≠ 92 → σ k = σ0 k) → (∀ j, j < x → σ 92 j = σ0 90 j) → T (vX10_orders_104 f x1 (x : Int) σ) Q := by
  intro f
  induction f with
  | zero => intro x σ h; omega
  | succ f ih =>
    intro x σ hf hx fr hw
    rw [vX10_orders_104]
    refine T_ite (fun q => ?_) (fun q => T_nm (T_nm (cont σ fr (fun j hj => hw j (by omega)))))
    refine T_ck (by omega) (T_ck (by omega) (T_nm (T_ck (by omega) ?_)))
    rw [Int.toNat_natCast, show (x : Int) + 1 = ((x + 1 : Nat) : Int) by omega]
    refine ih (x + 1) _ (by omega) (by omega) (fun k hk => by rw [up2_o hk]; exact fr k hk) (fun j hj => ?_)
    rw [up2_c]
    by_cases z : j = x
    · rw [z, upw_s, fr 90 (by omega)]
    · rw [upw_n z]; exact hw j (by omega)
def rs0 (ρ : Nat → Int) : Rst := (ρ, [], 0, -1)
def OG (σM s : Sg) : Prop := (∀ k, k ≠ 84 → k ≠ 86 → ¬ (89 ≤ k ∧ k ≤ 92) → ¬ (94 ≤ k ∧ k ≤ 98) → ¬ (102 ≤ k ∧ k ≤ 104) → k ≠ 113 → s k = σM k) ∧ (∀ j, j = 11 ∨ j = 56 ∨ j = 57 → s 84 j = σM 84 j) ∧ s 84 13 = 0 ∧ s 84 20 = 0 ∧ s 84 18 = -1
def MO (D : Int → (Nat → Int) → Option Int) (σM : Sg) (L0 : UL) (L : List Ru) (q : Int × Sg) : Prop :=
  (∀ q', rnl D L 0 (rs0 (σM 86)) = (q', none) → q.1 = -3 ∧ ∃ s, q.2 = anM (-3) s ∧ OG σM s ∧ s 86 = σM 86 ∧ UM s L0 ∧ s 84 52 = (q' : Int))
  ∧ ∀ s', (rnl D L 0 (rs0 (σM 86))).2 = some s' → q.1 = s'.2.2.1 ∧ ∃ s, q.2 = anM s'.2.2.1 s ∧ OG σM s ∧ s 86 = s'.1 ∧ UM s (s'.2.1.foldl pushU L0) ∧ s 84 52 = σM 84 52
theorem m_orders46 {tk : Nat → Int} {pl st : Nat → Nat} {N j l : Nat} {c : Cd} {L : List Ru} {σM σe : Sg} {D : Int → (Nat → Int) → Option Int} {L0 : UL} (hN : N ≤ 400) (m : ML MRo tk pl st N σM σe j l c L) (ht : tk j = 256) (hL : L.length ≤ 12) (hok : ∀ x ∈ L, OrdR x) (hW : WF (σM 86)) (hD : LawM (σM 86) D) (hU : UM σM L0) (h85 : 0 ≤ σM 85 3 ∧ σM 85 3 ≤ 600) : T (vX10_orders_46 σe) (MO D σM L0 L) := by
  obtain ⟨m1, m2, m3, m4, m5⟩ := m
  have hc4 : c.2.2 ≤ 400 := by have := m1.2.2.1.1; omega
  unfold vX10_orders_46
  refine T_bind (m_end_ok m3 m1 ht) (fun s1 h1 => ?_)
  obtain ⟨g1, g2, g3⟩ := h1
  have e19 : s1 84 19 = 0 := by rw [g3 19 (by omega) (by omega)]; exact m1.2.1.1.1
  have e18 : s1 84 18 = -1 := by rw [g3 18 (by omega) (by omega)]; exact m1.2.2.2
  have e21 : s1 84 21 = (L.length : Int) := by rw [g3 21 (by omega) (by omega)]; exact m4
  refine T_t e19 (T_bind (m_keepAll (k := 17) (by omega)) (fun s2 h2 => T_nm ?_))
  obtain ⟨i1, i2, i3⟩ := h2
  have e8 : s2 84 8 = (L0.length : Int) := by rw [i1 84 (by omega), g1.2.1 8 (by omega)]; exact hU.1
  have z0 : (0 : Int) = ((0 : Nat) : Int) := rfl
  rw [z0, e8]
  refine m_o77 (σ0 := s2) (fun s3 j1 j2 => ?_) FU 0 s2 (by have := FU_b; omega) (by omega) (fun _ _ => rfl) (fun _ h => by omega)
  rw [z0]
  refine m_o104 (σ0 := s3) (fun s4 o1 o2 => ?_) FU 0 s3 (by have := FU_b; omega) (by omega) (fun _ _ => rfl) (fun _ h => by omega)
  generalize hB : up2 (up2 s4 84 50 0) 84 51 (-1) = σB
  have Bo : ∀ k, k ≠ 84 → k ≠ 89 → k ≠ 91 → k ≠ 92 → σB k = s1 k := fun k k1 k2 k3 k4 => by rw [← hB, up2_o k1, up2_o k1, o1 k k4, j1 k k3, i1 k k2]
  have B84 : ∀ j, j ≠ 50 → j ≠ 51 → σB 84 j = s1 84 j := fun j a b => by rw [← hB, up2_c, upw_n b, up2_c, upw_n a, o1 84 (by omega), j1 84 (by omega), i1 84 (by omega)]
  have B50 : σB 84 50 = 0 := by rw [← hB, up2_c, upw_n (by omega), up2_c, upw_s]
  have B51 : σB 84 51 = -1 := by rw [← hB, up2_c, upw_s]
  have B89 : σB 89 = s2 89 := by rw [← hB, up2_o (by omega), up2_o (by omega), o1 89 (by omega), j1 89 (by omega)]
  have B91 : ∀ j, j < 1072 → σB 91 j = s1 89 j := fun j hj => by rw [← hB, up2_o (by omega), up2_o (by omega), o1 91 (by omega), j2 j hj, i3 j (by omega)]
  have B92 : ∀ j, j < 16 → σB 92 j = s1 90 j := fun j hj => by rw [← hB, up2_o (by omega), up2_o (by omega), o2 j hj, j1 90 (by omega), i1 90 (by omega)]
  have s186 : s1 86 = σM 86 := g1.1 86 (by omega) (by omega) (by omega)
  have s189 : s1 89 = σM 89 := g1.1 89 (by omega) (by omega) (by omega)
  have s190 : s1 90 = σM 90 := g1.1 90 (by omega) (by omega) (by omega)
  have B86 : σB 86 = σM 86 := by rw [Bo 86 (by omega) (by omega) (by omega) (by omega)]; exact s186
  have tx : TxM σB c L := by
    refine ⟨fun k hk => ?_, hc4, by rw [B84 21 (by omega) (by omega)]; exact e21, fun q x hq => ?_⟩
    · rw [Bo 95 (by omega) (by omega) (by omega) (by omega), Bo 96 (by omega) (by omega) (by omega) (by omega), g2 95 (by omega), g2 96 (by omega)]; exact m1.2.1.2 k hk
    · have e : σB 113 = σe 113 := by rw [Bo 113 (by omega) (by omega) (by omega) (by omega), g2 113 (by omega)]
      have := m5 q x hq
      unfold MRo at *
      rw [e]; exact this
  have umB : UM σB L0 := UM_f hU (by rw [B84 8 (by omega) (by omega), g1.2.1 8 (by omega)]) (fun j hj => by rw [B89, i3 j (by omega), s189]) (by rw [Bo 90 (by omega) (by omega) (by omega) (by omega)]; exact s190)
  have r0 : RM σB L0 σB (rs0 (σM 86)) := ⟨⟨B86, hW, fun i _ => by rw [B86]; rfl⟩, umB, ⟨B50, B51⟩, fun _ _ _ _ _ _ _ _ => rfl, fun _ _ _ _ _ _ => rfl, fun _ _ _ => rfl⟩
  have og : ∀ s, (∀ k, k ≠ 84 → k ≠ 86 → k ≠ 89 → k ≠ 90 → k ≠ 102 → k ≠ 103 → k ≠ 104 → s k = σB k) → (∀ j, j ≠ 8 → j ≠ 50 → j ≠ 51 → j ≠ 52 → j ≠ 53 → ¬ sc84 j → s 84 j = σB 84 j) → OG σM s := fun s hk h84 => by
    refine ⟨fun k k1 k2 k3 k4 k5 k6 => ?_, fun j hj => ?_, ?_, ?_, ?_⟩
    · rw [hk k k1 k2 (by omega) (by omega) (by omega) (by omega) (by omega), Bo k k1 (by omega) (by omega) (by omega)]; exact g1.1 k k1 (by omega) k6
    · rw [h84 j (by omega) (by omega) (by omega) (by omega) (by omega) (by unfold sc84; omega), B84 j (by omega) (by omega)]; exact g1.2.1 j (by omega)
    · rw [h84 13 (by omega) (by omega) (by omega) (by omega) (by omega) (by unfold sc84; omega), B84 13 (by omega) (by omega)]; exact g1.2.2.1
    · rw [h84 20 (by omega) (by omega) (by omega) (by omega) (by omega) (by unfold sc84; omega), B84 20 (by omega) (by omega)]; exact g1.2.2.2
    · rw [h84 18 (by omega) (by omega) (by omega) (by omega) (by omega) (by unfold sc84; omega), B84 18 (by omega) (by omega)]; exact e18
  have key := m_140 (x1 := (L0.length : Int)) (Q := MO D σM L0 L) (by rw [B86]; exact hD) (by rw [B84 20 (by omega) (by omega)]; exact g1.2.2.2) tx hL hok L [] FU σB (rs0 (σM 86)) 0 rfl (by have := FU_b; omega) r0 ⟨⟨by show (0 : Int) ≤ 0; omega, by show (0 : Int) ≤ 0; omega⟩, by show (-1 : Int) ≤ -1; omega, by show (-1 : Int) ≤ 1000; omega⟩ (by omega) (fun σ' s' h1 h2 h3 => ?_) (fun q' σ' h1 h2 h3 => ?_)
  · exact key
  · have h1' : (rnl D L 0 (rs0 (σM 86))).2 = some s' := h1
    obtain ⟨⟨a1, a2, a3⟩, um, ⟨c1, c2⟩, rg⟩ := h2
    unfold mend
    rw [c1, m_told (by have := h3.1.1; omega) (fun w => by have := h3.1.1; omega), bd2_some]
    refine T_some ⟨fun q' e => ?_, fun s2' e => ?_⟩
    · rw [e] at h1'; cases h1'
    · rw [h1'] at e
      injection e with e
      subst e
      exact ⟨rfl, σ', rfl, og σ' rg.1 (fun j j1 j2 j3 _ j5 j6 => rg.2.1 j j1 j2 j3 j5 j6), a1, um, by rw [rg.2.1 52 (by omega) (by omega) (by omega) (by omega) (by unfold sc84; omega), B84 52 (by omega) (by omega)]; exact g1.2.1 52 (by omega)⟩
  · have h1' : rnl D L 0 (rs0 (σM 86)) = (q', none) := h1
    obtain ⟨h3, hf3⟩ := h3
    unfold mfl vX10_giveBack
    have p17 := m_putBack (σ := σ') (k := 17) (by omega)
    obtain ⟨t1, e1, v1, v2⟩ := p17
    have e1' : vX10_putBack 17 σ' = some t1 := e1
    rw [e1', Option.bind_some]
    refine T_bind (m_gb8 FU 0 t1 (by have := FU_b; omega) (by omega)) (fun t2 w => T_nm ?_)
    obtain ⟨w1, w2, w3, w4, w5, -⟩ := w
    have t85 : up2 t2 84 52 (q' : Int) 85 = σM 85 := by
      rw [up2_o (by omega), w1 85 (by omega) (by omega) (by omega), v1 85 (by omega), h3.1 85 (by omega) (by omega) (by omega) (by omega) (by omega) (by omega) (by omega), Bo 85 (by omega) (by omega) (by omega) (by omega)]
      exact g1.1 85 (by omega) (by omega) (by omega)
    rw [m_told (by omega) (fun _ => by rw [t85]; exact h85), bd2_some]
    have e86 : t2 86 = σM 86 := by
      rw [w1 86 (by omega) (by omega) (by omega), v2]
      refine putR_b (fun i hi => ?_) (fun i hi => ?_)
      · rw [hf3 i hi, B86]
      · have a := h3.2.2 (67 * 17 + i) (by omega) (by omega)
        have b := i2 i hi
        show σ' 89 (67 * 17 + i) = _
        rw [a, B89, ← s186]
        exact b
    refine T_some ⟨fun q2 e => ?_, fun s2' e => ?_⟩
    · rw [h1'] at e
      injection e with e _
      subst e
      refine ⟨rfl, _, rfl, og _ (fun k k1 k2 k3 k4 k5 k6 k7 => ?_) (fun j j1 j2 j3 j4 j5 j6 => ?_), ?_, ?_, ?_⟩
      · rw [up2_o k1, w1 k k1 k3 k4, v1 k k2]; exact h3.1 k k1 k2 k3 k4 k5 k6 k7
      · rw [up2_c, upw_n j4, w2 j j1, v1 84 (by omega)]; exact h3.2.1 j j1 j2 j3 j5 j6
      · rw [up2_o (by omega)]; exact e86
      · refine ⟨by rw [up2_c, upw_n (by omega), w3], hU.2.1, fun i x hx => ?_⟩
        have il : i < L0.length := (List.getElem?_eq_some_iff.mp hx).1
        have l16' := hU.2.1
        obtain ⟨a, b⟩ := hU.2.2 i x hx
        refine ⟨fun j hj => ?_, ?_⟩
        · rw [up2_o (by omega), w5 _ (by omega) (by omega), v1 91 (by omega), h3.1 91 (by omega) (by omega) (by omega) (by omega) (by omega) (by omega) (by omega), B91 _ (by omega), s189]
          exact a j hj
        · rw [up2_o (by omega), w4 i (by omega), v1 92 (by omega), h3.1 92 (by omega) (by omega) (by omega) (by omega) (by omega) (by omega) (by omega), B92 i (by omega), s190]
          exact b
      · rw [up2_c, upw_s]
    · rw [h1'] at e; cases e
