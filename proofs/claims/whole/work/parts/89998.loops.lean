/-! ===== all orders are run ===== -/
noncomputable def rpt (D : Int → (Nat → Int) → Option Int) (x : Ru) : Nat → Rst → Option Rst
  | 0, s => some s
  | n + 1, s => (stp D s x).bind (rpt D x n)
noncomputable def rnl (D : Int → (Nat → Int) → Option Int) : List Ru → Nat → Rst → Nat × Option Rst
  | [], q, s => (q, some s)
  | x :: L, q, s => (rpt D x x.2.2.2.2.toNat s).elim (q, none) (fun s' => rnl D L (q + 1) s')
theorem stp_b {D : Int → (Nat → Int) → Option Int} {s s' : Rst} {x : Ru} {m : Int} (hW : WF s.1) (hk : 0 ≤ x.1 ∧ x.1 ≤ 3) (hb : RsB m s) (h : stp D s x = some s') : RsB (m + 1) s' := by
  obtain ⟨⟨b1, b2⟩, b3, b4⟩ := hb
  unfold stp at h
  by_cases q1 : cdv x.2.2.2.1 (rsw s) ≠ 1
  · rw [if_pos q1] at h
    injection h with h
    rw [← h]
    exact ⟨⟨b1, by omega⟩, b3, b4⟩
  · rw [if_neg q1] at h
    by_cases q2 : opv x.2.1 (rsw s) = BR ∨ opv x.2.2.1 (rsw s) = BR
    · rw [if_pos q2] at h; cases h
    · rw [if_neg q2] at h
      by_cases q3 : rfv D s.1 x.1 (opv x.2.1 (rsw s)) (opv x.2.2.1 (rsw s)) ≠ 0
      · rw [if_pos q3] at h; cases h
      · rw [if_neg q3] at h
        injection h with h
        obtain ⟨-, -, n3⟩ := nwr_k hW hk (Classical.not_not.mp q3)
        rw [← h]
        refine ⟨⟨by dsimp only; omega, by dsimp only; omega⟩, ?_⟩
        dsimp only
        split
        · omega
        · omega
noncomputable def ofl (x2 : Int) (K15 : Kt) (σ16 : Sg) : Option (Int × Kt × Sg) := ckP (IsC K15 0 9) ((K15.1 0 1).bind (fun t19 => ckP (IsC K15 0 9) ((K15.1 0 4).bind (fun t21 => ckP (hallAt K15 t19) (ckP (hallAt K15 t21) (ckP (IsC K15 t19 1) ((vX1_copyFrom K15 t19 t21 σ16).bind (fun σ25 => ckP (IsC K15 0 9) (nm (up2 σ25 0 13 x2) (fun σ27 => ckP (cLay K15) (ckP (IsC K15 0 9) (bd2 (vX9_refuse K15 (-3) σ27) (fun r30 σ31 => some (r30, K15, σ31))))))))))))))
noncomputable def oend (K : Kt) (σ : Sg) : Option (Int × Kt × Sg) := ckP (IsC K 0 9) ((K.1 0 2).bind (fun t8 => ckP (IsC K 0 9) ((K.1 0 3).bind (fun t10 => ckP (IsC K t8 8) (bdVK (vX8_addAll t8 t10 K σ) (fun K12 σ13 => ckP (IsC K12 0 9) ((K12.1 0 10).bind (fun t15 => ckP (IsA K12 t15 20 (K12.2.1 t15).2) (ck (0 ≤ (1 : Int) ∧ (1 : Int) < ((K12.2.1 t15).2 : Int)) (ckP (cLay K12) (ckP (IsC K12 0 9) (bd2 (vX9_grant K12 (σ13 t15 1) σ13) (fun r19 σ20 => some (r19, K12, σ20))))))))))))))
theorem c_83 {K0 : Kt} {σ0 : Sg} {ρ0 : Nat → Int} {D : Int → (Nat → Int) → Option Int} {cd : List Int} {L : List Ru} {x : Ru} {q : Nat} {rec : Int → Kt → Sg → Option (Int × Kt × Sg)} {Q : Int × Kt × Sg → Prop} (hK0 : Shp K0) (h2 : σ0 2 6 = 0) (hD : LawC K0 σ0 (σ0 1 5) D) (tx : TxC σ0 cd L) (hx : L[q]? = some x) (hq : q < 12) (ok : OrdR x) : ∀ (n f : Nat) (K : Kt) (σ : Sg) (s : Rst) (m : Int), n < f → n ≤ x.2.2.2.2.toNat → RC K0 σ0 ρ0 K σ s → RsB m s → m + (n : Int) ≤ 100000 → (∀ K' σ' s', rpt D x n s = some s' → RC K0 σ0 ρ0 K' σ' s' → RsB (m + (n : Int)) s' → T (rec ((q : Int) + 1) K' σ') Q) → (rpt D x n s = none → ∀ K' σ', RCf K0 σ0 K' σ' → T (ofl (q : Int) K' σ') Q) → T (vX9_orders_83 rec f (q : Int) ((x.2.2.2.2.toNat - n : Nat) : Int) K σ) Q := by
  have t20 := ok.2.2.2.2
  have l0 := hK0.1.2.2
  have step : ∀ (f : Nat) (z : Int) (K : Kt) (σ : Sg) (s : Rst), RC K0 σ0 ρ0 K σ s → vX9_orders_83 rec (f + 1) (q : Int) z K σ = if z < x.2.2.2.2 then bdIK (vX9_runs 64 (q : Int) K σ) (fun r14 K15 σ16 => if r14 = 0 then ofl (q : Int) K15 σ16 else ck (in32 (z + 1)) (vX9_orders_83 rec f (q : Int) (z + 1) K15 σ16)) else ck (in32 ((q : Int) + 1)) (rec ((q : Int) + 1) K σ) := by
    intro f z K σ s hr
    have c1 := hr.1.1.1.1
    have m69 : (K.2.1 69).2 = 12 := by rw [(lcA_69 c1).2]
    have e69 : σ 69 q = x.2.2.2.2 := by rw [RC_f hr l0 (by omega)]; exact (tx.2.2.2 q x hx).2.2.2.2
    rw [vX9_orders_83, ckP_p (lcO_0 c1), lcR_0_7 c1, Option.bind_some, ckP_p (lcO_63 c1), lcR_63_1 c1, Option.bind_some, ckP_p (lcO_64 c1), lcR_64_4 c1, Option.bind_some, m69, ckP_p (lcA_69 c1), ck_p (by omega), Int.toNat_natCast, e69]
    rw [ckP_p (lcO_0 c1), Option.bind_some, ckP_p (lcO_63 c1), lcR_63_1 c1, Option.bind_some, ckP_p (lcO_0 c1)]
    rfl
  intro n
  induction n with
  | zero =>
    intro f K σ s m hf hn hr hb hm cont _
    obtain ⟨f, rfl⟩ : ∃ f', f = f' + 1 := ⟨f - 1, by omega⟩
    rw [step f _ K σ s hr]
    refine T_f (by omega) (T_ck (by omega) (cont K σ s rfl hr ?_))
    rw [show m + ((0 : Nat) : Int) = m by omega]
    exact hb
  | succ n ih =>
    intro f K σ s m hf hn hr hb hm cont fail
    obtain ⟨f, rfl⟩ : ∃ f', f = f' + 1 := ⟨f - 1, by omega⟩
    rw [step f _ K σ s hr]
    have hb' : RsB 100000 s := ⟨⟨hb.1.1, by have := hb.1.2; omega⟩, hb.2⟩
    refine T_t (by omega) (T_bdIK (c_runs hK0 h2 hD tx hx hq ok hr hb') (fun r K15 σ16 ho => ?_))
    cases e : stp D s x with
    | none =>
      rw [e] at ho
      exact T_t ho.1 (fail (by rw [rpt, e]; rfl) K15 σ16 ho.2)
    | some s1 =>
      rw [e] at ho
      have e1 : r = 1 := ho.1
      have rn : rpt D x (n + 1) s = rpt D x n s1 := by rw [rpt, e]; rfl
      refine T_f (by omega) (T_ck (by omega) ?_)
      rw [show ((x.2.2.2.2.toNat - (n + 1) : Nat) : Int) + 1 = ((x.2.2.2.2.toNat - n : Nat) : Int) by omega]
      refine ih f K15 σ16 s1 (m + 1) (by omega) (by omega) ho.2 (stp_b hr.2.2.1 ok.1 hb e) (by omega) (fun K' σ' s' h1 h2' h3 => cont K' σ' s' (by rw [rn]; exact h1) h2' ?_) (fun h1 => fail (by rw [rn]; exact h1))
      rw [show m + ((n + 1 : Nat) : Int) = m + 1 + (n : Int) by omega]
      exact h3
theorem c_67 {K0 : Kt} {σ0 : Sg} {ρ0 : Nat → Int} {D : Int → (Nat → Int) → Option Int} {cd : List Int} {L : List Ru} {Q : Int × Kt × Sg → Prop} (hK0 : Shp K0) (h2 : σ0 2 6 = 0) (hD : LawC K0 σ0 (σ0 1 5) D) (tx : TxC σ0 cd L) (hL : L.length ≤ 12) (hok : ∀ x ∈ L, OrdR x) : ∀ (L2 L1 : List Ru) (f : Nat) (K : Kt) (σ : Sg) (s : Rst) (m : Int), L = L1 ++ L2 → L2.length < f → RC K0 σ0 ρ0 K σ s → RsB m s → m + 20 * (L2.length : Int) ≤ 100000 → (∀ K' σ' s', (rnl D L2 L1.length s).2 = some s' → RC K0 σ0 ρ0 K' σ' s' → RsB 100000 s' → T (oend K' σ') Q) → (∀ q' K' σ', rnl D L2 L1.length s = (q', none) → q' < 12 → RCf K0 σ0 K' σ' → T (ofl (q' : Int) K' σ') Q) → T (vX9_orders_67 f (L1.length : Int) K σ) Q := by
  have l0 := hK0.1.2.2
  intro L2
  induction L2 with
  | nil =>
    intro L1 f K σ s m hL' hf hr hb hm eok _
    obtain ⟨f, rfl⟩ : ∃ f', f = f' + 1 := ⟨f - 1, by omega⟩
    have c1 := hr.1.1.1.1
    have e6 : σ 64 6 = (L.length : Int) := by rw [RC_f hr l0 (by omega)]; exact tx.2.2.1
    rw [List.append_nil] at hL'
    have el : L.length = L1.length := by rw [hL']
    rw [vX9_orders_67, ckP_p (lcO_0 c1), lcR_0_7 c1, Option.bind_some, ckP_p (lcO_63 c1), lcR_63_1 c1, Option.bind_some, ckP_p (lcO_64 c1), e6, if_neg (by omega)]
    have b100 : RsB 100000 s := ⟨⟨hb.1.1, by have := hb.1.2; have : ((([] : List Ru).length : Nat) : Int) = 0 := rfl; omega⟩, hb.2⟩
    exact eok K σ s rfl hr b100
  | cons x L2 ih =>
    intro L1 f K σ s m hL' hf hr hb hm eok efail
    obtain ⟨f, rfl⟩ : ∃ f', f = f' + 1 := ⟨f - 1, by omega⟩
    have c1 := hr.1.1.1.1
    have e6 : σ 64 6 = (L.length : Int) := by rw [RC_f hr l0 (by omega)]; exact tx.2.2.1
    have el : L.length = L1.length + (L2.length + 1) := by rw [hL', List.length_append, List.length_cons]
    have hx : L[L1.length]? = some x := by rw [hL', List.getElem?_append_right (Nat.le_refl _), Nat.sub_self]; rfl
    have ok := hok x (List.mem_of_getElem? hx)
    have t20 := ok.2.2.2.2
    have lc : ((x :: L2).length : Int) = (L2.length : Int) + 1 := by rw [List.length_cons]; omega
    have lf' : L2.length + 1 < f + 1 := by rw [List.length_cons] at hf; exact hf
    rw [lc] at hm
    rw [vX9_orders_67, ckP_p (lcO_0 c1), lcR_0_7 c1, Option.bind_some, ckP_p (lcO_63 c1), lcR_63_1 c1, Option.bind_some, ckP_p (lcO_64 c1), e6, if_pos (by omega)]
    have z0 : (0 : Int) = ((x.2.2.2.2.toNat - x.2.2.2.2.toNat : Nat) : Int) := by omega
    rw [z0]
    refine c_83 hK0 h2 hD tx hx (by omega) ok x.2.2.2.2.toNat FU K σ s m (by have := FU_b; omega) (Nat.le_refl _) hr hb (by omega) (fun K' σ' s' h1 h3 h4 => ?_) (fun h1 K' σ' h3 => efail L1.length K' σ' ?_ (by omega) h3)
    · have hl1 : (L1 ++ [x]).length = L1.length + 1 := by rw [List.length_append, List.length_singleton]
      have rn : rnl D (x :: L2) L1.length s = rnl D L2 (L1 ++ [x]).length s' := by
        rw [rnl, h1, hl1]; rfl
      have := ih (L1 ++ [x]) f K' σ' s' (m + (x.2.2.2.2.toNat : Int)) (by rw [hL', List.append_assoc]; rfl) (by omega) h3 h4 (by omega) (fun K2 σ2 s2 g1 g2 g3 => eok K2 σ2 s2 (by rw [rn]; exact g1) g2 g3) (fun q' K2 σ2 g1 g2 g3 => efail q' K2 σ2 (by rw [rn]; exact g1) g2 g3)
      rw [hl1, show ((L1.length + 1 : Nat) : Int) = (L1.length : Int) + 1 by omega] at this
      exact this
    · rw [rnl, h1]; rfl
/-! the reference -/
noncomputable def mfl (x1 x2 : Int) (σ3 : Sg) : Option (Int × Sg) := (vX10_giveBack x1 σ3).bind (fun σ5 => nm (up2 σ5 84 52 x2) (fun σ6 => bd2 (vX10_tell (-3) σ6) (fun r7 σ8 => some (r7, σ8))))
noncomputable def mend (σ : Sg) : Option (Int × Sg) := bd2 (vX10_tell (σ 84 50) σ) (fun r2 σ3 => some (r2, σ3))
theorem m_150 {σM : Sg} {L0 : UL} {D : Int → (Nat → Int) → Option Int} {c : Cd} {L : List Ru} {x : Ru} {q : Nat} {x1 : Int} {rec : Int → Int → Sg → Option (Int × Sg)} {Q : Int × Sg → Prop} (hD : LawM (σM 86) D) (h20 : σM 84 20 = 0) (tx : TxM σM c L) (hx : L[q]? = some x) (hq : q < 12) (ok : OrdR x) : ∀ (n f : Nat) (σ : Sg) (s : Rst) (m : Int), n < f → n ≤ x.2.2.2.2.toNat → RM σM L0 σ s → RsB m s → m + (n : Int) ≤ 100000 → (∀ σ' s', rpt D x n s = some s' → RM σM L0 σ' s' → RsB (m + (n : Int)) s' → T (rec x1 ((q : Int) + 1) σ') Q) → (rpt D x n s = none → ∀ σ', RGr σM σ' ∧ RF (σM 86) (σ' 86) → T (mfl x1 (q : Int) σ') Q) → T (vX10_orders_150 rec f x1 (q : Int) ((x.2.2.2.2.toNat - n : Nat) : Int) σ) Q := by
  have t20 := ok.2.2.2.2
  have step : ∀ (f : Nat) (z : Int) (σ : Sg) (s : Rst), RM σM L0 σ s → vX10_orders_150 rec (f + 1) x1 (q : Int) z σ = if z < x.2.2.2.2 then bd2 (vX10_run ((8 * q : Nat) : Int) σ) (fun r2 σ3 => if r2 < 0 then mfl x1 (q : Int) σ3 else ck (in32 (z + 1)) (vX10_orders_150 rec f x1 (q : Int) (z + 1) σ3)) else ck (in32 ((q : Int) + 1)) (rec x1 ((q : Int) + 1) σ) := by
    intro f z σ s hr
    have e : σ 113 (8 * q + 7) = x.2.2.2.2 := by rw [hr.2.2.2.1 113 (by omega) (by omega) (by omega) (by omega) (by omega) (by omega) (by omega)]; exact (tx.2.2.2 q x hx).2.2.2.2
    rw [vX10_orders_150, ck_p (by omega), ck_p (by omega), ck_p (by omega), show 8 * (q : Int) = ((8 * q : Nat) : Int) by omega, show ((8 * q : Nat) : Int) + 7 = ((8 * q + 7 : Nat) : Int) by omega, Int.toNat_natCast, e, ck_p (by omega)]
    rfl
  intro n
  induction n with
  | zero =>
    intro f σ s m hf hn hr hb hm cont _
    obtain ⟨f, rfl⟩ : ∃ f', f = f' + 1 := ⟨f - 1, by omega⟩
    rw [step f _ σ s hr]
    refine T_f (by omega) (T_ck (by omega) (cont σ s rfl hr ?_))
    rw [show m + ((0 : Nat) : Int) = m by omega]
    exact hb
  | succ n ih =>
    intro f σ s m hf hn hr hb hm cont fail
    obtain ⟨f, rfl⟩ : ∃ f', f = f' + 1 := ⟨f - 1, by omega⟩
    rw [step f _ σ s hr]
    have hb' : RsB 100000 s := ⟨⟨hb.1.1, by have := hb.1.2; omega⟩, hb.2⟩
    refine T_t (by omega) (T_bd2 (m_run hD h20 tx hx hq ok hr hb') (fun r σ3 ho => ?_))
    cases e : stp D s x with
    | none =>
      rw [e] at ho
      have e3 : r = -3 := ho.1
      exact T_t (by omega) (fail (by rw [rpt, e]; rfl) σ3 ho.2)
    | some s1 =>
      rw [e] at ho
      have e1 : r = 0 := ho.1
      have rn : rpt D x (n + 1) s = rpt D x n s1 := by rw [rpt, e]; rfl
      refine T_f (by omega) (T_ck (by omega) ?_)
      rw [show ((x.2.2.2.2.toNat - (n + 1) : Nat) : Int) + 1 = ((x.2.2.2.2.toNat - n : Nat) : Int) by omega]
      refine ih f σ3 s1 (m + 1) (by omega) (by omega) ho.2 (stp_b hr.1.2.1 ok.1 hb e) (by omega) (fun σ' s' h1 h2' h3 => cont σ' s' (by rw [rn]; exact h1) h2' ?_) (fun h1 => fail (by rw [rn]; exact h1))
      rw [show m + ((n + 1 : Nat) : Int) = m + 1 + (n : Int) by omega]
      exact h3
theorem m_140 {σM : Sg} {L0 : UL} {D : Int → (Nat → Int) → Option Int} {c : Cd} {L : List Ru} {x1 : Int} {Q : Int × Sg → Prop} (hD : LawM (σM 86) D) (h20 : σM 84 20 = 0) (tx : TxM σM c L) (hL : L.length ≤ 12) (hok : ∀ x ∈ L, OrdR x) : ∀ (L2 L1 : List Ru) (f : Nat) (σ : Sg) (s : Rst) (m : Int), L = L1 ++ L2 → L2.length < f → RM σM L0 σ s → RsB m s → m + 20 * (L2.length : Int) ≤ 100000 → (∀ σ' s', (rnl D L2 L1.length s).2 = some s' → RM σM L0 σ' s' → RsB 100000 s' → T (mend σ') Q) → (∀ q' σ', rnl D L2 L1.length s = (q', none) → q' < 12 → RGr σM σ' ∧ RF (σM 86) (σ' 86) → T (mfl x1 (q' : Int) σ') Q) → T (vX10_orders_140 f x1 (L1.length : Int) σ) Q := by
  intro L2
  induction L2 with
  | nil =>
    intro L1 f σ s m hL' hf hr hb hm eok _
    obtain ⟨f, rfl⟩ : ∃ f', f = f' + 1 := ⟨f - 1, by omega⟩
    have e6 : σ 84 21 = (L.length : Int) := by rw [hr.2.2.2.2.1 21 (by omega) (by omega) (by omega) (by omega) (by unfold sc84; omega)]; exact tx.2.2.1
    rw [List.append_nil] at hL'
    have el : L.length = L1.length := by rw [hL']
    rw [vX10_orders_140, e6, if_neg (by omega)]
    have b100 : RsB 100000 s := ⟨⟨hb.1.1, by have := hb.1.2; have : ((([] : List Ru).length : Nat) : Int) = 0 := rfl; omega⟩, hb.2⟩
    exact eok σ s rfl hr b100
  | cons x L2 ih =>
    intro L1 f σ s m hL' hf hr hb hm eok efail
    obtain ⟨f, rfl⟩ : ∃ f', f = f' + 1 := ⟨f - 1, by omega⟩
    have e6 : σ 84 21 = (L.length : Int) := by rw [hr.2.2.2.2.1 21 (by omega) (by omega) (by omega) (by omega) (by unfold sc84; omega)]; exact tx.2.2.1
    have el : L.length = L1.length + (L2.length + 1) := by rw [hL', List.length_append, List.length_cons]
    have hx : L[L1.length]? = some x := by rw [hL', List.getElem?_append_right (Nat.le_refl _), Nat.sub_self]; rfl
    have ok := hok x (List.mem_of_getElem? hx)
    have t20 := ok.2.2.2.2
    have lc : ((x :: L2).length : Int) = (L2.length : Int) + 1 := by rw [List.length_cons]; omega
    have lf' : L2.length + 1 < f + 1 := by rw [List.length_cons] at hf; exact hf
    rw [lc] at hm
    rw [vX10_orders_140, e6, if_pos (by omega)]
    have z0 : (0 : Int) = ((x.2.2.2.2.toNat - x.2.2.2.2.toNat : Nat) : Int) := by omega
    rw [z0]
    refine m_150 hD h20 tx hx (by omega) ok x.2.2.2.2.toNat FU σ s m (by have := FU_b; omega) (Nat.le_refl _) hr hb (by omega) (fun σ' s' h1 h3 h4 => ?_) (fun h1 σ' h3 => efail L1.length σ' ?_ (by omega) h3)
    · have hl1 : (L1 ++ [x]).length = L1.length + 1 := by rw [List.length_append, List.length_singleton]
      have rn : rnl D (x :: L2) L1.length s = rnl D L2 (L1 ++ [x]).length s' := by
        rw [rnl, h1, hl1]; rfl
      have := ih (L1 ++ [x]) f σ' s' (m + (x.2.2.2.2.toNat : Int)) (by rw [hL', List.append_assoc]; rfl) (by omega) h3 h4 (by omega) (fun σ2 s2 g1 g2 g3 => eok σ2 s2 (by rw [rn]; exact g1) g2 g3) (fun q' σ2 g1 g2 g3 => efail q' σ2 (by rw [rn]; exact g1) g2 g3)
      rw [hl1, show ((L1.length + 1 : Nat) : Int) = (L1.length : Int) + 1 by omega] at this
      exact this
    · rw [rnl, h1]; rfl
