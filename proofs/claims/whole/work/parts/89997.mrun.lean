/-! ===== the reference runs one order ===== -/
def TxM (σ : Sg) (c : Cd) (L : List Ru) : Prop := (∀ k, k < c.2.2 → σ 95 k = c.1 k ∧ σ 96 k = c.2.1 k) ∧ c.2.2 ≤ 400 ∧ σ 84 21 = (L.length : Int) ∧ ∀ q x, L[q]? = some x → MRo σ c q x
def RGr (σM σ : Sg) : Prop := (∀ k, k ≠ 84 → k ≠ 86 → k ≠ 89 → k ≠ 90 → k ≠ 102 → k ≠ 103 → k ≠ 104 → σ k = σM k) ∧ (∀ j, j ≠ 8 → j ≠ 50 → j ≠ 51 → j ≠ 53 → ¬ sc84 j → σ 84 j = σM 84 j) ∧ ∀ j, 1072 ≤ j → j < 1206 → σ 89 j = σM 89 j
def RM (σM : Sg) (L0 : UL) (σ : Sg) (s : Rst) : Prop := (σ 86 = s.1 ∧ WF s.1 ∧ RF (σM 86) s.1) ∧ UM σ (s.2.1.foldl pushU L0) ∧ (σ 84 50 = s.2.2.1 ∧ σ 84 51 = s.2.2.2) ∧ RGr σM σ
def SumF (σ σ' : Sg) : Prop := (∀ k, k ≠ 84 → k ≠ 104 → σ' k = σ k) ∧ ∀ j, j ≠ 38 → j ≠ 39 → j ≠ 53 → σ' 84 j = σ 84 j
theorem SumF_r {σ : Sg} : SumF σ σ := ⟨fun _ _ _ => rfl, fun _ _ _ _ => rfl⟩
theorem SumF_t {σ σ' σ'' : Sg} (h : SumF σ σ') (h' : SumF σ' σ'') : SumF σ σ'' := ⟨fun k a b => (h'.1 k a b).trans (h.1 k a b), fun j a b c => (h'.2 j a b c).trans (h.2 j a b c)⟩
theorem RM_s {σM σ σ' : Sg} {L0 : UL} {s : Rst} (h : RM σM L0 σ s) (hs : SumF σ σ') : RM σM L0 σ' s := by
  obtain ⟨⟨a1, a2, a3⟩, b, ⟨c1, c2⟩, d1, d2, d3⟩ := h
  refine ⟨⟨by rw [hs.1 86 (by omega) (by omega)]; exact a1, a2, a3⟩, UM_f b (hs.2 8 (by omega) (by omega) (by omega)) (fun j _ => by rw [hs.1 89 (by omega) (by omega)]) (hs.1 90 (by omega) (by omega)), ⟨by rw [hs.2 50 (by omega) (by omega) (by omega)]; exact c1, by rw [hs.2 51 (by omega) (by omega) (by omega)]; exact c2⟩, fun k k1 k2 k3 k4 k5 k6 k7 => by rw [hs.1 k k1 k7]; exact d1 k k1 k2 k3 k4 k5 k6 k7, fun j j1 j2 j3 j4 j5 => by rw [hs.2 j (fun e => j5 (by unfold sc84; omega)) (fun e => j5 (by unfold sc84; omega)) j4]; exact d2 j j1 j2 j3 j4 j5, fun j j1 j2 => by rw [hs.1 89 (by omega) (by omega)]; exact d3 j j1 j2⟩
def sOut (e : Option Xp) (w : Nat → Int) (p : Int × Sg) : Prop := match e with | none => p.1 = -1 ∧ p.2 84 53 = 0 | some E => (E w = BR → p.2 84 53 = 1) ∧ (E w ≠ BR → p.2 84 53 = 0 ∧ p.1 = E w)
theorem m_sumOf {σ : Sg} {c : Cd} {e : Option Xp} {p : Nat} {dn lt : Int} (hp : p < 95) (h53 : σ 84 53 = 0) (h20 : σ 84 20 = 0) (hW : WF (σ 86)) (hm : MlE 1 c (σ 113 p) (σ 113 (p + 1)) e) (hcd : ∀ k, k < c.2.2 → σ 95 k = c.1 k ∧ σ 96 k = c.2.1 k) (hc4 : c.2.2 ≤ 400) (hww : ∀ j : Nat, j < 4 → σ 103 (j + 1) = wOr (σ 86) dn lt j) (hw : wOk (wOr (σ 86) dn lt)) (hE : ∀ E, e = some E → EOk E) : T (vX10_sumOf (p : Int) σ) (fun r => SumF σ r.2 ∧ sOut e (wOr (σ 86) dn lt) r) := by
  unfold vX10_sumOf
  rw [show (p : Int) + 1 = ((p + 1 : Nat) : Int) by omega, Int.toNat_natCast, Int.toNat_natCast]
  refine T_t h53 (T_ck (by omega) (T_ck (by omega) (T_ck (by omega) ?_)))
  cases e with
  | none =>
    have hm' : σ 113 p = σ 113 (p + 1) := hm
    exact T_t hm' (T_some ⟨SumF_r, rfl, h53⟩)
  | some E =>
    obtain ⟨lo, hi, l, e1, e2, sg, hl, hh⟩ := hm
    have lh := sg.1.1
    refine T_f (by omega) (T_nm (T_ck (by omega) (T_ck (by omega) (T_ck (by omega) ?_))))
    have o : ∀ k, k ≠ 84 → up2 σ 84 20 1 k = σ k := fun k hk => up2_o hk
    rw [o 113 (by omega), e1, e2]
    have md : Md 1 (wOr (σ 86) dn lt) c.1 c.2.1 lo hi (up2 σ 84 20 1) := by
      have := md_ord (lo := lo) (hi := hi) (σ := up2 σ 84 20 1) (op := c.1) (ar := c.2.1) (dn := dn) (lt := lt) (by omega) (by rw [o 86 (by omega)]; exact hW) (by rw [up2_c, upw_s]) (fun k hk => by rw [o 95 (by omega), o 96 (by omega)]; exact hcd k (by omega)) (fun j hj => by rw [o 103 (by omega), o 86 (by omega)]; exact hww j hj)
      rw [o 86 (by omega)] at this
      exact this
    refine T_bind (m_reckon md sg hw hl (by omega)) (fun σ4 h4 => ?_)
    obtain ⟨s1, s2, s3, s4⟩ := h4
    have g38 : up2 σ4 84 20 0 84 38 = σ4 84 38 := by rw [up2_c, upw_n (by omega)]
    have r38 : σ4 84 38 = 0 ∨ σ4 84 38 = 1 := by
      by_cases z : E (wOr (σ 86) dn lt) = BR
      · exact Or.inr (s3 z)
      · exact Or.inl (s4 z).1
    refine T_nm (T_ck (by rw [g38]; exact r38) (T_nm (T_some ⟨⟨fun k k1 k2 => ?_, fun j j1 j2 j3 => ?_⟩, fun z => ?_, fun z => ⟨?_, ?_⟩⟩)))
    · dsimp only; rw [up2_o k1, up2_o k1, s1 k (by omega), o k k1]
    · dsimp only
      rw [up2_c, upw_n j3, up2_c]
      by_cases z : j = 20
      · rw [z, upw_s, h20]
      · rw [upw_n z, s2 j j1 j2, up2_c, upw_n z]
    · dsimp only; rw [up2_c, upw_s, g38]; exact s3 z
    · dsimp only; rw [up2_c, upw_s, g38]; exact (s4 z).1
    · dsimp only
      rw [up2_c, upw_n (by omega), up2_c, upw_n (by omega), (s4 z).2]
      have := hE E rfl _ hw
      refine w32_id ?_
      rcases this with q | q
      · exact absurd q z
      · omega
theorem bd2_eta {v : Option (Int × Sg)} : bd2 v (fun r s => some (r, s)) = v := by
  cases v with
  | none => rfl
  | some p => rfl
theorem m_actE {kind a b : Int} {σ : Sg} : vX10_act kind a b σ = mAct kind a b σ := by
  unfold vX10_act mAct
  rw [bd2_eta, bd2_eta, bd2_eta, bd2_eta]
def RMo (σM : Sg) (L0 : UL) (o : Option Rst) (p : Int × Sg) : Prop := match o with | some s' => p.1 = 0 ∧ RM σM L0 p.2 s' | none => p.1 = -3 ∧ RGr σM p.2 ∧ RF (σM 86) (p.2 86)
theorem m_run94 {σM σ : Sg} {L0 : UL} {s : Rst} {D : Int → (Nat → Int) → Option Int} {c : Cd} {L : List Ru} {x : Ru} {q : Nat} (hD : LawM (σM 86) D) (h20 : σM 84 20 = 0) (tx : TxM σM c L) (hx : L[q]? = some x) (hq : q < 12) (ok : OrdR x) (hr : RM σM L0 σ s) (hb : RsB 100000 s) (h53 : σ 84 53 = 0) (hww : ∀ j : Nat, j < 4 → σ 103 (j + 1) = rsw s j) : T (vX10_run_94 ((8 * q : Nat) : Int) σ) (RMo σM L0 (stA D s x.1 (opv x.2.1 (rsw s)) (opv x.2.2.1 (rsw s)))) := by
  obtain ⟨⟨a1, a2, a3⟩, um, ⟨c1, c2⟩, rg⟩ := id hr
  have hw : wOk (rsw s) := wOr_k a2 (by have := hb.1; omega) hb.2
  obtain ⟨m0, m1, m2, m3, m7⟩ := tx.2.2.2 q x hx
  obtain ⟨k1, k2, k3, -⟩ := ok
  have g : ∀ k, k ≠ 84 → k ≠ 86 → k ≠ 89 → k ≠ 90 → k ≠ 102 → k ≠ 103 → k ≠ 104 → σ k = σM k := rg.1
  have B : BR = -2000000000 := rfl
  unfold vX10_run_94
  rw [show ((8 * q : Nat) : Int) + 1 = ((8 * q + 1 : Nat) : Int) by omega, show ((8 * q : Nat) : Int) + 3 = ((8 * q + 3 : Nat) : Int) by omega]
  have hA : ∀ E, x.2.1 = some E → EOk E := fun E e => by
    by_cases z : x.1 = 3
    · rw [k2.1 z] at e; cases e
    · obtain ⟨E', e', o'⟩ := k2.2 z
      rw [e] at e'; injection e' with e'; rw [e']; exact o'
  have hB : ∀ E, x.2.2.1 = some E → EOk E := fun E e => by
    by_cases z : x.1 = 0 ∨ x.1 = 2
    · obtain ⟨E', e', o'⟩ := k3.1 z
      rw [e] at e'; injection e' with e'; rw [e']; exact o'
    · rw [k3.2 (by omega)] at e; cases e
  refine T_ck (by omega) (T_bd2 (m_sumOf (c := c) (e := x.2.1) (dn := s.2.2.1) (lt := s.2.2.2) (by omega) h53 (by rw [rg.2.1 20 (by omega) (by omega) (by omega) (by omega) (by unfold sc84; omega)]; exact h20) (by rw [a1]; exact a2) (by rw [g 113 (by omega) (by omega) (by omega) (by omega) (by omega) (by omega) (by omega)]; exact m1) (fun k hk => by rw [g 95 (by omega) (by omega) (by omega) (by omega) (by omega) (by omega) (by omega), g 96 (by omega) (by omega) (by omega) (by omega) (by omega) (by omega) (by omega)]; exact tx.1 k hk) tx.2.1 (fun j hj => by rw [a1]; exact hww j hj) (by rw [a1]; exact hw) hA) (fun r1 σ2 h2 => ?_))
  obtain ⟨f2, o2⟩ := h2
  dsimp only at f2
  rw [a1] at o2
  have o2' : sOut x.2.1 (rsw s) (r1, σ2) := o2
  have hr2 := RM_s hr f2
  have rg2 := hr2.2.2.2
  have bad : ∀ σ4, RGr σM σ4 → RF (σM 86) (σ4 86) → σ4 84 53 ≠ 0 → ∀ r3, T (if (σ4 84 53) = 0 then (ck (0 ≤ ((8 * q : Nat) : Int) ∧ ((8 * q : Nat) : Int) < 96) (bd2 (vX10_act (σ4 113 ((8 * q : Nat) : Int).toNat) r1 r3 σ4) (fun r6 σ7 => if r6 < 0 then (some ((-3), σ7)) else (ck (0 ≤ ((8 * q : Nat) : Int) ∧ ((8 * q : Nat) : Int) < 96) (if (σ7 113 ((8 * q : Nat) : Int).toNat) < 2 then (vX10_run_162 r6 σ7) else (vX10_run_162 (σ7 84 51) σ7)))))) else (some ((-3), σ4))) (RMo σM L0 none) := fun σ4 hg hf hz r3 => T_f hz (T_some ⟨rfl, hg, hf⟩)
  refine T_ck (by omega) ?_
  by_cases za : opv x.2.1 (rsw s) = BR
  · have z53 : σ2 84 53 = 1 := by
      cases e : x.2.1 with
      | none => rw [e] at za; have : (0 : Int) = BR := za; omega
      | some E => rw [e] at za o2'; exact o2'.1 za
    have : vX10_sumOf ((8 * q + 3 : Nat) : Int) σ2 = some (-1, σ2) := by unfold vX10_sumOf; rw [if_neg (by omega)]
    rw [this, bd2_some]
    unfold stA
    rw [if_pos (show opv x.2.1 (rsw s) = BR ∨ opv x.2.2.1 (rsw s) = BR from Or.inl za)]
    exact bad σ2 rg2 (by rw [hr2.1.1]; exact a3) (by omega) (-1)
  have z53 : σ2 84 53 = 0 := by
    cases e : x.2.1 with
    | none => rw [e] at o2'; exact o2'.2
    | some E => rw [e] at za o2'; exact (o2'.2 za).1
  have g2 : ∀ k, k ≠ 84 → k ≠ 104 → σ2 k = σ k := f2.1
  have a12 : σ2 86 = s.1 := by rw [g2 86 (by omega) (by omega)]; exact a1
  refine T_bd2 (m_sumOf (c := c) (e := x.2.2.1) (dn := s.2.2.1) (lt := s.2.2.2) (by omega) z53 (by rw [rg2.2.1 20 (by omega) (by omega) (by omega) (by omega) (by unfold sc84; omega)]; exact h20) (by rw [a12]; exact a2) (by rw [g2 113 (by omega) (by omega), g 113 (by omega) (by omega) (by omega) (by omega) (by omega) (by omega) (by omega)]; exact m2) (fun k hk => by rw [g2 95 (by omega) (by omega), g2 96 (by omega) (by omega), g 95 (by omega) (by omega) (by omega) (by omega) (by omega) (by omega) (by omega), g 96 (by omega) (by omega) (by omega) (by omega) (by omega) (by omega) (by omega)]; exact tx.1 k hk) tx.2.1 (fun j hj => by rw [a12, g2 103 (by omega) (by omega)]; exact hww j hj) (by rw [a12]; exact hw) hB) (fun r3 σ4 h4 => ?_)
  obtain ⟨f4, o4⟩ := h4
  dsimp only at f4
  rw [a12] at o4
  have o4' : sOut x.2.2.1 (rsw s) (r3, σ4) := o4
  have hr4 := RM_s hr2 f4
  obtain ⟨⟨e1, -, -⟩, um4, ⟨u1, u2⟩, rg4⟩ := id hr4
  by_cases zb : opv x.2.2.1 (rsw s) = BR
  · have z : σ4 84 53 = 1 := by
      cases e : x.2.2.1 with
      | none => rw [e] at zb; have : (0 : Int) = BR := zb; omega
      | some E => rw [e] at zb o4'; exact o4'.1 zb
    unfold stA
    rw [if_pos (show opv x.2.1 (rsw s) = BR ∨ opv x.2.2.1 (rsw s) = BR from Or.inr zb)]
    exact bad σ4 rg4 (by rw [e1]; exact a3) (by omega) r3
  have z : σ4 84 53 = 0 := by
    cases e : x.2.2.1 with
    | none => rw [e] at o4'; exact o4'.2
    | some E => rw [e] at zb o4'; exact (o4'.2 zb).1
  unfold stA
  rw [if_neg (show ¬ (opv x.2.1 (rsw s) = BR ∨ opv x.2.2.1 (rsw s) = BR) from fun w => w.elim za zb)]
  have e113 : σ4 113 (8 * q) = x.1 := by rw [f4.1 113 (by omega) (by omega), g2 113 (by omega) (by omega), g 113 (by omega) (by omega) (by omega) (by omega) (by omega) (by omega) (by omega)]; exact m0
  refine T_t z (T_ck (by omega) ?_)
  rw [Int.toNat_natCast, e113, m_actE]
  have ea : x.1 ≠ 3 → r1 = opv x.2.1 (rsw s) := fun w => by
    obtain ⟨E, e, -⟩ := k2.2 w
    rw [e] at za o2' ⊢
    exact (o2'.2 za).2
  have eb : x.1 = 0 ∨ x.1 = 2 → r3 = opv x.2.2.1 (rsw s) := fun w => by
    obtain ⟨E, e, -⟩ := k3.1 w
    rw [e] at zb o4' ⊢
    exact (o4'.2 zb).2
  have em : mAct x.1 r1 r3 σ4 = mAct x.1 (opv x.2.1 (rsw s)) (opv x.2.2.1 (rsw s)) σ4 := by
    unfold mAct
    by_cases w0 : x.1 = 0
    · rw [if_pos w0, if_pos w0, ea (by omega), eb (by omega)]
    · rw [if_neg w0, if_neg w0]
      by_cases w1 : x.1 = 1
      · rw [if_pos w1, if_pos w1, ea (by omega)]
      · rw [if_neg w1, if_neg w1]
        by_cases w2 : x.1 = 2
        · rw [if_pos w2, if_pos w2, ea (by omega), eb (by omega)]
        · rw [if_neg w2, if_neg w2]
  rw [em]
  refine T_bd2 (m_act (D := D) (L := s.2.1.foldl pushU L0) (by rw [e1]; exact a2) (by rw [e1]; exact LawM_p hD (a3 3 (by omega)) (fun i hi => a3 i (by omega))) (by rw [rg4.2.1 20 (by omega) (by omega) (by omega) (by omega) (by unfold sc84; omega)]; exact h20) um4 k1) (fun r6 σ7 h7 => ?_)
  rcases h7 with ⟨p0, p1, p2, p3⟩ | ⟨p0, p1, p2, p3, p4⟩
  · dsimp only at p1 p2 p3
    rw [e1] at p0 p1
    have rb := rfv_b (D := D) (ρ := s.1) (kind := x.1) (a := opv x.2.1 (rsw s)) (b := opv x.2.2.1 (rsw s))
    rw [if_pos p0]
    refine T_t (by omega) (T_some ⟨rfl, ?_, by dsimp only; rw [p3, e1]; exact a3⟩)
    refine ⟨fun k j1 j2 j3 j4 j5 j6 j7 => ?_, fun j j1 j2 j3 j4 j5 => ?_, fun j j1 j2 => ?_⟩ <;> dsimp only
    · rw [p2.1 k j1 j2 j3 j5 j7]; exact rg4.1 k j1 j2 j3 j4 j5 j6 j7
    · rw [p2.2.1 j j5]; exact rg4.2.1 j j1 j2 j3 j4 j5
    · rw [p2.2.2 j (by omega)]; exact rg4.2.2 j j1 j2
  · dsimp only at p1 p2 p3 p4
    rw [e1] at p0 p1 p2 p4
    obtain ⟨n1, n2, n3⟩ := nwr_k a2 k1 p0
    rw [if_neg (show ¬ (rfv D s.1 x.1 (opv x.2.1 (rsw s)) (opv x.2.2.1 (rsw s)) ≠ 0) from fun w => w p0)]
    have e7 : σ7 113 (8 * q) = x.1 := by rw [p3.1 113 (by omega) (by omega) (by omega) (by omega) (by omega) (by omega)]; exact e113
    refine T_f (by omega) (T_ck (by omega) ?_)
    rw [e7]
    have s50 : σ7 84 50 = s.2.2.1 := by rw [p3.2.1 50 (by omega) (by unfold sc84; omega)]; exact u1
    have s51 : σ7 84 51 = s.2.2.2 := by rw [p3.2.1 51 (by omega) (by unfold sc84; omega)]; exact u2
    have b1 := hb.1
    have fin : ∀ v, T (vX10_run_162 v σ7) (RMo σM L0 (some (nwr D s.1 x.1 (opv x.2.1 (rsw s)) (opv x.2.2.1 (rsw s)), s.2.1 ++ [(snap s.1, x.1)], s.2.2.1 + 1, v))) := fun v => by
      unfold vX10_run_162
      have t50 : up2 σ7 84 51 v 84 50 = s.2.2.1 := by rw [up2_c, upw_n (by omega)]; exact s50
      refine T_nm ?_
      rw [t50]
      refine T_ck (by omega) (T_nm (T_some ⟨rfl, ⟨?_, n1, RF_t a3 n2⟩, ?_, ⟨?_, ?_⟩, fun k j1 j2 j3 j4 j5 j6 j7 => ?_, fun j j1 j2 j3 j4 j5 => ?_, fun j j1 j2 => ?_⟩)) <;> dsimp only
      · rw [up2_o (by omega), up2_o (by omega)]; exact p2
      · rw [List.foldl_append]
        exact UM_f p4 (by rw [up2_c, upw_n (by omega), up2_c, upw_n (by omega)]) (fun j _ => by rw [up2_o (by omega), up2_o (by omega)]) (by rw [up2_o (by omega), up2_o (by omega)])
      · rw [up2_c, upw_s]
      · rw [up2_c, upw_n (by omega), up2_c, upw_s]
      · rw [up2_o j1, up2_o j1, p3.1 k j1 j2 j3 j4 j5 j7]; exact rg4.1 k j1 j2 j3 j4 j5 j6 j7
      · rw [up2_c, upw_n j2, up2_c, upw_n j3, p3.2.1 j j1 j5]; exact rg4.2.1 j j1 j2 j3 j4 j5
      · rw [up2_o (by omega), up2_o (by omega), p3.2.2 j j1 j2]; exact rg4.2.2 j j1 j2
    refine T_ite (fun w => ?_) (fun w => ?_)
    · rw [if_pos w, ← p1]; exact fin r6
    · rw [if_neg w, s51]; exact fin _
theorem m_run {σM σ : Sg} {L0 : UL} {s : Rst} {D : Int → (Nat → Int) → Option Int} {c : Cd} {L : List Ru} {x : Ru} {q : Nat} (hD : LawM (σM 86) D) (h20 : σM 84 20 = 0) (tx : TxM σM c L) (hx : L[q]? = some x) (hq : q < 12) (ok : OrdR x) (hr : RM σM L0 σ s) (hb : RsB 100000 s) : T (vX10_run ((8 * q : Nat) : Int) σ) (RMo σM L0 (stp D s x)) := by
  obtain ⟨⟨a1, a2, a3⟩, um, ⟨c1, c2⟩, rg⟩ := id hr
  have hw : wOk (rsw s) := wOr_k a2 (by have := hb.1; omega) hb.2
  obtain ⟨m0, m1, m2, m3, m7⟩ := tx.2.2.2 q x hx
  have g : ∀ k, k ≠ 84 → k ≠ 86 → k ≠ 89 → k ≠ 90 → k ≠ 102 → k ≠ 103 → k ≠ 104 → σ k = σM k := rg.1
  have B : BR = -2000000000 := rfl
  unfold vX10_run vX10_term
  rw [a1, show ((4 : Int) + 0).toNat = 4 from rfl, ck_p (by omega), ck_p (by omega), Option.bind_some]
  refine T_nm (T_nm (T_nm (T_nm (T_nm ?_))))
  generalize hA : up2 (up2 (up2 (up2 (up2 σ 103 1 (s.1 4)) 103 2 (up2 σ 103 1 (s.1 4) 84 50)) 103 3 (up2 (up2 σ 103 1 (s.1 4)) 103 2 (up2 σ 103 1 (s.1 4) 84 50) 84 51)) 103 4 (up2 (up2 (up2 σ 103 1 (s.1 4)) 103 2 (up2 σ 103 1 (s.1 4) 84 50)) 103 3 (up2 (up2 σ 103 1 (s.1 4)) 103 2 (up2 σ 103 1 (s.1 4) 84 50) 84 51) 86 8)) 84 53 0 = A
  have Ao : ∀ k, k ≠ 84 → k ≠ 103 → A k = σ k := fun k k1 k2 => by rw [← hA, up2_o k1, up2_o k2, up2_o k2, up2_o k2, up2_o k2]
  have A84 : ∀ j, j ≠ 53 → A 84 j = σ 84 j := fun j hj => by rw [← hA, up2_c, upw_n hj, up2_o (by omega), up2_o (by omega), up2_o (by omega), up2_o (by omega)]
  have A53 : A 84 53 = 0 := by rw [← hA, up2_c, upw_s]
  have Aw : ∀ j : Nat, j < 4 → A 103 (j + 1) = rsw s j := fun j hj => by
    rw [← hA, up2_o (by omega), up2_c, up2_o (show (86 : Nat) ≠ 103 by omega), up2_o (show (86 : Nat) ≠ 103 by omega), up2_o (show (86 : Nat) ≠ 103 by omega), up2_c, up2_o (show (84 : Nat) ≠ 103 by omega), up2_o (show (84 : Nat) ≠ 103 by omega), up2_c, up2_c, c1, up2_o (show (84 : Nat) ≠ 103 by omega), c2, a1]
    have : j = 0 ∨ j = 1 ∨ j = 2 ∨ j = 3 := by omega
    rcases this with e | e | e | e <;> subst e
    · rw [upw_n (by omega), upw_n (by omega), upw_n (by omega), upw_s]; rfl
    · rw [upw_n (by omega), upw_n (by omega), upw_s]; rfl
    · rw [upw_n (by omega), upw_s]; rfl
    · rw [upw_s]; rfl
  have rA : RM σM L0 A s := by
    refine ⟨⟨by rw [Ao 86 (by omega) (by omega)]; exact a1, a2, a3⟩, UM_f um (A84 8 (by omega)) (fun j _ => by rw [Ao 89 (by omega) (by omega)]) (Ao 90 (by omega) (by omega)), ⟨by rw [A84 50 (by omega)]; exact c1, by rw [A84 51 (by omega)]; exact c2⟩, fun k k1 k2 k3 k4 k5 k6 k7 => by rw [Ao k k1 k6]; exact rg.1 k k1 k2 k3 k4 k5 k6 k7, fun j j1 j2 j3 j4 j5 => by rw [A84 j j4]; exact rg.2.1 j j1 j2 j3 j4 j5, fun j j1 j2 => by rw [Ao 89 (by omega) (by omega)]; exact rg.2.2 j j1 j2⟩
  have A113 : A 113 = σM 113 := by rw [Ao 113 (by omega) (by omega)]; exact g 113 (by omega) (by omega) (by omega) (by omega) (by omega) (by omega) (by omega)
  rw [show ((8 * q : Nat) : Int) + 5 = ((8 * q + 5 : Nat) : Int) by omega, show ((8 * q : Nat) : Int) + 6 = ((8 * q + 6 : Nat) : Int) by omega, Int.toNat_natCast, Int.toNat_natCast, A113, stp_A]
  refine T_ck (by omega) (T_ck (by omega) (T_ck (by omega) (T_ck (by omega) ?_)))
  cases e : x.2.2.2.1 with
  | none =>
    rw [e] at m3
    have m3' : σM 113 (8 * q + 5) = σM 113 (8 * q + 6) := m3
    rw [if_neg (show ¬ (cdv none (rsw s) ≠ 1) from fun w => w rfl)]
    exact T_f (by omega) (m_run94 hD h20 tx hx hq ok rA hb A53 Aw)
  | some E =>
    rw [e] at m3
    have lt : σM 113 (8 * q + 5) < σM 113 (8 * q + 6) := by
      obtain ⟨lo, hi, l, e1, e2, sg, -⟩ := m3
      have := sg.1.1
      omega
    have aA : A 86 = s.1 := rA.1.1
    refine T_t lt (T_ck (by omega) (T_bd2 (m_sumOf (c := c) (e := some E) (dn := s.2.2.1) (lt := s.2.2.2) (by omega) A53 (by rw [rA.2.2.2.2.1 20 (by omega) (by omega) (by omega) (by omega) (by unfold sc84; omega)]; exact h20) (by rw [aA]; exact a2) (by rw [A113]; exact m3) (fun k hk => by rw [rA.2.2.2.1 95 (by omega) (by omega) (by omega) (by omega) (by omega) (by omega) (by omega), rA.2.2.2.1 96 (by omega) (by omega) (by omega) (by omega) (by omega) (by omega) (by omega)]; exact tx.1 k hk) tx.2.1 (fun j hj => by rw [aA]; exact Aw j hj) (by rw [aA]; exact hw) (fun E' z => by injection z with z; rw [← z]; exact TOk_e (ok.2.2.2.1 E e))) (fun r8 σ9 h9 => ?_)))
    obtain ⟨f9, o9⟩ := h9
    dsimp only at f9
    rw [aA] at o9
    have o9' : (E (rsw s) = BR → σ9 84 53 = 1) ∧ (E (rsw s) ≠ BR → σ9 84 53 = 0 ∧ r8 = E (rsw s)) := o9
    have r9 := RM_s rA f9
    have tv := ok.2.2.2.1 E e (rsw s) hw
    by_cases z : E (rsw s) = BR
    · have := o9'.1 z
      rw [if_pos (show cdv (some E) (rsw s) ≠ 1 from fun w => by have w' : E (rsw s) = 1 := w; omega)]
      exact T_f (by omega) (T_some ⟨rfl, r9⟩)
    · obtain ⟨y1, y2⟩ := o9'.2 z
      refine T_t y1 (T_ite (fun w => ?_) (fun w => ?_))
      · rw [if_pos (show cdv (some E) (rsw s) ≠ 1 from fun w2 => by have w' : E (rsw s) = 1 := w2; omega)]
        exact T_some ⟨rfl, r9⟩
      · have w1 : E (rsw s) = 1 := by
          rcases tv with t | t | t
          · omega
          · exact t
          · exact absurd t z
        rw [if_neg (show ¬ (cdv (some E) (rsw s) ≠ 1) from fun w2 => w2 w1)]
        exact m_run94 hD h20 tx hx hq ok r9 hb y1 (fun j hj => by rw [f9.1 103 (by omega) (by omega)]; exact Aw j hj)
