/-! ===== the class runs one order ===== -/
def RCo (K0 : Kt) (σ0 : Sg) (ρ0 : Nat → Int) (o : Option Rst) (p : Int × Kt × Sg) : Prop := match o with | some s' => p.1 = 1 ∧ RC K0 σ0 ρ0 p.2.1 p.2.2 s' | none => p.1 = 0 ∧ RCf K0 σ0 p.2.1 p.2.2
theorem RF_t {ρ ρ' ρ'' : Nat → Int} (h : RF ρ ρ') (h' : RF ρ' ρ'') : RF ρ ρ'' := fun i hi => (h' i hi).trans (h i hi)
noncomputable def stA (D : Int → (Nat → Int) → Option Int) (s : Rst) (kind a b : Int) : Option Rst := if a = BR ∨ b = BR then none else if rfv D s.1 kind a b ≠ 0 then none else some (nwr D s.1 kind a b, s.2.1 ++ [(snap s.1, kind)], s.2.2.1 + 1, if kind < 2 then nwv D s.1 kind a else s.2.2.2)
theorem stp_A {D : Int → (Nat → Int) → Option Int} {s : Rst} {x : Ru} : stp D s x = if cdv x.2.2.2.1 (rsw s) ≠ 1 then some s else stA D s x.1 (opv x.2.1 (rsw s)) (opv x.2.2.1 (rsw s)) := rfl
theorem RC_f {K0 K : Kt} {σ0 σ : Sg} {ρ0 : Nat → Int} {s : Rst} (h : RC K0 σ0 ρ0 K σ s) (l0 : 115 ≤ K0.2.2.1) {k : Nat} (hk : 63 ≤ k ∧ k ≤ 72) : σ k = σ0 k := h.1.2.2.2 k (PR_lo h.1.1 l0 (by omega) (by omega) (by omega) (by omega) (by unfold hC; omega))
theorem c_runs82 {K0 K : Kt} {σ0 σ : Sg} {ρ0 : Nat → Int} {s : Rst} {D : Int → (Nat → Int) → Option Int} {cd : List Int} {L : List Ru} {x : Ru} {q : Nat} {a b : Int} (hK0 : Shp K0) (h2 : σ0 2 6 = 0) (hD : LawC K0 σ0 (σ0 1 5) D) (tx : TxC σ0 cd L) (hx : L[q]? = some x) (hq : q < 12) (hk : 0 ≤ x.1 ∧ x.1 ≤ 3) (hr : RC K0 σ0 ρ0 K σ s) (hb : RsB 100000 s) : T (vX9_runs_82 64 (q : Int) a b K σ) (RCo K0 σ0 ρ0 (stA D s x.1 a b)) := by
  have l0 := hK0.1.2.2
  obtain ⟨⟨hK, kx, rm, sm⟩, hH, hW, hF, hU, d1, d2⟩ := id hr
  obtain ⟨hDK, h2K⟩ := PR_law hK0 hr.1 h2 hD
  have c1 := hK.1.1
  have m65 : (K.2.1 65).2 = 12 := by rw [(lcA_65 c1).2]
  have e65 : σ 65 q = x.1 := by rw [RC_f hr l0 (by omega)]; exact (tx.2.2.2 q x hx).1
  have B : BR = -2000000000 := rfl
  unfold vX9_runs_82 stA
  refine T_ite (fun za => ?_) (fun za => T_ite (fun zb => ?_) (fun zb => ?_))
  · rw [if_pos (show a = BR ∨ b = BR from Or.inl za)]; exact T_some ⟨rfl, hr.1⟩
  · rw [if_pos (show a = BR ∨ b = BR from Or.inr zb)]; exact T_some ⟨rfl, hr.1⟩
  rw [if_neg (by omega), lcR_64_0 c1, Option.bind_some, m65, Int.toNat_natCast, e65]
  refine T_ckP (lcO_64 c1) (T_ckP (lcA_65 c1) (T_ck (by omega) (T_nm (T_ckP (lcO_0 c1) ?_))))
  rw [lcR_0_3 c1, Option.bind_some]
  refine T_ckP (lcO_0 c1) (T_bdIK (c_act (u := 30) (kind := x.1) (a := a) (b := b) hK (Or.inr rfl) hU hH hW h2K hDK hk) (fun r K11 σ12 hp => ?_))
  have rb := rfv_b (D := D) (ρ := s.1) (kind := x.1) (a := a) (b := b)
  rcases hp with ⟨p0, p1, p2, p3⟩ | ⟨p0, p1, p2, p3, p4, p5, p6, p7, p8⟩
  · dsimp only at p1 p2 p3
    rw [if_pos p0]
    refine T_t (by omega) (T_some ⟨rfl, ?_⟩)
    show RCf K0 σ0 K11 σ12
    rw [p2]
    exact RCf_s hr.1 (fun k _ k1 k2 => p3 k (by omega))
  · dsimp only at p1 p2 p3 p4 p5 p6 p7 p8
    rw [if_neg (show ¬ (rfv D s.1 x.1 a b ≠ 0) from fun w => w p0)]
    obtain ⟨n1, n2, n3⟩ := nwr_k hW hk p0
    have c11 := p3.1.1
    have m82 : (K11.2.1 82).2 = 24 := by rw [(lcA_82 c11).2]
    have le : K0.2.2.1 ≤ K.2.2.1 := kx.1
    have e82 : σ12 82 = σ 82 := p6 82 (by omega) (by omega) (by omega) (by unfold hC; omega) (fun w => by
      obtain ⟨i, g, hi, e, g1, g2⟩ := w
      have := (p3.2.2.2.1 i g hi e).2.1
      omega)
    have new : ∀ (σ' : Sg) (lt : Int), (∀ k, k ≠ 82 → σ' k = σ12 k) → σ' 82 1 = s.2.2.1 + 1 → σ' 82 2 = lt → RC K0 σ0 ρ0 K11 σ' (nwr D s.1 x.1 a b, s.2.1 ++ [(snap s.1, x.1)], s.2.2.1 + 1, lt) := by
      intro σ' lt hs v1 v2
      refine ⟨⟨p3, KX_t kx p4, Rm_t rm p8, fun k hk' => ?_⟩, HallIs_s p2 (fun k k1 k2 => hs k (by omega)), n1, RF_t hF n2, ?_, v1, v2⟩
      · have h82 : k ≠ 82 := fun e => hk' (Or.inr (Or.inr (Or.inr (Or.inr (Or.inl e)))))
        have hlt : k < K0.2.2.1 := Nat.lt_of_not_le (fun e => hk' (Or.inr (Or.inr (Or.inr (Or.inr (Or.inr e))))))
        rw [hs k h82, p6 k (by omega) (fun e => hk' (Or.inl e)) (fun e => hk' (Or.inr (Or.inl e))) (fun e => hk' (Or.inr (Or.inr (Or.inl e)))) (fun e => hk' (Or.inr (Or.inr (Or.inr (Or.inl e)))))]
        exact sm k (fun e => hk' (PR_n p4 e))
      · show UC K11 σ' 30 (nwr D s.1 x.1 a b) ((s.2.1 ++ [(snap s.1, x.1)]).foldl pushU [])
        rw [List.foldl_append]
        exact UC_f (UC_s p3 p5 (fun k k1 _ _ => hs k k1)) (RS_w hW n2) rfl rfl rfl (fun _ _ _ _ _ _ _ => rfl)
    rw [lcR_0_10 c11, Option.bind_some, m82, e82, d1]
    have b1 := hb.1
    refine T_f (by omega) (T_ckP (lcO_0 c11) (T_ckP (lcA_82 c11) (T_ck (by omega) (T_ck (by omega) (T_ckP (lcA_82 c11) (T_ck (by omega) (T_nm ?_)))))))
    have fin150 : x.1 < 2 → T (vX9_runs_150 r K11 (up2 σ12 82 1 (s.2.2.1 + 1))) (RCo K0 σ0 ρ0 (some (nwr D s.1 x.1 a b, s.2.1 ++ [(snap s.1, x.1)], s.2.2.1 + 1, if x.1 < 2 then nwv D s.1 x.1 a else s.2.2.2))) := fun w => by
      unfold vX9_runs_150
      rw [lcR_0_10 c11, Option.bind_some, m82]
      refine T_ckP (lcO_0 c11) (T_ckP (lcA_82 c11) (T_ck (by omega) (T_nm (T_some ⟨rfl, new (up2 (up2 σ12 82 1 (s.2.2.1 + 1)) 82 2 r) _ (fun k hk' => by rw [up2_o hk', up2_o hk']) (by rw [up2_c, upw_n (by omega), up2_c, upw_s]) (by rw [up2_c, upw_s, if_pos w, p1])⟩))))
    refine T_ite (fun w => fin150 (by omega)) (fun w => T_ite (fun w2 => fin150 (by omega)) (fun w2 => T_some ⟨rfl, new (up2 σ12 82 1 (s.2.2.1 + 1)) _ (fun k hk' => by rw [up2_o hk']) (by rw [up2_c, upw_s]) (by rw [up2_c, upw_n (by omega), e82, d2, if_neg (by omega)])⟩))
theorem c_runs {K0 K : Kt} {σ0 σ : Sg} {ρ0 : Nat → Int} {s : Rst} {D : Int → (Nat → Int) → Option Int} {cd : List Int} {L : List Ru} {x : Ru} {q : Nat} (hK0 : Shp K0) (h2 : σ0 2 6 = 0) (hD : LawC K0 σ0 (σ0 1 5) D) (tx : TxC σ0 cd L) (hx : L[q]? = some x) (hq : q < 12) (ok : OrdR x) (hr : RC K0 σ0 ρ0 K σ s) (hb : RsB 100000 s) : T (vX9_runs 64 (q : Int) K σ) (RCo K0 σ0 ρ0 (stp D s x)) := by
  have l0 := hK0.1.2.2
  obtain ⟨⟨hK, kx, rm, sm⟩, hH, hW, hF, hU, d1, d2⟩ := id hr
  have c1 := hK.1.1
  have m66 : (K.2.1 66).2 = 12 := by rw [(lcA_66 c1).2]
  have m67 : (K.2.1 67).2 = 12 := by rw [(lcA_67 c1).2]
  have m68 : (K.2.1 68).2 = 12 := by rw [(lcA_68 c1).2]
  obtain ⟨-, x66, x67, x68, -⟩ := tx.2.2.2 q x hx
  have hw : wOk (rsw s) := wOr_k hW (by have := hb.1; omega) hb.2
  have s56 : ∀ (σ3 : Sg) (a : Int), RC K0 σ0 ρ0 K σ3 s → (∀ j : Nat, j < 24 → σ3 82 j = rsw s j) → T (vX9_runs_56 64 (q : Int) a K σ3) (RCo K0 σ0 ρ0 (stA D s x.1 a (opv x.2.2.1 (rsw s)))) := by
    intro σ3 a r3 ww
    have e67 : σ3 67 q = σ0 67 q := by rw [RC_f r3 l0 (by omega)]
    unfold vX9_runs_56
    rw [lcR_64_2 c1, Option.bind_some, m67, Int.toNat_natCast, e67]
    refine T_ckP (lcO_64 c1) (T_ckP (lcA_67 c1) (T_ck (by omega) ?_))
    cases e : x.2.2.1 with
    | none =>
      rw [e] at x67
      exact T_t x67 (c_runs82 hK0 h2 hD tx hx hq ok.1 r3 hb)
    | some E =>
      rw [e] at x67
      obtain ⟨n1, v⟩ := c_valueOf (K := K) c1 tx (RC_f r3 l0 (by omega)) (RC_f r3 l0 (by omega)) x67 hw ww
      refine T_f n1 (T_ckP (lcO_64 c1) ?_)
      rw [Option.bind_some, m67, e67]
      refine T_ckP (lcA_67 c1) (T_ck (by omega) (T_ckP c1 (T_ckP (lcO_0 c1) (T_bd2 v (fun r σ5 hv => ?_)))))
      obtain ⟨v1, v2⟩ := hv
      dsimp only at v1 v2
      rw [v1]
      exact c_runs82 hK0 h2 hD tx hx hq ok.1 (RC_s r3 (fun k _ k1 _ => v2 k (by omega)) (by rw [v2 82 (by omega)]) (by rw [v2 82 (by omega)])) hb
  have s31 : ∀ (σ3 : Sg), RC K0 σ0 ρ0 K σ3 s → (∀ j : Nat, j < 24 → σ3 82 j = rsw s j) → T (vX9_runs_31 64 (q : Int) K σ3) (RCo K0 σ0 ρ0 (stA D s x.1 (opv x.2.1 (rsw s)) (opv x.2.2.1 (rsw s)))) := by
    intro σ3 r3 ww
    have e66 : σ3 66 q = σ0 66 q := by rw [RC_f r3 l0 (by omega)]
    unfold vX9_runs_31
    rw [lcR_64_1 c1, Option.bind_some, m66, Int.toNat_natCast, e66]
    refine T_ckP (lcO_64 c1) (T_ckP (lcA_66 c1) (T_ck (by omega) ?_))
    cases e : x.2.1 with
    | none =>
      rw [e] at x66
      exact T_t x66 (s56 σ3 0 r3 ww)
    | some E =>
      rw [e] at x66
      obtain ⟨n1, v⟩ := c_valueOf (K := K) c1 tx (RC_f r3 l0 (by omega)) (RC_f r3 l0 (by omega)) x66 hw ww
      refine T_f n1 (T_ckP (lcO_64 c1) ?_)
      rw [Option.bind_some, m66, e66]
      refine T_ckP (lcA_66 c1) (T_ck (by omega) (T_ckP c1 (T_ckP (lcO_0 c1) (T_bd2 v (fun r σ5 hv => ?_)))))
      obtain ⟨v1, v2⟩ := hv
      dsimp only at v1 v2
      rw [v1]
      exact s56 σ5 _ (RC_s r3 (fun k _ k1 _ => v2 k (by omega)) (by rw [v2 82 (by omega)]) (by rw [v2 82 (by omega)])) (fun j hj => by rw [v2 82 (by omega)]; exact ww j hj)
  unfold vX9_runs
  refine T_ckP c1 (T_ckP (lcO_0 c1) (T_bind (c_oWords (K := K) hH hW d1 d2) (fun σ3 h3 => ?_)))
  obtain ⟨f3, w3⟩ := h3
  have r3 : RC K0 σ0 ρ0 K σ3 s := RC_s hr (fun k k1 _ _ => f3 k k1) (by rw [w3 1 (by omega), d1]; rfl) (by rw [w3 2 (by omega), d2]; rfl)
  have e68 : σ3 68 q = σ0 68 q := by rw [RC_f r3 l0 (by omega)]
  rw [lcR_64_3 c1, Option.bind_some, m68, Int.toNat_natCast, e68, stp_A]
  refine T_ckP (lcO_64 c1) (T_ckP (lcA_68 c1) (T_ck (by omega) ?_))
  cases e : x.2.2.2.1 with
  | none =>
    rw [e] at x68
    rw [if_neg (show ¬ (cdv none (rsw s) ≠ 1) from fun w => w rfl)]
    exact T_t x68 (s31 σ3 r3 w3)
  | some E =>
    rw [e] at x68
    obtain ⟨n1, v⟩ := c_valueOf (K := K) c1 tx (RC_f r3 l0 (by omega)) (RC_f r3 l0 (by omega)) x68 hw w3
    refine T_f n1 (T_ckP (lcO_64 c1) ?_)
    rw [Option.bind_some, m68, e68]
    refine T_ckP (lcA_68 c1) (T_ck (by omega) (T_ckP c1 (T_ckP (lcO_0 c1) (T_bd2 v (fun r σ5 hv => ?_)))))
    obtain ⟨v1, v2⟩ := hv
    dsimp only at v1 v2
    have r5 : RC K0 σ0 ρ0 K σ5 s := RC_s r3 (fun k _ k1 _ => v2 k (by omega)) (by rw [v2 82 (by omega)]) (by rw [v2 82 (by omega)])
    have cv : cdv (some E) (rsw s) = r := v1.symm
    refine T_ite (fun z => ?_) (fun z => ?_)
    · rw [if_neg (show ¬ (cdv (some E) (rsw s) ≠ 1) from fun w => w (by rw [cv]; exact z))]
      exact s31 σ5 r5 (fun j hj => by rw [v2 82 (by omega)]; exact w3 j hj)
    · rw [if_pos (show cdv (some E) (rsw s) ≠ 1 by rw [cv]; exact z)]
      exact T_some ⟨rfl, r5⟩
