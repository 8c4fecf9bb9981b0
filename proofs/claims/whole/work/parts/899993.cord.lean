/-! ===== the class's orders, once they are read ===== -/
theorem hall_33 {K : Kt} (h : cLay K) : hallAt K 33 := (hPre_33 h).2.1
theorem LwO_0 {K : Kt} (hc : cLay K) (hx : txs K 9) : LwO K (fun k => k = 0) := by
  refine ⟨⟨by omega, by omega, fun j t hj e c => ?_⟩, fun i q hi e => ⟨fun c => ?_, fun j t hj e' c => ?_⟩⟩
  · have r0 := lcR_2_0 hc; have r1 := lcR_2_1 hc; have r2 := lcR_2_2 hc; have r3 := lcR_2_3 hc; have r4 := lcR_2_4 hc; have r5 := lcR_2_5 hc
    match j with
    | 0 => rw [r0] at e; injection e; omega
    | 1 => rw [r1] at e; injection e; omega
    | 2 => rw [r2] at e; injection e; omega
    | 3 => rw [r3] at e; injection e; omega
    | 4 => rw [r4] at e; injection e; omega
    | 5 => rw [r5] at e; injection e; omega
    | j + 6 => omega
  · have := (hx i q hi e).2; omega
  · have h2 := hx i q hi e
    have h3 := (h2.1.2 j hj).1
    rw [e'] at h3
    injection h3
    omega
def OR (K0 : Kt) (σ : Sg) (r : Int) (ρ' : Nat → Int) (L' : UL) (v : Int) (p : Int × Kt × Sg) : Prop := p.1 = r ∧ ∃ σ', p.2.2 = anC r σ' ∧ (Shp p.2.1 ∧ KY K0 p.2.1 ∧ Rm K0 p.2.1) ∧ (HallIs σ' 13 ρ' ∧ WF ρ' ∧ RF (σ 86) ρ') ∧ UC p.2.1 σ' 27 ρ' L' ∧ (∀ k, k < K0.2.2.1 → ¬ hC 13 k → k ≠ 0 → k ≠ 27 → k ≠ 29 → k ≠ 30 → k ≠ 32 → ¬ (33 ≤ k ∧ k ≤ 46) → k ≠ 61 → ¬ (63 ≤ k ∧ k ≤ 72) → k ≠ 82 → ¬ uc p.2.1 k → σ' k = σ k) ∧ (∀ j, j ≠ 13 → σ' 0 j = σ 0 j) ∧ σ' 0 13 = v ∧ σ' 61 = upw (σ 61) 1 0 ∧ σ' 63 2 = -1
theorem PR_u {K0 K : Kt} {k g i : Nat} (hK : Shp K) (hK0 : Shp K0) (kx : KX 31 K0 K) (hi : i < 16) (e : K0.1 28 i = some g) (h1 : g ≤ k) (h2 : k ≤ g + 13) : ¬ PR K0 K k := by
  have uh := hK0.2.2.1 i g hi e
  have l0 := hK0.1.2.2
  have hl := hl_lt uh.1
  have e' : K.1 28 i = some g := by rw [kx.2.2.1 28 i (by omega) (by omega)]; exact e
  have uh' := hK.2.2.1 i g hi e'
  intro h
  rcases h with h | h | h | ⟨j, y, hj, e2, a, b⟩ | h | h
  · have := uh.2.1; omega
  · have := uh.2.1; omega
  · have := uh.2.1; unfold hC at h; omega
  · have ne : g ≠ y := fun w => hK.2.2.2.2.2.2.1 i j g hi hj e' (by rw [w]; exact e2)
    exact hh_dis uh'.1 (hK.2.2.2.1 j y hj e2).1 ne k h1 h2 ⟨a, b⟩
  · have := uh.2.1; omega
  · omega
theorem UC_27 {K0 K : Kt} {σ0 σ : Sg} {ρ0 ρ : Nat → Int} {L0 : UL} (hK0 : Shp K0) (h : UC K0 σ0 27 ρ0 L0) (hf : RCf K0 σ0 K σ) (hs : RS ρ0 ρ) : UC K σ 27 ρ L0 := by
  obtain ⟨hK, kx, -, sm⟩ := hf
  have l0 := hK0.1.2.2
  have u := UC_f (K := K0) (σ' := σ) h hs (by rw [sm 27 (PR_lo hK l0 (by omega) (by omega) (by omega) (by omega) (by unfold hC; omega))]) (by rw [sm 27 (PR_lo hK l0 (by omega) (by omega) (by omega) (by omega) (by unfold hC; omega))]) (sm (27 + 2) (PR_lo hK l0 (by omega) (by omega) (by omega) (by omega) (by unfold hC; omega))) (fun i g hi e k k1 k2 => sm k (PR_u hK hK0 kx hi e k1 k2))
  obtain ⟨u3, u4, u5, u6⟩ := u
  refine ⟨u3, u4, u5, fun i x hx => ?_⟩
  obtain ⟨g, e, r⟩ := u6 i x hx
  exact ⟨g, by rw [kx.2.2.1 (27 + 1) _ (by omega) (by omega)]; exact e, r⟩
/-- how the state in which running begins lies to the one of the call -/
def OB (σ σ0 : Sg) : Prop := (∀ k, k ≠ 0 → k ≠ 30 → ¬ (33 ≤ k ∧ k ≤ 46) → k ≠ 61 → ¬ (63 ≤ k ∧ k ≤ 72) → k ≠ 82 → σ0 k = σ k) ∧ (∀ j, j ≠ 13 → σ0 0 j = σ 0 j) ∧ σ0 0 13 = -1 ∧ σ0 61 = upw (σ 61) 1 0 ∧ σ0 63 2 = -1
theorem c_ofl {K0 K : Kt} {σ σ0 σ1 : Sg} {L0 : UL} {q : Int} (hK0 : Shp K0) (hb : OB σ σ0) (hW : WF (σ 86)) (h33 : HallIs σ0 33 (σ 86)) (hU : UC K0 σ0 27 (σ 86) L0) (hf : RCf K0 σ0 K σ1) (h83 : 0 ≤ σ 83 3 ∧ σ 83 3 ≤ 600) : T (ofl q K σ1) (OR K0 σ (-3) (σ 86) L0 q) := by
  obtain ⟨hK, kx, rm, sm⟩ := id hf
  have l0 := hK0.1.2.2
  have c1 := hK.1.1
  have S : ∀ k, k < 115 → k ≠ 30 → k ≠ 32 → k ≠ 82 → ¬ hC 13 k → σ1 k = σ0 k := fun k k0 k1 k2 k3 k4 => sm k (PR_lo hK l0 k0 k1 k2 k3 k4)
  have h33' : HallIs σ1 33 (σ 86) := HallIs_s h33 (fun k k1 k2 => S k (by omega) (by omega) (by omega) (by omega) (by unfold hC; omega))
  unfold ofl
  rw [lcR_0_1 c1, Option.bind_some]
  refine T_ckP (lcO_0 c1) (T_ckP (lcO_0 c1) ?_)
  rw [lcR_0_4 c1, Option.bind_some]
  refine T_ckP (hall13 c1).1 (T_ckP (hall_33 c1) (T_ckP (hall13 c1).1.1 (T_bind (c_copyFrom (K := K) (σ := σ1) (o := 13) (o2 := 33) (by omega)) (fun σ25 h25 => ?_))))
  obtain ⟨f25, H25⟩ := h25
  have e83 : up2 σ25 0 13 q 83 = σ 83 := by rw [up2_o (by omega), f25 83 (by omega), S 83 (by omega) (by omega) (by omega) (by omega) (by unfold hC; omega), hb.1 83 (by omega) (by omega) (by omega) (by omega) (by omega) (by omega)]
  refine T_ckP (lcO_0 c1) (T_nm (T_ckP c1 (T_ckP (lcO_0 c1) ?_)))
  rw [c_refuse (by omega) (by rw [e83]; exact h83), bd2_some]
  have F : ∀ k, k ≠ 0 → ¬ (13 ≤ k ∧ k ≤ 26) → up2 σ25 0 13 q k = σ1 k := fun k k0 k1 => by rw [up2_o k0, f25 k k1]
  have uc27 : UC K (up2 σ25 0 13 q) 27 (σ 86) L0 := by
    refine UC_f (UC_27 hK0 hU hf (RS_w hW (fun _ _ => rfl))) (RS_w hW (fun _ _ => rfl)) (by rw [F 27 (by omega) (by omega)]) (by rw [F 27 (by omega) (by omega)]) (F (27 + 2) (by omega) (by omega)) (fun i g hi e k k1 k2 => ?_)
    have := (hK.2.2.1 i g hi e).2.1
    exact F k (by omega) (by omega)
  refine T_some ⟨rfl, up2 σ25 0 13 q, rfl, ⟨hK, KY_x (Or.inr rfl) l0 kx, rm⟩, ⟨HallIs_s (H25 _ h33') (fun k k1 k2 => by rw [up2_o (by omega)]), hW, fun _ _ => rfl⟩, uc27, fun k k0 k1 k2 k3 k4 k5 k6 k7 k8 k9 k10 k11 => ?_, fun j hj => ?_, by rw [up2_c, upw_s], ?_, ?_⟩
  · dsimp only at k11
    rw [F k k2 (by unfold hC at k1; omega), sm k (fun h => ?_), hb.1 k k2 k5 k7 k8 k9 k10]
    rcases h with h | h | h | ⟨i, y, hi, e2, a, b⟩ | h | h
    · exact k5 h
    · exact k6 h
    · exact k1 h
    · exact k11 ⟨i, y, hi, Or.inr e2, a, b⟩
    · exact k10 h
    · omega
  · rw [up2_c, upw_n hj, f25 0 (by omega), S 0 (by omega) (by omega) (by omega) (by omega) (by unfold hC; omega), hb.2.1 j hj]
  · rw [F 61 (by omega) (by omega), S 61 (by omega) (by omega) (by omega) (by omega) (by unfold hC; omega)]; exact hb.2.2.2.1
  · rw [F 63 (by omega) (by omega), S 63 (by omega) (by omega) (by omega) (by omega) (by unfold hC; omega)]; exact hb.2.2.2.2
theorem c_oend {K0 K : Kt} {σ σ0 σ1 : Sg} {L0 : UL} {s : Rst} (hK0 : Shp K0) (hb : OB σ σ0) (hW : WF (σ 86)) (hU : UC K0 σ0 27 (σ 86) L0) (hr : RC K0 σ0 (σ 86) K σ1 s) (hbd : RsB 100000 s) : T (oend K σ1) (OR K0 σ s.2.2.1 s.1 (s.2.1.foldl pushU L0) (-1)) := by
  obtain ⟨⟨hK, kx, rm, sm⟩, hH, hWs, hF, hU30, d1, d2⟩ := id hr
  have l0 := hK0.1.2.2
  have c1 := hK.1.1
  have S : ∀ k, k < 115 → k ≠ 30 → k ≠ 32 → k ≠ 82 → ¬ hC 13 k → σ1 k = σ0 k := fun k k0 k1 k2 k3 k4 => sm k (PR_lo hK l0 k0 k1 k2 k3 k4)
  unfold oend
  rw [lcR_0_2 c1, Option.bind_some]
  refine T_ckP (lcO_0 c1) (T_ckP (lcO_0 c1) ?_)
  rw [lcR_0_3 c1, Option.bind_some]
  refine T_ckP (lcO_27 c1) (T_bdVK (c_addAll hK hU30 (UC_27 hK0 hU hr.1 (RS_w hW hF))) (fun K12 σ13 h12 => ?_))
  obtain ⟨p1, p2, p3, p4, p5⟩ := h12
  dsimp only at p1 p2 p3 p4 p5
  have l1 : 115 ≤ K.2.2.1 := hK.1.2.2
  have lo : ∀ k, k < 115 → ¬ ucA K12 28 k := fun k hk w => by
    obtain ⟨i, g, hi, e, g1, g2⟩ := w
    have := (p1.2.2.1 i g hi e).2.1
    omega
  have S13 : ∀ k, k < 115 → k ≠ 27 → k ≠ 29 → σ13 k = σ1 k := fun k k0 k1 k2 => p4 k (by omega) k1 k2 (lo k k0)
  have c12 := p1.1.1
  have m82 : (K12.2.1 82).2 = 24 := by rw [(lcA_82 c12).2]
  have e82 : σ13 82 1 = s.2.2.1 := by rw [S13 82 (by omega) (by omega) (by omega)]; exact d1
  refine T_ckP (lcO_0 c12) ?_
  rw [lcR_0_10 c12, Option.bind_some, m82, e82]
  refine T_ckP (lcA_82 c12) (T_ck (by omega) (T_ckP c12 (T_ckP (lcO_0 c12) ?_)))
  rw [c_grant hbd.1.1, bd2_some]
  refine T_some ⟨rfl, σ13, rfl, ⟨p1, KY_t (KY_x (Or.inr rfl) l0 kx) (KY_x (Or.inl rfl) l1 p2), Rm_t rm p5⟩, ⟨HallIs_s hH (fun k k1 k2 => S13 k (by omega) (by omega) (by omega)), hWs, hF⟩, ?_, fun k k0 k1 k2 k3 k4 k5 k6 k7 k8 k9 k10 k11 => ?_, fun j hj => ?_, ?_, ?_, ?_⟩
  · rw [← fold_m (xs := s.2.1) hU.2.2.1]; exact p3
  · dsimp only at k11
    rw [p4 k (by have := kx.1; omega) k3 k4 (fun w => by
      obtain ⟨i, g, hi, e, g1, g2⟩ := w
      exact k11 ⟨i, g, hi, Or.inl e, g1, g2⟩), sm k (fun h => ?_), hb.1 k k2 k5 k7 k8 k9 k10]
    rcases h with h | h | h | ⟨i, y, hi, e2, a, b⟩ | h | h
    · exact k5 h
    · exact k6 h
    · exact k1 h
    · exact k11 ⟨i, y, hi, Or.inr (by rw [p2.2.2.1 31 i (by omega) (by omega)]; exact e2), a, b⟩
    · exact k10 h
    · omega
  · rw [S13 0 (by omega) (by omega) (by omega), S 0 (by omega) (by omega) (by omega) (by omega) (by unfold hC; omega), hb.2.1 j hj]
  · rw [S13 0 (by omega) (by omega) (by omega), S 0 (by omega) (by omega) (by omega) (by omega) (by unfold hC; omega)]; exact hb.2.2.1
  · rw [S13 61 (by omega) (by omega) (by omega), S 61 (by omega) (by omega) (by omega) (by omega) (by unfold hC; omega)]; exact hb.2.2.2.1
  · rw [S13 63 (by omega) (by omega) (by omega), S 63 (by omega) (by omega) (by omega) (by omega) (by unfold hC; omega)]; exact hb.2.2.2.2
def OCl (D : Int → (Nat → Int) → Option Int) (K0 : Kt) (σ : Sg) (L0 : UL) (L : List Ru) (p : Int × Kt × Sg) : Prop :=
  (∀ q', rnl D L 0 (rs0 (σ 86)) = (q', none) → OR K0 σ (-3) (σ 86) L0 (q' : Int) p) ∧ ∀ s', (rnl D L 0 (rs0 (σ 86))).2 = some s' → OR K0 σ s'.2.2.1 s'.1 (s'.2.1.foldl pushU L0) (-1) p ∧ RsB 100000 s'
theorem c_orders {K : Kt} {σ σ6 σC : Sg} {r : Int} {N j l : Nat} {cd : List Int} {L : List Ru} {L0 : UL} {D : Int → (Nat → Int) → Option Int} (hK : Shp K) (hW : WF (σ 86)) (hH : HallIs σ 13 (σ 86)) (h2 : σ 2 6 = 0) (hD : LawC K σ (σ 1 5) D) (hU : UC K σ 27 (σ 86) L0) (h83 : 0 ≤ σ 83 3 ∧ σ 83 3 ≤ 600) (hp : vX4_reads K 0 σ = some (r, σ6)) (hr1 : r = 1) (bg : CBg σ σC) (hN : N ≤ 400) (cl : CL 24 N σC σ6 j l cd L) (hL : L.length ≤ 12) (hok : ∀ x ∈ L, OrdR x) : T (vX9_orders K σ) (OCl D K σ L0 L) := by
  have c1 := hK.1.1
  have l0 := hK.1.2.2
  have g6 : ∀ k, k < 63 ∨ 72 < k → σ6 k = σ k := fun k hk => by rw [cl.2.2.1.1 k (by omega), bg.1 k (by omega) (by omega) (by omega) (by omega)]
  have m82 : (K.2.1 82).2 = 24 := by rw [(lcA_82 c1).2]
  unfold vX9_orders
  rw [lcR_0_7 c1, Option.bind_some, hp, bd2_some, lcR_0_6 c1, Option.bind_some]
  refine T_ckP (lcO_0 c1) (T_ckP ⟨c1, rfl⟩ (T_ckP (lcO_63 c1) (T_ckP (lcO_0 c1) (T_ckP (lcO_61 c1) (T_nm (T_ckP (lcO_0 c1) (T_nm (T_f (by omega) (T_ckP (lcO_0 c1) ?_)))))))))
  rw [lcR_0_4 c1, Option.bind_some]
  refine T_ckP (lcO_0 c1) ?_
  rw [lcR_0_1 c1, Option.bind_some]
  generalize hA : up2 (up2 σ6 61 1 0) 0 13 (-1) = A
  have Ao : ∀ k, k ≠ 0 → k ≠ 61 → A k = σ6 k := fun k k0 k1 => by rw [← hA, up2_o k0, up2_o k1]
  refine T_ckP (hall_33 c1) (T_ckP (hall13 c1).1 (T_ckP (hall_33 c1).1 (T_bind (c_copyFrom (K := K) (σ := A) (o := 33) (o2 := 13) (by omega)) (fun σ25 h25 => ?_))))
  obtain ⟨f25, H25⟩ := h25
  refine T_ckP (lcO_0 c1) ?_
  rw [lcR_0_3 c1, Option.bind_some]
  refine T_ckP (uAt_30 c1) (T_ckP (lcO_30 c1) ?_)
  unfold vX8_forget
  rw [nm_eq, nm_eq, Option.bind_some]
  refine T_ckP (lcO_0 c1) ?_
  rw [lcR_0_10 c1, Option.bind_some, m82]
  refine T_ckP (lcA_82 c1) (T_ck (by omega) (T_nm (T_ckP (lcO_0 c1) ?_)))
  rw [Option.bind_some, m82]
  refine T_ckP (lcA_82 c1) (T_ck (by omega) (T_nm ?_))
  generalize hB : up2 (up2 (up2 (up2 σ25 30 2 0) 30 3 0) 82 1 0) 82 2 (-1) = σ0
  have Bo : ∀ k, k ≠ 30 → k ≠ 82 → σ0 k = σ25 k := fun k k0 k1 => by rw [← hB, up2_o k1, up2_o k1, up2_o k0, up2_o k0]
  have Co : ∀ k, k ≠ 30 → k ≠ 82 → ¬ (33 ≤ k ∧ k ≤ 46) → k ≠ 0 → k ≠ 61 → σ0 k = σ6 k := fun k k0 k1 k2 k3 k4 => by rw [Bo k k0 k1, f25 k k2, Ao k k3 k4]
  have hH6 : HallIs A 13 (σ 86) := HallIs_s hH (fun k k1 k2 => by rw [Ao k (by omega) (by omega), g6 k (by omega)])
  have ob : OB σ σ0 := by
    refine ⟨fun k k0 k1 k2 k3 k4 k5 => by rw [Co k k1 k5 k2 k0 k3, g6 k (by omega)], fun j hj => ?_, ?_, ?_, ?_⟩
    · rw [Bo 0 (by omega) (by omega), f25 0 (by omega), ← hA, up2_c, upw_n hj, up2_o (by omega), g6 0 (by omega)]
    · rw [Bo 0 (by omega) (by omega), f25 0 (by omega), ← hA, up2_c, upw_s]
    · rw [Bo 61 (by omega) (by omega), f25 61 (by omega), ← hA, up2_o (by omega), up2_c, g6 61 (by omega)]
    · rw [Co 63 (by omega) (by omega) (by omega) (by omega) (by omega)]; exact cl.1.2.1.2.2.2
  have e1 : σ0 1 = σ 1 := ob.1 1 (by omega) (by omega) (by omega) (by omega) (by omega) (by omega)
  have e2 : σ0 2 = σ 2 := ob.1 2 (by omega) (by omega) (by omega) (by omega) (by omega) (by omega)
  have hD0 : LawC K σ0 (σ0 1 5) D := by
    rw [e1]
    refine LawC_s (P := fun k => k = 0 ∨ (9 ≤ k ∧ k < 115 ∧ ¬ k < 27)) hD (fun k hk => ob.1 k (by omega) (by omega) (by omega) (by omega) (by omega) (by omega)) ?_
    exact LwO_or (LwO_0 c1 hK.2.1) (LwO_lo c1 hK.2.1 (fun k hk => by omega))
  have h33 : HallIs σ0 33 (σ 86) := HallIs_s (H25 _ hH6) (fun k k1 k2 => Bo k (by omega) (by omega))
  have hU0 : UC K σ0 27 (σ 86) L0 := by
    refine UC_f hU (RS_w hW (fun _ _ => rfl)) (by rw [ob.1 27 (by omega) (by omega) (by omega) (by omega) (by omega) (by omega)]) (by rw [ob.1 27 (by omega) (by omega) (by omega) (by omega) (by omega) (by omega)]) (ob.1 (27 + 2) (by omega) (by omega) (by omega) (by omega) (by omega) (by omega)) (fun i g hi e k k1 k2 => ?_)
    have := (hK.2.2.1 i g hi e).2.1
    exact ob.1 k (by omega) (by omega) (by omega) (by omega) (by omega) (by omega)
  have c6 : ∀ k, 64 ≤ k → k ≤ 70 → σ0 k = σ6 k := fun k k1 k2 => Co k (by omega) (by omega) (by omega) (by omega) (by omega)
  have tx : TxC σ0 cd L := by
    refine ⟨⟨by rw [c6 64 (by omega) (by omega)]; exact cl.1.2.2.1, by have := cl.2.1; have := cl.1.2.1.1; omega⟩, fun j y hy => by rw [c6 70 (by omega) (by omega)]; exact cl.1.2.2.2 j y hy, by rw [c6 64 (by omega) (by omega)]; exact cl.2.2.2.1, fun q x hq => ?_⟩
    have := cl.2.2.2.2 q x hq
    unfold CRu at *
    rw [c6 65 (by omega) (by omega), c6 66 (by omega) (by omega), c6 67 (by omega) (by omega), c6 68 (by omega) (by omega), c6 69 (by omega) (by omega)]
    exact this
  have u30 : σ0 30 2 = 0 ∧ σ0 30 3 = 0 := by
    rw [← hB, up2_o (by omega), up2_o (by omega), up2_c, upw_n (by omega), up2_c, upw_s, upw_s]
    exact ⟨rfl, rfl⟩
  have r0 : RC K σ0 (σ 86) K σ0 (rs0 (σ 86)) := by
    refine ⟨⟨hK, KX_r, Rm_r, fun _ _ => rfl⟩, HallIs_s hH6 (fun k k1 k2 => by rw [Bo k (by omega) (by omega), f25 k (by omega)]), hW, fun _ _ => rfl, ⟨by omega, by rw [u30.2]; rfl, by show ([] : UL).length ≤ 16; rw [List.length_nil]; omega, fun i x hx => by simp [rs0] at hx⟩, ?_, ?_⟩
    · rw [← hB, up2_c, upw_n (by omega), up2_c, upw_s]; rfl
    · rw [← hB, up2_c, upw_s]; rfl
  have key := c_67 (Q := OCl D K σ L0 L) (ρ0 := σ 86) hK (by rw [e2]; exact h2) hD0 tx hL hok L [] FU K σ0 (rs0 (σ 86)) 0 rfl (by have := FU_b; omega) r0 ⟨⟨by show (0 : Int) ≤ 0; omega, by show (0 : Int) ≤ 0; omega⟩, by show (-1 : Int) ≤ -1; omega, by show (-1 : Int) ≤ 1000; omega⟩ (by omega) (fun K' σ' s' h1 h3 h4 => ?_) (fun q' K' σ' h1 h3 h4 => ?_)
  · exact key
  · have h1' : (rnl D L 0 (rs0 (σ 86))).2 = some s' := h1
    refine T_mono (c_oend hK ob hW hU0 h3 h4) (fun p hp => ⟨fun q' e => ?_, fun s2 e => ?_⟩)
    · rw [e] at h1'; cases h1'
    · rw [h1'] at e
      injection e with e
      subst e
      exact ⟨hp, h4⟩
  · have h1' : rnl D L 0 (rs0 (σ 86)) = (q', none) := h1
    refine T_mono (c_ofl (q := (q' : Int)) hK ob hW h33 hU0 h4 h83) (fun p hp => ⟨fun q2 e => ?_, fun s2 e => ?_⟩)
    · rw [h1'] at e
      injection e with e _
      subst e
      exact hp
    · rw [h1'] at e; cases e
