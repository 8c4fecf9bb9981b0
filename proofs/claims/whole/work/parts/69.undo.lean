/-! ===== undo ===== -/
theorem UC_last {K : Kt} {σ : Sg} {u : Nat} {ρ : Nat → Int} {L : UL} {x : (Nat → Int) × Int} (h : UC K σ u ρ (L ++ [x])) : ∃ h, K.1 (u + 1) (((σ u 2).toNat + L.length) % 16) = some h ∧ HallIs σ h (putR ρ x.1) ∧ WF (putR ρ x.1) ∧ σ (u + 2) (((σ u 2).toNat + L.length) % 16) = x.2 ∧ (0 ≤ x.2 ∧ x.2 ≤ 3) :=
  h.2.2.2 L.length x (by simp)
theorem c_takeBack {K : Kt} {σ : Sg} {ρ : Nat → Int} {L : UL} {x : (Nat → Int) × Int} (hK : Shp K) (hU : UC K σ 27 ρ (L ++ [x])) : T (vX8_takeBack K 27 13 σ) (fun p => p.1 = x.2 ∧ HallIs p.2 13 (putR ρ x.1) ∧ (∀ k, k ≠ 27 → ¬ (13 ≤ k ∧ k ≤ 26) → p.2 k = σ k) ∧ (∀ j, j ≠ 3 → p.2 27 j = σ 27 j) ∧ p.2 27 3 = (L.length : Int)) := by
  obtain ⟨c1, c2, c3⟩ := hK.1
  obtain ⟨u1, u2, u3, u4, u5⟩ := uAt_27 c1
  obtain ⟨h, eh, hh, hw, hk, hb⟩ := UC_last hU
  obtain ⟨h1, h2, h3, h4⟩ := id hU
  have ll : (L ++ [x]).length = L.length + 1 := by simp
  rw [ll] at h2 h3
  have m3 : (K.2.1 28).2 = 16 := by have := u3.2; rw [show (27 : Nat) + 1 = 28 from rfl] at this; rw [this]
  have m5 : (K.2.1 29).2 = 16 := by have := u5.2; rw [show (27 : Nat) + 2 = 29 from rfl] at this; rw [this]
  have zl : ((σ 27 2).toNat + L.length) % 16 < 16 := Nat.mod_lt _ (by omega)
  have uh := hK.2.2.1 _ h zl eh
  unfold vX8_takeBack
  refine T_ckP u1 (T_t (by omega) (T_ckP u1 (T_ck (by omega) (T_ckP u1 (T_nm ?_)))))
  have e2 : up2 σ 27 3 (σ 27 3 - 1) 27 2 = σ 27 2 := by rw [up2_c, upw_n (by omega)]
  have e3 : up2 σ 27 3 (σ 27 3 - 1) 27 3 = (L.length : Int) := by rw [up2_c, upw_s]; omega
  have ej : ∀ j, j ≠ 3 → up2 σ 27 3 (σ 27 3 - 1) 27 j = σ 27 j := fun j hj => by rw [up2_c, upw_n hj]
  have eo : ∀ k, k ≠ 27 → up2 σ 27 3 (σ 27 3 - 1) k = σ k := fun k hk => up2_o hk
  generalize up2 σ 27 3 (σ 27 3 - 1) = τ at *
  have t := tm_b (a := τ 27 2 + τ 27 3) (b := 16) (by omega) (by omega)
  have tz : Int.tmod (τ 27 2 + τ 27 3) 16 = ((((σ 27 2).toNat + L.length) % 16 : Nat) : Int) := by
    have : Int.tmod (τ 27 2 + τ 27 3) 16 = (τ 27 2 + τ 27 3) % 16 := Int.tmod_eq_emod_of_nonneg (by omega)
    rw [this]
    omega
  refine T_ckP u1 (T_ckP u1 (T_ck (by omega) (T_ck ⟨by omega, by omega⟩ (T_nm ?_))))
  rw [tz]
  generalize ((σ 27 2).toNat + L.length) % 16 = z at *
  have eh' : K.1 28 z = some h := eh
  refine T_ckP u1 ?_
  rw [u2, Option.bind_some, m3]
  refine T_ckP u3 (T_ck (by omega) ?_)
  rw [Int.toNat_natCast, eh', Option.elim_some]
  refine T_ckP u1 ?_
  rw [Option.bind_some, m3]
  refine T_ckP u3 (T_ck (by omega) ?_)
  rw [eh', Option.bind_some]
  refine T_ckP (hall13 c1).1 (T_ckP uh.1 (T_ckP (hall13 c1).1.1 ?_))
  refine T_bind (c_copyFrom (K := K) (σ := τ) (o := 13) (o2 := h) (Or.inl (by have := uh.2.1; omega))) (fun σ8 h8 => ?_)
  obtain ⟨S8, H8⟩ := h8
  refine T_ckP u1 ?_
  rw [u4, Option.bind_some, m5]
  refine T_ckP u5 (T_ck (by omega) (T_some ⟨?_, H8 _ (HallIs_s hh (fun k k1 k2 => eo k (by have := uh.2.1; omega))), fun k k1 k2 => ?_, fun j hj => ?_, ?_⟩))
  · show σ8 29 z = x.2
    rw [S8 29 (by omega), eo 29 (by omega)]; exact hk
  · show σ8 k = σ k
    rw [S8 k (by omega), eo k k1]
  · show σ8 27 j = σ 27 j
    rw [S8 27 (by omega), ej j hj]
  · show σ8 27 3 = _
    rw [S8 27 (by omega)]; exact e3
theorem UC_drop {K : Kt} {σ σ' : Sg} {u : Nat} {ρ : Nat → Int} {L : UL} {x : (Nat → Int) × Int} (h : UC K σ u ρ (L ++ [x])) (a2 : σ' u 2 = σ u 2) (a3 : σ' u 3 = (L.length : Int)) (ak : σ' (u + 2) = σ (u + 2)) (hh : ∀ i h, i < 16 → K.1 (u + 1) i = some h → ∀ k, h ≤ k → k ≤ h + 13 → σ' k = σ k) : UC K σ' u ρ L := by
  obtain ⟨h1, h2, h3, h4⟩ := h
  have ll : (L ++ [x]).length = L.length + 1 := by simp
  rw [ll] at h2 h3
  unfold UC
  rw [a2, a3, ak]
  refine ⟨h1, rfl, by omega, fun i y hy => ?_⟩
  have hi : i < L.length := (List.getElem?_eq_some_iff.mp hy).1
  obtain ⟨g, e, b, w, d⟩ := h4 i y (by rw [List.getElem?_append_left hi]; exact hy)
  exact ⟨g, e, HallIs_s b (hh _ g (Nat.mod_lt _ (by omega)) e), w, d⟩
theorem s_undo {K : Kt} {σ : Sg} {n : Int} (hI : Inv K σ n) (hn : n ≤ 600) : St2 K n (vX9_undo K σ) vX10_undo := by
  obtain ⟨⟨hK, ⟨hW, hH⟩, hL, hU, hDD, hT, hM, hC'⟩, hS⟩ := id hI
  obtain ⟨L, w1, w2⟩ := hU
  have v1 := w1.2.1
  have v2 := w2.1
  rcases List.eq_nil_or_concat L with e | ⟨L', x, e⟩
  · subst e
    have z1 : σ 27 3 = 0 := v1
    have z2 : σ 84 8 = 0 := v2
    have iv := InvR_v hS hn (v := -3) (by omega) (by omega)
    refine St2_ref hI hn (v := -3) (by omega) ?_ (fun σ1 h1 => ?_)
    · unfold vX9_undo
      rw [if_pos z1, c_refuse (by omega) iv.1]
      rfl
    · unfold vX10_undo
      have e8 : up2 σ1 84 0 0 84 8 = 0 := by rw [u84 (by omega), h1 84 (by omega) (by omega)]; exact z2
      show (if up2 σ1 84 0 0 84 8 = 0 then _ else _) = _
      rw [if_pos e8, m_told (by omega) (fun _ => by rw [up2_o (by omega), h1 85 (by omega) (by omega)]; exact iv.2)]
      rfl
  · rw [List.concat_eq_append] at e
    subst e
    have ll : (L' ++ [x]).length = L'.length + 1 := by simp
    rw [ll] at v1 v2
    have l16 := w2.2.1
    rw [ll] at l16
    obtain ⟨h, eh, hh, hw, hk, hb⟩ := UC_last w1
    unfold vX9_undo
    unfold St2
    rw [if_neg (by omega)]
    refine T_bd2 (c_takeBack hK w1) (fun r σ5 h5 => ?_)
    obtain ⟨p1, p2, p3, p4, p5⟩ := h5
    dsimp only at p1 p2 p3 p4 p5
    subst p1
    rw [c_grant hb.1, bd2_some]
    refine T_some ?_
    dsimp only
    obtain ⟨a1, a2, a3, a4⟩ := anC_k (v := x.2) (σ := σ5)
    have e0 : mn0 x.2 = 0 := by unfold mn0; rw [if_neg (by omega)]
    have eb : ∀ ρ, bmp ρ x.2 = ρ := by intro ρ; unfold bmp; rw [if_neg (by omega)]
    rw [e0] at a3
    rw [eb] at a4
    unfold vX10_undo
    refine T_nm ?_
    have F : ∀ k, k ≠ 0 → k ≠ 84 → k ≠ 27 → ¬ (13 ≤ k ∧ k ≤ 26) → up2 (anC x.2 σ5) 84 0 0 k = σ k := fun k c1 c2 c3 c4 => by
      rw [up2_o c2]
      by_cases e : k = 83
      · rw [e, a4]; exact p3 83 (by omega) (by omega)
      · rw [a1 k c1 e]; exact p3 k c3 c4
    have F84 : ∀ j, j ≠ 0 → up2 (anC x.2 σ5) 84 0 0 84 j = σ 84 j := fun j c => by rw [u84 c, a1 84 (by omega) (by omega), p3 84 (by omega) (by omega)]
    have F0 : ∀ j, j ≠ 14 → up2 (anC x.2 σ5) 84 0 0 0 j = σ 0 j := fun j c => by rw [up2_o (by omega), a2 j c, p3 0 (by omega) (by omega)]
    have F014 : up2 (anC x.2 σ5) 84 0 0 0 14 = 0 := by rw [up2_o (by omega)]; exact a3
    have Fc : ∀ k, k = 27 ∨ (13 ≤ k ∧ k ≤ 26) → up2 (anC x.2 σ5) 84 0 0 k = σ5 k := fun k c => by rw [up2_o (by omega), a1 k (by omega) (by omega)]
    generalize up2 (anC x.2 σ5) 84 0 0 = τ at *
    have t8 : τ 84 8 = (L'.length : Int) + 1 := by rw [F84 8 (by omega), v2]; omega
    refine T_f (by omega) (T_ck (by omega) (T_nm ?_))
    have U8 : up2 τ 84 8 (τ 84 8 - 1) 84 8 = (L'.length : Int) := by rw [up2_c, upw_s]; omega
    have Uj : ∀ j, j ≠ 8 → up2 τ 84 8 (τ 84 8 - 1) 84 j = τ 84 j := fun j hj => by rw [up2_c, upw_n hj]
    have Uo : ∀ k, k ≠ 84 → up2 τ 84 8 (τ 84 8 - 1) k = τ k := fun k hk => up2_o hk
    generalize up2 τ 84 8 (τ 84 8 - 1) = υ at *
    rw [U8]
    refine T_bind (m_putBack (σ := υ) (k := L'.length) (by omega)) (fun σ6 h6 => ?_)
    obtain ⟨q1, q2⟩ := h6
    have g86 : υ 86 = σ 86 := by rw [Uo 86 (by omega), F 86 (by omega) (by omega) (by omega) (by omega)]
    have um := w2.2.2 L'.length x (by simp)
    have e86 : σ6 86 = putR (σ 86) x.1 := by
      rw [q2, g86]
      funext i
      unfold putR
      split
      · unfold snp
        rw [Uo 89 (by omega), F 89 (by omega) (by omega) (by omega) (by omega)]
        exact um.1 (i - 4) (by omega)
      · rfl
    have s8 : σ6 84 8 = (L'.length : Int) := by rw [q1 84 (by omega)]; exact U8
    rw [s8]
    refine T_ck (by omega) ?_
    rw [Int.toNat_natCast, q1 90 (by omega), Uo 90 (by omega), F 90 (by omega) (by omega) (by omega) (by omega), um.2]
    rw [m_told (by omega) (fun q => by omega), bd2_some]
    obtain ⟨b1, b2, b3, b4⟩ := anM_k (v := x.2) (σ := σ6)
    rw [e0] at b3
    rw [eb] at b4
    have G : ∀ k, k ≠ 84 → k ≠ 86 → anM x.2 σ6 k = τ k := fun k c1 c2 => by
      by_cases e : k = 85
      · rw [e, b4, q1 85 (by omega), Uo 85 (by omega)]
      · rw [b1 k c1 e, q1 k c2, Uo k c1]
    have Gs : ∀ k, k ≠ 0 → k ≠ 84 → k ≠ 86 → k ≠ 27 → ¬ (13 ≤ k ∧ k ≤ 26) → anM x.2 σ6 k = σ k := fun k c1 c2 c3 c4 c5 => by rw [G k c2 c3, F k c1 c2 c4 c5]
    have G84 : ∀ j, j ≠ 0 → j ≠ 1 → j ≠ 8 → anM x.2 σ6 84 j = σ 84 j := fun j c1 c2 c3 => by rw [b2 j c2, q1 84 (by omega), Uj j c3, F84 j c1]
    have G0 : ∀ j, j ≠ 14 → anM x.2 σ6 0 j = σ 0 j := fun j c => by rw [G 0 (by omega) (by omega), F0 j c]
    have G86 : anM x.2 σ6 86 = putR (σ 86) x.1 := by rw [b1 86 (by omega) (by omega), e86]
    have rf : ∀ i, i < 4 ∨ 71 ≤ i → putR (σ 86) x.1 i = σ 86 i := fun i hi => by unfold putR; rw [if_neg (by omega)]
    have G27 : ∀ j, anM x.2 σ6 27 j = σ5 27 j := fun j => by rw [G 27 (by omega) (by omega), Fc 27 (by omega)]
    refine T_some ⟨rfl, ?_, ?_⟩
    · dsimp only
      refine InvX_h hI.1 (fun k hk' => ?_) ?_ ⟨G0 12 (by omega), G0 13 (by omega)⟩ (fun j hj => G84 j (by omega) (by omega) (by omega)) (fun k c1 _ => Gs k (by omega) (by omega) (by omega) (by omega) (by omega)) (by rw [G86]; exact hw) ?_ (by rw [G86]; exact rf 2 (by omega)) (by rw [G86]; exact rf 3 (by omega)) (fun i hi => by rw [G86]; exact rf i (by omega)) ⟨L', ?_, ?_⟩
      · unfold kpt at hk'
        exact Gs k (by omega) (by omega) (by omega) (by omega) (by omega)
      · rw [Gs 63 (by omega) (by omega) (by omega) (by omega) (by omega)]
      · rw [G86]
        exact HallIs_s p2 (fun k c1 c2 => by rw [G k (by omega) (by omega), Fc k (by omega)])
      · have d := UC_drop (σ' := anM x.2 σ6) w1 (by rw [G27, p4 2 (by omega)]) (by rw [G27, p5]) (Gs (27 + 2) (by omega) (by omega) (by omega) (by omega) (by omega)) (fun i h hi e k c1 c2 => Gs k (by have := (hK.2.2.1 i h hi e).2.1; omega) (by have := (hK.2.2.1 i h hi e).2.1; omega) (by have := (hK.2.2.1 i h hi e).2.1; omega) (by have := (hK.2.2.1 i h hi e).2.1; omega) (by have := (hK.2.2.1 i h hi e).2.1; omega))
        exact UC_f d (by rw [G86]; exact RS_w hW rf) rfl rfl rfl (fun _ _ _ _ _ _ _ => rfl)
      · refine ⟨by rw [b2 8 (by omega), s8], by omega, fun i y hy => ?_⟩
        have hi : i < L'.length := (List.getElem?_eq_some_iff.mp hy).1
        have := w2.2.2 i y (by rw [List.getElem?_append_left hi]; exact hy)
        rw [Gs 89 (by omega) (by omega) (by omega) (by omega) (by omega), Gs 90 (by omega) (by omega) (by omega) (by omega) (by omega)]
        exact this
    · dsimp only
      refine InvS_m (n := n) ⟨?_, fun j hj => ?_⟩ (by omega)
      · rw [G 0 (by omega) (by omega), F014, b3]
      · rw [Gs 83 (by omega) (by omega) (by omega) (by omega) (by omega), Gs 85 (by omega) (by omega) (by omega) (by omega) (by omega)]
        exact hS.2 j hj
