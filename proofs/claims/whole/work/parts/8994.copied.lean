/-! ===== a text is copied and held ===== -/
theorem Shp_law {K K' : Kt} (hK : Shp K) (cl : K.2.2.1 ≤ K'.2.2.1) (sh : ∀ k, k < K.2.2.1 → K'.2.1 k = K.2.1 k) (rf : ∀ k j, k < K.2.2.1 → k ≠ 9 → K'.1 k j = K.1 k j) (tx : ∀ i q, i < 6 → K'.1 9 i = some q → TxtAt K' q ∧ 115 ≤ q) : Ext K K' ∧ Shp K' := by
  obtain ⟨⟨c1, c2, c3⟩, t9, u28, u31, d28, d31, dx, im, im2⟩ := id hK
  have k9 := (lcA_9 c1).2
  have ex : Ext K K' := ⟨cl, sh, fun k j hk hl => rf k j hk (fun e => by rw [e, k9] at hl; omega)⟩
  have e28 : ∀ i, K'.1 28 i = K.1 28 i := fun i => rf 28 i (by omega) (by omega)
  have e31 : ∀ i, K'.1 31 i = K.1 31 i := fun i => rf 31 i (by omega) (by omega)
  have e81 : ∀ i, K'.1 81 i = K.1 81 i := fun i => rf 81 i (by omega) (by omega)
  have txa : ∀ ta, ta < K.2.2.1 → txs K ta → txs K' ta := fun ta hl h i q hi e => by
    by_cases h2 : ta = 9
    · rw [h2] at e
      exact tx i q hi e
    · rw [rf ta i hl h2] at e
      exact ⟨TxtAt_x (h i q hi e).1 ex, (h i q hi e).2⟩
  refine ⟨ex, ⟨cLay_x c1 ex, mLay_x c2 ex, by omega⟩, txa 9 (by omega) t9, ?_, ?_, ?_, ?_, ?_, ?_, ?_⟩
  · intro i h hi e; rw [e28] at e; exact uH_x (u28 i h hi e) ex
  · intro i h hi e; rw [e31] at e; exact uH_x (u31 i h hi e) ex
  · intro i j h hi hj e e'; rw [e28] at e e'; exact d28 i j h hi hj e e'
  · intro i j h hi hj e e'; rw [e31] at e e'; exact d31 i j h hi hj e e'
  · intro i j h hi hj e; rw [e28] at e; rw [e31]; exact dx i j h hi hj e
  · intro k m hk e
    rw [e81] at e
    obtain ⟨⟨i1, i2, i3, i4, i5, i6, i7, i8, i9⟩, dd⟩ := im k m hk e
    refine ⟨⟨IsC_x i1 ex, by rw [rf m 0 i1.1 (by omega)]; exact i2, by rw [rf m 1 i1.1 (by omega)]; exact i3, IsC_x i4 ex, by rw [rf (m + 1) 1 i4.1 (by omega)]; exact i5, IsA_x i6 ex, hallAt_x i7 ex, i8, txa _ i6.1 i9⟩, fun i hi => by rw [e28, e31]; exact dd i hi⟩
  · intro m e; rw [e81] at e ⊢; exact im2 m e
def TxtCp (K0 : Kt) (σ0 : Sg) (n z : Nat) (K : Kt) (σ : Sg) : Prop := K.2.2.1 = K0.2.2.1 + 7 ∧ K.2.2.2 = K0.2.2.2 + 8 + 5 * n + z ∧ (K.2.1 K0.2.2.1).1 = 7 ∧ (∀ j, j < 6 → K.1 K0.2.2.1 j = some (K0.2.2.1 + 1 + j) ∧ K.2.1 (K0.2.2.1 + 1 + j) = (20, if j = 5 then z else n)) ∧ (∀ k, k < K0.2.2.1 → K.2.1 k = K0.2.1 k) ∧ (∀ k j, k < K0.2.2.1 → K.1 k j = K0.1 k j) ∧ (∀ k, k < K0.2.2.1 → σ k = σ0 k) ∧ σ K0.2.2.1 6 = (n : Int) ∧ σ K0.2.2.1 7 = (z : Int)
  ∧ (∀ j i, j < 5 → i < n → σ (K0.2.2.1 + 1 + j) i = σ0 (65 + j) i) ∧ ∀ i, i < z → σ (K0.2.2.1 + 6) i = σ0 70 i
theorem c_copied {K : Kt} {σ : Sg} {n z : Nat} (hc : cLay K) (hl : 115 ≤ K.2.2.1) (h6 : σ 64 6 = (n : Int)) (h7 : σ 64 7 = (z : Int)) (hn : n ≤ 12) (hz : z ≤ 400) : T (vX7_copied 64 K σ) (fun r => r.1 = some K.2.2.1 ∧ TxtCp K σ n z r.2.1 r.2.2) := by
  unfold vX7_copied
  refine New_T (fun K2 σ3 n2 => ?_)
  obtain ⟨a1, a2, a3, a4, a5, a6, a7, a8⟩ := n2
  have o64 := lcO_64 hc
  have C2 : IsC K2 64 7 := ⟨by omega, by rw [a3 64 (by omega)]; exact o64.2⟩
  have e6 : σ3 64 6 = (n : Int) := by rw [a7 64 (by omega)]; exact h6
  have e7 : σ3 64 7 = (z : Int) := by rw [a7 64 (by omega)]; exact h7
  rw [e6, e7]
  refine T_ckP C2 (T_ckP C2 (T_bdVK (c_txtInit (K := K2) (σ := σ3) (o := K.2.2.1) (a := n) (b := z) (by omega) (by rw [a4]) (by unfold imax; split <;> omega) (by unfold imax; split <;> omega) (by omega) (by omega)) (fun K6 σ7 t6 => ?_)))
  obtain ⟨b1, b2, b3, b4, b5, b6, b7, b8, b9, b10⟩ := t6
  dsimp only at b1 b2 b3 b4 b5 b6 b7 b8 b9 b10
  have sh : ∀ k, k < K.2.2.1 → K6.2.1 k = K.2.1 k := fun k hk => by rw [b5 k (by omega), a3 k (by omega)]
  have rf : ∀ k j, k < K.2.2.1 → K6.1 k j = K.1 k j := fun k j hk => by rw [b6 k j hk, a5 k j (by omega)]
  have ss : ∀ k, k < K.2.2.1 → σ7 k = σ k := fun k hk => by rw [b7 k hk, a7 k (by omega)]
  have C6 : IsC K6 64 7 := ⟨by omega, by rw [sh 64 (by omega)]; exact o64.2⟩
  have Cq : IsC K6 K.2.2.1 7 := ⟨by omega, b3⟩
  have r0 : K6.1 64 0 = some 65 := by rw [rf 64 0 (by omega)]; exact lcR_64_0 hc
  have r1 : K6.1 64 1 = some 66 := by rw [rf 64 1 (by omega)]; exact lcR_64_1 hc
  have r2 : K6.1 64 2 = some 67 := by rw [rf 64 2 (by omega)]; exact lcR_64_2 hc
  have r3 : K6.1 64 3 = some 68 := by rw [rf 64 3 (by omega)]; exact lcR_64_3 hc
  have r4 : K6.1 64 4 = some 69 := by rw [rf 64 4 (by omega)]; exact lcR_64_4 hc
  have r5 : K6.1 64 5 = some 70 := by rw [rf 64 5 (by omega)]; exact lcR_64_5 hc
  have q0 := b4 0 (by omega)
  have q1 := b4 1 (by omega)
  have q2 := b4 2 (by omega)
  have q3 := b4 3 (by omega)
  have q4 := b4 4 (by omega)
  have q5 := b4 5 (by omega)
  have sz : ∀ k m, IsA K k 20 m → IsA K6 k 20 (K6.2.1 k).2 ∧ (K6.2.1 k).2 = m := fun k m h => by
    have x := sh k h.1
    have y : (K6.2.1 k).2 = m := by rw [x, h.2]
    exact ⟨⟨by have := h.1; omega, by rw [y, x]; exact h.2⟩, y⟩
  have sn : ∀ j m, j < 6 → K6.2.1 (K.2.2.1 + 1 + j) = (20, m) → IsA K6 (K.2.2.1 + 1 + j) 20 (K6.2.1 (K.2.2.1 + 1 + j)).2 ∧ (K6.2.1 (K.2.2.1 + 1 + j)).2 = m := fun j m hj h => ⟨⟨by omega, by rw [h]⟩, by rw [h]⟩
  have s0 := sz 65 12 (lcA_65 hc)
  have s1 := sz 66 12 (lcA_66 hc)
  have s2 := sz 67 12 (lcA_67 hc)
  have s3 := sz 68 12 (lcA_68 hc)
  have s4 := sz 69 12 (lcA_69 hc)
  have s5 := sz 70 400 (lcA_70 hc)
  have t0 := sn 0 n (by omega) q0.2
  have t1 := sn 1 n (by omega) q1.2
  have t2 := sn 2 n (by omega) q2.2
  have t3 := sn 3 n (by omega) q3.2
  have t4 := sn 4 n (by omega) q4.2
  have t5 := sn 5 z (by omega) q5.2
  have g6 : σ7 64 6 = (n : Int) := by rw [ss 64 (by omega)]; exact h6
  have g7 : σ7 64 7 = (z : Int) := by rw [ss 64 (by omega)]; exact h7
  have z0 : (0 : Int).toNat = 0 := rfl
  rw [g6]
  refine T_ckP C6 (T_ckP Cq (T_nm (T_ckP C6 (T_ckP Cq (T_nm ?_)))))
  have g7' : up2 σ7 K.2.2.1 6 (n : Int) 64 7 = (z : Int) := by rw [up2_o (by omega)]; exact g7
  rw [g7', z0]
  generalize hA : up2 (up2 σ7 K.2.2.1 6 (n : Int)) K.2.2.1 7 (z : Int) = A
  have A64 : A 64 6 = (n : Int) := by rw [← hA, up2_o (by omega), up2_o (by omega)]; exact g6
  have A7 : A 64 7 = (z : Int) := by rw [← hA, up2_o (by omega), up2_o (by omega)]; exact g7
  have Ao : ∀ k, k < K.2.2.1 → A k = σ k := fun k hk => by rw [← hA, up2_o (by omega), up2_o (by omega), ss k hk]
  have Aq6 : A K.2.2.1 6 = (n : Int) := by rw [← hA, up2_c, upw_n (by omega), up2_c, upw_s]
  have Aq7 : A K.2.2.1 7 = (z : Int) := by rw [← hA, up2_c, upw_s]
  refine T_ckP C6 ?_
  rw [r0, Option.bind_some]
  refine T_ckP Cq ?_
  rw [q0.1, Option.bind_some, A64, Int.toNat_natCast]
  refine T_ckP C6 (T_ckP s0.1 (T_ckP t0.1 (T_ck (by rw [s0.2, t0.2]; omega) (T_nm ?_))))
  generalize hB : cpy2 A 65 (K.2.2.1 + 1 + 0) 0 0 n = B
  have Bo : ∀ k, k ≠ K.2.2.1 + 1 → B k = A k := fun k hk => by rw [← hB, cpy2_o (by omega)]
  have B0 : ∀ i, i < n → B (K.2.2.1 + 1) i = A 65 i := fun i hi => by rw [← hB]; exact cpy2_c hi
  refine T_ckP C6 ?_
  rw [r1, Option.bind_some]
  refine T_ckP Cq ?_
  rw [q1.1, Option.bind_some, Bo 64 (by omega), A64, Int.toNat_natCast]
  refine T_ckP C6 (T_ckP s1.1 (T_ckP t1.1 (T_ck (by rw [s1.2, t1.2]; omega) (T_nm ?_))))
  generalize hC : cpy2 B 66 (K.2.2.1 + 1 + 1) 0 0 n = C
  have Co : ∀ k, k ≠ K.2.2.1 + 2 → C k = B k := fun k hk => by rw [← hC, cpy2_o (by omega)]
  have C0 : ∀ i, i < n → C (K.2.2.1 + 2) i = B 66 i := fun i hi => by rw [← hC]; exact cpy2_c hi
  refine T_ckP C6 ?_
  rw [r2, Option.bind_some]
  refine T_ckP Cq ?_
  rw [q2.1, Option.bind_some, Co 64 (by omega), Bo 64 (by omega), A64, Int.toNat_natCast]
  refine T_ckP C6 (T_ckP s2.1 (T_ckP t2.1 (T_ck (by rw [s2.2, t2.2]; omega) (T_nm ?_))))
  generalize hD : cpy2 C 67 (K.2.2.1 + 1 + 2) 0 0 n = D
  have Do : ∀ k, k ≠ K.2.2.1 + 3 → D k = C k := fun k hk => by rw [← hD, cpy2_o (by omega)]
  have D0 : ∀ i, i < n → D (K.2.2.1 + 3) i = C 67 i := fun i hi => by rw [← hD]; exact cpy2_c hi
  refine T_ckP C6 ?_
  rw [r3, Option.bind_some]
  refine T_ckP Cq ?_
  rw [q3.1, Option.bind_some, Do 64 (by omega), Co 64 (by omega), Bo 64 (by omega), A64, Int.toNat_natCast]
  refine T_ckP C6 (T_ckP s3.1 (T_ckP t3.1 (T_ck (by rw [s3.2, t3.2]; omega) (T_nm ?_))))
  generalize hE : cpy2 D 68 (K.2.2.1 + 1 + 3) 0 0 n = E
  have Eo : ∀ k, k ≠ K.2.2.1 + 4 → E k = D k := fun k hk => by rw [← hE, cpy2_o (by omega)]
  have E0 : ∀ i, i < n → E (K.2.2.1 + 4) i = D 68 i := fun i hi => by rw [← hE]; exact cpy2_c hi
  refine T_ckP C6 ?_
  rw [r4, Option.bind_some]
  refine T_ckP Cq ?_
  rw [q4.1, Option.bind_some, Eo 64 (by omega), Do 64 (by omega), Co 64 (by omega), Bo 64 (by omega), A64, Int.toNat_natCast]
  refine T_ckP C6 (T_ckP s4.1 (T_ckP t4.1 (T_ck (by rw [s4.2, t4.2]; omega) (T_nm ?_))))
  generalize hF : cpy2 E 69 (K.2.2.1 + 1 + 4) 0 0 n = F
  have Fo : ∀ k, k ≠ K.2.2.1 + 5 → F k = E k := fun k hk => by rw [← hF, cpy2_o (by omega)]
  have F0 : ∀ i, i < n → F (K.2.2.1 + 5) i = E 69 i := fun i hi => by rw [← hF]; exact cpy2_c hi
  refine T_ckP C6 ?_
  rw [r5, Option.bind_some]
  refine T_ckP Cq ?_
  rw [q5.1, Option.bind_some, Fo 64 (by omega), Eo 64 (by omega), Do 64 (by omega), Co 64 (by omega), Bo 64 (by omega), A7, Int.toNat_natCast]
  refine T_ckP C6 (T_ckP s5.1 (T_ckP t5.1 (T_ck (by rw [s5.2, t5.2]; omega) (T_nm ?_))))
  generalize hG : cpy2 F 70 (K.2.2.1 + 1 + 5) 0 0 z = G
  have Go : ∀ k, k ≠ K.2.2.1 + 6 → G k = F k := fun k hk => by rw [← hG, cpy2_o (by omega)]
  have G0 : ∀ i, i < z → G (K.2.2.1 + 6) i = F 70 i := fun i hi => by rw [← hG]; exact cpy2_c hi
  have lo : ∀ k, k ≤ K.2.2.1 → G k = A k := fun k hk => by rw [Go k (by omega), Fo k (by omega), Eo k (by omega), Do k (by omega), Co k (by omega), Bo k (by omega)]
  refine T_some ⟨rfl, b1, ?_, b3, b4, sh, rf, fun k hk => by dsimp only; rw [lo k (by omega), Ao k hk], by dsimp only; rw [lo _ (Nat.le_refl _)]; exact Aq6, by dsimp only; rw [lo _ (Nat.le_refl _)]; exact Aq7, fun j i hj hi => ?_, fun i hi => ?_⟩ <;> dsimp only
  · rw [b2, a2]
  · match j, hj with
    | 0, _ => rw [Go _ (by omega), Fo _ (by omega), Eo _ (by omega), Do _ (by omega), Co _ (by omega), show K.2.2.1 + 1 + 0 = K.2.2.1 + 1 from rfl, B0 i hi, Ao 65 (by omega)]
    | 1, _ => rw [Go _ (by omega), Fo _ (by omega), Eo _ (by omega), Do _ (by omega), show K.2.2.1 + 1 + 1 = K.2.2.1 + 2 from rfl, C0 i hi, Bo 66 (by omega), Ao 66 (by omega)]
    | 2, _ => rw [Go _ (by omega), Fo _ (by omega), Eo _ (by omega), show K.2.2.1 + 1 + 2 = K.2.2.1 + 3 from rfl, D0 i hi, Co 67 (by omega), Bo 67 (by omega), Ao 67 (by omega)]
    | 3, _ => rw [Go _ (by omega), Fo _ (by omega), show K.2.2.1 + 1 + 3 = K.2.2.1 + 4 from rfl, E0 i hi, Do 68 (by omega), Co 68 (by omega), Bo 68 (by omega), Ao 68 (by omega)]
    | 4, _ => rw [Go _ (by omega), show K.2.2.1 + 1 + 4 = K.2.2.1 + 5 from rfl, F0 i hi, Eo 69 (by omega), Do 69 (by omega), Co 69 (by omega), Bo 69 (by omega), Ao 69 (by omega)]
    | j + 5, hj => omega
  · rw [G0 i hi, Fo 70 (by omega), Eo 70 (by omega), Do 70 (by omega), Co 70 (by omega), Bo 70 (by omega), Ao 70 (by omega)]
