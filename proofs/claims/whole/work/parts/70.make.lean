/-! ===== texts, laws and images are made ===== -/
def NewS (K : Kt) (σ : Sg) (t n sl : Nat) (K2 : Kt) (σ2 : Sg) : Prop := K2.2.2.1 = K.2.2.1 + 1 ∧ K2.2.2.2 = K.2.2.2 + sl ∧ (∀ k, k ≠ K.2.2.1 → K2.2.1 k = K.2.1 k) ∧ K2.2.1 K.2.2.1 = (t, n) ∧ (∀ k j, k ≠ K.2.2.1 → K2.1 k j = K.1 k j) ∧ (∀ j, K2.1 K.2.2.1 j = none) ∧ (∀ k, k ≠ K.2.2.1 → σ2 k = σ k) ∧ ∀ j, σ2 K.2.2.1 j = 0
theorem New_T {β : Type} {K : Kt} {σ : Sg} {t n sl : Nat} {k : Nat → Kt → Sg → Option β} {Q : β → Prop} (h : ∀ K2 σ2, NewS K σ t n sl K2 σ2 → T (k K.2.2.1 K2 σ2) Q) : T (nw K.2.2.1 (kNew K t n sl) (sNew K σ) k) Q :=
  T_nw (h _ _ ⟨rfl, rfl, fun _ h => kN_2 h, kN_2s, fun _ _ h => kN_1 h, fun _ => kN_1s, fun _ h => sN_o h, fun _ => sN_s⟩)
def RefS (K : Kt) (q j : Nat) (r : Option Nat) (K2 : Kt) : Prop := K2.2 = K.2 ∧ K2.1 q j = r ∧ ∀ a b, ¬ (a = q ∧ b = j) → K2.1 a b = K.1 a b
theorem Ref_T {β : Type} {K : Kt} {q j : Nat} {r : Option Nat} {k : Kt → Option β} {Q : β → Prop} (h : ∀ K2, RefS K q j r K2 → T (k K2) Q) : T (nm (kRef K q j r) k) Q := T_nm (h _ ⟨rfl, kR_s, fun _ _ h => kR_n h⟩)
def TxtNew (K0 : Kt) (σ0 : Sg) (o a b : Nat) (K : Kt) (σ : Sg) : Prop := K.2.2.1 = o + 7 ∧ K.2.2.2 = K0.2.2.2 + 5 * a + b ∧ (K.2.1 o).1 = 7 ∧ (∀ j, j < 6 → K.1 o j = some (o + 1 + j) ∧ K.2.1 (o + 1 + j) = (20, if j = 5 then b else a)) ∧ (∀ k, k ≤ o → K.2.1 k = K0.2.1 k) ∧ (∀ k j, k < o → K.1 k j = K0.1 k j) ∧ (∀ k, k < o → σ k = σ0 k) ∧ σ o 6 = 0 ∧ σ o 7 = 0 ∧ ∀ i j, i < 6 → σ (o + 1 + i) j = 0
theorem c_txtInit {K : Kt} {σ : Sg} {o a b : Nat} {p1 p2 : Int} (h : K.2.2.1 = o + 1) (hc : (K.2.1 o).1 = 7) (ha : imax 0 p1 = (a : Int)) (hb : imax 0 p2 = (b : Int)) (la : a ≤ 1000000) (lb : b ≤ 1000000) : T (vX7_init o p1 p2 K σ) (fun r => TxtNew K σ o a b r.1 r.2) := by
  have C : IsC K o 7 := ⟨by omega, hc⟩
  unfold vX7_init
  rw [ha, hb]
  refine T_ckP C (T_nm (T_ckP C (T_nm (T_nm ?_))))
  simp only [Int.toNat_natCast]
  have m0 : Mk K (up2 (up2 σ o 6 0) o 7 0) o 7 0 (fun i => (20, if i = 5 then b else a)) 0 K (up2 (up2 σ o 6 0) o 7 0) := Mk_0 h hc
  with_reducible refine T_ck (by omega) ?_
  refine Mk_T m0 rfl rfl (fun K1 σ1 m1 s1 => ?_)
  with_reducible refine T_ck (by omega) ?_
  refine Mk_T m1 rfl rfl (fun K2 σ2 m2 s2 => ?_)
  with_reducible refine T_ck (by omega) ?_
  refine Mk_T m2 rfl rfl (fun K3 σ3 m3 s3 => ?_)
  with_reducible refine T_ck (by omega) ?_
  refine Mk_T m3 rfl rfl (fun K4 σ4 m4 s4 => ?_)
  with_reducible refine T_ck (by omega) ?_
  refine Mk_T m4 rfl rfl (fun K5 σ5 m5 s5 => ?_)
  with_reducible refine T_ck (by omega) ?_
  refine Mk_T m5 rfl rfl (fun K6 σ6 m6 s6 => ?_)
  obtain ⟨h1, h2, h3, h4, h5, h6, h7, h8, h9⟩ := m6
  refine T_some ⟨by dsimp only; omega, by dsimp only; omega, by dsimp only; rw [h3 o (by omega)]; exact hc, fun j hj => ?_, h3, h6, fun k hk => ?_, ?_, ?_, h9⟩
  · have := h5 j hj
    rw [Nat.zero_add] at this
    exact ⟨this.2, this.1⟩
  · dsimp only; rw [h8 k (by omega), up2_o (by omega), up2_o (by omega)]
  · dsimp only; rw [h8 o (by omega), up2_c, upw_n (by omega), up2_c, upw_s]
  · dsimp only; rw [h8 o (by omega), up2_c, upw_s]
def RkNew (K0 : Kt) (σ0 : Sg) (o : Nat) (K : Kt) (σ : Sg) : Prop := K.2.2.1 = o + 2 ∧ K.2.2.2 = K0.2.2.2 + 50 ∧ K.1 o 0 = some (o + 1) ∧ K.2.1 (o + 1) = (20, 50) ∧ (∀ k, k ≤ o → K.2.1 k = K0.2.1 k) ∧ (∀ k j, k < o → K.1 k j = K0.1 k j) ∧ (∀ k, k ≤ o → σ k = σ0 k)
theorem c_rkInit {K : Kt} {σ : Sg} {o : Nat} (h : K.2.2.1 = o + 1) (hc : (K.2.1 o).1 = 5) : T (vX5_init o K σ) (fun r => RkNew K σ o r.1 r.2) := by
  unfold vX5_init
  have m0 : Mk K σ o 5 0 (fun _ => (20, 50)) 0 K σ := Mk_0 h hc
  with_reducible refine T_ck (by omega) ?_
  refine Mk_T m0 rfl rfl (fun K1 σ1 m1 s1 => ?_)
  obtain ⟨h1, h2, h3, h4, h5, h6, h7, h8, h9⟩ := m1
  have := h5 0 (by omega)
  refine T_some ⟨by dsimp only; omega, s1, this.2, this.1, h3, h6, h8⟩
def LawsNew (K0 : Kt) (σ0 : Sg) (o : Nat) (K : Kt) (σ : Sg) : Prop := K.2.2.1 = o + 12 ∧ K.2.2.2 = K0.2.2.2 + 74 ∧ (∀ k, k ≤ o → K.2.1 k = K0.2.1 k) ∧ (∀ k j, k < o → K.1 k j = K0.1 k j) ∧ (∀ k, k < o → σ k = σ0 k)
  ∧ (K.1 o 0 = some (o + 1) ∧ K.1 o 1 = some (o + 8) ∧ K.1 o 2 = some (o + 9) ∧ K.1 o 3 = some (o + 11)) ∧ (K.2.1 (o + 1)).1 = 7
  ∧ (∀ j, j < 6 → K.1 (o + 1) j = some (o + 2 + j) ∧ K.2.1 (o + 2 + j) = (20, 0)) ∧ K.2.1 (o + 8) = (23, 6) ∧ (∀ i, K.1 (o + 8) i = none) ∧ (K.2.1 (o + 9)).1 = 5 ∧ K.1 (o + 9) 0 = some (o + 10) ∧ K.2.1 (o + 10) = (20, 50) ∧ K.2.1 (o + 11) = (20, 9) ∧ σ o 4 = 0 ∧ σ o 5 = -1 ∧ σ (o + 1) 6 = 0
theorem c_lawsInit {K : Kt} {σ : Sg} {o : Nat} (h : K.2.2.1 = o + 1) (hc : (K.2.1 o).1 = 3) : T (vX3_init o K σ) (fun r => LawsNew K σ o r.1 r.2) := by
  unfold vX3_init
  refine New_T (fun K2 σ3 n2 => ?_)
  obtain ⟨a1, a2, a3, a4, a5, a6, a7, a8⟩ := n2
  rw [h] at a1 a3 a4 a5 a6 a7 a8
  rw [h]
  refine T_bdVK (c_txtInit (K := K2) (σ := σ3) (o := o + 1) (a := 0) (b := 0) a1 (by rw [a4]) rfl rfl (by omega) (by omega)) (fun K4 σ5 t4 => ?_)
  obtain ⟨b1, b2, b3, b4, b5, b6, b7, b8, b9, b10⟩ := t4
  dsimp only at b1 b2 b3 b4 b5 b6 b7 b8 b9 b10
  refine T_ckP ⟨by omega, by rw [b5 o (by omega), a3 o (by omega)]; exact hc⟩ (Ref_T (fun K7 r7 => ?_))
  obtain ⟨c1, c2, c3⟩ := r7
  have e7 : K7.2.2.1 = o + 8 := by rw [c1]; omega
  refine T_ck (by omega) (New_T (fun K9 σ10 n9 => ?_))
  obtain ⟨d1, d2, d3, d4, d5, d6, d7, d8⟩ := n9
  rw [e7] at d1 d3 d4 d5 d6 d7 d8
  rw [e7]
  have hc9 : (K9.2.1 o).1 = 3 := by rw [d3 o (by omega), c1, b5 o (by omega), a3 o (by omega)]; exact hc
  refine T_ckP ⟨by omega, hc9⟩ (Ref_T (fun K12 r12 => ?_))
  obtain ⟨g1, g2, g3⟩ := r12
  have e12 : K12.2.2.1 = o + 9 := by rw [g1]; omega
  refine New_T (fun K14 σ15 n14 => ?_)
  obtain ⟨i1, i2, i3, i4, i5, i6, i7, i8⟩ := n14
  rw [e12] at i1 i3 i4 i5 i6 i7 i8
  rw [e12]
  refine T_bdVK (c_rkInit (K := K14) (σ := σ15) (o := o + 9) (by omega) (by rw [i4])) (fun K16 σ17 t16 => ?_)
  obtain ⟨j1, j2, j3, j4, j5, j6, j7⟩ := t16
  dsimp only at j1 j2 j3 j4 j5 j6 j7
  refine T_ckP ⟨by omega, by rw [j5 o (by omega), i3 o (by omega), g1]; exact hc9⟩ (Ref_T (fun K19 r19 => ?_))
  obtain ⟨l1, l2, l3⟩ := r19
  have e19 : K19.2.2.1 = o + 11 := by rw [l1]; omega
  refine T_ck (by omega) (New_T (fun K21 σ22 n21 => ?_))
  obtain ⟨m1, m2, m3, m4, m5, m6, m7, m8⟩ := n21
  rw [e19] at m1 m3 m4 m5 m6 m7 m8
  rw [e19]
  have hc21 : (K21.2.1 o).1 = 3 := by rw [m3 o (by omega), l1, j5 o (by omega), i3 o (by omega), g1]; exact hc9
  refine T_ckP ⟨by omega, hc21⟩ (Ref_T (fun K24 r24 => ?_))
  obtain ⟨o1, o2, o3⟩ := r24
  have C24 : IsC K24 o 3 := ⟨by rw [o1]; omega, by rw [o1]; exact hc21⟩
  refine T_ckP C24 (T_nm (T_ckP C24 (T_nm (T_some ?_))))
  have q6 : (6 : Int).toNat = 6 := rfl
  have q9 : (9 : Int).toNat = 9 := rfl
  have sh9 : ∀ k, k ≤ o + 8 → K24.2.1 k = K9.2.1 k := fun k hk => by rw [o1, m3 k (by omega), l1, j5 k (by omega), i3 k (by omega), g1]
  have sh4 : ∀ k, k ≤ o + 7 → K24.2.1 k = K4.2.1 k := fun k hk => by rw [sh9 k (by omega), d3 k (by omega), c1]
  have rf9 : ∀ k j, k ≤ o + 8 → k ≠ o → K24.1 k j = K9.1 k j := fun k j hk hne => by rw [o3 k j (by omega), m5 k j (by omega), l3 k j (by omega), j6 k j (by omega), i5 k j (by omega), g3 k j (by omega)]
  have rf4 : ∀ k j, k ≤ o + 7 → k ≠ o → K24.1 k j = K4.1 k j := fun k j hk hne => by rw [rf9 k j (by omega) hne, d5 k j (by omega), c3 k j (by omega)]
  have ss : ∀ k, k ≤ o + 7 → σ22 k = σ5 k := fun k hk => by rw [m7 k (by omega), j7 k (by omega), i7 k (by omega), d7 k (by omega)]
  refine ⟨by dsimp only; rw [o1]; omega, ?_, fun k hk => ?_, fun k j hk => ?_, fun k hk => ?_, ⟨?_, ?_, ?_, ?_⟩, ?_, fun j hj => ⟨?_, ?_⟩, ?_, fun i => ?_, ?_, ?_, ?_, ?_, ?_, ?_, ?_⟩ <;> dsimp only
  · rw [o1, m2, l1, j2, i2, g1, d2, c1, b2, a2]; omega
  · rw [sh4 k (by omega), b5 k (by omega), a3 k (by omega)]
  · rw [rf4 k j (by omega) (by omega), b6 k j (by omega), a5 k j (by omega)]
  · rw [up2_o (by omega), up2_o (by omega), ss k (by omega), b7 k (by omega), a7 k (by omega)]
  · rw [o3 _ _ (by omega), m5 _ _ (by omega), l3 _ _ (by omega), j6 _ _ (by omega), i5 _ _ (by omega), g3 _ _ (by omega), d5 _ _ (by omega), c2]
  · rw [o3 _ _ (by omega), m5 _ _ (by omega), l3 _ _ (by omega), j6 _ _ (by omega), i5 _ _ (by omega), g2]
  · rw [o3 _ _ (by omega), m5 _ _ (by omega), l2]
  · exact o2
  · rw [sh4 (o + 1) (by omega)]; exact b3
  · rw [rf4 (o + 1) j (by omega) (by omega), (b4 j hj).1]
  · have := (b4 j hj).2
    rw [show o + 2 + j = o + 1 + 1 + j by omega, sh4 _ (by omega), this]
    split <;> rfl
  · rw [sh9 _ (by omega), d4]; rfl
  · rw [rf9 _ _ (by omega) (by omega), d6]
  · rw [o1, m3 _ (by omega), l1, j5 _ (by omega), i4]
  · rw [o3 _ _ (by omega), m5 _ _ (by omega), l3 _ _ (by omega), j3]
  · rw [o1, m3 _ (by omega), l1, show o + 10 = o + 9 + 1 by omega, j4]
  · rw [o1, m4]; rfl
  · rw [up2_c, upw_n (by omega), up2_c, upw_s]
  · rw [up2_c, upw_s]
  · rw [up2_o (by omega), up2_o (by omega), ss _ (by omega)]; exact b8
theorem hl_lt {K : Kt} {o : Nat} (h : hallAt K o) : o + 13 < K.2.2.1 := (h.2 (16, 13, 4) (List.mem_of_getElem? (i := 12) rfl)).2.1
/-- an image is made: nothing below it has changed -/
def ImgNew (K0 : Kt) (σ0 : Sg) (o : Nat) (K : Kt) (σ : Sg) : Prop := K.2.2.1 = o + 27 ∧ K.2.2.2 = K0.2.2.2 + 193 ∧ (∀ k, k ≤ o → K.2.1 k = K0.2.1 k) ∧ (∀ k j, k < o → K.1 k j = K0.1 k j) ∧ (∀ k, k < o → σ k = σ0 k)
  ∧ (K.2.1 o).1 = 2 ∧ K.1 o 0 = some (o + 1) ∧ K.1 o 1 = some (o + 13) ∧ (K.2.1 (o + 1)).1 = 3 ∧ K.1 (o + 1) 1 = some (o + 9) ∧ K.2.1 (o + 9) = (23, 6) ∧ hallAt K (o + 13) ∧ ∀ i, K.1 (o + 9) i = none
theorem c_imgInit {K : Kt} {σ : Sg} {o : Nat} (h : K.2.2.1 = o + 1) (hc : (K.2.1 o).1 = 2) : T (vX2_init o K σ) (fun r => ImgNew K σ o r.1 r.2) := by
  unfold vX2_init
  refine New_T (fun K2 σ3 n2 => ?_)
  obtain ⟨a1, a2, a3, a4, a5, a6, a7, a8⟩ := n2
  rw [h] at a1 a3 a4 a5 a6 a7 a8
  rw [h]
  refine T_bdVK (c_lawsInit (K := K2) (σ := σ3) (o := o + 1) (by omega) (by rw [a4])) (fun K4 σ5 t4 => ?_)
  obtain ⟨b1, b2, b3, b4, b5, ⟨b6, b7, b8, b9⟩, b10, b11, b12, b13, b14, b15, b16, b17, b18, b19, b20⟩ := t4
  dsimp only at b1 b2 b3 b4 b5 b6 b7 b8 b9 b10 b11 b12 b13
  have hc4 : (K4.2.1 o).1 = 2 := by rw [b3 o (by omega), a3 o (by omega)]; exact hc
  refine T_ckP ⟨by omega, hc4⟩ (Ref_T (fun K7 r7 => ?_))
  obtain ⟨c1, c2, c3⟩ := r7
  have e7 : K7.2.2.1 = o + 13 := by rw [c1]; omega
  refine New_T (fun K9 σ10 n9 => ?_)
  obtain ⟨d1, d2, d3, d4, d5, d6, d7, d8⟩ := n9
  rw [e7] at d1 d3 d4 d5 d6 d7 d8
  rw [e7]
  have hc9 : (K9.2.1 o).1 = 2 := by rw [d3 o (by omega), c1]; exact hc4
  refine T_ckP ⟨by omega, hc9⟩ ?_
  rw [d5 o 0 (by omega), c2, Option.bind_some]
  refine T_bdVK (c_hallInit (K := K9) (σ := σ10) (o := o + 13) (by omega) (by rw [d4])) (fun K13 σ14 t13 => ?_)
  obtain ⟨i1, i2, i3, i4, i5, i6, i7, i8⟩ := t13
  dsimp only at i1 i2 i3 i4 i5 i6 i7
  have hc13 : (K13.2.1 o).1 = 2 := by rw [i5 o (by omega)]; exact hc9
  refine T_ckP ⟨by omega, hc13⟩ (Ref_T (fun K16 r16 => T_some ?_))
  obtain ⟨l1, l2, l3⟩ := r16
  have sh : ∀ k, k ≤ o + 12 → K16.2.1 k = K4.2.1 k := fun k hk => by rw [l1, i5 k (by omega), d3 k (by omega), c1]
  have rf : ∀ k j, k ≤ o + 12 → k ≠ o → K16.1 k j = K4.1 k j := fun k j hk hne => by rw [l3 k j (by omega), i6 k j (by omega), d5 k j (by omega), c3 k j (by omega)]
  refine ⟨by dsimp only; rw [l1]; omega, ?_, fun k hk => ?_, fun k j hk => ?_, fun k hk => ?_, ?_, ?_, ?_, ?_, ?_, ?_, ?_, fun i => ?_⟩ <;> dsimp only
  · rw [l1, i2, d2, c1, b2, a2]
  · rw [sh k (by omega), b3 k (by omega), a3 k (by omega)]
  · rw [rf k j (by omega) (by omega), b4 k j (by omega), a5 k j (by omega)]
  · rw [i7 k (by omega), d7 k (by omega), b5 k (by omega), a7 k (by omega)]
  · rw [l1]; exact hc13
  · rw [l3 _ _ (by omega), i6 _ _ (by omega), d5 _ _ (by omega), c2]
  · exact l2
  · rw [sh _ (by omega), b3 _ (by omega), a4]
  · rw [rf _ _ (by omega) (by omega), b7]
  · rw [sh _ (by omega)]; exact b12
  · refine ⟨⟨by rw [l1]; exact i3.1.1, by rw [l1]; exact i3.1.2⟩, fun p hp => ⟨?_, by rw [l1]; exact (i3.2 p hp).2.1, by rw [l1]; exact (i3.2 p hp).2.2⟩⟩
    rw [l3 _ _ (by omega)]; exact (i3.2 p hp).1
  · rw [rf _ _ (by omega) (by omega)]; exact b13 i
