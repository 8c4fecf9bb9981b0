/-! ===== images ===== -/
theorem LawAll_q {K : Kt} {σ : Sg} {ta la : Nat} {ρ ρ' : Nat → Int} (h : LawAll K σ ta la ρ) (hr : ρ 2 ≤ 6) (r2 : ρ' 2 = ρ 2) (r3 : ρ' 3 = ρ 3) (rh : ∀ i, 105 ≤ i → i < 5505 → ρ' i = ρ i) : LawAll K σ ta la ρ' := by
  obtain ⟨a, b, c⟩ := h
  refine ⟨by rw [r2]; exact a, by rw [r3]; exact b, fun i hi => ?_⟩
  rw [r2] at hi
  obtain ⟨q, e, n, kd, ts, fs, x, y⟩ := c i hi
  exact ⟨q, e, n, kd, ts, fs, x, MLaw_q y (by omega) rh⟩
theorem StK_2 {K : Kt} {n : Int} {c : Option (Int × Sg)} {m : Sg → Option (Int × Sg)} (h : St2 K n c m) : StK K n (bd2 c (fun r s => some (r, K, s))) m := by
  obtain ⟨⟨r, s⟩, e, hq⟩ := h
  rw [e, bd2_some]
  exact T_some ⟨RmL_r Rm_r, hq⟩
/-- an array of texts is filled anew -/
theorem Shp_ta {K K' : Kt} {a : Nat} (hK : Shp K) (e2 : K'.2 = K.2) (ek : (K.2.1 a).1 = 23) (al : a < K.2.2.1) (eo : ∀ k j, k ≠ a → K'.1 k j = K.1 k j) (tx : ∀ i q, i < 6 → K'.1 a i = some q → TxtAt K q ∧ 115 ≤ q) : Ext K K' ∧ Shp K' := by
  have ex : Ext K K' := ⟨by rw [e2]; omega, fun k _ => by rw [e2], fun k j hk hl => eo k j (fun e => by rw [e] at hl; omega)⟩
  obtain ⟨⟨c1, c2, c3⟩, t9, u28, u31, d28, d31, dx, im, im2⟩ := id hK
  have k28 := (lcA_28 c1).2
  have k31 := (lcA_31 c1).2
  have k81 := (lcA_81 c1).2
  have n28 : 28 ≠ a := fun e => by rw [← e, k28] at ek; omega
  have n31 : 31 ≠ a := fun e => by rw [← e, k31] at ek; omega
  have n81 : 81 ≠ a := fun e => by rw [← e, k81] at ek; omega
  have e28 : ∀ i, K'.1 28 i = K.1 28 i := fun i => eo 28 i n28
  have e31 : ∀ i, K'.1 31 i = K.1 31 i := fun i => eo 31 i n31
  have e81 : ∀ i, K'.1 81 i = K.1 81 i := fun i => eo 81 i n81
  have txa : ∀ ta, txs K ta → txs K' ta := fun ta h i q hi e => by
    by_cases h2 : ta = a
    · rw [h2] at e
      exact ⟨TxtAt_x (tx i q hi e).1 ex, (tx i q hi e).2⟩
    · rw [eo ta i h2] at e
      exact ⟨TxtAt_x (h i q hi e).1 ex, (h i q hi e).2⟩
  refine ⟨ex, ⟨cLay_x c1 ex, mLay_x c2 ex, by rw [e2]; exact c3⟩, txa 9 t9, ?_, ?_, ?_, ?_, ?_, ?_, ?_⟩
  · intro i h hi e; rw [e28] at e; exact uH_x (u28 i h hi e) ex
  · intro i h hi e; rw [e31] at e; exact uH_x (u31 i h hi e) ex
  · intro i j h hi hj e e'; rw [e28] at e e'; exact d28 i j h hi hj e e'
  · intro i j h hi hj e e'; rw [e31] at e e'; exact d31 i j h hi hj e e'
  · intro i j h hi hj e; rw [e28] at e; rw [e31]; exact dx i j h hi hj e
  · intro k m hk e
    rw [e81] at e
    obtain ⟨⟨i1, i2, i3, i4, i5, i6, i7, i8, i9⟩, dd⟩ := im k m hk e
    have na : ∀ c t, (K.2.1 c).1 = t → t < 23 → c ≠ a := fun c t h1 h2 h3 => by rw [h3, ek] at h1; omega
    refine ⟨⟨IsC_x i1 ex, by rw [eo m 0 (na m 2 i1.2 (by omega))]; exact i2, by rw [eo m 1 (na m 2 i1.2 (by omega))]; exact i3, IsC_x i4 ex, by rw [eo (m + 1) 1 (na _ 3 i4.2 (by omega))]; exact i5, IsA_x i6 ex, hallAt_x i7 ex, i8, txa _ i9⟩, fun i hi => by rw [e28, e31]; exact dd i hi⟩
  · intro m e; rw [e81] at e ⊢; exact im2 m e
/-- a new image is held -/
theorem Shp_im {K K' : Kt} {k0 : Nat} (hK : Shp K) (hk0 : k0 < 2) (cl : K.2.2.1 ≤ K'.2.2.1) (sh : ∀ k, k < K.2.2.1 → K'.2.1 k = K.2.1 k) (rf : ∀ k j, k < K.2.2.1 → ¬ (k = 81 ∧ j = k0) → K'.1 k j = K.1 k j) (hn : K.1 81 k0 = none) (e : K'.1 81 k0 = some K.2.2.1) (hA : ImgAt K' K.2.2.1) : Ext K K' ∧ Shp K' := by
  obtain ⟨⟨c1, c2, c3⟩, t9, u28, u31, d28, d31, dx, im, im2⟩ := id hK
  have k81 := (lcA_81 c1).2
  have ex : Ext K K' := ⟨cl, sh, fun k j hk hl => rf k j hk (fun e => by rw [e.1, k81] at hl; omega)⟩
  have e28 : ∀ i, K'.1 28 i = K.1 28 i := fun i => rf 28 i (by omega) (by omega)
  have e31 : ∀ i, K'.1 31 i = K.1 31 i := fun i => rf 31 i (by omega) (by omega)
  have e81 : ∀ i, i ≠ k0 → K'.1 81 i = K.1 81 i := fun i hi => rf 81 i (by omega) (by omega)
  have txa : ∀ ta, ta < K.2.2.1 → ta ≠ 81 → txs K ta → txs K' ta := fun ta h1 h2 h i q hi e => by
    rw [rf ta i h1 (by omega)] at e
    exact ⟨TxtAt_x (h i q hi e).1 ex, (h i q hi e).2⟩
  refine ⟨ex, ⟨cLay_x c1 ex, mLay_x c2 ex, by omega⟩, txa 9 (by omega) (by omega) t9, ?_, ?_, ?_, ?_, ?_, ?_, ?_⟩
  · intro i h hi e; rw [e28] at e; exact uH_x (u28 i h hi e) ex
  · intro i h hi e; rw [e31] at e; exact uH_x (u31 i h hi e) ex
  · intro i j h hi hj e e'; rw [e28] at e e'; exact d28 i j h hi hj e e'
  · intro i j h hi hj e e'; rw [e31] at e e'; exact d31 i j h hi hj e e'
  · intro i j h hi hj e; rw [e28] at e; rw [e31]; exact dx i j h hi hj e
  · intro k m hk e'
    by_cases q : k = k0
    · rw [q, e] at e'
      injection e' with e'
      subst e'
      refine ⟨hA, fun i hi => ⟨fun w => ?_, fun w => ?_⟩⟩
      · rw [e28] at w
        have := (u28 i _ hi w).1.1.1
        omega
      · rw [e31] at w
        have := (u31 i _ hi w).1.1.1
        omega
    · rw [e81 k q] at e'
      obtain ⟨⟨i1, i2, i3, i4, i5, i6, i7, i8, i9⟩, dd⟩ := im k m hk e'
      have n9 : m + 9 ≠ 81 := by omega
      refine ⟨⟨IsC_x i1 ex, by rw [rf m 0 i1.1 (by omega)]; exact i2, by rw [rf m 1 i1.1 (by omega)]; exact i3, IsC_x i4 ex, by rw [rf (m + 1) 1 i4.1 (by omega)]; exact i5, IsA_x i6 ex, hallAt_x i7 ex, i8, txa _ i6.1 n9 i9⟩, fun i hi => by rw [e28, e31]; exact dd i hi⟩
  · intro m e1 e2
    have lt : ∀ k, k < 2 → k ≠ k0 → K'.1 81 k = some m → m < K.2.2.1 := fun k hk q w => by
      rw [e81 k q] at w
      exact (im k m hk w).1.1.1
    by_cases q : k0 = 0
    · rw [q] at e
      rw [e] at e1
      injection e1 with e1
      have := lt 1 (by omega) (by omega) e2
      omega
    · have q1 : k0 = 1 := by omega
      rw [q1] at e
      rw [e] at e2
      injection e2 with e2
      have := lt 0 (by omega) (by omega) e1
      omega
/-! the laws are copied -/
theorem c_lawCopy_18 {K0 : Kt} {x0 x1 t3 t5 : Nat} {σ : Sg} (hK : Shp K0) (h0 : IsC K0 x0 3) (h1 : IsC K0 x1 3) (e0 : K0.1 x0 1 = some t3) (e1 : K0.1 x1 1 = some t5) (a3 : IsA K0 t3 23 6) (a5 : IsA K0 t5 23 6) (hne : t3 ≠ t5) (hx : txs K0 t5) : ∀ (f x : Nat) (K : Kt), 6 - x < f → x ≤ 6 → K.2 = K0.2 → (∀ k j, ¬ (k = t3 ∧ j < x) → K.1 k j = K0.1 k j) → (∀ j, j < x → K.1 t3 j = K0.1 t5 j) →
    T (vX3_copyFrom_18 x0 f x0 x1 (x : Int) K σ) (fun p => p.2 = σ ∧ p.1.2 = K0.2 ∧ (∀ k j, k ≠ t3 → p.1.1 k j = K0.1 k j) ∧ ∀ j, j < 6 → p.1.1 t3 j = K0.1 t5 j) := by
  intro f
  induction f with
  | zero => intro x K h; omega
  | succ f ih =>
    intro x K hf hx6 g1 g2 g3
    rw [vX3_copyFrom_18]
    have k0 : (K0.2.1 x0).1 = 3 := h0.2
    have k1 : (K0.2.1 x1).1 = 3 := h1.2
    have k3 : (K0.2.1 t3).1 = 23 := by rw [a3.2]
    have n0 : x0 ≠ t3 := fun e => by rw [e] at k0; omega
    have n1 : x1 ≠ t3 := fun e => by rw [e] at k1; omega
    refine T_ite (fun h => ?_) (fun h => ?_)
    · refine T_ckP (by rw [IsC, g1]; exact h0) ?_
      rw [g2 x0 1 (fun q => n0 q.1), e0, Option.bind_some]
      refine T_ckP (by rw [IsC, g1]; exact h1) ?_
      rw [g2 x1 1 (fun q => n1 q.1), e1, Option.bind_some]
      have m5 : (K.2.1 t5).2 = 6 := by rw [g1, a5.2]
      have m3 : (K.2.1 t3).2 = 6 := by rw [g1, a3.2]
      rw [m5, m3]
      refine T_ckP (by rw [IsA, g1]; exact a5) (T_ck (by omega) (T_ckP (by rw [IsA, g1]; exact a3) (T_ckP (fun y hy => ?_) (T_ck (by omega) (T_nm (T_ck (by omega) ?_))))))
      · rw [Int.toNat_natCast, g2 t5 x (fun q => hne q.1.symm)] at hy
        have := (hx x y (by omega) hy).1.1
        rw [IsC, g1]; exact this
      · rw [show (x : Int) + 1 = ((x + 1 : Nat) : Int) by omega, Int.toNat_natCast, g2 t5 x (fun q => hne q.1.symm)]
        refine ih (x + 1) _ (by omega) (by omega) g1 (fun k j hkj => ?_) (fun j hj => ?_)
        · rw [kR_n (fun q => hkj ⟨q.1, by omega⟩)]; exact g2 k j (fun q => hkj ⟨q.1, by omega⟩)
        · by_cases e : j = x
          · rw [e, kR_s]
          · rw [kR_n (fun q => e q.2)]; exact g3 j (by omega)
    · have e : x = 6 := by omega
      subst e
      exact T_some ⟨rfl, g1, fun k j hk => g2 k j (fun q => hk q.1), g3⟩
theorem c_lawCopy {K : Kt} {x0 x1 t3 t5 : Nat} {σ : Sg} (hK : Shp K) (h0 : IsC K x0 3) (h1 : IsC K x1 3) (e0 : K.1 x0 1 = some t3) (e1 : K.1 x1 1 = some t5) (a3 : IsA K t3 23 6) (a5 : IsA K t5 23 6) (hne : t3 ≠ t5) (hn : x0 ≠ x1) (hx : txs K t5) : T (vX3_copyFrom x0 x1 K σ) (fun p => Ext K p.1 ∧ Shp p.1 ∧ p.1.2 = K.2 ∧ (∀ k j, k ≠ t3 → p.1.1 k j = K.1 k j) ∧ (∀ j, j < 6 → p.1.1 t3 j = K.1 t5 j) ∧ (∀ k, k ≠ x0 → p.2 k = σ k) ∧ p.2 x0 4 = σ x1 4 ∧ p.2 x0 5 = σ x1 5) := by
  unfold vX3_copyFrom
  refine T_ckP h1 (T_ckP h0 (T_nm (T_ckP h1 (T_ckP h0 (T_nm ?_)))))
  refine T_mono (c_lawCopy_18 hK h0 h1 e0 e1 a3 a5 hne hx FU 0 K (by have := FU_b; omega) (by omega) rfl (fun _ _ _ => rfl) (fun j hj => by omega)) (fun p hp => ?_)
  obtain ⟨p1, p2, p3, p4⟩ := hp
  obtain ⟨ex, sh⟩ := Shp_ta (a := t3) hK p2 (by rw [a3.2]) a3.1 p3 (fun i q hi e => by rw [p4 i hi] at e; exact hx i q hi e)
  refine ⟨ex, sh, p2, p3, p4, fun k hk => by rw [p1, up2_o hk, up2_o hk], ?_, ?_⟩
  · rw [p1, up2_c, upw_n (by omega), up2_c, upw_s]
  · rw [p1, up2_c, upw_s, up2_o (fun q => hn q.symm)]
/-! the reference keeps the row, and brings it back -/
theorem m_image_23 {σ0 : Sg} {k : Nat} (hk : k < 2) : ∀ (f x : Nat) (σ : Sg), 5505 - x < f → x ≤ 5505 → (∀ c, c ≠ 87 → σ c = σ0 c) → (∀ i, i < x → σ 87 (5505 * k + i) = σ0 86 i) → (∀ i, i < 5505 * k ∨ 5505 * k + x ≤ i → σ 87 i = σ0 87 i) →
    T (vX10_image_23 f (k : Int) (x : Int) σ) (fun p => p.1 = 0 ∧ ∃ σ', p.2 = anM 0 σ' ∧ (∀ c, c ≠ 87 → c ≠ 88 → σ' c = σ0 c) ∧ (∀ i, i < 5505 → σ' 87 (5505 * k + i) = σ0 86 i) ∧ (∀ i, i < 5505 * k ∨ 5505 * k + 5505 ≤ i → σ' 87 i = σ0 87 i) ∧ σ' 88 = upw (σ0 88) k 1) := by
  intro f
  induction f with
  | zero => intro x σ h; omega
  | succ f ih =>
    intro x σ hf hx h1 h2 h3
    rw [vX10_image_23]
    refine T_ite (fun h => ?_) (fun h => ?_)
    · repeat (with_reducible first | refine T_ck (by omega) ?_ | refine T_nm ?_)
      rw [show (x : Int) + 1 = ((x + 1 : Nat) : Int) by omega]
      have ei : (5505 * (k : Int) + (x : Int)).toNat = 5505 * k + x := by omega
      rw [ei, Int.toNat_natCast]
      refine ih (x + 1) _ (by omega) (by omega) (fun c hc => by rw [up2_o hc]; exact h1 c hc) (fun i hi => ?_) (fun j hj => ?_)
      · rw [up2_c]
        by_cases e : i = x
        · rw [e, upw_s, h1 86 (by omega)]
        · rw [upw_n (by omega)]; exact h2 i (by omega)
      · rw [up2_c, upw_n (by omega)]; exact h3 j (by omega)
    · have e : x = 5505 := by omega
      subst e
      refine T_ck ⟨Or.inr rfl, by omega, by omega⟩ (T_nm ?_)
      rw [m_told (by omega) (fun q => by omega), bd2_some, Int.toNat_natCast]
      refine T_some ⟨rfl, _, rfl, fun c c1 c2 => by rw [up2_o c2]; exact h1 c c1, fun i hi => by rw [up2_o (by omega)]; exact h2 i hi, fun i hi => by rw [up2_o (by omega)]; exact h3 i hi, ?_⟩
      rw [up2_c, h1 88 (by omega)]
theorem m_back_39 {σ0 : Sg} {k : Nat} (hk : k < 2) : ∀ (f x : Nat) (σ : Sg), 5505 - x < f → x ≤ 5505 → (∀ c, c ≠ 86 → σ c = σ0 c) → (∀ i, i < x → σ 86 i = σ0 87 (5505 * k + i)) →
    T (vX10_back_39 f (k : Int) (x : Int) σ) (fun p => p.1 = 0 ∧ ∃ σ', p.2 = anM 0 (up2 σ' 84 8 0) ∧ (∀ c, c ≠ 86 → σ' c = σ0 c) ∧ (∀ i, i < 5505 → σ' 86 i = σ0 87 (5505 * k + i))) := by
  intro f
  induction f with
  | zero => intro x σ h; omega
  | succ f ih =>
    intro x σ hf hx h1 h2
    rw [vX10_back_39]
    refine T_ite (fun h => ?_) (fun h => ?_)
    · repeat (with_reducible first | refine T_ck (by omega) ?_ | refine T_nm ?_)
      rw [show (x : Int) + 1 = ((x + 1 : Nat) : Int) by omega]
      have ei : (5505 * (k : Int) + (x : Int)).toNat = 5505 * k + x := by omega
      rw [ei, Int.toNat_natCast]
      refine ih (x + 1) _ (by omega) (by omega) (fun c hc => by rw [up2_o hc]; exact h1 c hc) (fun i hi => ?_)
      · rw [up2_c]
        by_cases e : i = x
        · rw [e, upw_s, h1 87 (by omega)]
        · rw [upw_n (by omega)]; exact h2 i (by omega)
    · have e : x = 5505 := by omega
      subst e
      rw [m_settled (by omega) (fun q => by omega), bd2_some]
      exact T_some ⟨rfl, σ, rfl, h1, h2⟩
