/-! ===== how likely a reader is whole yet ===== -/
def wk (r : Int) (A : Nat → Int) (j : Nat) : Int := Int.tdiv (A j * (10 - r)) 10 + (if j = 0 then 0 else Int.tdiv (A (j - 1) * r) 10)
def WK (r : Int) : Nat → Nat → Int
  | 0 => fun j => if j = 0 then 1000000000000 else 0
  | m + 1 => wk r (WK r m)
def smS (A : Nat → Int) : Nat → Int
  | 0 => 0
  | k + 1 => smS A k + A k
def okA (A : Nat → Int) : Prop := ∀ j, 0 ≤ A j ∧ A j ≤ 1000000000000
theorem ml_b {a s : Int} (ha : 0 ≤ a ∧ a ≤ 1000000000000) (hs : 0 ≤ s ∧ s ≤ 10) : 0 ≤ a * s ∧ a * s ≤ 1000000000000 * s := ⟨Int.mul_nonneg ha.1 hs.1, Int.mul_le_mul_of_nonneg_right ha.2 hs.1⟩
theorem td_10 {x : Int} (h : 0 ≤ x) : Int.tdiv x 10 = x / 10 := Int.tdiv_eq_ediv_of_nonneg h
theorem wk_ok {r : Int} {A : Nat → Int} (hr : 0 ≤ r ∧ r ≤ 10) (h : okA A) : okA (wk r A) := by
  intro j
  have a := ml_b (h j) (s := 10 - r) (by omega)
  have b := ml_b (h (j - 1)) hr
  unfold wk
  rw [td_10 a.1, td_10 b.1]
  split <;> omega
theorem WK_ok {r : Int} (hr : 0 ≤ r ∧ r ≤ 10) : ∀ m, okA (WK r m)
  | 0 => fun j => by show 0 ≤ (if j = 0 then (1000000000000 : Int) else 0) ∧ (if j = 0 then (1000000000000 : Int) else 0) ≤ _; split <;> omega
  | m + 1 => wk_ok hr (WK_ok hr m)
theorem smS_b {A : Nat → Int} (h : okA A) : ∀ k : Nat, 0 ≤ smS A k ∧ smS A k ≤ 1000000000000 * (k : Int)
  | 0 => by rw [smS]; omega
  | k + 1 => by have := smS_b h k; have := h k; rw [smS]; omega
theorem smS_c {A B : Nat → Int} : ∀ k : Nat, (∀ i, i < k → A i = B i) → smS A k = smS B k
  | 0, _ => rfl
  | k + 1, h => by rw [smS, smS, smS_c k (fun i hi => h i (by omega)), h k (by omega)]
theorem c_whole_68 {K : Kt} {rec : Int → Int → Int → Int → Sg → Option (Int × Sg)} {σ0 : Sg} {n r w : Int} {k : Nat} {A : Nat → Int} {Q : Int × Sg → Prop} (hk : k ≤ 20) (hr : 0 ≤ r ∧ r ≤ 10) (hw : 0 ≤ w ∧ w ≤ 99) (hA : okA A)
    (cont : ∀ σ, Sme (fun c => c = 80) σ0 σ → (∀ i, i < k → σ 80 i = wk r A i) → T (rec n r (k : Int) (w + 1) σ) Q) :
    ∀ (f j : Nat) (σ : Sg), j < f → j ≤ k → Sme (fun c => c = 80) σ0 σ → (∀ i, i < j → σ 80 i = A i) → (∀ i, j ≤ i → i < k → σ 80 i = wk r A i) → T (vX0_chanceWhole_68 K rec f n r (k : Int) w ((j : Int) - 1) σ) Q := by
  intro f
  induction f with
  | zero => intro j σ h; omega
  | succ f ih =>
    intro j σ hf hj hS h1 h2
    rw [vX0_chanceWhole_68]
    refine T_ite (fun h => ?_) (fun h => ?_)
    · with_reducible refine T_ck (by omega) ?_
      exact cont σ hS (fun i hi => h2 i (by omega) hi)
    · obtain ⟨m, rfl⟩ : ∃ m, j = m + 1 := ⟨j - 1, by omega⟩
      have em : ((m + 1 : Nat) : Int) - 1 = (m : Int) := by omega
      rw [em]
      have a := ml_b (hA m) (s := 10 - r) (by omega)
      have b := ml_b (hA (m - 1)) hr
      have wb := wk_ok hr hA m
      have fin : ∀ y, y = (if m = 0 then 0 else Int.tdiv (A (m - 1) * r) 10) → T (vX0_chanceWhole_98 K rec (vX0_chanceWhole_68 K rec f) n r (k : Int) w (m : Int) y σ) Q := by
        intro y hy
        unfold vX0_chanceWhole_98
        have ew : Int.tdiv (A m * (10 - r)) 10 + y = wk r A m := by rw [hy]; rfl
        rw [Int.toNat_natCast, h1 m (by omega), ew]
        have t1 := td_10 a.1
        repeat (with_reducible first | refine T_ck (by omega) ?_ | refine T_nm ?_)
        rw [show (m : Int) + -1 = (m : Int) - 1 by omega]
        refine ih m _ (by omega) (by omega) (Sme_u hS rfl) (fun i hi => ?_) (fun i hi hik => ?_)
        · rw [up2_c, upw_n (by omega)]; exact h1 i (by omega)
        · rw [up2_c]
          by_cases e : i = m
          · rw [e, upw_s]
          · rw [upw_n e]; exact h2 i (by omega) hik
      refine T_ite (fun h0 => fin 0 (by rw [if_pos (by omega)])) (fun h0 => ?_)
      rw [show ((m : Int) - 1).toNat = m - 1 by omega, h1 (m - 1) (by omega)]
      have t2 := td_10 b.1
      repeat (with_reducible first | refine T_ck (by omega) ?_ | refine T_nm ?_)
      exact fin _ (by rw [if_neg (by omega)])
theorem c_whole_145 {K : Kt} {σ : Sg} {k : Nat} {A : Nat → Int} (hk : k ≤ 20) (hA : okA A) (h : ∀ i, i < k → σ 80 i = A i) : ∀ (f j : Nat), k - j < f → j ≤ k → T (vX0_chanceWhole_145 K f (k : Int) (smS A j) (j : Int) σ) (fun p => p.1 = smS A k ∧ p.2 = σ) := by
  intro f
  induction f with
  | zero => intro j h; omega
  | succ f ih =>
    intro j hf hj
    rw [vX0_chanceWhole_145]
    refine T_ite (fun hlt => ?_) (fun hlt => ?_)
    · have es : smS A (j + 1) = smS A j + A j := rfl
      have b := smS_b hA (j + 1)
      rw [Int.toNat_natCast, h j (by omega), ← es, show (j : Int) + 1 = ((j + 1 : Nat) : Int) by omega]
      repeat (with_reducible first | refine T_ck (by omega) ?_ | refine T_nm ?_)
      exact ih (j + 1) (by omega) (by omega)
    · rw [show k = j by omega]
      exact T_some ⟨rfl, rfl⟩
theorem c_whole_56 {K : Kt} {σ0 : Sg} {r : Int} {k n : Nat} (hk : k ≤ 20) (hn : n ≤ 99) (hr : 0 ≤ r ∧ r ≤ 10) : ∀ (f m : Nat) (σ : Sg), n - m < f → m ≤ n → Sme (fun c => c = 80) σ0 σ → (∀ i, i < k → σ 80 i = WK r m i) → T (vX0_chanceWhole_56 K f (n : Int) r (k : Int) (m : Int) σ) (fun p => Sme (fun c => c = 80) σ0 p.2 ∧ p.1 = smS (WK r n) k) := by
  intro f
  induction f with
  | zero => intro m σ h; omega
  | succ f ih =>
    intro m σ hf hm hS h
    rw [vX0_chanceWhole_56]
    refine T_ite (fun hlt => ?_) (fun hlt => ?_)
    · with_reducible refine T_ck (by omega) ?_
      refine T_nm ?_
      refine c_whole_68 (A := WK r m) hk hr (by omega) (WK_ok hr m) (fun σ1 hS1 h1 => ?_) FU k σ (by have := FU_b; omega) (by omega) hS h (fun i a b => by omega)
      rw [show (m : Int) + 1 = ((m + 1 : Nat) : Int) by omega]
      exact ih (m + 1) σ1 (by omega) (by omega) hS1 h1
    · have e : m = n := by omega
      subst e
      refine T_mono (c_whole_145 (K := K) hk (WK_ok hr m) h FU 0 (by have := FU_b; omega) (by omega)) (fun p hp => ⟨by rw [hp.2]; exact hS, hp.1⟩)
theorem c_whole_21 {K : Kt} {σ0 : Sg} {r : Int} {k n : Nat} (hk : k ≤ 20) (hn : n ≤ 99) (hr : 0 ≤ r ∧ r ≤ 10) : ∀ (f m : Nat) (σ : Sg), k - m < f → m ≤ k → Sme (fun c => c = 80) σ0 σ → (∀ i, i < m → σ 80 i = WK r 0 i) → T (vX0_chanceWhole_21 K f (n : Int) r (k : Int) (m : Int) σ) (fun p => Sme (fun c => c = 80) σ0 p.2 ∧ p.1 = smS (WK r n) k) := by
  intro f
  induction f with
  | zero => intro m σ h; omega
  | succ f ih =>
    intro m σ hf hm hS h
    rw [vX0_chanceWhole_21]
    refine T_ite (fun hlt => ?_) (fun hlt => ?_)
    · have go : ∀ y, y = WK r 0 m → T (vX0_chanceWhole_46 K (vX0_chanceWhole_21 K f) (n : Int) r (k : Int) (m : Int) (m : Int) y σ) (fun p => Sme (fun c => c = 80) σ0 p.2 ∧ p.1 = smS (WK r n) k) := by
        intro y hy
        unfold vX0_chanceWhole_46
        repeat (with_reducible first | refine T_ck (by omega) ?_ | refine T_nm ?_)
        rw [show (m : Int) + 1 = ((m + 1 : Nat) : Int) by omega, Int.toNat_natCast]
        refine ih (m + 1) _ (by omega) (by omega) (Sme_u hS rfl) (fun i hi => ?_)
        rw [up2_c]
        by_cases e : i = m
        · rw [e, upw_s]; exact hy
        · rw [upw_n e]; exact h i (by omega)
      refine T_ite (fun h0 => go _ ?_) (fun h0 => go _ ?_)
      · show _ = if m = 0 then (1000000000000 : Int) else 0
        rw [if_pos (by omega)]
      · show _ = if m = 0 then (1000000000000 : Int) else 0
        rw [if_neg (by omega)]
    · have e : m = k := by omega
      subst e
      exact c_whole_56 hk hn hr FU 0 σ (by have := FU_b; omega) (by omega) hS h
theorem m_whole_83 {rec : Int → Int → Int → Int → Sg → Option (Int × Sg)} {σ0 : Sg} {n r w B : Int} {k : Nat} {A : Nat → Int} {Q : Int × Sg → Prop} (hk : k ≤ 20) (hr : 0 ≤ r ∧ r ≤ 10) (hw : 0 ≤ w ∧ w ≤ 99) (hA : okA A) (hB : 0 ≤ B ∧ B ≤ 200000000000000)
    (cont : ∀ σ, Sme (fun c => c = 111) σ0 σ → (∀ i, i < k → σ 111 i = wk r A i) → (0 ≤ σ 111 k ∧ σ 111 k ≤ B + 1000000000000) → T (rec (k : Int) n r (w + 1) σ) Q) :
    ∀ (f j : Nat) (σ : Sg), j < f → j ≤ k → Sme (fun c => c = 111) σ0 σ → (∀ i, i < j → σ 111 i = A i) → (j < k → σ 111 j = Int.tdiv (A j * (10 - r)) 10) → (∀ i, j < i → i < k → σ 111 i = wk r A i) → (0 ≤ σ 111 k ∧ σ 111 k ≤ B ∨ (j < k ∧ 0 ≤ σ 111 k ∧ σ 111 k ≤ B + 1000000000000)) → T (vX10_whole_83 rec f (k : Int) n r w ((j : Int) - 1) σ) Q := by
  intro f
  induction f with
  | zero => intro j σ h; omega
  | succ f ih =>
    intro j σ hf hj hS h1 hjk h2 hg
    rw [vX10_whole_83]
    refine T_ite (fun h => ?_) (fun h => ?_)
    · with_reducible refine T_ck (by omega) ?_
      refine cont σ hS (fun i hi => ?_) (by omega)
      by_cases e : i = 0
      · have e0 : j = 0 := by omega
        subst e0
        rw [e, hjk (by omega)]
        unfold wk
        rw [if_pos rfl, Int.add_zero]
      · exact h2 i (by omega) hi
    · obtain ⟨m, rfl⟩ : ∃ m, j = m + 1 := ⟨j - 1, by omega⟩
      have em : ((m + 1 : Nat) : Int) - 1 = (m : Int) := by omega
      rw [em]
      have a := ml_b (hA m) (s := 10 - r) (by omega)
      have b := ml_b (hA m) hr
      have t1 := td_10 a.1
      have t2 := td_10 b.1
      with_reducible refine T_ck (by omega) ?_
      refine T_nm ?_
      rw [Int.toNat_natCast, h1 m (by omega)]
      with_reducible refine T_ck (by omega) ?_
      with_reducible refine T_ck (by omega) ?_
      with_reducible refine T_ck (by omega) ?_
      with_reducible refine T_ck (by omega) ?_
      refine T_nm ?_
      rw [show ((m : Int) + 1).toNat = m + 1 by omega]
      have e1 : up2 σ 111 m (Int.tdiv (A m * (10 - r)) 10) 111 (m + 1) = σ 111 (m + 1) := by rw [up2_c, upw_n (by omega)]
      rw [e1]
      have hb : 0 ≤ σ 111 (m + 1) ∧ σ 111 (m + 1) ≤ 200000000000000 := by
        by_cases e : m + 1 < k
        · rw [hjk e]
          have a' := ml_b (hA (m + 1)) (s := 10 - r) (by omega)
          rw [td_10 a'.1]; omega
        · have : m + 1 = k := by omega
          rw [this]; omega
      repeat (with_reducible first | refine T_ck (by omega) ?_ | refine T_nm ?_)
      rw [show (m : Int) + -1 = (m : Int) - 1 by omega]
      refine ih m _ (by omega) (by omega) (Sme_u (Sme_u hS rfl) rfl) (fun i hi => ?_) (fun _ => ?_) (fun i hi hik => ?_) ?_
      · rw [up2_c, upw_n (by omega), up2_c, upw_n (by omega)]; exact h1 i (by omega)
      · rw [up2_c, upw_n (by omega), up2_c, upw_s]
      · by_cases e : i = m + 1
        · rw [e, up2_c, upw_s, hjk (by omega)]
          unfold wk
          rw [if_neg (by omega), show m + 1 - 1 = m by omega]
        · rw [up2_c, upw_n e, up2_c, upw_n (by omega)]; exact h2 i (by omega) hik
      · by_cases e : m + 1 = k
        · right
          rw [← e, up2_c, upw_s]
          rw [← e] at hg
          refine ⟨by omega, by omega, by omega⟩
        · rw [up2_c, upw_n (by omega), up2_c, upw_n (by omega)]
          omega
theorem m_whole_155 {σ : Sg} {k : Nat} {A : Nat → Int} (hk : k ≤ 20) (hA : okA A) (h : ∀ i, i < k → σ 111 i = A i) : ∀ (f j : Nat), k - j < f → j ≤ k → T (vX10_whole_155 f (k : Int) (smS A j) (j : Int) σ) (fun p => p.1 = smS A k ∧ p.2 = σ) := by
  intro f
  induction f with
  | zero => intro j h; omega
  | succ f ih =>
    intro j hf hj
    rw [vX10_whole_155]
    refine T_ite (fun hlt => ?_) (fun hlt => ?_)
    · have es : smS A (j + 1) = smS A j + A j := rfl
      have b := smS_b hA (j + 1)
      rw [Int.toNat_natCast, h j (by omega), ← es, show (j : Int) + 1 = ((j + 1 : Nat) : Int) by omega]
      repeat (with_reducible first | refine T_ck (by omega) ?_ | refine T_nm ?_)
      exact ih (j + 1) (by omega) (by omega)
    · rw [show k = j by omega]
      exact T_some ⟨rfl, rfl⟩
theorem m_whole_72 {σ0 : Sg} {r : Int} {k n : Nat} (hk : k ≤ 20) (hn : n ≤ 99) (hr : 0 ≤ r ∧ r ≤ 10) : ∀ (f m : Nat) (σ : Sg), n - m < f → m ≤ n → Sme (fun c => c = 111) σ0 σ → (∀ i, i < k → σ 111 i = WK r m i) → (0 ≤ σ 111 k ∧ σ 111 k ≤ 1000000000000 * (m : Int)) → T (vX10_whole_72 f (k : Int) (n : Int) r (m : Int) σ) (fun p => Sme (fun c => c = 111) σ0 p.2 ∧ p.1 = smS (WK r n) k) := by
  intro f
  induction f with
  | zero => intro m σ h; omega
  | succ f ih =>
    intro m σ hf hm hS h hg
    rw [vX10_whole_72]
    refine T_ite (fun hlt => ?_) (fun hlt => ?_)
    · with_reducible refine T_ck (by omega) ?_
      refine T_nm ?_
      refine m_whole_83 (A := WK r m) (B := 1000000000000 * (m : Int)) hk hr (by omega) (WK_ok hr m) (by omega) (fun σ1 hS1 h1 hg1 => ?_) FU k σ (by have := FU_b; omega) (by omega) hS h (fun h => by omega) (fun i a b => by omega) (Or.inl hg)
      rw [show (m : Int) + 1 = ((m + 1 : Nat) : Int) by omega]
      exact ih (m + 1) σ1 (by omega) (by omega) hS1 h1 (by omega)
    · have e : m = n := by omega
      subst e
      refine T_mono (m_whole_155 hk (WK_ok hr m) h FU 0 (by have := FU_b; omega) (by omega)) (fun p hp => ⟨by rw [hp.2]; exact hS, hp.1⟩)
theorem m_whole_35 {σ0 : Sg} {r : Int} {k n : Nat} (hk0 : 0 < k) (hk : k ≤ 20) (hn : n ≤ 99) (hr : 0 ≤ r ∧ r ≤ 10) (h6 : σ0 86 6 = r) : ∀ (f m : Nat) (σ : Sg), 21 - m < f → m ≤ 21 → Sme (fun c => c = 111) σ0 σ → (∀ i, i < m → σ 111 i = 0) → T (vX10_whole_35 f (k : Int) (n : Int) (m : Int) σ) (fun p => Sme (fun c => c = 111) σ0 p.2 ∧ p.1 = smS (WK r n) k) := by
  intro f
  induction f with
  | zero => intro m σ h; omega
  | succ f ih =>
    intro m σ hf hm hS h
    rw [vX10_whole_35]
    refine T_ite (fun hlt => ?_) (fun hlt => ?_)
    · repeat (with_reducible first | refine T_ck (by omega) ?_ | refine T_nm ?_)
      rw [show (m : Int) + 1 = ((m + 1 : Nat) : Int) by omega, Int.toNat_natCast]
      refine ih (m + 1) _ (by omega) (by omega) (Sme_u hS rfl) (fun i hi => ?_)
      rw [up2_c]
      by_cases e : i = m
      · rw [e, upw_s]
      · rw [upw_n e]; exact h i (by omega)
    · refine T_nm ?_
      rw [m_term (by omega), Option.bind_some]
      have e6 : up2 σ 111 0 1000000000000 86 (Int.toNat (4 + 2)) = r := by rw [up2_o (by omega), hS 86 (by omega)]; exact h6
      rw [e6]
      refine m_whole_72 hk hn hr FU 0 _ (by have := FU_b; omega) (by omega) (Sme_u hS rfl) (fun i hi => ?_) ?_
      · show _ = if i = 0 then (1000000000000 : Int) else 0
        rw [up2_c]
        by_cases e : i = 0
        · rw [if_pos e, e, upw_s]
        · rw [if_neg e, upw_n e]; exact h i (by omega)
      · rw [up2_c, upw_n (by omega), h k (by omega)]; omega
theorem s_whole {K : Kt} {σ : Sg} {n a b : Int} (hI : Inv K σ n) : St2 K n (vX9_whole K a b σ) (vX10_whole a b) := by
  obtain ⟨⟨hK, ⟨hW, hH⟩, hL, hU, hD, hT, hM, hC⟩, hS⟩ := id hI
  have h6 := hW.2.1.2.2.1
  have g6 : σ 26 2 = σ 86 6 := hH.2.2.2.2.2.2.1
  have no : ¬ ((1 ≤ a ∧ a ≤ 20) ∧ (0 ≤ b ∧ b ≤ 99)) → T (vX10_whole a b σ) (fun q => q.1 = -1 ∧ Inv K q.2 (n + 1)) := by
    intro h
    unfold vX10_whole
    refine T_nm ?_
    rw [m_in, Option.bind_some, m_in, Option.bind_some]
    have hI' := Inv_scr hI (Scr_0 (z := 0) Scr_r)
    exact T_ite (fun _ => T_some ⟨rfl, hI'⟩) (fun h1 => T_t (bI_f (fun h2 => h ⟨Classical.not_not.mp (fun c => h1 (bI_f c)), h2⟩)) (T_some ⟨rfl, hI'⟩))
  unfold vX9_whole
  rw [c_within, Option.bind_some, c_within, Option.bind_some]
  by_cases ha : 1 ≤ a ∧ a ≤ 20
  · refine T_f (by rw [bI_t ha]; omega) ?_
    by_cases hb : 0 ≤ b ∧ b ≤ 99
    · refine T_f (by rw [bI_t hb]; omega) ?_
      obtain ⟨k, hk, -⟩ := bI_n a (by omega)
      obtain ⟨m, hm, -⟩ := bI_n b (by omega)
      subst hk; subst hm
      unfold vX0_chanceWhole
      refine T_bd2 (R := fun p => Sme (fun c => c = 80) σ p.2 ∧ p.1 = smS (WK (σ 86 6) m) k) (T_nm (T_nm ?_)) (fun r σ1 h1 => T_some ?_)
      · rw [g6, show imin (k : Int) 20 = (k : Int) by unfold imin; split <;> omega]
        exact c_whole_21 (by omega) (by omega) h6 FU 0 σ (by have := FU_b; omega) (by omega) Sme_r (fun i hi => by omega)
      · dsimp only at h1 ⊢
        obtain ⟨S1, hr⟩ := h1
        have hs := Scr_0 (z := 0) (Scr_s (Sme_m S1 (fun k hk => by unfold scA; omega)))
        unfold vX10_whole
        refine T_nm ?_
        rw [m_in, Option.bind_some]
        refine T_f (by rw [bI_t ha]; omega) ?_
        rw [m_in, Option.bind_some]
        refine T_f (by rw [bI_t hb]; omega) ?_
        have e6 : up2 σ1 84 0 0 86 6 = σ 86 6 := by rw [hs.1 86 (by omega) (by unfold scA; omega)]
        refine T_mono (m_whole_35 (σ0 := up2 σ1 84 0 0) (k := k) (n := m) (by omega) (by omega) (by omega) h6 e6 FU 0 _ (by have := FU_b; omega) (by omega) Sme_r (fun i hi => by omega)) (fun q hq => ⟨by rw [hq.2, hr], Inv_scr hI (Scr_t hs (Scr_s (Sme_m hq.1 (fun k hk => by unfold scA; omega))))⟩)
    · exact T_t (bI_f hb) (T_some (no (fun h => hb h.2)))
  · exact T_t (bI_f ha) (T_some (no (fun h => ha h.1)))
