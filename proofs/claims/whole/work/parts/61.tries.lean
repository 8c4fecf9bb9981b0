/-! ===== exploring ===== -/
theorem Fk_u {N : Nat} {p : Nat → Int} {k t : Nat} (ht : t < N) : rmv (Fk N p k) t = Fk N (upw p k (t : Int)) (k + 1) := by
  funext b
  apply propext
  unfold rmv Fk
  constructor
  · rintro ⟨⟨b1, b2⟩, b3⟩
    refine ⟨b1, fun i hi => ?_⟩
    by_cases e : i = k
    · rw [e, upw_s]; omega
    · rw [upw_n e]; exact b2 i (by omega)
  · rintro ⟨b1, b2⟩
    refine ⟨⟨b1, fun i hi => ?_⟩, ?_⟩
    · have := b2 i (by omega)
      rw [upw_n (by omega)] at this
      exact this
    · have := b2 k (by omega)
      rw [upw_s] at this
      omega
theorem Fk_n {N : Nat} {p : Nat → Int} {k : Nat} : Fk N p k = Fk N (upw p k (N : Int)) (k + 1) := by
  funext b
  apply propext
  unfold Fk
  constructor
  · rintro ⟨b1, b2⟩
    refine ⟨b1, fun i hi => ?_⟩
    by_cases e : i = k
    · rw [e, upw_s]; omega
    · rw [upw_n e]; exact b2 i (by omega)
  · rintro ⟨b1, b2⟩
    refine ⟨b1, fun i hi => ?_⟩
    have := b2 i (by omega)
    rw [upw_n (by omega)] at this
    exact this
theorem cnt_u {N : Nat} {p : Nat → Int} {k : Nat} {z : Int} : cnt N (upw p k z) (k + 1) = cnt N p k + bI (z ≠ (N : Int)) := by
  unfold cnt
  rw [cnS, upw_s]
  have : cnS (fun i => upw p k z i ≠ (N : Int)) k = cnS (fun i => p i ≠ (N : Int)) k := cnS_c k (fun u hu => by rw [upw_n (by omega)])
  rw [this]
theorem Fk_c {N : Nat} {p p' : Nat → Int} {k : Nat} (h : ∀ i, i < k → p' i = p i) : Fk N p' k = Fk N p k := by
  funext b
  apply propext
  unfold Fk
  exact ⟨fun q => ⟨q.1, fun i hi => by rw [← h i hi]; exact q.2 i hi⟩, fun q => ⟨q.1, fun i hi => by rw [h i hi]; exact q.2 i hi⟩⟩
theorem cnt_c {N : Nat} {p p' : Nat → Int} {k : Nat} (h : ∀ i, i < k → p' i = p i) : cnt N p' k = cnt N p k := cnS_c k (fun u hu => by rw [h u hu])
theorem ExR_c {can : Nat → Nat → Prop} {R N m k : Nat} {p p' : Nat → Int} {most most' : Int} {r0 r1 : Nat → Int} (h : ∀ i, i < k → p' i = p i) (e : ExR can R N m k p' most r0 most' r1) : ExR can R N m k p most r0 most' r1 := by
  unfold ExR at e ⊢
  rw [Fk_c h, cnt_c h] at e
  refine ⟨e.1, ?_⟩
  by_cases c : most < cnt N p k + bst can R N m (Fk N p k)
  · rw [if_pos c]
    have e2 := e.2
    rw [if_pos c] at e2
    intro i hi
    rw [e2 i hi]
    by_cases q : i < k
    · rw [if_pos q, if_pos q]; unfold prw; rw [h i q]
    · rw [if_neg q, if_neg q]
  · rw [if_neg c]
    have e2 := e.2
    rw [if_neg c] at e2
    exact e2
theorem InR_s {can : Nat → Nat → Prop} {R N m k t : Nat} {p : Nat → Int} {most0 : Int} {r0 : Nat → Int} {most most' : Int} {r1 r2 : Nat → Int} (htN : t < N) (hI : InR can R N m k t p most0 r0 most r1) (c1 : can k t) (c2 : ∀ i, i < k → p i ≠ (t : Int)) (hE : ExR can R N m (k + 1) (upw p k (t : Int)) most r1 most' r2) : InR can R N m k (t + 1) p most0 r0 most' r2 := by
  have hF : Fk N p k t := ⟨htN, c2⟩
  unfold ExR at hE
  rw [← Fk_u htN, cnt_u, bI_t (show ((t : Nat) : Int) ≠ (N : Int) by omega)] at hE
  obtain ⟨e1, e2⟩ := hE
  have im := imax_l most (cnt N p k + 1 + bst can R N m (rmv (Fk N p k) t))
  by_cases lt : most < cnt N p k + 1 + bst can R N m (rmv (Fk N p k) t)
  · rw [if_pos lt] at e2
    have em : most' = cnt N p k + 1 + bst can R N m (rmv (Fk N p k) t) := by rcases im.2.2 with q | q <;> omega
    have old : ∀ b', b' < t → Fk N p k b' → can k b' → cnt N p k + 1 + bst can R N m (rmv (Fk N p k) b') ≤ most := by
      rcases hI with ⟨a1, a2, a3⟩ | ⟨b, b1, b2, b3, b4, b5, b6, b7, b8⟩
      · intro b' x y z; rw [a1]; exact a3 b' x y z
      · exact b6
    have m0 : most0 ≤ most := by
      rcases hI with ⟨a1, a2, a3⟩ | ⟨b, b1, b2, b3, b4, b5, b6, b7, b8⟩ <;> omega
    refine Or.inr ⟨t, by omega, hF, c1, em, by omega, fun b' x y z => ?_, fun b' x y z => ?_, fun i hi => ?_⟩
    · by_cases e : b' = t
      · rw [e]; omega
      · have := old b' (by omega) y z; omega
    · have := old b' x y z; omega
    · rw [e2 i hi]
      by_cases q : i < k
      · rw [if_pos (by omega), if_pos q]; unfold prw; rw [upw_n (by omega)]
      · rw [if_neg q]
        by_cases q2 : i = k
        · rw [if_pos (by omega), if_pos q2, q2]; unfold prw; rw [upw_s, if_neg (by omega)]
        · rw [if_neg (by omega), if_neg q2]
  · rw [if_neg lt] at e2
    have em : most' = most := by rcases im.2.2 with q | q <;> omega
    rw [em, e2]
    rcases hI with ⟨a1, a2, a3⟩ | ⟨b, b1, b2, b3, b4, b5, b6, b7, b8⟩
    · refine Or.inl ⟨a1, a2, fun b' x y z => ?_⟩
      by_cases e : b' = t
      · rw [e]; omega
      · exact a3 b' (by omega) y z
    · refine Or.inr ⟨b, by omega, b2, b3, b4, b5, fun b' x y z => ?_, b7, b8⟩
      by_cases e : b' = t
      · rw [e]; omega
      · exact b6 b' (by omega) y z
theorem InR_n {can : Nat → Nat → Prop} {R N m k t : Nat} {p : Nat → Int} {most0 : Int} {r0 : Nat → Int} {most : Int} {r1 : Nat → Int} (hI : InR can R N m k t p most0 r0 most r1) (c : ¬ (can k t ∧ ∀ i, i < k → p i ≠ (t : Int))) : InR can R N m k (t + 1) p most0 r0 most r1 := by
  have no : Fk N p k t → can k t → False := fun q z => c ⟨z, q.2⟩
  rcases hI with ⟨a1, a2, a3⟩ | ⟨b, b1, b2, b3, b4, b5, b6, b7, b8⟩
  · refine Or.inl ⟨a1, a2, fun b' x y z => ?_⟩
    by_cases e : b' = t
    · rw [e] at y z; exact (no y z).elim
    · exact a3 b' (by omega) y z
  · refine Or.inr ⟨b, by omega, b2, b3, b4, b5, fun b' x y z => ?_, b7, b8⟩
    by_cases e : b' = t
    · rw [e] at y z; exact (no y z).elim
    · exact b6 b' (by omega) y z
theorem InR_e {can : Nat → Nat → Prop} {R N m k : Nat} {p : Nat → Int} {most0 : Int} {r0 : Nat → Int} {most most' : Int} {r1 r2 : Nat → Int} (hk : R = k + (m + 1)) (hI : InR can R N m k N p most0 r0 most r1) (hE : ExR can R N m (k + 1) (upw p k (N : Int)) most r1 most' r2) : ExR can R N (m + 1) k p most0 r0 most' r2 := by
  unfold ExR at hE
  rw [← Fk_n, cnt_u, bI_f (show ¬ ((N : Nat) : Int) ≠ (N : Int) from fun q => q rfl), Int.add_zero] at hE
  obtain ⟨e1, e2⟩ := hE
  have er : R - (m + 1) = k := by omega
  have es : bst can R N (m + 1) (Fk N p k) = imax (bst can R N m (Fk N p k)) (mxN (fun b => 1 + bst can R N m (rmv (Fk N p k) b)) (fun b => Fk N p k b ∧ can k b) N) := by rw [bst, er]
  have im1 := imax_l (bst can R N m (Fk N p k)) (mxN (fun b => 1 + bst can R N m (rmv (Fk N p k) b)) (fun b => Fk N p k b ∧ can k b) N)
  have im2 := imax_l most (cnt N p k + bst can R N m (Fk N p k))
  have im3 := imax_l most0 (cnt N p k + bst can R N (m + 1) (Fk N p k))
  have b0 := bst_0 (can := can) (R := R) (N := N) m (Fk N p k)
  have mx0 := mxN_0 (ℓ := fun b => 1 + bst can R N m (rmv (Fk N p k) b)) (P := fun b => Fk N p k b ∧ can k b) N
  have mxe := mxN_e (ℓ := fun b => 1 + bst can R N m (rmv (Fk N p k) b)) (P := fun b => Fk N p k b ∧ can k b) N
  have mxg := mxN_g (ℓ := fun b => 1 + bst can R N m (rmv (Fk N p k) b)) (P := fun b => Fk N p k b ∧ can k b) N
  generalize hX : mxN (fun b => 1 + bst can R N m (rmv (Fk N p k) b)) (fun b => Fk N p k b ∧ can k b) N = X at *
  -- the largest of those below N, against what stands
  have big : ∀ z, (∀ b, b < N → Fk N p k b → can k b → cnt N p k + 1 + bst can R N m (rmv (Fk N p k) b) ≤ z) → X = 0 ∨ cnt N p k + X ≤ z := by
    intro z hz
    rcases mxe with q | ⟨b, b1, b2, b3⟩
    · exact Or.inl q
    · right; have := hz b b1 b2.1 b2.2; omega
  -- no first book where none brings the most
  have hno : (X < bst can R N (m + 1) (Fk N p k)) → gbb can R N m (Fk N p k) = -1 := by
    intro hlt
    rcases fstN_r (P := fun b => Fk N p k b ∧ can (R - (m + 1)) b ∧ bst can R N m (rmv (Fk N p k) b) = bst can R N (m + 1) (Fk N p k) - 1) (n := N) N 0 (by omega) with ⟨q, -⟩ | ⟨r, q, -, q2, q3, -⟩
    · exact q
    · rw [er] at q3
      have := mxg r q2 ⟨q3.1, q3.2.1⟩
      have := q3.2.2
      omega
  refine ⟨?_, ?_⟩
  · rcases hI with ⟨a1, a2, a3⟩ | ⟨b, b1, b2, b3, b4, b5, b6, b7, b8⟩
    · have := big most0 a3
      clear mxe
      rcases im1.2.2 with q1 | q1 <;> rcases im2.2.2 with q2 | q2 <;> rcases im3.2.2 with q3 | q3 <;> omega
    · have g := mxg b b1 ⟨b2, b3⟩
      have := big most b6
      clear mxe
      rcases im1.2.2 with q1 | q1 <;> rcases im2.2.2 with q2 | q2 <;> rcases im3.2.2 with q3 | q3 <;> omega
  · by_cases lt : most < cnt N p k + bst can R N m (Fk N p k)
    · -- none is best
      rw [if_pos lt] at e2
      have m0 : most0 ≤ most := by
        rcases hI with ⟨a1, a2, a3⟩ | ⟨b, b1, b2, b3, b4, b5, b6, b7, b8⟩ <;> omega
      have hb : X = 0 ∨ cnt N p k + X ≤ most := by
        rcases hI with ⟨a1, a2, a3⟩ | ⟨b, b1, b2, b3, b4, b5, b6, b7, b8⟩
        · exact big most (fun b x y z => by rw [a1]; exact a3 b x y z)
        · exact big most b6
      clear mxe
      have hb1 : bst can R N (m + 1) (Fk N p k) = bst can R N m (Fk N p k) := by rcases im1.2.2 with q1 | q1 <;> omega
      rw [if_pos (by omega)]
      have hg : gbb can R N m (Fk N p k) = -1 := by
        by_cases z : X < bst can R N (m + 1) (Fk N p k)
        · exact hno z
        · have x0 : X = 0 ∧ bst can R N (m + 1) (Fk N p k) = 0 := by omega
          rcases fstN_r (P := fun b => Fk N p k b ∧ can (R - (m + 1)) b ∧ bst can R N m (rmv (Fk N p k) b) = bst can R N (m + 1) (Fk N p k) - 1) (n := N) N 0 (by omega) with ⟨q, -⟩ | ⟨r, q, -, q2, q3, -⟩
          · exact q
          · have := q3.2.2
            have := bst_0 (can := can) (R := R) (N := N) m (rmv (Fk N p k) r)
            omega
      intro i hi
      rw [e2 i hi]
      by_cases q : i < k
      · rw [if_pos (by omega), if_pos q]; unfold prw; rw [upw_n (by omega)]
      · rw [if_neg q]
        by_cases q2 : i = k
        · rw [if_pos (by omega), q2, Nat.sub_self, grw, if_pos hg]; unfold prw; rw [upw_s, if_pos rfl]
        · rw [if_neg (by omega)]
          obtain ⟨j, ej⟩ : ∃ j, i - k = j + 1 := ⟨i - k - 1, by omega⟩
          rw [ej, grw, if_pos hg, show i - (k + 1) = j by omega]
    · rw [if_neg lt] at e2
      rcases hI with ⟨a1, a2, a3⟩ | ⟨b, b1, b2, b3, b4, b5, b6, b7, b8⟩
      · have hb := big most0 a3
        clear mxe
        rw [if_neg (by rcases im1.2.2 with q1 | q1 <;> omega), e2]
        exact a2
      · have hb := big most b6
        have g := mxg b b1 ⟨b2, b3⟩
        have bb0 := bst_0 (can := can) (R := R) (N := N) m (rmv (Fk N p k) b)
        clear mxe
        have hb1 : bst can R N (m + 1) (Fk N p k) = 1 + bst can R N m (rmv (Fk N p k) b) := by rcases im1.2.2 with q1 | q1 <;> omega
        rw [if_pos (by omega), e2]
        have hg : gbb can R N m (Fk N p k) = (b : Int) := by
          unfold gbb
          refine fstN_u (n := N) N 0 (by omega) (by omega) b1 ⟨b2, by rw [er]; exact b3, by omega⟩ (fun b' _ x y => ?_)
          rw [er] at y
          have := b7 b' x y.1 y.2.1
          have := y.2.2
          omega
        intro i hi
        rw [b8 i hi]
        by_cases q : i < k
        · rw [if_pos q, if_pos q]
        · rw [if_neg q, if_neg q]
          by_cases q2 : i = k
          · rw [if_pos q2, q2, Nat.sub_self, grw, hg, if_neg (by omega)]
          · rw [if_neg q2]
            obtain ⟨j, ej⟩ : ∃ j, i - k = j + 1 := ⟨i - k - 1, by omega⟩
            rw [ej, grw, hg, if_neg (by omega), Int.toNat_natCast, show i - (k + 1) = j by omega]
theorem explore {D : Int → (Nat → Int) → Option Int} {σ0 : Sg} {N R : Nat} {Q : Int × Sg → Prop} (hW : WF (σ0 86)) (hD : LawM (σ0 86) D) (h20 : σ0 84 20 = 0) (hN : σ0 86 0 = (N : Int)) (hR : σ0 86 1 = (R : Int)) :
    ∀ (m k : Nat) (σ : Sg) (most : Int) (f : Nat), R = k + m → Fs σ0 σ → σ 105 k = -1 →
      (∀ (σ' : Sg) (most' : Int) (f' : Nat), f ≤ f' → Fs σ0 σ' → (∀ i, i < k → σ' 105 i = σ 105 i) → ExR (fun i b => canP D (σ0 86) (b : Int) (i : Int)) R N m k (σ 105) most (σ 106) most' (σ' 106) → T (vX10_findServed_26 f' (R : Int) (N : Int) most' ((k : Int) + -1) σ') Q) →
      ∀ f', f + cstm m ≤ f' → T (vX10_findServed_26 f' (R : Int) (N : Int) most (k : Int) σ) Q := by
  have h08 := hW.1.1
  have h16 := hW.1.2.1
  intro m
  induction m with
  | zero =>
    intro k σ most f hk hS hm1 cont f' hf'
    have e : k = R := by omega
    subst e
    obtain ⟨f'', rfl⟩ : ∃ f'', f' = f'' + 1 := ⟨f' - 1, by rw [cstm] at hf'; omega⟩
    rw [cstm] at hf'
    rw [vX10_findServed_26]
    refine T_f (by omega) (T_t rfl ?_)
    refine m_fs_43 (σ := σ) (by omega) (fun σ' e' row => ?_) FU 0 (by have := FU_b; omega) (by omega)
    refine cont σ' _ f'' (by omega) (Fs_t hS ⟨fun c a b d e g => e' c g, fun j _ => by rw [e' 84 (by omega)]⟩) (fun i _ => by rw [e' 105 (by omega)]) ⟨?_, ?_⟩
    · rw [bst, Int.add_zero]
      have im := imax_l most (cnt N (σ 105) k)
      by_cases c : most < cnt N (σ 105) k
      · rw [if_pos c]; rcases im.2.2 with q | q <;> omega
      · rw [if_neg c]; rcases im.2.2 with q | q <;> omega
    · rw [bst, Int.add_zero]
      by_cases c : most < cnt N (σ 105) k
      · rw [if_pos c] at row ⊢
        intro i hi
        rw [row i hi, if_pos hi]
      · rw [if_neg c] at row ⊢
        rw [row]
  | succ m ih =>
    intro k σ most f hk hS hm1 cont
    have inner : ∀ (n t : Nat) (τ : Sg) (mt : Int) (f' : Nat), N + 1 - t = n → t ≤ N + 1 → Fs σ0 τ → (∀ i, i < k → τ 105 i = σ 105 i) → τ 105 k = (t : Int) - 1 → (t ≤ N → InR (fun i b => canP D (σ0 86) (b : Int) (i : Int)) R N m k t (σ 105) most (σ 106) mt (τ 106)) → (t = N + 1 → ExR (fun i b => canP D (σ0 86) (b : Int) (i : Int)) R N (m + 1) k (σ 105) most (σ 106) mt (τ 106)) → f + n * (1 + cstm m) + 1 ≤ f' → T (vX10_findServed_26 f' (R : Int) (N : Int) mt (k : Int) τ) Q := by
      intro n
      induction n with
      | zero =>
        intro t τ mt f' hn ht hSt hp hk1 _ hE hf'
        have e : t = N + 1 := by omega
        subst e
        obtain ⟨f'', rfl⟩ : ∃ f'', f' = f'' + 1 := ⟨f' - 1, by omega⟩
        rw [vX10_findServed_26]
        refine T_f (by omega) (T_f (by omega) ?_)
        rw [Int.toNat_natCast, hk1]
        repeat (with_reducible first | refine T_ck (by omega) ?_ | refine T_nm ?_)
        have w : up2 τ 105 k (((N + 1 : Nat) : Int) - 1 + 1) 105 k = (N : Int) + 1 := by rw [up2_c, upw_s]; omega
        rw [w]
        refine T_t (by omega) ?_
        with_reducible refine T_ck (by omega) ?_
        refine cont _ mt f'' (by omega) (Fs_u hSt (Or.inl rfl)) (fun i hi => by rw [up2_c, upw_n (by omega)]; exact hp i hi) ?_
        rw [up2_o (by omega)]
        exact hE rfl
      | succ n ihn =>
        intro t τ mt f' hn ht hSt hp hk1 hI _ hf'
        have e1 : (n + 1) * (1 + cstm m) = n * (1 + cstm m) + (1 + cstm m) := by rw [Nat.add_mul, Nat.one_mul]
        rw [e1] at hf'
        obtain ⟨f'', rfl⟩ : ∃ f'', f' = f'' + 1 := ⟨f' - 1, by omega⟩
        have htN : t ≤ N := by omega
        rw [vX10_findServed_26]
        refine T_f (by omega) (T_f (by omega) ?_)
        rw [Int.toNat_natCast, hk1]
        repeat (with_reducible first | refine T_ck (by omega) ?_ | refine T_nm ?_)
        have w : up2 τ 105 k ((t : Int) - 1 + 1) 105 k = (t : Int) := by rw [up2_c, upw_s]; omega
        have wl : ∀ i, i < k → up2 τ 105 k ((t : Int) - 1 + 1) 105 i = σ 105 i := fun i hi => by rw [up2_c, upw_n (by omega)]; exact hp i hi
        have w106 : up2 τ 105 k ((t : Int) - 1 + 1) 106 = τ 106 := up2_o (by omega)
        have wS : Fs σ0 (up2 τ 105 k ((t : Int) - 1 + 1)) := Fs_u hSt (Or.inl rfl)
        generalize up2 τ 105 k ((t : Int) - 1 + 1) = τ1 at *
        rw [w]
        refine T_f (by omega) ?_
        with_reducible refine T_ck (by omega) ?_
        have down : ∀ (τ2 : Sg), Fs σ0 τ2 → (∀ i, i ≤ k → τ2 105 i = upw (σ 105) k (t : Int) i) → τ2 106 = τ 106 →
            (∀ (τ3 : Sg) (m3 : Int), ExR (fun i b => canP D (σ0 86) (b : Int) (i : Int)) R N m (k + 1) (upw (σ 105) k (t : Int)) mt (τ 106) m3 (τ3 106) → (t + 1 ≤ N → InR (fun i b => canP D (σ0 86) (b : Int) (i : Int)) R N m k (t + 1) (σ 105) most (σ 106) m3 (τ3 106)) ∧ (t + 1 = N + 1 → ExR (fun i b => canP D (σ0 86) (b : Int) (i : Int)) R N (m + 1) k (σ 105) most (σ 106) m3 (τ3 106))) →
            T (vX10_findServed_194 (vX10_findServed_26 f'') (R : Int) (N : Int) mt (k : Int) τ2) Q := by
          intro τ2 hS2 hp2 h106 nxt
          unfold vX10_findServed_194
          repeat (with_reducible first | refine T_ck (by omega) ?_ | refine T_nm ?_)
          rw [show ((k : Int) + 1).toNat = k + 1 by omega, show (k : Int) + 1 = ((k + 1 : Nat) : Int) by omega]
          have pr : ∀ i, i < k + 1 → up2 τ2 105 (k + 1) (-1) 105 i = upw (σ 105) k (t : Int) i := fun i hi => by rw [up2_c, upw_n (by omega)]; exact hp2 i (by omega)
          refine ih (k + 1) (up2 τ2 105 (k + 1) (-1)) mt (f + n * (1 + cstm m) + 1) (by omega) (Fs_u hS2 (Or.inl rfl)) (by rw [up2_c, upw_s]) (fun τ3 m3 f3 hf3 hS3 hp3 hE3 => ?_) f'' (by omega)
          rw [show ((k + 1 : Nat) : Int) + -1 = (k : Int) by omega]
          have hE3' := ExR_c (p' := up2 τ2 105 (k + 1) (-1) 105) (p := upw (σ 105) k (t : Int)) pr hE3
          rw [up2_o (a := 106) (by omega), h106] at hE3'
          obtain ⟨n1, n2⟩ := nxt τ3 m3 hE3'
          refine ihn (t + 1) τ3 m3 f3 (by omega) (by omega) hS3 (fun i hi => ?_) ?_ n1 n2 hf3
          · rw [hp3 i (by omega), pr i (by omega), upw_n (by omega)]
          · rw [hp3 k (by omega), pr k (by omega), upw_s]; omega
        have pk : ∀ τ2 : Sg, τ2 105 = τ1 105 → ∀ i, i ≤ k → τ2 105 i = upw (σ 105) k (t : Int) i := by
          intro τ2 e i hi
          rw [e]
          by_cases q : i = k
          · rw [q, upw_s]; exact w
          · rw [upw_n q]; exact wl i (by omega)
        refine T_ite (fun c => ?_) (fun c => ?_)
        · have e : t = N := by omega
          refine down τ1 wS (pk τ1 rfl) w106 (fun τ3 m3 hE => ⟨fun q => by omega, fun _ => ?_⟩)
          rw [e] at hE
          have hI' := hI htN
          rw [e] at hI'
          exact InR_e (by omega) hI' hE
        · have e86 : τ1 86 = σ0 86 := wS.1 86 (by omega) (by omega) (by omega) (by omega) (by omega)
          refine T_bd2 (m_isFree (D := D) (N := N) (t := t) (by rw [e86]; exact hW) (by rw [e86]; exact hD) (by rw [wS.2 20 (by unfold sc84; omega)]; exact h20) (by rw [e86]; exact hN) (by rw [e86]; omega) w (by omega)) (fun z τ2 hz => ?_)
          dsimp only at hz
          obtain ⟨S2, hz⟩ := hz
          rw [e86] at hz
          have e105 : τ2 105 = τ1 105 := ScM_k S2 (by omega)
          have e106 : τ2 106 = τ 106 := by rw [ScM_k S2 (by omega)]; exact w106
          have hS2 := Fs_t wS (Fs_m S2)
          have eqv : (∀ i, i < k → τ1 105 i ≠ (t : Int)) ↔ ∀ i, i < k → σ 105 i ≠ (t : Int) := ⟨fun q i hi => by rw [← wl i hi]; exact q i hi, fun q i hi => by rw [wl i hi]; exact q i hi⟩
          by_cases c2 : canP D (σ0 86) (t : Int) (k : Int) ∧ ∀ i, i < k → τ1 105 i ≠ (t : Int)
          · rw [bI_t c2] at hz
            refine T_f (by omega) (down τ2 hS2 (pk τ2 e105) e106 (fun τ3 m3 hE => ⟨fun _ => ?_, fun q => by omega⟩))
            exact InR_s (by omega) (hI htN) c2.1 (eqv.mp c2.2) hE
          · rw [bI_f c2] at hz
            refine T_t hz ?_
            refine ihn (t + 1) τ2 mt f'' (by omega) (by omega) hS2 (fun i hi => by rw [e105]; exact wl i hi) (by rw [e105, w]; omega) (fun _ => ?_) (fun q => by omega) (by omega)
            rw [e106]
            exact InR_n (hI htN) (fun q => c2 ⟨q.1, eqv.mpr q.2⟩)
    intro f' hf'
    rw [cstm] at hf'
    have le : (N + 1) * (1 + cstm m) ≤ 9 * (1 + cstm m) := Nat.mul_le_mul_right _ (by omega)
    exact inner (N + 1) 0 σ most f' (by omega) (by omega) hS (fun _ _ => rfl) (by rw [hm1]; omega) (fun _ => Or.inl ⟨rfl, rfl, fun b hb => by omega⟩) (fun q => by omega) (by omega)
theorem s_served {K : Kt} {σ : Sg} {n w : Int} (hI : Inv K σ n) : St2 K n (vX9_served K w σ) (vX10_served w) := by
  obtain ⟨⟨hK, ⟨hW, hH⟩, hL, hU, hDD, hT, hM, hC⟩, hS⟩ := id hI
  obtain ⟨D, hDC, hDM⟩ := inv_force hK.1.1 hL hW
  have hO : LwO K (fun k => k = 11 ∨ k = 12 ∨ k = 74) := LwO_lo hK.1.1 hK.2.1 (fun k h => by omega)
  have h08 := hW.1.1
  have h16 := hW.1.2.1
  have h20 : σ 84 20 = 0 := hT.2.2.2.2.2
  have g1 : σ 13 2 = σ 86 1 := hH.1.2.1
  have g0 : σ 13 1 = σ 86 0 := hH.1.1
  obtain ⟨N, hN, -⟩ := bI_n (σ 86 0) h08.1
  obtain ⟨R, hR, -⟩ := bI_n (σ 86 1) h16.1
  have hI' := Inv_scr hI (Scr_0 (z := 0) Scr_r)
  have e86 : up2 σ 84 0 0 86 = σ 86 := u84o (by omega)
  unfold vX9_served
  rw [c_within, Option.bind_some, g1]
  by_cases hw : 0 ≤ w ∧ w ≤ σ 86 1
  · refine T_f (by rw [bI_t hw]; omega) ?_
    unfold vX0_fillNear
    refine T_bind (R := fun σ1 => Sme (fun k => k = 11 ∨ k = 12 ∨ k = 74) σ σ1 ∧ nrOk (fun i b => canP D (σ 86) (b : Int) (i : Int)) N R (2 ^ R) (σ1 74)) ?_ (fun σ1 h1 => ?_)
    · refine T_nm ?_
      have hs0 : Sme (fun k => k = 11 ∨ k = 12 ∨ k = 74) σ (up2 σ 74 0 0) := Sme_u Sme_r (by omega)
      refine T_mono (c_fillNear_9 (σ0 := up2 σ 74 0 0) (ρ := σ 86) (D := D) (N := N) (R := R) hO (HallIs_s hH (fun k k1 k2 => up2_o (by omega))) hW (by rw [hs0 1 (by omega)]; exact LawC_s hDC hs0 hO) hN hR FU 0 (up2 σ 74 0 0) (by have := FU_b; omega) (by omega) Sme_r (fun s hs => ?_)) (fun σ1 h => ⟨Sme_t hs0 h.1, h.2⟩)
      have : s = 0 := by simp at hs; exact hs
      subst this
      rw [up2_c, upw_s]
      exact MK_p MK_0 (fun b => ⟨fun q => q.elim, fun ⟨_, i, i1, _⟩ => by omega⟩)
    · obtain ⟨S1, O1⟩ := h1
      have q13 : σ1 13 1 = (N : Int) := by rw [S1 13 (by omega), g0]; exact hN
      have q2 : σ1 13 2 = (R : Int) := by rw [S1 13 (by omega), g1]; exact hR
      have hs1 : Scr σ σ1 := Scr_s (Sme_m S1 (fun k hk => by unfold scA; omega))
      have hs0 := Scr_0 (z := 0) hs1
      have p2 := Nat.two_pow_pos N
      have p8 : 2 ^ N ≤ 256 := by
        have : 2 ^ N ≤ 2 ^ 8 := Nat.pow_le_pow_right (by omega) (by omega)
        omega
      have mk : MK (bShl 1 (N : Int) - 1) (Fk N (fun _ => 0) 0) := by
        rw [bShl_n (by omega)]
        refine ⟨2 ^ N - 1, by omega, by omega, fun b => ?_⟩
        rw [Nat.testBit_two_pow_sub_one]
        unfold Fk
        simp
      have hF0 : ∀ b, Fk N (fun _ => 0) 0 b → b < N := fun b q => q.1
      have e0 : ∀ p, Fk N p 0 = Fk N (fun _ => 0) 0 := fun p => Fk_c (fun i hi => by omega)
      -- the reference
      have ref : T (vX10_findServed (up2 σ1 84 0 0)) (fun p => Scr σ p.2 ∧ p.1 = bst (fun i b => canP D (σ 86) (b : Int) (i : Int)) R N R (Fk N (fun _ => 0) 0) ∧ ∀ i, i < R → p.2 106 i = grw (fun i b => canP D (σ 86) (b : Int) (i : Int)) R N R (Fk N (fun _ => 0) 0) i) := by
        have f86 : up2 σ1 84 0 0 86 = σ 86 := hs0.1 86 (by omega) (by unfold scA; omega)
        have z20 : up2 σ1 84 0 0 84 20 = 0 := by rw [hs0.2 20 (by omega) (by unfold sc84; omega)]; exact h20
        unfold vX10_findServed
        refine T_nm (T_nm (T_nm ?_))
        rw [f86, hN, hR]
        have ex := explore (D := D) (σ0 := up2 σ1 84 0 0) (N := N) (R := R) (Q := fun p => Scr σ p.2 ∧ p.1 = bst (fun i b => canP D (σ 86) (b : Int) (i : Int)) R N R (Fk N (fun _ => 0) 0) ∧ ∀ i, i < R → p.2 106 i = grw (fun i b => canP D (σ 86) (b : Int) (i : Int)) R N R (Fk N (fun _ => 0) 0) i) (by rw [f86]; exact hW) (by rw [f86]; exact hDM) z20 (by rw [f86]; exact hN) (by rw [f86]; exact hR) R 0 (up2 (up2 σ1 84 0 0) 105 0 (-1)) (-1) 1 (by omega) (Fs_u Fs_r (Or.inl rfl)) (by rw [up2_c, upw_s]) (fun σ' most' f' hf' hS' _ hE => ?_) FU ?_
        · exact ex
        · obtain ⟨f'', rfl⟩ : ∃ f'', f' = f'' + 1 := ⟨f' - 1, by omega⟩
          rw [vX10_findServed_26]
          refine T_t (by omega) (T_some ⟨?_, ?_, ?_⟩)
          · refine Scr_t hs0 ⟨fun k k1 k2 => ?_, fun j j1 j2 => hS'.2 j j2⟩
            unfold scA at k2
            exact hS'.1 k k1 (by omega) (by omega) (by omega) (by omega)
          · rw [f86] at hE
            obtain ⟨x1, -⟩ := hE
            rw [e0] at x1
            have b0 := bst_0 (can := fun i b => canP D (σ 86) (b : Int) (i : Int)) (R := R) (N := N) R (Fk N (fun _ => 0) 0)
            have c0 : cnt N (up2 (up2 σ1 84 0 0) 105 0 (-1) 105) 0 = 0 := rfl
            rw [c0] at x1
            dsimp only
            rw [x1]
            unfold imax
            split <;> omega
          · rw [f86] at hE
            obtain ⟨-, x2⟩ := hE
            rw [e0] at x2
            have b0 := bst_0 (can := fun i b => canP D (σ 86) (b : Int) (i : Int)) (R := R) (N := N) R (Fk N (fun _ => 0) 0)
            have c0 : cnt N (up2 (up2 σ1 84 0 0) 105 0 (-1) 105) 0 = 0 := rfl
            rw [c0, if_pos (by omega)] at x2
            intro i hi
            dsimp only
            rw [x2 i hi, if_neg (by omega), Nat.sub_zero]
        · have hc : ∀ m, m ≤ 6 → cstm m ≤ cstm 6 := by
            intro m hm
            have : ∀ m : Fin 7, cstm m.val ≤ cstm 6 := by decide
            exact this ⟨m, by omega⟩
          have := hc R (by omega)
          have c6 : cstm 6 = 1195741 := by decide
          have := FU_b
          omega
      have fin : ∀ z, (w = 0 → z = bst (fun i b => canP D (σ 86) (b : Int) (i : Int)) R N R (Fk N (fun _ => 0) 0)) → (w ≠ 0 → z = grw (fun i b => canP D (σ 86) (b : Int) (i : Int)) R N R (Fk N (fun _ => 0) 0) (w - 1).toNat) → T (vX10_served w σ1) (fun q => q.1 = z ∧ Inv K q.2 (n + 1)) := by
        intro z hz1 hz2
        have f86 : up2 σ1 84 0 0 86 = σ 86 := hs0.1 86 (by omega) (by unfold scA; omega)
        unfold vX10_served
        refine T_nm ?_
        rw [m_in, Option.bind_some, f86]
        refine T_f (by rw [bI_t hw]; omega) ?_
        refine T_bd2 ref (fun y σ3 h3 => ?_)
        dsimp only at h3
        obtain ⟨r1, r2, r3⟩ := h3
        refine T_ite (fun c => T_some ⟨?_, Inv_scr hI r1⟩) (fun c => ?_)
        · dsimp only; rw [r2, hz1 c]
        · with_reducible refine T_ck (by omega) ?_
          with_reducible refine T_ck (by omega) ?_
          refine T_some ⟨?_, Inv_scr hI r1⟩
          dsimp only
          rw [r3 (w - 1).toNat (by omega), hz2 c]
      have mp := c_mostPairs (K := K) (σ := σ1) (can := fun i b => canP D (σ 86) (b : Int) (i : Int)) (N := N) (R := R) (r := 0) (fr := bShl 1 (N : Int) - 1) (F := Fk N (fun _ => 0) 0) (by omega) (by omega) (by omega) q2 O1 mk hF0
      have sh : bShl 1 (N : Int) = ((2 ^ N : Nat) : Int) := bShl_n (by omega)
      unfold vX0_mostServed
      rw [q13, ck_p (by rw [sh]; omega)]
      simp only [nm]
      have mp' : vX0_mostPairs K 0 (bShl 1 (N : Int) - 1) σ1 = some (bst (fun i b => canP D (σ 86) (b : Int) (i : Int)) R N R (Fk N (fun _ => 0) 0)) := mp
      rw [mp', Option.bind_some]
      by_cases c : w = 0
      · rw [if_pos c, Option.bind_some]
        exact T_some (fin _ (fun _ => rfl) (fun q => absurd c q))
      · rw [if_neg c]
        obtain ⟨v, ev, -⟩ := bI_n (w - 1) (by omega)
        have ew : w = (v : Int) + 1 := by omega
        refine T_bind (R := fun y => y = grw (fun i b => canP D (σ 86) (b : Int) (i : Int)) R N R (Fk N (fun _ => 0) 0) v) ?_ (fun y hy => T_some (fin _ (fun q => absurd q c) (fun _ => ?_)))
        · rw [ew]
          exact c_mostServed_28 (K := K) (can := fun i b => canP D (σ 86) (b : Int) (i : Int)) (N := N) (R := R) (w := v) (by omega) (by omega) (by omega) q13 q2 O1 FU 0 _ _ (by have := FU_b; omega) (by omega) mk hF0
        · rw [hy, ev, Int.toNat_natCast]
  · refine T_t (bI_f hw) (T_some ?_)
    unfold vX10_served
    refine T_nm ?_
    dsimp only
    rw [m_in, Option.bind_some, e86]
    exact T_t (bI_f hw) (T_some ⟨rfl, hI'⟩)
