/-! ===== the row of a nest ===== -/
theorem c_nextInNest_2 {K : Kt} {σ : Sg} {ρ : Nat → Int} {n : Nat} {a left : Int} (hH : HallIs σ 13 ρ) (hn : ρ 0 = (n : Int)) (h8 : n ≤ 8) (ha : a = -1 ∨ (0 ≤ a ∧ a < 8)) : ∀ (f x : Nat), n - x < f → x ≤ n → T (vX0_nextInNest_2 K σ f a left (x : Int)) (fun p => p = fstN (fun b => σ 79 b = left ∧ (a = -1 ∨ ins ρ a.toNat b)) (n - x) x) := by
  intro f
  induction f with
  | zero => intro x h; omega
  | succ f ih =>
    intro x hf hx
    rw [vX0_nextInNest_2, show σ 13 1 = ρ 0 from hH.1.1, hn]
    refine T_ite (fun h => ?_) (fun h => ?_)
    · have nx := ih (x + 1) (by omega) (by omega)
      rw [show n - x = (n - (x + 1)) + 1 by omega, fstN, show (x : Int) + 1 = ((x + 1 : Nat) : Int) by omega, Int.toNat_natCast]
      with_reducible refine T_ck (by omega) ?_
      refine T_ite (fun c1 => ?_) (fun c1 => ?_)
      · refine T_ite (fun c2 => ?_) (fun c2 => ?_)
        · rw [if_pos ⟨c1, Or.inl c2⟩]
          exact T_some rfl
        · obtain ⟨m, e, -⟩ := bI_n a (by omega)
          subst e
          rw [c_wantsMore hH (by omega) (by omega), Option.bind_some, Int.toNat_natCast]
          rw [Int.toNat_natCast] at nx
          by_cases c3 : ins ρ m x
          · refine T_f (by rw [bI_t c3]; omega) ?_
            rw [if_pos ⟨c1, Or.inr c3⟩]
            exact T_some rfl
          · refine T_t (bI_f c3) ?_
            rw [if_neg (fun h => h.2.elim c2 c3)]
            with_reducible refine T_ck (by omega) ?_
            exact nx
      · rw [if_neg (fun h => c1 h.1)]
        with_reducible refine T_ck (by omega) ?_
        exact nx
    · rw [show n - x = 0 by omega]; exact T_some rfl
theorem c_nextInNest {K : Kt} {σ : Sg} {ρ : Nat → Int} {n : Nat} {a left : Int} (hH : HallIs σ 13 ρ) (hn : ρ 0 = (n : Int)) (h8 : n ≤ 8) (ha : a = -1 ∨ (0 ≤ a ∧ a < 8)) : vX0_nextInNest K a left σ = some (fstN (fun b => σ 79 b = left ∧ (a = -1 ∨ ins ρ a.toNat b)) n 0) := by
  obtain ⟨r, e, h⟩ := c_nextInNest_2 (K := K) (left := left) hH hn h8 ha FU 0 (by have := FU_b; omega) (by omega)
  have e' : vX0_nextInNest K a left σ = some r := e
  rw [e', h]
  rfl
theorem c_longestNest_48 {K : Kt} {σ : Sg} {ρ : Nat → Int} {n : Nat} {m i : Int} (hH : HallIs σ 13 ρ) (hn : ρ 0 = (n : Int)) (h8 : n ≤ 8) (hN : NestOk ρ n (σ 79)) (hm : ∃ b, b < n ∧ σ 79 b = m) (hm64 : m ≤ 64) (hi : i ≠ -1) : ∀ (f k : Nat), (m - (k : Int)).toNat < f → (k : Int) ≤ m → (0 ≤ i → i < m → (k : Int) ≤ i) → T (vX0_longestNest_48 K f i m (if k = 0 then -1 else chn ρ n (σ 79) m (k - 1)) (k : Int) σ) (fun p => p.2 = σ ∧ p.1 = if 0 ≤ i ∧ i < m then chn ρ n (σ 79) m i.toNat else -1) := by
  intro f
  induction f with
  | zero => intro k h; omega
  | succ f ih =>
    intro k hf hk hki
    rw [vX0_longestNest_48]
    refine T_ite (fun h => ?_) (fun h => ?_)
    · with_reducible refine T_ck (by omega) ?_
      obtain ⟨r, er, r1, r2⟩ := chn_k hN hm k h
      have ec : vX0_nextInNest K (if k = 0 then -1 else chn ρ n (σ 79) m (k - 1)) (m - (k : Int)) σ = some (chn ρ n (σ 79) m k) := by
        by_cases e : k = 0
        · rw [if_pos e, c_nextInNest hH hn h8 (Or.inl rfl)]
          subst e
          rw [chn]
          refine congrArg some (fstN_c (n := n) n 0 (by omega) (fun b _ _ => ⟨fun h => by rw [h.1]; omega, fun h => ⟨by rw [h]; omega, Or.inl rfl⟩⟩))
        · rw [if_neg e]
          obtain ⟨j, rfl⟩ : ∃ j, k = j + 1 := ⟨k - 1, by omega⟩
          obtain ⟨r', er', r1', r2'⟩ := chn_k hN hm j (by omega)
          rw [show j + 1 - 1 = j by omega, er', c_nextInNest hH hn h8 (Or.inr (by omega)), chn, er']
          refine congrArg some (fstN_c (n := n) n 0 (by omega) (fun b _ _ => ⟨fun h => ⟨h.2.elim (fun c => by omega) id, by rw [h.1]; omega⟩, fun h => ⟨by rw [h.2]; omega, Or.inr h.1⟩⟩))
      rw [ec, Option.bind_some]
      refine T_ite (fun c => ?_) (fun c => ?_)
      · refine T_some ⟨rfl, ?_⟩
        dsimp only
        rw [if_pos (by omega), ← c, Int.toNat_natCast]
      · refine T_f (by rw [er]; omega) ?_
        with_reducible refine T_ck (by omega) ?_
        have nx := ih (k + 1) (by omega) (by omega) (fun a b => by have := hki a b; omega)
        rw [if_neg (by omega), show k + 1 - 1 = k by omega] at nx
        rw [show (k : Int) + 1 = ((k + 1 : Nat) : Int) by omega]
        exact nx
    · refine T_some ⟨rfl, ?_⟩
      dsimp only
      rw [if_neg (fun c => by have := hki c.1 c.2; omega)]
theorem c_longestNest_8 {K : Kt} {σ : Sg} {ρ : Nat → Int} {n : Nat} {i : Int} (hH : HallIs σ 13 ρ) (hn : ρ 0 = (n : Int)) (h8 : n ≤ 8) (hN : NestOk ρ n (σ 79)) : ∀ (f x : Nat), n - x < f → x ≤ n → T (vX0_longestNest_8 K f i (mxN (σ 79) (fun _ => True) x) (x : Int) σ) (fun p => p.2 = σ ∧ p.1 = if i = -1 then mxN (σ 79) (fun _ => True) n else if 0 ≤ i ∧ i < mxN (σ 79) (fun _ => True) n then chn ρ n (σ 79) (mxN (σ 79) (fun _ => True) n) i.toNat else -1) := by
  intro f
  induction f with
  | zero => intro x h; omega
  | succ f ih =>
    intro x hf hx
    rw [vX0_longestNest_8, show σ 13 1 = ρ 0 from hH.1.1, hn]
    refine T_ite (fun h => ?_) (fun h => ?_)
    · repeat (with_reducible first | refine T_ck (by omega) ?_ | refine T_nm ?_)
      have nx := ih (x + 1) (by omega) (by omega)
      rw [mxN, if_pos trivial] at nx
      rw [show (x : Int) + 1 = ((x + 1 : Nat) : Int) by omega, Int.toNat_natCast]
      exact nx
    · have e : x = n := by omega
      subst e
      refine T_ite (fun c => T_some ⟨rfl, by dsimp only; rw [if_pos c]⟩) (fun c => ?_)
      rw [if_neg c]
      have m0 := mxN_0 (ℓ := σ 79) (P := fun _ => True) x
      rcases mxN_e (ℓ := σ 79) (P := fun _ => True) x with e | ⟨b, b1, -, b2⟩
      · rw [e, FU_s, vX0_longestNest_48]
        refine T_f (by omega) (T_some ⟨rfl, ?_⟩)
        dsimp only
        rw [if_neg (by omega)]
      · have h64 := (hN b b1).1
        exact c_longestNest_48 hH hn h8 hN ⟨b, b1, b2.symm⟩ (by omega) c FU 0 (by have := FU_b; omega) (by omega) (fun a _ => by omega)
theorem m_nest_115 {rec : Int → Int → Int → Sg → Option (Int × Sg)} {Q : Int × Sg → Prop} {σ : Sg} {n : Nat} {ℓ : Nat → Int} {i : Int} {k a r : Nat} (h8 : n ≤ 8) (hk : k < 100) (hl : ∀ b, b < n → σ 110 b = ℓ b) (hb : ∀ b, b < n → 1 ≤ ℓ b ∧ ℓ b ≤ 64) (ha : a < n) (hr : r < n) (hP : ins (σ 86) a r ∧ ℓ r = ℓ a - 1) (hno : ∀ b, b < r → ¬ (ins (σ 86) a b ∧ ℓ b = ℓ a - 1))
    (cont : T (rec i (r : Int) ((k : Int) + 1) σ) Q) : ∀ (f x : Nat), r - x < f → x ≤ r → T (vX10_nest_115 rec f i (a : Int) (k : Int) (x : Int) σ) Q := by
  intro f
  induction f with
  | zero => intro x h; omega
  | succ f ih =>
    intro x hf hx
    have bx := hb x (by omega)
    have ba := hb a ha
    rw [vX10_nest_115, m_isInside (by omega) (by omega), Option.bind_some, Int.toNat_natCast, Int.toNat_natCast, hl x (by omega), hl a ha, show (x : Int) + 1 = ((x + 1 : Nat) : Int) by omega]
    by_cases c : ins (σ 86) a x
    · refine T_f (by rw [bI_t c]; omega) ?_
      repeat (with_reducible first | refine T_ck (by omega) ?_ | refine T_nm ?_)
      refine T_ite (fun c2 => ?_) (fun c2 => ?_)
      · with_reducible refine T_ck (by omega) ?_
        have e : x = r := by
          rcases Nat.lt_or_ge x r with h | h
          · exact absurd ⟨c, c2⟩ (hno x h)
          · omega
        rw [e]; exact cont
      · with_reducible refine T_ck (by omega) ?_
        have : x ≠ r := fun e => c2 (by rw [e]; exact hP.2)
        exact ih (x + 1) (by omega) (by omega)
    · refine T_t (bI_f c) ?_
      with_reducible refine T_ck (by omega) ?_
      have : x ≠ r := fun e => c (by rw [e]; exact hP.1)
      exact ih (x + 1) (by omega) (by omega)
theorem m_nest_106 {σ : Sg} {n : Nat} {ℓ : Nat → Int} {m i : Int} (h8 : n ≤ 8) (hl : ∀ b, b < n → σ 110 b = ℓ b) (hN : NestOk (σ 86) n ℓ) (hm : ∃ b, b < n ∧ ℓ b = m) (hm64 : m ≤ 64) (hi : 0 ≤ i ∧ i < m) : ∀ (f k : Nat), (i - (k : Int)).toNat < f → (k : Int) ≤ i → T (vX10_nest_106 f i (chn (σ 86) n ℓ m k) (k : Int) σ) (fun p => p.2 = σ ∧ p.1 = chn (σ 86) n ℓ m i.toNat) := by
  intro f
  induction f with
  | zero => intro x h; omega
  | succ f ih =>
    intro k hf hk
    rw [vX10_nest_106]
    refine T_ite (fun h => ?_) (fun h => ?_)
    · obtain ⟨a, ea, a1, a2⟩ := chn_k hN hm k (by omega)
      obtain ⟨r, er, r1, r2⟩ := chn_k hN hm (k + 1) (by omega)
      have er0 := er
      rw [chn, ea, Int.toNat_natCast] at er
      have hbb : ∀ b, b < n → 1 ≤ ℓ b ∧ ℓ b ≤ 64 := fun b hb => (hN b hb).1
      obtain ⟨x, y, z⟩ := hN a a1
      have ex : ∃ b, 0 ≤ b ∧ b < n ∧ (ins (σ 86) a b ∧ ℓ b = m - ((k : Int) + 1)) := by
        rcases z with z | ⟨o, oa, oi, oz⟩
        · omega
        · exact ⟨o, by omega, oa, oi, by omega⟩
      obtain ⟨r', e', -, q1, q2, q3⟩ := fstN_e (n := n) n 0 (by omega) ex
      have : r = r' := by rw [er] at e'; omega
      subst this
      clear z ex
      rw [ea]
      refine m_nest_115 (a := a) (r := r) h8 (by omega) hl hbb a1 r1 ⟨q2.1, by rw [q2.2]; omega⟩ (fun b hb hp => q3 b (by omega) hb ⟨hp.1, by rw [hp.2]; omega⟩) ?_ FU 0 (by have := FU_b; omega) (by omega)
      rw [← er0, show (k : Int) + 1 = ((k + 1 : Nat) : Int) by omega]
      exact ih (k + 1) (by omega) (by omega)
    · rw [show i.toNat = k by omega]
      exact T_some ⟨rfl, rfl⟩
theorem m_nest_16 {σ : Sg} {n : Nat} {ℓ : Nat → Int} {i : Int} (h8 : n ≤ 8) (hn : σ 86 0 = (n : Int)) (hl : ∀ b, b < n → σ 110 b = ℓ b) (hN : NestOk (σ 86) n ℓ) : ∀ (f x : Nat) (a : Int), n - x < f → x ≤ n → ((x = 0 ∧ a = -1) ∨ (∃ r : Nat, a = (r : Int) ∧ r < x ∧ ℓ r = mxN ℓ (fun _ => True) x ∧ ∀ b, b < r → ℓ b < mxN ℓ (fun _ => True) x)) → T (vX10_nest_16 f i (mxN ℓ (fun _ => True) x) a (x : Int) σ) (fun p => p.2 = σ ∧ p.1 = if i = -1 then mxN ℓ (fun _ => True) n else if 0 ≤ i ∧ i < mxN ℓ (fun _ => True) n then chn (σ 86) n ℓ (mxN ℓ (fun _ => True) n) i.toNat else -1) := by
  intro f
  induction f with
  | zero => intro x a h; omega
  | succ f ih =>
    intro x a hf hx ha
    have m0 := mxN_0 (ℓ := ℓ) (P := fun _ => True) x
    rw [vX10_nest_16, hn]
    refine T_ite (fun h => ?_) (fun h => ?_)
    · have bx := (hN x (by omega)).1
      with_reducible refine T_ck (by omega) ?_
      rw [Int.toNat_natCast, hl x (by omega)]
      have es : mxN ℓ (fun _ => True) (x + 1) = imax (mxN ℓ (fun _ => True) x) (ℓ x) := by rw [mxN, if_pos trivial]
      refine T_ite (fun c => ?_) (fun c => ?_)
      · unfold vX10_nest_44
        rw [Int.toNat_natCast, hl x (by omega)]
        with_reducible refine T_ck (by omega) ?_
        refine T_t c ?_
        repeat (with_reducible first | refine T_ck (by omega) ?_ | refine T_nm ?_)
        have e1 : mxN ℓ (fun _ => True) (x + 1) = ℓ x := by rw [es]; unfold imax; split <;> omega
        rw [show (x : Int) + 1 = ((x + 1 : Nat) : Int) by omega, ← e1]
        refine ih (x + 1) (x : Int) (by omega) (by omega) (Or.inr ⟨x, rfl, by omega, e1.symm, fun b hb => ?_⟩)
        have := mxN_g (ℓ := ℓ) (P := fun _ => True) x b hb trivial
        omega
      · unfold vX10_nest_44
        rw [Int.toNat_natCast, hl x (by omega)]
        with_reducible refine T_ck (by omega) ?_
        refine T_f c ?_
        repeat (with_reducible first | refine T_ck (by omega) ?_ | refine T_nm ?_)
        have e1 : mxN ℓ (fun _ => True) (x + 1) = mxN ℓ (fun _ => True) x := by rw [es]; unfold imax; split <;> omega
        rw [show (x : Int) + 1 = ((x + 1 : Nat) : Int) by omega, ← e1]
        refine ih (x + 1) a (by omega) (by omega) ?_
        rcases ha with ⟨a1, a2⟩ | ⟨r, a1, a2, a3, a4⟩
        · have : mxN ℓ (fun _ => True) x = 0 := by rw [a1]; rfl
          omega
        · exact Or.inr ⟨r, a1, by omega, by rw [e1]; exact a3, by rw [e1]; exact a4⟩
    · have e : x = n := by omega
      subst e
      refine T_ite (fun c => ?_) (fun c => ?_)
      · unfold vX10_nest_92
        exact T_t c (T_some ⟨rfl, by dsimp only; rw [if_pos c]⟩)
      · rw [if_neg c]
        have b64 : mxN ℓ (fun _ => True) x ≤ 64 := by
          rcases mxN_e (ℓ := ℓ) (P := fun _ => True) x with e | ⟨b, b1, -, b2⟩
          · omega
          · have := (hN b b1).1; omega
        with_reducible refine T_ck (by omega) ?_
        rw [m_in, Option.bind_some]
        by_cases hi : 0 ≤ i ∧ i < mxN ℓ (fun _ => True) x
        · rw [if_pos hi]
          refine T_f (by rw [bI_t (by omega)]; omega) ?_
          rcases ha with ⟨a1, a2⟩ | ⟨r, a1, a2, a3, a4⟩
          · have : mxN ℓ (fun _ => True) x = 0 := by rw [a1]; rfl
            omega
          · have ec : chn (σ 86) x ℓ (mxN ℓ (fun _ => True) x) 0 = a := by
              rw [chn, a1]
              exact fstN_u x 0 (by omega) (by omega) a2 a3 (fun b _ hb => by have := a4 b hb; omega)
            rw [← ec]
            exact m_nest_106 h8 hl hN ⟨r, a2, a3⟩ b64 hi FU 0 (by have := FU_b; omega) (by omega)
        · rw [if_neg hi]
          refine T_t (bI_f (by omega)) ?_
          unfold vX10_nest_92
          exact T_f c (T_some ⟨rfl, rfl⟩)
theorem s_nest {K : Kt} {σ : Sg} {n i : Int} (hI : Inv K σ n) : St2 K n (vX9_nest K i σ) (vX10_nest i) := by
  obtain ⟨⟨hK, ⟨hW, hH⟩, hL, hU, hD, hT, hM, hC⟩, hS⟩ := id hI
  have h08 := hW.1.1
  obtain ⟨N, hN, -⟩ := bI_n (σ 86 0) h08.1
  have hw : ∀ b : Nat, b < N → 0 ≤ σ 86 (79 + (b : Int)).toNat ∧ σ 86 (79 + (b : Int)).toNat ≤ 63 := fun b hb => (hW.2.2.1 b (by omega) (by omega)).2.1
  unfold vX9_nest vX0_longestNest
  refine T_bd2 (R := fun p => ∃ σ1, Sme (fun k => k = 79) σ σ1 ∧ NestOk (σ 86) N (σ1 79) ∧ p.2 = σ1 ∧ p.1 = if i = -1 then mxN (σ1 79) (fun _ => True) N else if 0 ≤ i ∧ i < mxN (σ1 79) (fun _ => True) N then chn (σ 86) N (σ1 79) (mxN (σ1 79) (fun _ => True) N) i.toNat else -1) ?_ (fun r σ2 h => T_some ?_)
  · refine T_bind (c_fillLongest hH hN (by omega) hw) (fun σ1 h1 => ?_)
    refine T_mono (c_longestNest_8 (K := K) (ρ := σ 86) (n := N) (i := i) (HallIs_s hH (fun k k1 k2 => h1.1 k (by omega))) hN (by omega) h1.2 FU 0 (by have := FU_b; omega) (by omega)) (fun p hp => ⟨σ1, h1.1, h1.2, hp.1, hp.2⟩)
  · obtain ⟨σ1, S1, N1, e2, er⟩ := h
    dsimp only at e2 er ⊢
    subst e2
    have hs := Scr_0 (z := 0) (Scr_s (Sme_m S1 (fun k hk => by unfold scA; omega)))
    have e86 : up2 σ2 84 0 0 86 = σ 86 := hs.1 86 (by omega) (by unfold scA; omega)
    unfold vX10_nest vX10_layNests
    refine T_nm ?_
    rw [e86, hN]
    refine T_bind (T_nm (m_layNests_9 (σ0 := up2 σ2 84 0 0) (n := N) (ℓ := σ2 79) (by omega) (by rw [e86]; exact N1) (fun b hb => ?_) FU 0 _ (by have := FU_b; omega) (by omega) Sme_r (fun b hb => by omega))) (fun σ3 h3 => ?_)
    · have := nest_le hw N1 64 b hb (N1 b hb).1.2
      have := cg_b (fun x => σ 86 (79 + (x : Int)).toNat) (σ 86 (79 + (b : Int)).toNat) N
      omega
    · have f86 : σ3 86 = σ 86 := by rw [h3.1 86 (by omega), e86]
      refine T_mono (m_nest_16 (σ := σ3) (n := N) (ℓ := σ2 79) (i := i) (by omega) (by rw [f86]; exact hN) h3.2 (by rw [f86]; exact N1) FU 0 (-1) (by have := FU_b; omega) (by omega) (Or.inl ⟨rfl, rfl⟩)) (fun q hq => ⟨?_, ?_⟩)
      · rw [hq.2, er, f86]
      · rw [hq.1]
        exact Inv_scr hI (Scr_t hs (Scr_s (Sme_m h3.1 (fun k hk => by unfold scA; omega))))
