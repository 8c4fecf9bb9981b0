/-! ===== sets, ask, last ===== -/
theorem cnS_m {P : Nat → Prop} {s : Nat} : ∀ t : Nat, s ≤ t → cnS P s ≤ cnS P t
  | 0, h => by rw [show s = 0 by omega]; omega
  | t + 1, h => by
    by_cases e : s = t + 1
    · rw [e]; omega
    · have := cnS_m (P := P) (s := s) t (by omega)
      have := bI_01 (P t)
      rw [cnS]; omega
def nthP (P : Nat → Prop) (M : Nat) (i r : Int) : Prop := (r = -1 ∧ ∀ s : Nat, s < M → ¬ (P s ∧ cnS P s = i)) ∨ ∃ s : Nat, r = (s : Int) ∧ s < M ∧ P s ∧ cnS P s = i
theorem cnS_lt {P : Nat → Prop} {s t : Nat} (h : s < t) (hp : P s) : cnS P s < cnS P t := by
  have := cnS_m (P := P) (s := s + 1) t (by omega)
  rw [cnS, bI_t hp] at this
  omega
theorem nthP_u {P : Nat → Prop} {M : Nat} {i r r' : Int} (h : nthP P M i r) (h' : nthP P M i r') : r = r' := by
  rcases h with ⟨a, b⟩ | ⟨s, a, b, c, d⟩
  · rcases h' with ⟨a', b'⟩ | ⟨s', a', b', c', d'⟩
    · omega
    · exact absurd ⟨c', d'⟩ (b s' b')
  · rcases h' with ⟨a', b'⟩ | ⟨s', a', b', c', d'⟩
    · exact absurd ⟨c, d⟩ (b' s b)
    · rcases Nat.lt_trichotomy s s' with l | l | l
      · have := cnS_lt l c; omega
      · omega
      · have := cnS_lt l c'; omega
theorem c_setNumbered_4 {K : Kt} {σ : Sg} {P : Nat → Prop} {N M : Nat} {i : Int} (hN : σ 13 1 = (N : Int)) (hM : bShl 1 (N : Int) = (M : Int)) (hM2 : M ≤ 256) (h77 : ∀ u, u < M → σ 77 u = bI (P u)) : ∀ (f x : Nat), M - x < f → x ≤ M → (∀ s : Nat, s < x → ¬ (P s ∧ cnS P s = i)) → T (vX0_setNumbered_4 K σ f i (cnS P x) (x : Int)) (fun p => nthP P M i p) := by
  intro f
  induction f with
  | zero => intro x h; omega
  | succ f ih =>
    intro x hf hx hno
    have cb := cnS_b P x
    rw [vX0_setNumbered_4, hN, hM]
    refine T_ite (fun h => ?_) (fun h => ?_)
    · with_reducible refine T_ck (by omega) ?_
      rw [Int.toNat_natCast, h77 x (by omega), show (x : Int) + 1 = ((x + 1 : Nat) : Int) by omega]
      by_cases c : P x
      · refine T_f (by rw [bI_t c]; omega) ?_
        refine T_ite (fun e => T_some (Or.inr ⟨x, rfl, by omega, c, e⟩)) (fun e => ?_)
        repeat (with_reducible first | refine T_ck (by omega) ?_ | refine T_nm ?_)
        have nx := ih (x + 1) (by omega) (by omega) (fun s hs hp => ?_)
        · rw [cnS, bI_t c] at nx; exact nx
        · by_cases e2 : s = x
          · rw [e2] at hp; exact e hp.2
          · exact hno s (by omega) hp
      · refine T_t (bI_f c) ?_
        with_reducible refine T_ck (by omega) ?_
        have nx := ih (x + 1) (by omega) (by omega) (fun s hs hp => ?_)
        · rw [cnS, bI_f c, Int.add_zero] at nx; exact nx
        · by_cases e2 : s = x
          · rw [e2] at hp; exact c hp.1
          · exact hno s (by omega) hp
    · rw [show x = M by omega] at hno
      exact T_some (Or.inl ⟨rfl, hno⟩)
theorem m_sets_41 {σ : Sg} {P : Nat → Prop} {N M r : Nat} {i : Int} (hN : σ 86 0 = (N : Int)) (hM : bShl 1 (N : Int) = (M : Int)) (hM2 : M ≤ 256) (hone : ∀ s : Nat, s < M → vX10_isOne (s : Int) (r : Int) σ = some (bI (P s))) : ∀ (f x : Nat) (its : Int), M - x < f → x ≤ M → nthP P x i its → T (vX10_sets_41 f (r : Int) i (cnS P x) its (x : Int) σ) (fun p => p.2 = σ ∧ ∃ z, nthP P M i z ∧ p.1 = if i = -1 then cnS P M else z) := by
  intro f
  induction f with
  | zero => intro x its h; omega
  | succ f ih =>
    intro x its hf hx hI
    have cb := cnS_b P x
    rw [vX10_sets_41, hN, hM]
    refine T_ite (fun h => ?_) (fun h => ?_)
    · rw [hone x (by omega), Option.bind_some, show (x : Int) + 1 = ((x + 1 : Nat) : Int) by omega]
      have keep : ¬ (P x ∧ cnS P x = i) → nthP P (x + 1) i its := by
        intro hn
        rcases hI with ⟨a, b⟩ | ⟨s, a, b, c, d⟩
        · refine Or.inl ⟨a, fun s hs => ?_⟩
          by_cases e2 : s = x
          · rw [e2]; exact hn
          · exact b s (by omega)
        · exact Or.inr ⟨s, a, by omega, c, d⟩
      by_cases c : P x
      · refine T_f (by rw [bI_t c]; omega) ?_
        refine T_ite (fun e => ?_) (fun e => ?_)
        · repeat (with_reducible first | refine T_ck (by omega) ?_ | refine T_nm ?_)
          have nx := ih (x + 1) (x : Int) (by omega) (by omega) (Or.inr ⟨x, rfl, by omega, c, e⟩)
          rw [cnS, bI_t c] at nx; exact nx
        · repeat (with_reducible first | refine T_ck (by omega) ?_ | refine T_nm ?_)
          have nx := ih (x + 1) its (by omega) (by omega) (keep (fun h => e h.2))
          rw [cnS, bI_t c] at nx; exact nx
      · refine T_t (bI_f c) ?_
        with_reducible refine T_ck (by omega) ?_
        have nx := ih (x + 1) its (by omega) (by omega) (keep (fun h => c h.1))
        rw [cnS, bI_f c, Int.add_zero] at nx; exact nx
    · have e : x = M := by omega
      subst e
      refine T_ite (fun c => T_some ⟨rfl, its, hI, by dsimp only; rw [if_pos c]⟩) (fun c => T_some ⟨rfl, its, hI, by dsimp only; rw [if_neg c]⟩)
theorem M_of {N : Nat} (h : N ≤ 8) : ∃ M : Nat, bShl 1 (N : Int) = (M : Int) ∧ 1 ≤ M ∧ M ≤ 256 := by
  refine ⟨2 ^ N, bShl_n (by omega), Nat.two_pow_pos N, ?_⟩
  have : 2 ^ N ≤ 2 ^ 8 := Nat.pow_le_pow_right (by omega) h
  omega
/-- what both have found of the sets -/
theorem fnd {K : Kt} {σ : Sg} {n : Int} {r : Nat} {fr : Int} (hI : Inv K σ n) (hr : (r : Int) < σ 86 1) (hf : 0 ≤ fr ∧ fr ≤ 63) : ∃ (N M : Nat), σ 86 0 = (N : Int) ∧ N ≤ 8 ∧ bShl 1 (N : Int) = (M : Int) ∧ M ≤ 256 ∧
    T (vX0_findSets K fr (σ 18 r) σ) (fun p => ∃ R : Nat → Int, R = p.2 76 ∧ p.1 = cnS (isS (σ 86) N fr (σ 86 (17 + (r : Int)).toNat) R) M ∧ HallIs p.2 13 (σ 86) ∧ (∀ u, u < M → p.2 78 u = trS (σ 86) fr u N) ∧ (∀ u, u < M → p.2 77 u = bI (isS (σ 86) N fr (σ 86 (17 + (r : Int)).toNat) R u))
      ∧ Scr σ p.2 ∧ ∀ σ1, Scr σ σ1 → T (vX10_laySets fr σ1) (fun σ2 => Scr σ σ2 ∧ σ2 86 = σ 86 ∧ lyI (σ 86) N fr R σ2 M ∧ ∀ s : Nat, s < M → vX10_isOne (s : Int) (r : Int) σ2 = some (bI (isS (σ 86) N fr (σ 86 (17 + (r : Int)).toNat) R s)))) := by
  obtain ⟨⟨hK, ⟨hW, hH⟩, hL, hU, hD, hT, hM, hC⟩, hS⟩ := id hI
  have h08 := hW.1.1
  have h16 := hW.1.2.1
  obtain ⟨N, hN, -⟩ := bI_n (σ 86 0) h08.1
  obtain ⟨M, hM', hM1, hM2⟩ := M_of (N := N) (by omega)
  have g18 : σ 18 r = σ 86 (17 + (r : Int)).toNat := by
    have := (H13 hH).2.2.1 (r : Int) (by omega) (by omega)
    rw [Int.toNat_natCast] at this
    exact this.1
  refine ⟨N, M, hN, by omega, hM', hM2, ?_⟩
  rw [g18]
  refine T_mono (c_findSets hH hN (by omega) hM' hM2) (fun p hp => ⟨p.2 76, rfl, hp.2.2, HallIs_s hH (fun k k1 k2 => hp.1 k (by omega)), hp.2.1.1, hp.2.1.2.2, Scr_s (Sme_m hp.1 (fun k hk => by unfold scA; omega)), fun σ1 hs1 => ?_⟩)
  have e86 : σ1 86 = σ 86 := hs1.1 86 (by omega) (by unfold scA; omega)
  refine T_mono (m_laySets (σ := σ1) (R := p.2 76) (by rw [e86]; exact hN) (by omega) hM' hM1 hM2 (by rw [e86]; exact hp.2.1.2.1)) (fun σ2 h2 => ?_)
  have f86 : σ2 86 = σ 86 := by rw [h2.1 86 (by omega), e86]
  have h22 := h2.2
  rw [e86] at h22
  exact ⟨Scr_t hs1 (Scr_s (Sme_m h2.1 (fun k hk => by unfold scA; omega))), f86, h22, fun s hs => m_isOne h22 f86 hs hM2 (by omega)⟩
theorem s_sets {K : Kt} {σ : Sg} {n p1 fr i : Int} (hI : Inv K σ n) : St2 K n (vX9_sets K p1 fr i σ) (vX10_sets p1 fr i) := by
  obtain ⟨⟨hK, ⟨hW, hH⟩, hL, hU, hD, hT, hM, hC⟩, hS⟩ := id hI
  have h16 := hW.1.2.1
  have g1 : σ 13 2 = σ 86 1 := hH.1.2.1
  have e86 : up2 σ 84 0 0 86 = σ 86 := u84o (by omega)
  have hI' := Inv_scr hI (Scr_0 (z := 0) Scr_r)
  have no : ¬ ((0 ≤ p1 ∧ p1 < σ 86 1) ∧ (0 ≤ fr ∧ fr ≤ 63)) → T (vX10_sets p1 fr i σ) (fun q => q.1 = -1 ∧ Inv K q.2 (n + 1)) := by
    intro h
    unfold vX10_sets
    refine T_nm ?_
    rw [m_isReader (by rw [e86]; exact h16), Option.bind_some, e86, m_in, Option.bind_some]
    exact T_ite (fun _ => T_some ⟨rfl, hI'⟩) (fun h1 => T_t (bI_f (fun h2 => h ⟨Classical.not_not.mp (fun c => h1 (bI_f c)), h2⟩)) (T_some ⟨rfl, hI'⟩))
  unfold vX9_sets
  rw [h_hasReader, Option.bind_some, c_within, Option.bind_some, g1]
  by_cases hr : 0 ≤ p1 ∧ p1 < σ 86 1
  · refine T_f (by rw [bI_t hr]; omega) ?_
    by_cases hf : 0 ≤ fr ∧ fr ≤ 63
    · refine T_f (by rw [bI_t hf]; omega) ?_
      with_reducible refine T_ck (by omega) ?_
      obtain ⟨r, er, -⟩ := bI_n p1 hr.1
      subst er
      rw [Int.toNat_natCast]
      obtain ⟨N, M, hN, h8, hM', hM2, fd⟩ := fnd (fr := fr) hI hr.2 hf
      refine T_bd2 fd (fun z σ1 h => ?_)
      obtain ⟨R, eR, ez, H1, h78, h77, S1, ly⟩ := h
      dsimp only at eR ez H1 h78 h77 S1
      have ref : ∀ v, (∀ y, nthP (isS (σ 86) N fr (σ 86 (17 + (r : Int)).toNat) R) M i y → v = if i = -1 then cnS (isS (σ 86) N fr (σ 86 (17 + (r : Int)).toNat) R) M else y) → T (vX10_sets (r : Int) fr i σ1) (fun q => q.1 = v ∧ Inv K q.2 (n + 1)) := by
        intro v hv
        have hs0 := Scr_0 (z := 0) S1
        have f86 : up2 σ1 84 0 0 86 = σ 86 := hs0.1 86 (by omega) (by unfold scA; omega)
        unfold vX10_sets
        refine T_nm ?_
        rw [m_isReader (by rw [f86]; exact h16), Option.bind_some, f86]
        refine T_f (by rw [bI_t hr]; omega) ?_
        rw [m_in, Option.bind_some]
        refine T_f (by rw [bI_t hf]; omega) ?_
        refine T_bind (ly _ hs0) (fun σ2 h2 => ?_)
        obtain ⟨a1, a2, a3, a4⟩ := h2
        refine T_mono (m_sets_41 (P := isS (σ 86) N fr (σ 86 (17 + (r : Int)).toNat) R) (by rw [a2]; exact hN) hM' hM2 a4 FU 0 (-1) (by have := FU_b; omega) (by omega) (Or.inl ⟨rfl, fun s hs => by omega⟩)) (fun q hq => ?_)
        obtain ⟨q1, y, q2, q3⟩ := hq
        exact ⟨by rw [q3]; exact (hv y q2).symm, by rw [q1]; exact Inv_scr hI a1⟩
      refine T_ite (fun c => T_some ?_) (fun c => ?_)
      · refine ref z (fun y _ => ?_)
        rw [if_pos c]; exact ez
      · have g13 : σ1 13 1 = (N : Int) := by rw [H1.1.1]; exact hN
        unfold vX0_setNumbered
        refine T_bind (c_setNumbered_4 (P := isS (σ 86) N fr (σ 86 (17 + (r : Int)).toNat) R) g13 hM' hM2 h77 FU 0 (by have := FU_b; omega) (by omega) (fun s hs => by omega)) (fun y hy => T_some (ref y (fun y' hy' => ?_)))
        rw [if_neg c]; exact nthP_u hy hy'
    · exact T_t (bI_f hf) (T_some (no (fun h => hf h.2)))
  · exact T_t (bI_f hr) (T_some (no (fun h => hr h.1)))
/-! ask -/
theorem cnS_0 {P : Nat → Prop} {M : Nat} (h : cnS P M = 0) : ∀ s, s < M → ¬ P s := by
  intro s hs hp
  have := cnS_lt hs hp
  have := cnS_b P s
  omega
theorem cnS_sp {P Q : Nat → Prop} : ∀ s : Nat, cnS (fun u => P u ∧ Q u) s + cnS (fun u => P u ∧ ¬ Q u) s = cnS P s
  | 0 => rfl
  | s + 1 => by
    have ih := cnS_sp (P := P) (Q := Q) s
    rw [cnS, cnS, cnS]
    by_cases hp : P s
    · by_cases hq : Q s
      · rw [bI_t ⟨hp, hq⟩, bI_f (fun h => h.2 hq), bI_t hp]; omega
      · rw [bI_f (fun h => hq h.2), bI_t ⟨hp, hq⟩, bI_t hp]; omega
    · rw [bI_f (fun h => hp h.1), bI_f (fun h => hp h.1), bI_f hp]; omega
theorem c_setsWith_4 {K : Kt} {σ : Sg} {P : Nat → Prop} {N M b : Nat} (hN : σ 13 1 = (N : Int)) (hb : b < 8) (hM : bShl 1 (N : Int) = (M : Int)) (hM2 : M ≤ 256) (h77 : ∀ u, u < M → σ 77 u = bI (P u)) : ∀ (f x : Nat), M - x < f → x ≤ M → T (vX0_setsWith_4 K σ f (b : Int) (cnS (fun s => P s ∧ s.testBit b = true) x) (x : Int)) (fun p => p = cnS (fun s => P s ∧ s.testBit b = true) M) := by
  intro f
  induction f with
  | zero => intro x h; omega
  | succ f ih =>
    intro x hf hx
    have cb := cnS_b (fun s => P s ∧ s.testBit b = true) x
    rw [vX0_setsWith_4, hN, hM]
    refine T_ite (fun h => ?_) (fun h => ?_)
    · with_reducible refine T_ck (by omega) ?_
      rw [Int.toNat_natCast, h77 x (by omega), show (x : Int) + 1 = ((x + 1 : Nat) : Int) by omega]
      have nx := ih (x + 1) (by omega) (by omega)
      rw [cnS] at nx
      by_cases c : P x
      · refine T_f (by rw [bI_t c]; omega) ?_
        refine T_ite (fun c2 => ?_) (fun c2 => ?_)
        · rw [bit_c (by omega) (by omega), tb_n] at c2
          rw [bI_f (fun h => by have := h.2; rw [c2] at this; cases this), Int.add_zero] at nx
          with_reducible refine T_ck (by omega) ?_
          exact nx
        · rw [bit_c (by omega) (by omega), tb_n] at c2
          rw [bI_t ⟨c, by simpa using c2⟩] at nx
          repeat (with_reducible first | refine T_ck (by omega) ?_ | refine T_nm ?_)
          exact nx
      · rw [bI_f (fun h => c h.1), Int.add_zero] at nx
        refine T_t (bI_f c) ?_
        with_reducible refine T_ck (by omega) ?_
        exact nx
    · rw [show x = M by omega]; exact T_some rfl
noncomputable def moF (P : Nat → Prop) (M b : Nat) : Int := imax (cnS (fun s => P s ∧ s.testBit b = true) M) (cnS P M - cnS (fun s => P s ∧ s.testBit b = true) M)
noncomputable def aF (P : Nat → Prop) (M : Nat) : Nat → Int × Int
  | 0 => (-1, cnS P M + 1)
  | b + 1 => if moF P M b < (aF P M b).2 then ((b : Int), moF P M b) else aF P M b
theorem moF_b {P : Nat → Prop} {M b : Nat} (h : 0 < cnS P M) : 0 < moF P M b ∧ moF P M b ≤ cnS P M := by
  have a := cnS_b (fun s => P s ∧ s.testBit b = true) M
  have c := cnS_b (fun s => P s ∧ ¬ s.testBit b = true) M
  have d := cnS_sp (P := P) (Q := fun s => s.testBit b = true) M
  unfold moF imax
  split <;> omega
theorem c_bestToAsk_10 {K : Kt} {σ : Sg} {P : Nat → Prop} {N M : Nat} {w : Int} (hN : σ 13 1 = (N : Int)) (h8 : N ≤ 8) (hM : bShl 1 (N : Int) = (M : Int)) (hM2 : M ≤ 256) (h77 : ∀ u, u < M → σ 77 u = bI (P u)) (hp : 0 < cnS P M) : ∀ (f b : Nat), N - b < f → b ≤ N → T (vX0_bestToAsk_10 K σ f (cnS P M) w (aF P M b).1 (aF P M b).2 (b : Int)) (fun p => p = if w = 0 ∨ (aF P M N).1 = -1 then (aF P M N).1 else (aF P M N).2) := by
  intro f
  induction f with
  | zero => intro x h; omega
  | succ f ih =>
    intro b hf hb
    rw [vX0_bestToAsk_10, hN]
    refine T_ite (fun h => ?_) (fun h => ?_)
    · have cb := cnS_b (fun s => P s ∧ s.testBit b = true) M
      have cb2 := cnS_b P M
      unfold vX0_setsWith
      refine T_bind (c_setsWith_4 (P := P) hN (by omega) hM hM2 h77 FU 0 (by have := FU_b; omega) (by omega)) (fun z hz => ?_)
      rw [hz]
      with_reducible refine T_ck (by omega) ?_
      refine T_nm ?_
      rw [show (b : Int) + 1 = ((b + 1 : Nat) : Int) by omega]
      have nx := ih (b + 1) (by omega) (by omega)
      rw [aF] at nx
      show T (if moF P M b < (aF P M b).2 then _ else _) _
      refine T_ite (fun c => ?_) (fun c => ?_)
      · rw [if_pos c] at nx
        with_reducible refine T_ck (by omega) ?_
        exact nx
      · rw [if_neg c] at nx
        with_reducible refine T_ck (by omega) ?_
        exact nx
    · have e : b = N := by omega
      subst e
      refine T_ite (fun c => T_some (by rw [if_pos (Or.inl c)])) (fun c => T_ite (fun c2 => T_some (by rw [if_pos (Or.inr c2)])) (fun c2 => T_some (by rw [if_neg (fun h => h.elim c c2)])))
theorem m_ask_73 {σ : Sg} {rec : Int → Int → Int → Int → Int → Sg → Option (Int × Sg)} {Q : Int × Sg → Prop} {P : Nat → Prop} {N M r b : Nat} {w x4 x5 : Int} (hN : σ 86 0 = (N : Int)) (hb : b < 8) (hM : bShl 1 (N : Int) = (M : Int)) (hM2 : M ≤ 256) (hone : ∀ s : Nat, s < M → vX10_isOne (s : Int) (r : Int) σ = some (bI (P s)))
    (cont : T (if 0 < moF P M b ∧ moF P M b < x4 then rec (r : Int) w (moF P M b) (b : Int) ((b : Int) + 1) σ else rec (r : Int) w x4 x5 ((b : Int) + 1) σ) Q) :
    ∀ (f x : Nat), M - x < f → x ≤ M → T (vX10_ask_73 rec f (r : Int) w x4 x5 (b : Int) (cnS (fun s => P s ∧ s.testBit b = true) x) (cnS (fun s => P s ∧ ¬ s.testBit b = true) x) (x : Int) σ) Q := by
  intro f
  induction f with
  | zero => intro x h; omega
  | succ f ih =>
    intro x hf hx
    have ca := cnS_b (fun s => P s ∧ s.testBit b = true) x
    have cb := cnS_b (fun s => P s ∧ ¬ s.testBit b = true) x
    rw [vX10_ask_73, hN, hM]
    refine T_ite (fun h => ?_) (fun h => ?_)
    · have nx := ih (x + 1) (by omega) (by omega)
      rw [cnS, cnS] at nx
      rw [hone x (by omega), Option.bind_some]
      have o1 := hone x (by omega)
      have i1 := m_is (σ := σ) (s := (x : Int)) (k := b) (by omega) (by omega)
      rw [tb_n] at i1
      by_cases c : P x
      · refine T_f (by rw [bI_t c]; omega) ?_
        rw [i1, Option.bind_some]
        cases ct : x.testBit b with
        | false =>
          rw [ct] at i1
          rw [bI_f (fun h => by have := h.2; rw [ct] at this; cases this), bI_t ⟨c, by rw [ct]; decide⟩, Int.add_zero] at nx
          refine T_t rfl ?_
          unfold vX10_ask_112 vX10_ask_113
          repeat (with_reducible first | refine T_ck (by omega) ?_ | refine T_nm ?_)
          rw [o1, Option.bind_some]
          refine T_f (by rw [bI_t c]; omega) ?_
          rw [i1, Option.bind_some]
          refine T_t rfl ?_
          repeat (with_reducible first | refine T_ck (by omega) ?_ | refine T_nm ?_)
          rw [Int.add_zero, show (x : Int) + 1 = ((x + 1 : Nat) : Int) by omega]
          exact nx
        | true =>
          rw [ct] at i1
          rw [bI_t ⟨c, ct⟩, bI_f (fun h => h.2 ct), Int.add_zero] at nx
          refine T_f (by decide) ?_
          unfold vX10_ask_113
          repeat (with_reducible first | refine T_ck (by omega) ?_ | refine T_nm ?_)
          rw [o1, Option.bind_some]
          refine T_f (by rw [bI_t c]; omega) ?_
          rw [i1, Option.bind_some]
          refine T_f (by decide) ?_
          repeat (with_reducible first | refine T_ck (by omega) ?_ | refine T_nm ?_)
          rw [Int.add_zero, show (x : Int) + 1 = ((x + 1 : Nat) : Int) by omega]
          exact nx
      · refine T_t (bI_f c) ?_
        rw [bI_f (fun h => c h.1), bI_f (fun h => c h.1), Int.add_zero, Int.add_zero] at nx
        unfold vX10_ask_112 vX10_ask_113
        repeat (with_reducible first | refine T_ck (by omega) ?_ | refine T_nm ?_)
        rw [o1, Option.bind_some]
        refine T_t (bI_f c) ?_
        repeat (with_reducible first | refine T_ck (by omega) ?_ | refine T_nm ?_)
        rw [Int.add_zero, Int.add_zero, show (x : Int) + 1 = ((x + 1 : Nat) : Int) by omega]
        exact nx
    · have e : x = M := by omega
      subst e
      have d := cnS_sp (P := P) (Q := fun s => s.testBit b = true) x
      have fin : ∀ y, y = moF P x b → T (vX10_ask_166 rec (r : Int) w x4 x5 (b : Int) y σ) Q := by
        intro y hy
        rw [← hy] at cont
        unfold vX10_ask_166 vX10_ask_185 vX10_ask_187
        refine T_ite (fun c => ?_) (fun c => ?_)
        · refine T_ite (fun c2 => ?_) (fun c2 => ?_)
          · rw [if_pos ⟨c, c2⟩] at cont
            refine T_t c (T_t c2 ?_)
            with_reducible refine T_ck (by omega) ?_
            exact cont
          · rw [if_neg (fun h => c2 h.2)] at cont
            refine T_t c (T_f c2 ?_)
            with_reducible refine T_ck (by omega) ?_
            exact cont
        · rw [if_neg (fun h => c h.1)] at cont
          refine T_f c ?_
          with_reducible refine T_ck (by omega) ?_
          exact cont
      refine T_ite (fun c => fin _ ?_) (fun c => fin _ ?_)
      · unfold moF imax; split <;> omega
      · unfold moF imax; split <;> omega
theorem m_ask_53 {σ : Sg} {P : Nat → Prop} {N M r : Nat} {w : Int} (hN : σ 86 0 = (N : Int)) (h8 : N ≤ 8) (hM : bShl 1 (N : Int) = (M : Int)) (hM2 : M ≤ 256) (hone : ∀ s : Nat, s < M → vX10_isOne (s : Int) (r : Int) σ = some (bI (P s))) : ∀ (f b : Nat) (x4 x5 : Int), N - b < f → b ≤ N → ((0 < cnS P M ∧ x5 = (aF P M b).1 ∧ ((b = 0 ∧ x4 = 100000000) ∨ (b ≠ 0 ∧ x4 = (aF P M b).2))) ∨ (cnS P M = 0 ∧ x5 = -1)) → T (vX10_ask_53 f (r : Int) w x4 x5 (b : Int) σ) (fun p => p.2 = σ ∧ p.1 = if cnS P M = 0 then -1 else if w = 0 ∨ (aF P M N).1 = -1 then (aF P M N).1 else (aF P M N).2) := by
  intro f
  induction f with
  | zero => intro b x4 x5 h; omega
  | succ f ih =>
    intro b x4 x5 hf hb hI
    rw [vX10_ask_53, hN]
    refine T_ite (fun h => ?_) (fun h => ?_)
    · have cb2 := cnS_b P M
      refine m_ask_73 (P := P) (M := M) hN (by omega) hM hM2 hone ?_ FU 0 (by have := FU_b; omega) (by omega)
      rw [show (b : Int) + 1 = ((b + 1 : Nat) : Int) by omega]
      rcases hI with ⟨a1, a2, a3⟩ | ⟨a1, a2⟩
      · have mb := moF_b (b := b) a1
        have es : aF P M (b + 1) = if moF P M b < (aF P M b).2 then ((b : Int), moF P M b) else aF P M b := rfl
        refine T_ite (fun c => ?_) (fun c => ?_)
        · have e2 : moF P M b < (aF P M b).2 := by
            rcases a3 with ⟨b0, _⟩ | ⟨b0, b1⟩
            · subst b0; show moF P M 0 < cnS P M + 1; omega
            · omega
          rw [if_pos e2] at es
          exact ih (b + 1) _ _ (by omega) (by omega) (Or.inl ⟨a1, by rw [es], Or.inr ⟨by omega, by rw [es]⟩⟩)
        · have e2 : ¬ moF P M b < (aF P M b).2 ∧ b ≠ 0 := by
            rcases a3 with ⟨b0, b1⟩ | ⟨b0, b1⟩
            · omega
            · omega
          rw [if_neg e2.1] at es
          refine ih (b + 1) _ _ (by omega) (by omega) (Or.inl ⟨a1, by rw [es]; exact a2, Or.inr ⟨by omega, ?_⟩⟩)
          rw [es]
          omega
      · have z : ¬ (0 < moF P M b ∧ moF P M b < x4) := by
          have a := cnS_b (fun s => P s ∧ s.testBit b = true) M
          have c := cnS_b (fun s => P s ∧ ¬ s.testBit b = true) M
          have d := cnS_sp (P := P) (Q := fun s => s.testBit b = true) M
          unfold moF imax
          split <;> omega
        refine T_f z ?_
        exact ih (b + 1) _ _ (by omega) (by omega) (Or.inr ⟨a1, a2⟩)
    · have e : b = N := by omega
      subst e
      rcases hI with ⟨a1, a2, a3⟩ | ⟨a1, a2⟩
      · rw [if_neg (show ¬ cnS P M = 0 by omega)]
        refine T_ite (fun c => T_some ⟨rfl, ?_⟩) (fun c => T_ite (fun c2 => T_some ⟨rfl, ?_⟩) (fun c2 => T_some ⟨rfl, ?_⟩))
        · dsimp only; rw [if_pos (Or.inr (by omega))]; exact a2
        · dsimp only; rw [if_pos (Or.inl c2)]; exact a2
        · dsimp only
          rw [if_neg (fun h => h.elim c2 (fun q => c (by omega)))]
          rcases a3 with ⟨b0, b1⟩ | ⟨b0, b1⟩
          · rw [a2, b0] at c; exact absurd rfl c
          · exact b1
      · rw [if_pos a1]
        exact T_t a2 (T_some ⟨rfl, a2⟩)
theorem s_ask {K : Kt} {σ : Sg} {n p1 fr w : Int} (hI : Inv K σ n) : St2 K n (vX9_ask K p1 fr w σ) (vX10_ask p1 fr w) := by
  obtain ⟨⟨hK, ⟨hW, hH⟩, hL, hU, hD, hT, hM, hC⟩, hS⟩ := id hI
  have h16 := hW.1.2.1
  have g1 : σ 13 2 = σ 86 1 := hH.1.2.1
  have e86 : up2 σ 84 0 0 86 = σ 86 := u84o (by omega)
  have hI' := Inv_scr hI (Scr_0 (z := 0) Scr_r)
  have no : ¬ ((0 ≤ p1 ∧ p1 < σ 86 1) ∧ (0 ≤ fr ∧ fr ≤ 63) ∧ (0 ≤ w ∧ w ≤ 1)) → T (vX10_ask p1 fr w σ) (fun q => q.1 = -1 ∧ Inv K q.2 (n + 1)) := by
    intro h
    unfold vX10_ask
    refine T_nm ?_
    rw [m_isReader (by rw [e86]; exact h16), Option.bind_some, e86, m_in, Option.bind_some, m_in, Option.bind_some]
    exact T_ite (fun _ => T_some ⟨rfl, hI'⟩) (fun h1 => T_ite (fun _ => T_some ⟨rfl, hI'⟩) (fun h2 => T_t (bI_f (fun h3 => h ⟨Classical.not_not.mp (fun c => h1 (bI_f c)), Classical.not_not.mp (fun c => h2 (bI_f c)), h3⟩)) (T_some ⟨rfl, hI'⟩)))
  unfold vX9_ask
  rw [h_hasReader, Option.bind_some, c_within, Option.bind_some, c_within, Option.bind_some, g1]
  by_cases hr : 0 ≤ p1 ∧ p1 < σ 86 1
  · refine T_f (by rw [bI_t hr]; omega) ?_
    by_cases hf : 0 ≤ fr ∧ fr ≤ 63
    · refine T_f (by rw [bI_t hf]; omega) ?_
      by_cases hw : 0 ≤ w ∧ w ≤ 1
      · refine T_f (by rw [bI_t hw]; omega) ?_
        with_reducible refine T_ck (by omega) ?_
        obtain ⟨r, er, -⟩ := bI_n p1 hr.1
        subst er
        rw [Int.toNat_natCast]
        obtain ⟨N, M, hN, h8, hM', hM2, fd⟩ := fnd (fr := fr) hI hr.2 hf
        refine T_bd2 fd (fun z σ1 h => ?_)
        obtain ⟨R, eR, ez, H1, h78, h77, S1, ly⟩ := h
        dsimp only at eR ez H1 h78 h77 S1
        have zb := cnS_b (isS (σ 86) N fr (σ 86 (17 + (r : Int)).toNat) R) M
        have ref : T (vX10_ask (r : Int) fr w σ1) (fun q => q.1 = (if cnS (isS (σ 86) N fr (σ 86 (17 + (r : Int)).toNat) R) M = 0 then -1 else if w = 0 ∨ (aF (isS (σ 86) N fr (σ 86 (17 + (r : Int)).toNat) R) M N).1 = -1 then (aF (isS (σ 86) N fr (σ 86 (17 + (r : Int)).toNat) R) M N).1 else (aF (isS (σ 86) N fr (σ 86 (17 + (r : Int)).toNat) R) M N).2) ∧ Inv K q.2 (n + 1)) := by
          have hs0 := Scr_0 (z := 0) S1
          have f86 : up2 σ1 84 0 0 86 = σ 86 := hs0.1 86 (by omega) (by unfold scA; omega)
          unfold vX10_ask
          refine T_nm ?_
          rw [m_isReader (by rw [f86]; exact h16), Option.bind_some, f86]
          refine T_f (by rw [bI_t hr]; omega) ?_
          rw [m_in, Option.bind_some]
          refine T_f (by rw [bI_t hf]; omega) ?_
          rw [m_in, Option.bind_some]
          refine T_f (by rw [bI_t hw]; omega) ?_
          refine T_bind (ly _ hs0) (fun σ2 h2 => ?_)
          obtain ⟨a1, a2, a3, a4⟩ := h2
          refine T_mono (m_ask_53 (P := isS (σ 86) N fr (σ 86 (17 + (r : Int)).toNat) R) (by rw [a2]; exact hN) h8 hM' hM2 a4 FU 0 100000000 (-1) (by have := FU_b; omega) (by omega) ?_) (fun q hq => ⟨hq.2, by rw [hq.1]; exact Inv_scr hI a1⟩)
          by_cases c : cnS (isS (σ 86) N fr (σ 86 (17 + (r : Int)).toNat) R) M = 0
          · exact Or.inr ⟨c, rfl⟩
          · exact Or.inl ⟨by omega, rfl, Or.inl ⟨rfl, rfl⟩⟩
        rw [ez]
        refine T_ite (fun c => T_some ?_) (fun c => ?_)
        · rw [if_pos c] at ref; exact ref
        · rw [if_neg c] at ref
          have g13 : σ1 13 1 = (N : Int) := by rw [H1.1.1]; exact hN
          unfold vX0_bestToAsk
          refine T_bind (R := fun y => y = if w = 0 ∨ (aF (isS (σ 86) N fr (σ 86 (17 + (r : Int)).toNat) R) M N).1 = -1 then (aF (isS (σ 86) N fr (σ 86 (17 + (r : Int)).toNat) R) M N).1 else (aF (isS (σ 86) N fr (σ 86 (17 + (r : Int)).toNat) R) M N).2) ?_ (fun y hy => T_some ?_)
          · repeat (with_reducible first | refine T_ck (by omega) ?_ | refine T_nm ?_)
            exact c_bestToAsk_10 (P := isS (σ 86) N fr (σ 86 (17 + (r : Int)).toNat) R) g13 h8 hM' hM2 h77 (by omega) FU 0 (by have := FU_b; omega) (by omega)
          · rw [← hy] at ref; exact ref
      · exact T_t (bI_f hw) (T_some (no (fun h => hw h.2.2)))
    · exact T_t (bI_f hf) (T_some (no (fun h => hf h.2.1)))
  · exact T_t (bI_f hr) (T_some (no (fun h => hr h.1)))
/-! last -/
theorem bOr_as {a b c : Int} (ha : 0 ≤ a ∧ a ≤ 255) (hb : 0 ≤ b ∧ b ≤ 255) (hc : 0 ≤ c ∧ c ≤ 255) : bOr (bOr a b) c = bOr a (bOr b c) := by
  obtain ⟨x, e1, -⟩ := bI_n a ha.1
  obtain ⟨y, e2, -⟩ := bI_n b hb.1
  obtain ⟨z, e3, -⟩ := bI_n c hc.1
  have o1 := bOr_255 ha hb
  have o2 := bOr_255 hb hc
  subst e1; subst e2; subst e3
  rw [bOr_n (by omega) (by omega)] at o1
  rw [bOr_n (m := y) (by omega) (by omega)] at o2
  rw [bOr_n (by omega) (by omega), bOr_n (by omega) (by omega), bOr_n (m := y) (by omega) (by omega), bOr_n (by omega) (by omega), Nat.or_assoc]
noncomputable def lsO (P : Nat → Prop) (L : Nat → Int) : Nat → Int
  | 0 => 0
  | s + 1 => @ite Int (P s) (Classical.propDecidable _) (bOr (lsO P L s) (L s)) (lsO P L s)
theorem lsO_b {P : Nat → Prop} {L : Nat → Int} (hL : ∀ s, 0 ≤ L s ∧ L s ≤ 255) : ∀ s, 0 ≤ lsO P L s ∧ lsO P L s ≤ 255
  | 0 => by rw [lsO]; omega
  | s + 1 => by
    have ih := lsO_b (P := P) hL s
    rw [lsO]
    by_cases c : P s
    · rw [if_pos c]; exact bOr_255 ih (hL s)
    · rw [if_neg c]; exact ih
theorem c_lastOnes_4 {K : Kt} {σ : Sg} {ρ : Nat → Int} {P : Nat → Prop} {N M : Nat} {fr : Int} (hH : HallIs σ 13 ρ) (hN : ρ 0 = (N : Int)) (h8 : N ≤ 8) (hM : bShl 1 (N : Int) = (M : Int)) (hM2 : M ≤ 256) (h77 : ∀ u, u < M → σ 77 u = bI (P u)) (h78 : ∀ u, u < M → σ 78 u = trS ρ fr u N) : ∀ (f x : Nat), M - x < f → x ≤ M → T (vX0_lastOnes_4 K σ f (lsO P (fun s => lsB ρ N fr (σ 76) s N) x) (x : Int)) (fun p => p = lsO P (fun s => lsB ρ N fr (σ 76) s N) M) := by
  intro f
  induction f with
  | zero => intro x h; omega
  | succ f ih =>
    intro x hf hx
    rw [vX0_lastOnes_4, show σ 13 1 = ρ 0 from hH.1.1, hN, hM]
    refine T_ite (fun h => ?_) (fun h => ?_)
    · with_reducible refine T_ck (by omega) ?_
      rw [Int.toNat_natCast, h77 x (by omega), show (x : Int) + 1 = ((x + 1 : Nat) : Int) by omega]
      have nx := ih (x + 1) (by omega) (by omega)
      rw [lsO] at nx
      by_cases c : P x
      · rw [if_pos c] at nx
        refine T_f (by rw [bI_t c]; omega) ?_
        rw [c_lastIn hH hN h8 (by omega) (fun u hu => h78 u (by omega)), Option.bind_some]
        refine T_nm ?_
        with_reducible refine T_ck (by omega) ?_
        exact nx
      · rw [if_neg c] at nx
        refine T_t (bI_f c) ?_
        with_reducible refine T_ck (by omega) ?_
        exact nx
    · rw [show x = M by omega]; exact T_some rfl
theorem m_last_53 {σ : Sg} {rec : Int → Int → Int → Sg → Option (Int × Sg)} {Q : Int × Sg → Prop} {P : Nat → Prop} {N M r s : Nat} {fr acc : Int} {R : Nat → Int} (hN : σ 86 0 = (N : Int)) (h8 : N ≤ 8) (hM2 : M ≤ 256) (hs : s < M) (ha : 0 ≤ acc ∧ acc ≤ 255) (hone : ∀ s : Nat, s < M → vX10_isOne (s : Int) (r : Int) σ = some (bI (P s))) (ly : lyI (σ 86) N fr R σ M)
    (cont : T (rec (r : Int) (@ite Int (P s) (Classical.propDecidable _) (bOr acc (lsB (σ 86) N fr R s N)) acc) ((s : Int) + 1) σ) Q) :
    ∀ (f x : Nat), N - x < f → x ≤ N → T (vX10_last_53 rec f (r : Int) (@ite Int (P s) (Classical.propDecidable _) (bOr acc (lsB (σ 86) N fr R s x)) acc) (s : Int) (x : Int) σ) Q := by
  intro f
  induction f with
  | zero => intro x h; omega
  | succ f ih =>
    intro x hf hx
    have lb := lsB_b (ρ := σ 86) (N := N) (fr := fr) (R := R) (s := s) x (by omega)
    have ob := bOr_255 ha lb
    rw [vX10_last_53, hN]
    refine T_ite (fun h => ?_) (fun h => ?_)
    · have nx := ih (x + 1) (by omega) (by omega)
      rw [m_is (by omega) (by omega), Option.bind_some, tb_n, show (x : Int) + 1 = ((x + 1 : Nat) : Int) by omega]
      have accb : 0 ≤ (@ite Int (P s) (Classical.propDecidable _) (bOr acc (lsB (σ 86) N fr R s x)) acc) ∧ (@ite Int (P s) (Classical.propDecidable _) (bOr acc (lsB (σ 86) N fr R s x)) acc) ≤ 255 := by
        by_cases c : P s
        · rw [if_pos c]; exact ob
        · rw [if_neg c]; exact ha
      have same : lsB (σ 86) N fr R s (x + 1) = lsB (σ 86) N fr R s x ∨ ¬ P s → T (vX10_last_53 rec f (r : Int) (bOr (@ite Int (P s) (Classical.propDecidable _) (bOr acc (lsB (σ 86) N fr R s x)) acc) 0) (s : Int) ((x + 1 : Nat) : Int) σ) Q := by
        intro hsm
        rw [bOr_0 (by omega)]
        rcases hsm with e | e
        · rw [e] at nx; exact nx
        · rw [if_neg e] at nx ⊢; exact nx
      cases ct : s.testBit x with
      | false =>
        refine T_t rfl (T_nm ?_)
        with_reducible refine T_ck (by omega) ?_
        refine same (Or.inl ?_)
        rw [lsB, if_neg (fun h => by have := h.1; rw [ct] at this; cases this)]
      | true =>
        refine T_f (by decide) ?_
        rw [hone s hs, Option.bind_some]
        by_cases c : P s
        · refine T_f (by rw [bI_t c]; omega) ?_
          rw [m_canBeLast (R := R) (N := N) (fr := fr) (by omega) (by omega) ct (fun u hu => ly.2 u (by omega)) (fun u hu => ly.1 u (by omega)), Option.bind_some]
          by_cases c2 : lstP (σ 86) N fr R s x
          · refine T_f (by rw [bI_t c2]; omega) (T_nm ?_)
            with_reducible refine T_ck (by omega) ?_
            have sh := bShl_r (b := (x : Int)) (by omega)
            rw [if_pos c] at nx ⊢
            rw [lsB, if_pos c2, ← bOr_as ha lb (by omega)] at nx
            exact nx
          · refine T_t (bI_f c2) (T_nm ?_)
            with_reducible refine T_ck (by omega) ?_
            refine same (Or.inl ?_)
            rw [lsB, if_neg c2]
        · refine T_t (bI_f c) (T_nm ?_)
          with_reducible refine T_ck (by omega) ?_
          exact same (Or.inr c)
    · have e : x = N := by omega
      subst e
      with_reducible refine T_ck (by omega) ?_
      exact cont
theorem m_last_37 {σ : Sg} {P : Nat → Prop} {N M r : Nat} {fr : Int} {R : Nat → Int} (hN : σ 86 0 = (N : Int)) (h8 : N ≤ 8) (hM : bShl 1 (N : Int) = (M : Int)) (hM2 : M ≤ 256) (hone : ∀ s : Nat, s < M → vX10_isOne (s : Int) (r : Int) σ = some (bI (P s))) (ly : lyI (σ 86) N fr R σ M) : ∀ (f x : Nat), M - x < f → x ≤ M → T (vX10_last_37 f (r : Int) (lsO P (fun s => lsB (σ 86) N fr R s N) x) (x : Int) σ) (fun p => p.2 = σ ∧ p.1 = lsO P (fun s => lsB (σ 86) N fr R s N) M) := by
  have lb : ∀ s, 0 ≤ lsB (σ 86) N fr R s N ∧ lsB (σ 86) N fr R s N ≤ 255 := fun s => lsB_b N h8
  intro f
  induction f with
  | zero => intro x h; omega
  | succ f ih =>
    intro x hf hx
    have ob := lsO_b (P := P) lb x
    rw [vX10_last_37, hN, hM]
    refine T_ite (fun h => ?_) (fun h => ?_)
    · have nx := ih (x + 1) (by omega) (by omega)
      rw [lsO] at nx
      have st := m_last_53 (rec := vX10_last_37 f) (Q := fun p => p.2 = σ ∧ p.1 = lsO P (fun s => lsB (σ 86) N fr R s N) M) (acc := lsO P (fun s => lsB (σ 86) N fr R s N) x) (s := x) hN h8 hM2 (by omega) ob hone ly (by rw [show (x : Int) + 1 = ((x + 1 : Nat) : Int) by omega]; exact nx) FU 0 (by have := FU_b; omega) (by omega)
      have e0 : (@ite Int (P x) (Classical.propDecidable _) (bOr (lsO P (fun s => lsB (σ 86) N fr R s N) x) (lsB (σ 86) N fr R x 0)) (lsO P (fun s => lsB (σ 86) N fr R s N) x)) = lsO P (fun s => lsB (σ 86) N fr R s N) x := by
        by_cases c : P x
        · rw [if_pos c, lsB, bOr_0 (by omega)]
        · rw [if_neg c]
      rw [e0] at st
      exact st
    · rw [show x = M by omega]; exact T_some ⟨rfl, rfl⟩
theorem s_last {K : Kt} {σ : Sg} {n p1 fr : Int} (hI : Inv K σ n) : St2 K n (vX9_last K p1 fr σ) (vX10_last p1 fr) := by
  obtain ⟨⟨hK, ⟨hW, hH⟩, hL, hU, hD, hT, hM, hC⟩, hS⟩ := id hI
  have h16 := hW.1.2.1
  have g1 : σ 13 2 = σ 86 1 := hH.1.2.1
  have e86 : up2 σ 84 0 0 86 = σ 86 := u84o (by omega)
  have hI' := Inv_scr hI (Scr_0 (z := 0) Scr_r)
  have no : ¬ ((0 ≤ p1 ∧ p1 < σ 86 1) ∧ (0 ≤ fr ∧ fr ≤ 63)) → T (vX10_last p1 fr σ) (fun q => q.1 = -1 ∧ Inv K q.2 (n + 1)) := by
    intro h
    unfold vX10_last
    refine T_nm ?_
    rw [m_isReader (by rw [e86]; exact h16), Option.bind_some, e86, m_in, Option.bind_some]
    exact T_ite (fun _ => T_some ⟨rfl, hI'⟩) (fun h1 => T_t (bI_f (fun h2 => h ⟨Classical.not_not.mp (fun c => h1 (bI_f c)), h2⟩)) (T_some ⟨rfl, hI'⟩))
  unfold vX9_last
  rw [h_hasReader, Option.bind_some, c_within, Option.bind_some, g1]
  by_cases hr : 0 ≤ p1 ∧ p1 < σ 86 1
  · refine T_f (by rw [bI_t hr]; omega) ?_
    by_cases hf : 0 ≤ fr ∧ fr ≤ 63
    · refine T_f (by rw [bI_t hf]; omega) ?_
      with_reducible refine T_ck (by omega) ?_
      obtain ⟨r, er, -⟩ := bI_n p1 hr.1
      subst er
      rw [Int.toNat_natCast]
      obtain ⟨N, M, hN, h8, hM', hM2, fd⟩ := fnd (fr := fr) hI hr.2 hf
      refine T_bd2 fd (fun z σ1 h => ?_)
      obtain ⟨R, eR, ez, H1, h78, h77, S1, ly⟩ := h
      dsimp only at eR ez H1 h78 h77 S1
      unfold vX0_lastOnes
      refine T_bind (c_lastOnes_4 (K := K) (P := isS (σ 86) N fr (σ 86 (17 + (r : Int)).toNat) R) H1 hN h8 hM' hM2 h77 h78 FU 0 (by have := FU_b; omega) (by omega)) (fun y hy => T_some ?_)
      dsimp only
      have hs0 := Scr_0 (z := 0) S1
      have f86 : up2 σ1 84 0 0 86 = σ 86 := hs0.1 86 (by omega) (by unfold scA; omega)
      unfold vX10_last
      refine T_nm ?_
      rw [m_isReader (by rw [f86]; exact h16), Option.bind_some, f86]
      refine T_f (by rw [bI_t hr]; omega) ?_
      rw [m_in, Option.bind_some]
      refine T_f (by rw [bI_t hf]; omega) ?_
      refine T_bind (ly _ hs0) (fun σ2 h2 => ?_)
      obtain ⟨a1, a2, a3, a4⟩ := h2
      refine T_mono (m_last_37 (P := isS (σ 86) N fr (σ 86 (17 + (r : Int)).toNat) R) (fr := fr) (R := R) (by rw [a2]; exact hN) h8 hM' hM2 a4 (by rw [a2]; exact a3) FU 0 (by have := FU_b; omega) (by omega)) (fun q hq => ⟨?_, by rw [hq.1]; exact Inv_scr hI a1⟩)
      rw [hq.2, hy, a2, eR]
    · exact T_t (bI_f hf) (T_some (no (fun h => hf h.2)))
  · exact T_t (bI_f hr) (T_some (no (fun h => hr h.1)))
