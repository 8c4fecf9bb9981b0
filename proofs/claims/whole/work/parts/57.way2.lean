/-! ===== the row of a way ===== -/
noncomputable def nbw (ρ : Nat → Int) (N : Nat) (c : Nat → Int) (s : Nat) : Int := fstN (fun b => fitP ρ (b : Int) (s : Int) ∧ c (thn ρ s b) + cst ρ b = c s) N 0
noncomputable def wlk (ρ : Nat → Int) (N : Nat) (c : Nat → Int) : Nat → Nat → Int → Int
  | 0, _, _ => -1
  | m + 1, s, i => if c s = 0 then -1 else if i = 0 then nbw ρ N c s else wlk ρ N c m (thn ρ s (nbw ρ N c s).toNat) (i - 1)
theorem nbw_e {ρ : Nat → Int} {N s : Nat} {to : Int} {c w : Nat → Int} (h : bkW ρ N) (hs : s < 64) (hC : CcOk ρ N to c (-1)) (hR : ∀ u : Nat, u < 64 → Rl u (c u) (w u)) (h0 : c s ≠ 0) (hf : c s < 1000000) :
    ∃ b : Nat, nbw ρ N c s = (b : Int) ∧ b < N ∧ thn ρ s b < 64 ∧ c (thn ρ s b) + cst ρ b = c s ∧ c (thn ρ s b) < 1000000 ∧ 0 < c s % 16 ∧ c (thn ρ s b) % 16 = c s % 16 - 1 ∧ wby ρ w s b = w s ∧ ∀ b', b' < b → wby ρ w s b' ≠ w s := by
  have h8 := h.1
  have rs := hR s hs
  have z1 := zb_b s
  have ws : w s ≠ 100000000 := by
    rcases rs with ⟨a, b⟩ | ⟨W, C, a1, a2, a3, a4⟩ <;> omega
  have eqv : ∀ b, b < N → ((fitP ρ (b : Int) (s : Int) ∧ c (thn ρ s b) + cst ρ b = c s) ↔ wby ρ w s b = w s) := by
    intro b hb
    obtain ⟨-, t1, t2, t3⟩ := thn_o h hb hs
    have l := (h.2.2 b hb).1
    have bc : cst ρ b = ρ (71 + (b : Int)).toNat * 16 + 1 := rfl
    by_cases f : fitP ρ (b : Int) (s : Int)
    · by_cases e : thn ρ s b = s
      · have ew : wby ρ w s b = 100000000 := by unfold wby; rw [if_neg (fun q => q.2.1 e)]
        rw [ew, e]
        exact ⟨fun q => by omega, fun q => absurd q.symm ws⟩
      · have := (Rl_s h hb hs f e (hR _ t1) rs).2 ws
        exact ⟨fun q => this.mp q.2, fun q => ⟨f, this.mpr q⟩⟩
    · have ew : wby ρ w s b = 100000000 := by unfold wby; rw [if_neg (fun q => f q.1)]
      rw [ew]
      exact ⟨fun q => absurd q.1 f, fun q => absurd q.symm ws⟩
  have ex : ∃ b, 0 ≤ b ∧ b < N ∧ (fitP ρ (b : Int) (s : Int) ∧ c (thn ρ s b) + cst ρ b = c s) := by
    have e := (hC s (by omega) hs).1
    rcases cf_e (ρ := ρ) (tg := bAnd (s : Int) to = to) (c := c) (s := s) N with x | ⟨b, b1, b2, b3, b4⟩
    · rw [cf] at x
      exfalso
      by_cases tg : bAnd (s : Int) to = to
      · rw [if_pos tg] at x; omega
      · rw [if_neg tg] at x; omega
    · exact ⟨b, by omega, b1, b2, by omega⟩
  obtain ⟨b, e, -, b1, b2, b3⟩ := fstN_e (n := N) N 0 (by omega) ex
  obtain ⟨-, t1, t2, t3⟩ := thn_o h b1 hs
  have l := (h.2.2 b b1).1
  have bc : cst ρ b = ρ (71 + (b : Int)).toNat * 16 + 1 := rfl
  have b22 := b2.2
  have rt := hR _ t1
  have z2 := zb_b (thn ρ s b)
  clear ex
  refine ⟨b, e, b1, t1, b22, by omega, ?_, ?_, (eqv b b1).mp b2, fun b' hb' q => b3 b' (by omega) hb' ((eqv b' (by omega)).mpr q)⟩
  · rcases rs with ⟨a, a'⟩ | ⟨W, C, a1, a2, a3, a4⟩
    · omega
    · rcases rt with ⟨x, x'⟩ | ⟨W', C', x1, x2, x3, x4⟩ <;> omega
  · rcases rs with ⟨a, a'⟩ | ⟨W, C, a1, a2, a3, a4⟩
    · omega
    · rcases rt with ⟨x, x'⟩ | ⟨W', C', x1, x2, x3, x4⟩ <;> omega
theorem c_nextOnWay_13 {K : Kt} {σ : Sg} {ρ : Nat → Int} {N s : Nat} (hH : HallIs σ 13 ρ) (h : bkW ρ N) (hs : s < 64) (hc : ∀ u, u < 64 → 0 ≤ σ 75 u ∧ σ 75 u ≤ 1000000) : ∀ (f x : Nat), N - x < f → x ≤ N → T (vX0_nextOnWay_13 K σ f (s : Int) (x : Int)) (fun p => p = fstN (fun b => fitP ρ (b : Int) (s : Int) ∧ σ 75 (thn ρ s b) + cst ρ b = σ 75 s) (N - x) x) := by
  have h8 := h.1
  intro f
  induction f with
  | zero => intro x h; omega
  | succ f ih =>
    intro x hf hx
    obtain ⟨⟨g0, -⟩, gB', -⟩ := H13 hH
    rw [vX0_nextOnWay_13, g0, h.2.1]
    refine T_ite (fun hlt => ?_) (fun hlt => ?_)
    · have nx := ih (x + 1) (by omega) (by omega)
      rw [show N - x = (N - (x + 1)) + 1 by omega, fstN, show (x : Int) + 1 = ((x + 1 : Nat) : Int) by omega, c_fits hH (by omega), Option.bind_some]
      obtain ⟨t0, t1, t2, t3⟩ := thn_o h (b := x) (by omega) hs
      have l := (h.2.2 x (by omega)).1
      have bc : cst ρ x = ρ (71 + (x : Int)).toNat * 16 + 1 := rfl
      have bt := hc _ t1
      by_cases c : fitP ρ (x : Int) (s : Int)
      · refine T_f (by rw [bI_t c]; omega) ?_
        rw [(gB' x (by omega) (by omega)).2.2.1, t0, c_costOf hH h (by omega), Option.bind_some, Int.toNat_natCast, Int.toNat_natCast]
        repeat (with_reducible first | refine T_ck (by omega) ?_ | refine T_nm ?_)
        refine T_ite (fun c2 => ?_) (fun c2 => ?_)
        · rw [if_pos ⟨c, c2⟩]; exact T_some rfl
        · rw [if_neg (fun q => c2 q.2)]
          with_reducible refine T_ck (by omega) ?_
          exact nx
      · refine T_t (bI_f c) ?_
        rw [if_neg (fun q => c q.1)]
        with_reducible refine T_ck (by omega) ?_
        exact nx
    · rw [show N - x = 0 by omega]; exact T_some rfl
theorem c_nextOnWay {K : Kt} {σ : Sg} {ρ : Nat → Int} {N s : Nat} (hH : HallIs σ 13 ρ) (h : bkW ρ N) (hs : s < 64) (hc : ∀ u, u < 64 → 0 ≤ σ 75 u ∧ σ 75 u ≤ 1000000) : vX0_nextOnWay K (s : Int) σ = some (if σ 75 s = 0 then -1 else nbw ρ N (σ 75) s) := by
  have h8 := h.1
  unfold vX0_nextOnWay
  rw [ck_p (by omega), Int.toNat_natCast]
  by_cases c : σ 75 s = 0
  · rw [if_pos c, if_pos c]
  · rw [if_neg c, if_neg c]
    obtain ⟨r, e, q⟩ := c_nextOnWay_13 (K := K) hH h hs hc FU 0 (by have := FU_b; omega) (by omega)
    have e' : vX0_nextOnWay_13 K σ FU (s : Int) 0 = some r := e
    rw [e', q]
    rfl
theorem c_quickest_39 {K : Kt} {σ : Sg} {ρ : Nat → Int} {N : Nat} {to i : Int} {w : Nat → Int} (hH : HallIs σ 13 ρ) (h : bkW ρ N) (hC : CcOk ρ N to (σ 75) (-1)) (hR : ∀ u : Nat, u < 64 → Rl u (σ 75 u) (w u)) : ∀ (m f : Nat) (s : Nat) (k : Int), m < f → s < 64 → σ 75 s < 1000000 → σ 75 s % 16 ≤ (m : Int) → 0 ≤ k → k + (m : Int) ≤ 7 → T (vX0_quickest_39 K f i (s : Int) k σ) (fun p => p.2 = σ ∧ p.1 = wlk ρ N (σ 75) (m + 1) s (i - k)) := by
  have hc : ∀ u, u < 64 → 0 ≤ σ 75 u ∧ σ 75 u ≤ 1000000 := fun u hu => (hC u (by omega) hu).2
  have h8 := h.1
  intro m
  induction m with
  | zero =>
    intro f s k hf hs hfar hm hk hk7
    obtain ⟨f', rfl⟩ : ∃ f', f = f' + 1 := ⟨f - 1, by omega⟩
    rw [vX0_quickest_39, c_nextOnWay hH h hs hc]
    refine T_t (by omega) ?_
    rw [Option.bind_some, wlk]
    by_cases c : σ 75 s = 0
    · rw [if_pos c, if_pos c]
      exact T_t rfl (T_some ⟨rfl, rfl⟩)
    · obtain ⟨b, -, -, -, -, -, b5, -⟩ := nbw_e h hs hC hR c hfar
      omega
  | succ m ih =>
    intro f s k hf hs hfar hm hk hk7
    obtain ⟨f', rfl⟩ : ∃ f', f = f' + 1 := ⟨f - 1, by omega⟩
    rw [vX0_quickest_39, c_nextOnWay hH h hs hc]
    refine T_t (by omega) ?_
    rw [Option.bind_some, wlk]
    by_cases c : σ 75 s = 0
    · rw [if_pos c, if_pos c]
      exact T_t rfl (T_some ⟨rfl, rfl⟩)
    · obtain ⟨b, eb, b1, b2, b3, b4, b5, b6, -⟩ := nbw_e h hs hC hR c hfar
      rw [if_neg c, if_neg c, eb]
      refine T_f (by omega) ?_
      refine T_ite (fun e => ?_) (fun e => ?_)
      · rw [if_pos (by omega)]; exact T_some ⟨rfl, rfl⟩
      · rw [if_neg (by omega)]
        obtain ⟨t0, -⟩ := thn_o h b1 hs
        have g16 : σ 16 b = ρ (87 + (b : Int)).toNat := by
          have := (H13 hH).2.1 (b : Int) (by omega) (by omega)
          rw [Int.toNat_natCast] at this
          exact this.2.2.1
        with_reducible refine T_ck (by omega) ?_
        refine T_nm ?_
        rw [Int.toNat_natCast, g16, t0]
        with_reducible refine T_ck (by omega) ?_
        have nx := ih f' (thn ρ s b) (k + 1) (by omega) b2 b4 (by omega) (by omega) (by omega)
        rw [show i - (k + 1) = i - k - 1 by omega] at nx
        exact nx
theorem m_way_114 {σ : Sg} {rec : Int → Int → Int → Int → Sg → Option (Int × Sg)} {Q : Int × Sg → Prop} {N s b : Nat} {i : Int} {k : Nat} (h : bkW (σ 86) N) (hb : b < N) (hs : s < 64) (hk : k < 100) (hw : ∀ u, u < 64 → 0 ≤ σ 107 u ∧ σ 107 u ≤ 100000000) (h1 : wby (σ 86) (σ 107) s b = σ 107 s) (h2 : ∀ b', b' < b → wby (σ 86) (σ 107) s b' ≠ σ 107 s)
    (cont : T (rec i (thn (σ 86) s b : Int) (b : Int) ((k : Int) + 1) σ) Q) : ∀ (f x : Nat), b - x < f → x ≤ b → T (vX10_way_114 rec f i (s : Int) (x : Int) (k : Int) σ) Q := by
  have h8 := h.1
  intro f
  induction f with
  | zero => intro x h; omega
  | succ f ih =>
    intro x hf hx
    obtain ⟨-, t1, -⟩ := thn_o h (b := x) (by omega) hs
    rw [vX10_way_114, m_weeksBy h (by omega) hs (fun _ => hw _ t1), Option.bind_some, Int.toNat_natCast]
    with_reducible refine T_ck (by omega) ?_
    refine T_ite (fun c => ?_) (fun c => ?_)
    · have e : x = b := by
        rcases Nat.lt_or_ge x b with q | q
        · exact absurd c (h2 x q)
        · omega
      subst e
      repeat (with_reducible first | refine T_ck (by omega) ?_ | refine T_nm ?_)
      rw [(thn_o h hb hs).1]
      exact cont
    · with_reducible refine T_ck (by omega) ?_
      rw [show (x : Int) + 1 = ((x + 1 : Nat) : Int) by omega]
      have : x ≠ b := fun e => c (by rw [e]; exact h1)
      exact ih (x + 1) (by omega) (by omega)
theorem m_way_93 {σ : Sg} {N : Nat} {to i : Int} {c : Nat → Int} (h : bkW (σ 86) N) (hC : CcOk (σ 86) N to c (-1)) (hR : ∀ u : Nat, u < 64 → Rl u (c u) (σ 107 u)) : ∀ (m f s k : Nat) (its : Int), m + 1 < f → s < 64 → c s < 1000000 → c s % 16 ≤ (m : Int) → (k : Int) ≤ i → k + m ≤ 7 → T (vX10_way_93 f i (s : Int) its (k : Int) σ) (fun p => p.2 = σ ∧ p.1 = wlk (σ 86) N c (m + 1) s (i - (k : Int))) := by
  have hw : ∀ u, u < 64 → 0 ≤ σ 107 u ∧ σ 107 u ≤ 100000000 := fun u hu => by have := Rl_b (hR u hu); omega
  have h8 := h.1
  have zz : ∀ s, s < 64 → c s < 1000000 → (σ 107 s = 0 ↔ c s = 0) := by
    intro s hs hf
    have z := zb_b s
    rcases hR s hs with ⟨a, a'⟩ | ⟨W, C, a1, a2, a3, a4⟩ <;> omega
  intro m
  induction m with
  | zero =>
    intro f s k its hf hs hfar hm hk hk7
    obtain ⟨f', rfl⟩ : ∃ f', f = f' + 1 := ⟨f - 1, by omega⟩
    rw [vX10_way_93, wlk, Int.toNat_natCast]
    refine T_f (by omega) ?_
    with_reducible refine T_ck (by omega) ?_
    by_cases z : c s = 0
    · rw [if_pos z]
      exact T_t ((zz s hs hfar).mpr z) (T_some ⟨rfl, rfl⟩)
    · obtain ⟨b, -, -, -, -, -, b5, -⟩ := nbw_e h hs hC hR z hfar
      omega
  | succ m ih =>
    intro f s k its hf hs hfar hm hk hk7
    obtain ⟨f', rfl⟩ : ∃ f', f = f' + 1 := ⟨f - 1, by omega⟩
    rw [vX10_way_93, wlk, Int.toNat_natCast]
    refine T_f (by omega) ?_
    with_reducible refine T_ck (by omega) ?_
    by_cases z : c s = 0
    · rw [if_pos z]
      exact T_t ((zz s hs hfar).mpr z) (T_some ⟨rfl, rfl⟩)
    · obtain ⟨b, eb, b1, b2, b3, b4, b5, b6, b7, b8⟩ := nbw_e h hs hC hR z hfar
      rw [if_neg z, eb, Int.toNat_natCast]
      refine T_f (fun q => z ((zz s hs hfar).mp q)) ?_
      refine m_way_114 h b1 hs (by omega) hw b7 b8 ?_ FU 0 (by have := FU_b; omega) (by omega)
      by_cases e : i = (k : Int)
      · rw [if_pos (by omega)]
        obtain ⟨f'', rfl⟩ : ∃ f'', f' = f'' + 1 := ⟨f' - 1, by omega⟩
        rw [vX10_way_93]
        exact T_t (by omega) (T_some ⟨rfl, rfl⟩)
      · rw [if_neg (by omega), show (k : Int) + 1 = ((k + 1 : Nat) : Int) by omega]
        have nx := ih f' (thn (σ 86) s b) (k + 1) (b : Int) (by omega) b2 b4 (by omega) (by omega) (by omega)
        rw [show i - ((k + 1 : Nat) : Int) = i - (k : Int) - 1 by omega] at nx
        exact nx
theorem wlk_neg {ρ : Nat → Int} {N : Nat} {to : Int} {c w : Nat → Int} (h : bkW ρ N) (hC : CcOk ρ N to c (-1)) (hR : ∀ u : Nat, u < 64 → Rl u (c u) (w u)) : ∀ (m s : Nat) (i : Int), i < 0 → s < 64 → c s < 1000000 → wlk ρ N c m s i = -1
  | 0, s, i, _, _, _ => rfl
  | m + 1, s, i, hi, hs, hf => by
    rw [wlk]
    by_cases z : c s = 0
    · rw [if_pos z]
    · obtain ⟨b, eb, b1, b2, b3, b4, -⟩ := nbw_e h hs hC hR z hf
      rw [if_neg z, if_neg (by omega), eb, Int.toNat_natCast]
      exact wlk_neg h hC hR m _ (i - 1) (by omega) b2 b4
theorem s_way {K : Kt} {σ : Sg} {n a b i : Int} (hI : Inv K σ n) : St2 K n (vX9_way K a b i σ) (vX10_way a b i) := by
  obtain ⟨⟨hK, ⟨hW, hH⟩, hL, hU, hD, hT, hM, hCC⟩, hS⟩ := id hI
  have h08 := hW.1.1
  obtain ⟨N, hN, -⟩ := bI_n (σ 86 0) h08.1
  have hbk : bkW (σ 86) N := ⟨by omega, hN, fun b hb => by have := hW.2.2.1 b (by omega) (by omega); exact ⟨this.1, this.2.2.1⟩⟩
  have hI' := Inv_scr hI (Scr_0 (z := 0) Scr_r)
  have no : ¬ ((0 ≤ a ∧ a ≤ 63) ∧ (0 ≤ b ∧ b ≤ 63)) → T (vX10_way a b i σ) (fun q => q.1 = -1 ∧ Inv K q.2 (n + 1)) := by
    intro h
    unfold vX10_way
    refine T_nm ?_
    rw [m_in, Option.bind_some, m_in, Option.bind_some]
    exact T_ite (fun _ => T_some ⟨rfl, hI'⟩) (fun h1 => T_t (bI_f (fun h2 => h ⟨Classical.not_not.mp (fun c => h1 (bI_f c)), h2⟩)) (T_some ⟨rfl, hI'⟩))
  unfold vX9_way
  rw [c_within, Option.bind_some, c_within, Option.bind_some]
  by_cases ha : 0 ≤ a ∧ a ≤ 63
  · refine T_f (by rw [bI_t ha]; omega) ?_
    by_cases hb : 0 ≤ b ∧ b ≤ 63
    · refine T_f (by rw [bI_t hb]; omega) ?_
      obtain ⟨s, e1, -⟩ := bI_n a ha.1
      obtain ⟨to, e2, -⟩ := bI_n b hb.1
      subst e1; subst e2
      unfold vX0_quickest
      -- what both find
      have main : ∀ σ1, Sme (fun k => k = 75) σ σ1 → CcOk (σ 86) N (to : Int) (σ1 75) (-1) → ∀ (σ3 : Sg), Scr σ σ3 → T (vX10_layWeeks (to : Int) σ3) (fun σ4 => Scr σ σ4 ∧ σ4 86 = σ 86 ∧ ∀ u : Nat, u < 64 → Rl u (σ1 75 u) (σ4 107 u)) := by
        intro σ1 S1 C1 σ3 hs3
        have e86 : σ3 86 = σ 86 := hs3.1 86 (by omega) (by unfold scA; omega)
        unfold vX10_layWeeks
        refine T_mono (m_layWeeks_3 (σ0 := σ3) (c := σ1 75) (by rw [e86]; exact hbk) (by omega) (by rw [e86]; exact C1) FU 63 σ3 (by have := FU_b; omega) (by omega) (by omega) Sme_r (fun u u1 u2 => by omega)) (fun σ4 h4 => ⟨Scr_t hs3 (Scr_s (Sme_m h4.1 (fun k hk => by unfold scA; omega))), by rw [h4.1 86 (by omega), e86], h4.2⟩)
      refine T_bd2 (R := fun p => ∃ σ1, Sme (fun k => k = 75) σ σ1 ∧ CcOk (σ 86) N (to : Int) (σ1 75) (-1) ∧ p.2 = σ1 ∧ (1000000 ≤ σ1 75 s → p.1 = -1) ∧ (σ1 75 s < 1000000 → i = -1 → p.1 = Int.tdiv (σ1 75 s) 16) ∧ (σ1 75 s < 1000000 → i ≠ -1 → p.1 = wlk (σ 86) N (σ1 75) 7 s i)) ?_ (fun r σ2 hr => T_some ?_)
      · refine T_bind (c_fillCost (to := (to : Int)) hH hbk) (fun σ1 h1 => ?_)
        have bs := (h1.2 s (by omega) (by omega)).2
        rw [Int.toNat_natCast]
        with_reducible refine T_ck (by omega) ?_
        refine T_ite (fun c => ?_) (fun c => T_some ⟨σ1, h1.1, h1.2, rfl, fun _ => rfl, fun q => absurd q c, fun q => absurd q c⟩)
        refine T_ite (fun ci => ?_) (fun ci => ?_)
        · have td : Int.tdiv (σ1 75 s) 16 = σ1 75 s / 16 := Int.tdiv_eq_ediv_of_nonneg bs.1
          with_reducible refine T_ck (by omega) ?_
          with_reducible refine T_ck (by omega) ?_
          exact T_some ⟨σ1, h1.1, h1.2, rfl, fun q => by omega, fun _ _ => rfl, fun _ q => absurd ci q⟩
        · obtain ⟨σ4, -, q1, q2, q3⟩ := main σ1 h1.1 h1.2 σ Scr_r
          have z := zb_b s
          have m6 : σ1 75 s % 16 ≤ 6 := by
            rcases q3 s (by omega) with ⟨x, y⟩ | ⟨W, C, a1, a2, a3, a4⟩ <;> omega
          have q := c_quickest_39 (K := K) (i := i) (w := σ4 107) (HallIs_s hH (fun k k1 k2 => h1.1 k (by omega))) hbk h1.2 q3 6 FU s 0 (by have := FU_b; omega) (by omega) c m6 (by omega) (by omega)
          rw [Int.sub_zero] at q
          exact T_mono q (fun p hp => ⟨σ1, h1.1, h1.2, hp.1, fun q => by omega, fun _ x => absurd x ci, fun _ _ => hp.2⟩)
      · obtain ⟨σ1, S1, C1, e2, r1, r2, r3⟩ := hr
        dsimp only at e2 r1 r2 r3 ⊢
        subst e2
        have hs0 := Scr_0 (z := 0) (Scr_s (Sme_m S1 (fun k hk => by unfold scA; omega)))
        have bs := (C1 s (by omega) (by omega)).2
        unfold vX10_way
        refine T_nm ?_
        rw [m_in, Option.bind_some]
        refine T_f (by rw [bI_t ha]; omega) ?_
        rw [m_in, Option.bind_some]
        refine T_f (by rw [bI_t hb]; omega) ?_
        refine T_ite (fun ci => ?_) (fun ci => ?_)
        · refine T_some ⟨?_, Inv_scr hI hs0⟩
          dsimp only
          obtain ⟨σ4, -, q1, q2, q3⟩ := main σ2 S1 C1 _ hs0
          by_cases c : σ2 75 s < 1000000
          · rw [r3 c (by omega), wlk_neg hbk C1 q3 7 s i (by omega) (by omega) c]
          · exact (r1 (by omega)).symm
        · refine T_bind (main σ2 S1 C1 _ hs0) (fun σ4 h4 => ?_)
          obtain ⟨q1, q2, q3⟩ := h4
          have z := zb_b s
          have qs := q3 s (by omega)
          have hq := Inv_scr hI q1
          rw [Int.toNat_natCast]
          with_reducible refine T_ck (by omega) ?_
          by_cases c : σ2 75 s < 1000000
          · have nf : ¬ σ4 107 s = 100000000 := by rcases qs with ⟨x, y⟩ | ⟨W, C, a1, a2, a3, a4⟩ <;> omega
            refine T_f nf ?_
            refine T_ite (fun ci1 => ?_) (fun ci1 => ?_)
            · unfold vX10_way_58
              rw [Int.toNat_natCast]
              have b4 := Rl_b qs
              have td : Int.tdiv (σ4 107 s) 100 = σ4 107 s / 100 := Int.tdiv_eq_ediv_of_nonneg b4.1
              have td2 : Int.tdiv (σ2 75 s) 16 = σ2 75 s / 16 := Int.tdiv_eq_ediv_of_nonneg bs.1
              with_reducible refine T_ck (by omega) ?_
              refine T_f nf ?_
              with_reducible refine T_ck (by omega) ?_
              with_reducible refine T_ck (by omega) ?_
              refine T_some ⟨?_, hq⟩
              dsimp only
              rw [r2 c ci1, td, td2]
              rcases qs with ⟨x, y⟩ | ⟨W, C, a1, a2, a3, a4⟩ <;> omega
            · have m6 : σ2 75 s % 16 ≤ 6 := by rcases qs with ⟨x, y⟩ | ⟨W, C, a1, a2, a3, a4⟩ <;> omega
              have w93 := m_way_93 (σ := σ4) (N := N) (to := (to : Int)) (i := i) (c := σ2 75) (by rw [q2]; exact hbk) (by rw [q2]; exact C1) q3 6 FU s 0 (-1) (by have := FU_b; omega) (by omega) c m6 (by omega) (by omega)
              rw [q2, show i - ((0 : Nat) : Int) = i by omega] at w93
              refine T_mono w93 (fun q hq' => ⟨?_, by rw [hq'.1]; exact hq⟩)
              rw [hq'.2, r3 c ci1]
          · have yf : σ4 107 s = 100000000 := by rcases qs with ⟨x, y⟩ | ⟨W, C, a1, a2, a3, a4⟩ <;> omega
            refine T_t yf ?_
            unfold vX10_way_58
            rw [Int.toNat_natCast]
            with_reducible refine T_ck (by omega) ?_
            exact T_t yf (T_some ⟨(r1 (by omega)).symm, hq⟩)
    · exact T_t (bI_f hb) (T_some (no (fun h => hb h.2)))
  · exact T_t (bI_f ha) (T_some (no (fun h => ha h.1)))
