/-! ===== years of the reference ===== -/
def RwY (σ σ' : Sg) : Prop := (∀ k, k ≠ 84 → k ≠ 86 → k ≠ 89 → k ≠ 102 → k ≠ 104 → σ' k = σ k) ∧ (∀ j, j ≠ 54 → ¬ sc84 j → σ' 84 j = σ 84 j) ∧ ∀ j, j < 1206 → σ' 89 j = σ 89 j
theorem RwY_r {σ : Sg} : RwY σ σ := ⟨fun _ _ _ _ _ _ => rfl, fun _ _ _ => rfl, fun _ _ => rfl⟩
theorem RwY_t {σ σ' σ'' : Sg} (h : RwY σ σ') (h' : RwY σ' σ'') : RwY σ σ'' := ⟨fun k a b c d e => (h'.1 k a b c d e).trans (h.1 k a b c d e), fun j a hj => (h'.2.1 j a hj).trans (h.2.1 j a hj), fun j hj => (h'.2.2 j hj).trans (h.2.2 j hj)⟩
theorem RwY_w {σ σ' : Sg} (h : RwT σ σ') : RwY σ σ' := ⟨h.1, fun j _ hj => h.2.1 j hj, h.2.2⟩
theorem RwY_54 {σ σ' : Sg} {z : Int} (h : RwY σ σ') : RwY σ (up2 σ' 84 54 z) := by
  refine ⟨fun k a b c d e => ?_, fun j a hj => ?_, fun j hj => ?_⟩
  · rw [up2_o a]; exact h.1 k a b c d e
  · rw [up2_c, upw_n a]; exact h.2.1 j a hj
  · rw [up2_o (by omega)]; exact h.2.2 j hj
theorem m_yearMove {rec : Int → Int → Int → Sg → Option (Int × Sg)} {Q : Int × Sg → Prop} {σ : Sg} {D : Int → (Nat → Int) → Option Int} {n paid k r b h : Int} (hW : WF (σ 86)) (hD : LawM (σ 86) D) (h20 : σ 84 20 = 0) (hr : 0 ≤ r ∧ r < σ 86 1) (hb : 0 ≤ b ∧ b < σ 86 0) (h4 : σ 86 4 < 999) (hp : 0 ≤ paid ∧ paid ≤ 100000) (hk : 0 ≤ k ∧ k ≤ 100)
    (cont : ∀ σ', RwT σ σ' → σ' 86 = passR D (yrM D (σ 86) r b h 0).1 → T (rec n (paid + (yrM D (σ 86) r b h 0).2) (k + 1) σ') Q) :
    T (if h = 0 then (ck (in32 (29 + r)) (ck (0 ≤ (29 + r) ∧ (29 + r) < 5505) (if (σ 86 (29 + r).toNat) = (-1) then (vX10_years_156 rec n paid k r b σ) else (bd2 (vX10_leaveIt r σ) (fun r12 σ13 => ck (in32 (paid + r12)) (nm (paid + r12) (fun z14 => vX10_years_178 rec n z14 k σ13))))))) else (vX10_years_156 rec n paid k r b σ)) Q := by
  have h16 := hW.1.2.1
  have hpay := payS_rg (D := D) hW hr
  have pass : ∀ (σ1 : Sg) (z : Int), RwT σ σ1 → σ1 86 = (yrM D (σ 86) r b h 0).1 → z = paid + (yrM D (σ 86) r b h 0).2 → T (vX10_years_178 rec n z k σ1) Q := by
    intro σ1 z R1 e1 hz
    obtain ⟨m1, m2, m3, m4, m5⟩ := yrM_k (D := D) (h := h) (paid := 0) hW hr hb
    unfold vX10_years_178
    refine T_bind (m_passIt (D := D) (σ := σ1) (by rw [e1]; exact m1) (by rw [e1]; exact LawM_p hD (m2 3 (by omega)) (fun i hi => m2 i (by omega))) (by rw [R1.2.1 20 (by unfold sc84; omega)]; exact h20)) (fun σ2 h2 => ?_)
    with_reducible refine T_ck (by omega) ?_
    rw [hz]
    exact cont σ2 (RwT_t R1 (RwT_m h2.1)) (by rw [h2.2, e1])
  have mv : ¬ (h = 0 ∧ σ 86 (29 + r).toNat ≠ -1) → T (vX10_years_156 rec n paid k r b σ) Q := by
    intro c
    have ey : yrM D (σ 86) r b h 0 = @ite _ (lendP D (σ 86) r b) (Classical.propDecidable _) (lendR D (σ 86) r b, 0 + payS D (σ 86) r) (σ 86, 0) := by unfold yrM; rw [if_neg c]
    unfold vX10_years_156
    refine T_bd2 (m_canLend hW hD h20 hb hr) (fun y σ1 h1 => ?_)
    dsimp only at h1
    obtain ⟨R1, e1, hy⟩ := h1
    by_cases c2 : lendP D (σ 86) r b
    · rw [bI_t c2] at hy
      rw [if_pos c2] at ey
      refine T_f (by omega) ?_
      refine T_bd2 (m_lendIt (D := D) (b := b) (r := r) (by rw [e1]; exact hW) (by rw [e1]; exact hD) (by rw [R1.2.1 20 (by unfold sc84; omega)]; exact h20) (by rw [e1]; exact hb) (by rw [e1]; exact hr) (by rw [e1]; exact c2.1)) (fun z σ2 h2 => ?_)
      dsimp only at h2
      obtain ⟨R2, hz, e2, -⟩ := h2
      rw [e1] at hz e2
      rw [hz]
      repeat (with_reducible first | refine T_ck (by omega) ?_ | refine T_nm ?_)
      exact pass σ2 _ (RwT_t R1 (RwT_m R2)) (by rw [e2, ey]) (by rw [ey, Int.zero_add])
    · rw [bI_f c2] at hy
      rw [if_neg c2] at ey
      exact T_t hy (pass σ1 _ R1 (by rw [e1, ey]) (by rw [ey, Int.add_zero]))
  refine T_ite (fun c => ?_) (fun c => mv (fun q => c q.1))
  with_reducible refine T_ck (by omega) ?_
  with_reducible refine T_ck (by omega) ?_
  refine T_ite (fun c2 => mv (fun q => q.2 c2)) (fun c2 => ?_)
  have ey : yrM D (σ 86) r b h 0 = (leaveR D (σ 86) r, 0 + payS D (σ 86) r) := by unfold yrM; rw [if_pos ⟨c, c2⟩]
  refine T_bd2 (m_leaveIt hW hD h20 hr) (fun z σ2 h2 => ?_)
  dsimp only at h2
  obtain ⟨R2, hz, e2⟩ := h2
  rw [hz]
  repeat (with_reducible first | refine T_ck (by omega) ?_ | refine T_nm ?_)
  exact pass σ2 _ (RwT_m R2) (by rw [e2, ey]) (by rw [ey, Int.zero_add])
theorem m_years_77 {σ0 : Sg} {D : Int → (Nat → Int) → Option Int} {Q : Int × Sg → Prop} {n : Nat} (hD : LawM (σ0 86) D) (h20 : σ0 84 20 = 0) (hn : n ≤ 60) :
    ∀ (m f k : Nat) (S : YS) (σ : Sg), m < f → k + m = n → yOk (σ0 86) S k → σ 86 = S.1 → σ 84 54 = S.2.1 → RwY σ0 σ → (∀ σ', RwY σ0 σ' → σ' 86 = (yrN D m S).1 → T (vX10_years_188 (yrN D m S).2.2 σ') Q) → T (vX10_years_77 f (n : Int) S.2.2 (k : Int) σ) Q := by
  intro m
  induction m with
  | zero =>
    intro f k S σ hf hk ok e86 e54 hS cont
    obtain ⟨f', rfl⟩ : ∃ f', f = f' + 1 := ⟨f - 1, by omega⟩
    rw [vX10_years_77]
    exact T_f (by omega) (cont σ hS e86)
  | succ m ih =>
    intro f k S σ hf hk ok e86 e54 hS cont
    obtain ⟨f', rfl⟩ : ∃ f', f = f' + 1 := ⟨f - 1, by omega⟩
    obtain ⟨hW, hF, hs, hp, h0, h1⟩ := id ok
    have h08 := hW.1.1
    have h16 := hW.1.2.1
    rw [yrN] at cont
    rw [vX10_years_77, m_term (by omega), Option.bind_some]
    refine T_t (by omega) ?_
    have e4 : σ 86 (4 + 0 : Int).toNat = S.1 4 := by rw [e86]; rfl
    rw [e4]
    by_cases h4 : S.1 4 < 999
    · rw [if_pos h4] at cont
      refine T_t h4 ?_
      have s1 := nxd_b hs
      have s2 := nxd_b s1
      have s3 := nxd_b s2
      have t1 := tm_b s1.1 h1
      have t2 := tm_b s2.1 h0
      have t3 := tm_b (b := 3) s3.1 (by omega)
      rw [m_draw (by rw [e54]; exact hs) (by rw [e86]; omega), bd2_some, e54, e86]
      have a54 : up2 σ 84 54 (nxd S.2.1) 84 54 = nxd S.2.1 := by rw [up2_c, upw_s]
      have a86 : up2 σ 84 54 (nxd S.2.1) 86 = S.1 := by rw [up2_o (by omega)]; exact e86
      rw [m_draw (by rw [a54]; exact s1) (by rw [a86]; omega), bd2_some, a54, a86]
      have b54 : up2 (up2 σ 84 54 (nxd S.2.1)) 84 54 (nxd (nxd S.2.1)) 84 54 = nxd (nxd S.2.1) := by rw [up2_c, upw_s]
      rw [m_draw (by rw [b54]; exact s2) (by omega), bd2_some, b54]
      have hS3 : RwY σ0 (up2 (up2 (up2 σ 84 54 (nxd S.2.1)) 84 54 (nxd (nxd S.2.1))) 84 54 (nxd (nxd (nxd S.2.1)))) := RwY_54 (RwY_54 (RwY_54 hS))
      have c54 : up2 (up2 (up2 σ 84 54 (nxd S.2.1)) 84 54 (nxd (nxd S.2.1))) 84 54 (nxd (nxd (nxd S.2.1))) 84 54 = nxd (nxd (nxd S.2.1)) := by rw [up2_c, upw_s]
      have c86 : up2 (up2 (up2 σ 84 54 (nxd S.2.1)) 84 54 (nxd (nxd S.2.1))) 84 54 (nxd (nxd (nxd S.2.1))) 86 = S.1 := by rw [up2_o (by omega), up2_o (by omega), up2_o (by omega)]; exact e86
      generalize up2 (up2 (up2 σ 84 54 (nxd S.2.1)) 84 54 (nxd (nxd S.2.1))) 84 54 (nxd (nxd (nxd S.2.1))) = τ at *
      have hDs : LawM (τ 86) D := by rw [c86]; exact LawM_p hD (hF 3 (by omega)) (fun i hi => hF i (by omega))
      refine m_yearMove (D := D) (σ := τ) (by rw [c86]; exact hW) hDs (by rw [hS3.2.1 20 (by omega) (by unfold sc84; omega)]; exact h20) (by rw [c86]; exact t1) (by rw [c86]; exact t2) (by rw [c86]; exact h4) (by omega) (by omega) (fun σ' R' e' => ?_)
      rw [c86] at e' ⊢
      have ok' := yrS_ok (D := D) ok h4
      have es : yrS D S = (passR D (yrM D S.1 (Int.tmod (nxd S.2.1) (S.1 1)) (Int.tmod (nxd (nxd S.2.1)) (S.1 0)) (Int.tmod (nxd (nxd (nxd S.2.1))) 3) 0).1, nxd (nxd (nxd S.2.1)), S.2.2 + (yrM D S.1 (Int.tmod (nxd S.2.1) (S.1 1)) (Int.tmod (nxd (nxd S.2.1)) (S.1 0)) (Int.tmod (nxd (nxd (nxd S.2.1))) 3) 0).2) := by
        unfold yrS
        rw [yrM_p (paid := S.2.2)]
      have nx := ih f' (k + 1) (yrS D S) σ' (by omega) (by omega) ok' (by rw [e', es]) (by rw [R'.2.1 54 (by unfold sc84; omega), c54, es]) (RwY_t hS3 (RwY_w R')) cont
      rw [show (k : Int) + 1 = ((k + 1 : Nat) : Int) by omega]
      have e3 : (yrS D S).2.2 = S.2.2 + (yrM D S.1 (Int.tmod (nxd S.2.1) (S.1 1)) (Int.tmod (nxd (nxd S.2.1)) (S.1 0)) (Int.tmod (nxd (nxd (nxd S.2.1))) 3) 0).2 := by rw [es]
      rw [e3] at nx
      exact nx
    · rw [if_neg h4] at cont
      exact T_f h4 (cont σ hS e86)
theorem m_years_290 {σ0 : Sg} {paid : Int} {N : Nat} (hp : 0 ≤ paid ∧ paid ≤ 100000) (hN : N ≤ 8) : ∀ (f x : Nat) (σ : Sg), N - x < f → x ≤ N → σ 84 57 = (N : Int) → (∀ c, c ≠ 114 → σ c = σ0 c) → (∀ j, j < 18 → σ 114 j = σ0 114 j) → (∀ b, b < x → σ 114 (18 + b) = σ0 86 (9 + b)) →
    T (vX10_years_290 f paid (x : Int) σ) (fun p => ∃ σ', p.1 = paid ∧ p.2 = anM paid σ' ∧ (∀ c, c ≠ 114 → c ≠ 86 → σ' c = σ0 c) ∧ (∀ j, j < 18 → σ' 114 j = σ0 114 j) ∧ (∀ b, b < N → σ' 114 (18 + b) = σ0 86 (9 + b)) ∧ σ' 86 = putR (σ0 86) (snp (σ0 89) 16)) := by
  intro f
  induction f with
  | zero => intro x σ h; omega
  | succ f ih =>
    intro x σ hf hx h57 hS h18 hb
    rw [vX10_years_290, h57]
    refine T_ite (fun h => ?_) (fun h => ?_)
    · repeat (with_reducible first | refine T_ck (by omega) ?_ | refine T_nm ?_)
      rw [show (x : Int) + 1 = ((x + 1 : Nat) : Int) by omega, show (18 + (x : Int)).toNat = 18 + x by omega, show (9 + (x : Int)).toNat = 9 + x by omega]
      refine ih (x + 1) _ (by omega) (by omega) (by rw [up2_o (by omega)]; exact h57) (fun c hc => by rw [up2_o hc]; exact hS c hc) (fun j hj => by rw [up2_c, upw_n (by omega)]; exact h18 j hj) (fun b hb' => ?_)
      rw [up2_c]
      by_cases e : b = x
      · rw [e, upw_s, hS 86 (by omega)]
      · rw [upw_n (by omega)]; exact hb b (by omega)
    · refine T_bind (m_putBack (σ := σ) (k := 16) (by omega)) (fun σ3 h3 => ?_)
      rw [m_told (by omega) (fun q => by omega), bd2_some]
      refine T_some ⟨σ3, rfl, rfl, fun c c1 c2 => by rw [h3.1 c c2, hS c c1], fun j hj => by rw [h3.1 114 (by omega)]; exact h18 j hj, fun b hb' => by rw [h3.1 114 (by omega)]; exact hb b (by omega), ?_⟩
      rw [h3.2, hS 86 (by omega), hS 89 (by omega)]
theorem m_years_211 {σ0 : Sg} {paid : Int} {N R : Nat} (hp : 0 ≤ paid ∧ paid ≤ 100000) (hN : N ≤ 8) (hR : R ≤ 6) : ∀ (f x : Nat) (σ : Sg), R - x < f → x ≤ R → σ 84 57 = (N : Int) → σ 84 56 = (R : Int) → (∀ c, c ≠ 114 → σ c = σ0 c) → (∀ r, r < x → σ 114 (3 * r) = σ0 86 (17 + r) ∧ σ 114 (3 * r + 1) = σ0 86 (23 + r) ∧ σ 114 (3 * r + 2) = σ0 86 (29 + r)) →
    T (vX10_years_211 f paid (x : Int) σ) (fun p => ∃ σ', p.1 = paid ∧ p.2 = anM paid σ' ∧ (∀ c, c ≠ 114 → c ≠ 86 → σ' c = σ0 c) ∧ (∀ r, r < R → σ' 114 (3 * r) = σ0 86 (17 + r) ∧ σ' 114 (3 * r + 1) = σ0 86 (23 + r) ∧ σ' 114 (3 * r + 2) = σ0 86 (29 + r)) ∧ (∀ b, b < N → σ' 114 (18 + b) = σ0 86 (9 + b)) ∧ σ' 86 = putR (σ0 86) (snp (σ0 89) 16)) := by
  intro f
  induction f with
  | zero => intro x σ h; omega
  | succ f ih =>
    intro x σ hf hx h57 h56 hS hb
    rw [vX10_years_211, h56]
    refine T_ite (fun h => ?_) (fun h => ?_)
    · repeat (with_reducible first | refine T_ck (by omega) ?_ | refine T_nm ?_)
      rw [show (x : Int) + 1 = ((x + 1 : Nat) : Int) by omega, show (3 * (x : Int)).toNat = 3 * x by omega, show (3 * (x : Int) + 1).toNat = 3 * x + 1 by omega, show (3 * (x : Int) + 2).toNat = 3 * x + 2 by omega, show (17 + (x : Int)).toNat = 17 + x by omega, show (23 + (x : Int)).toNat = 23 + x by omega, show (29 + (x : Int)).toNat = 29 + x by omega]
      refine ih (x + 1) _ (by omega) (by omega) (by simp (disch := omega) only [up2_o]; exact h57) (by simp (disch := omega) only [up2_o]; exact h56) (fun c hc => by rw [up2_o hc, up2_o hc, up2_o hc]; exact hS c hc) (fun r hr => ?_)
      simp (disch := omega) only [up2_o, up2_c]
      rw [hS 86 (by omega)]
      by_cases e : r = x
      · subst e
        rw [upw_n (by omega), upw_n (by omega), upw_s, upw_n (by omega), upw_s, upw_s]
        exact ⟨rfl, rfl, rfl⟩
      · have q := hb r (by omega)
        rw [upw_n (by omega), upw_n (by omega), upw_n (by omega), upw_n (by omega), upw_n (by omega), upw_n (by omega), upw_n (by omega), upw_n (by omega), upw_n (by omega)]
        exact q
    · have e : x = R := by omega
      subst e
      refine T_mono (m_years_290 (σ0 := σ) hp hN FU 0 σ (by have := FU_b; omega) (by omega) h57 (fun _ _ => rfl) (fun _ _ => rfl) (fun b hb' => by omega)) (fun p hp' => ?_)
      obtain ⟨σ', p1, p2, p3, p4, p5, p6⟩ := hp'
      refine ⟨σ', p1, p2, fun c c1 c2 => by rw [p3 c c1 c2, hS c c1], fun r hr => ?_, fun b hb' => by rw [p5 b hb', hS 86 (by omega)], ?_⟩
      · rw [p4 _ (by omega), p4 _ (by omega), p4 _ (by omega)]; exact hb r hr
      · rw [p6, hS 86 (by omega), hS 89 (by omega)]
theorem s_years {K : Kt} {σ : Sg} {n a b : Int} (hI : Inv K σ n) (hn : n ≤ 600) : St2 K n (vX9_years K a b σ) (vX10_years a b) := by
  obtain ⟨⟨hK, ⟨hW, hH⟩, hL, hU, hDD, hT, hM, hC'⟩, hS⟩ := id hI
  obtain ⟨D, hDC, hDM⟩ := inv_force hK.1.1 hL hW
  have h08 := hW.1.1
  have h16 := hW.1.2.1
  have h20 : σ 84 20 = 0 := hT.2.2.2.2.2
  have g1 : σ 13 2 = σ 86 1 := hH.1.2.1
  have g0 : σ 13 1 = σ 86 0 := hH.1.1
  have hO : LwO K (hC 47) := LwO_lo hK.1.1 hK.2.1 (fun k h => by unfold hC at h; omega)
  have bad : ¬ ((0 ≤ a ∧ a ≤ 1000000) ∧ (1 ≤ b ∧ b ≤ 60)) → St2 K n (vX9_years K a b σ) (vX10_years a b) := by
    intro ok
    refine St2_ref hI hn (v := -1) (by omega) ?_ (fun σ1 fr => ?_)
    · unfold vX9_years vX9_years_21
      rw [c_within, Option.bind_some, c_within, Option.bind_some, c_refuse (by omega) (InvR_v hS hn (by omega) (by omega)).1]
      by_cases h1 : 0 ≤ a ∧ a ≤ 1000000
      · rw [if_neg (by rw [bI_t h1]; omega), if_pos (bI_f (fun h => ok ⟨h1, h⟩))]; rfl
      · rw [if_pos (bI_f h1)]; rfl
    · unfold vX10_years vX10_years_29
      simp only [nm]
      rw [m_in, Option.bind_some, m_in, Option.bind_some, m_told (by omega) (fun _ => by rw [up2_o (by omega), fr 85 (by omega) (by omega)]; exact (InvR_v hS hn (by omega) (by omega)).2)]
      by_cases h1 : 0 ≤ a ∧ a ≤ 1000000
      · rw [if_neg (by rw [bI_t h1]; omega), if_pos (bI_f (fun h => ok ⟨h1, h⟩))]; rfl
      · rw [if_pos (bI_f h1)]; rfl
  by_cases ha : 0 ≤ a ∧ a ≤ 1000000
  · by_cases hb : 1 ≤ b ∧ b ≤ 60
    · by_cases hz : 0 < σ 86 0 ∧ 0 < σ 86 1
      · obtain ⟨m, em, -⟩ := bI_n b (by omega)
        subst em
        unfold St2 vX9_years
        rw [c_within, Option.bind_some]
        refine T_f (by rw [bI_t ha]; omega) ?_
        rw [c_within, Option.bind_some]
        refine T_f (by rw [bI_t hb]; omega) (T_nm (T_nm ?_))
        rw [g0, g1]
        refine T_t hz.1 (T_t hz.2 ?_)
        refine T_bind (c_copyFrom (K := K) (σ := σ) (o := 47) (o2 := 13) (by omega)) (fun σ9 h9 => ?_)
        have S9 : Sme (hC 47) σ σ9 := Sme_m h9.1 (fun k hk => by unfold hC; omega)
        have ok0 : yOk (σ 86) (σ 86, a, 0) 0 := ⟨hW, fun _ _ => rfl, by dsimp only; omega, by dsimp only; omega, hz.1, hz.2⟩
        have ok1 := yrN_ok (D := D) m 0 _ ok0
        refine T_mono (c_years_80 (K := K) (σ0 := σ9) (ρ0 := σ 86) (D := D) (n := m) hO (by rw [S9 1 (by unfold hC; omega)]; exact LawC_s hDC S9 hO) (by omega) m FU 0 (σ 86, a, 0) σ9 (by have := FU_b; omega) (by omega) ok0 (h9.2 _ hH) Sme_r) (fun p hp => ?_)
        obtain ⟨σc, Sc, Hc, p1, p2⟩ := hp
        have SC : Sme (hC 47) σ σc := Sme_t S9 Sc
        generalize hZ : yrN D m (σ 86, a, 0) = Z at *
        obtain ⟨zW, zF, zs, zp, z0, z1⟩ := ok1
        obtain ⟨a1, a2, a3, a4⟩ := anC_k (v := p.1) (σ := σc)
        have e0 : mn0 p.1 = 0 := by unfold mn0; rw [if_neg (by omega)]
        have eb : ∀ ρ, bmp ρ p.1 = ρ := by intro ρ; unfold bmp; rw [if_neg (by omega)]
        rw [e0] at a3
        rw [eb] at a4
        have P : ∀ k, k ≠ 0 → ¬ hC 47 k → p.2 k = σ k := by
          intro k k1 k2
          rw [p2]
          by_cases e : k = 83
          · rw [e, a4]; exact SC 83 (by unfold hC; omega)
          · rw [a1 k k1 e]; exact SC k k2
        have P0 : ∀ j, j ≠ 14 → p.2 0 j = σ 0 j := fun j hj => by rw [p2, a2 j hj, SC 0 (by unfold hC; omega)]
        have P014 : p.2 0 14 = 0 := by rw [p2]; exact a3
        have PH : HallIs p.2 47 Z.1 := by rw [p2]; exact HallIs_s Hc (fun k k1 k2 => a1 k (by omega) (by omega))
        -- the reference
        have u86 : up2 p.2 84 0 0 86 = σ 86 := by rw [up2_o (by omega), P 86 (by omega) (by unfold hC; omega)]
        unfold vX10_years
        refine T_nm ?_
        rw [m_in, Option.bind_some]
        refine T_f (by rw [bI_t ha]; omega) ?_
        rw [m_in, Option.bind_some]
        refine T_f (by rw [bI_t hb]; omega) ?_
        rw [u86]
        refine T_f (by omega) (T_f (by omega) ?_)
        refine T_bind (m_keepAll (σ := up2 p.2 84 0 0) (k := 16) (by omega)) (fun σ8 h8 => T_nm ?_)
        obtain ⟨k1, k2, k3⟩ := h8
        have v86 : up2 σ8 84 54 a 86 = σ 86 := by rw [up2_o (by omega), k1 86 (by omega)]; exact u86
        have M := m_years_77 (σ0 := up2 σ8 84 54 a) (D := D) (Q := fun q => q.1 = p.1 ∧ Inv K q.2 (n + 1)) (n := m) (by rw [v86]; exact hDM) (by rw [up2_c, upw_n (by omega), k1 84 (by omega), u84 (by omega), P 84 (by omega) (by unfold hC; omega)]; exact h20) (by omega) m FU 0 (σ 86, a, 0) (up2 σ8 84 54 a) (by have := FU_b; omega) (by omega) (by rw [v86]; exact ok0) v86 (by rw [up2_c, upw_s]) RwY_r (fun σ' R' e' => ?_)
        · exact M
        · rw [hZ] at e' ⊢
          have zW0 := zW.1.1
          have zW1 := zW.1.2.1
          obtain ⟨NN, hNN, -⟩ := bI_n (Z.1 0) zW0.1
          obtain ⟨RR, hRR, -⟩ := bI_n (Z.1 1) zW1.1
          unfold vX10_years_188
          refine T_nm (T_nm ?_)
          have w1 : up2 σ' 84 56 (σ' 86 1) 86 0 = Z.1 0 := by rw [up2_o (by omega), e']
          rw [w1, e', hNN, hRR]
          refine T_mono (m_years_211 (σ0 := up2 (up2 σ' 84 56 (RR : Int)) 84 57 (NN : Int)) (paid := Z.2.2) (N := NN) (R := RR) (by omega) (by omega) (by omega) FU 0 _ (by have := FU_b; omega) (by omega) (by rw [up2_c, upw_s]) (by rw [up2_c, upw_n (by omega), up2_c, upw_s]) (fun _ _ => rfl) (fun r hr => by omega)) (fun q hq => ?_)
          obtain ⟨σq, q1, q2, q3, q4, q5, q6⟩ := hq
          have x86 : up2 (up2 σ' 84 56 (RR : Int)) 84 57 (NN : Int) 86 = Z.1 := by rw [up2_o (by omega), up2_o (by omega)]; exact e'
          have x89 : up2 (up2 σ' 84 56 (RR : Int)) 84 57 (NN : Int) 89 = σ' 89 := by rw [up2_o (by omega), up2_o (by omega)]
          rw [x86] at q4 q5 q6
          rw [x89] at q6
          have r86 : σq 86 = σ 86 := by
            rw [q6]
            refine putR_b (fun i hi => zF i hi) (fun i hi => ?_)
            show σ' 89 (67 * 16 + i) = _
            rw [R'.2.2 _ (by omega), up2_o (by omega)]
            have := k2 i hi
            unfold snp at this
            rw [this, u86]
          obtain ⟨b1, b2, b3, b4⟩ := anM_k (v := Z.2.2) (σ := σq)
          have e0' : mn0 Z.2.2 = 0 := by unfold mn0; rw [if_neg (by omega)]
          have eb' : ∀ ρ, bmp ρ Z.2.2 = ρ := by intro ρ; unfold bmp; rw [if_neg (by omega)]
          rw [e0'] at b3
          rw [eb'] at b4
          -- cells behind
          have QQ : ∀ k, k ≠ 84 → k ≠ 86 → k ≠ 89 → k ≠ 102 → k ≠ 104 → k ≠ 114 → q.2 k = p.2 k := by
            intro k c1 c2 c3 c4 c5 c6
            rw [q2]
            have e1 : anM Z.2.2 σq k = σq k := by
              by_cases e : k = 85
              · rw [e, b4]
              · exact b1 k c1 e
            rw [e1, q3 k c6 c2, up2_o c1, up2_o c1, R'.1 k c1 c2 c3 c4 c5, up2_o c1, k1 k c3, up2_o c1]
          have Q84 : ∀ j, j ≠ 0 → j ≠ 1 → j ≠ 54 → j ≠ 56 → j ≠ 57 → ¬ sc84 j → q.2 84 j = σ 84 j := by
            intro j c1 c2 c3 c4 c5 c6
            rw [q2, b2 j c2, q3 84 (by omega) (by omega), up2_c, upw_n c5, up2_c, upw_n c4, R'.2.1 j c3 c6, up2_c, upw_n c3, k1 84 (by omega), u84 c1, P 84 (by omega) (by unfold hC; omega)]
          have Q1 : q.2 84 1 = 0 := by rw [q2]; exact b3
          have Q56 : q.2 84 56 = (RR : Int) := by rw [q2, b2 56 (by omega), q3 84 (by omega) (by omega), up2_c, upw_n (by omega), up2_c, upw_s]
          have Q57 : q.2 84 57 = (NN : Int) := by rw [q2, b2 57 (by omega), q3 84 (by omega) (by omega), up2_c, upw_s]
          have Q86 : q.2 86 = σ 86 := by rw [q2, b1 86 (by omega) (by omega)]; exact r86
          have Q89 : ∀ j, j < 1072 → q.2 89 j = σ 89 j := by
            intro j hj
            rw [q2, b1 89 (by omega) (by omega), q3 89 (by omega) (by omega), up2_o (by omega), up2_o (by omega), R'.2.2 j (by omega), up2_o (by omega), k3 j (by omega), up2_o (by omega), P 89 (by omega) (by unfold hC; omega)]
          have Q114 : q.2 114 = σq 114 := by rw [q2]; exact b1 114 (by omega) (by omega)
          have QP : ∀ k, k ≠ 0 → ¬ hC 47 k → k ≠ 84 → k ≠ 86 → k ≠ 89 → k ≠ 102 → k ≠ 104 → k ≠ 114 → q.2 k = σ k := fun k c0 c1 c2 c3 c4 c5 c6 c7 => by rw [QQ k c2 c3 c4 c5 c6 c7, P k c0 c1]
          have E : ∀ k, (k = 1 ∨ k = 2 ∨ k = 27 ∨ k = 29 ∨ k = 90 ∨ (13 ≤ k ∧ k ≤ 26) ∨ k = 61 ∨ k = 62 ∨ k = 63 ∨ k = 93 ∨ k = 87 ∨ k = 88 ∨ (99 ≤ k ∧ k ≤ 101) ∨ k = 112 ∨ k = 83 ∨ k = 85 ∨ 115 ≤ k) → q.2 k = σ k := fun k hk => QP k (by omega) (by unfold hC; omega) (by omega) (by omega) (by omega) (by omega) (by omega) (by omega)
          have HQ : HallIs q.2 47 Z.1 := HallIs_s PH (fun k c1 c2 => QQ k (by omega) (by omega) (by omega) (by omega) (by omega) (by omega))
          obtain ⟨⟨t0, t1, -⟩, tB, tR, -⟩ := id HQ
          refine ⟨by rw [q1, p1], ⟨hK, ⟨by rw [Q86]; exact hW, ?_⟩, ?_, ?_, ?_, ?_, ?_, ?_⟩, ?_⟩
          · rw [Q86]; exact HallIs_s hH (fun k c1 c2 => E k (by omega))
          · exact InvL_f hK hL hW.1.2.2.1.2 (by rw [E 1 (by omega)]) (by rw [E 1 (by omega)]) (by rw [E 2 (by omega)]) (by rw [Q86]) (by rw [Q86]) (fun i _ => by rw [Q86]) (fun q' k _ c1 c2 _ => E k (by omega))
          · exact InvU_f hK hU (by rw [Q86]; exact RS_w hW (fun _ _ => rfl)) (by rw [E 27 (by omega)]) (by rw [E 27 (by omega)]) (E 29 (by omega)) (fun i h hi' e k c1 c2 => E k (by have := (hK.2.2.1 i h hi' e).2.1; omega)) (Q84 8 (by omega) (by omega) (by omega) (by omega) (by omega) (by unfold sc84; omega)) Q89 (E 90 (by omega))
          · refine Or.inr ⟨?_, ?_, ?_, ?_, fun r c1 c2 => ?_, fun x c1 c2 => ?_⟩
            · rw [Q56, t1, hRR]
            · rw [Q57, t0, hNN]
            · rw [t1]; omega
            · rw [t0]; omega
            · rw [t1] at c2
              obtain ⟨s1, -, s3, s4, -⟩ := tR r c1 (by omega)
              have w := q4 r.toNat (by omega)
              rw [Q114, show (3 * r).toNat = 3 * r.toNat by omega, show (3 * r + 1).toNat = 3 * r.toNat + 1 by omega, show (3 * r + 2).toNat = 3 * r.toNat + 2 by omega, w.1, w.2.1, w.2.2]
              refine ⟨?_, ?_, ?_⟩
              · show _ = q.2 52 r.toNat
                rw [show q.2 52 r.toNat = _ from s1, show (17 + r).toNat = 17 + r.toNat by omega]
              · rw [show q.2 54 r.toNat = _ from s3, show (23 + r).toNat = 23 + r.toNat by omega]
              · rw [show q.2 55 r.toNat = _ from s4, show (29 + r).toNat = 29 + r.toNat by omega]
            · rw [t0] at c2
              have s := tB x c1 (by omega)
              have w := q5 x.toNat (by omega)
              rw [Q114, show (18 + x).toNat = 18 + x.toNat by omega, w, show q.2 51 x.toNat = _ from s.2.2.2, show (9 + x).toNat = 9 + x.toNat by omega]
          · exact InvT_f hT (by rw [E 61 (by omega)]) (E 62 (by omega)) (by rw [E 63 (by omega)]) (E 93 (by omega)) (by rw [QQ 0 (by omega) (by omega) (by omega) (by omega) (by omega) (by omega), P0 12 (by omega)]) (by rw [QQ 0 (by omega) (by omega) (by omega) (by omega) (by omega) (by omega), P0 13 (by omega)]) (Q84 13 (by omega) (by omega) (by omega) (by omega) (by omega) (by unfold sc84; omega)) (Q84 18 (by omega) (by omega) (by omega) (by omega) (by omega) (by unfold sc84; omega)) (Q84 11 (by omega) (by omega) (by omega) (by omega) (by omega) (by unfold sc84; omega)) (Q84 52 (by omega) (by omega) (by omega) (by omega) (by omega) (by unfold sc84; omega)) (Q84 20 (by omega) (by omega) (by omega) (by omega) (by omega) (by unfold sc84; omega))
          · exact InvI_f hK hM (E 87 (by omega)) (E 88 (by omega)) (fun k m hk e => by
              have h115 : 115 ≤ m := (hK.2.2.2.2.2.2.2.1 k m hk e).1.2.2.2.2.2.2.2.1
              exact ⟨E _ (by omega), fun k c1 _ => E k (by omega)⟩) (fun q' k _ c1 c2 _ => E k (by omega))
          · exact InvC_f hC' (E 99 (by omega)) (E 100 (by omega)) (E 101 (by omega)) (E 112 (by omega))
          · refine InvS_m (n := n) ⟨?_, fun j hj => ?_⟩ (by omega)
            · rw [QQ 0 (by omega) (by omega) (by omega) (by omega) (by omega) (by omega), P014, Q1]
            · rw [E 83 (by omega), E 85 (by omega)]; exact hS.2 j hj
      · refine St2_ref hI hn (v := -3) (by omega) ?_ (fun σ1 fr => ?_)
        · unfold vX9_years vX9_years_53
          simp only [nm]
          rw [c_within, Option.bind_some, if_neg (by rw [bI_t ha]; omega), c_within, Option.bind_some, if_neg (by rw [bI_t hb]; omega), c_refuse (by omega) (InvR_v hS hn (by omega) (by omega)).1, g0, g1]
          by_cases z0 : 0 < σ 86 0
          · rw [if_pos z0, if_neg (fun q => hz ⟨z0, q⟩)]; rfl
          · rw [if_neg z0]; rfl
        · unfold vX10_years vX10_years_53
          simp only [nm]
          have e86 : up2 σ1 84 0 0 86 = σ 86 := by rw [up2_o (by omega), fr 86 (by omega) (by omega)]
          rw [m_in, Option.bind_some, if_neg (by rw [bI_t ha]; omega), m_in, Option.bind_some, if_neg (by rw [bI_t hb]; omega), e86, m_told (by omega) (fun _ => by rw [up2_o (by omega), fr 85 (by omega) (by omega)]; exact (InvR_v hS hn (by omega) (by omega)).2)]
          by_cases z0 : σ 86 0 = 0
          · rw [if_pos z0]; rfl
          · rw [if_neg z0, if_pos (by omega)]; rfl
    · exact bad (fun h => hb h.2)
  · exact bad (fun h => ha h.1)
