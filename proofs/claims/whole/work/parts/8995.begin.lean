/-! ===== a text is begun ===== -/
theorem tk_rng {b : Nat → Int} {n N : Nat} {tk : Nat → Int} {pl st : Nat → Nat} (hc : PC b n tk pl st N) {i : Nat} (hi : i ≤ N) : 0 ≤ tk i ∧ tk i ≤ 2001 := by
  obtain ⟨s, -, -, -, -, r⟩ := m_next (σ := fun k j => if k = 93 then b j else if j = 13 then (n : Int) else (st i : Int)) (i := i) hc.1 hc.2.1 hc.2.2 hi rfl (fun q _ => rfl) rfl
  exact r.2.2.2.2.2
def BgF (σ s : Sg) : Prop := (∀ k, k ≠ 84 → s k = σ k) ∧ ∀ j, j < 14 ∨ (20 < j ∧ j ≠ 21 ∧ j ≠ 23 ∧ j ≠ 26) → s 84 j = σ 84 j
def cd0 : Cd := (fun _ => 0, fun _ => 0, 0)
theorem m_begin {b : Nat → Int} {n N : Nat} {tk : Nat → Int} {pl st : Nat → Nat} {σ : Sg} {ord : Int} (hc : PC b n tk pl st N) (ho : ord = 0 ∨ ord = 1) (h13 : σ 84 13 = (n : Int)) (h93 : ∀ q, q < n → σ 93 q = b q) : T (vX10_beginText ord σ) (fun s => PSv tk pl st N s s 0 0 cd0 ∧ s 84 21 = 0 ∧ s 84 20 = ord ∧ BgF σ s) := by
  unfold vX10_beginText vX10_begin
  refine T_ck ho (T_nm (T_bind (R := fun s => Nx (up2 (up2 (up2 (up2 σ 84 20 ord) 84 15 0) 84 19 0) 84 18 (-1)) s ∧ PT tk pl st N s 0) ?_ (fun s h => ?_)))
  · refine T_nm (T_nm (T_nm (T_bind (m_next (i := 0) hc.1 hc.2.1 hc.2.2 (by omega) ?_ (fun q hq => ?_) ?_) (fun s h => T_some ⟨h.1, by omega, h.2⟩))))
    · rw [up2_c, upw_n (by omega), up2_c, upw_n (by omega), up2_c, upw_n (by omega), up2_c, upw_n (by omega)]; exact h13
    · rw [up2_o (by omega), up2_o (by omega), up2_o (by omega), up2_o (by omega)]; exact h93 q hq
    · rw [up2_c, upw_n (by omega), up2_c, upw_n (by omega), up2_c, upw_s, hc.2.2.2.1]; rfl
  · obtain ⟨⟨n1, n2⟩, pt⟩ := h
    have S : ∀ j, j ≠ 21 → j ≠ 23 → j ≠ 26 → up2 (up2 (up2 s 84 21 0) 84 23 0) 84 26 0 84 j = s 84 j := fun j a b c => by rw [up2_c, upw_n c, up2_c, upw_n b, up2_c, upw_n a]
    refine T_nm (T_nm (T_nm (T_some ⟨⟨PF_r, ⟨⟨?_, ?_, ?_⟩, fun k hk => absurd hk (by show ¬ k < 0; omega)⟩, PT_84 pt (fun j hj => S j (by omega) (by omega) (by omega)), ?_⟩, ?_, ?_, fun k hk => ?_, fun j hj => ?_⟩)))
    · rw [S 19 (by omega) (by omega) (by omega), n2 19 (by omega), up2_c, upw_n (by omega), up2_c, upw_s]
    · rw [up2_c, upw_n (by omega), up2_c, upw_s]; rfl
    · rw [up2_c, upw_s]; rfl
    · rw [S 18 (by omega) (by omega) (by omega), n2 18 (by omega), up2_c, upw_s]
    · rw [up2_c, upw_n (by omega), up2_c, upw_n (by omega), up2_c, upw_s]
    · rw [S 20 (by omega) (by omega) (by omega), n2 20 (by omega), up2_c, upw_n (by omega), up2_c, upw_n (by omega), up2_c, upw_n (by omega), up2_c, upw_s]
    · rw [up2_o hk, up2_o hk, up2_o hk, n1 k hk, up2_o hk, up2_o hk, up2_o hk, up2_o hk]
    · rw [S j (by omega) (by omega) (by omega), n2 j (by omega), up2_c, upw_n (by omega), up2_c, upw_n (by omega), up2_c, upw_n (by omega), up2_c, upw_n (by omega)]
def CBg (σ σC : Sg) : Prop := (∀ k, k ≠ 63 → k ≠ 64 → k ≠ 71 → k ≠ 72 → σC k = σ k) ∧ ∀ j, j ≠ 2 → j ≠ 5 → j ≠ 6 → j ≠ 7 → σC 63 j = σ 63 j
theorem c_begin {K : Kt} {σ : Sg} {n nW : Nat} {p1 : Int} (hp : p1 = 0 ∨ p1 = 1) (hn : n ≤ 400) (h61 : σ 61 1 = (n : Int)) (hb : ∀ i, i < n → 0 ≤ σ 62 i ∧ σ 62 i ≤ 255) : ∃ tk pl st N σC, PC (σ 62) n tk pl st N ∧ CZ tk pl N (if p1 = 0 then 1 else 0) σC ∧ CBg σ σC ∧ CL nW N σC σC 0 0 [] [] ∧ σC 63 5 = p1 ∧ vX4_reads K p1 σ = vX4_reads_33 K FU 0 σC := by
  obtain ⟨σ1, e1, f1, pl, st, N, hT, h72⟩ := c_split (K := K) hn h61 hb
  have hc : PC (σ 62) n (σ1 71) pl st N := ⟨hn, hb, hT⟩
  generalize hC : up2 (up2 (up2 (up2 (up2 (up2 σ1 64 6 0) 64 7 0) 63 5 p1) 63 2 (-1)) 63 6 0) 63 7 0 = σC
  have o : ∀ k, k ≠ 63 → k ≠ 64 → σC k = σ1 k := fun k a b => by rw [← hC, up2_o a, up2_o a, up2_o a, up2_o a, up2_o b, up2_o b]
  have o3 : ∀ j, j ≠ 2 → j ≠ 5 → j ≠ 6 → j ≠ 7 → σC 63 j = σ1 63 j := fun j a b c d => by rw [← hC, up2_c, upw_n d, up2_c, upw_n c, up2_c, upw_n a, up2_c, upw_n b, up2_o (by omega), up2_o (by omega)]
  have s5 : σC 63 5 = p1 := by rw [← hC, up2_c, upw_n (by omega), up2_c, upw_n (by omega), up2_c, upw_n (by omega), up2_c, upw_s]
  refine ⟨σ1 71, pl, st, N, σC, hc, ⟨nN hc, fun k hk => ⟨by rw [o 71 (by omega) (by omega)], by rw [o 72 (by omega) (by omega)]; exact h72 k hk⟩, ?_, fun k hk => tk_rng hc hk, hT.2.2.2.2.2⟩, ⟨fun k a b c d => by rw [o k a b]; exact f1 k c d, fun j a b c d => by rw [o3 j a b c d, f1 63 (by omega) (by omega)]⟩, ⟨⟨CFr_r, ⟨by omega, ?_, ?_, ?_⟩, ?_, fun j y hy => by simp at hy⟩, Nat.le_refl _, CGr_r, ?_, fun q x hq => by simp at hq⟩, s5, ?_⟩
  · rw [s5]
    rcases hp with e | e
    · subst e; simp
    · subst e; simp
  · rw [← hC, up2_c, upw_n (by omega), up2_c, upw_s]; rfl
  · rw [← hC, up2_c, upw_s]; rfl
  · rw [← hC, up2_c, upw_n (by omega), up2_c, upw_n (by omega), up2_c, upw_s]
  · rw [← hC, up2_o (by omega), up2_o (by omega), up2_o (by omega), up2_o (by omega), up2_c, upw_s]; rfl
  · rw [← hC, up2_o (by omega), up2_o (by omega), up2_o (by omega), up2_o (by omega), up2_c, upw_n (by omega), up2_c, upw_s]; rfl
  · unfold vX4_reads
    rw [e1, Option.bind_some]
    unfold vX7_clear
    rw [nm_eq, nm_eq, Option.bind_some, ck_p hp, nm_eq, nm_eq, nm_eq, nm_eq, hC]
/-- the law is read by both -/
theorem law_reads {K : Kt} {σ s0 : Sg} {n : Nat} (hC : cLay K) (hn : n ≤ 400) (h61 : σ 61 1 = (n : Int)) (hb : ∀ i, i < n → 0 ≤ σ 62 i ∧ σ 62 i ≤ 255) (h13 : s0 84 13 = (n : Int)) (h93 : ∀ q, q < n → s0 93 q = σ 62 q) (hI : InvC s0) : T (vX4_reads K 1 σ) (fun p => ∃ tk pl st N σC σm, N ≤ 400 ∧ CBg σ σC ∧ BgF s0 σm ∧ vX10_beginText 0 s0 = some σm ∧ RdO (fun s => (vX10_readLaw s).bind (fun s' => vX10_law_37 FU s')) vX10_law_64 9 LawR MRl tk pl st N σC σm σm p) := by
  obtain ⟨tk, pl, st, N, σC, hc, cz, bg, cl, s5, e⟩ := c_begin (K := K) (nW := 9) (p1 := 1) (Or.inr rfl) hn h61 hb
  rw [if_neg (by omega)] at cz
  obtain ⟨σm, em, ps, m21, m20, mf⟩ := m_begin (ord := 0) hc (Or.inl rfl) h13 h93
  have hz : PZ (σ 62) n 0 σm := ⟨by rw [mf.2 13 (by omega)]; exact h13, fun q hq => by rw [mf.1 93 (by omega)]; exact h93 q hq, m20, InvC_f hI (mf.1 99 (by omega)) (mf.1 100 (by omega)) (mf.1 101 (by omega)) (mf.1 112 (by omega))⟩
  rw [e]
  have st1 : ClO (cls K σC) vX10_readLaw 9 LawR MRl tk pl st N σC σm K := by
    unfold cls
    rw [if_neg (by omega)]
    exact law_ClO hc hz cz (lcA_66 hC)
  have := reads_all (en := vX10_law_64) (lp := vX10_law_37) hc hz cz st1 (fun s i l c L m h12 => m_rl_bad hz m (Or.inr h12)) (fun s s' c q x h e94 _ => by unfold MRl at *; rw [e94]; exact h) (fun f s => by rw [vX10_law_37]) FU FU σC σm 0 0 [] cd0 [] (by have := FU_b; show 12 - 0 < FU; omega) (by have := FU_b; show 13 - 0 < FU; omega) (by show 0 ≤ 12; omega) (fun x hx => by cases hx) cl ⟨ps, Nat.le_refl _, MGr_r, m21, fun q x hq => by simp at hq⟩
  refine T_mono this (fun p hp => ⟨tk, pl, st, N, σC, σm, nN hc, bg, mf, em, hp⟩)
