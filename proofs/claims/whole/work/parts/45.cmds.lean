/-! ===== a change of the hall and the row ===== -/
def kpt (k : Nat) : Prop := k = 1 ∨ k = 2 ∨ k = 47 ∨ (51 ≤ k ∧ k ≤ 55) ∨ k = 61 ∨ k = 62 ∨ k = 87 ∨ k = 88 ∨ k = 93 ∨ (99 ≤ k ∧ k ≤ 101) ∨ k = 112 ∨ k = 114
/-- cells of what can be undone -/
def uc (K : Kt) (k : Nat) : Prop := ∃ i h, i < 16 ∧ (K.1 28 i = some h ∨ K.1 31 i = some h) ∧ h ≤ k ∧ k ≤ h + 13
theorem uc_h {K : Kt} (hK : Shp K) {i h : Nat} (hi : i < 16) (e : K.1 28 i = some h ∨ K.1 31 i = some h) : uH K h := by
  rcases e with e | e
  · exact hK.2.2.1 i h hi e
  · exact hK.2.2.2.1 i h hi e
theorem uc_tx {K : Kt} {q k : Nat} (hK : Shp K) (hq : TxtAt K q) (h1 : q ≤ k) (h2 : k ≤ q + 6) : ¬ uc K k := by
  rintro ⟨i, h, hi, e, a, b⟩
  exact ht_dis (uc_h hK hi e).1 hq k a b ⟨h1, h2⟩
theorem uc_im {K : Kt} {i m : Nat} (hK : Shp K) (hi : i < 2) (e : K.1 81 i = some m) : ¬ uc K (m + 1) ∧ ∀ k, m + 13 ≤ k → k ≤ m + 26 → ¬ uc K k := by
  obtain ⟨hA, hd⟩ := hK.2.2.2.2.2.2.2.1 i m hi e
  constructor
  · rintro ⟨j, h, hj, e', a, b⟩
    obtain ⟨x, y⟩ := hallAt_k (uc_h hK hj e').1
    have z := hA.2.2.2.1.2
    by_cases e2 : h = m + 1
    · rw [e2, z] at x; omega
    · have := y (m + 1 - h) (by omega) (by omega)
      rw [show h + (m + 1 - h) = m + 1 by omega, z] at this
      omega
  · rintro k k1 k2 ⟨j, h, hj, e', a, b⟩
    refine hh_dis (uc_h hK hj e').1 hA.2.2.2.2.2.2.1 (fun c => ?_) k a b ⟨k1, by omega⟩
    rcases e' with e' | e'
    · exact (hd j hj).1 (by rw [e', c])
    · exact (hd j hj).2 (by rw [e', c])
theorem InvX_h {K : Kt} {σ σ' : Sg} (h : InvX K σ) (fr : ∀ k, kpt k → σ' k = σ k) (f63 : σ' 63 2 = σ 63 2) (f0 : σ' 0 12 = σ 0 12 ∧ σ' 0 13 = σ 0 13) (f84 : ∀ j, j = 11 ∨ j = 13 ∨ j = 18 ∨ j = 20 ∨ j = 52 ∨ j = 56 ∨ j = 57 → σ' 84 j = σ 84 j) (hi : ∀ k, 115 ≤ k → ¬ uc K k → σ' k = σ k) (hW : WF (σ' 86)) (hH : HallIs σ' 13 (σ' 86)) (r2 : σ' 86 2 = σ 86 2) (r3 : σ' 86 3 = σ 86 3) (rh : ∀ i, 105 ≤ i → σ' 86 i = σ 86 i) (hU : InvU K σ') : InvX K σ' := by
  obtain ⟨hK, ⟨hW0, hH0⟩, hL, hU0, hD, hT, hI, hC⟩ := h
  have tx : ∀ q k, TxtAt K q → 115 ≤ q → q ≤ k → k ≤ q + 6 → σ' k = σ k := fun q k a h1 h2 h3 => hi k (by omega) (uc_tx hK a h2 h3)
  have F : ∀ k, k = 1 ∨ k = 2 ∨ k = 47 ∨ (51 ≤ k ∧ k ≤ 55) ∨ k = 61 ∨ k = 62 ∨ k = 87 ∨ k = 88 ∨ k = 93 ∨ (99 ≤ k ∧ k ≤ 101) ∨ k = 112 ∨ k = 114 → σ' k = σ k := fr
  refine ⟨hK, ⟨hW, hH⟩, ?_, hU, ?_, ?_, ?_, ?_⟩
  · exact InvL_f hK hL hW0.1.2.2.1.2 (by rw [F 1 (by omega)]) (by rw [F 1 (by omega)]) (by rw [F 2 (by omega)]) r2 r3 rh tx
  · exact InvD_f hD (by rw [F 47 (by omega)]) (by rw [F 47 (by omega)]) (F 51 (by omega)) (F 52 (by omega)) (F 54 (by omega)) (F 55 (by omega)) (F 114 (by omega)) (f84 56 (by omega)) (f84 57 (by omega))
  · exact InvT_f hT (by rw [F 61 (by omega)]) (F 62 (by omega)) f63 (F 93 (by omega)) f0.1 f0.2 (f84 13 (by omega)) (f84 18 (by omega)) (f84 11 (by omega)) (f84 52 (by omega)) (f84 20 (by omega))
  · exact InvI_f hK hI (F 87 (by omega)) (F 88 (by omega)) (fun k m hk e => by
      have h115 : 115 ≤ m := (hK.2.2.2.2.2.2.2.1 k m hk e).1.2.2.2.2.2.2.2.1
      obtain ⟨a, b⟩ := uc_im hK hk e
      exact ⟨hi _ (by omega) a, fun k k1 k2 => hi k (by omega) (b k k1 k2)⟩) tx
  · exact InvC_f hC (F 99 (by omega)) (F 100 (by omega)) (F 101 (by omega)) (F 112 (by omega))
theorem bdIK_some {α : Type} {a : Int} {K : Kt} {s : Sg} {k : Int → Kt → Sg → Option α} : bdIK (some (a, K, s)) k = k a K s := rfl
theorem bdVK_some {α : Type} {K : Kt} {s : Sg} {k : Kt → Sg → Option α} : bdVK (some (K, s)) k = k K s := rfl
theorem up2_id {σ : Sg} {k j : Nat} : up2 σ k j (σ k j) = σ := by
  funext a b
  unfold up2
  split
  · rename_i h; rw [h.1, h.2]
  · rfl
/-! ===== a book comes ===== -/
def bkOk (a b c d : Int) : Prop := (1 ≤ a ∧ a ≤ 9) ∧ (0 ≤ b ∧ b ≤ 63) ∧ (0 ≤ c ∧ c ≤ 63) ∧ (0 ≤ d ∧ d ≤ 999)
def bookR (ρ : Nat → Int) (l w g p : Int) : Nat → Int := upw (upw (upw (upw (upw ρ (71 + ρ 0).toNat l) (79 + ρ 0).toNat w) (87 + ρ 0).toNat g) (9 + ρ 0).toNat p) 0 (ρ 0 + 1)
theorem c_bookCanBe {a b c d : Int} {σ : Sg} : vX9_bookCanBe a b c d σ = some (bI (bkOk a b c d)) := by
  unfold vX9_bookCanBe bkOk
  simp only [c_within, Option.bind_some]
  by_cases h1 : 1 ≤ a ∧ a ≤ 9
  · rw [if_neg (by rw [bI_t h1]; omega)]
    by_cases h2 : 0 ≤ b ∧ b ≤ 63
    · rw [if_neg (by rw [bI_t h2]; omega)]
      by_cases h3 : 0 ≤ c ∧ c ≤ 63
      · rw [if_neg (by rw [bI_t h3]; omega)]
        by_cases h4 : 0 ≤ d ∧ d ≤ 999
        · rw [if_neg (by rw [bI_t h4]; omega), bI_t ⟨h1, h2, h3, h4⟩]
        · rw [if_pos (bI_f h4), bI_f (fun h => h4 h.2.2.2)]
      · rw [if_pos (bI_f h3), bI_f (fun h => h3 h.2.2.1)]
    · rw [if_pos (bI_f h2), bI_f (fun h => h2 h.2.1)]
  · rw [if_pos (bI_f h1), bI_f (fun h => h1 h.1)]
theorem m_come_no {a b c d : Int} {σ : Sg} (h : ¬ bkOk a b c d) : vX10_come a b c d σ = some (-1, σ) := by
  unfold vX10_come
  simp only [m_in, Option.bind_some]
  by_cases h1 : 1 ≤ a ∧ a ≤ 9
  · rw [if_neg (by rw [bI_t h1]; omega)]
    by_cases h2 : 0 ≤ b ∧ b ≤ 63
    · rw [if_neg (by rw [bI_t h2]; omega)]
      by_cases h3 : 0 ≤ c ∧ c ≤ 63
      · rw [if_neg (by rw [bI_t h3]; omega)]
        by_cases h4 : 0 ≤ d ∧ d ≤ 999
        · exact absurd ⟨h1, h2, h3, h4⟩ h
        · rw [if_pos (bI_f h4)]
      · rw [if_pos (bI_f h3)]
    · rw [if_pos (bI_f h2)]
  · rw [if_pos (bI_f h1)]
theorem m_come_in {a b c d : Int} {σ : Sg} (h : bkOk a b c d) : vX10_come a b c d σ = nm (σ 86 0) (fun z9 => if z9 = 8 then (some ((-5), σ)) else (ck (in32 (71 + z9)) (ck (0 ≤ (71 + z9) ∧ (71 + z9) < 5505) (nm (up2 σ 86 (71 + z9).toNat a) (fun σ11 => ck (in32 (79 + z9)) (ck (0 ≤ (79 + z9) ∧ (79 + z9) < 5505) (nm (up2 σ11 86 (79 + z9).toNat b) (fun σ12 => ck (in32 (87 + z9)) (ck (0 ≤ (87 + z9) ∧ (87 + z9) < 5505) (nm (up2 σ12 86 (87 + z9).toNat c) (fun σ13 => ck (in32 (9 + z9)) (ck (0 ≤ (9 + z9) ∧ (9 + z9) < 5505) (nm (up2 σ13 86 (9 + z9).toNat d) (fun σ14 => ck (in32 ((σ14 86 0) + 1)) (nm (up2 σ14 86 0 ((σ14 86 0) + 1)) (fun σ15 => some (z9, σ15))))))))))))))))) := by
  obtain ⟨h1, h2, h3, h4⟩ := h
  unfold vX10_come
  simp only [m_in, Option.bind_some]
  rw [if_neg (by rw [bI_t h1]; omega), if_neg (by rw [bI_t h2]; omega), if_neg (by rw [bI_t h3]; omega), if_neg (by rw [bI_t h4]; omega)]
theorem m_come_full {a b c d : Int} {σ : Sg} (h : bkOk a b c d) (h8 : σ 86 0 = 8) : vX10_come a b c d σ = some (-5, σ) := by
  rw [m_come_in h]
  simp only [nm]
  rw [if_pos h8]
theorem m_come_ok {a b c d : Int} {σ : Sg} (h : bkOk a b c d) (h8 : 0 ≤ σ 86 0 ∧ σ 86 0 < 8) : ∃ σ', vX10_come a b c d σ = some (σ 86 0, σ') ∧ (∀ k, k ≠ 86 → σ' k = σ k) ∧ σ' 86 = bookR (σ 86) a b c d := by
  rw [m_come_in h]
  simp only [nm]
  rw [if_neg (by omega), ck_p (by omega), ck_p (by omega), ck_p (by omega), ck_p (by omega), ck_p (by omega), ck_p (by omega), ck_p (by omega), ck_p (by omega)]
  have e : up2 (up2 (up2 (up2 σ 86 (71 + σ 86 0).toNat a) 86 (79 + σ 86 0).toNat b) 86 (87 + σ 86 0).toNat c) 86 (9 + σ 86 0).toNat d 86 0 = σ 86 0 := by
    simp only [up2_c]
    rw [upw_n (by omega), upw_n (by omega), upw_n (by omega), upw_n (by omega)]
  rw [e, ck_p (by omega)]
  refine ⟨_, rfl, fun k hk => ?_, ?_⟩
  · rw [up2_o hk, up2_o hk, up2_o hk, up2_o hk, up2_o hk]
  · simp only [up2_c]
    rfl
theorem c_addBook {K : Kt} {o : Nat} {σ : Sg} {ρ : Nat → Int} {a b c d : Int} (hH : HallIs σ o ρ) (h8 : 0 ≤ ρ 0 ∧ ρ 0 < 8) : T (vX1_addBook K o a b c d σ) (fun p => Sme (fun k => o ≤ k ∧ k ≤ o + 13) σ p.2 ∧ p.1 = ρ 0 ∧ HallIs p.2 o (bookR ρ a b c d)) := by
  have g0 := hH.1.1
  unfold vX1_addBook
  refine T_t (by rw [g0]; omega) ?_
  rw [g0]
  with_reducible refine T_ck (by omega) ?_
  refine T_nm ?_
  have x1 : up2 σ (o + 1) (ρ 0).toNat a o 1 = ρ 0 := by rw [up2_o (by omega)]; exact g0
  rw [x1]
  with_reducible refine T_ck (by omega) ?_
  refine T_nm ?_
  have x2 : up2 (up2 σ (o + 1) (ρ 0).toNat a) (o + 2) (ρ 0).toNat b o 1 = ρ 0 := by rw [up2_o (by omega)]; exact x1
  rw [x2]
  with_reducible refine T_ck (by omega) ?_
  refine T_nm ?_
  have x3 : up2 (up2 (up2 σ (o + 1) (ρ 0).toNat a) (o + 2) (ρ 0).toNat b) (o + 3) (ρ 0).toNat c o 1 = ρ 0 := by rw [up2_o (by omega)]; exact x2
  rw [x3]
  with_reducible refine T_ck (by omega) ?_
  refine T_nm ?_
  have x4 : up2 (up2 (up2 (up2 σ (o + 1) (ρ 0).toNat a) (o + 2) (ρ 0).toNat b) (o + 3) (ρ 0).toNat c) (o + 4) (ρ 0).toNat d o 1 = ρ 0 := by rw [up2_o (by omega)]; exact x3
  rw [x4]
  with_reducible refine T_ck (by omega) ?_
  refine T_nm ?_
  have x5 : up2 (up2 (up2 (up2 (up2 σ (o + 1) (ρ 0).toNat a) (o + 2) (ρ 0).toNat b) (o + 3) (ρ 0).toNat c) (o + 4) (ρ 0).toNat d) o 1 (ρ 0 + 1) o 1 = ρ 0 + 1 := by rw [up2_c, upw_s]
  rw [x5]
  with_reducible refine T_ck (by omega) ?_
  refine T_some ⟨Sme_u (Sme_u (Sme_u (Sme_u (Sme_u Sme_r (by omega)) (by omega)) (by omega)) (by omega)) (by omega), by show ρ 0 + 1 - 1 = ρ 0; omega, ?_⟩
  exact HU_nb (HU_pur (HU_giv (HU_wan (HU_len hH h8) h8) h8) h8)
theorem bookR_k {ρ : Nat → Int} {a b c d : Int} (h8 : 0 ≤ ρ 0 ∧ ρ 0 < 8) : ∀ i, i ≠ 0 → (i < 9 ∨ (17 ≤ i ∧ i < 71) ∨ 95 ≤ i) → bookR ρ a b c d i = ρ i := by
  intro i h0 hi
  unfold bookR
  rw [upw_n h0, upw_n (by omega), upw_n (by omega), upw_n (by omega), upw_n (by omega)]
theorem WF_bookR {ρ : Nat → Int} {a b c d : Int} (hW : WF ρ) (h8 : ρ 0 < 8) (ok : bkOk a b c d) : WF (bookR ρ a b c d) := by
  obtain ⟨⟨h0, h1, h2, h3⟩, ⟨h4, h5, h6, h7, h8'⟩, hB, hR, hU, hI, hV⟩ := hW
  have k := bookR_k (ρ := ρ) (a := a) (b := b) (c := c) (d := d) ⟨h0.1, h8⟩
  have k0 : bookR ρ a b c d 0 = ρ 0 + 1 := upw_s
  unfold WF
  rw [k0, k 1 (by omega) (by omega), k 2 (by omega) (by omega), k 3 (by omega) (by omega), k 4 (by omega) (by omega), k 5 (by omega) (by omega), k 6 (by omega) (by omega), k 7 (by omega) (by omega), k 8 (by omega) (by omega)]
  refine ⟨⟨by omega, h1, h2, h3⟩, ⟨h4, h5, h6, h7, h8'⟩, fun x x0 x1 => ?_, fun s s0 s1 => ?_, fun s u s0 s1 u0 u1 => ?_, fun i i0 i1 => ?_, fun i j i0 i1 j0 j1 => ?_⟩
  · by_cases e : x = ρ 0
    · obtain ⟨o1, o2, o3, o4⟩ := ok
      unfold bookR
      rw [e, upw_n (i := (71 + ρ 0).toNat) (by omega), upw_n (i := (71 + ρ 0).toNat) (by omega), upw_n (i := (71 + ρ 0).toNat) (by omega), upw_n (i := (71 + ρ 0).toNat) (by omega), upw_s, upw_n (i := (79 + ρ 0).toNat) (by omega), upw_n (i := (79 + ρ 0).toNat) (by omega), upw_n (i := (79 + ρ 0).toNat) (by omega), upw_s, upw_n (i := (87 + ρ 0).toNat) (by omega), upw_n (i := (87 + ρ 0).toNat) (by omega), upw_s, upw_n (i := (9 + ρ 0).toNat) (by omega), upw_s]
      exact ⟨o1, o2, o3, o4⟩
    · have g := hB x x0 (by omega)
      unfold bookR
      simp (disch := omega) only [upw_n]
      exact g
  · rw [k (17 + s).toNat (by omega) (by omega), k (95 + s).toNat (by omega) (by omega), k (23 + s).toNat (by omega) (by omega), k (29 + s).toNat (by omega) (by omega), k (35 + s).toNat (by omega) (by omega), k (41 + s).toNat (by omega) (by omega)]
    have g := hR s s0 s1
    exact ⟨g.1, g.2.1, g.2.2.1, by omega, g.2.2.2.2⟩
  · rw [k (29 + s).toNat (by omega) (by omega), k (29 + u).toNat (by omega) (by omega)]; exact hU s u s0 s1 u0 u1
  · rw [k (47 + 2 * i).toNat (by omega) (by omega), k (47 + 2 * i + 1).toNat (by omega) (by omega)]
    have g := hI i i0 i1
    exact ⟨by omega, g.2⟩
  · rw [k (47 + 2 * i).toNat (by omega) (by omega), k (47 + 2 * i + 1).toNat (by omega) (by omega), k (47 + 2 * j).toNat (by omega) (by omega), k (47 + 2 * j + 1).toNat (by omega) (by omega)]; exact hV i j i0 i1 j0 j1
theorem c_forget {K : Kt} {σ : Sg} {u : Nat} : ∃ σ', vX8_forget K u σ = some σ' ∧ Sme (fun k => k = u) σ σ' ∧ σ' u 2 = 0 ∧ σ' u 3 = 0 := by
  unfold vX8_forget
  refine ⟨_, rfl, Sme_u (Sme_u Sme_r rfl) rfl, ?_, ?_⟩
  · rw [up2_c, upw_n (by omega), up2_c, upw_s]
  · rw [up2_c, upw_s]
/-- a change of hall and row behind which nothing can be undone, told as done -/
theorem St2_chg {K : Kt} {σ σc : Sg} {n v z : Int} {ρ' : Nat → Int} {m : Sg → Option (Int × Sg)} (hI : Inv K σ n) (hv : 0 ≤ v) (hc : Sme (fun k => k = 27 ∨ (13 ≤ k ∧ k ≤ 26)) σ σc) (c2 : σc 27 2 = 0) (c3 : σc 27 3 = 0) (hH : HallIs σc 13 ρ') (hW : WF ρ') (r2 : ρ' 2 = σ 86 2) (r3 : ρ' 3 = σ 86 3) (rh : ∀ i, 105 ≤ i → ρ' i = σ 86 i)
    (hm : ∀ σ1, (∀ k, k ≠ 0 → k ≠ 83 → k ≠ 27 → ¬ (13 ≤ k ∧ k ≤ 26) → σ1 k = σ k) → T (m σ1) (fun q => q.1 = z ∧ (∀ k, k ≠ 84 → k ≠ 86 → q.2 k = σ1 k) ∧ (∀ j, j ≠ 0 → j ≠ 1 → j ≠ 8 → q.2 84 j = σ1 84 j) ∧ q.2 84 1 = 0 ∧ q.2 84 8 = 0 ∧ q.2 86 = ρ')) : T (m (anC v σc)) (fun q => q.1 = z ∧ Inv K q.2 (n + 1)) := by
  obtain ⟨a1, a2, a3, a4⟩ := anC_k (v := v) (σ := σc)
  have e0 : mn0 v = 0 := by unfold mn0; rw [if_neg (by omega)]
  have eb : ∀ ρ, bmp ρ v = ρ := by intro ρ; unfold bmp; rw [if_neg (by omega)]
  rw [e0] at a3
  rw [eb] at a4
  have fr : ∀ k, k ≠ 0 → k ≠ 83 → k ≠ 27 → ¬ (13 ≤ k ∧ k ≤ 26) → anC v σc k = σ k := fun k b1 b2 b3 b4 => by rw [a1 k b1 b2]; exact hc k (by omega)
  refine T_mono (hm _ fr) (fun q hq => ?_)
  obtain ⟨q1, q2, q3, q4, q5, q6⟩ := hq
  refine ⟨q1, ?_, ?_⟩
  · refine InvX_h hI.1 (fun k hk => ?_) ?_ ⟨?_, ?_⟩ (fun j hj => ?_) (fun k hk _ => ?_) (by rw [q6]; exact hW) ?_ (by rw [q6]; exact r2) (by rw [q6]; exact r3) (fun i hi => by rw [q6]; exact rh i hi) ?_
    · unfold kpt at hk; rw [q2 k (by omega) (by omega), fr k (by omega) (by omega) (by omega) (by omega)]
    · rw [q2 63 (by omega) (by omega), fr 63 (by omega) (by omega) (by omega) (by omega)]
    · rw [q2 0 (by omega) (by omega), a2 12 (by omega), hc 0 (by omega)]
    · rw [q2 0 (by omega) (by omega), a2 13 (by omega), hc 0 (by omega)]
    · rw [q3 j (by omega) (by omega) (by omega), fr 84 (by omega) (by omega) (by omega) (by omega)]
    · rw [q2 k (by omega) (by omega), fr k (by omega) (by omega) (by omega) (by omega)]
    · rw [q6]
      exact HallIs_s hH (fun k k1 k2 => by rw [q2 k (by omega) (by omega), a1 k (by omega) (by omega)])
    · refine InvU_0 ?_ ?_ q5
      · rw [q2 27 (by omega) (by omega), a1 27 (by omega) (by omega)]; exact c2
      · rw [q2 27 (by omega) (by omega), a1 27 (by omega) (by omega)]; exact c3
  · refine InvS_m (n := n) ⟨?_, fun j hj => ?_⟩ (by omega)
    · rw [q2 0 (by omega) (by omega), a3, q4]
    · rw [q2 83 (by omega) (by omega), a4, hc 83 (by omega), q2 85 (by omega) (by omega), a1 85 (by omega) (by omega), hc 85 (by omega)]
      exact hI.2.2 j hj
theorem s_book {K : Kt} {σ : Sg} {n a b c d : Int} (hI : Inv K σ n) (hn : n ≤ 600) : St2 K n (vX9_book K a b c d σ) (vX10_book a b c d) := by
  obtain ⟨⟨hK, ⟨hW, hH⟩, hL, hU, hD, hT, hM, hC⟩, hS⟩ := id hI
  have g0 : σ 13 1 = σ 86 0 := hH.1.1
  have h08 := hW.1.1
  by_cases ok : bkOk a b c d
  · by_cases h8 : σ 86 0 < 8
    · obtain ⟨σ6, e6, s6, z2, z3⟩ := c_forget (K := K) (σ := σ) (u := 27)
      have hH6 : HallIs σ6 13 (σ 86) := HallIs_s hH (fun k k1 k2 => s6 k (by omega))
      unfold St2 vX9_book
      rw [c_bookCanBe, Option.bind_some]
      refine T_f (by rw [bI_t ok]; omega) (T_t (by rw [g0]; exact h8) ?_)
      rw [e6, Option.bind_some]
      refine T_bd2 (c_addBook (a := a) (b := b) (c := c) (d := d) hH6 ⟨h08.1, h8⟩) (fun r σ8 h => ?_)
      dsimp only at h
      obtain ⟨s8, hr, hH8⟩ := h
      rw [c_grant (by omega)]
      have kk := bookR_k (ρ := σ 86) (a := a) (b := b) (c := c) (d := d) ⟨h08.1, h8⟩
      refine T_some (St2_chg (m := vX10_book a b c d) hI (v := r) (z := r) (by omega) (fun k hk => ?_) ?_ ?_ hH8 (WF_bookR hW h8 ok) (kk 2 (by omega) (by omega)) (kk 3 (by omega) (by omega)) (fun i hi => kk i (by omega) (by omega)) (fun σ1 fr => ?_))
      · rw [s8 k (by omega), s6 k (by omega)]
      · rw [s8 27 (by omega)]; exact z2
      · rw [s8 27 (by omega)]; exact z3
      · unfold vX10_book
        refine T_nm ?_
        have e86 : up2 σ1 84 0 0 86 = σ 86 := by rw [up2_o (by omega), fr 86 (by omega) (by omega) (by omega) (by omega)]
        obtain ⟨σ3, e3, f3, r3⟩ := m_come_ok (σ := up2 σ1 84 0 0) ok (by rw [e86]; exact ⟨h08.1, h8⟩)
        rw [e86] at r3
        have es := m_settled (σ := σ3) (v := σ 86 0) (by omega) (fun h => by omega)
        rw [if_neg (by omega)] at es
        obtain ⟨b1, b2, b3, b4⟩ := anM_k (v := σ 86 0) (σ := up2 σ3 84 8 0)
        have e0 : mn0 (σ 86 0) = 0 := by unfold mn0; rw [if_neg (by omega)]
        have eb : ∀ ρ, bmp ρ (σ 86 0) = ρ := by intro ρ; unfold bmp; rw [if_neg (by omega)]
        rw [e3, e86, bd2_some, es, bd2_some]
        refine T_some ⟨hr.symm, fun k k1 k2 => ?_, fun j j0 j1 j8 => ?_, ?_, ?_, ?_⟩
        · show anM _ _ k = _
          by_cases h85 : k = 85
          · rw [h85, b4, eb, up2_o (by omega), f3 85 (by omega), up2_o (by omega)]
          · rw [b1 k k1 h85, up2_o k1, f3 k k2, up2_o k1]
        · show anM _ _ 84 j = _
          rw [b2 j j1, up2_c, upw_n j8, f3 84 (by omega), up2_c, upw_n j0]
        · show anM _ _ 84 1 = _
          rw [b3, e0]
        · show anM _ _ 84 8 = _
          rw [b2 8 (by omega), up2_c, upw_s]
        · show anM _ _ 86 = _
          rw [b1 86 (by omega) (by omega), up2_o (by omega), r3]
    · refine St2_ref hI hn (v := -5) (by omega) ?_ (fun σ1 fr => ?_)
      · unfold vX9_book
        rw [c_bookCanBe, Option.bind_some, if_neg (by rw [bI_t ok]; omega), if_neg (by rw [g0]; exact h8), c_refuse (by omega) (InvR_v hS hn (by omega) (by omega)).1]
        rfl
      · unfold vX10_book
        simp only [nm]
        have e86 : up2 σ1 84 0 0 86 = σ 86 := by rw [up2_o (by omega), fr 86 (by omega) (by omega)]
        rw [m_come_full ok (by rw [e86]; omega)]
        rw [bd2_some, m_settled (by omega) (fun _ => by rw [up2_o (by omega), fr 85 (by omega) (by omega)]; exact (InvR_v hS hn (by omega) (by omega)).2), if_pos (by omega), up2_id]
        rfl
  · refine St2_ref hI hn (v := -1) (by omega) ?_ (fun σ1 fr => ?_)
    · unfold vX9_book
      rw [c_bookCanBe, Option.bind_some, if_pos (bI_f ok), c_refuse (by omega) (InvR_v hS hn (by omega) (by omega)).1]
      rfl
    · unfold vX10_book
      simp only [nm]
      rw [m_come_no ok]
      rw [bd2_some, m_settled (by omega) (fun _ => by rw [up2_o (by omega), fr 85 (by omega) (by omega)]; exact (InvR_v hS hn (by omega) (by omega)).2), if_pos (by omega), up2_id]
      rfl
