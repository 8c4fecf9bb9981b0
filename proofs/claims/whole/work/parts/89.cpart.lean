/-! ===== the class reads a part ===== -/
def CFr (σc σ : Sg) : Prop := (∀ k, k ≠ 63 → k ≠ 64 → k ≠ 70 → σ k = σc k) ∧ (∀ j, j ≠ 2 → j ≠ 6 → j ≠ 7 → σ 63 j = σc 63 j) ∧ ∀ j, j ≠ 7 → σ 64 j = σc 64 j
def CZ (tk : Nat → Int) (pl : Nat → Nat) (N : Nat) (ord : Int) (σc : Sg) : Prop := N ≤ 400 ∧ (∀ k, k ≤ N → σc 71 k = tk k ∧ σc 72 k = (pl k : Int)) ∧ (ord = 0 ↔ σc 63 5 ≠ 0) ∧ (∀ k, k ≤ N → 0 ≤ tk k ∧ tk k ≤ 2001) ∧ tk N = 256
def CSt (N : Nat) (σc σ : Sg) (i l : Nat) (cd : List Int) : Prop := CFr σc σ ∧ (i ≤ N ∧ σ 63 6 = (i : Int) ∧ σ 63 7 = (l : Int) ∧ σ 63 2 = -1) ∧ σ 64 7 = (cd.length : Int) ∧ ∀ j y, cd[j]? = some y → σ 70 j = y
def CX (pl : Nat → Nat) (σc σ : Sg) (k : Nat) : Prop := CFr σc σ ∧ σ 63 2 = (pl k : Int) ∧ 0 ≤ σ 64 7
theorem CFr_u {σc σ : Sg} {k j : Nat} {z : Int} (h : CFr σc σ) (hk : (k = 63 ∧ (j = 2 ∨ j = 6 ∨ j = 7)) ∨ (k = 64 ∧ j = 7) ∨ k = 70) : CFr σc (up2 σ k j z) := by
  obtain ⟨a, b, c⟩ := h
  refine ⟨fun x x1 x2 x3 => by rw [up2_o (by omega)]; exact a x x1 x2 x3, fun x x1 x2 x3 => ?_, fun x x1 => ?_⟩
  · by_cases q : k = 63
    · subst q; rw [up2_c, upw_n (by omega)]; exact b x x1 x2 x3
    · rw [up2_o (by omega)]; exact b x x1 x2 x3
  · by_cases q : k = 64
    · subst q; rw [up2_c, upw_n (by omega)]; exact c x x1
    · rw [up2_o (by omega)]; exact c x x1
theorem cs_fails {tk : Nat → Int} {pl : Nat → Nat} {N i l : Nat} {ord : Int} {σc σ : Sg} {cd : List Int} {K : Kt} (hz : CZ tk pl N ord σc) (h : CSt N σc σ i l cd) : ∃ σ', vX4_fails K σ = some (0, σ') ∧ CX pl σc σ' i := by
  obtain ⟨h1, ⟨h2, h3, h4, h5⟩, h6, h7⟩ := h
  have hN := hz.1
  refine ⟨up2 σ 63 2 (pl i : Int), ?_, CFr_u h1 (by omega), by rw [up2_c, upw_s], by rw [up2_o (by omega)]; omega⟩
  unfold vX4_fails
  rw [h3, ck_p (by omega), Int.toNat_natCast, h1.1 72 (by omega) (by omega) (by omega), (hz.2.1 i h2).2]
  rfl
theorem cs_tok {tk : Nat → Int} {pl : Nat → Nat} {N i l : Nat} {ord : Int} {σc σ : Sg} {cd : List Int} (hz : CZ tk pl N ord σc) (h : CSt N σc σ i l cd) : σ 63 6 = (i : Int) ∧ σ 71 i = tk i ∧ (0 ≤ tk i ∧ tk i ≤ 2001) ∧ i ≤ 400 := by
  obtain ⟨h1, ⟨h2, h3, h4, h5⟩, h6, h7⟩ := h
  exact ⟨h3, by rw [h1.1 71 (by omega) (by omega) (by omega)]; exact (hz.2.1 i h2).1, hz.2.2.2.1 i h2, by have := hz.1; omega⟩
theorem cs_inc {N i l : Nat} {σc σ : Sg} {cd : List Int} (h : CSt N σc σ i l cd) (hi : i < N) : CSt N σc (up2 σ 63 6 ((i : Int) + 1)) (i + 1) l cd := by
  obtain ⟨h1, ⟨h2, h3, h4, h5⟩, h6, h7⟩ := h
  refine ⟨CFr_u h1 (by omega), ⟨by omega, by rw [up2_c, upw_s]; omega, by rw [up2_c, upw_n (by omega)]; exact h4, by rw [up2_c, upw_n (by omega)]; exact h5⟩, by rw [up2_o (by omega)]; exact h6, fun j y hy => by rw [up2_o (by omega)]; exact h7 j y hy⟩
theorem cs_par {N i l : Nat} {σc σ : Sg} {cd : List Int} (h : CSt N σc σ i l cd) : CSt N σc (up2 σ 63 7 ((l : Int) + 1)) i (l + 1) cd := by
  obtain ⟨h1, ⟨h2, h3, h4, h5⟩, h6, h7⟩ := h
  refine ⟨CFr_u h1 (by omega), ⟨h2, by rw [up2_c, upw_n (by omega)]; exact h3, by rw [up2_c, upw_s]; omega, by rw [up2_c, upw_n (by omega)]; exact h5⟩, by rw [up2_o (by omega)]; exact h6, fun j y hy => by rw [up2_o (by omega)]; exact h7 j y hy⟩
theorem cs_add {N i l : Nat} {σc σ : Sg} {cd : List Int} {K : Kt} {y : Int} (h : CSt N σc σ i l cd) (hl : cd.length < 400) : T (vX7_add K y σ) (fun σ' => CSt N σc σ' i l (cd ++ [y])) := by
  obtain ⟨h1, ⟨h2, h3, h4, h5⟩, h6, h7⟩ := h
  unfold vX7_add
  refine T_t (by omega) (T_ck (by omega) (T_nm ?_))
  rw [h6, Int.toNat_natCast]
  have e : up2 σ 70 cd.length y 64 7 = (cd.length : Int) := by rw [up2_o (by omega)]; exact h6
  refine T_ck (by omega) (T_nm (T_some ?_))
  rw [e]
  refine ⟨CFr_u (CFr_u h1 (by omega)) (by omega), ⟨h2, ?_, ?_, ?_⟩, ?_, fun j x hx => ?_⟩
  · rw [up2_o (by omega), up2_o (by omega)]; exact h3
  · rw [up2_o (by omega), up2_o (by omega)]; exact h4
  · rw [up2_o (by omega), up2_o (by omega)]; exact h5
  · rw [up2_c, upw_s, List.length_append, List.length_singleton]; omega
  · rw [up2_o (by omega), up2_c]
    rcases Nat.lt_or_ge j cd.length with q | q
    · rw [List.getElem?_append_left q] at hx
      rw [upw_n (by omega)]; exact h7 j x hx
    · rw [List.getElem?_append_right q] at hx
      have e0 : j = cd.length := by
        have := (List.getElem?_eq_some_iff.mp hx).1
        simp at this
        omega
      subst e0
      rw [Nat.sub_self] at hx
      simp at hx
      rw [upw_s, hx]
def nwd (ord : Int) : Nat := if ord = 0 then 9 else 24
/-- what reading of both comes to -/
def PO (tk : Nat → Int) (pl st : Nat → Nat) (N : Nat) (ord : Int) (σ0 σc : Sg) (test : Int) (S : Int → Prop) (tE lv : Int) (Cx : Pl → Prop) (Ok : ((Nat → Int) → Int) → Prop) (fin : Int → Prop) (i l d : Nat) (cd : List Int) (p : Int × Sg) : Prop :=
  (p.1 = 1 ∧ ∃ j l' cs E, CSt N σc p.2 j l' (cd ++ cs) ∧ (l < l' ∧ l' ≤ 50) ∧ cs.length + i ≤ j ∧ SegC (nwd ord) cs (l' - l) E ∧ Ok E ∧ ROk tk pl st N ord σ0 test S tE lv Cx i l d j l' E ∧ fin (tk j)) ∨ (p.1 = 0 ∧ ∃ k, CX pl σc p.2 k ∧ RXx tk pl st N σ0 test S Cx i l d k)
theorem PO_m {tk : Nat → Int} {pl st : Nat → Nat} {N : Nat} {ord : Int} {σ0 σc : Sg} {test : Int} {S S' : Int → Prop} {tE lv lv' : Int} {Cx Cx' : Pl → Prop} {Ok Ok' : ((Nat → Int) → Int) → Prop} {fin fin' : Int → Prop} {i l d : Nat} {cd : List Int} {p : Int × Sg} (h : PO tk pl st N ord σ0 σc test S tE lv Cx Ok fin i l d cd p) (h1 : lv' ≤ lv) (h2 : ∀ π, Cx' π → Cx π) (h3 : ∀ t, S' t → S t) (h4 : ∀ E, Ok E → Ok' E) (h5 : ∀ t, fin t → fin' t) : PO tk pl st N ord σ0 σc test S' tE lv' Cx' Ok' fin' i l d cd p := by
  rcases h with ⟨a, j, l', cs, E, b1, b2, b3, b4, b5, b6, b7⟩ | ⟨a, k, b1, b2⟩
  · exact Or.inl ⟨a, j, l', cs, E, b1, b2, b3, b4, h4 E b5, ROk_m b6 h1 h2 h3, h5 _ b7⟩
  · exact Or.inr ⟨a, k, b1, RXx_m b2 h2 h3⟩
theorem LF_cd {ord : Int} {tk : Nat → Int} {i j : Nat} {cd : Int} (h : LF ord tk i j cd) : 0 ≤ cd ∧ (cd < 2000 → cd ≤ 1000) ∧ cd < 2000 + (nwd ord : Int) := by
  unfold nwd
  rcases h with ⟨a1, a2, a3⟩ | ⟨a1, a2, a3, a4⟩
  · rw [← a3]
    unfold lc1 at *
    by_cases z1 : 1000 ≤ tk i ∧ tk i ≤ 2000
    · rw [if_pos z1] at *
      split <;> omega
    · rw [if_neg z1] at *
      by_cases z2 : ord = 0
      · rw [if_pos z2] at *
        by_cases z3 : 308 ≤ tk i ∧ tk i ≤ 316
        · rw [if_pos z3, if_pos z2] at *; omega
        · rw [if_neg z3] at a2; omega
      · rw [if_neg z2] at *
        rw [if_neg z2]
        revert a2
        repeat' split
        all_goals omega
  · rw [if_neg a2.1, a4]
    rcases a2.2 with e | e | e
    · have t1 : tw (tk i) = 2016 := by rw [e]; decide
      have t2 : twm (tk i) = 7 := by rw [e]; decide
      omega
    · have t1 : tw (tk i) = 2010 := by rw [e]; decide
      have t2 : twm (tk i) = 5 := by rw [e]; decide
      omega
    · have t1 : tw (tk i) = 2004 := by rw [e]; decide
      have t2 : twm (tk i) = 5 := by rw [e]; decide
      omega
