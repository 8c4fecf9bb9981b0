/-! ===== clauses read by both ===== -/
abbrev Xp : Type := (Nat → Int) → Int
abbrev Ru : Type := Int × Option Xp × Option Xp × Option Xp × Int
def ClE (nW : Nat) (cd : List Int) (s : Int) : Option Xp → Prop
  | none => s = -1
  | some E => ∃ (s' : Nat) (cs : List Int) (l : Nat), s = (s' : Int) ∧ SegAt cd s' cs ∧ SegC nW cs l E ∧ l ≤ 50
def MlE (ord : Int) (c : Cd) (a b : Int) : Option Xp → Prop
  | none => a = b
  | some E => ∃ lo hi l : Nat, a = (lo : Int) ∧ b = (hi : Int) ∧ SegM ord c.1 c.2.1 lo hi l E ∧ l ≤ 50 ∧ hi ≤ c.2.2
theorem ClE_a {nW : Nat} {cd x : List Int} {s : Int} : ∀ {e : Option Xp}, ClE nW cd s e → ClE nW (cd ++ x) s e
  | none, h => h
  | some _, ⟨s', cs, l, a, b, c⟩ => ⟨s', cs, l, a, SegAt_a b, c⟩
theorem MlE_c {ord : Int} {c c' : Cd} {a b : Int} (h1 : c.2.2 ≤ c'.2.2) (h2 : ∀ k, k < c.2.2 → c'.1 k = c.1 k ∧ c'.2.1 k = c.2.1 k) : ∀ {e : Option Xp}, MlE ord c a b e → MlE ord c' a b e
  | none, h => h
  | some _, ⟨lo, hi, l, x1, x2, x3, x4, x5⟩ => ⟨lo, hi, l, x1, x2, SegM_c x3 (fun k _ k2 => h2 k (by omega)), x4, by omega⟩
def CGr (σc σ : Sg) : Prop := (∀ k, k < 63 ∨ 70 < k → σ k = σc k) ∧ ∀ j, j ≠ 2 → j ≠ 6 → j ≠ 7 → σ 63 j = σc 63 j
def CXG (pl : Nat → Nat) (σc σ : Sg) (k : Nat) : Prop := CGr σc σ ∧ σ 63 2 = (pl k : Int)
def MGr (σc σ : Sg) : Prop := (∀ k, k ≠ 84 → (k < 94 ∨ 98 < k) → k ≠ 113 → σ k = σc k) ∧ ∀ j, (j < 14 ∨ (19 < j ∧ j ≠ 21 ∧ j ≠ 23 ∧ j ≠ 26 ∧ j ≠ 29 ∧ j ≠ 30)) → σ 84 j = σc 84 j
def BadM (pl : Nat → Nat) (σc σ : Sg) (k : Nat) : Prop := MGr σc σ ∧ σ 84 19 = 1 ∧ σ 84 18 = (pl k : Int)
theorem CGr_t {σc σ σ' : Sg} (h : CGr σc σ) (h' : CGr σ σ') : CGr σc σ' := ⟨fun k hk => (h'.1 k hk).trans (h.1 k hk), fun j a b c => (h'.2 j a b c).trans (h.2 j a b c)⟩
theorem CGr_f {σ σ' : Sg} {a n : Nat} {s : Int} (ha : 64 ≤ a ∧ a ≤ 69) (h : CFr (up2 σ a n s) σ') : CGr σ σ' := ⟨fun k hk => by rw [h.1 k (by omega) (by omega) (by omega), up2_o (by omega)], fun j j1 j2 j3 => by rw [h.2.1 j j1 j2 j3, up2_o (by omega)]⟩
theorem CGr_f0 {σ σ' : Sg} (h : CFr σ σ') : CGr σ σ' := ⟨fun k hk => h.1 k (by omega) (by omega) (by omega), h.2.1⟩
theorem CGr_u {σc σ : Sg} {a n : Nat} {s : Int} (h : CGr σc σ) (ha : (64 ≤ a ∧ a ≤ 70) ∨ (a = 63 ∧ (n = 2 ∨ n = 6 ∨ n = 7))) : CGr σc (up2 σ a n s) := ⟨fun k hk => by rw [up2_o (by omega)]; exact h.1 k hk, fun j j1 j2 j3 => by
  by_cases q : a = 63
  · subst q; rw [up2_c, upw_n (by omega)]; exact h.2 j j1 j2 j3
  · rw [up2_o (by omega)]; exact h.2 j j1 j2 j3⟩
theorem MGr_t {σc σ σ' : Sg} (h : MGr σc σ) (h' : MGr σ σ') : MGr σc σ' := ⟨fun k a b c => (h'.1 k a b c).trans (h.1 k a b c), fun j a => (h'.2 j a).trans (h.2 j a)⟩
theorem MGr_r {σ : Sg} : MGr σ σ := ⟨fun _ _ _ _ => rfl, fun _ _ => rfl⟩
theorem CGr_r {σ : Sg} : CGr σ σ := ⟨fun _ _ => rfl, fun _ _ _ _ => rfl⟩
theorem MGr_p {σc σ : Sg} (h : PF σc σ) : MGr σc σ := ⟨fun k a b c => h.1 k a (by omega) (by omega) (by omega) (by omega), fun j a => h.2 j (by omega)⟩
theorem MGr_u {σc σ : Sg} {k j : Nat} {z : Int} (h : MGr σc σ) (hk : (94 ≤ k ∧ k ≤ 98) ∨ k = 113 ∨ (k = 84 ∧ (j = 21 ∨ j = 23))) : MGr σc (up2 σ k j z) := ⟨fun x a b c => by rw [up2_o (by omega)]; exact h.1 x a b c, fun x a => by
  by_cases q : k = 84
  · subst q; rw [up2_c, upw_n (by omega)]; exact h.2 x a
  · rw [up2_o (by omega)]; exact h.2 x a⟩
theorem PZ_g {b : Nat → Int} {n : Nat} {ord : Int} {σc σ : Sg} (hz : PZ b n ord σc) (h : MGr σc σ) : PZ b n ord σ := ⟨by rw [h.2 13 (by omega)]; exact hz.1, fun q hq => by rw [h.1 93 (by omega) (by omega) (by omega)]; exact hz.2.1 q hq, by rw [h.2 20 (by omega)]; exact hz.2.2.1, InvC_f hz.2.2.2 (h.1 99 (by omega) (by omega) (by omega)) (h.1 100 (by omega) (by omega) (by omega)) (h.1 101 (by omega) (by omega) (by omega)) (h.1 112 (by omega) (by omega) (by omega))⟩
theorem CZ_g {tk : Nat → Int} {pl : Nat → Nat} {N : Nat} {ord : Int} {σc σ : Sg} (cz : CZ tk pl N ord σc) (h : CGr σc σ) : CZ tk pl N ord σ := CZ_r cz (h.1 71 (by omega)) (h.1 72 (by omega)) (h.2 5 (by omega) (by omega) (by omega))
theorem BadM_u {pl : Nat → Nat} {σc σ : Sg} {k a j : Nat} {z : Int} (h : BadM pl σc σ k) (ha : a = 94 ∨ a = 113) : BadM pl σc (up2 σ a j z) k := ⟨MGr_u h.1 (by omega), by rw [up2_o (by omega)]; exact h.2.1, by rw [up2_o (by omega)]; exact h.2.2⟩
theorem BadM_p {pl : Nat → Nat} {σc σ σ' : Sg} {k l d : Nat} {c : Cd} {P : Pl} (h : MGr σc σ) (h' : PX pl σ σ' k l d c P) : BadM pl σc σ' k := ⟨MGr_t h (MGr_p h'.1), h'.2.1.1.1, h'.2.2⟩
theorem BadM_v {pl : Nat → Nat} {σc σ σ' : Sg} {k : Nat} (h : MGr σc σ) (h' : PF σ σ' ∧ σ' 84 19 = 1 ∧ σ' 84 18 = (pl k : Int)) : BadM pl σc σ' k := ⟨MGr_t h (MGr_p h'.1), h'.2.1, h'.2.2⟩
theorem CXG_f {pl : Nat → Nat} {σc σ σ' : Sg} {a n k : Nat} {s : Int} (h : CGr σc σ) (ha : 64 ≤ a ∧ a ≤ 69) (hx : CX pl (up2 σ a n s) σ' k) : CXG pl σc σ' k := ⟨CGr_t h (CGr_f ha hx.1), hx.2.1⟩
theorem CXG_0 {pl : Nat → Nat} {σc σ σ' : Sg} {k : Nat} (h : CGr σc σ) (hx : CX pl σ σ' k) : CXG pl σc σ' k := ⟨CGr_t h (CGr_f0 hx.1), hx.2.1⟩
/-- one clause in the class's text -/
def CRu (nW : Nat) (σ : Sg) (cd : List Int) (q : Nat) (x : Ru) : Prop := σ 65 q = x.1 ∧ ClE nW cd (σ 66 q) x.2.1 ∧ ClE nW cd (σ 67 q) x.2.2.1 ∧ ClE nW cd (σ 68 q) x.2.2.2.1 ∧ σ 69 q = x.2.2.2.2
def CL (nW N : Nat) (σc σ : Sg) (i l : Nat) (cd : List Int) (L : List Ru) : Prop := CSt N σ σ i l cd ∧ cd.length ≤ i ∧ CGr σc σ ∧ σ 64 6 = (L.length : Int) ∧ ∀ q x, L[q]? = some x → CRu nW σ cd q x
def ML (MR : Sg → Cd → Nat → Ru → Prop) (tk : Nat → Int) (pl st : Nat → Nat) (N : Nat) (σc σ : Sg) (i l : Nat) (c : Cd) (L : List Ru) : Prop := PSv tk pl st N σ σ i l c ∧ c.2.2 ≤ i ∧ MGr σc σ ∧ σ 84 21 = (L.length : Int) ∧ ∀ q x, L[q]? = some x → MR σ c q x
theorem app_get {L : List Ru} {x y : Ru} {q : Nat} (h : (L ++ [x])[q]? = some y) : L[q]? = some y ∨ (q = L.length ∧ y = x) := by
  rcases Nat.lt_or_ge q L.length with z | z
  · rw [List.getElem?_append_left z] at h; exact Or.inl h
  · rw [List.getElem?_append_right z] at h
    have : q - L.length = 0 := by
      have := (List.getElem?_eq_some_iff.mp h).1
      rw [List.length_singleton] at this
      omega
    rw [this] at h
    injection h with h
    exact Or.inr ⟨by omega, h.symm⟩
theorem get_lt {L : List Ru} {x : Ru} {q : Nat} (h : L[q]? = some x) : q < L.length := (List.getElem?_eq_some_iff.mp h).1
theorem app_last {L : List Ru} {x : Ru} : (L ++ [x])[L.length]? = some x := by
  rw [List.getElem?_append_right (Nat.le_refl _), Nat.sub_self]; rfl
theorem app_old {L : List Ru} {x y : Ru} {q : Nat} (h : L[q]? = some y) : (L ++ [x])[q]? = some y := by
  rw [List.getElem?_append_left (get_lt h)]; exact h
theorem CL_inc {nW N : Nat} {σc σ : Sg} {i l : Nat} {cd : List Int} {L : List Ru} (h : CL nW N σc σ i l cd L) (hi : i < N) : CL nW N σc (up2 σ 63 6 ((i : Int) + 1)) (i + 1) l cd L := by
  obtain ⟨h1, h2, h3, h4, h5⟩ := h
  refine ⟨CSt_r (cs_inc h1 hi), by omega, CGr_u h3 (by omega), by rw [up2_o (by omega)]; exact h4, fun q x hq => ?_⟩
  obtain ⟨a, b, c, d, e⟩ := h5 q x hq
  refine ⟨by rw [up2_o (by omega)]; exact a, by rw [up2_o (by omega)]; exact b, by rw [up2_o (by omega)]; exact c, by rw [up2_o (by omega)]; exact d, by rw [up2_o (by omega)]; exact e⟩
theorem c_open {nW N : Nat} {σc σ : Sg} {i l : Nat} {cd : List Int} {L : List Ru} {K : Kt} {kd : Int} (h : CL nW N σc σ i l cd L) (hn : L.length < 12) : T (vX7_open K kd σ) (fun σ' => CL nW N σc σ' i l cd (L ++ [(kd, none, none, none, 1)])) := by
  obtain ⟨⟨-, ⟨g1, g2, g3, g4⟩, g5, g6⟩, h2, h3, h4, h5⟩ := h
  unfold vX7_open
  refine T_t (by omega) (T_ck (by omega) (T_nm ?_))
  rw [h4, Int.toNat_natCast]
  have e1 : up2 σ 65 L.length kd 64 6 = (L.length : Int) := by rw [up2_o (by omega)]; exact h4
  rw [e1]
  refine T_ck (by omega) (T_nm ?_)
  rw [Int.toNat_natCast]
  have e2 : up2 (up2 σ 65 L.length kd) 66 L.length (-1) 64 6 = (L.length : Int) := by rw [up2_o (by omega)]; exact e1
  rw [e2]
  refine T_ck (by omega) (T_nm ?_)
  rw [Int.toNat_natCast]
  have e3 : up2 (up2 (up2 σ 65 L.length kd) 66 L.length (-1)) 67 L.length (-1) 64 6 = (L.length : Int) := by rw [up2_o (by omega)]; exact e2
  rw [e3]
  refine T_ck (by omega) (T_nm ?_)
  rw [Int.toNat_natCast]
  have e4 : up2 (up2 (up2 (up2 σ 65 L.length kd) 66 L.length (-1)) 67 L.length (-1)) 68 L.length (-1) 64 6 = (L.length : Int) := by rw [up2_o (by omega)]; exact e3
  rw [e4]
  refine T_ck (by omega) (T_nm ?_)
  rw [Int.toNat_natCast]
  have e5 : up2 (up2 (up2 (up2 (up2 σ 65 L.length kd) 66 L.length (-1)) 67 L.length (-1)) 68 L.length (-1)) 69 L.length 1 64 6 = (L.length : Int) := by rw [up2_o (by omega)]; exact e4
  rw [e5]
  refine T_ck (by omega) (T_nm (T_some ?_))
  have o : ∀ k, k < 64 ∨ 69 < k → up2 (up2 (up2 (up2 (up2 (up2 σ 65 L.length kd) 66 L.length (-1)) 67 L.length (-1)) 68 L.length (-1)) 69 L.length 1) 64 6 ((L.length : Int) + 1) k = σ k := fun k hk => by
    rw [up2_o (by omega), up2_o (by omega), up2_o (by omega), up2_o (by omega), up2_o (by omega), up2_o (by omega)]
  have o4 : ∀ j, j ≠ 6 → up2 (up2 (up2 (up2 (up2 (up2 σ 65 L.length kd) 66 L.length (-1)) 67 L.length (-1)) 68 L.length (-1)) 69 L.length 1) 64 6 ((L.length : Int) + 1) 64 j = σ 64 j := fun j hj => by
    rw [up2_c, upw_n hj, up2_o (by omega), up2_o (by omega), up2_o (by omega), up2_o (by omega), up2_o (by omega)]
  refine ⟨⟨CFr_r, ⟨g1, by rw [o 63 (by omega)]; exact g2, by rw [o 63 (by omega)]; exact g3, by rw [o 63 (by omega)]; exact g4⟩, by rw [o4 7 (by omega)]; exact g5, fun j y hy => by rw [o 70 (by omega)]; exact g6 j y hy⟩, h2, CGr_u (CGr_u (CGr_u (CGr_u (CGr_u (CGr_u h3 (by omega)) (by omega)) (by omega)) (by omega)) (by omega)) (by omega), ?_, fun q x hq => ?_⟩
  · rw [up2_c, upw_s, List.length_append, List.length_singleton]; omega
  · have s5 : up2 (up2 (up2 (up2 (up2 (up2 σ 65 L.length kd) 66 L.length (-1)) 67 L.length (-1)) 68 L.length (-1)) 69 L.length 1) 64 6 ((L.length : Int) + 1) 65 = upw (σ 65) L.length kd := by
      rw [up2_o (by omega), up2_o (by omega), up2_o (by omega), up2_o (by omega), up2_o (by omega), up2_c]
    have s6 : up2 (up2 (up2 (up2 (up2 (up2 σ 65 L.length kd) 66 L.length (-1)) 67 L.length (-1)) 68 L.length (-1)) 69 L.length 1) 64 6 ((L.length : Int) + 1) 66 = upw (σ 66) L.length (-1) := by
      rw [up2_o (by omega), up2_o (by omega), up2_o (by omega), up2_o (by omega), up2_c, up2_o (by omega)]
    have s7 : up2 (up2 (up2 (up2 (up2 (up2 σ 65 L.length kd) 66 L.length (-1)) 67 L.length (-1)) 68 L.length (-1)) 69 L.length 1) 64 6 ((L.length : Int) + 1) 67 = upw (σ 67) L.length (-1) := by
      rw [up2_o (by omega), up2_o (by omega), up2_o (by omega), up2_c, up2_o (by omega), up2_o (by omega)]
    have s8 : up2 (up2 (up2 (up2 (up2 (up2 σ 65 L.length kd) 66 L.length (-1)) 67 L.length (-1)) 68 L.length (-1)) 69 L.length 1) 64 6 ((L.length : Int) + 1) 68 = upw (σ 68) L.length (-1) := by
      rw [up2_o (by omega), up2_o (by omega), up2_c, up2_o (by omega), up2_o (by omega), up2_o (by omega)]
    have s9 : up2 (up2 (up2 (up2 (up2 (up2 σ 65 L.length kd) 66 L.length (-1)) 67 L.length (-1)) 68 L.length (-1)) 69 L.length 1) 64 6 ((L.length : Int) + 1) 69 = upw (σ 69) L.length 1 := by
      rw [up2_o (by omega), up2_c, up2_o (by omega), up2_o (by omega), up2_o (by omega), up2_o (by omega)]
    unfold CRu
    rw [s5, s6, s7, s8, s9]
    rcases app_get hq with z | ⟨z1, z2⟩
    · have := get_lt z
      rw [upw_n (by omega), upw_n (by omega), upw_n (by omega), upw_n (by omega), upw_n (by omega)]
      exact h5 q x z
    · rw [z1, z2, upw_s, upw_s, upw_s, upw_s, upw_s]
      exact ⟨rfl, rfl, rfl, rfl, rfl⟩
def wth (x : Ru) (a : Nat) (E : Xp) : Ru := if a = 66 then (x.1, some E, x.2.2) else if a = 67 then (x.1, x.2.1, some E, x.2.2.2) else (x.1, x.2.1, x.2.2.1, some E, x.2.2.2.2)
theorem CL_set {nW N : Nat} {σc σ σ' : Sg} {i l j l' lE a : Nat} {cd cs : List Int} {L : List Ru} {x : Ru} {E : Xp} (h : CL nW N σc σ i l cd (L ++ [x])) (ha : a = 66 ∨ a = 67 ∨ a = 68) (h1 : CSt N (up2 σ a L.length (cd.length : Int)) σ' j l' ((cd ++ cs) ++ [-1])) (hS : SegC nW cs lE E) (hl : lE ≤ 50) (hj : ((cd ++ cs) ++ [-1]).length ≤ j) : CL nW N σc σ' j l' ((cd ++ cs) ++ [-1]) (L ++ [wth x a E]) := by
  obtain ⟨g1, g2, g3, g4, g5⟩ := h
  have fr := h1.1
  refine ⟨CSt_r h1, hj, CGr_t g3 (CGr_f (by omega) fr), ?_, fun q y hq => ?_⟩
  · rw [fr.2.2 6 (by omega), up2_o (by omega), g4, List.length_append, List.length_append]; rfl
  · have e : ∀ k, 65 ≤ k → k ≤ 69 → σ' k = up2 σ a L.length (cd.length : Int) k := fun k k1 k2 => fr.1 k (by omega) (by omega) (by omega)
    have gr : ∀ {s : Int} {e : Option Xp}, ClE nW cd s e → ClE nW ((cd ++ cs) ++ [-1]) s e := fun w => ClE_a (ClE_a w)
    unfold CRu
    rw [e 65 (by omega) (by omega), e 66 (by omega) (by omega), e 67 (by omega) (by omega), e 68 (by omega) (by omega), e 69 (by omega) (by omega)]
    rcases app_get hq with z | ⟨z1, z2⟩
    · have lt := get_lt z
      obtain ⟨x1, x2, x3, x4, x5⟩ := g5 q y (app_old z)
      have u : ∀ k, up2 σ a L.length (cd.length : Int) k q = σ k q := fun k => by
        by_cases w : k = a
        · rw [w, up2_c, upw_n (by omega)]
        · rw [up2_o w]
      rw [u, u, u, u, u]
      exact ⟨x1, gr x2, gr x3, gr x4, x5⟩
    · subst z1 z2
      obtain ⟨x1, x2, x3, x4, x5⟩ := g5 L.length x app_last
      have u : ∀ k, k ≠ a → up2 σ a L.length (cd.length : Int) k L.length = σ k L.length := fun k w => by rw [up2_o w]
      have ua : up2 σ a L.length (cd.length : Int) a L.length = (cd.length : Int) := by rw [up2_c, upw_s]
      have new : ClE nW ((cd ++ cs) ++ [-1]) (cd.length : Int) (some E) := ⟨cd.length, cs, lE, rfl, SegAt_n, hS, hl⟩
      rcases ha with z | z | z
      · subst z
        rw [u 65 (by omega), ua, u 67 (by omega), u 68 (by omega), u 69 (by omega)]
        exact ⟨x1, new, gr x3, gr x4, x5⟩
      · subst z
        rw [u 65 (by omega), ua, u 66 (by omega), u 68 (by omega), u 69 (by omega)]
        exact ⟨x1, gr x2, new, gr x4, x5⟩
      · subst z
        rw [u 65 (by omega), ua, u 66 (by omega), u 67 (by omega), u 69 (by omega)]
        exact ⟨x1, gr x2, gr x3, new, x5⟩
