/-! ===== what token it is ===== -/
theorem ps_word {tk : Nat → Int} {pl st : Nat → Nat} {N i j : Nat} {σ : Sg} {w : Int} (h : PT tk pl st N σ i) (hj : j < 28) (hw : wfold (wl.getD j []) = w) : vX10_isWord w σ = some (bI (tk i = 300 + (j : Int))) := by
  have t := h.2.2.2.1 j hj
  rw [hw] at t
  unfold vX10_isWord
  by_cases a : σ 84 16 = 1
  · rw [if_pos a]
    by_cases b : σ 84 17 = w
    · rw [if_pos b, bI_t (t.mp ⟨a, b⟩)]
    · rw [if_neg b, bI_f (fun q => b (t.mpr q).2)]
  · rw [if_neg a, bI_f (fun q => a (t.mpr q).1)]
theorem ps_sign {tk : Nat → Int} {pl st : Nat → Nat} {N i : Nat} {σ : Sg} {c : Int} (h : PT tk pl st N σ i) (h1 : 33 ≤ c ∧ c < 97) (h2 : ¬ dg c) : vX10_isSign c σ = some (bI (tk i = c)) := by
  have t := h.2.2.2.2.1 c h1.1 h1.2 h2
  unfold vX10_isSign
  by_cases a : σ 84 16 = 3
  · rw [if_pos a]
    by_cases b : σ 84 17 = c
    · rw [if_pos b, bI_t (t.mp ⟨a, b⟩)]
    · rw [if_neg b, bI_f (fun q => b (t.mpr q).2)]
  · rw [if_neg a, bI_f (fun q => a (t.mpr q).1)]
def lPart (t : Int) : Int := if 308 ≤ t ∧ t ≤ 316 then t - 307 else -1
theorem ps_partAt_4 {tk : Nat → Int} {pl st : Nat → Nat} {N i : Nat} {σ : Sg} (h : PT tk pl st N σ i) (h99 : ∀ k : Nat, k < 9 → wfold (wl.getD (8 + k) []) = σ 99 k) : ∀ (f x : Nat) (y : Int), 9 - x < f → x ≤ 9 → T (vX10_partAt_4 σ f y (x : Int)) (fun r => r = if 308 + (x : Int) ≤ tk i ∧ tk i ≤ 316 then tk i - 307 else y) := by
  intro f
  induction f with
  | zero => intro x y h; omega
  | succ f ih =>
    intro x y hf hx
    rw [vX10_partAt_4]
    refine T_ite (fun q => ?_) (fun q => ?_)
    · refine T_ck (by omega) ?_
      rw [Int.toNat_natCast, ps_word h (by omega) (h99 x (by omega)), Option.bind_some]
      have ex : (x : Int) + 1 = ((x + 1 : Nat) : Int) := by omega
      by_cases e : tk i = 300 + ((8 + x : Nat) : Int)
      · rw [bI_t e]
        refine T_f (by omega) (T_ck (by omega) (T_nm (T_ck (by omega) ?_)))
        rw [ex]
        refine T_mono (ih (x + 1) _ (by omega) (by omega)) (fun r hr => ?_)
        rw [hr, if_neg (by omega), if_pos (by omega)]
        omega
      · rw [bI_f e]
        refine T_t rfl (T_ck (by omega) ?_)
        rw [ex]
        refine T_mono (ih (x + 1) _ (by omega) (by omega)) (fun r hr => ?_)
        rw [hr]
        by_cases z : 308 + (x : Int) ≤ tk i ∧ tk i ≤ 316
        · rw [if_pos (by omega), if_pos z]
        · rw [if_neg (by omega), if_neg z]
    · refine T_some ?_
      rw [if_neg (by omega)]
theorem ps_partAt {tk : Nat → Int} {pl st : Nat → Nat} {N i : Nat} {σ : Sg} (h : PT tk pl st N σ i) (hC : InvC σ) : vX10_partAt σ = some (lPart (tk i)) := by
  obtain ⟨⟨c0, c1, c2, c3, c4, c5, c6, c7, c8⟩, -⟩ := hC
  obtain ⟨r, e, hr⟩ := ps_partAt_4 h (fun k hk => by
    match k with
    | 0 => rw [c0]; decide
    | 1 => rw [c1]; decide
    | 2 => rw [c2]; decide
    | 3 => rw [c3]; decide
    | 4 => rw [c4]; decide
    | 5 => rw [c5]; decide
    | 6 => rw [c6]; decide
    | 7 => rw [c7]; decide
    | 8 => rw [c8]; decide
    | k + 9 => omega) FU 0 (-1) (by have := FU_b; omega) (by omega)
  unfold vX10_partAt
  unfold lPart
  rw [show ((0 : Nat) : Int) = 0 from rfl] at e hr
  rw [e, hr, Int.add_zero]
def oPart (t : Int) : Int := if t = 310 then 7 else if t = 313 then 6 else if t = 320 then 5 else if t = 319 then 4 else if t = 318 then 3 else if t = 317 then 2 else if t = 315 then 1 else -1
theorem ps_op_s {tk : Nat → Int} {pl st : Nat → Nat} {N i : Nat} {σ : Sg} {x j f : Nat} {y v : Int} (h : PT tk pl st N σ i) (hx : x < 7) (hj : j < 28) (e : wfold (wl.getD j []) = σ 100 x) (hv : v = (x : Int) + 1) : vX10_orderPartAt_4 σ (f + 1) y (x : Int) = vX10_orderPartAt_4 σ f (if tk i = 300 + (j : Int) then v else y) v := by
  rw [vX10_orderPartAt_4, if_pos (by omega), ck_p (by omega), Int.toNat_natCast, ps_word h hj e, Option.bind_some, hv]
  by_cases q : tk i = 300 + (j : Int)
  · rw [bI_t q, if_neg (by omega), ck_p (by omega), nm_eq, ck_p (by omega), if_pos q]
  · rw [bI_f q, if_pos rfl, ck_p (by omega), if_neg q]
theorem ps_orderPartAt {tk : Nat → Int} {pl st : Nat → Nat} {N i : Nat} {σ : Sg} (h : PT tk pl st N σ i) (hC : InvC σ) : vX10_orderPartAt σ = some (oPart (tk i)) := by
  obtain ⟨-, ⟨c0, c1, c2, c3, c4, c5, c6⟩, -⟩ := hC
  have fe : FU = (FU - 8) + 8 := by have := FU_b; omega
  unfold vX10_orderPartAt
  rw [fe]
  have s0 := ps_op_s (x := 0) (j := 15) (f := FU - 8 + 7) (y := -1) (v := 1) h (by omega) (by omega) (by rw [c0]; decide) (by omega)
  have s1 := fun y => ps_op_s (x := 1) (j := 17) (f := FU - 8 + 6) (y := y) (v := 2) h (by omega) (by omega) (by rw [c1]; decide) (by omega)
  have s2 := fun y => ps_op_s (x := 2) (j := 18) (f := FU - 8 + 5) (y := y) (v := 3) h (by omega) (by omega) (by rw [c2]; decide) (by omega)
  have s3 := fun y => ps_op_s (x := 3) (j := 19) (f := FU - 8 + 4) (y := y) (v := 4) h (by omega) (by omega) (by rw [c3]; decide) (by omega)
  have s4 := fun y => ps_op_s (x := 4) (j := 20) (f := FU - 8 + 3) (y := y) (v := 5) h (by omega) (by omega) (by rw [c4]; decide) (by omega)
  have s5 := fun y => ps_op_s (x := 5) (j := 13) (f := FU - 8 + 2) (y := y) (v := 6) h (by omega) (by omega) (by rw [c5]; decide) (by omega)
  have s6 := fun y => ps_op_s (x := 6) (j := 10) (f := FU - 8 + 1) (y := y) (v := 7) h (by omega) (by omega) (by rw [c6]; decide) (by omega)
  have s7 : ∀ y, vX10_orderPartAt_4 σ (FU - 8 + 1) y 7 = some y := fun y => by rw [vX10_orderPartAt_4, if_neg (by omega)]
  refine s0.trans ((s1 _).trans ((s2 _).trans ((s3 _).trans ((s4 _).trans ((s5 _).trans ((s6 _).trans ((s7 _).trans ?_)))))))
  rfl
/-! brackets and comparisons in the pile -/
def inn : Pl → Int
  | [] => -1
  | e :: r => if e.1 < 31 then inn r else e.1
theorem ps_inner {σ : Sg} {l d : Nat} {c : Cd} {P : Pl} {bd : Int} (h : PK σ l d c P bd) (hl : P.length ≤ 400) : vX10_inner σ = some (inn P) := by
  have f1 : σ 84 29 = (P.length : Int) := h.1.2.2.2.1
  have key : ∀ (Q : Pl) (f : Nat) (R : Pl), P = Q ++ R → Q.length < f → vX10_inner_4 σ f (inn R) (R.length : Int) = some (inn P) := by
    intro Q
    -- the lowest of Q comes next
    have go : ∀ (n : Nat) (Q : Pl), Q.length = n → ∀ (f : Nat) (R : Pl), P = Q ++ R → Q.length < f → vX10_inner_4 σ f (inn R) (R.length : Int) = some (inn P) := by
      intro n
      induction n with
      | zero =>
        intro Q hQ f R e hf
        have q := List.eq_nil_of_length_eq_zero hQ
        subst q
        rw [List.nil_append] at e
        subst e
        cases f with
        | zero => omega
        | succ f => rw [vX10_inner_4, f1, if_neg (by omega)]
      | succ n ih =>
        intro Q hQ f R e hf
        rcases List.eq_nil_or_concat Q with q | ⟨Q', x, q⟩
        · rw [q] at hQ; cases hQ
        · rw [List.concat_eq_append] at q
          subst q
          rw [List.length_append, List.length_singleton] at hQ hf
          have eP : P = Q' ++ (x :: R) := by rw [e, List.append_assoc]; rfl
          have lP : P.length = Q'.length + (R.length + 1) := by rw [eP, List.length_append, List.length_cons]
          have g := (h.2.2 Q'.length x (by rw [eP, List.getElem?_append_right (by omega), Nat.sub_self]; rfl)).1
          rw [show P.length - 1 - Q'.length = R.length by omega] at g
          have r := ih Q' (by omega) (f - 1) (x :: R) eP (by omega)
          rw [List.length_cons, inn] at r
          cases f with
          | zero => omega
          | succ f =>
            rw [Nat.add_sub_cancel] at r
            rw [vX10_inner_4, f1, if_pos (by omega), ck_p (by omega), Int.toNat_natCast, g]
            rw [show ((R.length + 1 : Nat) : Int) = (R.length : Int) + 1 by omega] at r
            by_cases c31 : x.1 < 31
            · rw [if_pos c31] at r ⊢
              rw [ck_p (by omega)]; exact r
            · rw [if_neg c31] at r ⊢
              rw [ck_p (by omega), nm_eq, ck_p (by omega)]; exact r
    exact go Q.length Q rfl
  unfold vX10_inner
  exact key P FU [] (by rw [List.append_nil]) (by have := FU_b; omega)
def cmpd : Pl → Int
  | [] => 0
  | e :: r => if 20 ≤ e.1 ∧ e.1 ≤ 24 then cmpd r else (if 25 ≤ e.1 ∧ e.1 ≤ 27 then 1 else 0)
theorem ps_cmp {σ : Sg} {l d : Nat} {c : Cd} {P : Pl} {bd : Int} (h : PK σ l d c P bd) (hl : P.length ≤ 400) : vX10_isCompared σ = some (cmpd P) := by
  have f1 : σ 84 29 = (P.length : Int) := h.1.2.2.2.1
  have key : ∀ (R : Pl) (f : Nat) (Q : Pl), P = Q ++ R → R.length < f → vX10_isCompared_7 σ f ((R.length : Int) - 1) = some (cmpd R) := by
    intro R
    induction R with
    | nil =>
      intro f Q e hf
      cases f with
      | zero => cases hf
      | succ f =>
        rw [vX10_isCompared_7, if_pos (by show (0 : Int) - 1 < 0; omega)]
        unfold vX10_isCompared_36
        rw [if_pos (by show (0 : Int) - 1 < 0; omega)]
        rfl
    | cons x R ih =>
      intro f Q e hf
      rw [List.length_cons] at hf
      have lP : P.length = Q.length + (R.length + 1) := by rw [e, List.length_append, List.length_cons]
      have g := (h.2.2 Q.length x (by rw [e, List.getElem?_append_right (by omega), Nat.sub_self]; rfl)).1
      rw [show P.length - 1 - Q.length = R.length by omega] at g
      cases f with
      | zero => omega
      | succ f =>
        have r := ih f (Q ++ [x]) (by rw [e, List.append_assoc]; rfl) (by omega)
        rw [List.length_cons, show ((R.length + 1 : Nat) : Int) - 1 = (R.length : Int) by omega]
        rw [vX10_isCompared_7, if_neg (by omega), ck_p (by omega), Int.toNat_natCast, g, m_in, Option.bind_some, cmpd]
        by_cases q : 20 ≤ x.1 ∧ x.1 ≤ 24
        · rw [bI_t q, if_neg (by omega), ck_p (by omega), if_pos q]
          exact r
        · rw [bI_f q, if_pos rfl, if_neg q]
          unfold vX10_isCompared_36
          rw [if_neg (by omega), ck_p (by omega), Int.toNat_natCast, g, m_in, Option.bind_some]
          by_cases q2 : 25 ≤ x.1 ∧ x.1 ≤ 27
          · rw [bI_t q2, if_neg (by omega), if_pos q2]
          · rw [bI_f q2, if_pos rfl, if_neg q2]
  unfold vX10_isCompared
  rw [f1, ck_p (by omega), nm_eq]
  exact key P FU [] rfl (by have := FU_b; omega)
theorem inn_a : ∀ (P π : Pl), (∀ e ∈ P, e.1 < 31) → inn (P ++ π) = inn π
  | [], π, _ => rfl
  | e :: r, π, h => by rw [List.cons_append, inn, if_pos (h e List.mem_cons_self), inn_a r π (fun x hx => h x (List.mem_cons_of_mem _ hx))]
theorem cmpd_a : ∀ (P π : Pl), (∀ e ∈ P, 20 ≤ e.1 ∧ e.1 ≤ 24) → cmpd (P ++ π) = cmpd π
  | [], π, _ => rfl
  | e :: r, π, h => by rw [List.cons_append, cmpd, if_pos (h e List.mem_cons_self), cmpd_a r π (fun x hx => h x (List.mem_cons_of_mem _ hx))]
theorem sett_a {c : Cd} {P Q : Pl} : sett c (P ++ Q) = sett (sett c P) Q := by unfold sett; rw [List.foldl_append]
theorem sett_lo {lo : Nat} : ∀ (P : Pl) (c : Cd), lo ≤ c.2.2 → (∀ e ∈ P, isAO e.1 → lo ≤ e.2) → ∀ k, k < lo → (sett c P).1 k = c.1 k ∧ (sett c P).2.1 k = c.2.1 k
  | [], c, _, _, k, _ => ⟨rfl, rfl⟩
  | e :: r, c, h1, h2, k, hk => by
    have s : (stl1 c e).1 k = c.1 k ∧ (stl1 c e).2.1 k = c.2.1 k ∧ lo ≤ (stl1 c e).2.2 := by
      unfold stl1
      by_cases q : e.1 = 29 ∨ e.1 = 30
      · rw [if_pos q]
        have := h2 e List.mem_cons_self q
        refine ⟨rfl, ?_, h1⟩
        show upw c.2.1 e.2 _ k = _
        rw [upw_n (by omega)]
      · rw [if_neg q]
        refine ⟨?_, ?_, by show lo ≤ c.2.2 + 1; omega⟩
        · show upw c.1 c.2.2 _ k = _
          rw [upw_n (by omega)]
        · show upw c.2.1 c.2.2 _ k = _
          rw [upw_n (by omega)]
    have t := sett_lo r (stl1 c e) s.2.2 (fun x hx => h2 x (List.mem_cons_of_mem _ hx)) k hk
    show (sett (stl1 c e) r).1 k = _ ∧ (sett (stl1 c e) r).2.1 k = _
    rw [t.1, t.2, s.1, s.2.1]
    exact ⟨rfl, rfl⟩
