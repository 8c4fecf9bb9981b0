/-! ===== the reference reckons a stretch ===== -/
def Lk (x2 n k : Int) (σ : Sg) (n' k' : Int) (σ' : Sg) (d : Nat) : Prop := ∀ (f : Nat) (Q : Sg → Prop), T (vX10_reckonAll_10 f x2 n' k' σ') Q → T (vX10_reckonAll_10 (f + d) x2 n k σ) Q
theorem Lk_t {x2 n k n1 k1 n2 k2 : Int} {σ σ1 σ2 : Sg} {d d' : Nat} (h : Lk x2 n k σ n1 k1 σ1 d) (h' : Lk x2 n1 k1 σ1 n2 k2 σ2 d') : Lk x2 n k σ n2 k2 σ2 (d' + d) := fun f Q q => by
  rw [← Nat.add_assoc]
  exact h (f + d') Q (h' f Q q)
theorem m_rk_step {ord : Int} {w : Nat → Int} {op ar : Nat → Int} {lo hi k : Nat} {σ0 σ : Sg} {st : List Int} {x2 : Int} (hM : Md ord w op ar lo hi σ0) (hR : Rk σ0 σ) (h38 : σ 84 38 = 0) (hst : Stk σ 104 st) (hok : okM ord op ar k st) (hk : lo ≤ k ∧ k < hi) (hhi : hi ≤ 400) (hx : (k : Int) < x2) (hl : st.length ≤ 50) :
    (∀ k1 st1, mst ord w op ar k st = some (k1, st1) → st1.length ≤ 50 ∧ ∃ σ1, Lk x2 (st.length : Int) (k : Int) σ (st1.length : Int) (k1 : Int) σ1 1 ∧ Rk σ0 σ1 ∧ σ1 84 38 = 0 ∧ Stk σ1 104 st1) ∧ (mst ord w op ar k st = none → ∃ n1 k1 σ1, Lk x2 (st.length : Int) (k : Int) σ n1 k1 σ1 1 ∧ Rk σ0 σ1 ∧ σ1 84 38 = 1) := by
  obtain ⟨m1, m2⟩ := hM σ hR
  obtain ⟨o1, o2, o3, o4, o5, o6⟩ := hok
  have F : ∀ f, vX10_reckonAll_10 (f + 1) x2 (st.length : Int) (k : Int) σ = vX10_reckonAll_95 (vX10_reckonAll_10 f) x2 (st.length : Int) (k : Int) (op k) (ar k) σ := fun f => m1 f x2 _ k hk.1 hk.2 hx h38
  have k1' : (k : Int) + 1 = ((k + 1 : Nat) : Int) := by omega
  by_cases c1 : op k < 20
  · obtain ⟨p1, p2⟩ := o3 c1
    have e : mst ord w op ar k st = some (k + 1, lvl w (lf ord (op k) (ar k)) :: st) := by unfold mst; rw [if_pos c1]
    rw [e]
    refine ⟨fun k1 st1 h => ?_, fun h => by cases h⟩
    injection h with h
    injection h with h1 h2
    subst h1
    subst h2
    refine ⟨by rw [List.length_cons]; omega, up2 σ 104 st.length (lvl w (lf ord (op k) (ar k))), fun f Q q => ?_, Rk_t hR Rk_u, by rw [up2_o (by omega)]; exact h38, Stk_p hst⟩
    rw [F, m2 _ x2 _ k _ _ (by omega) p2 c1]
    unfold vX10_reckonAll_236
    refine T_ck (by omega) (T_nm (T_ck (by omega) ?_))
    rw [Int.toNat_natCast, k1']
    rw [List.length_cons, show ((st.length + 1 : Nat) : Int) = (st.length : Int) + 1 by omega] at q
    exact q
  · by_cases c2 : op k < 28
    · obtain ⟨a, b, r, e0⟩ := o4 (by omega) c2
      clear o4 o5
      subst e0
      obtain ⟨s1, s2⟩ := Stk_d hst
      obtain ⟨s3, s4⟩ := Stk_d s1
      rw [List.length_cons] at s2
      have va := o1 a (List.mem_cons_of_mem _ List.mem_cons_self)
      have vb := o1 b List.mem_cons_self
      obtain ⟨v, σ', r1, r2, r3, r4⟩ := m_rkn (o := op k) (a := a) (b := b) (σ := σ) (by omega) va vb h38
      have e : mst ord w op ar k (b :: a :: r) = if jn (cOf (op k)) a b = BR then none else some (k + 1, jn (cOf (op k)) a b :: r) := by unfold mst; rw [if_neg c1, if_pos c2]
      rw [e]
      rw [List.length_cons, List.length_cons] at hl
      have l1 : (((b :: a :: r : List Int).length : Nat) : Int) + -1 = ((r.length + 1 : Nat) : Int) := by rw [List.length_cons, List.length_cons]; omega
      have l2 : ((r.length + 1 : Nat) : Int) - 1 = ((r.length : Nat) : Int) := by omega
      -- as far as the value
      have G : ∀ (f : Nat) (Q : Sg → Prop), T (if (up2 σ' 104 r.length v) 84 38 = 0 then (ck (in32 ((((b :: a :: r : List Int).length : Nat) : Int) + -1 - 1)) (ck (0 ≤ ((((b :: a :: r : List Int).length : Nat) : Int) + -1 - 1) ∧ ((((b :: a :: r : List Int).length : Nat) : Int) + -1 - 1) < 400) ((vX10_in ((up2 σ' 104 r.length v) 104 ((((b :: a :: r : List Int).length : Nat) : Int) + -1 - 1).toNat) (-1000000000) 1000000000 (up2 σ' 104 r.length v)).bind (fun r16 => if r16 = 0 then (vX10_reckonAll_309 (vX10_reckonAll_10 f) x2 ((((b :: a :: r : List Int).length : Nat) : Int) + -1) ((k : Int) + 1) (up2 σ' 104 r.length v)) else (vX10_reckonAll_314 (vX10_reckonAll_10 f) x2 ((((b :: a :: r : List Int).length : Nat) : Int) + -1) ((k : Int) + 1) 0 (up2 σ' 104 r.length v)))))) else (vX10_reckonAll_309 (vX10_reckonAll_10 f) x2 ((((b :: a :: r : List Int).length : Nat) : Int) + -1) ((k : Int) + 1) (up2 σ' 104 r.length v))) Q → T (vX10_reckonAll_10 (f + 1) x2 ((b :: a :: r : List Int).length : Int) (k : Int) σ) Q := by
        intro f Q q
        rw [F]
        unfold vX10_reckonAll_95
        refine T_ck (by omega) (T_f c1 (T_t c2 (T_ck (by omega) (T_ck (by omega) (T_ck (by omega) (T_ck (by omega) (T_ck (by omega) ?_)))))))
        rw [l1, l2] at q ⊢
        rw [Int.toNat_natCast, Int.toNat_natCast, s2, s4, r1, bd2_some]
        refine T_ck (by omega) (T_nm ?_)
        rw [Int.toNat_natCast] at q
        exact q
      have u38 : up2 σ' 104 r.length v 84 38 = σ' 84 38 := by rw [up2_o (by omega)]
      have u104 : up2 σ' 104 r.length v 104 r.length = v := by rw [up2_c, upw_s]
      have RkU : Rk σ0 (up2 σ' 104 r.length v) := Rk_t (Rk_t hR r2) Rk_u
      have bad : ∀ f Q, T (vX10_reckonAll_10 f x2 ((r.length + 1 : Nat) : Int) ((k : Int) + 1) (up2 (up2 σ' 104 r.length v) 84 38 1)) Q → T (vX10_reckonAll_309 (vX10_reckonAll_10 f) x2 ((r.length + 1 : Nat) : Int) ((k : Int) + 1) (up2 σ' 104 r.length v)) Q := by
        intro f Q q
        unfold vX10_reckonAll_309 vX10_reckonAll_314
        exact T_ck (by omega) (T_nm q)
      rcases r4 with ⟨j1, j2⟩ | ⟨j1, j2, j3, j4⟩
      · rw [if_pos j1]
        refine ⟨fun k1 st1 h => (by cases h), fun _ => ⟨((r.length + 1 : Nat) : Int), (k : Int) + 1, up2 (up2 σ' 104 r.length v) 84 38 1, fun f Q q => G f Q ?_, Rk_t RkU Rk_8, by rw [up2_c, upw_s]⟩⟩
        rw [l1, l2, Int.toNat_natCast, u38, u104]
        rcases j2 with j2 | ⟨j2, j3⟩
        · exact T_f (by omega) (bad f Q q)
        · refine T_t j2 (T_ck (by omega) (T_ck (by omega) ?_))
          rw [m_in, Option.bind_some, bI_f j3]
          exact T_t rfl (bad f Q q)
      · rw [if_neg (by rw [j1]; exact j2), j1]
        refine ⟨fun k1 st1 h => ?_, fun h => by cases h⟩
        injection h with h
        injection h with h1 h2
        subst h1
        subst h2
        refine ⟨by rw [List.length_cons]; omega, up2 (up2 σ' 104 r.length v) 84 38 0, fun f Q q => G f Q ?_, Rk_t RkU Rk_8, by rw [up2_c, upw_s], ?_⟩
        · rw [l1, l2, Int.toNat_natCast, u38, u104]
          refine T_t j3 (T_ck (by omega) (T_ck (by omega) ?_))
          rw [m_in, Option.bind_some, bI_t j4]
          refine T_f (by omega) ?_
          unfold vX10_reckonAll_314
          refine T_ck (by omega) (T_nm ?_)
          rw [k1']
          rw [List.length_cons] at q
          exact q
        · have s3' : Stk σ' 104 r := fun j x hx => by rw [r3]; exact s3 j x hx
          exact Stk_c (Stk_p (v := v) s3') (by rw [up2_o (by omega)])
    · obtain ⟨a, r, e0, a01⟩ := o5 (by omega)
      clear o4 o5
      subst e0
      obtain ⟨s1, s2⟩ := Stk_d hst
      rw [List.length_cons] at hl
      have l1 : (((a :: r : List Int).length : Nat) : Int) - 1 = ((r.length : Nat) : Int) := by rw [List.length_cons]; omega
      by_cases c3 : op k = 28
      · have e : mst ord w op ar k (a :: r) = some (k + 1, (1 - a) :: r) := by unfold mst; rw [if_neg c1, if_neg c2, if_pos c3]
        rw [e]
        refine ⟨fun k1 st1 h => ?_, fun h => by cases h⟩
        injection h with h
        injection h with h1 h2
        subst h1
        subst h2
        refine ⟨by rw [List.length_cons]; omega, up2 σ 104 r.length (1 - a), fun f Q q => ?_, Rk_t hR Rk_u, by rw [up2_o (by omega)]; exact h38, Stk_p s1⟩
        rw [F]
        unfold vX10_reckonAll_95
        rw [l1, Int.toNat_natCast, s2]
        refine T_ck (by omega) (T_f c1 (T_f c2 (T_t c3 (T_ck (by omega) (T_ck (by omega) (T_ck (by omega) (T_ck (by omega) (T_ck (by omega) (T_nm ?_)))))))))
        rw [k1']
        rw [List.length_cons] at q ⊢
        exact q
      · have e : mst ord w op ar k (a :: r) = if a = (if op k = 29 then 0 else 1) then some ((ar k).toNat, a :: r) else some (k + 1, r) := by unfold mst; rw [if_neg c1, if_neg c2, if_neg c3]
        rw [e]
        have ak := o6 (by omega)
        have G : ∀ (f : Nat) (Q : Sg → Prop) (z : Int), z = (if op k = 29 then 0 else 1) → T (vX10_reckonAll_368 (vX10_reckonAll_10 f) x2 ((a :: r : List Int).length : Int) ((k : Int) + 1) (ar k) a z σ) Q → T (vX10_reckonAll_10 (f + 1) x2 ((a :: r : List Int).length : Int) (k : Int) σ) Q := by
          intro f Q z hz q
          rw [F]
          unfold vX10_reckonAll_95
          rw [l1, Int.toNat_natCast, s2]
          refine T_ck (by omega) (T_f c1 (T_f c2 (T_f c3 (T_ck (by omega) (T_ck (by omega) ?_)))))
          refine T_ite (fun h => ?_) (fun h => ?_)
          · rw [if_pos h] at hz; rw [hz] at q; exact q
          · rw [if_neg h] at hz; rw [hz] at q; exact q
        by_cases c4 : a = (if op k = 29 then 0 else 1)
        · rw [if_pos c4]
          refine ⟨fun k1 st1 h => ?_, fun h => by cases h⟩
          injection h with h
          injection h with h1 h2
          subst h1
          subst h2
          refine ⟨by rw [List.length_cons]; omega, σ, fun f Q q => G f Q _ rfl ?_, hR, h38, hst⟩
          unfold vX10_reckonAll_368
          rw [show (((ar k).toNat : Nat) : Int) = ar k by omega] at q
          exact T_t c4 q
        · rw [if_neg c4]
          refine ⟨fun k1 st1 h => ?_, fun h => by cases h⟩
          injection h with h
          injection h with h1 h2
          subst h1
          subst h2
          refine ⟨by omega, σ, fun f Q q => G f Q _ rfl ?_, hR, h38, s1⟩
          unfold vX10_reckonAll_368
          have l3 : (((a :: r : List Int).length : Nat) : Int) + -1 = ((r.length : Nat) : Int) := by rw [List.length_cons]; omega
          refine T_f c4 (T_ck (by omega) ?_)
          rw [l3, k1']
          exact q
theorem m_rk_go {ord : Int} {w : Nat → Int} {op ar : Nat → Int} {lo hi : Nat} {σ0 : Sg} {x2 : Int} (hM : Md ord w op ar lo hi σ0) (hhi : hi ≤ 400) (hx : (hi : Int) ≤ x2) : ∀ (d : Nat) {k : Nat} {st : List Int} {k' : Nat} {st' : List Int} {σ : Sg}, Rch ord w op ar lo hi d k st k' st' → Rk σ0 σ → σ 84 38 = 0 → Stk σ 104 st → st.length ≤ 50 → st'.length ≤ 50 ∧ ∃ σ', Lk x2 (st.length : Int) (k : Int) σ (st'.length : Int) (k' : Int) σ' d ∧ Rk σ0 σ' ∧ σ' 84 38 = 0 ∧ Stk σ' 104 st'
  | 0, k, st, k', st', σ, h, hR, h38, hst, hl => by
    obtain ⟨rfl, rfl⟩ := h
    exact ⟨hl, σ, fun f Q q => q, hR, h38, hst⟩
  | d + 1, k, st, k', st', σ, h, hR, h38, hst, hl => by
    obtain ⟨a, b, k3, st3, c, e⟩ := h
    obtain ⟨g1, σ1, g2, g3, g4, g5⟩ := (m_rk_step (x2 := x2) hM hR h38 hst b a hhi (by omega) hl).1 k3 st3 c
    obtain ⟨i1, σ', i2, i3, i4, i5⟩ := m_rk_go hM hhi hx d e g3 g4 g5 g1
    exact ⟨i1, σ', Lk_t g2 i2, i3, i4, i5⟩
/-- a whole stretch -/
theorem m_reckon {ord : Int} {w : Nat → Int} {op ar : Nat → Int} {lo hi l : Nat} {σ : Sg} {E : (Nat → Int) → Int} (hM : Md ord w op ar lo hi σ) (hS : SegM ord op ar lo hi l E) (hw : wOk w) (hl : l ≤ 50) (hhi : hi ≤ 400) : T (vX10_reckonAll (lo : Int) (hi : Int) σ) (fun σ' => Sme (fun k => k = 84 ∨ k = 104) σ σ' ∧ (∀ j, j ≠ 38 → j ≠ 39 → σ' 84 j = σ 84 j) ∧ (E w = BR → σ' 84 38 = 1) ∧ (E w ≠ BR → σ' 84 38 = 0 ∧ σ' 84 39 = E w)) := by
  have gb := hS.2 w hw [] (fun x hx => by cases hx) (by show 0 + l ≤ 50; omega)
  unfold vX10_reckonAll
  refine T_nm ?_
  have r0 : Rk σ (up2 σ 84 38 0) := Rk_8
  have e0 : up2 σ 84 38 0 84 38 = 0 := by rw [up2_c, upw_s]
  have s0 : Stk (up2 σ 84 38 0) 104 [] := fun j x hx => by simp at hx
  have fin : ∀ (τ : Sg) (y : Int), Rk σ τ → T (vX10_reckonAll_400 y τ) (fun σ' => (Sme (fun k => k = 84 ∨ k = 104) σ σ' ∧ (∀ j, j ≠ 38 → j ≠ 39 → σ' 84 j = σ 84 j)) ∧ σ' 84 38 = τ 84 38 ∧ σ' 84 39 = y) := by
    intro τ y h
    unfold vX10_reckonAll_400
    refine T_nm (T_some ⟨⟨fun k hk => ?_, fun j j1 j2 => ?_⟩, ?_, ?_⟩)
    · rw [up2_o (by omega)]; exact h.1 k (by omega) (by omega)
    · rw [up2_c, upw_n j2]; exact h.2 j j1
    · rw [up2_c, upw_n (by omega)]
    · rw [up2_c, upw_s]
  by_cases hE : E w = BR
  · obtain ⟨d, k, st', d1, d2, d3, d4, d5⟩ := gb.2 hE
    obtain ⟨i1, σ1, i2, i3, i4, i5⟩ := m_rk_go (x2 := (hi : Int)) hM hhi (Int.le_refl _) d d2 r0 e0 s0 (by show 0 ≤ 50; omega)
    obtain ⟨n1, k1, σ2, q2, q3, q4⟩ := (m_rk_step (x2 := (hi : Int)) hM i3 i4 i5 d4 d3 hhi (by omega) i1).2 d5
    have g := Lk_t i2 q2
    have fe : FU = (FU - (1 + d) - 1 + 1) + (1 + d) := by have := FU_b; omega
    rw [fe]
    refine g _ _ ?_
    rw [vX10_reckonAll_10]
    have st2 : T (vX10_reckonAll_385 n1 σ2) (fun σ' => Sme (fun k => k = 84 ∨ k = 104) σ σ' ∧ (∀ j, j ≠ 38 → j ≠ 39 → σ' 84 j = σ 84 j) ∧ (E w = BR → σ' 84 38 = 1) ∧ (E w ≠ BR → σ' 84 38 = 0 ∧ σ' 84 39 = E w)) := by
      unfold vX10_reckonAll_385
      have cl : ∀ y, T (vX10_reckonAll_400 y σ2) (fun σ' => Sme (fun k => k = 84 ∨ k = 104) σ σ' ∧ (∀ j, j ≠ 38 → j ≠ 39 → σ' 84 j = σ 84 j) ∧ (E w = BR → σ' 84 38 = 1) ∧ (E w ≠ BR → σ' 84 38 = 0 ∧ σ' 84 39 = E w)) := fun y => T_mono (fin σ2 y q3) (fun σ' h => ⟨h.1.1, h.1.2, fun _ => by rw [h.2.1]; exact q4, fun q => absurd hE q⟩)
      exact T_ite (fun _ => cl _) (fun _ => cl _)
    refine T_ite (fun _ => T_f (by omega) st2) (fun _ => st2)
  · obtain ⟨d, d1, d2⟩ := gb.1 hE
    obtain ⟨i1, σ1, i2, i3, i4, i5⟩ := m_rk_go (x2 := (hi : Int)) hM hhi (Int.le_refl _) d d2 r0 e0 s0 (by show 0 ≤ 50; omega)
    have fe : FU = (FU - d - 1 + 1) + d := by have := FU_b; omega
    rw [fe]
    refine i2 _ _ ?_
    rw [vX10_reckonAll_10]
    refine T_f (by omega) ?_
    unfold vX10_reckonAll_385
    refine T_t (by show (0 : Int) < 1; omega) ?_
    have v0 : σ1 104 0 = E w := i5 0 (E w) rfl
    refine T_mono (fin σ1 _ i3) (fun σ' h => ⟨h.1.1, h.1.2, fun q => absurd q hE, fun _ => ⟨by rw [h.2.1]; exact i4, by rw [h.2.2]; exact v0⟩⟩)
