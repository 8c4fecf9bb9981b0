/-! ===== reckoning ===== -/
def Stk (σ : Sg) (c : Nat) (st : List Int) : Prop := ∀ j x, st[j]? = some x → σ c (st.length - 1 - j) = x
theorem Stk_p {σ : Sg} {c : Nat} {st : List Int} {v : Int} (h : Stk σ c st) : Stk (up2 σ c st.length v) c (v :: st) := by
  intro j x hx
  rw [up2_c, List.length_cons]
  cases j with
  | zero =>
    rw [List.getElem?_cons_zero] at hx
    injection hx with hx
    rw [show st.length + 1 - 1 - 0 = st.length by omega, upw_s, hx]
  | succ j =>
    rw [List.getElem?_cons_succ] at hx
    have hl := (List.getElem?_eq_some_iff.mp hx).1
    rw [upw_n (by omega), show st.length + 1 - 1 - (j + 1) = st.length - 1 - j by omega]
    exact h j x hx
theorem Stk_d {σ : Sg} {c : Nat} {st : List Int} {v : Int} (h : Stk σ c (v :: st)) : Stk σ c st ∧ σ c st.length = v := by
  refine ⟨fun j x hx => ?_, ?_⟩
  · have := h (j + 1) x (by rw [List.getElem?_cons_succ]; exact hx)
    rw [List.length_cons, show st.length + 1 - 1 - (j + 1) = st.length - 1 - j by omega] at this
    exact this
  · have := h 0 v rfl
    rw [List.length_cons, show st.length + 1 - 1 - 0 = st.length by omega] at this
    exact this
theorem Stk_c {σ σ' : Sg} {c : Nat} {st : List Int} (h : Stk σ c st) (e : σ' c = σ c) : Stk σ' c st := fun j x hx => by rw [e]; exact h j x hx
theorem w32_k {x : Int} (h : -1000000000 ≤ x ∧ x ≤ 1000000000) : w32 x = x := w32_id (by omega)
theorem c_j218 {σ : Sg} {x : Int} : vX5_joined_218 σ x = some (clp x) := by
  unfold vX5_joined_218 clp
  by_cases h1 : 1000000000 < x
  · rw [if_pos h1, if_pos h1]; rfl
  · rw [if_neg h1, if_neg h1]
    by_cases h2 : x < -1000000000
    · rw [if_pos h2, if_pos h2]; rfl
    · rw [if_neg h2, if_neg h2, w32_k (by omega)]
theorem clp_k {x : Int} (h : -1000000000 ≤ x ∧ x ≤ 1000000000) : clp x = x := by unfold clp; rw [if_neg (by omega), if_neg (by omega)]
theorem clp_b : clp (-2000000000) = BR := rfl
theorem mul_q {a b : Int} (ha : -1000000000 ≤ a ∧ a ≤ 1000000000) (hb : -1000000000 ≤ b ∧ b ≤ 1000000000) : -1000000000000000000 ≤ a * b ∧ a * b ≤ 1000000000000000000 := by
  have h1 : a.natAbs ≤ 1000000000 := by omega
  have h2 : b.natAbs ≤ 1000000000 := by omega
  have h3 : (a * b).natAbs ≤ 1000000000 * 1000000000 := by rw [Int.natAbs_mul]; exact Nat.mul_le_mul h1 h2
  omega
theorem tm_r {a b : Int} (ha : -1000000000 ≤ a ∧ a ≤ 1000000000) : (-1000000000 ≤ Int.tmod a b ∧ Int.tmod a b ≤ 1000000000) ∧ (-1000000000 ≤ Int.tdiv a b ∧ Int.tdiv a b ≤ 1000000000) := by
  have h1 : a.natAbs ≤ 1000000000 := by omega
  have h2 : (Int.tmod a b).natAbs = a.natAbs % b.natAbs := Int.natAbs_tmod a b
  have h3 : (Int.tdiv a b).natAbs = a.natAbs / b.natAbs := Int.natAbs_tdiv a b
  have h4 : a.natAbs % b.natAbs ≤ a.natAbs := Nat.mod_le _ _
  have h5 : a.natAbs / b.natAbs ≤ a.natAbs := Nat.div_le_self _ _
  omega
theorem c_joined {c a b : Int} {σ : Sg} (hc : -100 ≤ c ∧ c ≤ 0) (ha : vOk a) (hb : vOk b) : vX5_joined c a b σ = some (jn c a b) := by
  have bb : BR = -2000000000 := rfl
  unfold vX5_joined jn
  by_cases h1 : c = -2
  · rw [if_pos h1, if_pos h1]
    by_cases q : a = 0
    · rw [if_pos q, if_pos q]
    · rw [if_neg q, if_neg q]
  · rw [if_neg h1, if_neg h1]
    by_cases h2 : c = -3
    · rw [if_pos h2, if_pos h2]
      by_cases q : a = 1
      · rw [if_pos q, if_pos q]
      · rw [if_neg q, if_neg q]
    · rw [if_neg h2, if_neg h2]
      by_cases h3 : a = BR
      · rw [if_pos (show a = -2000000000 from h3), if_pos h3]; rfl
      · rw [if_neg (show ¬ a = -2000000000 from h3), if_neg h3]
        by_cases h4 : b = BR
        · rw [if_pos (show b = -2000000000 from h4), if_pos h4]; rfl
        · rw [if_neg (show ¬ b = -2000000000 from h4), if_neg h4]
          have va := vOk_n ha h3
          have vb := vOk_n hb h4
          have tr := tm_r (b := b) va
          have mb := mul_q va vb
          rw [ck_p (by omega)]
          by_cases d1 : c = -37
          · rw [if_pos (show -c = 37 by omega), if_pos d1]
            by_cases q : b = 0
            · rw [if_pos q, if_pos q]; unfold vX5_joined_175; rw [c_j218]; rfl
            · rw [if_neg q, if_neg q, ck_p ⟨q, by omega⟩]; unfold vX5_joined_175; rw [c_j218]
          · rw [if_neg (show ¬ -c = 37 by omega), if_neg d1]
            by_cases d2 : c = -42
            · rw [if_pos (show -c = 42 by omega), if_pos d2, ck_p (by omega), nm_eq, c_j218]
            · rw [if_neg (show ¬ -c = 42 by omega), if_neg d2]
              by_cases d3 : c = -43
              · rw [if_pos (show -c = 43 by omega), if_pos d3, ck_p (by omega), nm_eq, c_j218]
              · rw [if_neg (show ¬ -c = 43 by omega), if_neg d3]
                by_cases d4 : c = -45
                · rw [if_pos (show -c = 45 by omega), if_pos d4, ck_p (by omega), nm_eq, c_j218]
                · rw [if_neg (show ¬ -c = 45 by omega), if_neg d4]
                  by_cases d5 : c = -47
                  · rw [if_pos (show -c = 47 by omega), if_pos d5]
                    by_cases q : b = 0
                    · rw [if_pos q, if_pos q]; unfold vX5_joined_157; rw [c_j218]; rfl
                    · rw [if_neg q, if_neg q, ck_p ⟨q, by omega⟩]; unfold vX5_joined_157; rw [c_j218]
                  · rw [if_neg (show ¬ -c = 47 by omega), if_neg d5]
                    by_cases d6 : c = -60
                    · rw [if_pos (show -c = 60 by omega), if_pos d6]
                      by_cases q : a < b
                      · rw [if_pos q, if_pos q]; unfold vX5_joined_189; rw [c_j218]; rfl
                      · rw [if_neg q, if_neg q]; unfold vX5_joined_189; rw [c_j218]; rfl
                    · rw [if_neg (show ¬ -c = 60 by omega), if_neg d6]
                      by_cases d7 : c = -62
                      · rw [if_pos (show -c = 62 by omega), if_pos d7]
                        by_cases q : b < a
                        · rw [if_pos q, if_pos q]; unfold vX5_joined_203; rw [c_j218]; rfl
                        · rw [if_neg q, if_neg q]; unfold vX5_joined_203; rw [c_j218]; rfl
                      · rw [if_neg (show ¬ -c = 62 by omega), if_neg d7]
                        by_cases q : a = b
                        · rw [if_pos q, if_pos q]; unfold vX5_joined_217; rw [c_j218]; rfl
                        · rw [if_neg q, if_neg q]; unfold vX5_joined_217; rw [c_j218]; rfl
theorem lst3 : ∀ st : List Int, st = [] ∨ (∃ x, st = [x]) ∨ ∃ b a r, st = b :: a :: r
  | [] => Or.inl rfl
  | [x] => Or.inr (Or.inl ⟨x, rfl⟩)
  | b :: a :: r => Or.inr (Or.inr ⟨b, a, r, rfl⟩)
theorem c_val_10 {K : Kt} {q t W M nW z : Nat} {w : Nat → Int} (hw : wOk w) (hq : IsC K q 7) (e5 : K.1 q 5 = some t) (hat : IsA K t 20 M) (haw : IsA K W 20 nW) (hq1 : q ≠ 11) (ht1 : t ≠ 11) (hW1 : W ≠ 11) (hz : z ≤ M) (hM : M ≤ 400) (hnW : nW ≤ 100) : ∀ (cs : List Int) (f i : Nat) (st : List Int) (σ : Sg) (v : Int), cs.length < f → okC nW w cs st → (∀ j y, cs[j]? = some y → σ t (i + j) = y) → i + cs.length ≤ z → (i + cs.length < z → σ t (i + cs.length) = -1) → σ q 7 = (z : Int) → (∀ j : Nat, j < nW → σ W j = w j) → Stk σ 11 st → st.length ≤ 50 → runC w cs st = [v] →
    T (vX5_value_10 K f q W (st.length : Int) (i : Int) σ) (fun p => p.1 = v ∧ Sme (fun k => k = 11) σ p.2) := by
  have mt : (K.2.1 t).2 = M := by rw [hat.2]
  have mw : (K.2.1 W).2 = nW := by rw [haw.2]
  intro cs
  induction cs with
  | nil =>
    intro f i st σ v hf ok hcd hi hs hz7 hww hst hl hr
    cases f with
    | zero => cases hf
    | succ f =>
      have e : st = [v] := hr
      subst e
      have v0 : σ 11 0 = v := hst 0 v rfl
      have fin : T (vX5_value_205 K (([v] : List Int).length : Int) σ) (fun p => p.1 = v ∧ Sme (fun k => k = 11) σ p.2) := by
        unfold vX5_value_205
        refine T_t (by show (0 : Int) < 1; omega) (T_some ⟨v0, Sme_r⟩)
      rw [vX5_value_10, hz7, e5, Option.bind_some, mt]
      refine T_ckP hq (T_ite (fun h => ?_) (fun h => fin))
      rw [List.length_nil, Nat.add_zero] at hs
      refine T_ckP hq (T_ckP hat (T_ck (by omega) (T_nm ?_)))
      rw [Int.toNat_natCast, hs (by omega)]
      exact T_t rfl fin
  | cons c cs ih =>
    intro f i st σ v hf ok hcd hi hs hz7 hww hst hl hr
    rw [List.length_cons] at hf hi hs
    cases f with
    | zero => omega
    | succ f =>
      obtain ⟨⟨o1, o2, o3, o4⟩, ok2⟩ := ok
      have ec : σ t i = c := hcd 0 c rfl
      have cd2 : ∀ j y, cs[j]? = some y → σ t (i + 1 + j) = y := fun j y hy => by
        rw [show i + 1 + j = i + (j + 1) by omega]
        exact hcd (j + 1) y (by rw [List.getElem?_cons_succ]; exact hy)
      -- what is left, over a row of its own
      have go : ∀ (st' : List Int) (τ : Sg), Sme (fun k => k = 11) σ τ → Stk τ 11 st' → st'.length ≤ 50 → stC w c st = st' → T (vX5_value_10 K f q W (st'.length : Int) ((i : Int) + 1) τ) (fun p => p.1 = v ∧ Sme (fun k => k = 11) σ p.2) := by
        intro st' τ h1 h2 h3 h4
        rw [show (i : Int) + 1 = ((i + 1 : Nat) : Int) by omega]
        have a := h1 t ht1
        have b := h1 q hq1
        have d := h1 W hW1
        rw [h4] at ok2
        refine T_mono (ih f (i + 1) st' τ v (by omega) ok2 (fun j y hy => by rw [a]; exact cd2 j y hy) (by omega) (fun h => by rw [a, show i + 1 + cs.length = i + (cs.length + 1) by omega]; exact hs (by omega)) (by rw [b]; exact hz7) (fun j hj => by rw [d]; exact hww j hj) h2 h3 (by rw [← h4]; exact hr)) (fun p hp => ⟨hp.1, Sme_t h1 hp.2⟩)
      rw [vX5_value_10, hz7, e5, Option.bind_some, mt, mw]
      refine T_ckP hq (T_t (by omega) (T_ckP hq (T_ckP hat (T_ck (by omega) (T_nm ?_)))))
      rw [Int.toNat_natCast, ec]
      have n1 : c ≠ -1 := fun h => by
        have := o3 (by omega)
        omega
      refine T_f n1 ?_
      by_cases h2000 : c < 2000
      · refine T_t h2000 ?_
        by_cases h0 : c < 0
        · refine T_t h0 ?_
          have o3 := o3 h0
          by_cases h4 : c = -4
          · obtain ⟨a, r, e, ta⟩ := o4 h4
            subst e
            obtain ⟨k1, k2⟩ := Stk_d hst
            have zs : stC w c (a :: r) = nt a :: r := by unfold stC; rw [if_pos h4]
            have vl : (((a :: r : List Int).length : Nat) : Int) - 1 = ((r.length : Nat) : Int) := by rw [List.length_cons]; omega
            rw [List.length_cons] at hl
            refine T_t h4 (T_t (by rw [List.length_cons]; omega) ?_)
            rw [vl]
            refine T_ck (by omega) (T_ck (by omega) ?_)
            rw [Int.toNat_natCast, k2]
            refine T_ite (fun hb => ?_) (fun hb => ?_)
            · refine T_ck (by omega) ?_
              refine go (a :: r) σ Sme_r hst (by rw [List.length_cons]; exact hl) ?_
              rw [zs]
              unfold nt
              rw [if_pos (show a = BR from hb), show a = BR from hb]
            · have a01 : a = 0 ∨ a = 1 := by
                unfold tOk at ta
                have : a ≠ BR := hb
                omega
              refine T_ck (by omega) (T_ck (by omega) (T_ck (by omega) (T_ck (by omega) (T_ck (by omega) (T_nm (T_ck (by omega) ?_))))))
              have g := go (nt a :: r) (up2 σ 11 r.length (1 - a)) (Sme_u Sme_r rfl) ?_ (by rw [List.length_cons]; exact hl) zs
              · rw [List.length_cons] at g ⊢; exact g
              · have := Stk_p (v := 1 - a) k1
                unfold nt
                rw [if_neg (show ¬ a = BR from hb)]
                exact this
          · refine T_f h4 ?_
            rcases lst3 st with e | ⟨x, e⟩ | ⟨b, a, r, e⟩
            · subst e
              refine T_f (by show ¬ (1 : Int) < 0; omega) (T_ck (by omega) ?_)
              exact go [] σ Sme_r hst hl (by unfold stC; rw [if_neg h4, if_pos h0])
            · subst e
              refine T_f (by show ¬ (1 : Int) < 1; omega) (T_ck (by omega) ?_)
              exact go [x] σ Sme_r hst hl (by unfold stC; rw [if_neg h4, if_pos h0])
            · subst e
              have zs : stC w c (b :: a :: r) = jn c a b :: r := by unfold stC; rw [if_neg h4, if_pos h0]
              obtain ⟨k1, k2⟩ := Stk_d hst
              obtain ⟨k3, k4⟩ := Stk_d k1
              rw [List.length_cons] at k2
              rw [List.length_cons, List.length_cons] at hl
              have l1 : (((b :: a :: r : List Int).length : Nat) : Int) + -1 = ((r.length + 1 : Nat) : Int) := by rw [List.length_cons, List.length_cons]; omega
              have l2 : ((r.length + 1 : Nat) : Int) - 1 = ((r.length : Nat) : Int) := by omega
              refine T_t (by rw [List.length_cons, List.length_cons]; omega) ?_
              rw [l1, l2]
              refine T_ck (by omega) (T_ck (by omega) (T_ck (by omega) (T_ck (by omega) (T_ck (by omega) ?_))))
              rw [Int.toNat_natCast, Int.toNat_natCast, k2, k4, c_joined (by omega) (o1 a (List.mem_cons_of_mem _ List.mem_cons_self)) (o1 b List.mem_cons_self), Option.bind_some]
              refine T_ck (by omega) (T_nm (T_ck (by omega) ?_))
              have g := go (jn c a b :: r) (up2 σ 11 r.length (jn c a b)) (Sme_u Sme_r rfl) (Stk_p k3) (by rw [List.length_cons]; omega) zs
              rw [List.length_cons] at g
              exact g
        · refine T_f h0 ?_
          obtain ⟨p1, p2, p3⟩ := o2 (by omega)
          have zs : stC w c st = c :: st := by unfold stC; rw [if_neg (by omega), if_neg h0, if_pos h2000]
          refine T_t (by omega) (T_ck (by omega) (T_nm (T_ck (by omega) (T_ck (by omega) ?_))))
          rw [Int.toNat_natCast]
          have g := go (c :: st) (up2 σ 11 st.length c) (Sme_u Sme_r rfl) (Stk_p hst) (by rw [List.length_cons]; omega) zs
          rw [List.length_cons, show ((st.length + 1 : Nat) : Int) = (st.length : Int) + 1 by omega] at g
          exact g
      · obtain ⟨p1, p2, p3⟩ := o2 (by omega)
        have zs : stC w c st = w (c - 2000).toNat :: st := by unfold stC; rw [if_neg (by omega), if_neg (by omega), if_neg h2000]
        refine T_f h2000 (T_t (by omega) (T_ck (by omega) (T_ckP haw (T_ck (by omega) (T_t (by omega) (T_ck (by omega) (T_ckP haw (T_ck (by omega) (T_ck (by omega) (T_nm (T_ck (by omega) (T_ck (by omega) ?_))))))))))))
        rw [Int.toNat_natCast, hww _ (by omega)]
        have g := go (w (c - 2000).toNat :: st) (up2 σ 11 st.length (w (c - 2000).toNat)) (Sme_u Sme_r rfl) (Stk_p hst) (by rw [List.length_cons]; omega) zs
        rw [List.length_cons, show ((st.length + 1 : Nat) : Int) = (st.length : Int) + 1 by omega] at g
        exact g
