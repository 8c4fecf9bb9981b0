theorem c_val {K : Kt} {q t W M nW z s l : Nat} {w : Nat → Int} {cs : List Int} {E : (Nat → Int) → Int} {σ : Sg} (h : SegC nW cs l E) (hl : l ≤ 50) (hw : wOk w) (hq : IsC K q 7) (e5 : K.1 q 5 = some t) (hat : IsA K t 20 M) (haw : IsA K W 20 nW) (hq1 : q ≠ 11) (ht1 : t ≠ 11) (hW1 : W ≠ 11) (hz : z ≤ M) (hM : M ≤ 400) (hnW : nW ≤ 100) (hcd : ∀ j y, cs[j]? = some y → σ t (s + j) = y) (hi : s + cs.length ≤ z) (hs : s + cs.length < z → σ t (s + cs.length) = -1) (hz7 : σ q 7 = (z : Int)) (hww : ∀ j : Nat, j < nW → σ W j = w j) : T (vX5_value K q (s : Int) W σ) (fun p => p.1 = E w ∧ Sme (fun k => k = 11) σ p.2) := by
  obtain ⟨o1, o2⟩ := h.2 w hw [] (fun x hx => by cases hx) (by show 0 + l ≤ 50; omega)
  unfold vX5_value
  have e : imax 0 (s : Int) = (s : Int) := by unfold imax; split <;> omega
  rw [nm_eq, e]
  exact c_val_10 hw hq e5 hat haw hq1 ht1 hW1 hz hM hnW cs FU s [] σ (E w) (by have := FU_b; omega) o1 hcd hi hs hz7 hww (fun j x hx => by simp at hx) (by show 0 ≤ 50; omega) o2
/-! ===== the reference reckons ===== -/
def Rk (σ σ' : Sg) : Prop := (∀ c, c ≠ 104 → c ≠ 84 → σ' c = σ c) ∧ ∀ j, j ≠ 38 → σ' 84 j = σ 84 j
theorem Rk_r {σ : Sg} : Rk σ σ := ⟨fun _ _ _ => rfl, fun _ _ => rfl⟩
theorem Rk_t {σ σ' σ'' : Sg} (h : Rk σ σ') (h' : Rk σ' σ'') : Rk σ σ'' := ⟨fun c a b => (h'.1 c a b).trans (h.1 c a b), fun j a => (h'.2 j a).trans (h.2 j a)⟩
theorem Rk_u {σ : Sg} {j : Nat} {z : Int} : Rk σ (up2 σ 104 j z) := ⟨fun c a _ => by rw [up2_o a], fun i _ => by rw [up2_o (by omega)]⟩
theorem Rk_8 {σ : Sg} {z : Int} : Rk σ (up2 σ 84 38 z) := ⟨fun c _ a => by rw [up2_o a], fun i a => by rw [up2_c, upw_n a]⟩
/-- how the reference reads its code and its words -/
def Md (ord : Int) (w : Nat → Int) (op ar : Nat → Int) (lo hi : Nat) (σ : Sg) : Prop := ∀ σ', Rk σ σ' → (∀ (f : Nat) (x2 n : Int) (k : Nat), lo ≤ k → k < hi → (k : Int) < x2 → σ' 84 38 = 0 → vX10_reckonAll_10 (f + 1) x2 n (k : Int) σ' = vX10_reckonAll_95 (vX10_reckonAll_10 f) x2 n (k : Int) (op k) (ar k) σ') ∧ (∀ (rec : Int → Int → Int → Sg → Option Sg) (x2 n : Int) (k : Nat) (o a : Int), k < 400 → lfOk ord o a → o < 20 → vX10_reckonAll_95 rec x2 n (k : Int) o a σ' = vX10_reckonAll_236 rec x2 n ((k : Int) + 1) n (lvl w (lf ord o a)) σ')
theorem jn_k {c a b : Int} (h2 : c ≠ -2) (h3 : c ≠ -3) (a1 : a ≠ BR) (b1 : b ≠ BR) : jn c a b = if c = -37 then (if b = 0 then BR else clp (Int.tmod a b)) else if c = -42 then clp (a * b) else if c = -43 then clp (a + b) else if c = -45 then clp (a - b) else if c = -47 then (if b = 0 then BR else clp (Int.tdiv a b)) else if c = -60 then (if a < b then 1 else 0) else if c = -62 then (if b < a then 1 else 0) else (if a = b then 1 else 0) := by
  unfold jn
  rw [if_neg h2, if_neg h3, if_neg a1, if_neg b1]
theorem jn_c {o a b : Int} (a1 : a ≠ BR) (b1 : b ≠ BR) : jn (cOf o) a b = if o = 20 then clp (a + b) else if o = 21 then clp (a - b) else if o = 22 then clp (a * b) else if o = 23 then (if b = 0 then BR else clp (Int.tdiv a b)) else if o = 24 then (if b = 0 then BR else clp (Int.tmod a b)) else if o = 25 then (if a < b then 1 else 0) else if o = 26 then (if b < a then 1 else 0) else (if a = b then 1 else 0) := by
  have k := cOf_k (o := o)
  rw [jn_k (by omega) (by omega) a1 b1]
  by_cases d0 : o = 20
  · have e : cOf o = -43 := by unfold cOf; rw [if_pos d0]
    rw [e, if_neg (show ¬ (-43 : Int) = -37 by decide), if_neg (show ¬ (-43 : Int) = -42 by decide), if_pos rfl, if_pos d0]
  · skip
    by_cases d1 : o = 21
    · have e : cOf o = -45 := by unfold cOf; rw [if_neg d0, if_pos d1]
      rw [e, if_neg (show ¬ (-45 : Int) = -37 by decide), if_neg (show ¬ (-45 : Int) = -42 by decide), if_neg (show ¬ (-45 : Int) = -43 by decide), if_pos rfl, if_neg d0, if_pos d1]
    · skip
      by_cases d2 : o = 22
      · have e : cOf o = -42 := by unfold cOf; rw [if_neg d0, if_neg d1, if_pos d2]
        rw [e, if_neg (show ¬ (-42 : Int) = -37 by decide), if_pos rfl, if_neg d0, if_neg d1, if_pos d2]
      · skip
        by_cases d3 : o = 23
        · have e : cOf o = -47 := by unfold cOf; rw [if_neg d0, if_neg d1, if_neg d2, if_pos d3]
          rw [e, if_neg (show ¬ (-47 : Int) = -37 by decide), if_neg (show ¬ (-47 : Int) = -42 by decide), if_neg (show ¬ (-47 : Int) = -43 by decide), if_neg (show ¬ (-47 : Int) = -45 by decide), if_pos rfl, if_neg d0, if_neg d1, if_neg d2, if_pos d3]
        · skip
          by_cases d4 : o = 24
          · have e : cOf o = -37 := by unfold cOf; rw [if_neg d0, if_neg d1, if_neg d2, if_neg d3, if_pos d4]
            rw [e, if_pos rfl, if_neg d0, if_neg d1, if_neg d2, if_neg d3, if_pos d4]
          · skip
            by_cases d5 : o = 25
            · have e : cOf o = -60 := by unfold cOf; rw [if_neg d0, if_neg d1, if_neg d2, if_neg d3, if_neg d4, if_pos d5]
              rw [e, if_neg (show ¬ (-60 : Int) = -37 by decide), if_neg (show ¬ (-60 : Int) = -42 by decide), if_neg (show ¬ (-60 : Int) = -43 by decide), if_neg (show ¬ (-60 : Int) = -45 by decide), if_neg (show ¬ (-60 : Int) = -47 by decide), if_pos rfl, if_neg d0, if_neg d1, if_neg d2, if_neg d3, if_neg d4, if_pos d5]
            · skip
              by_cases d6 : o = 26
              · have e : cOf o = -62 := by unfold cOf; rw [if_neg d0, if_neg d1, if_neg d2, if_neg d3, if_neg d4, if_neg d5, if_pos d6]
                rw [e, if_neg (show ¬ (-62 : Int) = -37 by decide), if_neg (show ¬ (-62 : Int) = -42 by decide), if_neg (show ¬ (-62 : Int) = -43 by decide), if_neg (show ¬ (-62 : Int) = -45 by decide), if_neg (show ¬ (-62 : Int) = -47 by decide), if_neg (show ¬ (-62 : Int) = -60 by decide), if_pos rfl, if_neg d0, if_neg d1, if_neg d2, if_neg d3, if_neg d4, if_neg d5, if_pos d6]
              · skip
                have e : cOf o = -61 := by unfold cOf; rw [if_neg d0, if_neg d1, if_neg d2, if_neg d3, if_neg d4, if_neg d5, if_neg d6]
                rw [e, if_neg (show ¬ (-61 : Int) = -37 by decide), if_neg (show ¬ (-61 : Int) = -42 by decide), if_neg (show ¬ (-61 : Int) = -43 by decide), if_neg (show ¬ (-61 : Int) = -45 by decide), if_neg (show ¬ (-61 : Int) = -47 by decide), if_neg (show ¬ (-61 : Int) = -60 by decide), if_neg (show ¬ (-61 : Int) = -62 by decide), if_neg d0, if_neg d1, if_neg d2, if_neg d3, if_neg d4, if_neg d5, if_neg d6]
theorem m_rkn {o a b : Int} {σ : Sg} (ho : 20 ≤ o ∧ o < 28) (ha : -1000000000 ≤ a ∧ a ≤ 1000000000) (hb : -1000000000 ≤ b ∧ b ≤ 1000000000) (h38 : σ 84 38 = 0) : ∃ v σ', vX10_reckon o a b σ = some (v, σ') ∧ Rk σ σ' ∧ (∀ j, σ' 104 j = σ 104 j) ∧ ((jn (cOf o) a b = BR ∧ (σ' 84 38 = 1 ∨ (σ' 84 38 = 0 ∧ ¬ (-1000000000 ≤ v ∧ v ≤ 1000000000)))) ∨ (jn (cOf o) a b = v ∧ v ≠ BR ∧ σ' 84 38 = 0 ∧ (-1000000000 ≤ v ∧ v ≤ 1000000000))) := by
  have bb : BR = -2000000000 := rfl
  have a1 : a ≠ BR := by omega
  have b1 : b ≠ BR := by omega
  have mb := mul_q ha hb
  have tr := tm_r (b := b) ha
  have e38 : σ = up2 σ 84 38 0 := by
    funext c j
    by_cases q : c = 84
    · subst q
      by_cases q2 : j = 38
      · subst q2; rw [up2_c, upw_s]; exact h38
      · rw [up2_c, upw_n q2]
    · rw [up2_o q]
  have ar : ∀ v : Int, ((clp v = BR ∧ (σ 84 38 = 1 ∨ (σ 84 38 = 0 ∧ ¬ (-1000000000 ≤ v ∧ v ≤ 1000000000)))) ∨ (clp v = v ∧ v ≠ BR ∧ σ 84 38 = 0 ∧ (-1000000000 ≤ v ∧ v ≤ 1000000000))) := by
    intro v
    by_cases q : -1000000000 ≤ v ∧ v ≤ 1000000000
    · exact Or.inr ⟨clp_k q, by omega, h38, q⟩
    · refine Or.inl ⟨?_, Or.inr ⟨h38, q⟩⟩
      unfold clp
      by_cases q1 : 1000000000 < v
      · rw [if_pos q1]
      · rw [if_neg q1, if_pos (by omega)]
  rw [jn_c a1 b1]
  unfold vX10_reckon
  by_cases d0 : o = 20
  · rw [if_pos d0, if_pos d0, ck_p (by omega)]
    exact ⟨_, σ, rfl, Rk_r, fun _ => rfl, ar _⟩
  · rw [if_neg d0, if_neg d0]
    by_cases d1 : o = 21
    · rw [if_pos d1, if_pos d1, ck_p (by omega)]
      exact ⟨_, σ, rfl, Rk_r, fun _ => rfl, ar _⟩
    · rw [if_neg d1, if_neg d1]
      by_cases d2 : o = 22
      · rw [if_pos d2, if_pos d2, ck_p (by omega)]
        exact ⟨_, σ, rfl, Rk_r, fun _ => rfl, ar _⟩
      · rw [if_neg d2, if_neg d2]
        by_cases d3 : o = 23
        · rw [if_pos d3, if_pos d3]
          by_cases q : b = 0
          · rw [if_pos q, if_pos q]
            unfold vX10_reckon_72
            rw [ck_p (by omega), nm_eq, if_neg (by rw [up2_c, upw_s]; omega)]
            exact ⟨_, _, rfl, Rk_8, fun _ => by rw [up2_o (by omega)], Or.inl ⟨rfl, Or.inl (by rw [up2_c, upw_s])⟩⟩
          · rw [if_neg q, if_neg q]
            unfold vX10_reckon_72
            rw [ck_p (by omega), nm_eq, ← e38, if_pos h38, ck_p ⟨q, by omega⟩]
            exact ⟨_, σ, rfl, Rk_r, fun _ => rfl, ar _⟩
        · rw [if_neg d3, if_neg d3]
          by_cases d4 : o = 24
          · rw [if_pos d4, if_pos d4]
            by_cases q : b = 0
            · rw [if_pos q, if_pos q]
              unfold vX10_reckon_104
              rw [ck_p (by omega), nm_eq, if_neg (by rw [up2_c, upw_s]; omega)]
              exact ⟨_, _, rfl, Rk_8, fun _ => by rw [up2_o (by omega)], Or.inl ⟨rfl, Or.inl (by rw [up2_c, upw_s])⟩⟩
            · rw [if_neg q, if_neg q]
              unfold vX10_reckon_104
              rw [ck_p (by omega), nm_eq, ← e38, if_pos h38, ck_p ⟨q, by omega⟩]
              exact ⟨_, σ, rfl, Rk_r, fun _ => rfl, ar _⟩
          · rw [if_neg d4, if_neg d4]
            have o1 : (1 : Int) = 1 ∧ (1 : Int) ≠ BR ∧ σ 84 38 = 0 ∧ (-1000000000 ≤ (1 : Int) ∧ (1 : Int) ≤ 1000000000) := ⟨rfl, by omega, h38, by omega⟩
            have o0 : (0 : Int) = 0 ∧ (0 : Int) ≠ BR ∧ σ 84 38 = 0 ∧ (-1000000000 ≤ (0 : Int) ∧ (0 : Int) ≤ 1000000000) := ⟨rfl, by omega, h38, by omega⟩
            by_cases d5 : o = 25
            · rw [if_pos d5, if_pos d5]
              by_cases q : a < b
              · rw [if_pos q, if_pos q]; exact ⟨1, σ, rfl, Rk_r, fun _ => rfl, Or.inr o1⟩
              · rw [if_neg q, if_neg q]; exact ⟨0, σ, rfl, Rk_r, fun _ => rfl, Or.inr o0⟩
            · rw [if_neg d5, if_neg d5]
              by_cases d6 : o = 26
              · rw [if_pos d6, if_pos d6]
                by_cases q : b < a
                · rw [if_pos q, if_pos q]; exact ⟨1, σ, rfl, Rk_r, fun _ => rfl, Or.inr o1⟩
                · rw [if_neg q, if_neg q]; exact ⟨0, σ, rfl, Rk_r, fun _ => rfl, Or.inr o0⟩
              · rw [if_neg d6, if_neg d6]
                by_cases q : a = b
                · rw [if_pos q, if_pos q]; exact ⟨1, σ, rfl, Rk_r, fun _ => rfl, Or.inr o1⟩
                · rw [if_neg q, if_neg q]; exact ⟨0, σ, rfl, Rk_r, fun _ => rfl, Or.inr o0⟩
