/-! ===== a tape's tokens ===== -/
def dg (c : Int) : Prop := 48 ≤ c ∧ c ≤ 57
def nvC (bs : List Int) : Int := bs.foldl (fun x c => imin 1001 (x * 10 + c - 48)) 0
def nvM (bs : List Int) : Int := bs.foldl (fun x c => if 1000000 < x then x else x * 10 + c - 48) 0
theorem imin_v {a b : Int} : (b < a → imin a b = b) ∧ (a ≤ b → imin a b = a) := by
  unfold imin
  exact ⟨fun h => if_pos h, fun h => if_neg (by omega)⟩
theorem nv_go : ∀ (bs : List Int) (x y : Int), (∀ c ∈ bs, dg c) → ((x = y ∧ 0 ≤ y ∧ y ≤ 1000) ∨ (x = 1001 ∧ 1001 ≤ y ∧ y ≤ 10000009)) → (bs.foldl (fun x c => imin 1001 (x * 10 + c - 48)) x = bs.foldl (fun x c => if 1000000 < x then x else x * 10 + c - 48) y ∧ 0 ≤ bs.foldl (fun x c => if 1000000 < x then x else x * 10 + c - 48) y ∧ bs.foldl (fun x c => if 1000000 < x then x else x * 10 + c - 48) y ≤ 1000) ∨ (bs.foldl (fun x c => imin 1001 (x * 10 + c - 48)) x = 1001 ∧ 1001 ≤ bs.foldl (fun x c => if 1000000 < x then x else x * 10 + c - 48) y ∧ bs.foldl (fun x c => if 1000000 < x then x else x * 10 + c - 48) y ≤ 10000009)
  | [], x, y, _, h => h
  | c :: bs, x, y, hc, h => by
    rw [List.foldl_cons, List.foldl_cons]
    have h1 := hc c List.mem_cons_self
    unfold dg at h1
    have i1 := (imin_v (a := 1001) (b := x * 10 + c - 48)).1
    have i2 := (imin_v (a := 1001) (b := x * 10 + c - 48)).2
    refine nv_go bs _ _ (fun d hd => hc d (List.mem_cons_of_mem _ hd)) ?_
    by_cases q : 1000000 < y
    · rw [if_pos q]; omega
    · rw [if_neg q]; omega
theorem nv_rel {bs : List Int} (h : ∀ c ∈ bs, dg c) : (nvC bs = nvM bs ∧ 0 ≤ nvM bs ∧ nvM bs ≤ 1000) ∨ (nvC bs = 1001 ∧ 1001 ≤ nvM bs ∧ nvM bs ≤ 10000009) := nv_go bs 0 0 h (by omega)
/-- a token from s to e -/
def TK (b : Nat → Int) (n s e : Nat) (t : Int) : Prop := s < e ∧ e ≤ n ∧ b s ≠ 32 ∧ ((small (b s) ∧ (∀ q, s ≤ q → q < e → small (b q)) ∧ (e < n → ¬ small (b e)) ∧ t = wfind wl 0 (sub b s (e - s))) ∨ (dg (b s) ∧ (∀ q, s ≤ q → q < e → dg (b q)) ∧ (e < n → ¬ dg (b e)) ∧ t = 1000 + nvC (sub b s (e - s))) ∨ (¬ small (b s) ∧ ¬ dg (b s) ∧ e = s + 1 ∧ t = b s))
/-- blanks -/
def Sp (b : Nat → Int) (a c : Nat) : Prop := a ≤ c ∧ ∀ q, a ≤ q → q < c → b q = 32
/-- the tokens of a tape: where each starts, and where the one ahead of it ended -/
def Tks (b : Nat → Int) (n : Nat) (tk : Nat → Int) (pl st : Nat → Nat) (N : Nat) : Prop := N ≤ n ∧ st 0 = 0 ∧ (∀ i, i < N → Sp b (st i) (pl i) ∧ TK b n (pl i) (st (i + 1)) (tk i)) ∧ Sp b (st N) n ∧ pl N = n ∧ tk N = 256
theorem c_isL {c : Int} {σ : Sg} : vX4_isLetter c σ = some (bI (small c)) := by
  unfold vX4_isLetter small
  by_cases h1 : c < 97
  · rw [if_pos h1, bI_f (by omega)]
  · rw [if_neg h1]
    by_cases h2 : 122 < c
    · rw [if_pos h2, bI_f (by omega)]
    · rw [if_neg h2, bI_t (by omega)]
theorem c_isD {c : Int} {σ : Sg} : vX4_isDigit c σ = some (bI (dg c)) := by
  unfold vX4_isDigit dg
  by_cases h1 : c < 48
  · rw [if_pos h1, bI_f (by omega)]
  · rw [if_neg h1]
    by_cases h2 : 57 < c
    · rw [if_pos h2, bI_f (by omega)]
    · rw [if_neg h2, bI_t (by omega)]
theorem c_scanL {K : Kt} {rec : Int → Int → Sg → Option Sg} {x1 : Int} {p n : Nat} {σ : Sg} {Q : Sg → Prop} (h61 : σ 61 1 = (n : Int)) (hn : n ≤ 400) (cont : ∀ e : Nat, p < e → e ≤ n → (∀ q, p ≤ q → q < e → small (σ 62 q)) → (e < n → ¬ small (σ 62 e)) → T (vX4_split_84 K rec x1 (p : Int) (e : Int) σ) Q) : ∀ (f x : Nat), n - x < f → p < x → x ≤ n → (∀ q, p ≤ q → q < x → small (σ 62 q)) → T (vX4_split_52 K rec f x1 (p : Int) (x : Int) σ) Q := by
  intro f
  induction f with
  | zero => intro x h; omega
  | succ f ih =>
    intro x hf hp hx hs
    rw [vX4_split_52, h61]
    refine T_ite (fun h => ?_) (fun h => ?_)
    · refine T_ck (by omega) ?_
      rw [Int.toNat_natCast, c_isL, Option.bind_some]
      by_cases q : small (σ 62 x)
      · rw [bI_t q]
        refine T_f (by omega) (T_ck (by omega) ?_)
        rw [show (x : Int) + 1 = ((x + 1 : Nat) : Int) by omega]
        refine ih (x + 1) (by omega) (by omega) (by omega) (fun r r1 r2 => ?_)
        by_cases e : r = x
        · rw [e]; exact q
        · exact hs r r1 (by omega)
      · rw [bI_f q]
        exact T_t rfl (cont x hp hx hs (fun _ => q))
    · exact cont x hp hx hs (fun _ => by omega)
theorem c_scanD {K : Kt} {rec : Int → Int → Sg → Option Sg} {x1 : Int} {p n : Nat} {σ : Sg} {Q : Sg → Prop} (h61 : σ 61 1 = (n : Int)) (hn : n ≤ 400) (cont : ∀ e : Nat, p < e → e ≤ n → (∀ q, p ≤ q → q < e → dg (σ 62 q)) → (e < n → ¬ dg (σ 62 e)) → T (vX4_split_139 K rec x1 (p : Int) (e : Int) σ) Q) : ∀ (f x : Nat), n - x < f → p < x → x ≤ n → (∀ q, p ≤ q → q < x → dg (σ 62 q)) → T (vX4_split_107 K rec f x1 (p : Int) (x : Int) σ) Q := by
  intro f
  induction f with
  | zero => intro x h; omega
  | succ f ih =>
    intro x hf hp hx hs
    rw [vX4_split_107, h61]
    refine T_ite (fun h => ?_) (fun h => ?_)
    · refine T_ck (by omega) ?_
      rw [Int.toNat_natCast, c_isD, Option.bind_some]
      by_cases q : dg (σ 62 x)
      · rw [bI_t q]
        refine T_f (by omega) (T_ck (by omega) ?_)
        rw [show (x : Int) + 1 = ((x + 1 : Nat) : Int) by omega]
        refine ih (x + 1) (by omega) (by omega) (by omega) (fun r r1 r2 => ?_)
        by_cases e : r = x
        · rw [e]; exact q
        · exact hs r r1 (by omega)
      · rw [bI_f q]
        exact T_t rfl (cont x hp hx hs (fun _ => q))
    · exact cont x hp hx hs (fun _ => by omega)
theorem c_num_5 {K : Kt} {σ : Sg} {e : Nat} (he : e ≤ 400) : ∀ (f x : Nat) (y : Int), e - x < f → x ≤ e → (∀ q, x ≤ q → q < e → dg (σ 62 q)) → (0 ≤ y ∧ y ≤ 1001) → T (vX4_numberToken_5 K σ f (e : Int) y (x : Int)) (fun r => r = 1000 + (sub (σ 62) x (e - x)).foldl (fun x c => imin 1001 (x * 10 + c - 48)) y) := by
  intro f
  induction f with
  | zero => intro x y h; omega
  | succ f ih =>
    intro x y hf hx hd hy
    rw [vX4_numberToken_5]
    refine T_ite (fun h => ?_) (fun h => ?_)
    · have d := hd x (by omega) (by omega)
      unfold dg at d
      rw [Int.toNat_natCast]
      refine T_ck (by omega) (T_ck (by omega) (T_ck (by omega) (T_ck (by omega) (T_nm (T_ck (by omega) ?_)))))
      have i1 := (imin_v (a := 1001) (b := y * 10 + σ 62 x - 48)).1
      have i2 := (imin_v (a := 1001) (b := y * 10 + σ 62 x - 48)).2
      rw [show (x : Int) + 1 = ((x + 1 : Nat) : Int) by omega]
      refine T_mono (ih (x + 1) _ (by omega) (by omega) (fun q a b => hd q (by omega) b) (by omega)) (fun r hr => ?_)
      rw [hr, show e - x = (e - (x + 1)) + 1 by omega, sub, List.foldl_cons]
    · have e1 : x = e := by omega
      subst e1
      refine T_ck (by omega) (T_some ?_)
      rw [Nat.sub_self]
      rfl
theorem c_split_4 {K : Kt} {b : Nat → Int} {n : Nat} {σ0 : Sg} (hn : n ≤ 400) (hb : ∀ i, i < n → 0 ≤ b i ∧ b i ≤ 255) : ∀ (f k p : Nat) (pl st : Nat → Nat) (σ : Sg), n - p < f → p ≤ n → k ≤ p → σ 61 1 = (n : Int) → σ 62 = b → (∀ c, c ≠ 71 → c ≠ 72 → σ c = σ0 c) → st 0 = 0 → (∀ i, i < k → Sp b (st i) (pl i) ∧ TK b n (pl i) (st (i + 1)) (σ 71 i) ∧ σ 72 i = (pl i : Int)) → Sp b (st k) p →
    T (vX4_split_4 K f (k : Int) (p : Int) σ) (fun σ' => (∀ c, c ≠ 71 → c ≠ 72 → σ' c = σ0 c) ∧ ∃ pl st N, Tks b n (σ' 71) pl st N ∧ ∀ i, i ≤ N → σ' 72 i = (pl i : Int)) := by
  intro f
  induction f with
  | zero => intro k p pl st σ h; omega
  | succ f ih =>
    intro k p pl st σ hf hp hk h61 h62 hfr h0 hT hS
    rw [vX4_split_4, h61]
    refine T_ite (fun h => ?_) (fun h => ?_)
    · refine T_ck (by omega) (T_nm (T_ck (by omega) ?_))
      rw [Int.toNat_natCast, h62]
      refine T_nm ?_
      refine T_ite (fun c32 => ?_) (fun c32 => ?_)
      · rw [show (p : Int) + 1 = ((p + 1 : Nat) : Int) by omega]
        refine ih k (p + 1) pl st σ (by omega) (by omega) (by omega) h61 h62 hfr h0 hT ⟨by have := hS.1; omega, fun q a c => ?_⟩
        by_cases e : q = p
        · rw [e]; exact c32
        · exact hS.2 q a (by omega)
      · refine T_ck (by omega) (T_nm ?_)
        rw [Int.toNat_natCast]
        -- what follows from a token that ends at e
        have fin : ∀ (e : Nat) (t : Int), p < e → e ≤ n → TK b n p e t → T (vX4_split_4 K f ((k : Int) + 1) (e : Int) (up2 (up2 σ 72 k (p : Int)) 71 k t)) (fun σ' => (∀ c, c ≠ 71 → c ≠ 72 → σ' c = σ0 c) ∧ ∃ pl st N, Tks b n (σ' 71) pl st N ∧ ∀ i, i ≤ N → σ' 72 i = (pl i : Int)) := by
          intro e t he1 he2 tk
          rw [show (k : Int) + 1 = ((k + 1 : Nat) : Int) by omega]
          refine ih (k + 1) e (fun i => if i = k then p else pl i) (fun i => if i = k + 1 then e else st i) _ (by omega) he2 (by omega) ?_ ?_ (fun c c1 c2 => ?_) ?_ (fun i hi => ?_) ?_
          · rw [up2_o (by omega), up2_o (by omega)]; exact h61
          · rw [up2_o (by omega), up2_o (by omega)]; exact h62
          · rw [up2_o c1, up2_o c2]; exact hfr c c1 c2
          · show (if 0 = k + 1 then e else st 0) = 0
            rw [if_neg (by omega)]; exact h0
          · rw [up2_c, up2_o (by omega), up2_o (by omega), up2_c]
            by_cases q : i = k
            · subst q
              rw [if_pos rfl, if_pos rfl, if_neg (by omega), upw_s, upw_s]
              exact ⟨hS, tk, rfl⟩
            · rw [if_neg q, if_neg (by omega), if_neg (by omega), upw_n q, upw_n q]
              exact hT i (by omega)
          · rw [if_pos rfl]
            exact ⟨Nat.le_refl _, fun q a c => by omega⟩
        have f61 : up2 σ 72 k (p : Int) 61 1 = (n : Int) := by rw [up2_o (by omega)]; exact h61
        have f62 : up2 σ 72 k (p : Int) 62 = b := by rw [up2_o (by omega)]; exact h62
        have bp := hb p (by omega)
        rw [c_isL, Option.bind_some]
        by_cases q1 : small (b p)
        · rw [bI_t q1]
          refine T_f (by omega) ?_
          rw [show (p : Int) + 1 = ((p + 1 : Nat) : Int) by omega]
          refine c_scanL f61 hn (fun e e1 e2 e3 e4 => ?_) FU (p + 1) (by have := FU_b; omega) (by omega) (by omega) (fun q a c => by rw [f62, show q = p by omega]; exact q1)
          rw [f62] at e3 e4
          unfold vX4_split_84
          have w := c_word (K := K) (σ := up2 σ 72 k (p : Int)) (s := p) (n := e - p) (by omega)
          rw [show p + (e - p) = e by omega, f62] at w
          rw [w, Option.bind_some]
          refine T_ck (by omega) (T_nm (T_ck (by omega) ?_))
          rw [Int.toNat_natCast]
          exact fin e _ e1 e2 ⟨e1, e2, c32, Or.inl ⟨q1, e3, e4, rfl⟩⟩
        · rw [bI_f q1]
          refine T_t rfl ?_
          rw [c_isD, Option.bind_some]
          by_cases q2 : dg (b p)
          · rw [bI_t q2]
            refine T_f (by omega) ?_
            rw [show (p : Int) + 1 = ((p + 1 : Nat) : Int) by omega]
            refine c_scanD f61 hn (fun e e1 e2 e3 e4 => ?_) FU (p + 1) (by have := FU_b; omega) (by omega) (by omega) (fun q a c => by rw [f62, show q = p by omega]; exact q2)
            have e3' := e3
            rw [f62] at e3 e4
            unfold vX4_split_139 vX4_numberToken
            refine T_bind (c_num_5 (K := K) (σ := up2 σ 72 k (p : Int)) (e := e) (by omega) FU p 0 (by have := FU_b; omega) (by omega) (fun q a c => e3' q a c) (by omega)) (fun r hr => ?_)
            rw [f62] at hr
            refine T_ck (by omega) (T_nm (T_ck (by omega) ?_))
            rw [Int.toNat_natCast]
            exact fin e _ e1 e2 ⟨e1, e2, c32, Or.inr (Or.inl ⟨q2, e3, e4, hr⟩)⟩
          · rw [bI_f q2]
            refine T_t rfl (T_ck (by omega) (T_nm (T_ck (by omega) ?_)))
            rw [show (p : Int) + 1 = ((p + 1 : Nat) : Int) by omega]
            exact fin (p + 1) _ (by omega) (by omega) ⟨by omega, by omega, c32, Or.inr (Or.inr ⟨q1, q2, rfl, rfl⟩)⟩
    · have e : p = n := by omega
      subst e
      refine T_ck (by omega) (T_nm (T_ck (by omega) (T_nm (T_some ⟨fun c c1 c2 => ?_, fun i => if i = k then p else pl i, st, k, ⟨hk, h0, fun i hi => ?_, hS, by dsimp only; rw [if_pos rfl], ?_⟩, fun i hi => ?_⟩))))
      · rw [up2_o c1, up2_o c2]; exact hfr c c1 c2
      · dsimp only
        rw [if_neg (by omega), up2_c, Int.toNat_natCast, upw_n (by omega), up2_o (by omega)]
        exact ⟨(hT i hi).1, (hT i hi).2.1⟩
      · rw [Int.toNat_natCast, up2_c, upw_s]
      · dsimp only
        rw [up2_o (by omega), Int.toNat_natCast, up2_c]
        by_cases q : i = k
        · rw [if_pos q, q, upw_s]
        · rw [if_neg q, upw_n q]; exact (hT i (by omega)).2.2
theorem c_split {K : Kt} {n : Nat} {σ : Sg} (hn : n ≤ 400) (h61 : σ 61 1 = (n : Int)) (hb : ∀ i, i < n → 0 ≤ σ 62 i ∧ σ 62 i ≤ 255) : T (vX4_split K σ) (fun σ' => (∀ c, c ≠ 71 → c ≠ 72 → σ' c = σ c) ∧ ∃ pl st N, Tks (σ 62) n (σ' 71) pl st N ∧ ∀ i, i ≤ N → σ' 72 i = (pl i : Int)) := by
  unfold vX4_split
  exact c_split_4 hn hb FU 0 0 (fun _ => 0) (fun _ => 0) σ (by have := FU_b; omega) (by omega) (by omega) h61 rfl (fun _ _ _ => rfl) rfl (fun i hi => by omega) ⟨by omega, fun q a c => by omega⟩
