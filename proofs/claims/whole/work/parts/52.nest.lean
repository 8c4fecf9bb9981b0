/-! ===== nests ===== -/
def ins (ρ : Nat → Int) (a b : Nat) : Prop := ρ (79 + (a : Int)).toNat ≠ ρ (79 + (b : Int)).toNat ∧ bAnd (ρ (79 + (a : Int)).toNat) (bXor (ρ (79 + (b : Int)).toNat) (-1)) = 0
theorem sub_le {m n : Nat} (h : m &&& (m ^^^ n) = 0) : m ≤ n := by
  have e : m &&& n = m := by
    apply Nat.eq_of_testBit_eq
    intro i
    have hi := congrArg (fun z => Nat.testBit z i) h
    simp only [Nat.testBit_and, Nat.testBit_xor, Nat.zero_testBit] at hi
    rw [Nat.testBit_and]
    revert hi
    cases m.testBit i <;> cases n.testBit i <;> simp
  rw [← e]
  exact Nat.and_le_right
theorem ins_lt {ρ : Nat → Int} {a b : Nat} (ha : 0 ≤ ρ (79 + (a : Int)).toNat ∧ ρ (79 + (a : Int)).toNat ≤ 63) (hb : 0 ≤ ρ (79 + (b : Int)).toNat ∧ ρ (79 + (b : Int)).toNat ≤ 63) (h : ins ρ a b) : ρ (79 + (a : Int)).toNat < ρ (79 + (b : Int)).toNat := by
  obtain ⟨h1, h2⟩ := h
  obtain ⟨m, e, -⟩ := bI_n _ ha.1
  obtain ⟨n, e', -⟩ := bI_n _ hb.1
  rw [e, e'] at h1 h2 ⊢
  rw [e] at ha
  rw [bAnd_nx (by omega)] at h2
  have := sub_le (m := m) (n := n) (by omega)
  omega
noncomputable def mxN (ℓ : Nat → Int) (P : Nat → Prop) : Nat → Int
  | 0 => 0
  | o + 1 => @ite Int (P o) (Classical.propDecidable _) (imax (mxN ℓ P o) (ℓ o)) (mxN ℓ P o)
theorem imax_l (a b : Int) : a ≤ imax a b ∧ b ≤ imax a b ∧ (imax a b = a ∨ imax a b = b) := by unfold imax; split <;> omega
theorem mxN_0 {ℓ : Nat → Int} {P : Nat → Prop} : ∀ n, 0 ≤ mxN ℓ P n
  | 0 => by rw [mxN]; omega
  | n + 1 => by
    have ih := mxN_0 (ℓ := ℓ) (P := P) n
    rw [mxN]
    by_cases h : P n
    · rw [if_pos h]; have := imax_l (mxN ℓ P n) (ℓ n); omega
    · rw [if_neg h]; exact ih
theorem mxN_g {ℓ : Nat → Int} {P : Nat → Prop} : ∀ n o, o < n → P o → ℓ o ≤ mxN ℓ P n
  | 0, o, h, _ => by omega
  | n + 1, o, h, hp => by
    rw [mxN]
    by_cases e : o = n
    · subst e; rw [if_pos hp]; exact (imax_l _ _).2.1
    · have ih := mxN_g (ℓ := ℓ) n o (by omega) hp
      by_cases h : P n
      · rw [if_pos h]; have := (imax_l (mxN ℓ P n) (ℓ n)).1; omega
      · rw [if_neg h]; exact ih
theorem mxN_e {ℓ : Nat → Int} {P : Nat → Prop} : ∀ n, mxN ℓ P n = 0 ∨ ∃ o, o < n ∧ P o ∧ mxN ℓ P n = ℓ o
  | 0 => Or.inl rfl
  | n + 1 => by
    have ih := mxN_e (ℓ := ℓ) (P := P) n
    rw [mxN]
    by_cases h : P n
    · rw [if_pos h]
      rcases (imax_l (mxN ℓ P n) (ℓ n)).2.2 with e | e
      · rw [e]
        rcases ih with x | ⟨o, a, b, c⟩
        · exact Or.inl x
        · exact Or.inr ⟨o, by omega, b, c⟩
      · exact Or.inr ⟨n, by omega, h, e⟩
    · rw [if_neg h]
      rcases ih with x | ⟨o, a, b, c⟩
      · exact Or.inl x
      · exact Or.inr ⟨o, by omega, b, c⟩
theorem mxN_c {ℓ ℓ' : Nat → Int} {P : Nat → Prop} : ∀ n, (∀ o, o < n → P o → ℓ o = ℓ' o) → mxN ℓ P n = mxN ℓ' P n
  | 0, _ => rfl
  | n + 1, h => by
    rw [mxN, mxN, mxN_c n (fun o ho hp => h o (by omega) hp)]
    by_cases hp : P n
    · rw [if_pos hp, if_pos hp, h n (by omega) hp]
    · rw [if_neg hp, if_neg hp]
theorem c_wantsMore {K : Kt} {σ : Sg} {ρ : Nat → Int} {b a : Nat} (hH : HallIs σ 13 ρ) (hb : b < 8) (ha : a < 8) : vX0_wantsMore K (b : Int) (a : Int) σ = some (bI (ins ρ a b)) := by
  obtain ⟨-, gB, -⟩ := H13 hH
  unfold vX0_wantsMore ins
  simp only [nm]
  rw [ck_p (by omega), ck_p (by omega), (gB b (by omega) (by omega)).2.1, (gB a (by omega) (by omega)).2.1]
  by_cases h : ρ (79 + (b : Int)).toNat = ρ (79 + (a : Int)).toNat
  · rw [if_pos h, bI_f (fun x => x.1 h.symm)]
  · rw [if_neg h, ck_p (by omega)]
    by_cases h2 : bAnd (ρ (79 + (a : Int)).toNat) (bXor (ρ (79 + (b : Int)).toNat) (-1)) = 0
    · rw [if_pos h2, bI_t ⟨fun e => h e.symm, h2⟩]
    · rw [if_neg h2, bI_f (fun x => h2 x.2)]
theorem c_longestBehind_4 {K : Kt} {σ : Sg} {ρ : Nat → Int} {n b : Nat} (hH : HallIs σ 13 ρ) (hn : ρ 0 = (n : Int)) (h8 : n ≤ 8) (hb : b < 8) : ∀ (f x : Nat), n - x < f → x ≤ n → T (vX0_longestBehind_4 K σ f (b : Int) (mxN (σ 79) (ins ρ b) x) (x : Int)) (fun p => p = mxN (σ 79) (ins ρ b) n) := by
  intro f
  induction f with
  | zero => intro x h; omega
  | succ f ih =>
    intro x hf hx
    rw [vX0_longestBehind_4, show σ 13 1 = ρ 0 from hH.1.1, hn]
    refine T_ite (fun h => ?_) (fun h => ?_)
    · rw [c_wantsMore hH (by omega) hb, Option.bind_some, show (x : Int) + 1 = ((x + 1 : Nat) : Int) by omega]
      have nx := ih (x + 1) (by omega) (by omega)
      rw [mxN] at nx
      by_cases c : ins ρ b x
      · rw [if_pos c] at nx
        refine T_f (by rw [bI_t c]; omega) ?_
        repeat (with_reducible first | refine T_ck (by omega) ?_ | refine T_nm ?_)
        exact nx
      · rw [if_neg c] at nx
        refine T_t (bI_f c) ?_
        repeat (with_reducible first | refine T_ck (by omega) ?_ | refine T_nm ?_)
        exact nx
    · rw [show x = n by omega]; exact T_some rfl
theorem c_longestBehind {K : Kt} {σ : Sg} {ρ : Nat → Int} {n b : Nat} (hH : HallIs σ 13 ρ) (hn : ρ 0 = (n : Int)) (h8 : n ≤ 8) (hb : b < 8) : vX0_longestBehind K (b : Int) σ = some (mxN (σ 79) (ins ρ b) n) := by
  obtain ⟨a, e, h⟩ := c_longestBehind_4 (K := K) hH hn h8 hb FU 0 (by have := FU_b; omega) (by omega)
  have e' : vX0_longestBehind K (b : Int) σ = some a := e
  rw [e', h]
/-- processed: the wants lie above v, or are v and the book below x -/
def ndP (ρ : Nat → Int) (v : Int) (x b : Nat) : Prop := v < ρ (79 + (b : Int)).toNat ∨ (ρ (79 + (b : Int)).toNat = v ∧ b < x)
def ndI (ρ : Nat → Int) (n : Nat) (ℓ : Nat → Int) (v : Int) (x : Nat) : Prop := ∀ b, b < n → ndP ρ v x b → ℓ b = 1 + mxN ℓ (ins ρ b) n ∧ ℓ b ≤ 64 - ρ (79 + (b : Int)).toNat
theorem ndI_s {ρ : Nat → Int} {n : Nat} {ℓ : Nat → Int} {v : Int} {x : Nat} (hw : ∀ b : Nat, b < n → 0 ≤ ρ (79 + (b : Int)).toNat ∧ ρ (79 + (b : Int)).toNat ≤ 63) (h : ndI ρ n ℓ v x) (hx : x < n) (hv : ρ (79 + (x : Int)).toNat = v) : 1 + mxN ℓ (ins ρ x) n ≤ 64 - v ∧ ndI ρ n (upw ℓ x (1 + mxN ℓ (ins ρ x) n)) v (x + 1) := by
  have bd : 1 + mxN ℓ (ins ρ x) n ≤ 64 - v := by
    have w := hw x hx
    rcases mxN_e (ℓ := ℓ) (P := ins ρ x) n with e | ⟨o, a, b, c⟩
    · omega
    · have := ins_lt w (hw o a) b
      have := (h o a (Or.inl (by omega))).2
      omega
  refine ⟨bd, fun b hb hp => ?_⟩
  have key : ∀ b, b < n → (v ≤ ρ (79 + (b : Int)).toNat) → mxN (upw ℓ x (1 + mxN ℓ (ins ρ x) n)) (ins ρ b) n = mxN ℓ (ins ρ b) n := by
    intro b hb hle
    refine mxN_c n (fun o ho hi => ?_)
    have := ins_lt (hw b hb) (hw o ho) hi
    refine upw_n (fun e => ?_)
    rw [e] at this
    omega
  unfold ndP at hp
  rw [key b hb (by omega)]
  by_cases e : b = x
  · rw [e, upw_s]
    exact ⟨rfl, by omega⟩
  · rw [upw_n e]
    refine h b hb ?_
    unfold ndP
    omega
theorem c_fillLongest_9 {K : Kt} {σ0 : Sg} {ρ : Nat → Int} {rec : Int → Sg → Option Sg} {Q : Sg → Prop} {n : Nat} {v : Int} (hH : HallIs σ0 13 ρ) (hn : ρ 0 = (n : Int)) (h8 : n ≤ 8) (hw : ∀ b : Nat, b < n → 0 ≤ ρ (79 + (b : Int)).toNat ∧ ρ (79 + (b : Int)).toNat ≤ 63) (hv : 0 ≤ v ∧ v ≤ 63)
    (cont : ∀ σ, Sme (fun k => k = 79) σ0 σ → ndI ρ n (σ 79) v n → T (rec (v + -1) σ) Q) : ∀ (f x : Nat) (σ : Sg), n - x < f → x ≤ n → Sme (fun k => k = 79) σ0 σ → ndI ρ n (σ 79) v x → T (vX0_fillLongest_9 K rec f v (x : Int) σ) Q := by
  intro f
  induction f with
  | zero => intro x σ h; omega
  | succ f ih =>
    intro x σ hf hx hS hI
    have hHs : HallIs σ 13 ρ := HallIs_s hH (fun k k1 k2 => hS k (by omega))
    obtain ⟨⟨g0, -⟩, gB, -⟩ := H13 hHs
    rw [vX0_fillLongest_9, g0, hn]
    refine T_ite (fun h => ?_) (fun h => ?_)
    · with_reducible refine T_ck (by omega) ?_
      rw [(gB x (by omega) (by omega)).2.1, show (x : Int) + 1 = ((x + 1 : Nat) : Int) by omega]
      refine T_ite (fun c => ?_) (fun c => ?_)
      · rw [c_longestBehind hHs hn h8 (by omega), Option.bind_some]
        obtain ⟨b1, b2⟩ := ndI_s hw hI (by omega) c
        have b0 := mxN_0 (ℓ := σ 79) (P := ins ρ x) n
        repeat (with_reducible first | refine T_ck (by omega) ?_ | refine T_nm ?_)
        rw [Int.toNat_natCast]
        refine ih (x + 1) _ (by omega) (by omega) (Sme_u hS rfl) ?_
        rw [up2_c]; exact b2
      · with_reducible refine T_ck (by omega) ?_
        refine ih (x + 1) σ (by omega) (by omega) hS (fun b hb hp => hI b hb ?_)
        unfold ndP at hp ⊢
        by_cases e : b = x
        · rw [e] at hp ⊢; omega
        · omega
    · with_reducible refine T_ck (by omega) ?_
      refine cont σ hS ?_
      rw [show n = x by omega]
      rw [show n = x by omega] at hI
      exact hI
theorem c_fillLongest_3 {K : Kt} {σ0 : Sg} {ρ : Nat → Int} {n : Nat} (hH : HallIs σ0 13 ρ) (hn : ρ 0 = (n : Int)) (h8 : n ≤ 8) (hw : ∀ b : Nat, b < n → 0 ≤ ρ (79 + (b : Int)).toNat ∧ ρ (79 + (b : Int)).toNat ≤ 63) : ∀ (f : Nat) (v : Int) (σ : Sg), (v + 1).toNat < f → -1 ≤ v → v ≤ 63 → Sme (fun k => k = 79) σ0 σ → ndI ρ n (σ 79) v 0 → T (vX0_fillLongest_3 K f v σ) (fun σ' => Sme (fun k => k = 79) σ0 σ' ∧ ndI ρ n (σ' 79) (-1) 0) := by
  intro f
  induction f with
  | zero => intro v σ h; omega
  | succ f ih =>
    intro v σ hf h1 h2 hS hI
    rw [vX0_fillLongest_3]
    refine T_ite (fun h => ?_) (fun h => ?_)
    · rw [show v = -1 by omega] at hI
      exact T_some ⟨hS, hI⟩
    · refine c_fillLongest_9 hH hn h8 hw (by omega) (fun σ1 hS1 hI1 => ?_) FU 0 σ (by have := FU_b; omega) (by omega) hS hI
      refine ih (v + -1) σ1 (by omega) (by omega) (by omega) hS1 (fun b hb hp => hI1 b hb ?_)
      unfold ndP at hp ⊢
      omega
/-- how long a nest from each book on is -/
def NestOk (ρ : Nat → Int) (n : Nat) (ℓ : Nat → Int) : Prop := ∀ b, b < n → (1 ≤ ℓ b ∧ ℓ b ≤ 64) ∧ (∀ o, o < n → ins ρ b o → ℓ o + 1 ≤ ℓ b) ∧ (ℓ b = 1 ∨ ∃ o, o < n ∧ ins ρ b o ∧ ℓ b = ℓ o + 1)
theorem c_fillLongest {K : Kt} {σ : Sg} {ρ : Nat → Int} {n : Nat} (hH : HallIs σ 13 ρ) (hn : ρ 0 = (n : Int)) (h8 : n ≤ 8) (hw : ∀ b : Nat, b < n → 0 ≤ ρ (79 + (b : Int)).toNat ∧ ρ (79 + (b : Int)).toNat ≤ 63) : T (vX0_fillLongest K σ) (fun σ' => Sme (fun k => k = 79) σ σ' ∧ NestOk ρ n (σ' 79)) := by
  unfold vX0_fillLongest
  refine T_mono (c_fillLongest_3 hH hn h8 hw FU 63 σ (by have := FU_b; omega) (by omega) (by omega) Sme_r (fun b hb hp => ?_)) (fun σ' h => ⟨h.1, fun b hb => ?_⟩)
  · unfold ndP at hp; have := hw b hb; omega
  · obtain ⟨e1, e2⟩ := h.2 b hb (by unfold ndP; have := hw b hb; omega)
    have m0 := mxN_0 (ℓ := σ' 79) (P := ins ρ b) n
    have := hw b hb
    refine ⟨by omega, fun o ho hi => ?_, ?_⟩
    · have := mxN_g (ℓ := σ' 79) n o ho hi; omega
    · rcases mxN_e (ℓ := σ' 79) (P := ins ρ b) n with e | ⟨o, a, b', c⟩
      · exact Or.inl (by omega)
      · exact Or.inr ⟨o, a, b', by omega⟩
def cg (w : Nat → Int) (v : Int) : Nat → Int
  | 0 => 0
  | x + 1 => cg w v x + (if v < w x then 1 else 0)
theorem cg_b (w : Nat → Int) (v : Int) : ∀ n : Nat, 0 ≤ cg w v n ∧ cg w v n ≤ n
  | 0 => by rw [cg]; omega
  | n + 1 => by have := cg_b w v n; rw [cg]; split <;> omega
theorem cg_m {w : Nat → Int} {v v' : Int} (h : v < v') : ∀ n : Nat, cg w v' n ≤ cg w v n ∧ ((∃ o, o < n ∧ w o = v') → cg w v' n + 1 ≤ cg w v n)
  | 0 => ⟨by rw [cg, cg]; omega, fun ⟨o, a, _⟩ => by omega⟩
  | n + 1 => by
    obtain ⟨a, b⟩ := cg_m (w := w) h n
    rw [cg, cg]
    refine ⟨by split <;> split <;> omega, fun ⟨o, x, y⟩ => ?_⟩
    by_cases e : o = n
    · rw [e] at y
      rw [if_neg (by omega), if_pos (by omega)]
      omega
    · have := b ⟨o, by omega, y⟩
      split <;> split <;> omega
theorem nest_le {ρ : Nat → Int} {n : Nat} {ℓ : Nat → Int} (hw : ∀ b : Nat, b < n → 0 ≤ ρ (79 + (b : Int)).toNat ∧ ρ (79 + (b : Int)).toNat ≤ 63) (h : NestOk ρ n ℓ) : ∀ (t b : Nat), b < n → ℓ b ≤ (t : Int) → ℓ b ≤ 1 + cg (fun x => ρ (79 + (x : Int)).toNat) (ρ (79 + (b : Int)).toNat) n := by
  intro t
  induction t with
  | zero => intro b hb hl; have := (h b hb).1; omega
  | succ t ih =>
    intro b hb hl
    obtain ⟨x, y, z⟩ := h b hb
    rcases z with z | ⟨o, a, i, e⟩
    · have := cg_b (fun x => ρ (79 + (x : Int)).toNat) (ρ (79 + (b : Int)).toNat) n; omega
    · have := ih o a (by omega)
      have lt := ins_lt (hw b hb) (hw o a) i
      have := (cg_m (w := fun x => ρ (79 + (x : Int)).toNat) lt n).2 ⟨o, a, rfl⟩
      omega
theorem m_isInside {σ : Sg} {a b : Nat} (ha : a < 8) (hb : b < 8) : vX10_isInside (a : Int) (b : Int) σ = some (bI (ins (σ 86) a b)) := by
  unfold vX10_isInside ins
  rw [ck_p (by omega), ck_p (by omega), ck_p (by omega), ck_p (by omega)]
  by_cases h : σ 86 (79 + (a : Int)).toNat = σ 86 (79 + (b : Int)).toNat
  · rw [if_pos h, bI_f (fun x => x.1 h)]
  · rw [if_neg h, ck_p (by omega), ck_p (by omega), ck_p (by omega), ck_p (by omega), m_isIn, Option.bind_some]
    by_cases h2 : bAnd (σ 86 (79 + (a : Int)).toNat) (bXor (σ 86 (79 + (b : Int)).toNat) (-1)) = 0
    · rw [if_neg (by rw [bI_t h2]; omega), bI_t ⟨h, h2⟩]
    · rw [if_pos (bI_f h2), bI_f (fun x => h2 x.2)]
def nlB (n : Nat) (ℓ : Nat → Int) (τ : Nat → Int) : Prop := ∀ b, b < n → 1 ≤ τ b ∧ τ b ≤ ℓ b
/-- t rounds are done: nests that are not longer than t + 1 are known; of the next round those below x -/
def nlR (n : Nat) (ℓ : Nat → Int) (t x : Nat) (τ : Nat → Int) : Prop := ∀ b, b < n → (ℓ b ≤ (t : Int) + 1 ∨ (b < x ∧ ℓ b ≤ (t : Int) + 2)) → τ b = ℓ b
theorem m_layNests_44 {σ0 : Sg} {r29 : Int → Int → Sg → Option Sg} {r36 : Int → Int → Int → Sg → Option Sg} {Q : Sg → Prop} {n t x : Nat} {ℓ : Nat → Int} (h8 : n ≤ 8) (hx : x < n) (hN : NestOk (σ0 86) n ℓ)
    (cont : ∀ σ, Sme (fun k => k = 110) σ0 σ → nlB n ℓ (σ 110) → nlR n ℓ t (x + 1) (σ 110) → T (r36 (n : Int) (t : Int) ((x : Int) + 1) σ) Q) :
    ∀ (f y : Nat) (σ : Sg), n - y < f → y ≤ n → Sme (fun k => k = 110) σ0 σ → nlB n ℓ (σ 110) → nlR n ℓ t x (σ 110) → (∀ o, o < y → ins (σ0 86) x o → ℓ o ≤ (t : Int) + 1 → ℓ o + 1 ≤ σ 110 x) → T (vX10_layNests_44 r29 r36 f (n : Int) (t : Int) (x : Int) (y : Int) σ) Q := by
  intro f
  induction f with
  | zero => intro y σ h; omega
  | succ f ih =>
    intro y σ hf hy hS hB hR hO
    have e86 : σ 86 = σ0 86 := hS 86 (by omega)
    rw [vX10_layNests_44]
    refine T_ite (fun h => ?_) (fun h => ?_)
    · rw [m_isInside (by omega) (by omega), Option.bind_some, e86]
      have bx := hB x hx
      have by' := hB y (by omega)
      have nx1 := (hN x hx).1
      have nx2 := (hN x hx).2.1
      have ny1 := (hN y (by omega)).1
      have same : (ins (σ0 86) x y → ℓ y ≤ (t : Int) + 1 → ℓ y + 1 ≤ σ 110 x) → T (vX10_layNests_95 r29 r36 (vX10_layNests_44 r29 r36 f) (n : Int) (t : Int) (x : Int) (y : Int) (x : Int) σ) Q := by
        intro hs
        unfold vX10_layNests_95 vX10_layNests_101
        repeat (with_reducible first | refine T_ck (by omega) ?_ | refine T_nm ?_)
        rw [up2_id, show (y : Int) + 1 = ((y + 1 : Nat) : Int) by omega]
        refine ih (y + 1) σ (by omega) (by omega) hS hB hR (fun o ho hi hl => ?_)
        by_cases e : o = y
        · rw [e] at hi hl ⊢; exact hs hi hl
        · exact hO o (by omega) hi hl
      by_cases c : ins (σ0 86) x y
      · refine T_f (by rw [bI_t c]; omega) ?_
        rw [Int.toNat_natCast, Int.toNat_natCast]
        repeat (with_reducible first | refine T_ck (by omega) ?_ | refine T_nm ?_)
        refine T_ite (fun hlt => ?_) (fun hlt => same (fun _ hl => ?_))
        · unfold vX10_layNests_101
          repeat (with_reducible first | refine T_ck (by omega) ?_ | refine T_nm ?_)
          rw [show (y : Int) + 1 = ((y + 1 : Nat) : Int) by omega, Int.toNat_natCast]
          have q1 := nx2 y (by omega) c
          refine ih (y + 1) _ (by omega) (by omega) (Sme_u hS rfl) (fun b hb => ?_) (fun b hb hp => ?_) (fun o ho hi hl => ?_)
          · rw [up2_c]
            by_cases e : b = x
            · rw [e, upw_s]; omega
            · rw [upw_n e]; exact hB b hb
          · rw [up2_c]
            by_cases e : b = x
            · rw [e, upw_s]
              have := hR b hb hp
              rw [e] at this
              omega
            · rw [upw_n e]; exact hR b hb hp
          · rw [up2_c, upw_s]
            by_cases e : o = y
            · rw [e] at hl ⊢
              have := hR y (by omega) (Or.inl hl)
              omega
            · have := hO o (by omega) hi hl; omega
        · have := hR y (by omega) (Or.inl hl)
          omega
      · exact T_t (bI_f c) (same (fun hi => absurd hi c))
    · with_reducible refine T_ck (by omega) ?_
      refine cont σ hS hB (fun b hb hp => ?_)
      by_cases e : b = x
      · rw [e] at hp ⊢
        have bx := hB x hx
        obtain ⟨nx1, nx2, nx3⟩ := hN x hx
        rcases nx3 with z | ⟨o, a, i, z⟩
        · omega
        · have := hO o (by omega) i (by omega)
          omega
      · exact hR b hb (by omega)
theorem m_layNests_36 {σ0 : Sg} {r29 : Int → Int → Sg → Option Sg} {Q : Sg → Prop} {n t : Nat} {ℓ : Nat → Int} (h8 : n ≤ 8) (ht : t < n) (hN : NestOk (σ0 86) n ℓ)
    (cont : ∀ σ, Sme (fun k => k = 110) σ0 σ → nlB n ℓ (σ 110) → nlR n ℓ (t + 1) 0 (σ 110) → T (r29 (n : Int) ((t : Int) + 1) σ) Q) :
    ∀ (f x : Nat) (σ : Sg), n - x < f → x ≤ n → Sme (fun k => k = 110) σ0 σ → nlB n ℓ (σ 110) → nlR n ℓ t x (σ 110) → T (vX10_layNests_36 r29 f (n : Int) (t : Int) (x : Int) σ) Q := by
  intro f
  induction f with
  | zero => intro y σ h; omega
  | succ f ih =>
    intro x σ hf hx hS hB hR
    have e86 : σ 86 = σ0 86 := hS 86 (by omega)
    rw [vX10_layNests_36]
    refine T_ite (fun h => ?_) (fun h => ?_)
    · refine m_layNests_44 (σ0 := σ) h8 (by omega) (by rw [e86]; exact hN) (fun σ1 S1 B1 R1 => ?_) FU 0 σ (by have := FU_b; omega) (by omega) Sme_r hB hR (fun o ho => by omega)
      rw [show (x : Int) + 1 = ((x + 1 : Nat) : Int) by omega]
      exact ih (x + 1) σ1 (by omega) (by omega) (Sme_t hS S1) B1 R1
    · with_reducible refine T_ck (by omega) ?_
      refine cont σ hS hB (fun b hb hp => hR b hb ?_)
      omega
theorem m_layNests_29 {σ0 : Sg} {n : Nat} {ℓ : Nat → Int} (h8 : n ≤ 8) (hN : NestOk (σ0 86) n ℓ) (hle : ∀ b, b < n → ℓ b ≤ (n : Int) + 1) :
    ∀ (f t : Nat) (σ : Sg), n - t < f → t ≤ n → Sme (fun k => k = 110) σ0 σ → nlB n ℓ (σ 110) → nlR n ℓ t 0 (σ 110) → T (vX10_layNests_29 f (n : Int) (t : Int) σ) (fun σ' => Sme (fun k => k = 110) σ0 σ' ∧ ∀ b, b < n → σ' 110 b = ℓ b) := by
  intro f
  induction f with
  | zero => intro y σ h; omega
  | succ f ih =>
    intro t σ hf ht hS hB hR
    have e86 : σ 86 = σ0 86 := hS 86 (by omega)
    rw [vX10_layNests_29]
    refine T_ite (fun h => ?_) (fun h => ?_)
    · refine m_layNests_36 (σ0 := σ) h8 (by omega) (by rw [e86]; exact hN) (fun σ1 S1 B1 R1 => ?_) FU 0 σ (by have := FU_b; omega) (by omega) Sme_r hB hR
      rw [show (t : Int) + 1 = ((t + 1 : Nat) : Int) by omega]
      exact ih (t + 1) σ1 (by omega) (by omega) (Sme_t hS S1) B1 R1
    · refine T_some ⟨hS, fun b hb => hR b hb (Or.inl ?_)⟩
      have := hle b hb
      omega
theorem m_layNests_9 {σ0 : Sg} {n : Nat} {ℓ : Nat → Int} (h8 : n ≤ 8) (hN : NestOk (σ0 86) n ℓ) (hle : ∀ b, b < n → ℓ b ≤ (n : Int) + 1) :
    ∀ (f x : Nat) (σ : Sg), n - x < f → x ≤ n → Sme (fun k => k = 110) σ0 σ → (∀ b, b < x → σ 110 b = 1) → T (vX10_layNests_9 f (n : Int) (x : Int) σ) (fun σ' => Sme (fun k => k = 110) σ0 σ' ∧ ∀ b, b < n → σ' 110 b = ℓ b) := by
  intro f
  induction f with
  | zero => intro y σ h; omega
  | succ f ih =>
    intro x σ hf hx hS h1
    rw [vX10_layNests_9]
    refine T_ite (fun h => ?_) (fun h => ?_)
    · repeat (with_reducible first | refine T_ck (by omega) ?_ | refine T_nm ?_)
      rw [show (x : Int) + 1 = ((x + 1 : Nat) : Int) by omega, Int.toNat_natCast]
      refine ih (x + 1) _ (by omega) (by omega) (Sme_u hS rfl) (fun b hb => ?_)
      rw [up2_c]
      by_cases e : b = x
      · rw [e, upw_s]
      · rw [upw_n e]; exact h1 b (by omega)
    · refine m_layNests_29 h8 hN hle FU 0 σ (by have := FU_b; omega) (by omega) hS (fun b hb => ?_) (fun b hb hp => ?_)
      · rw [h1 b (by omega)]; have := hN b hb; omega
      · rw [h1 b (by omega)]; have := hN b hb; omega
/-- the first of those below n -/
noncomputable def fstN (P : Nat → Prop) : Nat → Nat → Int
  | 0, _ => -1
  | m + 1, x => @ite Int (P x) (Classical.propDecidable _) (x : Int) (fstN P m (x + 1))
theorem fstN_u {P : Nat → Prop} {n r : Nat} : ∀ m x : Nat, x + m = n → x ≤ r → r < n → P r → (∀ b, x ≤ b → b < r → ¬ P b) → fstN P m x = (r : Int)
  | 0, x, h, h1, h2, _, _ => by omega
  | m + 1, x, h, h1, h2, h3, h4 => by
    rw [fstN]
    by_cases e : x = r
    · subst e; rw [if_pos h3]
    · rw [if_neg (h4 x (by omega) (by omega))]
      exact fstN_u m (x + 1) (by omega) (by omega) h2 h3 (fun b b1 b2 => h4 b (by omega) b2)
theorem fstN_c {P P' : Nat → Prop} {n : Nat} : ∀ m x : Nat, x + m = n → (∀ b, x ≤ b → b < n → (P b ↔ P' b)) → fstN P m x = fstN P' m x
  | 0, x, _, _ => rfl
  | m + 1, x, h, hp => by
    rw [fstN, fstN, fstN_c m (x + 1) (by omega) (fun b b1 b2 => hp b (by omega) b2)]
    by_cases c : P x
    · rw [if_pos c, if_pos ((hp x (by omega) (by omega)).mp c)]
    · rw [if_neg c, if_neg (fun c' => c ((hp x (by omega) (by omega)).mpr c'))]
theorem fstN_e {P : Nat → Prop} {n : Nat} : ∀ m x : Nat, x + m = n → (∃ b, x ≤ b ∧ b < n ∧ P b) → ∃ r : Nat, fstN P m x = (r : Int) ∧ x ≤ r ∧ r < n ∧ P r ∧ ∀ b, x ≤ b → b < r → ¬ P b
  | 0, x, h, ⟨b, b1, b2, _⟩ => by omega
  | m + 1, x, h, ⟨b, b1, b2, b3⟩ => by
    rw [fstN]
    by_cases c : P x
    · rw [if_pos c]; exact ⟨x, rfl, by omega, by omega, c, fun b b1 b2 => by omega⟩
    · rw [if_neg c]
      have hb : x + 1 ≤ b := by
        rcases Nat.lt_or_ge x b with h | h
        · omega
        · have : b = x := by omega
          rw [this] at b3; exact absurd b3 c
      obtain ⟨r, e, r1, r2, r3, r4⟩ := fstN_e m (x + 1) (by omega) ⟨b, hb, b2, b3⟩
      refine ⟨r, e, by omega, r2, r3, fun b' b1' b2' => ?_⟩
      by_cases e : b' = x
      · rw [e]; exact c
      · exact r4 b' (by omega) b2'
noncomputable def chn (ρ : Nat → Int) (n : Nat) (ℓ : Nat → Int) (m : Int) : Nat → Int
  | 0 => fstN (fun b => ℓ b = m) n 0
  | k + 1 => fstN (fun b => ins ρ (chn ρ n ℓ m k).toNat b ∧ ℓ b = m - ((k : Int) + 1)) n 0
theorem chn_k {ρ : Nat → Int} {n : Nat} {ℓ : Nat → Int} {m : Int} (hN : NestOk ρ n ℓ) (hm : ∃ b, b < n ∧ ℓ b = m) : ∀ k : Nat, (k : Int) < m → ∃ r : Nat, chn ρ n ℓ m k = (r : Int) ∧ r < n ∧ ℓ r = m - (k : Int)
  | 0, h => by
    obtain ⟨b, b1, b2⟩ := hm
    obtain ⟨r, e, -, r2, r3, -⟩ := fstN_e (P := fun b => ℓ b = m) (n := n) n 0 (by omega) ⟨b, by omega, b1, b2⟩
    exact ⟨r, e, r2, by rw [r3]; omega⟩
  | k + 1, h => by
    obtain ⟨r, e, r1, r2⟩ := chn_k hN hm k (by omega)
    obtain ⟨x, y, z⟩ := hN r r1
    rcases z with z | ⟨o, a, i, z⟩
    · omega
    · obtain ⟨r', e', -, r2', r3', -⟩ := fstN_e (P := fun b => ins ρ (chn ρ n ℓ m k).toNat b ∧ ℓ b = m - ((k : Int) + 1)) (n := n) n 0 (by omega) ⟨o, by omega, a, by rw [e, Int.toNat_natCast]; exact i, by omega⟩
      exact ⟨r', e', r2', by rw [r3'.2]; omega⟩
