/-! ===== words ===== -/
def wl : List (List Int) := [[102, 105, 110, 101, 115], [119, 101, 97, 114, 115], [116, 97, 107, 101, 115], [98, 97, 114, 115], [108, 101, 110, 100], [98, 114, 105, 110, 103], [119, 97, 105, 116], [112, 97, 115, 115], [98, 111, 111, 107], [108, 101, 110, 103, 116, 104], [112, 117, 114, 115, 101], [114, 101, 97, 100, 101, 114], [116, 114, 97, 105, 116, 115], [119, 111, 114, 110], [107, 101, 112, 116], [119, 101, 101, 107], [109, 111, 111, 100], [100, 111, 110, 101], [108, 97, 116, 101, 115, 116], [119, 97, 105, 116, 105, 110, 103], [119, 105, 116, 104], [111, 114], [97, 110, 100], [110, 111, 116], [105, 102], [116, 105, 109, 101, 115], [116, 111], [102, 111, 114]]
theorem wl_B : wl.flatMap (fun w => w ++ [32]) = wordsB := by decide +kernel
theorem wl_n : ∀ w ∈ wl, 32 ∉ w := by decide +kernel
def wfind : List (List Int) → Int → List Int → Int
  | [], _, _ => 257
  | w :: ws, k, bs => if bs = w then 300 + k else wfind ws (k + 1) bs
/-- bytes of a tape -/
def sub (b : Nat → Int) : Nat → Nat → List Int
  | _, 0 => []
  | s, n + 1 => b s :: sub b (s + 1) n
theorem sub_l {b : Nat → Int} : ∀ n s, (sub b s n).length = n
  | 0, _ => rfl
  | n + 1, s => by rw [sub, List.length_cons, sub_l n]
theorem sub_g {b : Nat → Int} : ∀ n s i, i < n → (sub b s n)[i]? = some (b (s + i))
  | 0, _, _, h => by omega
  | n + 1, s, 0, _ => rfl
  | n + 1, s, i + 1, h => by
    rw [sub, List.getElem?_cons_succ, sub_g n (s + 1) i (by omega), show s + 1 + i = s + (i + 1) by omega]
/-- the class's way through its words -/
def wt (bs : List Int) : List Int → Int → Int → Int
  | [], _, _ => 257
  | c :: cs, k, sm => if c = 32 then (if sm = (bs.length : Int) then 300 + k else wt bs cs (k + 1) 0) else if sm = -1 then wt bs cs k (-1) else if sm < (bs.length : Int) ∧ bs[sm.toNat]? = some c then wt bs cs k (sm + 1) else wt bs cs k (-1)
theorem wt_neg {bs : List Int} {k : Int} {R : List Int} : ∀ w : List Int, 32 ∉ w → wt bs (w ++ 32 :: R) k (-1) = wt bs R (k + 1) 0
  | [], _ => by
    rw [List.nil_append, wt, if_pos rfl, if_neg (by omega)]
  | c :: cs, h => by
    have h1 : c ≠ 32 := fun e => h (by rw [e]; exact List.mem_cons_self)
    have h2 : 32 ∉ cs := fun e => h (List.mem_cons_of_mem _ e)
    rw [List.cons_append, wt, if_neg h1, if_pos rfl]
    exact wt_neg cs h2
theorem wt_go {bs : List Int} {k : Int} {R : List Int} : ∀ (w : List Int) (j : Nat), 32 ∉ w → j ≤ bs.length → wt bs (w ++ 32 :: R) k (j : Int) = if bs.drop j = w then 300 + k else wt bs R (k + 1) 0
  | [], j, _, hj => by
    rw [List.nil_append, wt, if_pos rfl]
    by_cases e : j = bs.length
    · rw [if_pos (by omega), if_pos (by rw [e, List.drop_length])]
    · rw [if_neg (by omega), if_neg]
      intro h
      have := List.drop_eq_nil_iff.mp h
      omega
  | c :: cs, j, h, hj => by
    have h1 : c ≠ 32 := fun e => h (by rw [e]; exact List.mem_cons_self)
    have h2 : 32 ∉ cs := fun e => h (List.mem_cons_of_mem _ e)
    rw [List.cons_append, wt, if_neg h1, if_neg (by omega)]
    rw [Int.toNat_natCast]
    by_cases q : (j : Int) < (bs.length : Int) ∧ bs[j]? = some c
    · rw [if_pos q]
      have g := wt_go (bs := bs) (k := k) (R := R) cs (j + 1) h2 (by omega)
      rw [show ((j + 1 : Nat) : Int) = (j : Int) + 1 by omega] at g
      rw [g]
      have hl : j < bs.length := by omega
      have e1 : bs.drop j = c :: bs.drop (j + 1) := by
        rw [List.drop_eq_getElem_cons hl]
        congr 1
        have := q.2
        rw [List.getElem?_eq_getElem hl] at this
        injection this
      by_cases e : bs.drop (j + 1) = cs
      · rw [if_pos e, if_pos (by rw [e1, e])]
      · rw [if_neg e, if_neg]
        intro z
        rw [e1] at z
        injection z with _ z
        exact e z
    · rw [if_neg q, wt_neg cs h2, if_neg]
      intro z
      have hl : j < bs.length := by
        rcases Nat.lt_or_ge j bs.length with a | a
        · exact a
        · rw [List.drop_eq_nil_of_le a] at z
          cases z
      refine q ⟨by omega, ?_⟩
      rw [List.drop_eq_getElem_cons hl] at z
      injection z with z _
      rw [List.getElem?_eq_getElem hl, z]
theorem wt_all {bs : List Int} : ∀ (ws : List (List Int)) (k : Int), (∀ w ∈ ws, 32 ∉ w) → wt bs (ws.flatMap (fun w => w ++ [32])) k 0 = wfind ws k bs
  | [], _, _ => rfl
  | w :: ws, k, h => by
    have g := wt_go (bs := bs) (k := k) (R := ws.flatMap (fun w => w ++ [32])) w 0 (h w List.mem_cons_self) (by omega)
    rw [List.flatMap_cons, List.append_assoc]
    show wt bs (w ++ 32 :: ws.flatMap (fun w => w ++ [32])) k ((0 : Nat) : Int) = _
    rw [g, List.drop_zero, wfind, wt_all ws (k + 1) (fun w hw => h w (List.mem_cons_of_mem _ hw))]
theorem c_len : vJ0_length = some 148 := by
  unfold vJ0_length
  rw [Option.bind_some]
  exact congrArg some (by decide +kernel)
theorem wB_and : ∀ z ∈ wordsB, bAnd z 255 = z := by decide +kernel
theorem wB_l : wordsB.length = 148 := by decide +kernel
theorem c_char {i : Nat} {σ : Sg} (h : i < 148) : ∃ c, wordsB.drop i = c :: wordsB.drop (i + 1) ∧ vJ0_charAt (i : Int) σ = some c := by
  have hl : i < wordsB.length := by rw [wB_l]; exact h
  refine ⟨wordsB[i], List.drop_eq_getElem_cons hl, ?_⟩
  have m : wordsB[i] ∈ wordsB := List.getElem_mem hl
  have b := wB_all _ m
  have e : wordsB.getD (i : Int).toNat 0 = wordsB[i] := by
    rw [Int.toNat_natCast, List.getD_eq_getElem?_getD, List.getElem?_eq_getElem hl]
    rfl
  unfold vJ0_charAt vJ1_charAt vJ0_checkIndex
  rw [Option.bind_some, if_neg (by omega), ck_p (by omega), Option.bind_some, Option.bind_some, ck_p (by omega), e, wB_and _ m, ck_p (by omega), Option.bind_some, ck_p (by omega)]
theorem nm_eq {α β : Type} {e : β} {k : β → Option α} : nm e k = k e := rfl
theorem c_word_8 {K : Kt} {σ : Sg} {s n : Nat} (hn : s + n ≤ 400) : ∀ (f x : Nat) (k j : Int), 148 - x < f → x ≤ 148 → (0 ≤ k ∧ k ≤ (x : Int)) → (-1 ≤ j ∧ j ≤ (n : Int)) →
    vX4_wordToken_8 K σ f (s : Int) ((s + n : Nat) : Int) k j (x : Int) = some (wt (sub (σ 62) s n) (wordsB.drop x) k j) := by
  intro f
  induction f with
  | zero => intro x k j h; omega
  | succ f ih =>
    intro x k j hf hx hk hj
    rw [vX4_wordToken_8, c_len, Option.bind_some]
    by_cases h : x < 148
    · obtain ⟨c, e1, e2⟩ := c_char (σ := σ) h
      rw [if_pos (by omega), e2, Option.bind_some, e1, wt, sub_l]
      have ex : (x : Int) + 1 = ((x + 1 : Nat) : Int) := by omega
      by_cases c32 : c = 32
      · rw [if_pos c32, if_pos c32, ck_p (by omega)]
        by_cases q : j = (n : Int)
        · rw [if_pos (by omega), if_pos q, ck_p (by omega)]
        · rw [if_neg (by omega), if_neg q, ck_p (by omega), ck_p (by omega), ex]
          exact ih (x + 1) (k + 1) 0 (by omega) (by omega) (by omega) (by omega)
      · rw [if_neg c32, if_neg c32]
        by_cases q1 : j = -1
        · rw [if_pos q1, if_pos q1, ck_p (by omega), ex, q1]
          exact ih (x + 1) k (-1) (by omega) (by omega) (by omega) (by omega)
        · rw [if_neg q1, if_neg q1, ck_p (by omega)]
          by_cases q2 : j < (n : Int)
          · have g := sub_g (b := σ 62) n s j.toNat (by omega)
            have e3 : ((s : Int) + j).toNat = s + j.toNat := by omega
            rw [if_pos (show (s : Int) + j < ((s + n : Nat) : Int) by omega), ck_p (by omega), ck_p (by omega), g, e3]
            by_cases q3 : σ 62 (s + j.toNat) = c
            · rw [if_pos q3, if_pos ⟨q2, by rw [q3]⟩, ck_p (by omega)]
              rw [nm_eq, ck_p (by omega), ex]
              exact ih (x + 1) k (j + 1) (by omega) (by omega) (by omega) (by omega)
            · rw [if_neg q3, if_neg (fun z => q3 (by have := z.2; injection this)), ck_p (by omega), ex]
              exact ih (x + 1) k (-1) (by omega) (by omega) (by omega) (by omega)
          · rw [if_neg (show ¬ (s : Int) + j < ((s + n : Nat) : Int) by omega), if_neg (fun z => q2 z.1), ck_p (by omega), ex]
            exact ih (x + 1) k (-1) (by omega) (by omega) (by omega) (by omega)
    · have e : x = 148 := by omega
      subst e
      rw [if_neg (by omega), List.drop_eq_nil_of_le (by rw [wB_l]; omega)]
      rfl
theorem c_word {K : Kt} {σ : Sg} {s n : Nat} (hn : s + n ≤ 400) : vX4_wordToken K (s : Int) ((s + n : Nat) : Int) σ = some (wfind wl 0 (sub (σ 62) s n)) := by
  unfold vX4_wordToken
  have h := c_word_8 (K := K) (σ := σ) hn FU 0 0 0 (by have := FU_b; omega) (by omega) (by omega) (by omega)
  rw [List.drop_zero, ← wl_B, wt_all wl 0 wl_n] at h
  exact h
/-! the reference's numbers of words -/
def wfold (bs : List Int) : Int := bs.foldl (fun x c => x * 32 + c - 96) 0
def wcode (bs : List Int) : Int := if bs.length ≤ 10 then wfold bs else -1
def small (c : Int) : Prop := 97 ≤ c ∧ c ≤ 122
theorem wfold_s {bs : List Int} {c : Int} : wfold (bs ++ [c]) = wfold bs * 32 + c - 96 := by
  unfold wfold
  rw [List.foldl_append]
  rfl
theorem wfold_inj : ∀ (n : Nat) (a b : List Int), a.length ≤ n → (∀ c ∈ a, small c) → (∀ c ∈ b, small c) → wfold a = wfold b → a = b := by
  have nn : ∀ (n : Nat) (a : List Int), a.length ≤ n → (∀ c ∈ a, small c) → 0 ≤ wfold a ∧ (a ≠ [] → 0 < wfold a) := by
    intro n
    induction n with
    | zero => intro a h _; have e := List.eq_nil_of_length_eq_zero (show a.length = 0 by omega); rw [e]; exact ⟨by decide, fun h => absurd rfl h⟩
    | succ n ih =>
      intro a h hs
      rcases List.eq_nil_or_concat a with e | ⟨a', c, e⟩
      · rw [e]; exact ⟨by decide, fun h => absurd rfl h⟩
      · rw [List.concat_eq_append] at e
        subst e
        have := ih a' (by rw [List.length_append, List.length_singleton] at h; omega) (fun x hx => hs x (List.mem_append_left _ hx))
        have hc := hs c (List.mem_append_right _ List.mem_cons_self)
        unfold small at hc
        rw [wfold_s]
        exact ⟨by omega, fun _ => by omega⟩
  intro n
  induction n with
  | zero =>
    intro a b h ha hb e
    have e0 := List.eq_nil_of_length_eq_zero (show a.length = 0 by omega)
    subst e0
    by_cases q : b = []
    · rw [q]
    · have := (nn b.length b (by omega) hb).2 q
      have z : wfold [] = 0 := rfl
      omega
  | succ n ih =>
    intro a b h ha hb e
    rcases List.eq_nil_or_concat a with ea | ⟨a', c, ea⟩
    · subst ea
      by_cases q : b = []
      · rw [q]
      · have := (nn b.length b (by omega) hb).2 q
        have z : wfold [] = 0 := rfl
        omega
    · rw [List.concat_eq_append] at ea
      subst ea
      have hc := ha c (List.mem_append_right _ List.mem_cons_self)
      unfold small at hc
      rcases List.eq_nil_or_concat b with eb | ⟨b', d, eb⟩
      · subst eb
        have := (nn _ (a' ++ [c]) (Nat.le_refl _) ha).2 (by simp)
        have z : wfold [] = 0 := rfl
        omega
      · rw [List.concat_eq_append] at eb
        subst eb
        have hd := hb d (List.mem_append_right _ List.mem_cons_self)
        unfold small at hd
        rw [wfold_s, wfold_s] at e
        have e1 : c = d := by omega
        have e2 : wfold a' = wfold b' := by omega
        rw [ih a' b' (by rw [List.length_append, List.length_singleton] at h; omega) (fun x hx => ha x (List.mem_append_left _ hx)) (fun x hx => hb x (List.mem_append_left _ hx)) e2, e1]
theorem wl_ok : ∀ w ∈ wl, (∀ c ∈ w, 97 ≤ c ∧ c ≤ 122) ∧ w.length ≤ 10 ∧ 0 ≤ wfold w := by decide +kernel
theorem wcode_eq {bs w : List Int} (hw : w ∈ wl) (hb : ∀ c ∈ bs, small c) : wcode bs = wfold w ↔ bs = w := by
  obtain ⟨w1, w2, w3⟩ := wl_ok w hw
  constructor
  · intro e
    unfold wcode at e
    by_cases q : bs.length ≤ 10
    · rw [if_pos q] at e
      exact wfold_inj bs.length bs w (Nat.le_refl _) hb w1 e
    · rw [if_neg q] at e
      omega
  · intro e
    unfold wcode
    rw [e, if_pos w2]
theorem wfind_lo : ∀ (ws : List (List Int)) (k : Int) (bs : List Int), 0 ≤ k → (wfind ws k bs = 257 ∨ 300 + k ≤ wfind ws k bs) ∧ wfind ws k bs < 301 + k + ws.length
  | [], k, bs, h => ⟨Or.inl rfl, by rw [wfind]; simp; omega⟩
  | w :: ws, k, bs, h => by
    rw [wfind]
    by_cases e : bs = w
    · rw [if_pos e]; exact ⟨Or.inr (by omega), by simp; omega⟩
    · rw [if_neg e]
      have := wfind_lo ws (k + 1) bs (by omega)
      exact ⟨by omega, by simp; omega⟩
theorem wfind_at : ∀ (ws : List (List Int)) (k : Int) (bs : List Int) (j : Nat), 0 ≤ k → wfind ws k bs = 300 + k + (j : Int) → ws[j]? = some bs
  | [], k, bs, j, hk, e => by rw [wfind] at e; omega
  | w :: ws, k, bs, j, hk, e => by
    rw [wfind] at e
    by_cases q : bs = w
    · rw [if_pos q] at e
      rw [show j = 0 by omega, q]; rfl
    · rw [if_neg q] at e
      have lo := wfind_lo ws (k + 1) bs (by omega)
      cases j with
      | zero => omega
      | succ j => exact wfind_at ws (k + 1) bs j (by omega) (by omega)
theorem wl_self : ∀ j, j < 28 → wfind wl 0 (wl.getD j []) = 300 + (j : Int) := by decide +kernel
/-- a word is the word of a number in the class's row and has its number with the reference -/
theorem word_iff {bs : List Int} (hb : ∀ c ∈ bs, small c) {j : Nat} (hj : j < 28) : wcode bs = wfold (wl.getD j []) ↔ wfind wl 0 bs = 300 + (j : Int) := by
  have hl : j < wl.length := hj
  have e : wl.getD j [] = wl[j] := by rw [List.getD_eq_getElem?_getD, List.getElem?_eq_getElem hl]; rfl
  have m : wl.getD j [] ∈ wl := by rw [e]; exact List.getElem_mem hl
  rw [wcode_eq m hb]
  constructor
  · intro q; rw [q]; exact wl_self j hj
  · intro q
    have g := wfind_at wl 0 bs j (by omega) (by omega)
    rw [List.getElem?_eq_getElem hl] at g
    injection g with g
    rw [e, g]
