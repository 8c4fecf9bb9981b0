/-! ===== code of the class, code of the reference: what they mean ===== -/
def BR : Int := -2000000000
def vOk (x : Int) : Prop := x = BR ∨ (-1000000000 ≤ x ∧ x ≤ 1000000000)
def tOk (x : Int) : Prop := x = 0 ∨ x = 1 ∨ x = BR
def clp (x : Int) : Int := if 1000000000 < x then BR else if x < -1000000000 then BR else x
def jn (c a b : Int) : Int := if c = -2 then (if a = 0 then b else a) else if c = -3 then (if a = 1 then b else a) else if a = BR then BR else if b = BR then BR else if c = -37 then (if b = 0 then BR else clp (Int.tmod a b)) else if c = -42 then clp (a * b) else if c = -43 then clp (a + b) else if c = -45 then clp (a - b) else if c = -47 then (if b = 0 then BR else clp (Int.tdiv a b)) else if c = -60 then (if a < b then 1 else 0) else if c = -62 then (if b < a then 1 else 0) else (if a = b then 1 else 0)
def nt (a : Int) : Int := if a = BR then BR else 1 - a
theorem clp_ok {x : Int} : vOk (clp x) := by
  unfold clp vOk
  split
  · exact Or.inl rfl
  · split
    · exact Or.inl rfl
    · exact Or.inr (by omega)
theorem jn_ok {c a b : Int} (ha : vOk a) (hb : vOk b) : vOk (jn c a b) := by
  have z1 : vOk 1 := Or.inr (by omega)
  have z0 : vOk 0 := Or.inr (by omega)
  have zb : vOk BR := Or.inl rfl
  unfold jn
  repeat' split
  all_goals first | exact ha | exact hb | exact zb | exact clp_ok | exact z1 | exact z0
theorem jn_cmp {c a b : Int} (hc : c = -60 ∨ c = -61 ∨ c = -62) : tOk (jn c a b) := by
  unfold jn tOk
  rw [if_neg (by omega), if_neg (by omega)]
  by_cases h1 : a = BR
  · rw [if_pos h1]; exact Or.inr (Or.inr rfl)
  · rw [if_neg h1]
    by_cases h2 : b = BR
    · rw [if_pos h2]; exact Or.inr (Or.inr rfl)
    · rw [if_neg h2, if_neg (by omega), if_neg (by omega), if_neg (by omega), if_neg (by omega), if_neg (by omega)]
      by_cases c1 : c = -60
      · rw [if_pos c1]
        by_cases h : a < b
        · rw [if_pos h]; omega
        · rw [if_neg h]; omega
      · rw [if_neg c1]
        by_cases c2 : c = -62
        · rw [if_pos c2]
          by_cases h : b < a
          · rw [if_pos h]; omega
          · rw [if_neg h]; omega
        · rw [if_neg c2]
          by_cases h : a = b
          · rw [if_pos h]; omega
          · rw [if_neg h]; omega
theorem jn_and {a b : Int} : jn (-3) a b = if a = 1 then b else a := by unfold jn; rw [if_neg (by omega), if_pos rfl]
theorem jn_or {a b : Int} : jn (-2) a b = if a = 0 then b else a := by unfold jn; rw [if_pos rfl]
theorem jn_br {c a b : Int} (hc : c ≠ -2 ∧ c ≠ -3) (h : a = BR ∨ b = BR) : jn c a b = BR := by
  unfold jn
  rw [if_neg hc.1, if_neg hc.2]
  by_cases h1 : a = BR
  · rw [if_pos h1]
  · rw [if_neg h1, if_pos (by omega)]
theorem tOk_v {x : Int} (h : tOk x) : vOk x := by
  rcases h with h | h | h
  · exact Or.inr (by omega)
  · exact Or.inr (by omega)
  · exact Or.inl h
theorem nt_ok {a : Int} (h : tOk a) : tOk (nt a) := by
  unfold nt
  by_cases e : a = BR
  · rw [if_pos e]; exact Or.inr (Or.inr rfl)
  · rw [if_neg e]
    unfold tOk at *
    omega
theorem nt_nt {a : Int} (h : tOk a) : nt (nt a) = a := by
  have b : BR = -2000000000 := rfl
  unfold nt
  unfold tOk at h
  by_cases e : a = BR
  · rw [if_pos e, if_pos rfl, e]
  · rw [if_neg e, if_neg (by omega)]; omega
/-! the class's code -/
def AllO (st : List Int) : Prop := ∀ x ∈ st, vOk x
theorem AllO_c {x : Int} {st : List Int} (h : vOk x) (hs : AllO st) : AllO (x :: st) := fun y hy => by
  rcases List.mem_cons.mp hy with e | e
  · rw [e]; exact h
  · exact hs y e
def stC (w : Nat → Int) (c : Int) (st : List Int) : List Int := if c = -4 then (match st with | [] => [] | a :: r => nt a :: r) else if c < 0 then (match st with | b :: a :: r => jn c a b :: r | s => s) else if c < 2000 then c :: st else w (c - 2000).toNat :: st
def okCs (nW : Nat) (c : Int) (st : List Int) : Prop := AllO st ∧ (0 ≤ c → st.length < 50 ∧ (c < 2000 → c ≤ 1000) ∧ c < 2000 + (nW : Int)) ∧ (c < 0 → c = -2 ∨ c = -3 ∨ c = -4 ∨ c = -37 ∨ c = -42 ∨ c = -43 ∨ c = -45 ∨ c = -47 ∨ c = -60 ∨ c = -61 ∨ c = -62) ∧ (c = -4 → ∃ a r, st = a :: r ∧ tOk a)
def runC (w : Nat → Int) : List Int → List Int → List Int
  | [], st => st
  | c :: cs, st => runC w cs (stC w c st)
def okC (nW : Nat) (w : Nat → Int) : List Int → List Int → Prop
  | [], st => AllO st
  | c :: cs, st => okCs nW c st ∧ okC nW w cs (stC w c st)
theorem runC_a {w : Nat → Int} : ∀ (a b st : List Int), runC w (a ++ b) st = runC w b (runC w a st)
  | [], b, st => rfl
  | c :: a, b, st => by rw [List.cons_append, runC, runC_a a b]; rfl
theorem okC_a {nW : Nat} {w : Nat → Int} : ∀ (a b st : List Int), okC nW w a st → okC nW w b (runC w a st) → okC nW w (a ++ b) st
  | [], b, st, _, h => h
  | c :: a, b, st, h, h' => ⟨h.1, okC_a a b _ h.2 h'⟩
def SegC (nW : Nat) (cs : List Int) (l : Nat) (E : (Nat → Int) → Int) : Prop := 1 ≤ l ∧ ∀ w, wOk w → ∀ st, AllO st → st.length + l ≤ 50 → okC nW w cs st ∧ runC w cs st = E w :: st
def EOk (E : (Nat → Int) → Int) : Prop := ∀ w, wOk w → vOk (E w)
def TOk (E : (Nat → Int) → Int) : Prop := ∀ w, wOk w → tOk (E w)
theorem TOk_e {E : (Nat → Int) → Int} (h : TOk E) : EOk E := fun w hw => tOk_v (h w hw)
theorem SegC_2 {nW : Nat} {A B : List Int} {la lb : Nat} {Ea Eb : (Nat → Int) → Int} {c : Int} (ha : SegC nW A la Ea) (hb : SegC nW B lb Eb) (oa : EOk Ea) (ob : EOk Eb) (hc : c = -2 ∨ c = -3 ∨ c = -37 ∨ c = -42 ∨ c = -43 ∨ c = -45 ∨ c = -47 ∨ c = -60 ∨ c = -61 ∨ c = -62) : SegC nW (A ++ (B ++ [c])) (la + lb) (fun w => jn c (Ea w) (Eb w)) := by
  obtain ⟨a1, a2⟩ := ha
  obtain ⟨b1, b2⟩ := hb
  refine ⟨by omega, fun w hw st hs hl => ?_⟩
  obtain ⟨x1, x2⟩ := a2 w hw st hs (by omega)
  have s2 : AllO (Ea w :: st) := AllO_c (oa w hw) hs
  obtain ⟨y1, y2⟩ := b2 w hw (Ea w :: st) s2 (by rw [List.length_cons]; omega)
  have s3 : AllO (Eb w :: Ea w :: st) := AllO_c (ob w hw) s2
  have z : stC w c (Eb w :: Ea w :: st) = jn c (Ea w) (Eb w) :: st := by
    unfold stC
    rw [if_neg (by omega), if_pos (by omega)]
  refine ⟨okC_a _ _ _ x1 ?_, ?_⟩
  · rw [x2]
    refine okC_a _ _ _ y1 ?_
    rw [y2]
    refine ⟨⟨s3, fun h => by omega, fun _ => by omega, fun h => by omega⟩, ?_⟩
    rw [z]
    exact AllO_c (jn_ok (oa w hw) (ob w hw)) hs
  · rw [runC_a, x2, runC_a, y2, runC, z]
    rfl
theorem SegC_n {nW : Nat} {A : List Int} {la : Nat} {Ea : (Nat → Int) → Int} (ha : SegC nW A la Ea) (oa : TOk Ea) : SegC nW (A ++ [-4]) la (fun w => nt (Ea w)) := by
  obtain ⟨a1, a2⟩ := ha
  refine ⟨a1, fun w hw st hs hl => ?_⟩
  obtain ⟨x1, x2⟩ := a2 w hw st hs hl
  have s2 : AllO (Ea w :: st) := AllO_c (tOk_v (oa w hw)) hs
  have z : stC w (-4) (Ea w :: st) = nt (Ea w) :: st := by unfold stC; rw [if_pos rfl]
  refine ⟨okC_a _ _ _ x1 ?_, ?_⟩
  · rw [x2]
    refine ⟨⟨s2, fun h => by omega, fun _ => by omega, fun _ => ⟨_, _, rfl, oa w hw⟩⟩, ?_⟩
    rw [z]
    exact AllO_c (tOk_v (nt_ok (oa w hw))) hs
  · rw [runC_a, x2, runC, z]
    rfl
def lvl (w : Nat → Int) (c : Int) : Int := if c < 2000 then c else w (c - 2000).toNat
theorem SegC_l {nW : Nat} {c : Int} (h : 0 ≤ c ∧ (c < 2000 → c ≤ 1000) ∧ c < 2000 + (nW : Int)) : SegC nW [c] 1 (fun w => lvl w c) ∧ EOk (fun w => lvl w c) := by
  have ok : EOk (fun w => lvl w c) := fun w hw => by
    show vOk (lvl w c)
    unfold lvl
    by_cases q : c < 2000
    · rw [if_pos q]; exact Or.inr (by omega)
    · rw [if_neg q]; exact Or.inr (hw _)
  refine ⟨⟨Nat.le_refl _, fun w hw st hs hl => ?_⟩, ok⟩
  have z : stC w c st = lvl w c :: st := by
    unfold stC lvl
    rw [if_neg (by omega), if_neg (by omega)]
    by_cases q : c < 2000
    · rw [if_pos q, if_pos q]
    · rw [if_neg q, if_neg q]
  refine ⟨⟨⟨hs, fun _ => ⟨by omega, h.2.1, h.2.2⟩, fun h' => by omega, fun h' => by omega⟩, ?_⟩, ?_⟩
  · rw [z]; exact AllO_c (ok w hw) hs
  · rw [runC, z]; rfl
/-! the reference's code -/
def cOf (o : Int) : Int := if o = 20 then -43 else if o = 21 then -45 else if o = 22 then -42 else if o = 23 then -47 else if o = 24 then -37 else if o = 25 then -60 else if o = 26 then -62 else -61
theorem cOf_k {o : Int} : cOf o = -37 ∨ cOf o = -42 ∨ cOf o = -43 ∨ cOf o = -45 ∨ cOf o = -47 ∨ cOf o = -60 ∨ cOf o = -61 ∨ cOf o = -62 := by
  unfold cOf
  repeat' split
  all_goals omega
/-- the class's code of a leaf of the reference -/
def lf (ord o a : Int) : Int := if o = 0 then a else if ord = 0 then 2000 + (o - 1) else if o < 5 then 2000 + (o - 1) else if o = 5 then 2004 + a else if o = 6 then 2010 + a else 2016 + a
def lfOk (ord o a : Int) : Prop := 0 ≤ o ∧ (o = 0 → 0 ≤ a ∧ a ≤ 1000) ∧ (ord = 0 → o ≤ 9) ∧ (ord ≠ 0 → o ≤ 7 ∧ (5 ≤ o → 0 ≤ a ∧ a ≤ 7) ∧ (o = 5 ∨ o = 6 → a ≤ 5))
def AllV (st : List Int) : Prop := ∀ x ∈ st, -1000000000 ≤ x ∧ x ≤ 1000000000
theorem AllV_c {x : Int} {st : List Int} (h : -1000000000 ≤ x ∧ x ≤ 1000000000) (hs : AllV st) : AllV (x :: st) := fun y hy => by
  rcases List.mem_cons.mp hy with e | e
  · rw [e]; exact h
  · exact hs y e
def mst (ord : Int) (w : Nat → Int) (op ar : Nat → Int) (k : Nat) (st : List Int) : Option (Nat × List Int) :=
  if op k < 20 then some (k + 1, lvl w (lf ord (op k) (ar k)) :: st)
  else if op k < 28 then (match st with | b :: a :: r => if jn (cOf (op k)) a b = BR then none else some (k + 1, jn (cOf (op k)) a b :: r) | _ => none)
  else if op k = 28 then (match st with | a :: r => some (k + 1, (1 - a) :: r) | _ => none)
  else (match st with | a :: r => if a = (if op k = 29 then 0 else 1) then some ((ar k).toNat, a :: r) else some (k + 1, r) | _ => none)
def okM (ord : Int) (op ar : Nat → Int) (k : Nat) (st : List Int) : Prop := AllV st ∧ (0 ≤ op k ∧ op k ≤ 30) ∧ (op k < 20 → st.length < 50 ∧ lfOk ord (op k) (ar k)) ∧ (20 ≤ op k → op k < 28 → ∃ a b r, st = b :: a :: r) ∧ (28 ≤ op k → ∃ a r, st = a :: r ∧ (a = 0 ∨ a = 1)) ∧ (29 ≤ op k → (k : Int) < ar k)
/-- d steps lead from a place and a row to another one, all of them between lo and hi -/
def Rch (ord : Int) (w : Nat → Int) (op ar : Nat → Int) (lo hi : Nat) : Nat → Nat → List Int → Nat → List Int → Prop
  | 0, k, st, k', st' => k = k' ∧ st = st'
  | d + 1, k, st, k', st' => (lo ≤ k ∧ k < hi) ∧ okM ord op ar k st ∧ ∃ k1 st1, mst ord w op ar k st = some (k1, st1) ∧ Rch ord w op ar lo hi d k1 st1 k' st'
theorem Rch_t {ord : Int} {w : Nat → Int} {op ar : Nat → Int} {lo hi : Nat} : ∀ (d : Nat) {d' : Nat} {k : Nat} {st : List Int} {k1 : Nat} {st1 : List Int} {k2 : Nat} {st2 : List Int}, Rch ord w op ar lo hi d k st k1 st1 → Rch ord w op ar lo hi d' k1 st1 k2 st2 → Rch ord w op ar lo hi (d' + d) k st k2 st2
  | 0, d', k, st, k1, st1, k2, st2, h, h' => by
    obtain ⟨rfl, rfl⟩ := h
    exact h'
  | d + 1, d', k, st, k1, st1, k2, st2, h, h' => by
    obtain ⟨a, b, k3, st3, c, e⟩ := h
    exact ⟨a, b, k3, st3, c, Rch_t d e h'⟩
theorem Rch_m {ord : Int} {w : Nat → Int} {op ar op' ar' : Nat → Int} {lo hi lo' hi' : Nat} (h1 : lo' ≤ lo) (h2 : hi ≤ hi') (he : ∀ k, lo ≤ k → k < hi → op' k = op k ∧ ar' k = ar k) : ∀ (d : Nat) {k : Nat} {st : List Int} {k1 : Nat} {st1 : List Int}, Rch ord w op ar lo hi d k st k1 st1 → Rch ord w op' ar' lo' hi' d k st k1 st1
  | 0, k, st, k1, st1, h => h
  | d + 1, k, st, k1, st1, h => by
    obtain ⟨a, b, k3, st3, c, e⟩ := h
    obtain ⟨e1, e2⟩ := he k a.1 a.2
    refine ⟨by omega, ?_, k3, st3, ?_, Rch_m h1 h2 he d e⟩
    · unfold okM at b ⊢; rw [e1, e2]; exact b
    · unfold mst at c ⊢; rw [e1, e2]; exact c
def GoM (ord : Int) (w : Nat → Int) (op ar : Nat → Int) (lo hi : Nat) (st : List Int) (v : Int) : Prop := ∃ d, d ≤ hi - lo ∧ Rch ord w op ar lo hi d lo st hi (v :: st)
def BkM (ord : Int) (w : Nat → Int) (op ar : Nat → Int) (lo hi : Nat) (st : List Int) : Prop := ∃ d k st', d < hi - lo ∧ Rch ord w op ar lo hi d lo st k st' ∧ (lo ≤ k ∧ k < hi) ∧ okM ord op ar k st' ∧ mst ord w op ar k st' = none
def GB (ord : Int) (w : Nat → Int) (op ar : Nat → Int) (lo hi : Nat) (st : List Int) (v : Int) : Prop := (v ≠ BR → GoM ord w op ar lo hi st v) ∧ (v = BR → BkM ord w op ar lo hi st)
def SegM (ord : Int) (op ar : Nat → Int) (lo hi l : Nat) (E : (Nat → Int) → Int) : Prop := (lo < hi ∧ 1 ≤ l) ∧ ∀ w, wOk w → ∀ st, AllV st → st.length + l ≤ 50 → GB ord w op ar lo hi st (E w)
theorem SegM_c {ord : Int} {op ar op' ar' : Nat → Int} {lo hi l : Nat} {E : (Nat → Int) → Int} (h : SegM ord op ar lo hi l E) (he : ∀ k, lo ≤ k → k < hi → op' k = op k ∧ ar' k = ar k) : SegM ord op' ar' lo hi l E := by
  refine ⟨h.1, fun w hw st hs hl => ?_⟩
  have g := h.2 w hw st hs hl
  refine ⟨fun q => ?_, fun q => ?_⟩
  · obtain ⟨d, d1, d2⟩ := g.1 q
    exact ⟨d, d1, Rch_m (Nat.le_refl _) (Nat.le_refl _) he d d2⟩
  · obtain ⟨d, k, st', d1, d2, d3, d4, d5⟩ := g.2 q
    obtain ⟨e1, e2⟩ := he k d3.1 d3.2
    refine ⟨d, k, st', d1, Rch_m (Nat.le_refl _) (Nat.le_refl _) he d d2, d3, ?_, ?_⟩
    · unfold okM at d4 ⊢; rw [e1, e2]; exact d4
    · unfold mst at d5 ⊢; rw [e1, e2]; exact d5
theorem SegM_l {ord : Int} {op ar : Nat → Int} {m : Nat} (ho : op m < 20) (h : lfOk ord (op m) (ar m)) (hv : ∀ w, wOk w → lvl w (lf ord (op m) (ar m)) ≠ BR ∧ -1000000000 ≤ lvl w (lf ord (op m) (ar m)) ∧ lvl w (lf ord (op m) (ar m)) ≤ 1000000000) : SegM ord op ar m (m + 1) 1 (fun w => lvl w (lf ord (op m) (ar m))) := by
  refine ⟨by omega, fun w hw st hs hl => ⟨fun _ => ⟨1, by omega, by omega, ⟨hs, ⟨h.1, by omega⟩, fun _ => ⟨by omega, h⟩, fun q => by omega, fun q => by omega, fun q => by omega⟩, m + 1, lvl w (lf ord (op m) (ar m)) :: st, ?_, rfl, rfl⟩, fun q => absurd q (hv w hw).1⟩⟩
  unfold mst
  rw [if_pos ho]
theorem vOk_n {x : Int} (h : vOk x) (hn : x ≠ BR) : -1000000000 ≤ x ∧ x ≤ 1000000000 := by
  rcases h with h | h
  · exact absurd h hn
  · exact h
theorem SegM_2 {ord : Int} {op ar : Nat → Int} {lo mid hi la lb : Nat} {Ea Eb : (Nat → Int) → Int} (ha : SegM ord op ar lo mid la Ea) (hb : SegM ord op ar mid hi lb Eb) (oa : EOk Ea) (ob : EOk Eb) (ho : 20 ≤ op hi ∧ op hi < 28) : SegM ord op ar lo (hi + 1) (la + lb) (fun w => jn (cOf (op hi)) (Ea w) (Eb w)) := by
  obtain ⟨a1, a2⟩ := ha
  obtain ⟨b1, b2⟩ := hb
  have ck := cOf_k (o := op hi)
  refine ⟨by omega, fun w hw st hs hl => ?_⟩
  have gx := a2 w hw st hs (by omega)
  have up : ∀ (d k : Nat) (s : List Int) (k1 : Nat) (s1 : List Int), Rch ord w op ar lo mid d k s k1 s1 → Rch ord w op ar lo (hi + 1) d k s k1 s1 := fun d k s k1 s1 h => Rch_m (Nat.le_refl _) (by omega) (fun _ _ _ => ⟨rfl, rfl⟩) d h
  have up2 : ∀ (d k : Nat) (s : List Int) (k1 : Nat) (s1 : List Int), Rch ord w op ar mid hi d k s k1 s1 → Rch ord w op ar lo (hi + 1) d k s k1 s1 := fun d k s k1 s1 h => Rch_m (by omega) (by omega) (fun _ _ _ => ⟨rfl, rfl⟩) d h
  by_cases ea : Ea w = BR
  · refine ⟨fun q => absurd (jn_br (by omega) (Or.inl ea)) q, fun _ => ?_⟩
    obtain ⟨d, k, st', d1, d2, d3, d4, d5⟩ := gx.2 ea
    exact ⟨d, k, st', by omega, up _ _ _ _ _ d2, by omega, d4, d5⟩
  · obtain ⟨d, d1, d2⟩ := gx.1 ea
    have s2 : AllV (Ea w :: st) := AllV_c (vOk_n (oa w hw) ea) hs
    have gy := b2 w hw (Ea w :: st) s2 (by rw [List.length_cons]; omega)
    by_cases eb : Eb w = BR
    · refine ⟨fun q => absurd (jn_br (by omega) (Or.inr eb)) q, fun _ => ?_⟩
      obtain ⟨d', k, st', d1', d2', d3', d4', d5'⟩ := gy.2 eb
      exact ⟨d' + d, k, st', by omega, Rch_t d (up _ _ _ _ _ d2) (up2 _ _ _ _ _ d2'), by omega, d4', d5'⟩
    · obtain ⟨d', d1', d2'⟩ := gy.1 eb
      have s3 : AllV (Eb w :: Ea w :: st) := AllV_c (vOk_n (ob w hw) eb) s2
      have r := Rch_t d (up _ _ _ _ _ d2) (up2 _ _ _ _ _ d2')
      have ok : okM ord op ar hi (Eb w :: Ea w :: st) := ⟨s3, by omega, fun q => by omega, fun _ _ => ⟨_, _, _, rfl⟩, fun q => by omega, fun q => by omega⟩
      have ms : mst ord w op ar hi (Eb w :: Ea w :: st) = if jn (cOf (op hi)) (Ea w) (Eb w) = BR then none else some (hi + 1, jn (cOf (op hi)) (Ea w) (Eb w) :: st) := by
        unfold mst
        rw [if_neg (by omega), if_pos ho.2]
      refine ⟨fun q => ⟨1 + (d' + d), by omega, Rch_t (d' + d) r ⟨by omega, ok, hi + 1, _, by rw [ms, if_neg q], rfl, rfl⟩⟩, fun q => ⟨d' + d, hi, _, by omega, r, by omega, ok, by rw [ms, if_pos q]⟩⟩
theorem SegM_n {ord : Int} {op ar : Nat → Int} {lo hi la : Nat} {Ea : (Nat → Int) → Int} (ha : SegM ord op ar lo hi la Ea) (oa : TOk Ea) (ho : op hi = 28) : SegM ord op ar lo (hi + 1) la (fun w => nt (Ea w)) := by
  obtain ⟨a1, a2⟩ := ha
  refine ⟨by omega, fun w hw st hs hl => ?_⟩
  have gx := a2 w hw st hs hl
  have up : ∀ (d k : Nat) (s : List Int) (k1 : Nat) (s1 : List Int), Rch ord w op ar lo hi d k s k1 s1 → Rch ord w op ar lo (hi + 1) d k s k1 s1 := fun d k s k1 s1 h => Rch_m (Nat.le_refl _) (by omega) (fun _ _ _ => ⟨rfl, rfl⟩) d h
  have t := oa w hw
  have bb : BR = -2000000000 := rfl
  by_cases ea : Ea w = BR
  · refine ⟨fun q => absurd (show nt (Ea w) = BR by unfold nt; rw [if_pos ea]) q, fun _ => ?_⟩
    obtain ⟨d, k, st', d1, d2, d3, d4, d5⟩ := gx.2 ea
    exact ⟨d, k, st', by omega, up _ _ _ _ _ d2, by omega, d4, d5⟩
  · obtain ⟨d, d1, d2⟩ := gx.1 ea
    have t2 : Ea w = 0 ∨ Ea w = 1 := by unfold tOk at t; omega
    have en : nt (Ea w) = 1 - Ea w := by unfold nt; rw [if_neg ea]
    refine ⟨fun _ => ⟨1 + d, by omega, Rch_t d (up _ _ _ _ _ d2) ⟨by omega, ⟨AllV_c (by omega) hs, by omega, fun q => by omega, fun _ q => by omega, fun _ => ⟨_, _, rfl, t2⟩, fun q => by omega⟩, hi + 1, nt (Ea w) :: st, ?_, rfl, rfl⟩⟩, fun q => by have q' : nt (Ea w) = BR := q; omega⟩
    unfold mst
    rw [if_neg (by omega), if_neg (by omega), if_pos ho, en]
theorem SegM_j {ord : Int} {op ar : Nat → Int} {lo mid hi la lb : Nat} {Ea Eb : (Nat → Int) → Int} (ha : SegM ord op ar lo mid la Ea) (hb : SegM ord op ar (mid + 1) hi lb Eb) (oa : TOk Ea) (ob : TOk Eb) (ho : op mid = 29 ∨ op mid = 30) (har : ar mid = (hi : Int)) : SegM ord op ar lo hi (la + lb) (fun w => jn (if op mid = 29 then -3 else -2) (Ea w) (Eb w)) := by
  obtain ⟨a1, a2⟩ := ha
  obtain ⟨b1, b2⟩ := hb
  refine ⟨by omega, fun w hw st hs hl => ?_⟩
  have gx := a2 w hw st hs (by omega)
  have up : ∀ (d k : Nat) (s : List Int) (k1 : Nat) (s1 : List Int), Rch ord w op ar lo mid d k s k1 s1 → Rch ord w op ar lo hi d k s k1 s1 := fun d k s k1 s1 h => Rch_m (Nat.le_refl _) (by omega) (fun _ _ _ => ⟨rfl, rfl⟩) d h
  have up2 : ∀ (d k : Nat) (s : List Int) (k1 : Nat) (s1 : List Int), Rch ord w op ar (mid + 1) hi d k s k1 s1 → Rch ord w op ar lo hi d k s k1 s1 := fun d k s k1 s1 h => Rch_m (by omega) (by omega) (fun _ _ _ => ⟨rfl, rfl⟩) d h
  have t := oa w hw
  have bb : BR = -2000000000 := rfl
  -- what is told
  have ev : jn (if op mid = 29 then -3 else -2) (Ea w) (Eb w) = if Ea w = BR then BR else if Ea w = (if op mid = 29 then 0 else 1) then Ea w else Eb w := by
    unfold tOk at t
    rcases ho with h | h
    · rw [if_pos h, if_pos h, jn_and]
      rcases t with t | t | t
      · rw [if_neg (by omega), if_neg (by omega), if_pos t]
      · rw [if_pos t, if_neg (by omega), if_neg (by omega)]
      · rw [if_neg (by omega), if_pos t, t]
    · have h' : ¬ op mid = 29 := by omega
      rw [if_neg h', if_neg h', jn_or]
      rcases t with t | t | t
      · rw [if_pos t, if_neg (by omega), if_neg (by omega)]
      · rw [if_neg (by omega), if_neg (by omega), if_pos t]
      · rw [if_neg (by omega), if_pos t, t]
  show GB ord w op ar lo hi st (jn (if op mid = 29 then -3 else -2) (Ea w) (Eb w))
  rw [ev]
  by_cases ea : Ea w = BR
  · rw [if_pos ea]
    refine ⟨fun q => absurd rfl q, fun _ => ?_⟩
    obtain ⟨d, k, st', d1, d2, d3, d4, d5⟩ := gx.2 ea
    exact ⟨d, k, st', by omega, up _ _ _ _ _ d2, by omega, d4, d5⟩
  · rw [if_neg ea]
    obtain ⟨d, d1, d2⟩ := gx.1 ea
    have t2 : Ea w = 0 ∨ Ea w = 1 := by unfold tOk at t; omega
    have ok : okM ord op ar mid (Ea w :: st) := ⟨AllV_c (by omega) hs, by omega, fun q => by omega, fun _ q => by omega, fun _ => ⟨_, _, rfl, t2⟩, fun _ => by omega⟩
    have ms : mst ord w op ar mid (Ea w :: st) = if Ea w = (if op mid = 29 then 0 else 1) then some ((ar mid).toNat, Ea w :: st) else some (mid + 1, st) := by
      unfold mst
      rw [if_neg (by omega), if_neg (by omega), if_neg (by omega)]
    by_cases e : Ea w = (if op mid = 29 then 0 else 1)
    · rw [if_pos e]
      refine ⟨fun _ => ⟨1 + d, by omega, Rch_t d (up _ _ _ _ _ d2) ⟨by omega, ok, hi, Ea w :: st, ?_, rfl, rfl⟩⟩, fun q => absurd q ea⟩
      rw [ms, if_pos e, har]
      rfl
    · rw [if_neg e]
      have r : Rch ord w op ar lo hi (1 + d) lo st (mid + 1) st := Rch_t d (up _ _ _ _ _ d2) ⟨by omega, ok, mid + 1, st, by rw [ms, if_neg e], rfl, rfl⟩
      have gy := b2 w hw st hs (by omega)
      refine ⟨fun q => ?_, fun q => ?_⟩
      · obtain ⟨d', d1', d2'⟩ := gy.1 q
        exact ⟨d' + (1 + d), by omega, Rch_t (1 + d) r (up2 _ _ _ _ _ d2')⟩
      · obtain ⟨d', k, st', d1', d2', d3', d4', d5'⟩ := gy.2 q
        exact ⟨d' + (1 + d), k, st', by omega, Rch_t (1 + d) r (up2 _ _ _ _ _ d2'), by omega, d4', d5'⟩
