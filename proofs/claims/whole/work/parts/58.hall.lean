/-! ===== how many can be served: Hall's theorem ===== -/
theorem cnS_io {P Q : Nat → Prop} : ∀ n : Nat, cnS (fun i => P i ∨ Q i) n + cnS (fun i => P i ∧ Q i) n = cnS P n + cnS Q n
  | 0 => rfl
  | n + 1 => by
    have ih := cnS_io (P := P) (Q := Q) n
    rw [cnS, cnS, cnS, cnS]
    by_cases p : P n
    · by_cases q : Q n
      · rw [bI_t (Or.inl p), bI_t ⟨p, q⟩, bI_t p, bI_t q]; omega
      · rw [bI_t (Or.inl p), bI_f (fun h => q h.2), bI_t p, bI_f q]; omega
    · by_cases q : Q n
      · rw [bI_t (Or.inr q), bI_f (fun h => p h.1), bI_f p, bI_t q]; omega
      · rw [bI_f (fun h => h.elim p q), bI_f (fun h => p h.1), bI_f p, bI_f q]; omega
theorem cnS_le {P Q : Nat → Prop} : ∀ n : Nat, (∀ i, i < n → P i → Q i) → cnS P n ≤ cnS Q n
  | 0, _ => by rw [cnS, cnS]; omega
  | n + 1, h => by
    have ih := cnS_le (P := P) (Q := Q) n (fun i hi => h i (by omega))
    rw [cnS, cnS]
    have := bI_01 (Q n)
    by_cases p : P n
    · rw [bI_t p, bI_t (h n (by omega) p)]; omega
    · rw [bI_f p]; omega
theorem cnS_del {P : Nat → Prop} {b : Nat} : ∀ n : Nat, b < n → cnS P n = cnS (fun i => P i ∧ i ≠ b) n + bI (P b)
  | 0, h => by omega
  | n + 1, h => by
    rw [cnS, cnS]
    by_cases e : b = n
    · subst e
      have : cnS P b = cnS (fun i => P i ∧ i ≠ b) b := cnS_c b (fun u hu => ⟨fun x => ⟨x, by omega⟩, fun x => x.1⟩)
      rw [bI_f (fun x : P b ∧ b ≠ b => x.2 rfl), this]
      omega
    · have ih := cnS_del (P := P) n (show b < n by omega)
      rw [ih, bI_c (show (P n ∧ n ≠ b) ↔ P n from ⟨fun x => x.1, fun x => ⟨x, fun y => e y.symm⟩⟩)]
      omega
def NB (can : Nat → Nat → Prop) (S : Nat → Prop) (b : Nat) : Prop := ∃ i, S i ∧ can i b
noncomputable def gH (can : Nat → Nat → Prop) (R N r : Nat) (F S : Nat → Prop) : Int := ((R : Int) - (r : Int)) - cnS S R + cnS (fun b => F b ∧ NB can S b) N
def inr (r R : Nat) (S : Nat → Prop) : Prop := ∀ i, S i → r ≤ i ∧ i < R
def IsMin (can : Nat → Nat → Prop) (R N r : Nat) (F : Nat → Prop) (v : Int) : Prop := (∀ S, inr r R S → v ≤ gH can R N r F S) ∧ ∃ S, inr r R S ∧ gH can R N r F S = v
theorem IsMin_u {can : Nat → Nat → Prop} {R N r : Nat} {F : Nat → Prop} {v v' : Int} (h : IsMin can R N r F v) (h' : IsMin can R N r F v') : v = v' := by
  obtain ⟨S, s1, s2⟩ := h.2
  obtain ⟨S', s1', s2'⟩ := h'.2
  have a := h.1 S' s1'
  have b := h'.1 S s1
  omega
def rmv (F : Nat → Prop) (b : Nat) : Nat → Prop := fun x => F x ∧ x ≠ b
/-- the most books that readers from R - m on can be given out of F -/
noncomputable def bst (can : Nat → Nat → Prop) (R N : Nat) : Nat → (Nat → Prop) → Int
  | 0, _ => 0
  | m + 1, F => imax (bst can R N m F) (mxN (fun b => 1 + bst can R N m (rmv F b)) (fun b => F b ∧ can (R - (m + 1)) b) N)
theorem gH_rm {can : Nat → Nat → Prop} {R N r b : Nat} {F S : Nat → Prop} (hb : b < N) : gH can R N r F S = gH can R N r (rmv F b) S + bI (F b ∧ NB can S b) := by
  have e := cnS_del (P := fun x => F x ∧ NB can S x) (b := b) N hb
  have e2 : cnS (fun x => (F x ∧ NB can S x) ∧ x ≠ b) N = cnS (fun x => rmv F b x ∧ NB can S x) N := cnS_c N (fun u _ => ⟨fun x => ⟨⟨x.1.1, x.2⟩, x.1.2⟩, fun x => ⟨⟨x.1.1, x.2⟩, x.1.2⟩⟩)
  unfold gH
  rw [e, e2]
  omega
theorem hall_step {can : Nat → Nat → Prop} {R N r : Nat} {B : (Nat → Prop) → Int} (hr : r < R) (hB : ∀ F, IsMin can R N (r + 1) F (B F)) (F : Nat → Prop) : IsMin can R N r F (imax (B F) (mxN (fun b => 1 + B (rmv F b)) (fun b => F b ∧ can r b) N)) := by
  -- below every bound
  have key : ∀ S, inr r R S → ∃ S', inr (r + 1) R S' ∧ (∀ i, S' i → S i) ∧ ((S r ∧ cnS S R = cnS S' R + 1) ∨ (¬ S r ∧ cnS S R = cnS S' R ∧ ∀ i, S i → S' i)) := by
    intro S hS
    refine ⟨fun i => S i ∧ i ≠ r, fun i hi => ?_, fun i hi => hi.1, ?_⟩
    · have := hS i hi.1; have := hi.2; omega
    · have e := cnS_del (P := S) (b := r) R hr
      by_cases c : S r
      · left; rw [bI_t c] at e; exact ⟨c, e⟩
      · right; rw [bI_f c] at e
        exact ⟨c, by omega, fun i hi => ⟨hi, fun q => c (by rw [← q]; exact hi)⟩⟩
  have lo1 : ∀ S, inr r R S → B F ≤ gH can R N r F S := by
    intro S hS
    obtain ⟨S', i1, i2, i3⟩ := key S hS
    have b := (hB F).1 S' i1
    have mono := cnS_le (P := fun b => F b ∧ NB can S' b) (Q := fun b => F b ∧ NB can S b) N (fun b _ h => ⟨h.1, h.2.elim (fun i q => ⟨i, i2 i q.1, q.2⟩)⟩)
    unfold gH at b ⊢
    rcases i3 with ⟨_, e⟩ | ⟨_, e, _⟩
    · omega
    · omega
  have lo2 : ∀ S, inr r R S → ∀ b, b < N → F b → can r b → 1 + B (rmv F b) ≤ gH can R N r F S := by
    intro S hS b hb fb cb
    obtain ⟨S', i1, i2, i3⟩ := key S hS
    have bb := (hB (rmv F b)).1 S' i1
    have mono := cnS_le (P := fun x => rmv F b x ∧ NB can S' x) (Q := fun x => rmv F b x ∧ NB can S x) N (fun x _ h => ⟨h.1, h.2.elim (fun i q => ⟨i, i2 i q.1, q.2⟩)⟩)
    have rm := gH_rm (can := can) (R := R) (r := r) (F := F) (S := S) hb
    have b01 := bI_01 (F b ∧ NB can S b)
    unfold gH at bb rm ⊢
    rcases i3 with ⟨sr, e⟩ | ⟨_, e, _⟩
    · rw [bI_t ⟨fb, r, sr, cb⟩] at rm
      omega
    · omega
  have g0 : ∀ S, inr r R S → 0 ≤ gH can R N r F S := by
    intro S hS
    have a := cnS_b (fun b => F b ∧ NB can S b) N
    have : ∀ n, n ≤ R → cnS S n ≤ if n ≤ r then 0 else (n : Int) - (r : Int) := by
      intro n
      induction n with
      | zero => intro _; rw [cnS]; split <;> omega
      | succ n ih =>
        intro hn
        have ih := ih (by omega)
        have b01 := bI_01 (S n)
        rw [cnS]
        by_cases c : S n
        · have := hS n c
          rw [bI_t c]
          rw [if_neg (by omega)]
          split at ih <;> omega
        · rw [bI_f c]
          split at ih <;> split <;> omega
    have := this R (by omega)
    rw [if_neg (by omega)] at this
    unfold gH
    omega
  have lo : ∀ S, inr r R S → imax (B F) (mxN (fun b => 1 + B (rmv F b)) (fun b => F b ∧ can r b) N) ≤ gH can R N r F S := by
    intro S hS
    rcases (imax_l (B F) (mxN (fun b => 1 + B (rmv F b)) (fun b => F b ∧ can r b) N)).2.2 with e | e
    · rw [e]; exact lo1 S hS
    · rw [e]
      rcases mxN_e (ℓ := fun b => 1 + B (rmv F b)) (P := fun b => F b ∧ can r b) N with q | ⟨b, b1, b2, b3⟩
      · rw [q]; exact g0 S hS
      · rw [b3]; exact lo2 S hS b b1 b2.1 b2.2
  refine ⟨lo, ?_⟩
  have im := imax_l (B F) (mxN (fun b => 1 + B (rmv F b)) (fun b => F b ∧ can r b) N)
  obtain ⟨S0, s1, s2⟩ := (hB F).2
  have s1' : inr r R S0 := fun i hi => by have := s1 i hi; omega
  have up : gH can R N r F S0 = B F + 1 := by
    unfold gH at s2 ⊢
    omega
  by_cases A : ∃ b, b < N ∧ (F b ∧ can r b) ∧ B F ≤ B (rmv F b)
  · obtain ⟨b, b1, b2, b3⟩ := A
    have ge := mxN_g (ℓ := fun b => 1 + B (rmv F b)) (P := fun b => F b ∧ can r b) N b b1 b2
    have le := lo S0 s1'
    exact ⟨S0, s1', by omega⟩
  · -- all are needed
    have hA : ∀ b, b < N → F b → can r b → B (rmv F b) ≤ B F - 1 := by
      intro b b1 b2 b3
      rcases Int.lt_or_le (B (rmv F b)) (B F) with q | q
      · omega
      · exact absurd ⟨b, b1, ⟨b2, b3⟩, q⟩ A
    have cover : ∀ x, x ≤ N → ∃ S, inr (r + 1) R S ∧ gH can R N (r + 1) F S = B F ∧ ∀ b, b < x → F b → can r b → NB can S b := by
      intro x
      induction x with
      | zero => intro _; exact ⟨S0, s1, s2, fun b hb => by omega⟩
      | succ x ih =>
        intro hx
        obtain ⟨S, i1, i2, i3⟩ := ih (by omega)
        by_cases c : F x ∧ can r x
        · obtain ⟨U, u1, u2⟩ := (hB (rmv F x)).2
          have lt := hA x (by omega) c.1 c.2
          have rm := gH_rm (can := can) (R := R) (r := r + 1) (F := F) (S := U) (show x < N by omega)
          have ge := (hB F).1 U u1
          have b01 := bI_01 (F x ∧ NB can U x)
          have tight : gH can R N (r + 1) F U = B F := by omega
          have nbx : NB can U x := by
            by_cases q : F x ∧ NB can U x
            · exact q.2
            · rw [bI_f q] at rm; omega
          have iU : inr (r + 1) R (fun i => S i ∨ U i) := fun i hi => hi.elim (i1 i) (u1 i)
          have iI : inr (r + 1) R (fun i => S i ∧ U i) := fun i hi => i1 i hi.1
          have a1 := (hB F).1 _ iU
          have a2 := (hB F).1 _ iI
          have c1 := cnS_io (P := S) (Q := U) R
          have c2 := cnS_io (P := fun b => F b ∧ NB can S b) (Q := fun b => F b ∧ NB can U b) N
          have c3 := cnS_le (P := fun b => F b ∧ NB can (fun i => S i ∨ U i) b) (Q := fun b => (F b ∧ NB can S b) ∨ (F b ∧ NB can U b)) N (fun b _ h => by
            obtain ⟨fb, i, q1, q2⟩ := h
            exact q1.elim (fun s => Or.inl ⟨fb, i, s, q2⟩) (fun s => Or.inr ⟨fb, i, s, q2⟩))
          have c4 := cnS_le (P := fun b => F b ∧ NB can (fun i => S i ∧ U i) b) (Q := fun b => (F b ∧ NB can S b) ∧ (F b ∧ NB can U b)) N (fun b _ h => by
            obtain ⟨fb, i, q1, q2⟩ := h
            exact ⟨⟨fb, i, q1.1, q2⟩, ⟨fb, i, q1.2, q2⟩⟩)
          refine ⟨fun i => S i ∨ U i, iU, ?_, fun b hb fb cb => ?_⟩
          · unfold gH at *
            omega
          · by_cases e : b = x
            · rw [e]; exact nbx.elim (fun i q => ⟨i, Or.inr q.1, q.2⟩)
            · exact (i3 b (by omega) fb cb).elim (fun i q => ⟨i, Or.inl q.1, q.2⟩)
        · refine ⟨S, i1, i2, fun b hb fb cb => ?_⟩
          by_cases e : b = x
          · rw [e] at fb cb; exact absurd ⟨fb, cb⟩ c
          · exact i3 b (by omega) fb cb
    obtain ⟨S, i1, i2, i3⟩ := cover N (by omega)
    have le : mxN (fun b => 1 + B (rmv F b)) (fun b => F b ∧ can r b) N ≤ B F ∨ mxN (fun b => 1 + B (rmv F b)) (fun b => F b ∧ can r b) N = 0 := by
      rcases mxN_e (ℓ := fun b => 1 + B (rmv F b)) (P := fun b => F b ∧ can r b) N with q | ⟨b, b1, b2, b3⟩
      · exact Or.inr q
      · left; rw [b3]; have := hA b b1 b2.1 b2.2; omega
    have iS : inr r R (fun i => S i ∨ i = r) := fun i hi => hi.elim (fun s => by have := i1 i s; omega) (fun e => by omega)
    have cS : cnS (fun i => S i ∨ i = r) R = cnS S R + 1 := by
      have e := cnS_del (P := fun i => S i ∨ i = r) (b := r) R hr
      rw [bI_t (Or.inr rfl)] at e
      rw [e]
      have : cnS (fun i => (S i ∨ i = r) ∧ i ≠ r) R = cnS S R := cnS_c R (fun u _ => ⟨fun q => q.1.elim id (fun z => absurd z q.2), fun q => ⟨Or.inl q, by have := i1 u q; omega⟩⟩)
      rw [this]
    have cN : cnS (fun b => F b ∧ NB can (fun i => S i ∨ i = r) b) N = cnS (fun b => F b ∧ NB can S b) N := by
      refine cnS_c N (fun b hb => ⟨fun ⟨fb, i, q1, q2⟩ => ⟨fb, ?_⟩, fun ⟨fb, i, q1, q2⟩ => ⟨fb, i, Or.inl q1, q2⟩⟩)
      rcases q1 with s | e
      · exact ⟨i, s, q2⟩
      · rw [e] at q2; exact i3 b hb fb q2
    refine ⟨fun i => S i ∨ i = r, iS, ?_⟩
    have lS := lo _ iS
    have gS := g0 _ iS
    unfold gH at i2 lS gS ⊢
    rw [cS, cN] at *
    omega
theorem bst_hall {can : Nat → Nat → Prop} {R N : Nat} : ∀ m : Nat, m ≤ R → ∀ F, IsMin can R N (R - m) F (bst can R N m F)
  | 0, _, F => by
    have z : ∀ S, inr (R - 0) R S → gH can R N (R - 0) F S = 0 := by
      intro S hS
      have hn : ∀ i, ¬ S i := fun i hi => by have := hS i hi; omega
      have c1 : cnS S R = cnS (fun _ => False) R := cnS_c R (fun u _ => ⟨fun q => hn u q, fun q => q.elim⟩)
      have c2 : cnS (fun b => F b ∧ NB can S b) N = cnS (fun _ => False) N := cnS_c N (fun u _ => ⟨fun ⟨_, i, q, _⟩ => hn i q, fun q => q.elim⟩)
      have c3 : ∀ n, cnS (fun _ => False) n = 0 := by
        intro n
        induction n with
        | zero => rfl
        | succ n ih => rw [cnS, ih, bI_f (fun q => q)]; rfl
      unfold gH
      rw [c1, c2, c3, c3]
      omega
    refine ⟨fun S hS => by rw [z S hS, bst]; omega, fun _ => False, fun i hi => hi.elim, ?_⟩
    rw [z _ (fun i hi => hi.elim), bst]
  | m + 1, h, F => by
    have e : R - m = R - (m + 1) + 1 := by omega
    have ih := bst_hall (can := can) (R := R) (N := N) m (by omega)
    rw [e] at ih
    rw [bst]
    exact hall_step (by omega) ih F
