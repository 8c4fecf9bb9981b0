/-! ===== what holds between two calls ===== -/
def TxtAt (K : Kt) (q : Nat) : Prop := IsC K q 7 ∧ ∀ j, j < 6 → K.1 q j = some (q + 1 + j) ∧ (K.2.1 (q + 1 + j)).1 = 20 ∧ q + 1 + j < K.2.2.1
def txs (K : Kt) (ta : Nat) : Prop := ∀ i q, i < 6 → K.1 ta i = some q → TxtAt K q ∧ 115 ≤ q
def uH (K : Kt) (h : Nat) : Prop := hallAt K h ∧ 115 ≤ h ∧ K.1 h 0 = some 1
def ImgAt (K : Kt) (im : Nat) : Prop := IsC K im 2 ∧ K.1 im 0 = some (im + 1) ∧ K.1 im 1 = some (im + 13) ∧ IsC K (im + 1) 3 ∧ K.1 (im + 1) 1 = some (im + 9) ∧ IsA K (im + 9) 23 6 ∧ hallAt K (im + 13) ∧ 115 ≤ im ∧ txs K (im + 9)
/-- the shapes of all cells -/
def Shp (K : Kt) : Prop := (cLay K ∧ mLay K ∧ 115 ≤ K.2.2.1) ∧ txs K 9
  ∧ (∀ i h, i < 16 → K.1 28 i = some h → uH K h) ∧ (∀ i h, i < 16 → K.1 31 i = some h → uH K h)
  ∧ (∀ i j h, i < 16 → j < 16 → K.1 28 i = some h → K.1 28 j = some h → i = j) ∧ (∀ i j h, i < 16 → j < 16 → K.1 31 i = some h → K.1 31 j = some h → i = j) ∧ (∀ i j h, i < 16 → j < 16 → K.1 28 i = some h → K.1 31 j ≠ some h)
  ∧ (∀ k im, k < 2 → K.1 81 k = some im → ImgAt K im ∧ ∀ i, i < 16 → K.1 28 i ≠ some (im + 13) ∧ K.1 31 i ≠ some (im + 13)) ∧ (∀ im, K.1 81 0 = some im → K.1 81 1 ≠ some im)
/-- laws of the class and of a row -/
def LawAll (K : Kt) (σ : Sg) (ta la : Nat) (ρ : Nat → Int) : Prop := σ la 4 = ρ 2 ∧ σ la 5 = ρ 3 ∧ ∀ i : Nat, (i : Int) < ρ 2 → ∃ q, K.1 ta i = some q ∧ ∃ n kd ts fs, CLaw K σ q n kd ts fs ∧ MLaw ρ (105 + 900 * (i : Int)) n kd ts fs
def InvL (K : Kt) (σ : Sg) : Prop := LawAll K σ 9 1 (σ 86) ∧ σ 2 6 = 0
/-- what can be undone: snapshots of a row and sorts, the oldest first -/
abbrev UL : Type := List ((Nat → Int) × Int)
def UC (K : Kt) (σ : Sg) (u : Nat) (ρ : Nat → Int) (L : UL) : Prop := (0 ≤ σ u 2 ∧ σ u 2 < 16) ∧ σ u 3 = (L.length : Int) ∧ L.length ≤ 16
  ∧ ∀ i x, L[i]? = some x → ∃ h, K.1 (u + 1) (((σ u 2).toNat + i) % 16) = some h ∧ HallIs σ h (putR ρ x.1) ∧ WF (putR ρ x.1) ∧ σ (u + 2) (((σ u 2).toNat + i) % 16) = x.2 ∧ (0 ≤ x.2 ∧ x.2 ≤ 3)
def UM (σ : Sg) (L : UL) : Prop := σ 84 8 = (L.length : Int) ∧ L.length ≤ 16 ∧ ∀ i x, L[i]? = some x → (∀ j, j < 67 → σ 89 (67 * i + j) = x.1 j) ∧ σ 90 i = x.2
def InvU (K : Kt) (σ : Sg) : Prop := ∃ L, UC K σ 27 (σ 86) L ∧ UM σ L
/-- the latest years -/
def InvD (σ : Sg) : Prop := (σ 84 56 = -1 ∧ σ 47 2 = 0 ∧ σ 84 57 = -1 ∧ σ 47 1 = 0) ∨ (σ 84 56 = σ 47 2 ∧ σ 84 57 = σ 47 1 ∧ (0 ≤ σ 47 2 ∧ σ 47 2 ≤ 6) ∧ (0 ≤ σ 47 1 ∧ σ 47 1 ≤ 8) ∧ (∀ r : Int, 0 ≤ r → r < σ 47 2 → σ 114 (3 * r).toNat = σ 52 r.toNat ∧ σ 114 (3 * r + 1).toNat = σ 54 r.toNat ∧ σ 114 (3 * r + 2).toNat = σ 55 r.toNat) ∧ (∀ b : Int, 0 ≤ b → b < σ 47 1 → σ 114 (18 + b).toNat = σ 51 b.toNat))
/-- the tape and single words -/
def InvT (σ : Sg) : Prop := (σ 61 1 = σ 84 13 ∧ 0 ≤ σ 84 13 ∧ σ 84 13 ≤ 400) ∧ (∀ i : Nat, i < 400 → σ 62 i = σ 93 i ∧ 0 ≤ σ 93 i ∧ σ 93 i ≤ 255) ∧ σ 63 2 = σ 84 18 ∧ (σ 0 12 = σ 84 11 ∧ 0 ≤ σ 84 11 ∧ σ 84 11 ≤ 100) ∧ σ 0 13 = σ 84 52 ∧ σ 84 20 = 0
def InvR (σ : Sg) (n : Int) : Prop := ∀ j : Nat, j < 7 → σ 83 j = σ 85 j ∧ 0 ≤ σ 85 j ∧ σ 85 j ≤ n
/-- the row that an image keeps -/
def imR (σ : Sg) (k : Nat) : Nat → Int := fun i => σ 87 (5505 * k + i)
def InvI (K : Kt) (σ : Sg) : Prop := ∀ k : Nat, k < 2 → (K.1 81 k = none ∧ σ 88 k = 0) ∨ (∃ im, K.1 81 k = some im ∧ σ 88 k = 1 ∧ WF (imR σ k) ∧ HallIs σ (im + 13) (imR σ k) ∧ LawAll K σ (im + 9) (im + 1) (imR σ k))
/-- the reference's words -/
def InvC (σ : Sg) : Prop := (σ 99 0 = 81387 ∧ σ 99 1 = 408362632 ∧ σ 99 2 = 17484389 ∧ σ 99 3 = 609259698 ∧ σ 99 4 = 690005651 ∧ σ 99 5 = 769614 ∧ σ 99 6 = 366100 ∧ σ 99 7 = 758955 ∧ σ 99 8 = 441828)
  ∧ (σ 100 0 = 758955 ∧ σ 100 1 = 146885 ∧ σ 100 2 = 404362868 ∧ σ 100 3 = 24739718599 ∧ σ 100 4 = 763528 ∧ σ 100 5 = 769614 ∧ σ 100 6 = 17484389)
  ∧ (σ 101 0 = 6600883 ∧ σ 101 1 = 24282707 ∧ σ 101 2 = 21015731 ∧ σ 101 3 = 67155) ∧ (σ 112 0 = 398788 ∧ σ 112 1 = 2696647 ∧ σ 112 2 = 754996 ∧ σ 112 3 = 525939)
def InvX (K : Kt) (σ : Sg) : Prop := Shp K ∧ (WF (σ 86) ∧ HallIs σ 13 (σ 86)) ∧ InvL K σ ∧ InvU K σ ∧ InvD σ ∧ InvT σ ∧ InvI K σ ∧ InvC σ
def InvS (σ : Sg) (n : Int) : Prop := σ 0 14 = σ 84 1 ∧ InvR σ n
def Inv (K : Kt) (σ : Sg) (n : Int) : Prop := InvX K σ ∧ InvS σ n
/-! ===== laws stay where their cells stay ===== -/
theorem LawAll_s {K : Kt} {σ σ' : Sg} {ta la : Nat} {ρ : Nat → Int} (h : LawAll K σ ta la ρ) (hr : ρ 2 ≤ 6) (hx : txs K ta) (h4 : σ' la 4 = σ la 4) (h5 : σ' la 5 = σ la 5) (hc : ∀ q k, TxtAt K q → 115 ≤ q → q ≤ k → k ≤ q + 6 → σ' k = σ k) : LawAll K σ' ta la ρ := by
  obtain ⟨a, b, c⟩ := h
  refine ⟨by rw [h4]; exact a, by rw [h5]; exact b, fun i hi => ?_⟩
  obtain ⟨q, e, n, kd, ts, fs, x, y⟩ := c i hi
  have ht := hx i q (by omega) e
  refine ⟨q, e, n, kd, ts, fs, CLaw_a x ⟨hc q q ht.1 ht.2 (by omega) (by omega), fun j t hj e' => ?_⟩, y⟩
  have := (ht.1.2 j hj).1
  rw [e'] at this
  have e2 : t = q + 1 + j := by injection this
  rw [e2]
  exact hc q _ ht.1 ht.2 (by omega) (by omega)
theorem HallIs_c {σ σ' : Sg} {o : Nat} {ρ : Nat → Int} (h : HallIs σ o ρ) (hs : ∀ k, o ≤ k → k ≤ o + 13 → σ' k = σ k) : HallIs σ' o ρ := HallIs_s h hs
/-! ===== halls and texts lie apart ===== -/
theorem hallAt_k {K : Kt} {o : Nat} (h : hallAt K o) : (K.2.1 o).1 = 1 ∧ ∀ i, 1 ≤ i → i ≤ 13 → (K.2.1 (o + i)).1 = 20 := by
  obtain ⟨h1, h2⟩ := h
  refine ⟨h1.2, fun i hi hi2 => ?_⟩
  have key : ∀ i : Nat, i < 14 → 1 ≤ i → ∃ p ∈ hTab, p.2.1 = i := by decide
  obtain ⟨p, hp, e⟩ := key i (by omega) hi
  have := (h2 p hp).2.2
  rw [← e, this]
theorem hh_dis {K : Kt} {o o' : Nat} (h : hallAt K o) (h' : hallAt K o') (hne : o ≠ o') : ∀ k, o ≤ k → k ≤ o + 13 → ¬ (o' ≤ k ∧ k ≤ o' + 13) := by
  intro k k1 k2 k3
  obtain ⟨a, b⟩ := hallAt_k h
  obtain ⟨a', b'⟩ := hallAt_k h'
  rcases Nat.lt_or_ge o o' with hl | hl
  · have := b (o' - o) (by omega) (by omega)
    rw [show o + (o' - o) = o' by omega, a'] at this
    omega
  · have := b' (o - o') (by omega) (by omega)
    rw [show o' + (o - o') = o by omega, a] at this
    omega
theorem ht_dis {K : Kt} {o q : Nat} (h : hallAt K o) (h' : TxtAt K q) : ∀ k, o ≤ k → k ≤ o + 13 → ¬ (q ≤ k ∧ k ≤ q + 6) := by
  intro k k1 k2 k3
  obtain ⟨a, b⟩ := hallAt_k h
  obtain ⟨⟨-, a'⟩, b'⟩ := h'
  rcases Nat.lt_trichotomy o q with hl | hl | hl
  · have := b (q - o) (by omega) (by omega)
    rw [show o + (q - o) = q by omega, a'] at this
    omega
  · rw [hl, a'] at a; omega
  · have := (b' (o - q - 1) (by omega)).2.1
    rw [show q + 1 + (o - q - 1) = o by omega, a] at this
    omega
theorem LwO_lo {K : Kt} (hc : cLay K) (hx : txs K 9) {P : Nat → Prop} (hP : ∀ k, P k → 9 ≤ k ∧ k < 115) : LwO K P := by
  refine ⟨⟨fun c => ?_, fun c => ?_, fun j t hj e c => ?_⟩, fun i q hi e => ⟨fun c => ?_, fun j t hj e' c => ?_⟩⟩
  · have := hP _ c; omega
  · have := hP _ c; omega
  · have := hP _ c
    have r0 := lcR_2_0 hc; have r1 := lcR_2_1 hc; have r2 := lcR_2_2 hc; have r3 := lcR_2_3 hc; have r4 := lcR_2_4 hc; have r5 := lcR_2_5 hc
    match j with
    | 0 => rw [r0] at e; injection e; omega
    | 1 => rw [r1] at e; injection e; omega
    | 2 => rw [r2] at e; injection e; omega
    | 3 => rw [r3] at e; injection e; omega
    | 4 => rw [r4] at e; injection e; omega
    | 5 => rw [r5] at e; injection e; omega
    | j + 6 => omega
  · have := hP _ c; have := (hx i q hi e).2; omega
  · have h1 := hP _ c
    have h2 := hx i q hi e
    have h3 := (h2.1.2 j hj).1
    rw [e'] at h3
    injection h3
    omega
theorem TxO_q {K : Kt} {q : Nat} (h : TxtAt K q) (h2 : 115 ≤ q) : TxO K q := by
  refine ⟨by omega, fun j t hj e => ?_⟩
  have := (h.2 j hj).1
  rw [e] at this
  injection this
  omega
theorem CLaw_2 {K : Kt} {σ : Sg} (hc : cLay K) (h : σ 2 6 = 0) (kd : Nat → Int) (ts fs : Nat → (Nat → Int) → Int) : CLaw K σ 2 0 kd ts fs := by
  refine ⟨lcO_2 hc, ⟨by omega, fun j t hj e => ?_⟩, by omega, h, 3, 4, 6, 0, lcR_2_0 hc, lcR_2_1 hc, lcR_2_3 hc, by omega, lcA_3 hc, lcA_4 hc, lcA_6 hc, fun c hc => by omega⟩
  have r0 := lcR_2_0 hc; have r1 := lcR_2_1 hc; have r2 := lcR_2_2 hc; have r3 := lcR_2_3 hc; have r4 := lcR_2_4 hc; have r5 := lcR_2_5 hc
  match j with
  | 0 => rw [r0] at e; injection e; omega
  | 1 => rw [r1] at e; injection e; omega
  | 2 => rw [r2] at e; injection e; omega
  | 3 => rw [r3] at e; injection e; omega
  | 4 => rw [r4] at e; injection e; omega
  | 5 => rw [r5] at e; injection e; omega
  | j + 6 => omega
/-- any law's number means the same in both -/
theorem inv_law {K : Kt} {σ : Sg} {f : Int} (hc : cLay K) (hL : InvL K σ) (hW : WF (σ 86)) (hf : f = -1 ∨ (0 ≤ f ∧ f < σ 86 2)) : ∃ D, LawC K σ f D ∧ LawM (upw (σ 86) 3 f) D := by
  have h26 := hW.1.2.2.1
  have h105 : ∀ i, 105 ≤ i → upw (σ 86) 3 f i = σ 86 i := fun i hi => upw_n (by omega)
  rcases hf with h | h
  · refine ⟨Dn (fun _ => 0) (fun _ _ => 0) (fun _ _ => 0) 0, ⟨0, _, _, _, Or.inl ⟨h, rfl, CLaw_2 hc hL.2 _ _ _⟩, rfl⟩, ⟨0, _, _, _, Or.inl ⟨by rw [upw_s]; exact h, rfl⟩, rfl⟩⟩
  · obtain ⟨a, b, c⟩ := hL.1
    have hn : ((f.toNat : Nat) : Int) = f := by omega
    obtain ⟨q, e, n, kd, ts, fs, x, y⟩ := c f.toNat (by omega)
    rw [hn] at y
    refine ⟨Dn kd ts fs n, ⟨n, kd, ts, fs, Or.inr ⟨h.1, by omega, by rw [a]; exact h.2, q, e, x⟩, rfl⟩, ⟨n, kd, ts, fs, Or.inr ⟨by rw [upw_s]; exact h.1, by rw [upw_s]; omega, ?_⟩, rfl⟩⟩
    rw [upw_s]
    exact MLaw_p y (by omega) h105
theorem inv_force {K : Kt} {σ : Sg} (hc : cLay K) (hL : InvL K σ) (hW : WF (σ 86)) : ∃ D, LawC K σ (σ 1 5) D ∧ LawM (σ 86) D := by
  obtain ⟨D, h1, h2⟩ := inv_law hc hL hW (f := σ 86 3) (by have := hW.1.2.2.2; omega)
  refine ⟨D, by rw [hL.1.2.1]; exact h1, ?_⟩
  have e : upw (σ 86) 3 (σ 86 3) = σ 86 := by
    funext i
    unfold upw
    split
    · rename_i h; rw [h]
    · rfl
  rw [e] at h2
  exact h2
