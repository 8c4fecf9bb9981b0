/-! ===== states that are written down ===== -/
def lkR : List (Nat × Nat × Nat) → Nat → Nat → Option Nat
  | [], _, _ => none
  | e :: r, k, j => if k = e.1 ∧ j = e.2.1 then some e.2.2 else lkR r k j
def lkS : List (Nat × Nat × Int) → Nat → Nat → Int
  | [], _, _ => 0
  | e :: r, k, j => if k = e.1 ∧ j = e.2.1 then e.2.2 else lkS r k j
def lkH : List (Nat × Nat) → Nat → Nat → (Nat × Nat)
  | [], _, _ => (0, 0)
  | e :: r, N, k => if k = N - 1 then e else lkH r (N - 1) k
def aK (N : Nat) (sh : List (Nat × Nat)) (rf : List (Nat × Nat × Nat)) (sz : Nat) : Kt := (lkR rf, lkH sh N, N, sz)
def aS (ws : List (Nat × Nat × Int)) : Sg := lkS ws
theorem lkR_0 : ∀ {rf : List (Nat × Nat × Nat)} {k : Nat}, (∀ e ∈ rf, e.1 ≠ k) → ∀ j, lkR rf k j = none
  | [], k, _, j => rfl
  | e :: r, k, h, j => by
    rw [lkR, if_neg (fun w => h e List.mem_cons_self w.1.symm)]
    exact lkR_0 (fun x hx => h x (List.mem_cons_of_mem _ hx)) j
theorem lkS_0 : ∀ {ws : List (Nat × Nat × Int)} {k j : Nat}, (∀ e ∈ ws, ¬ (e.1 = k ∧ e.2.1 = j)) → lkS ws k j = 0
  | [], k, j, _ => rfl
  | e :: r, k, j, h => by
    rw [lkS, if_neg (fun w => h e List.mem_cons_self ⟨w.1.symm, w.2.symm⟩)]
    exact lkS_0 (fun x hx => h x (List.mem_cons_of_mem _ hx))
def bOk (N : Nat) (rf : List (Nat × Nat × Nat)) (ws : List (Nat × Nat × Int)) : Bool := rf.all (fun e => e.1 != N) && ws.all (fun e => e.1 != N)
theorem A_new {β : Type} {N M sz t n s : Nat} {sh : List (Nat × Nat)} {rf : List (Nat × Nat × Nat)} {ws : List (Nat × Nat × Int)} {f : Nat → Kt → Sg → Option β} {Q : β → Prop} (hM : M = N + 1) (ok : bOk N rf ws = true) (h : T (f N (aK M ((t, n) :: sh) rf (sz + s)) (aS ws)) Q) : T (nw (aK N sh rf sz).2.2.1 (kNew (aK N sh rf sz) t n s) (sNew (aK N sh rf sz) (aS ws)) f) Q := by
  subst hM
  unfold bOk at ok
  rw [Bool.and_eq_true, List.all_eq_true, List.all_eq_true] at ok
  have e1 : kNew (aK N sh rf sz) t n s = aK (N + 1) ((t, n) :: sh) rf (sz + s) := by
    unfold kNew aK
    refine Prod.ext (funext fun a => funext fun b => ?_) (Prod.ext (funext fun a => ?_) rfl)
    · show (if a = N then none else lkR rf a b) = lkR rf a b
      by_cases q : a = N
      · rw [if_pos q, q, lkR_0 (fun e he w => by have := ok.1 e he; rw [w] at this; simp at this)]
      · rw [if_neg q]
    · show (if a = N then (t, n) else lkH sh N a) = lkH ((t, n) :: sh) (N + 1) a
      rw [lkH, Nat.add_sub_cancel]
  have e2 : sNew (aK N sh rf sz) (aS ws) = aS ws := by
    unfold sNew aS aK
    refine funext fun a => funext fun b => ?_
    show (if a = N then 0 else lkS ws a b) = lkS ws a b
    by_cases q : a = N
    · rw [if_pos q, q, lkS_0 (fun e he w => by have := ok.2 e he; rw [w.1] at this; simp at this)]
    · rw [if_neg q]
  rw [e1, e2]
  exact h
theorem A_ref {β : Type} {N sz q j r : Nat} {sh : List (Nat × Nat)} {rf : List (Nat × Nat × Nat)} {f : Kt → Option β} {Q : β → Prop} (h : T (f (aK N sh ((q, j, r) :: rf) sz)) Q) : T (nm (kRef (aK N sh rf sz) q j (some r)) f) Q := by
  have e : kRef (aK N sh rf sz) q j (some r) = aK N sh ((q, j, r) :: rf) sz := by
    unfold kRef aK upR
    refine Prod.ext (funext fun a => funext fun b => ?_) rfl
    show _ = lkR ((q, j, r) :: rf) a b
    rw [lkR]
  rw [e]
  exact T_nm h
theorem A_up {β : Type} {k j : Nat} {z : Int} {ws : List (Nat × Nat × Int)} {f : Sg → Option β} {Q : β → Prop} (h : T (f (aS ((k, j, z) :: ws))) Q) : T (nm (up2 (aS ws) k j z) f) Q := by
  have e : up2 (aS ws) k j z = aS ((k, j, z) :: ws) := by
    refine funext fun a => funext fun b => ?_
    show _ = lkS ((k, j, z) :: ws) a b
    rw [lkS]
    by_cases q : a = k
    · subst q
      rw [up2_c]
      by_cases w : b = j
      · rw [w, upw_s, if_pos ⟨rfl, rfl⟩]
      · rw [upw_n w, if_neg (fun x => w x.2)]; rfl
    · rw [up2_o q, if_neg (fun x => q x.1)]; rfl
  rw [e]
  exact T_nm h
def bC (N : Nat) (sh : List (Nat × Nat)) (k c : Nat) : Bool := decide (k < N) && decide ((lkH sh N k).1 = c)
def bA (N : Nat) (sh : List (Nat × Nat)) (k t n : Nat) : Bool := decide (k < N) && decide (lkH sh N k = (t, n))
theorem bC_t {N sz k c : Nat} {sh : List (Nat × Nat)} {rf : List (Nat × Nat × Nat)} (h : bC N sh k c = true) : IsC (aK N sh rf sz) k c := by
  unfold bC at h
  rw [Bool.and_eq_true, decide_eq_true_eq, decide_eq_true_eq] at h
  exact h
theorem bA_t {N sz k t n : Nat} {sh : List (Nat × Nat)} {rf : List (Nat × Nat × Nat)} (h : bA N sh k t n = true) : IsA (aK N sh rf sz) k t n := by
  unfold bA at h
  rw [Bool.and_eq_true, decide_eq_true_eq, decide_eq_true_eq] at h
  exact h
theorem A_c {β : Type} {N sz k c : Nat} {sh : List (Nat × Nat)} {rf : List (Nat × Nat × Nat)} {v : Option β} {Q : β → Prop} (h : bC N sh k c = true) (hv : T v Q) : T (ckP (IsC (aK N sh rf sz) k c) v) Q := T_ckP (bC_t h) hv
theorem A_a {β : Type} {N sz k t : Nat} {sh : List (Nat × Nat)} {rf : List (Nat × Nat × Nat)} {v : Option β} {Q : β → Prop} (h : bA N sh k t (lkH sh N k).2 = true) (hv : T v Q) : T (ckP (IsA (aK N sh rf sz) k t ((aK N sh rf sz).2.1 k).2) v) Q := T_ckP (bA_t h) hv
theorem A_rd {β : Type} {N sz k j r : Nat} {sh : List (Nat × Nat)} {rf : List (Nat × Nat × Nat)} {f : Nat → Option β} {Q : β → Prop} (h : lkR rf k j = some r) (hv : T (f r) Q) : T (((aK N sh rf sz).1 k j).bind f) Q := by
  show T ((lkR rf k j).bind f) Q
  rw [h]
  exact hv
theorem A_bd {α : Type} {v : Option (Kt × Sg)} {k : Kt → Sg → Option α} {Q : α → Prop} (h : T v (fun p => T (k p.1 p.2) Q)) : T (bdVK v k) Q := T_bdVK h (fun _ _ w => w)
theorem A_some {α : Type} {K : Kt} {σ : Sg} {k : Kt → Sg → Option α} {Q : α → Prop} (h : T (k K σ) Q) : T (some (K, σ)) (fun p => T (k p.1 p.2) Q) := T_some h
theorem a_00 : K00 = aK 0 [] [] 0 ∧ s00 = aS [] := ⟨rfl, rfl⟩
/-! what must hold of what the constructors leave -/
def ckL (N : Nat) (sh : List (Nat × Nat)) (rf : List (Nat × Nat × Nat)) : Bool := cObj.all (fun p => bC N sh p.1 p.2) && cRef.all (fun p => decide (lkR rf p.1 p.2.1 = some p.2.2)) && cArr.all (fun p => bA N sh p.1 p.2.1 p.2.2) && bC N sh 84 10 && mTab.all (fun p => decide (lkR rf 84 p.1 = some p.2.1) && bA N sh p.2.1 p.2.2.1 p.2.2.2) && decide (115 ≤ N) && rf.all (fun e => e.1 != 9 && e.1 != 28 && e.1 != 31 && e.1 != 81)
def sgl : List (Nat × Nat × Int) := [(0, 12, 0), (0, 13, -1), (0, 14, 0), (1, 4, 0), (1, 5, -1), (2, 6, 0), (27, 2, 0), (27, 3, 0), (26, 0, 0), (26, 1, 3), (26, 2, 1), (26, 3, 0), (47, 1, 0), (47, 2, 0), (61, 1, 0), (63, 2, -1), (84, 1, 0), (84, 8, 0), (84, 11, 0), (84, 13, 0), (84, 18, -1), (84, 20, 0), (84, 52, -1), (84, 56, -1), (84, 57, -1), (86, 3, -1), (86, 5, 3), (86, 6, 1), (99, 0, 81387), (99, 1, 408362632), (99, 2, 17484389), (99, 3, 609259698), (99, 4, 690005651), (99, 5, 769614), (99, 6, 366100), (99, 7, 758955), (99, 8, 441828), (100, 0, 758955), (100, 1, 146885), (100, 2, 404362868), (100, 3, 24739718599), (100, 4, 763528), (100, 5, 769614), (100, 6, 17484389), (101, 0, 6600883), (101, 1, 24282707), (101, 2, 21015731), (101, 3, 67155), (112, 0, 398788), (112, 1, 2696647), (112, 2, 754996), (112, 3, 525939)]
def ckW (ws : List (Nat × Nat × Int)) : Bool := sgl.all (fun p => decide (lkS ws p.1 p.2.1 = p.2.2)) && ws.all (fun e => decide (¬ (13 ≤ e.1 ∧ e.1 ≤ 25)) && e.1 != 62 && e.1 != 93 && e.1 != 83 && e.1 != 85 && e.1 != 88 && decide (e.1 = 86 → e.2.1 = 3 ∨ e.2.1 = 5 ∨ e.2.1 = 6))
theorem Inv_a {N sz : Nat} {sh : List (Nat × Nat)} {rf : List (Nat × Nat × Nat)} {ws : List (Nat × Nat × Int)} (hL : ckL N sh rf = true) (hW : ckW ws = true) : Inv (aK N sh rf sz) (aS ws) 0 := by
  unfold ckL at hL
  simp only [Bool.and_eq_true, List.all_eq_true, decide_eq_true_eq] at hL
  obtain ⟨⟨⟨⟨⟨⟨l1, l2⟩, l3⟩, l4⟩, l5⟩, l6⟩, l7⟩ := hL
  unfold ckW at hW
  simp only [Bool.and_eq_true, List.all_eq_true, decide_eq_true_eq, bne_iff_ne, ne_eq] at hW
  obtain ⟨w1, w2⟩ := hW
  have c1 : cLay (aK N sh rf sz) := ⟨fun p hp => bC_t (l1 p hp), fun p hp => l2 p hp, fun p hp => bA_t (l3 p hp)⟩
  have m1 : mLay (aK N sh rf sz) := ⟨bC_t l4, fun p hp => ⟨(l5 p hp).1, bA_t (l5 p hp).2⟩⟩
  have nn : ∀ k, k = 9 ∨ k = 28 ∨ k = 31 ∨ k = 81 → ∀ j, (aK N sh rf sz).1 k j = none := fun k hk j => lkR_0 (fun e he w => by
    have := l7 e he
    simp only [bne_iff_ne, ne_eq] at this
    omega) j
  have V : ∀ k j v, (k, j, v) ∈ sgl → aS ws k j = v := fun k j v h => w1 (k, j, v) h
  have Z : ∀ k, (13 ≤ k ∧ k ≤ 25) ∨ k = 62 ∨ k = 93 ∨ k = 83 ∨ k = 85 ∨ k = 88 → ∀ j, aS ws k j = 0 := fun k hk j => lkS_0 (fun e he w => by
    have := w2 e he
    omega)
  have R : ∀ i, i ≠ 3 → i ≠ 5 → i ≠ 6 → aS ws 86 i = 0 := fun i h3 h5 h6 => lkS_0 (fun e he w => by
    have := (w2 e he).2 w.1
    omega)
  have shp : Shp (aK N sh rf sz) := by
    refine ⟨⟨c1, m1, l6⟩, ?_, ?_, ?_, ?_, ?_, ?_, ?_, ?_⟩
    · intro i q hi e; rw [nn 9 (by omega)] at e; cases e
    · intro i h hi e; rw [nn 28 (by omega)] at e; cases e
    · intro i h hi e; rw [nn 31 (by omega)] at e; cases e
    · intro i j h hi hj e; rw [nn 28 (by omega)] at e; cases e
    · intro i j h hi hj e; rw [nn 31 (by omega)] at e; cases e
    · intro i j h hi hj e; rw [nn 28 (by omega)] at e; cases e
    · intro k m hk e; rw [nn 81 (by omega)] at e; cases e
    · intro m e; rw [nn 81 (by omega)] at e; cases e
  have r3 : aS ws 86 3 = -1 := V 86 3 (-1) (by decide)
  have r5 : aS ws 86 5 = 3 := V 86 5 3 (by decide)
  have r6 : aS ws 86 6 = 1 := V 86 6 1 (by decide)
  have r0 := R 0 (by omega) (by omega) (by omega)
  have r1 := R 1 (by omega) (by omega) (by omega)
  have r2 := R 2 (by omega) (by omega) (by omega)
  have r4 := R 4 (by omega) (by omega) (by omega)
  have r7 := R 7 (by omega) (by omega) (by omega)
  have r8 := R 8 (by omega) (by omega) (by omega)
  refine ⟨⟨shp, ⟨?_, ?_⟩, ⟨⟨?_, ?_, fun i hi => ?_⟩, V 2 6 0 (by decide)⟩, InvU_0 (V 27 2 0 (by decide)) (V 27 3 0 (by decide)) (V 84 8 0 (by decide)), Or.inl ⟨V 84 56 (-1) (by decide), V 47 2 0 (by decide), V 84 57 (-1) (by decide), V 47 1 0 (by decide)⟩, ?_, fun k hk => Or.inl ⟨nn 81 (by omega) k, Z 88 (by omega) k⟩, ?_⟩, ?_, fun j hj => ?_⟩
  · refine ⟨⟨by omega, by omega, by omega, by omega⟩, ⟨by omega, by omega, by omega, by omega, by omega⟩, fun b b0 b1 => by omega, fun r r0 r1 => by omega, fun s u s0 s1 u0 u1 => by omega, fun i i0 i1 => by omega, fun i j i0 i1 => by omega⟩
  · refine ⟨⟨by rw [Z 13 (by omega), r0], by rw [Z 13 (by omega), r1], by rw [Z 13 (by omega), r8]⟩, fun b b0 b1 => ?_, fun r a0 a1 => ?_, fun i i0 i1 => ?_, ?_, ?_, ?_, ?_⟩
    · rw [Z (13 + 1) (by omega), Z (13 + 2) (by omega), Z (13 + 3) (by omega), Z (13 + 4) (by omega), R (71 + b).toNat (by omega) (by omega) (by omega), R (79 + b).toNat (by omega) (by omega) (by omega), R (87 + b).toNat (by omega) (by omega) (by omega), R (9 + b).toNat (by omega) (by omega) (by omega)]
      exact ⟨rfl, rfl, rfl, rfl⟩
    · rw [Z (13 + 5) (by omega), Z (13 + 6) (by omega), Z (13 + 7) (by omega), Z (13 + 8) (by omega), Z (13 + 9) (by omega), Z (13 + 10) (by omega), R (17 + r).toNat (by omega) (by omega) (by omega), R (95 + r).toNat (by omega) (by omega) (by omega), R (23 + r).toNat (by omega) (by omega) (by omega), R (29 + r).toNat (by omega) (by omega) (by omega), R (35 + r).toNat (by omega) (by omega) (by omega), R (41 + r).toNat (by omega) (by omega) (by omega)]
      exact ⟨rfl, rfl, rfl, rfl, fun _ => rfl, rfl⟩
    · rw [Z (13 + 11) (by omega), Z (13 + 12) (by omega), R (47 + 2 * i).toNat (by omega) (by omega) (by omega), R (47 + 2 * i + 1).toNat (by omega) (by omega) (by omega)]
      exact ⟨rfl, rfl⟩
    · rw [r4]; exact V 26 0 0 (by decide)
    · rw [r5]; exact V 26 1 3 (by decide)
    · rw [r6]; exact V 26 2 1 (by decide)
    · rw [r7]; exact V 26 3 0 (by decide)
  · rw [r2]; exact V 1 4 0 (by decide)
  · rw [r3]; exact V 1 5 (-1) (by decide)
  · omega
  · have a := V 61 1 0 (by decide)
    have b := V 84 13 0 (by decide)
    have c := V 0 12 0 (by decide)
    have d := V 84 11 0 (by decide)
    refine ⟨⟨by rw [a, b], by omega, by omega⟩, fun i hi => ?_, ?_, ⟨by rw [c, d], by omega, by omega⟩, ?_, V 84 20 0 (by decide)⟩
    · rw [Z 62 (by omega), Z 93 (by omega)]; omega
    · rw [V 63 2 (-1) (by decide), V 84 18 (-1) (by decide)]
    · rw [V 0 13 (-1) (by decide), V 84 52 (-1) (by decide)]
  · refine ⟨⟨V _ _ _ (by decide), V _ _ _ (by decide), V _ _ _ (by decide), V _ _ _ (by decide), V _ _ _ (by decide), V _ _ _ (by decide), V _ _ _ (by decide), V _ _ _ (by decide), V _ _ _ (by decide)⟩, ⟨V _ _ _ (by decide), V _ _ _ (by decide), V _ _ _ (by decide), V _ _ _ (by decide), V _ _ _ (by decide), V _ _ _ (by decide), V _ _ _ (by decide)⟩, ⟨V _ _ _ (by decide), V _ _ _ (by decide), V _ _ _ (by decide), V _ _ _ (by decide)⟩, V _ _ _ (by decide), V _ _ _ (by decide), V _ _ _ (by decide), V _ _ _ (by decide)⟩
  · rw [V 0 14 0 (by decide), V 84 1 0 (by decide)]
  · rw [Z 83 (by omega), Z 85 (by omega)]; omega
theorem nul_le {K : Kt} {a : Nat} : ∀ n, nul K a n ≤ n
  | 0 => by rw [nul]; omega
  | n + 1 => by
    have := nul_le (K := K) (a := a) n
    rw [nul]
    split <;> omega
theorem ad7 {x y C m : Nat} (h : x ≤ y + 7) (h' : y ≤ C + 7 * m) : x ≤ C + 7 * (m + 1) := by omega
theorem ad480 {x y C m : Nat} (h : x ≤ y + 480) (h' : y ≤ C + 480 * m) : x ≤ C + 480 * (m + 1) := by rw [Nat.mul_succ, ← Nat.add_assoc]; exact Nat.le_trans h (Nat.add_le_add_right h' 480)
theorem ad0 {y C m k : Nat} (h' : y ≤ C + k * m) : y ≤ C + k * (m + 1) := by rw [Nat.mul_succ]; omega
theorem law_loop {Ls : Nat} {xs : Nat → Int} {C S : Nat} (hLs : Ls ≤ 3072) (hx : ∀ i, in32 (xs i)) : ∀ (f m : Nat) (n : Int) (K : Kt) (σ : Sg), 513 - m < f → m ≤ 512 → n ≤ (m : Int) → Inv K σ n → rmC K ≤ C + 7 * m → rmS K ≤ S + 480 * m → T (vL_law_18 Ls xs f 0 84 (6 * (m : Int)) K σ) (fun p => p.1 = 1 ∧ p.2.1.2.2.1 ≤ C + 7 * 512 ∧ p.2.1.2.2.2 ≤ S + 480 * 512) := by
  intro f
  induction f with
  | zero => intro m n K σ h; omega
  | succ f ih =>
    intro m n K σ hf hm hn hI hc hs
    by_cases q : (Ls : Int) - 6 < 6 * (m : Int)
    · rw [vL_law_18]
      refine T_ck (by omega) (T_t q (T_some ⟨rfl, ?_, ?_⟩)) <;> dsimp only
      · unfold rmC at hc; omega
      · unfold rmS at hs; omega
    · have e6 : 6 * (m : Int) + 6 = 6 * ((m + 1 : Nat) : Int) := by omega
      refine loop_step hx (by omega) (by omega) hI (by omega) (fun K' σ' h1 h2 => ?_) ?_
      · rw [e6]
        exact ih (m + 1) (n + 1) K' σ' (by omega) (by omega) (by omega) h1 (ad7 h2.1 hc) (ad480 h2.2 hs)
      · rw [e6]
        exact ih (m + 1) n K σ (by omega) (by omega) (by omega) hI (ad0 hc) (ad0 hs)
