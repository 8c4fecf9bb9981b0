/-! ===== shapes grow ===== -/
def Ext (K K' : Kt) : Prop := K.2.2.1 ≤ K'.2.2.1 ∧ (∀ k, k < K.2.2.1 → K'.2.1 k = K.2.1 k) ∧ ∀ k j, k < K.2.2.1 → (K.2.1 k).1 < 23 → K'.1 k j = K.1 k j
theorem Ext_r {K : Kt} : Ext K K := ⟨Nat.le_refl _, fun _ _ => rfl, fun _ _ _ _ => rfl⟩
theorem Ext_t {K K' K'' : Kt} (h : Ext K K') (h' : Ext K' K'') : Ext K K'' := by
  refine ⟨by have := h.1; have := h'.1; omega, fun k hk => ?_, fun k j hk hl => ?_⟩
  · rw [h'.2.1 k (by have := h.1; omega), h.2.1 k hk]
  · rw [h'.2.2 k j (by have := h.1; omega) (by rw [h.2.1 k hk]; exact hl), h.2.2 k j hk hl]
theorem IsC_x {K K' : Kt} {k c : Nat} (h : IsC K k c) (e : Ext K K') : IsC K' k c := ⟨by have := h.1; have := e.1; omega, by rw [e.2.1 k h.1]; exact h.2⟩
theorem IsA_x {K K' : Kt} {k t n : Nat} (h : IsA K k t n) (e : Ext K K') : IsA K' k t n := ⟨by have := h.1; have := e.1; omega, by rw [e.2.1 k h.1]; exact h.2⟩
theorem hallAt_x {K K' : Kt} {o : Nat} (h : hallAt K o) (e : Ext K K') : hallAt K' o := by
  refine ⟨IsC_x h.1 e, fun p hp => ⟨?_, IsA_x (h.2 p hp).2 e⟩⟩
  rw [e.2.2 o p.1 h.1.1 (by rw [h.1.2]; omega)]
  exact (h.2 p hp).1
theorem TxtAt_x {K K' : Kt} {q : Nat} (h : TxtAt K q) (e : Ext K K') : TxtAt K' q := by
  refine ⟨IsC_x h.1 e, fun j hj => ?_⟩
  obtain ⟨a, b, c⟩ := h.2 j hj
  refine ⟨?_, by rw [e.2.1 _ c]; exact b, by have := e.1; omega⟩
  rw [e.2.2 q j h.1.1 (by rw [h.1.2]; omega)]; exact a
theorem uH_x {K K' : Kt} {h : Nat} (u : uH K h) (e : Ext K K') : uH K' h := by
  refine ⟨hallAt_x u.1 e, u.2.1, ?_⟩
  rw [e.2.2 h 0 u.1.1.1 (by rw [u.1.1.2]; omega)]; exact u.2.2
theorem cRef_o : ∀ p ∈ cRef, ∃ q ∈ cObj, q.1 = p.1 ∧ q.2 < 23 := by decide
theorem cLay_x {K K' : Kt} (h : cLay K) (e : Ext K K') : cLay K' := by
  refine ⟨fun p hp => IsC_x (h.1 p hp) e, fun p hp => ?_, fun p hp => IsA_x (h.2.2 p hp) e⟩
  obtain ⟨q, hq, q1, q2⟩ := cRef_o p hp
  have c := h.1 q hq
  rw [q1] at c
  rw [e.2.2 p.1 p.2.1 c.1 (by rw [c.2]; exact q2)]
  exact h.2.1 p hp
theorem mLay_x {K K' : Kt} (h : mLay K) (e : Ext K K') : mLay K' := by
  refine ⟨IsC_x h.1 e, fun p hp => ⟨?_, IsA_x (h.2 p hp).2 e⟩⟩
  rw [e.2.2 84 p.1 h.1.1 (by rw [h.1.2]; omega)]
  exact (h.2 p hp).1
theorem value_10_x {K K' : Kt} {q W : Nat} (e1 : IsC K' q 7 = IsC K q 7) (e2 : K'.1 q 5 = K.1 q 5) (e3 : ∀ t, K.1 q 5 = some t → K'.2.1 t = K.2.1 t ∧ ∀ n, IsA K' t 20 n = IsA K t 20 n) (e4 : K'.2.1 W = K.2.1 W) (e5 : ∀ n, IsA K' W 20 n = IsA K W 20 n) : ∀ (f : Nat) (x4 x5 : Int) (σ : Sg), vX5_value_10 K' f q W x4 x5 σ = vX5_value_10 K f q W x4 x5 σ := by
  intro f
  induction f with
  | zero => intro x4 x5 σ; rfl
  | succ f ih =>
    intro x4 x5 σ
    have v205 : ∀ x σ, vX5_value_205 K' x σ = vX5_value_205 K x σ := fun _ _ => rfl
    rw [vX5_value_10, vX5_value_10]
    cases h : K.1 q 5 with
    | none => rw [h] at e2; simp only [e1, e2, Option.bind_none, v205]
    | some t =>
      rw [h] at e2
      obtain ⟨a, b⟩ := e3 t h
      simp only [e1, e2, Option.bind_some, a, b, e4, e5, ih, v205]
theorem value_x {K K' : Kt} {q : Nat} (hc : cLay K) (h : TxtAt K q) (e : Ext K K') (s : Int) (σ : Sg) : vX5_value K' q s 12 σ = vX5_value K q s 12 σ := by
  unfold vX5_value
  refine value_10_x ?_ ?_ (fun t ht => ?_) ?_ (fun n => ?_) FU 0 _ σ
  · exact propext ⟨fun _ => h.1, fun _ => IsC_x h.1 e⟩
  · exact e.2.2 q 5 h.1.1 (by rw [h.1.2]; omega)
  · obtain ⟨a, b, c⟩ := h.2 5 (by omega)
    rw [a] at ht
    injection ht with ht
    subst ht
    have x := e.2.1 _ c
    refine ⟨x, fun n => propext ⟨fun z => ⟨c, by rw [← x]; exact z.2⟩, fun z => IsA_x z e⟩⟩
  · exact e.2.1 12 (lcA_12 hc).1
  · exact propext ⟨fun z => ⟨(lcA_12 hc).1, by rw [← e.2.1 12 (lcA_12 hc).1]; exact z.2⟩, fun z => IsA_x z e⟩
theorem CLaw_x {K K' : Kt} {σ : Sg} {q n : Nat} {kd : Nat → Int} {ts fs : Nat → (Nat → Int) → Int} (hc : cLay K) (ht : TxtAt K q) (e : Ext K K') (h : CLaw K σ q n kd ts fs) : CLaw K' σ q n kd ts fs := by
  have r : ∀ j, K'.1 q j = K.1 q j := fun j => e.2.2 q j ht.1.1 (by rw [ht.1.2]; omega)
  have cv : ∀ s E, CVal K σ q 12 9 s E → CVal K' σ q 12 9 s E := by
    intro s E hv σ' w a b d
    rw [value_x hc ht e]
    refine hv σ' w ⟨a.1, fun j t hj e' => a.2 j t hj (by rw [r j]; exact e')⟩ b d
  obtain ⟨h1, h2, h3, h4, k0, k1, k3, m, e0, e1, e3, hm, a0, a1, a3, hcl⟩ := h
  refine ⟨IsC_x h1 e, ⟨h2.1, fun j t hj e' => h2.2 j t hj (by rw [← r j]; exact e')⟩, h3, h4, k0, k1, k3, m, by rw [r]; exact e0, by rw [r]; exact e1, by rw [r]; exact e3, hm, IsA_x a0 e, IsA_x a1 e, IsA_x a3 e, fun c hcn => ?_⟩
  obtain ⟨x, y, z⟩ := hcl c hcn
  refine ⟨x, ?_, ?_⟩
  · by_cases q1 : σ k3 c = -1
    · rw [if_pos q1] at y ⊢; exact y
    · rw [if_neg q1] at y ⊢; exact cv _ _ y
  · by_cases q1 : σ k1 c = -1
    · rw [if_pos q1] at z ⊢; exact z
    · rw [if_neg q1] at z ⊢; exact cv _ _ z
theorem LawAll_x {K K' : Kt} {σ : Sg} {ta la : Nat} {ρ : Nat → Int} (hc : cLay K) (hx : txs K ta) (e : Ext K K') (hr : ρ 2 ≤ 6) (ea : ∀ i, i < 6 → K'.1 ta i = K.1 ta i) (h : LawAll K σ ta la ρ) : LawAll K' σ ta la ρ := by
  obtain ⟨a, b, c⟩ := h
  refine ⟨a, b, fun i hi => ?_⟩
  obtain ⟨q, e', n, kd, ts, fs, x, y⟩ := c i hi
  exact ⟨q, by rw [ea i (by omega)]; exact e', n, kd, ts, fs, CLaw_x hc (hx i q (by omega) e').1 e x, y⟩
/-- only array a of references has been filled where it was empty -/
def KX (a : Nat) (K K' : Kt) : Prop := K.2.2.1 ≤ K'.2.2.1 ∧ (∀ k, k < K.2.2.1 → K'.2.1 k = K.2.1 k) ∧ (∀ k j, k < K.2.2.1 → k ≠ a → K'.1 k j = K.1 k j) ∧ ∀ j h, K.1 a j = some h → K'.1 a j = some h
theorem KX_e {a : Nat} {K K' : Kt} (h : KX a K K') (ha : 23 ≤ (K.2.1 a).1) : Ext K K' := ⟨h.1, h.2.1, fun k j hk hl => h.2.2.1 k j hk (fun e => by rw [e] at hl; omega)⟩
theorem KX_r {a : Nat} {K : Kt} : KX a K K := ⟨Nat.le_refl _, fun _ _ => rfl, fun _ _ _ _ => rfl, fun _ _ h => h⟩
/-! ===== a new hall ===== -/
theorem kN_1 {K : Kt} {t n sl a b : Nat} (h : a ≠ K.2.2.1) : (kNew K t n sl).1 a b = K.1 a b := if_neg h
theorem kN_2 {K : Kt} {t n sl a : Nat} (h : a ≠ K.2.2.1) : (kNew K t n sl).2.1 a = K.2.1 a := if_neg h
theorem kN_2s {K : Kt} {t n sl : Nat} : (kNew K t n sl).2.1 K.2.2.1 = (t, n) := if_pos rfl
theorem kN_1s {K : Kt} {t n sl b : Nat} : (kNew K t n sl).1 K.2.2.1 b = none := if_pos rfl
theorem sN_o {K : Kt} {σ : Sg} {a : Nat} (h : a ≠ K.2.2.1) : sNew K σ a = σ a := by funext b; exact if_neg h
theorem sN_s {K : Kt} {σ : Sg} {b : Nat} : sNew K σ K.2.2.1 b = 0 := if_pos rfl
theorem kR_s {K : Kt} {q j : Nat} {r : Option Nat} : (kRef K q j r).1 q j = r := if_pos ⟨rfl, rfl⟩
theorem kR_n {K : Kt} {q j a b : Nat} {r : Option Nat} (h : ¬ (a = q ∧ b = j)) : (kRef K q j r).1 a b = K.1 a b := if_neg h
/-- object o (class c) is made, with n arrays behind it whose lengths L tells, held by fields from f on -/
def Mk (K0 : Kt) (σ0 : Sg) (o c f : Nat) (L : Nat → Nat × Nat) (n : Nat) (K : Kt) (σ : Sg) : Prop :=
  K.2.2.1 = o + 1 + n ∧ K0.2.2.1 = o + 1 ∧ (∀ k, k ≤ o → K.2.1 k = K0.2.1 k) ∧ (K0.2.1 o).1 = c ∧ (∀ i, i < n → K.2.1 (o + 1 + i) = L i ∧ K.1 o (f + i) = some (o + 1 + i))
  ∧ (∀ k j, k < o → K.1 k j = K0.1 k j) ∧ (∀ j, (j < f ∨ f + n ≤ j) → K.1 o j = K0.1 o j) ∧ (∀ k, k ≤ o → σ k = σ0 k) ∧ (∀ i j, i < n → σ (o + 1 + i) j = 0)
theorem Mk_0 {K : Kt} {σ : Sg} {o c f : Nat} {L : Nat → Nat × Nat} (h : K.2.2.1 = o + 1) (hc : (K.2.1 o).1 = c) : Mk K σ o c f L 0 K σ := ⟨h, h, fun _ _ => rfl, hc, fun i hi => by omega, fun _ _ _ => rfl, fun _ _ => rfl, fun _ _ => rfl, fun i _ hi => by omega⟩
theorem Mk_s {K0 K : Kt} {σ0 σ : Sg} {o c f : Nat} {L : Nat → Nat × Nat} {n t l sl : Nat} (h : Mk K0 σ0 o c f L n K σ) (hL : L n = (t, l)) : IsC (kNew K t l sl) o c ∧ Mk K0 σ0 o c f L (n + 1) (kRef (kNew K t l sl) o (f + n) (some K.2.2.1)) (sNew K σ) ∧ (kRef (kNew K t l sl) o (f + n) (some K.2.2.1)).2.2.2 = K.2.2.2 + sl := by
  obtain ⟨h1, h2, h3, h4, h5, h6, h7, h8, h9⟩ := h
  refine ⟨⟨?_, ?_⟩, ⟨?_, h2, fun k hk => ?_, h4, fun i hi => ?_, fun k j hk => ?_, fun j hj => ?_, fun k hk => ?_, fun i j hi => ?_⟩, rfl⟩
  · show o < K.2.2.1 + 1; omega
  · rw [kN_2 (by omega), h3 o (by omega)]; exact h4
  · show K.2.2.1 + 1 = _; omega
  · show (kNew K t l sl).2.1 k = _
    rw [kN_2 (by omega)]; exact h3 k hk
  · by_cases e : i = n
    · subst e
      constructor
      · show (kNew K t l sl).2.1 (o + 1 + i) = _
        rw [← h1, kN_2s, hL]
      · rw [kR_s, h1]
    · have q := h5 i (by omega)
      constructor
      · show (kNew K t l sl).2.1 (o + 1 + i) = _
        rw [kN_2 (by omega)]; exact q.1
      · rw [kR_n (by omega), kN_1 (by omega)]; exact q.2
  · rw [kR_n (by omega), kN_1 (by omega)]; exact h6 k j hk
  · rw [kR_n (by omega), kN_1 (by omega)]; exact h7 j (by omega)
  · rw [sN_o (by omega)]; exact h8 k hk
  · by_cases e : i = n
    · subst e; rw [← h1, sN_s]
    · rw [sN_o (by omega)]; exact h9 i j (by omega)
def hlL (i : Nat) : Nat × Nat := if i < 4 then (20, 8) else if i < 10 then (20, 6) else if i < 12 then (20, 12) else (20, 4)
/-- the row of a new hall -/
def row0 : Nat → Int := fun i => if i = 3 then -1 else if i = 5 then 3 else if i = 6 then 1 else 0
def HallNew (K0 : Kt) (σ0 : Sg) (o p : Nat) (K : Kt) (σ : Sg) : Prop := K.2.2.1 = K0.2.2.1 + 13 ∧ K.2.2.2 = K0.2.2.2 + 96 ∧ hallAt K o ∧ K.1 o 0 = some p ∧ (∀ k, k < K0.2.2.1 → K.2.1 k = K0.2.1 k) ∧ (∀ k j, k < o → K.1 k j = K0.1 k j) ∧ (∀ k, k < K0.2.2.1 → σ k = σ0 k) ∧ ((∀ j, σ0 o j = 0) → HallIs σ o row0)
theorem Mk_T {β : Type} {K0 K : Kt} {σ0 σ : Sg} {o c f j : Nat} {L : Nat → Nat × Nat} {n t l sl : Nat} {k : Kt → Sg → Option β} {Q : β → Prop} (h : Mk K0 σ0 o c f L n K σ) (hL : L n = (t, l)) (hj : j = f + n) (cont : ∀ K5 σ5, Mk K0 σ0 o c f L (n + 1) K5 σ5 → K5.2.2.2 = K.2.2.2 + sl → T (k K5 σ5) Q) :
    T (nw K.2.2.1 (kNew K t l sl) (sNew K σ) (fun q1 K2 σ3 => ckP (IsC K2 o c) (nm (kRef K2 o j (some q1)) (fun K5 => k K5 σ3)))) Q := by
  obtain ⟨a, b, d⟩ := Mk_s (sl := sl) h hL
  subst hj
  exact T_nw (T_ckP a (T_nm (cont _ _ b d)))
theorem c_hallInit {K : Kt} {σ : Sg} {o p : Nat} (h : K.2.2.1 = o + 1) (hc : (K.2.1 o).1 = 1) : T (vX1_init o p K σ) (fun r => HallNew K σ o p r.1 r.2) := by
  unfold vX1_init
  have m0 : Mk K σ o 1 4 hlL 0 K σ := Mk_0 h hc
  with_reducible refine T_ck (by omega) ?_
  refine Mk_T m0 rfl rfl (fun K1 σ1 m1 s1 => ?_)
  with_reducible refine T_ck (by omega) ?_
  refine Mk_T m1 rfl rfl (fun K2 σ2 m2 s2 => ?_)
  with_reducible refine T_ck (by omega) ?_
  refine Mk_T m2 rfl rfl (fun K3 σ3 m3 s3 => ?_)
  with_reducible refine T_ck (by omega) ?_
  refine Mk_T m3 rfl rfl (fun K4 σ4 m4 s4 => ?_)
  with_reducible refine T_ck (by omega) ?_
  refine Mk_T m4 rfl rfl (fun K5 σ5 m5 s5 => ?_)
  with_reducible refine T_ck (by omega) ?_
  refine Mk_T m5 rfl rfl (fun K6 σ6 m6 s6 => ?_)
  with_reducible refine T_ck (by omega) ?_
  refine Mk_T m6 rfl rfl (fun K7 σ7 m7 s7 => ?_)
  with_reducible refine T_ck (by omega) ?_
  refine Mk_T m7 rfl rfl (fun K8 σ8 m8 s8 => ?_)
  with_reducible refine T_ck (by omega) ?_
  refine Mk_T m8 rfl rfl (fun K9 σ9 m9 s9 => ?_)
  with_reducible refine T_ck (by omega) ?_
  refine Mk_T m9 rfl rfl (fun K10 σ10 m10 s10 => ?_)
  with_reducible refine T_ck (by omega) ?_
  refine Mk_T m10 rfl rfl (fun K11 σ11 m11 s11 => ?_)
  with_reducible refine T_ck (by omega) ?_
  refine Mk_T m11 rfl rfl (fun K12 σ12 m12 s12 => ?_)
  with_reducible refine T_ck (by omega) ?_
  obtain ⟨h1, h2, h3, h4, h5, h6, h7, h8, h9⟩ := m12
  refine T_nw ?_
  have A : IsA (kNew K12 20 (4 : Int).toNat (4 : Int).toNat) K12.2.2.1 20 4 := ⟨by show K12.2.2.1 < K12.2.2.1 + 1; omega, kN_2s⟩
  have A2 : ((kNew K12 20 (4 : Int).toNat (4 : Int).toNat).2.1 K12.2.2.1).2 = 4 := by rw [kN_2s]; rfl
  rw [A2]
  refine T_ckP A (T_ck (by omega) (T_nm (T_ckP A (T_ck (by omega) (T_nm (T_ckP A (T_ck (by omega) (T_nm (T_ckP A (T_ck (by omega) (T_nm ?_)))))))))))
  have C : IsC (kNew K12 20 (4 : Int).toNat (4 : Int).toNat) o 1 := ⟨by show o < K12.2.2.1 + 1; omega, by rw [kN_2 (by omega), h3 o (by omega)]; exact hc⟩
  refine T_ckP C (T_nm (T_ckP C (T_nm (T_some ?_))))
  dsimp only
  have e12 : K12.2.2.1 = o + 13 := by omega
  have T1 : ∀ k, k ≠ o + 13 → (kNew K12 20 (4 : Int).toNat (4 : Int).toNat).2.1 k = K12.2.1 k := fun k hk => kN_2 (by omega)
  refine ⟨?_, ?_, ⟨C, fun q hq => ?_⟩, kR_s, fun k hk => ?_, fun k j hk => ?_, fun k hk => ?_, fun z => ?_⟩
  · show K12.2.2.1 + 1 = _; omega
  · show K12.2.2.2 + 4 = _
    have e8 : (8 : Int).toNat = 8 := rfl
    have e6 : (6 : Int).toNat = 6 := rfl
    have ee : (12 : Int).toNat = 12 := rfl
    omega
  · have sh : ∀ i, i < 12 → (kNew K12 20 (4 : Int).toNat (4 : Int).toNat).2.1 (o + 1 + i) = hlL i := fun i hi => by rw [T1 _ (by omega)]; exact (h5 i hi).1
    have rf : ∀ i, i < 12 → (kRef (kRef (kNew K12 20 (4 : Int).toNat (4 : Int).toNat) o 16 (some K12.2.2.1)) o 0 (some p)).1 o (4 + i) = some (o + 1 + i) := fun i hi => by rw [kR_n (by omega), kR_n (by omega), kN_1 (by omega)]; exact (h5 i hi).2
    have lt : ∀ i, i < 13 → o + 1 + i < (kRef (kRef (kNew K12 20 (4 : Int).toNat (4 : Int).toNat) o 16 (some K12.2.2.1)) o 0 (some p)).2.2.1 := fun i hi => by show o + 1 + i < K12.2.2.1 + 1; omega
    have go : ∀ i l, i < 12 → hlL i = (20, l) → (kRef (kRef (kNew K12 20 (4 : Int).toNat (4 : Int).toNat) o 16 (some K12.2.2.1)) o 0 (some p)).1 o (4 + i) = some (o + (1 + i)) ∧ IsA (kRef (kRef (kNew K12 20 (4 : Int).toNat (4 : Int).toNat) o 16 (some K12.2.2.1)) o 0 (some p)) (o + (1 + i)) 20 l := fun i l hi hl => by
      rw [← Nat.add_assoc]
      exact ⟨rf i hi, lt i (by omega), by show (kNew K12 20 (4 : Int).toNat (4 : Int).toNat).2.1 (o + 1 + i) = _; rw [sh i hi, hl]⟩
    simp only [hTab, List.mem_cons, List.not_mem_nil, or_false] at hq
    rcases hq with rfl | rfl | rfl | rfl | rfl | rfl | rfl | rfl | rfl | rfl | rfl | rfl | rfl
    · exact go 0 8 (by omega) rfl
    · exact go 1 8 (by omega) rfl
    · exact go 2 8 (by omega) rfl
    · exact go 3 8 (by omega) rfl
    · exact go 4 6 (by omega) rfl
    · exact go 5 6 (by omega) rfl
    · exact go 6 6 (by omega) rfl
    · exact go 7 6 (by omega) rfl
    · exact go 8 6 (by omega) rfl
    · exact go 9 6 (by omega) rfl
    · exact go 10 12 (by omega) rfl
    · exact go 11 12 (by omega) rfl
    · refine ⟨?_, lt 12 (by omega), ?_⟩
      · rw [kR_n (by omega), kR_s, e12]
      · show (kNew K12 20 (4 : Int).toNat (4 : Int).toNat).2.1 (o + 13) = _
        rw [← e12, kN_2s]; rfl
  · show (kNew K12 20 (4 : Int).toNat (4 : Int).toNat).2.1 k = _
    rw [T1 k (by omega)]; exact h3 k (by omega)
  · rw [kR_n (by omega), kR_n (by omega), kN_1 (by omega)]; exact h6 k j hk
  · rw [up2_o (by omega), up2_o (by omega), up2_o (by omega), up2_o (by omega), sN_o (by omega)]; exact h8 k (by omega)
  · have zc : ∀ i, i < 12 → ∀ j, up2 (up2 (up2 (up2 (sNew K12 σ12) K12.2.2.1 0 0) K12.2.2.1 1 3) K12.2.2.1 2 1) K12.2.2.1 3 0 (o + 1 + i) j = 0 := fun i hi j => by rw [up2_o (by omega), up2_o (by omega), up2_o (by omega), up2_o (by omega), sN_o (by omega)]; exact h9 i j hi
    have zo : ∀ j, up2 (up2 (up2 (up2 (sNew K12 σ12) K12.2.2.1 0 0) K12.2.2.1 1 3) K12.2.2.1 2 1) K12.2.2.1 3 0 o j = 0 := fun j => by rw [up2_o (by omega), up2_o (by omega), up2_o (by omega), up2_o (by omega), sN_o (by omega), h8 o (by omega)]; exact z j
    have r0 : ∀ i, i ≠ 3 → i ≠ 5 → i ≠ 6 → row0 i = 0 := fun i a b c => by unfold row0; rw [if_neg a, if_neg b, if_neg c]
    have q13 : up2 (up2 (up2 (up2 (sNew K12 σ12) K12.2.2.1 0 0) K12.2.2.1 1 3) K12.2.2.1 2 1) K12.2.2.1 3 0 (o + 13) = upw (upw (upw (upw (sNew K12 σ12 (o + 13)) 0 0) 1 3) 2 1) 3 0 := by rw [e12]; simp only [up2_c]
    refine ⟨⟨zo 1, zo 2, zo 3⟩, fun b b0 b1 => ⟨?_, ?_, ?_, ?_⟩, fun r c0 c1 => ⟨?_, ?_, ?_, ?_, fun _ => ?_, ?_⟩, fun i i0 i1 => ⟨?_, ?_⟩, ?_, ?_, ?_, ?_⟩
    · rw [show o + 1 = o + 1 + 0 by omega, zc 0 (by omega), r0 _ (by omega) (by omega) (by omega)]
    · rw [show o + 2 = o + 1 + 1 by omega, zc 1 (by omega), r0 _ (by omega) (by omega) (by omega)]
    · rw [show o + 3 = o + 1 + 2 by omega, zc 2 (by omega), r0 _ (by omega) (by omega) (by omega)]
    · rw [show o + 4 = o + 1 + 3 by omega, zc 3 (by omega), r0 _ (by omega) (by omega) (by omega)]
    · rw [show o + 5 = o + 1 + 4 by omega, zc 4 (by omega), r0 _ (by omega) (by omega) (by omega)]
    · rw [show o + 6 = o + 1 + 5 by omega, zc 5 (by omega), r0 _ (by omega) (by omega) (by omega)]
    · rw [show o + 7 = o + 1 + 6 by omega, zc 6 (by omega), r0 _ (by omega) (by omega) (by omega)]
    · rw [show o + 8 = o + 1 + 7 by omega, zc 7 (by omega), r0 _ (by omega) (by omega) (by omega)]
    · rw [show o + 9 = o + 1 + 8 by omega, zc 8 (by omega), r0 _ (by omega) (by omega) (by omega)]
    · rw [show o + 10 = o + 1 + 9 by omega, zc 9 (by omega), r0 _ (by omega) (by omega) (by omega)]
    · rw [show o + 11 = o + 1 + 10 by omega, zc 10 (by omega), r0 _ (by omega) (by omega) (by omega)]
    · rw [show o + 12 = o + 1 + 11 by omega, zc 11 (by omega), r0 _ (by omega) (by omega) (by omega)]
    · rw [q13, upw_n (by omega), upw_n (by omega), upw_n (by omega), upw_s]; rfl
    · rw [q13, upw_n (by omega), upw_n (by omega), upw_s]; rfl
    · rw [q13, upw_n (by omega), upw_s]; rfl
    · rw [q13, upw_s]; rfl
