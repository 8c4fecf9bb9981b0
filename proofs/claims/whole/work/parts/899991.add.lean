/-! ===== what was kept while running is added ===== -/
def l16 (l : UL) : UL := l.drop (l.length - 16)
theorem l16_l {l : UL} : (l16 l).length ≤ 16 := by unfold l16; rw [List.length_drop]; omega
theorem l16_a {A B : UL} : l16 (l16 A ++ B) = l16 (A ++ B) := by
  unfold l16
  rw [List.length_append, List.length_drop, List.length_append]
  by_cases h : A.length ≤ 16
  · rw [show A.length - 16 = 0 by omega, List.drop_zero, Nat.sub_zero]
  · rw [← List.drop_append_of_le_length (show A.length - 16 ≤ A.length by omega), List.drop_drop]
    congr 1
    omega
theorem l16_b {A B : UL} : l16 (A ++ l16 B) = l16 (A ++ B) := by
  unfold l16
  rw [List.length_append, List.length_drop, List.length_append]
  by_cases h : B.length ≤ 16
  · rw [show B.length - 16 = 0 by omega, List.drop_zero, Nat.sub_zero]
  · rw [List.drop_append, List.drop_append, List.drop_of_length_le (l := A) (by omega), List.drop_of_length_le (l := A) (by omega), List.nil_append, List.nil_append, List.drop_drop]
    congr 1
    omega
theorem pushU_16 {L : UL} {x : (Nat → Int) × Int} (h : L.length ≤ 16) : pushU L x = l16 (L ++ [x]) := by
  unfold pushU l16
  rw [List.length_append, List.length_singleton]
  by_cases q : L.length < 16
  · rw [if_pos q, show L.length + 1 - 16 = 0 by omega, List.drop_zero]
  · rw [if_neg q, show L.length + 1 - 16 = 1 by omega]
    cases L with
    | nil => rw [List.length_nil] at q; omega
    | cons y r => rfl
theorem fold_16 : ∀ (xs L : UL), L.length ≤ 16 → xs.foldl pushU L = l16 (L ++ xs)
  | [], L, h => by
    rw [List.append_nil]
    show L = l16 L
    unfold l16
    rw [show L.length - 16 = 0 by omega, List.drop_zero]
  | x :: xs, L, h => by
    rw [List.foldl_cons, pushU_16 h, fold_16 xs _ l16_l, l16_a, List.append_assoc]
    rfl
theorem fold_m {xs L : UL} (h : L.length ≤ 16) : (xs.foldl pushU []).foldl pushU L = xs.foldl pushU L := by
  rw [fold_16 xs [] (by rw [List.length_nil]; omega), fold_16 _ L h, fold_16 xs L h, List.nil_append, l16_b]
theorem c_addAll {K : Kt} {σ : Sg} {ρ : Nat → Int} {U L : UL} (hK : Shp K) (hU : UC K σ 30 ρ U) (hL : UC K σ 27 ρ L) : T (vX8_addAll 27 30 K σ) (fun p => Shp p.1 ∧ KX 28 K p.1 ∧ UC p.1 p.2 27 ρ (U.foldl pushU L) ∧ (∀ k, k < K.2.2.1 → k ≠ 27 → k ≠ 29 → ¬ ucA p.1 28 k → p.2 k = σ k) ∧ Rm K p.1) := by
  have l115 := hK.1.2.2
  obtain ⟨u1, u2, u3, u4⟩ := hU
  have key : ∀ (U2 U1 : UL) (f : Nat) (K' : Kt) (σ' : Sg), U = U1 ++ U2 → U2.length < f → Shp K' → KX 28 K K' → UC K' σ' 27 ρ (U1.foldl pushU L) → (∀ k, k < K.2.2.1 → k ≠ 27 → k ≠ 29 → ¬ ucA K' 28 k → σ' k = σ k) → Rm K K' → T (vX8_addAll_2 27 f 27 30 (U1.length : Int) K' σ') (fun p => Shp p.1 ∧ KX 28 K p.1 ∧ UC p.1 p.2 27 ρ (U.foldl pushU L) ∧ (∀ k, k < K.2.2.1 → k ≠ 27 → k ≠ 29 → ¬ ucA p.1 28 k → p.2 k = σ k) ∧ Rm K p.1) := by
    intro U2
    induction U2 with
    | nil =>
      intro U1 f K' σ' hU hf hK' kx uc fr rm
      obtain ⟨f, rfl⟩ : ∃ f', f = f' + 1 := ⟨f - 1, by omega⟩
      rw [List.append_nil] at hU
      have lo : ∀ k, k < 115 → ¬ ucA K' 28 k := fun k hk w => by
        obtain ⟨i, g, hi, e, g1, g2⟩ := w
        have := (hK'.2.2.1 i g hi e).2.1
        omega
      have e3 : σ' 30 3 = (U.length : Int) := by rw [fr 30 (by omega) (by omega) (by omega) (lo 30 (by omega))]; exact u2
      rw [vX8_addAll_2, e3]
      have : U.length = U1.length := by rw [hU]
      refine T_ckP (lcO_30 hK'.1.1) (T_f (by omega) (T_some ⟨hK', kx, ?_, fr, rm⟩))
      rw [hU]; exact uc
    | cons x U2 ih =>
      intro U1 f K' σ' hU hf hK' kx uc fr rm
      obtain ⟨f, rfl⟩ : ∃ f', f = f' + 1 := ⟨f - 1, by omega⟩
      have c1 := hK'.1.1
      have lo : ∀ k, k < 115 → ¬ ucA K' 28 k := fun k hk w => by
        obtain ⟨i, g, hi, e, g1, g2⟩ := w
        have := (hK'.2.2.1 i g hi e).2.1
        omega
      have el : U.length = U1.length + (U2.length + 1) := by rw [hU, List.length_append, List.length_cons]
      have hx : U[U1.length]? = some x := by rw [hU, List.getElem?_append_right (Nat.le_refl _), Nat.sub_self]; rfl
      obtain ⟨h, eh, hH, hW, e2, rg⟩ := u4 U1.length x hx
      have z16 : ((σ 30 2).toNat + U1.length) % 16 < 16 := Nat.mod_lt _ (by omega)
      have s30 : σ' 30 = σ 30 := fr 30 (by omega) (by omega) (by omega) (lo 30 (by omega))
      have s32 : σ' 32 = σ 32 := fr 32 (by omega) (by omega) (by omega) (lo 32 (by omega))
      have eh' : K'.1 31 (((σ 30 2).toNat + U1.length) % 16) = some h := by rw [kx.2.2.1 31 _ (by omega) (by omega)]; exact eh
      have uh := hK'.2.2.2.1 _ h z16 eh'
      have hlt : h + 13 < K.2.2.1 := hl_lt (hK.2.2.2.1 _ h z16 eh).1
      have tz : Int.tmod (σ 30 2 + (U1.length : Int)) 16 = ((((σ 30 2).toNat + U1.length) % 16 : Nat) : Int) := by
        have : Int.tmod (σ 30 2 + (U1.length : Int)) 16 = (σ 30 2 + (U1.length : Int)) % 16 := Int.tmod_eq_emod_of_nonneg (by omega)
        rw [this]
        omega
      have m31 : (K'.2.1 31).2 = 16 := by rw [(lcA_31 c1).2]
      have m32 : (K'.2.1 32).2 = 16 := by rw [(lcA_32 c1).2]
      have hH' : HallIs σ' h (putR ρ x.1) := HallIs_s hH (fun k k1 k2 => fr k (by omega) (by have := uh.2.1; omega) (by have := uh.2.1; omega) (fun w => by
        obtain ⟨i, g, hi, e, g1, g2⟩ := w
        have ne : g ≠ h := fun w2 => hK'.2.2.2.2.2.2.1 i _ g hi z16 e (by rw [w2]; exact eh')
        exact hh_dis (hK'.2.2.1 i g hi e).1 uh.1 ne k g1 g2 ⟨k1, k2⟩))
      have hz32 : σ' 32 (((σ 30 2).toNat + U1.length) % 16) = x.2 := by rw [s32]; exact e2
      rw [vX8_addAll_2, s30, u2, tz]
      refine T_ckP (lcO_30 c1) (T_t (by omega) (T_ckP (lcO_30 c1) (T_ck (by omega) (T_ck ⟨by omega, by omega⟩ (T_nm (T_ckP (lcO_30 c1) ?_))))))
      rw [lcR_30_0 c1, Option.bind_some, m31, Int.toNat_natCast]
      refine T_ckP (lcA_31 c1) (T_ck (by omega) ?_)
      rw [eh', Option.elim_some]
      refine T_ckP (lcO_30 c1) ?_
      rw [Option.bind_some, m31]
      refine T_ckP (lcA_31 c1) (T_ck (by omega) ?_)
      rw [eh', Option.bind_some]
      refine T_ckP (lcO_30 c1) ?_
      rw [lcR_30_1 c1, Option.bind_some, m32, hz32]
      refine T_ckP (lcA_32 c1) (T_ck (by omega) (T_ckP (lcO_27 c1) ?_))
      refine T_bdVK (c_keep (u := 27) (o := h) (s := x.1) (kind := x.2) hK' (Or.inl rfl) uc uh.1 uh.2.2 (fun i g hi e w => hK'.2.2.2.2.2.2.1 i _ g hi z16 e (by rw [← w]; exact eh')) hH' hW rg) (fun K17 σ18 hk => ?_)
      obtain ⟨k1, k2, k3, k4, k5, k6, k7⟩ := hk
      dsimp only at k1 k2 k3 k4 k5 k6 k7
      refine T_ck (by omega) ?_
      have := ih (U1 ++ [x]) f K17 σ18 (by rw [hU, List.append_assoc]; rfl) (by rw [List.length_cons] at hf; omega) k1 (KX_t kx k2) (by rw [List.foldl_append]; exact k3) (fun k a1 a2 a3 a4 => ?_) (Rm_t rm (Rm_k (Or.inl rfl) hK'.1.2.2 k2 k6 k7))
      · rw [List.length_append, List.length_singleton, show ((U1.length + 1 : Nat) : Int) = (U1.length : Int) + 1 by omega] at this
        exact this
      · rw [k4 k (by have := kx.1; omega) a2 a3 a4]
        refine fr k a1 a2 a3 (fun w => a4 ?_)
        obtain ⟨i, g, hi, e, g1, g2⟩ := w
        exact ⟨i, g, hi, k2.2.2.2 i g e, g1, g2⟩
  unfold vX8_addAll
  have := key U [] FU K σ rfl (by have := FU_b; omega) hK KX_r hL (fun _ _ _ _ _ => rfl) Rm_r
  exact this
/-! ===== all is given back ===== -/
theorem m_gb35 {x1 : Int} : ∀ (f x : Nat) (σ : Sg), 16 - x < f → x ≤ 16 → T (vX10_giveBack_35 f x1 (x : Int) σ) (fun σ' => (∀ k, k ≠ 84 → k ≠ 90 → σ' k = σ k) ∧ (∀ j, j ≠ 8 → σ' 84 j = σ 84 j) ∧ σ' 84 8 = x1 ∧ ∀ j, x ≤ j → j < 16 → σ' 90 j = σ 92 j) := by
  intro f
  induction f with
  | zero => intro x σ h; omega
  | succ f ih =>
    intro x σ hf hx
    rw [vX10_giveBack_35]
    refine T_ite (fun q => ?_) (fun q => T_nm (T_some ⟨fun k k1 _ => by rw [up2_o k1], fun j hj => by rw [up2_c, upw_n hj], by rw [up2_c, upw_s], fun j _ _ => by omega⟩))
    refine T_ck (by omega) (T_ck (by omega) (T_nm (T_ck (by omega) ?_)))
    rw [Int.toNat_natCast, show (x : Int) + 1 = ((x + 1 : Nat) : Int) by omega]
    -- slots below are written by later rounds never again
    have key : ∀ (f y : Nat) (τ : Sg), 16 - y < f → y ≤ 16 → T (vX10_giveBack_35 f x1 (y : Int) τ) (fun σ' => (∀ k, k ≠ 84 → k ≠ 90 → σ' k = τ k) ∧ (∀ j, j ≠ 8 → σ' 84 j = τ 84 j) ∧ σ' 84 8 = x1 ∧ (∀ j, y ≤ j → j < 16 → σ' 90 j = τ 92 j) ∧ ∀ j, j < y → σ' 90 j = τ 90 j) := by
      intro f
      induction f with
      | zero => intro y τ h; omega
      | succ f ih2 =>
        intro y τ hf hy
        rw [vX10_giveBack_35]
        refine T_ite (fun q => ?_) (fun q => T_nm (T_some ⟨fun k k1 _ => by rw [up2_o k1], fun j hj => by rw [up2_c, upw_n hj], by rw [up2_c, upw_s], fun j _ _ => by omega, fun j _ => by rw [up2_o (by omega)]⟩))
        refine T_ck (by omega) (T_ck (by omega) (T_nm (T_ck (by omega) ?_)))
        rw [Int.toNat_natCast, show (y : Int) + 1 = ((y + 1 : Nat) : Int) by omega]
        refine T_mono (ih2 (y + 1) (up2 τ 90 y (τ 92 y)) (by omega) (by omega)) (fun σ' h' => ?_)
        obtain ⟨a, b, c, d, e⟩ := h'
        refine ⟨fun k k1 k2 => by rw [a k k1 k2, up2_o k2], fun j hj => by rw [b j hj, up2_o (by omega)], c, fun j j1 j2 => ?_, fun j hj => by rw [e j (by omega), up2_c, upw_n (by omega)]⟩
        by_cases w : j = y
        · rw [w, e y (by omega), up2_c, upw_s]
        · rw [d j (by omega) j2, up2_o (by omega)]
    refine T_mono (key f (x + 1) (up2 σ 90 x (σ 92 x)) (by omega) (by omega)) (fun σ' h' => ?_)
    obtain ⟨a, b, c, d, e⟩ := h'
    refine ⟨fun k k1 k2 => by rw [a k k1 k2, up2_o k2], fun j hj => by rw [b j hj, up2_o (by omega)], c, fun j j1 j2 => ?_⟩
    by_cases w : j = x
    · rw [w, e x (by omega), up2_c, upw_s]
    · rw [d j (by omega) j2, up2_o (by omega)]
theorem m_gb8 {x1 : Int} : ∀ (f x : Nat) (σ : Sg), 1072 - x < f → x ≤ 1072 → T (vX10_giveBack_8 f x1 (x : Int) σ) (fun σ' => (∀ k, k ≠ 84 → k ≠ 89 → k ≠ 90 → σ' k = σ k) ∧ (∀ j, j ≠ 8 → σ' 84 j = σ 84 j) ∧ σ' 84 8 = x1 ∧ (∀ j, j < 16 → σ' 90 j = σ 92 j) ∧ (∀ j, x ≤ j → j < 1072 → σ' 89 j = σ 91 j) ∧ ∀ j, j < x → σ' 89 j = σ 89 j) := by
  intro f
  induction f with
  | zero => intro x σ h; omega
  | succ f ih =>
    intro x σ hf hx
    rw [vX10_giveBack_8]
    refine T_ite (fun q => ?_) (fun q => ?_)
    · refine T_ck (by omega) (T_ck (by omega) (T_nm (T_ck (by omega) ?_)))
      rw [Int.toNat_natCast, show (x : Int) + 1 = ((x + 1 : Nat) : Int) by omega]
      refine T_mono (ih (x + 1) (up2 σ 89 x (σ 91 x)) (by omega) (by omega)) (fun σ' h' => ?_)
      obtain ⟨a, b, c, d, e, g⟩ := h'
      refine ⟨fun k k1 k2 k3 => by rw [a k k1 k2 k3, up2_o k2], fun j hj => by rw [b j hj, up2_o (by omega)], c, fun j hj => by rw [d j hj, up2_o (by omega)], fun j j1 j2 => ?_, fun j hj => by rw [g j (by omega), up2_c, upw_n (by omega)]⟩
      by_cases w : j = x
      · rw [w, g x (by omega), up2_c, upw_s]
      · rw [e j (by omega) j2, up2_o (by omega)]
    · refine T_mono (m_gb35 FU 0 σ (by have := FU_b; omega) (by omega)) (fun σ' h' => ?_)
      obtain ⟨a, b, c, d⟩ := h'
      exact ⟨fun k k1 _ k3 => a k k1 k3, b, c, fun j hj => d j (by omega) hj, fun j _ _ => by omega, fun j _ => by rw [a 89 (by omega) (by omega)]⟩
