/-! ===== what can be undone is kept ===== -/
def pushU (L : UL) (x : (Nat → Int) × Int) : UL := if L.length < 16 then L ++ [x] else L.tail ++ [x]
theorem pushU_l {L : UL} {x : (Nat → Int) × Int} (h : L.length ≤ 16) : (pushU L x).length = if L.length < 16 then L.length + 1 else 16 := by
  unfold pushU
  split
  · simp
  · simp; omega
def nul (K : Kt) (a : Nat) : Nat → Nat
  | 0 => 0
  | i + 1 => nul K a i + (if (K.1 a i).isNone then 1 else 0)
theorem nul_c {K K' : Kt} {a : Nat} : ∀ n, (∀ i, i < n → K'.1 a i = K.1 a i) → nul K' a n = nul K a n
  | 0, _ => rfl
  | n + 1, h => by rw [nul, nul, nul_c n (fun i hi => h i (by omega)), h n (by omega)]
theorem nul_s {K K' : Kt} {a z h : Nat} : ∀ n, z < n → K.1 a z = none → K'.1 a z = some h → (∀ i, i < n → i ≠ z → K'.1 a i = K.1 a i) → nul K' a n + 1 = nul K a n
  | 0, hz, _, _, _ => by omega
  | n + 1, hz, h0, h1, h2 => by
    rw [nul, nul]
    by_cases e : z = n
    · subst e
      rw [h0, h1, nul_c z (fun i hi => h2 i (by omega) (by omega))]
      rfl
    · rw [h2 n (by omega) (by omega)]
      have := nul_s n (show z < n by omega) h0 h1 (fun i hi hne => h2 i (by omega) hne)
      omega
theorem hall_sep {K : Kt} {o h : Nat} (a : hallAt K o) (b : hallAt K h) (hne : o ≠ h) : o + 13 < h ∨ h + 13 < o := by
  rcases Nat.lt_or_ge o h with l | l
  · rcases Nat.lt_or_ge (o + 13) h with q | q
    · exact Or.inl q
    · exact absurd ⟨Nat.le_refl h, by omega⟩ (hh_dis a b hne h (by omega) q)
  · rcases Nat.lt_or_ge (h + 13) o with q | q
    · exact Or.inr q
    · exact absurd ⟨by omega, q⟩ (hh_dis a b hne o (by omega) (by omega))
def ucA (K : Kt) (a k : Nat) : Prop := ∃ i h, i < 16 ∧ K.1 a i = some h ∧ h ≤ k ∧ k ≤ h + 13
theorem c_keep_39 {K : Kt} {σ : Sg} {u o z h : Nat} {kind : Int} (hu : uAt K u) (hz : z < 16) (eh : K.1 (u + 1) z = some h) (hh : hallAt K h) (ho : hallAt K o) (hd : o + 13 < h ∨ h + 13 < o) (h3 : u + 2 < h) (hs : 0 ≤ σ u 3 ∧ σ u 3 ≤ 16) (h2 : 0 ≤ σ u 2 ∧ σ u 2 < 16) :
    T (vX8_keep_39 u u o kind (z : Int) K σ) (fun p => p.1 = K ∧ (∀ k, k ≠ u → k ≠ u + 2 → ¬ (h ≤ k ∧ k ≤ h + 13) → p.2 k = σ k) ∧ (∀ j, j ≠ 2 → j ≠ 3 → p.2 u j = σ u j) ∧ p.2 (u + 2) = upw (σ (u + 2)) z kind ∧ (∀ ρ, HallIs σ o ρ → HallIs p.2 h ρ) ∧ p.2 u 3 = (if σ u 3 < 16 then σ u 3 + 1 else σ u 3) ∧ p.2 u 2 = (if σ u 3 < 16 then σ u 2 else Int.tmod (σ u 2 + 1) 16)) := by
  obtain ⟨u1, u2, u3, u4, u5⟩ := hu
  have m3 : (K.2.1 (u + 1)).2 = 16 := by rw [u3.2]
  have m5 : (K.2.1 (u + 2)).2 = 16 := by rw [u5.2]
  unfold vX8_keep_39
  refine T_ckP u1 ?_
  rw [u2, Option.bind_some, m3]
  refine T_ckP u3 (T_ck (by omega) ?_)
  rw [Int.toNat_natCast, eh, Option.bind_some]
  refine T_ckP hh (T_ckP ho (T_ckP hh.1 ?_))
  refine T_bind (c_copyFrom (K := K) (σ := σ) (o := h) (o2 := o) (by omega)) (fun σ8 h8 => ?_)
  obtain ⟨S8, H8⟩ := h8
  refine T_ckP u1 ?_
  rw [u4, Option.bind_some, m5]
  refine T_ckP u5 (T_ck (by omega) (T_nm ?_))
  have eu : up2 σ8 (u + 2) z kind u = σ u := by rw [up2_o (by omega), S8 u (by omega)]
  have ek : up2 σ8 (u + 2) z kind (u + 2) = upw (σ (u + 2)) z kind := by rw [up2_c, S8 (u + 2) (by omega)]
  have eo : ∀ k, k ≠ u + 2 → ¬ (h ≤ k ∧ k ≤ h + 13) → up2 σ8 (u + 2) z kind k = σ k := fun k a b => by rw [up2_o a, S8 k b]
  have eH : ∀ ρ, HallIs σ o ρ → HallIs (up2 σ8 (u + 2) z kind) h ρ := fun ρ q => HallIs_s (H8 ρ q) (fun k a b => up2_o (by omega))
  generalize up2 σ8 (u + 2) z kind = σ9 at *
  refine T_ckP u1 ?_
  rw [eu]
  refine T_ite (fun c => ?_) (fun c => ?_)
  · refine T_ckP u1 (T_ck (by omega) (T_ckP u1 (T_nm (T_some ⟨rfl, fun k a b d => ?_, fun j a b => ?_, ?_, fun ρ q => ?_, ?_, ?_⟩))))
    · dsimp only; rw [up2_o a]; exact eo k b d
    · dsimp only; rw [up2_c, upw_n b, eu]
    · dsimp only; rw [up2_o (by omega)]; exact ek
    · exact HallIs_s (eH ρ q) (fun k a b => up2_o (by omega))
    · dsimp only; rw [if_pos c, up2_c, upw_s]
    · dsimp only; rw [if_pos c, up2_c, upw_n (by omega), eu]
  · have t := tm_b (a := σ u 2 + 1) (b := 16) (by omega) (by omega)
    refine T_ckP u1 (T_ck (by omega) (T_ck ⟨by omega, by omega⟩ (T_ckP u1 (T_nm (T_some ⟨rfl, fun k a b d => ?_, fun j a b => ?_, ?_, fun ρ q => ?_, ?_, ?_⟩)))))
    · dsimp only; rw [up2_o a]; exact eo k b d
    · dsimp only; rw [up2_c, upw_n a, eu]
    · dsimp only; rw [up2_o (by omega)]; exact ek
    · exact HallIs_s (eH ρ q) (fun k a b => up2_o (by omega))
    · dsimp only; rw [if_neg c, up2_c, upw_n (by omega), eu]
    · dsimp only; rw [if_neg c, up2_c, upw_s]
/-- the shapes behind a keep: one more hall at most -/
theorem Shp_x {K K' : Kt} {a z h : Nat} (hK : Shp K) (ha : a = 28 ∨ a = 31) (hz : z < 16) (hx : KX a K K') (ho : ∀ j, j ≠ z → K'.1 a j = K.1 a j) (hn : K.1 a z = none) (e : K'.1 a z = some h) (hh : uH K' h) (hge : K.2.2.1 ≤ h) : Shp K' := by
  have b28 := lcA_28 hK.1.1
  have b31 := lcA_31 hK.1.1
  have ka : 23 ≤ (K.2.1 a).1 := by rcases ha with q | q <;> subst q <;> (first | rw [b28.2] | rw [b31.2]) <;> decide
  have ex := KX_e hx ka
  have lt : ∀ k, k < 115 → k < K.2.2.1 := fun k hk => by have := hK.1.2.2; omega
  have arr : ∀ k j, k < K.2.2.1 → k ≠ a → K'.1 k j = K.1 k j := hx.2.2.1
  obtain ⟨⟨c1, c2, c3⟩, t9, u28, u31, d28, d31, dx, im, im2⟩ := id hK
  have tx : ∀ ta, ta < K.2.2.1 → ta ≠ a → txs K ta → txs K' ta := fun ta h1 h2 q i x hi e' => by
    rw [arr ta i h1 h2] at e'
    exact ⟨TxtAt_x (q i x hi e').1 ex, (q i x hi e').2⟩
  have old : ∀ i x, K.1 a i = some x → i < 16 → x < h := fun i x e' hi => by
    have q : uH K x := by
      rcases ha with w | w
      · rw [w] at e'; exact u28 i x hi e'
      · rw [w] at e'; exact u31 i x hi e'
    have := q.1.1.1
    omega
  have any : ∀ i x, i < 16 → K'.1 a i = some x → uH K' x ∧ (i = z ∧ x = h ∨ i ≠ z ∧ K.1 a i = some x) := fun i x hi e' => by
    by_cases q : i = z
    · rw [q, e] at e'
      injection e' with e'
      rw [← e']; exact ⟨hh, Or.inl ⟨q, rfl⟩⟩
    · rw [ho i q] at e'
      have w : uH K x := by
        rcases ha with w | w
        · rw [w] at e'; exact u28 i x hi e'
        · rw [w] at e'; exact u31 i x hi e'
      exact ⟨uH_x w ex, Or.inr ⟨q, e'⟩⟩
  have oth : ∀ b, (b = 28 ∨ b = 31) → b ≠ a → ∀ i, K'.1 b i = K.1 b i := fun b hb hne i => arr b i (lt b (by omega)) hne
  have lo : ∀ b, (b = 28 ∨ b = 31) → ∀ i x, i < 16 → K.1 b i = some x → x < h := fun b hb i x hi e' => by
    have q : uH K x := by
      rcases hb with w | w
      · rw [w] at e'; exact u28 i x hi e'
      · rw [w] at e'; exact u31 i x hi e'
    have := q.1.1.1
    omega
  have inj : ∀ i j x, i < 16 → j < 16 → K'.1 a i = some x → K'.1 a j = some x → i = j := fun i j x hi hj e1 e2 => by
    rcases (any i x hi e1).2 with ⟨p1, p2⟩ | ⟨p1, p2⟩
    · rcases (any j x hj e2).2 with ⟨q1, q2⟩ | ⟨q1, q2⟩
      · omega
      · have := old j x q2 hj; omega
    · rcases (any j x hj e2).2 with ⟨q1, q2⟩ | ⟨q1, q2⟩
      · have := old i x p2 hi; omega
      · rcases ha with w | w
        · rw [w] at p2 q2; exact d28 i j x hi hj p2 q2
        · rw [w] at p2 q2; exact d31 i j x hi hj p2 q2
  have im81 : ∀ k, K'.1 81 k = K.1 81 k := fun k => arr 81 k (lt 81 (by omega)) (by omega)
  have imn : ∀ k m, k < 2 → K.1 81 k = some m → m + 13 < h := fun k m hk e' => by
    have := (im k m hk e').1.2.2.2.2.2.2.1.1.1
    omega
  refine ⟨⟨cLay_x c1 ex, mLay_x c2 ex, by have := hx.1; omega⟩, tx 9 (lt 9 (by omega)) (by omega) t9, ?_, ?_, ?_, ?_, ?_, ?_, ?_⟩
  · intro i x hi e'
    rcases ha with w | w
    · subst w; exact (any i x hi e').1
    · rw [oth 28 (Or.inl rfl) (by omega)] at e'; exact uH_x (u28 i x hi e') ex
  · intro i x hi e'
    rcases ha with w | w
    · rw [oth 31 (Or.inr rfl) (by omega)] at e'; exact uH_x (u31 i x hi e') ex
    · subst w; exact (any i x hi e').1
  · rcases ha with w | w
    · subst w; exact inj
    · intro i j x hi hj e1 e2
      rw [oth 28 (Or.inl rfl) (by omega)] at e1 e2
      exact d28 i j x hi hj e1 e2
  · rcases ha with w | w
    · intro i j x hi hj e1 e2
      rw [oth 31 (Or.inr rfl) (by omega)] at e1 e2
      exact d31 i j x hi hj e1 e2
    · subst w; exact inj
  · intro i j x hi hj e1 e2
    rcases ha with w | w
    · subst w
      rw [oth 31 (Or.inr rfl) (by omega)] at e2
      rcases (any i x hi e1).2 with ⟨p1, p2⟩ | ⟨p1, p2⟩
      · have := lo 31 (Or.inr rfl) j x hj e2; omega
      · exact dx i j x hi hj p2 e2
    · subst w
      rw [oth 28 (Or.inl rfl) (by omega)] at e1
      rcases (any j x hj e2).2 with ⟨p1, p2⟩ | ⟨p1, p2⟩
      · have := lo 28 (Or.inl rfl) i x hi e1; omega
      · exact dx i j x hi hj e1 p2
  · intro k m hk e'
    rw [im81] at e'
    obtain ⟨⟨i1, i2, i3, i4, i5, i6, i7, i8, i9⟩, dd⟩ := im k m hk e'
    have c14 : (K.2.1 (m + 9)).1 = 23 := by rw [i6.2]
    have ne9 : m + 9 ≠ a := by omega
    refine ⟨⟨IsC_x i1 ex, by rw [arr m 0 i1.1 (by omega)]; exact i2, by rw [arr m 1 i1.1 (by omega)]; exact i3, IsC_x i4 ex, by rw [arr (m + 1) 1 i4.1 (by omega)]; exact i5, IsA_x i6 ex, hallAt_x i7 ex, i8, tx (m + 9) i6.1 ne9 i9⟩, fun i hi => ⟨fun q => ?_, fun q => ?_⟩⟩
    · rcases ha with w | w
      · subst w
        rcases (any i _ hi q).2 with ⟨p1, p2⟩ | ⟨p1, p2⟩
        · have := imn k m hk e'; omega
        · exact (dd i hi).1 p2
      · rw [oth 28 (Or.inl rfl) (by omega)] at q; exact (dd i hi).1 q
    · rcases ha with w | w
      · rw [oth 31 (Or.inr rfl) (by omega)] at q; exact (dd i hi).2 q
      · subst w
        rcases (any i _ hi q).2 with ⟨p1, p2⟩ | ⟨p1, p2⟩
        · have := imn k m hk e'; omega
        · exact (dd i hi).2 p2
  · intro m e1
    rw [im81] at e1 ⊢
    exact im2 m e1
theorem UC_push {K : Kt} {σ σ' : Sg} {u z h : Nat} {ρ : Nat → Int} {L : UL} {x : (Nat → Int) × Int} (hK : Shp K) (hu : u = 27 ∨ u = 30) (hL : UC K σ u ρ L) (hz : z = ((σ u 2).toNat + L.length) % 16) (eh : K.1 (u + 1) z = some h)
    (f1 : ∀ k, k ≠ u → k ≠ u + 2 → ¬ (h ≤ k ∧ k ≤ h + 13) → σ' k = σ k) (f2 : σ' (u + 2) = upw (σ (u + 2)) z x.2) (f3 : HallIs σ' h (putR ρ x.1)) (f4 : σ' u 3 = (if σ u 3 < 16 then σ u 3 + 1 else σ u 3)) (f5 : σ' u 2 = (if σ u 3 < 16 then σ u 2 else Int.tmod (σ u 2 + 1) 16)) (hW : WF (putR ρ x.1)) (hx : 0 ≤ x.2 ∧ x.2 ≤ 3) : UC K σ' u ρ (pushU L x) := by
  obtain ⟨h1, h2, h3, h4⟩ := hL
  obtain ⟨⟨c1, c2, c3⟩, t9, u28, u31, d28, d31, dx, im, im2⟩ := id hK
  have uh : ∀ i x, i < 16 → K.1 (u + 1) i = some x → uH K x := fun i x hi e => by
    rcases hu with w | w
    · subst w; exact u28 i x hi e
    · subst w; exact u31 i x hi e
  have inj : ∀ i j x, i < 16 → j < 16 → K.1 (u + 1) i = some x → K.1 (u + 1) j = some x → i = j := fun i j x hi hj e1 e2 => by
    rcases hu with w | w
    · subst w; exact d28 i j x hi hj e1 e2
    · subst w; exact d31 i j x hi hj e1 e2
  have zl : z < 16 := by rw [hz]; exact Nat.mod_lt _ (by omega)
  have hh := uh z h zl eh
  -- an entry that lies elsewhere is as it was
  have keep : ∀ (pl : Nat) (y : (Nat → Int) × Int), pl < 16 → pl ≠ z → (∃ g, K.1 (u + 1) pl = some g ∧ HallIs σ g (putR ρ y.1) ∧ WF (putR ρ y.1) ∧ σ (u + 2) pl = y.2 ∧ (0 ≤ y.2 ∧ y.2 ≤ 3)) → ∃ g, K.1 (u + 1) pl = some g ∧ HallIs σ' g (putR ρ y.1) ∧ WF (putR ρ y.1) ∧ σ' (u + 2) pl = y.2 ∧ (0 ≤ y.2 ∧ y.2 ≤ 3) := by
    rintro pl y hp hne ⟨g, e, a, b, d, f⟩
    have hg := uh pl g hp e
    have ne : h ≠ g := fun q => hne (inj pl z g hp zl e (by rw [eh, q]))
    refine ⟨g, e, HallIs_s a (fun k k1 k2 => f1 k (by have := hg.2.1; omega) (by have := hg.2.1; omega) (fun q => hh_dis hh.1 hg.1 ne k q.1 q.2 ⟨k1, k2⟩)), b, by rw [f2, upw_n hne]; exact d, f⟩
  have new : ∃ g, K.1 (u + 1) z = some g ∧ HallIs σ' g (putR ρ x.1) ∧ WF (putR ρ x.1) ∧ σ' (u + 2) z = x.2 ∧ (0 ≤ x.2 ∧ x.2 ≤ 3) := ⟨h, eh, f3, hW, by rw [f2, upw_s], hx⟩
  unfold UC
  rw [pushU_l h3, f4, f5, h2]
  by_cases c : L.length < 16
  · rw [if_pos (show ((L.length : Nat) : Int) < 16 by omega), if_pos (show ((L.length : Nat) : Int) < 16 by omega), if_pos c]
    refine ⟨h1, by omega, by omega, fun i y hy => ?_⟩
    unfold pushU at hy
    rw [if_pos c] at hy
    rcases Nat.lt_or_ge i L.length with q | q
    · rw [List.getElem?_append_left q] at hy
      exact keep _ y (Nat.mod_lt _ (by omega)) (by rw [hz]; omega) (h4 i y hy)
    · rw [List.getElem?_append_right q] at hy
      have e0 : i = L.length := by
        have := (List.getElem?_eq_some_iff.mp hy).1
        simp at this
        omega
      subst e0
      rw [Nat.sub_self] at hy
      simp at hy
      subst hy
      rw [← hz]
      exact new
  · have e16 : L.length = 16 := by omega
    rw [if_neg (show ¬ ((L.length : Nat) : Int) < 16 by omega), if_neg (show ¬ ((L.length : Nat) : Int) < 16 by omega), if_neg c]
    have t := tm_b (a := σ u 2 + 1) (b := 16) (by omega) (by omega)
    have tn : (Int.tmod (σ u 2 + 1) 16).toNat = ((σ u 2).toNat + 1) % 16 := by
      have : Int.tmod (σ u 2 + 1) 16 = (σ u 2 + 1) % 16 := Int.tmod_eq_emod_of_nonneg (by omega)
      rw [this]
      omega
    refine ⟨t, by omega, by omega, fun i y hy => ?_⟩
    unfold pushU at hy
    rw [if_neg c] at hy
    have tl : L.tail.length = 15 := by simp; omega
    rw [tn]
    rcases Nat.lt_or_ge i 15 with q | q
    · rw [List.getElem?_append_left (by omega)] at hy
      have hy2 : L[i + 1]? = some y := by rw [List.getElem?_tail] at hy; exact hy
      have ep : (((σ u 2).toNat + 1) % 16 + i) % 16 = ((σ u 2).toNat + (i + 1)) % 16 := by omega
      rw [ep]
      exact keep _ y (Nat.mod_lt _ (by omega)) (by rw [hz]; omega) (h4 (i + 1) y hy2)
    · rw [List.getElem?_append_right (by omega)] at hy
      have e0 : i = 15 := by
        have := (List.getElem?_eq_some_iff.mp hy).1
        simp at this
        omega
      subst e0
      rw [tl] at hy
      simp at hy
      subst hy
      have ep : (((σ u 2).toNat + 1) % 16 + 15) % 16 = z := by rw [hz]; omega
      rw [ep]
      exact new
theorem c_keep {K : Kt} {σ : Sg} {u o : Nat} {kind : Int} {ρ s : Nat → Int} {L : UL} (hK : Shp K) (hu : u = 27 ∨ u = 30) (hU : UC K σ u ρ L) (ho : hallAt K o) (ho0 : K.1 o 0 = some 1) (hd : ∀ i h, i < 16 → K.1 (u + 1) i = some h → o ≠ h) (hH : HallIs σ o (putR ρ s)) (hW : WF (putR ρ s)) (hk : 0 ≤ kind ∧ kind ≤ 3) :
    T (vX8_keep u o kind K σ) (fun p => Shp p.1 ∧ KX (u + 1) K p.1 ∧ UC p.1 p.2 u ρ (pushU L (s, kind)) ∧ (∀ k, k < K.2.2.1 → k ≠ u → k ≠ u + 2 → ¬ ucA p.1 (u + 1) k → p.2 k = σ k) ∧ (∀ j, j ≠ 2 → j ≠ 3 → p.2 u j = σ u j) ∧ p.1.2.2.1 + 14 * nul p.1 (u + 1) 16 ≤ K.2.2.1 + 14 * nul K (u + 1) 16 ∧ p.1.2.2.2 + 113 * nul p.1 (u + 1) 16 ≤ K.2.2.2 + 113 * nul K (u + 1) 16) := by
  obtain ⟨c1, c2, c3⟩ := hK.1
  have hua : uAt K u := by rcases hu with w | w <;> subst w; exact uAt_27 c1; exact uAt_30 c1
  obtain ⟨u1, u2, u3, u4, u5⟩ := id hua
  have m3 : (K.2.1 (u + 1)).2 = 16 := by rw [u3.2]
  obtain ⟨h1, h2, h3, h4⟩ := id hU
  have a28 : u + 1 = 28 ∨ u + 1 = 31 := by omega
  have k23 : 23 ≤ (K.2.1 (u + 1)).1 := by rw [u3.2]; decide
  -- the place
  have t := tm_b (a := σ u 2 + σ u 3) (b := 16) (by omega) (by omega)
  have tz : Int.tmod (σ u 2 + σ u 3) 16 = ((((σ u 2).toNat + L.length) % 16 : Nat) : Int) := by
    have : Int.tmod (σ u 2 + σ u 3) 16 = (σ u 2 + σ u 3) % 16 := Int.tmod_eq_emod_of_nonneg (by omega)
    rw [this]
    omega
  have zl : ((σ u 2).toNat + L.length) % 16 < 16 := Nat.mod_lt _ (by omega)
  generalize hz : ((σ u 2).toNat + L.length) % 16 = z at *
  unfold vX8_keep
  refine T_ckP u1 (T_ckP u1 (T_ck (by omega) (T_ck ⟨by omega, by omega⟩ (T_nm ?_))))
  rw [tz]
  refine T_ckP u1 ?_
  rw [u2, Option.bind_some, m3]
  refine T_ckP u3 (T_ck (by omega) ?_)
  rw [Int.toNat_natCast]
  cases eh : K.1 (u + 1) z with
  | some h =>
    have uh : uH K h := by
      rcases hu with w | w
      · subst w; exact hK.2.2.1 z h zl eh
      · subst w; exact hK.2.2.2.1 z h zl eh
    have sep := hall_sep ho uh.1 (hd z h zl eh)
    refine T_mono (c_keep_39 (kind := kind) hua zl eh uh.1 ho sep (by have := uh.2.1; omega) (by omega) h1) (fun p hp => ?_)
    obtain ⟨p1, p2, p3, p4, p5, p6, p7⟩ := hp
    rw [p1]
    refine ⟨hK, KX_r, ?_, fun k _ k1 k2 k3 => p2 k k1 k2 (fun q => k3 ⟨z, h, zl, eh, q.1, q.2⟩), p3, Nat.le_refl _, Nat.le_refl _⟩
    exact UC_push (x := (s, kind)) hK hu hU hz.symm eh p2 p4 (p5 _ hH) p6 p7 hW hk
  | none =>
    rw [Option.elim_none]
    refine T_ckP u1 ?_
    rw [Option.bind_some]
    refine T_nw ?_
    have lo : o < K.2.2.1 := ho.1.1
    have co : IsC (kNew K 1 0 17) o 1 := ⟨by show o < K.2.2.1 + 1; omega, by rw [kN_2 (by omega)]; exact ho.1.2⟩
    refine T_ckP co ?_
    rw [kN_1 (by omega), ho0, Option.bind_some]
    refine T_bdVK (c_hallInit (K := kNew K 1 0 17) (σ := sNew K σ) (o := K.2.2.1) (p := 1) rfl (by rw [kN_2s])) (fun K5 σ5 hn => ?_)
    obtain ⟨n1, n2, n3, n4, n5, n6, n7, n8⟩ := hn
    dsimp only at n1 n2 n3 n4 n5 n6 n7
    have n1' : K5.2.2.1 = K.2.2.1 + 14 := by rw [n1]; show K.2.2.1 + 1 + 13 = _; omega
    have n2' : K5.2.2.2 = K.2.2.2 + 113 := by rw [n2]; show K.2.2.2 + 17 + 96 = _; omega
    have sh : ∀ k, k < K.2.2.1 → K5.2.1 k = K.2.1 k := fun k hk => by rw [n5 k (by show k < K.2.2.1 + 1; omega), kN_2 (by omega)]
    have rf : ∀ k j, k < K.2.2.1 → K5.1 k j = K.1 k j := fun k j hk => by rw [n6 k j hk, kN_1 (by omega)]
    have ss : ∀ k, k < K.2.2.1 → σ5 k = σ k := fun k hk => by rw [n7 k (by show k < K.2.2.1 + 1; omega), sN_o (by omega)]
    have e5 : Ext K K5 := ⟨by omega, sh, fun k j hk _ => rf k j hk⟩
    have a5 : IsA K5 (u + 1) 24 16 := IsA_x u3 e5
    have m5 : (K5.2.1 (u + 1)).2 = 16 := by rw [a5.2]
    rw [m5]
    refine T_ckP a5 (T_ckP (fun x hx => by injection hx with hx; rw [← hx]; exact n3.1) (T_ck (by omega) (T_nm ?_)))
    -- K with the new hall in its place
    have kx : KX (u + 1) K (kRef K5 (u + 1) z (some K.2.2.1)) := ⟨by show K.2.2.1 ≤ K5.2.2.1; omega, sh, fun k j hk hne => by rw [kR_n (by omega)]; exact rf k j hk, fun j h e => by
      rw [kR_n (by rintro ⟨-, q⟩; rw [q, eh] at e; cases e), rf (u + 1) j u3.1]; exact e⟩
    have ex := KX_e kx k23
    have uh : uH (kRef K5 (u + 1) z (some K.2.2.1)) K.2.2.1 := by
      have ne : K.2.2.1 ≠ u + 1 := by have := u3.1; omega
      refine ⟨⟨n3.1, fun p hp => ⟨?_, (n3.2 p hp).2⟩⟩, by omega, ?_⟩
      · rw [kR_n (fun q => ne q.1)]; exact (n3.2 p hp).1
      · rw [kR_n (fun q => ne q.1)]; exact n4
    have hs := Shp_x hK a28 zl kx (fun j hj => by rw [kR_n (fun q => hj q.2), rf (u + 1) j u3.1]) eh kR_s uh (Nat.le_refl _)
    have nls := nul_s (K := K) (K' := kRef K5 (u + 1) z (some K.2.2.1)) (a := u + 1) 16 zl eh kR_s (fun i _ hne => by rw [kR_n (fun q => hne q.2), rf (u + 1) i u3.1])
    have hu5 : UC (kRef K5 (u + 1) z (some K.2.2.1)) σ5 u ρ L := by
      refine ⟨by rw [ss u u1.1]; exact h1, by rw [ss u u1.1]; exact h2, h3, fun i x hx => ?_⟩
      rw [ss u u1.1, ss (u + 2) u5.1]
      obtain ⟨g, ge, ga, gb⟩ := h4 i x hx
      have gu : uH K g := by
        rcases hu with w | w
        · subst w; exact hK.2.2.1 _ g (Nat.mod_lt _ (by omega)) ge
        · subst w; exact hK.2.2.2.1 _ g (Nat.mod_lt _ (by omega)) ge
      have g13 : g + 13 < K.2.2.1 := by
        have := (gu.1.2 (16, 13, 4) (List.mem_of_getElem? (i := 12) rfl)).2.1
        exact this
      exact ⟨g, kx.2.2.2 _ g ge, HallIs_s ga (fun k k1 k2 => ss k (by omega)), gb⟩
    have ho5 : hallAt (kRef K5 (u + 1) z (some K.2.2.1)) o := hallAt_x ho ex
    have o13 : o + 13 < K.2.2.1 := (ho.2 (16, 13, 4) (List.mem_of_getElem? (i := 12) rfl)).2.1
    have hua5 : uAt (kRef K5 (u + 1) z (some K.2.2.1)) u := by rcases hu with w | w <;> subst w; exact uAt_27 hs.1.1; exact uAt_30 hs.1.1
    have hH5 : HallIs σ5 o (putR ρ s) := HallIs_s hH (fun k k1 k2 => ss k (by omega))
    refine T_mono (c_keep_39 (kind := kind) hua5 zl kR_s uh.1 ho5 (Or.inl (by omega)) (by omega) (by rw [ss u u1.1]; omega) (by rw [ss u u1.1]; exact h1)) (fun p hp => ?_)
    obtain ⟨p1, p2, p3, p4, p5, p6, p7⟩ := hp
    rw [p1]
    refine ⟨hs, kx, ?_, fun k hk k1 k2 k3 => ?_, fun j j1 j2 => by rw [p3 j j1 j2, ss u u1.1], ?_, ?_⟩
    · exact UC_push (x := (s, kind)) hs hu hu5 (by rw [ss u u1.1]; exact hz.symm) kR_s p2 p4 (p5 _ hH5) p6 p7 hW hk
    · rw [p2 k k1 k2 (by omega), ss k hk]
    · show K5.2.2.1 + _ ≤ _; omega
    · show K5.2.2.2 + _ ≤ _; omega
