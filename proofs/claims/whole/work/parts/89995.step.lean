/-! ===== one order is done by the class ===== -/
abbrev Rst : Type := (Nat → Int) × UL × Int × Int
def opv (e : Option Xp) (w : Nat → Int) : Int := match e with | none => 0 | some E => E w
def cdv (e : Option Xp) (w : Nat → Int) : Int := match e with | none => 1 | some E => E w
def rsw (s : Rst) : Nat → Int := wOr s.1 s.2.2.1 s.2.2.2
noncomputable def stp (D : Int → (Nat → Int) → Option Int) (s : Rst) (x : Ru) : Option Rst :=
  if cdv x.2.2.2.1 (rsw s) ≠ 1 then some s else if opv x.2.1 (rsw s) = BR ∨ opv x.2.2.1 (rsw s) = BR then none else if rfv D s.1 x.1 (opv x.2.1 (rsw s)) (opv x.2.2.1 (rsw s)) ≠ 0 then none
  else some (nwr D s.1 x.1 (opv x.2.1 (rsw s)) (opv x.2.2.1 (rsw s)), s.2.1 ++ [(snap s.1, x.1)], s.2.2.1 + 1, if x.1 < 2 then nwv D s.1 x.1 (opv x.2.1 (rsw s)) else s.2.2.2)
def TxC (σ : Sg) (cd : List Int) (L : List Ru) : Prop := (σ 64 7 = (cd.length : Int) ∧ cd.length ≤ 400) ∧ (∀ j y, cd[j]? = some y → σ 70 j = y) ∧ σ 64 6 = (L.length : Int) ∧ ∀ q x, L[q]? = some x → CRu 24 σ cd q x
def PR (K0 K : Kt) (k : Nat) : Prop := k = 30 ∨ k = 32 ∨ hC 13 k ∨ ucA K 31 k ∨ k = 82 ∨ K0.2.2.1 ≤ k
def RsB (m : Int) (s : Rst) : Prop := (0 ≤ s.2.2.1 ∧ s.2.2.1 ≤ m) ∧ (-1 ≤ s.2.2.2 ∧ s.2.2.2 ≤ 1000)
def RCf (K0 : Kt) (σ0 : Sg) (K : Kt) (σ : Sg) : Prop := Shp K ∧ KX 31 K0 K ∧ Rm K0 K ∧ Sme (PR K0 K) σ0 σ
def RC (K0 : Kt) (σ0 : Sg) (ρ0 : Nat → Int) (K : Kt) (σ : Sg) (s : Rst) : Prop := RCf K0 σ0 K σ ∧ HallIs σ 13 s.1 ∧ WF s.1 ∧ RF ρ0 s.1 ∧ UC K σ 30 s.1 (s.2.1.foldl pushU []) ∧ σ 82 1 = s.2.2.1 ∧ σ 82 2 = s.2.2.2
theorem LwO_or {K : Kt} {P P' : Nat → Prop} (h : LwO K P) (h' : LwO K P') : LwO K (fun k => P k ∨ P' k) := ⟨⟨fun c => c.elim h.1.1 h'.1.1, fun c => c.elim h.1.2.1 h'.1.2.1, fun j t hj e c => c.elim (h.1.2.2 j t hj e) (h'.1.2.2 j t hj e)⟩, fun i q hi e => ⟨fun c => c.elim (h.2 i q hi e).1 (h'.2 i q hi e).1, fun j t hj e' c => c.elim ((h.2 i q hi e).2 j t hj e') ((h'.2 i q hi e).2 j t hj e')⟩⟩
theorem KX_t {a : Nat} {K K' K'' : Kt} (h : KX a K K') (h' : KX a K' K'') : KX a K K'' := ⟨by have := h.1; have := h'.1; omega, fun k hk => by rw [h'.2.1 k (by have := h.1; omega), h.2.1 k hk], fun k j hk hne => by rw [h'.2.2.1 k j (by have := h.1; omega) hne, h.2.2.1 k j hk hne], fun j x e => h'.2.2.2 j x (h.2.2.2 j x e)⟩
theorem PR_lo {K0 K : Kt} {k : Nat} (hK : Shp K) (h0 : 115 ≤ K0.2.2.1) (hk : k < 115) (h1 : k ≠ 30) (h2 : k ≠ 32) (h3 : k ≠ 82) (h4 : ¬ hC 13 k) : ¬ PR K0 K k := by
  intro h
  rcases h with h | h | h | ⟨i, x, hi, e, a, b⟩ | h | h
  · exact h1 h
  · exact h2 h
  · exact h4 h
  · have := (hK.2.2.2.1 i x hi e).2.1; omega
  · exact h3 h
  · omega
theorem PR_n {K0 K K' : Kt} {k : Nat} (hx : KX 31 K K') (h : PR K0 K k) : PR K0 K' k := by
  rcases h with h | h | h | ⟨i, x, hi, e, a, b⟩ | h | h
  · exact Or.inl h
  · exact Or.inr (Or.inl h)
  · exact Or.inr (Or.inr (Or.inl h))
  · exact Or.inr (Or.inr (Or.inr (Or.inl ⟨i, x, hi, hx.2.2.2 i x e, a, b⟩)))
  · exact Or.inr (Or.inr (Or.inr (Or.inr (Or.inl h))))
  · exact Or.inr (Or.inr (Or.inr (Or.inr (Or.inr h))))
theorem PR_law {K0 K : Kt} {σ0 σ : Sg} {D : Int → (Nat → Int) → Option Int} (hK0 : Shp K0) (h : RCf K0 σ0 K σ) (h2 : σ0 2 6 = 0) (hD : LawC K0 σ0 (σ0 1 5) D) : LawC K σ (σ 1 5) D ∧ σ 2 6 = 0 := by
  obtain ⟨hK, kx, -, sm⟩ := h
  have l0 := hK0.1.2.2
  have k31 := (lcA_31 hK0.1.1).2
  have ex : Ext K0 K := KX_e kx (by rw [k31]; omega)
  have e9 : ∀ i, K.1 9 i = K0.1 9 i := fun i => kx.2.2.1 9 i (by omega) (by omega)
  have lo : LwO K (PR K0 K) := LwO_m (LwO_or (LwO_u (u := 30) (Or.inr rfl) hK0 hK e9 ex) (LwO_lo (P := fun k => k = 82) hK.1.1 hK.2.1 (fun k hk => by omega))) (fun k hk => by
    rcases hk with h | h | h | h | h | h
    · exact Or.inl (Or.inl h)
    · exact Or.inl (Or.inr (Or.inl h))
    · exact Or.inl (Or.inr (Or.inr (Or.inl h)))
    · exact Or.inl (Or.inr (Or.inr (Or.inr (Or.inl h))))
    · exact Or.inr h
    · exact Or.inl (Or.inr (Or.inr (Or.inr (Or.inr h)))))
  have e1 : σ 1 = σ0 1 := sm 1 (PR_lo hK l0 (by omega) (by omega) (by omega) (by omega) (by unfold hC; omega))
  have e2 : σ 2 = σ0 2 := sm 2 (PR_lo hK l0 (by omega) (by omega) (by omega) (by omega) (by unfold hC; omega))
  rw [e1, e2]
  exact ⟨LawC_s (LawC_x hK0 hK ex e9 h2 hD) sm lo, h2⟩
theorem RCf_s {K0 K : Kt} {σ0 σ σ' : Sg} (h : RCf K0 σ0 K σ) (hs : ∀ k, k ≠ 82 → k ≠ 11 → k ≠ 12 → σ' k = σ k) : RCf K0 σ0 K σ' := ⟨h.1, h.2.1, h.2.2.1, fun k hk => by rw [hs k (fun e => hk (Or.inr (Or.inr (Or.inr (Or.inr (Or.inl e)))))) (fun e => hk (Or.inr (Or.inr (Or.inl (Or.inl e))))) (fun e => hk (Or.inr (Or.inr (Or.inl (Or.inr (Or.inl e))))))]; exact h.2.2.2 k hk⟩
theorem UC_s {K : Kt} {σ σ' : Sg} {ρ : Nat → Int} {U : UL} (hK : Shp K) (h : UC K σ 30 ρ U) (hs : ∀ k, k ≠ 82 → k ≠ 11 → k ≠ 12 → σ' k = σ k) : UC K σ' 30 ρ U := by
  obtain ⟨h1, h2, h3, h4⟩ := h
  unfold UC
  rw [hs 30 (by omega) (by omega) (by omega), hs (30 + 2) (by omega) (by omega) (by omega)]
  refine ⟨h1, h2, h3, fun i x hx => ?_⟩
  obtain ⟨g, e, b, r⟩ := h4 i x hx
  have := (hK.2.2.2.1 _ g (Nat.mod_lt _ (by omega)) e).2.1
  exact ⟨g, e, HallIs_s b (fun k k1 k2 => hs k (by omega) (by omega) (by omega)), r⟩
theorem RC_s {K0 K : Kt} {σ0 σ σ' : Sg} {ρ0 : Nat → Int} {s : Rst} (h : RC K0 σ0 ρ0 K σ s) (hs : ∀ k, k ≠ 82 → k ≠ 11 → k ≠ 12 → σ' k = σ k) (h1 : σ' 82 1 = σ 82 1) (h2 : σ' 82 2 = σ 82 2) : RC K0 σ0 ρ0 K σ' s := by
  obtain ⟨a, b, c, d, e, f, g⟩ := h
  exact ⟨RCf_s a hs, HallIs_s b (fun k k1 k2 => hs k (by omega) (by omega) (by omega)), c, d, UC_s a.1 e hs, by rw [h1]; exact f, by rw [h2]; exact g⟩
theorem c_valueOf {K : Kt} {σ0 σ : Sg} {cd : List Int} {L : List Ru} {st : Int} {E : Xp} {w : Nat → Int} (hc : cLay K) (tx : TxC σ0 cd L) (h64 : σ 64 = σ0 64) (h70 : σ 70 = σ0 70) (h : ClE 24 cd st (some E)) (hw : wOk w) (hww : ∀ j : Nat, j < 24 → σ 82 j = w j) : st ≠ -1 ∧ T (vX9_valueOf K 64 st σ) (fun p => p.1 = E w ∧ Sme (fun k => k = 11) σ p.2) := by
  obtain ⟨s', cs, l', e, sa, sc, hl⟩ := h
  subst e
  have bd := (List.getElem?_eq_some_iff.mp sa.2).1
  have cl := tx.1.2
  refine ⟨by omega, ?_⟩
  unfold vX9_valueOf
  refine T_bd2 (c_val (t := 70) (M := 400) (z := cd.length) sc hl hw (lcO_64 hc) (lcR_64_5 hc) (lcA_70 hc) (lcA_82 hc) (by omega) (by omega) (by omega) (by omega) (by omega) (by omega) (fun j y hy => ?_) (by omega) (fun _ => ?_) (by rw [h64]; exact tx.1.1) hww) (fun r s hr => T_some hr)
  · rw [h70]; exact tx.2.1 _ _ (sa.1 j y hy)
  · rw [h70]; exact tx.2.1 _ _ sa.2
