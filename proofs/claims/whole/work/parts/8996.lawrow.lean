/-! ===== the reference writes a law into its row ===== -/
theorem m_l110 {B n : Nat} (hB : B ≤ 4605) (hn : n ≤ 12) : ∀ (f x : Nat) (σ : Sg), 8 * n - x < f → x ≤ 8 * n → σ 84 21 = (n : Int) → ∃ σ', (∀ k, k ≠ 86 → σ' k = σ k) ∧ (∀ i, ¬ (B + 2 + x ≤ i ∧ i < B + 2 + 8 * n) → σ' 86 i = σ 86 i) ∧ (∀ j, x ≤ j → j < 8 * n → σ' 86 (B + 2 + j) = σ 94 j) ∧ vX10_law_110 f (B : Int) (x : Int) σ = vX10_law_145 FU (B : Int) 0 σ' := by
  intro f
  induction f with
  | zero => intro x σ h; omega
  | succ f ih =>
    intro x σ hf hx h21
    rw [vX10_law_110, h21, ck_p (by omega)]
    by_cases q : x < 8 * n
    · obtain ⟨σ', a, b, c, e⟩ := ih (x + 1) (up2 σ 86 (B + 2 + x) (σ 94 x)) (by omega) (by omega) (by rw [up2_o (by omega)]; exact h21)
      refine ⟨σ', fun k hk => by rw [a k hk, up2_o hk], fun i hi => by rw [b i (by omega), up2_c, upw_n (by omega)], fun j h1 h2 => ?_, ?_⟩
      · by_cases w : j = x
        · subst w; rw [b _ (by omega), up2_c, upw_s]
        · rw [c j (by omega) h2, up2_o (by omega)]
      · rw [if_pos (by omega), ck_p (by omega), ck_p (by omega), ck_p (by omega), ck_p (by omega), nm_eq, ck_p (by omega), ← e]
        rw [show (B : Int) + 2 + (x : Int) = ((B + 2 + x : Nat) : Int) by omega, Int.toNat_natCast, Int.toNat_natCast, show (x : Int) + 1 = ((x + 1 : Nat) : Int) by omega]
    · refine ⟨σ, fun _ _ => rfl, fun _ _ => rfl, fun j h1 h2 => by omega, ?_⟩
      rw [if_neg (by omega)]
theorem m_l145 {B m : Nat} (hB : B ≤ 4605) (hm : m ≤ 400) : ∀ (f x : Nat) (σ : Sg), m - x < f → x ≤ m → σ 84 23 = (m : Int) → ∃ σ', (∀ k, k ≠ 86 → σ' k = σ k) ∧ (∀ i, ¬ (B + 98 + 2 * x ≤ i ∧ i < B + 98 + 2 * m) → σ' 86 i = σ 86 i) ∧ (∀ j, x ≤ j → j < m → σ' 86 (B + 98 + 2 * j) = σ 95 j ∧ σ' 86 (B + 98 + 2 * j + 1) = σ 96 j) ∧ vX10_law_145 f (B : Int) (x : Int) σ = vX10_law_145 (0 + 1) (B : Int) (m : Int) σ' := by
  intro f
  induction f with
  | zero => intro x σ h; omega
  | succ f ih =>
    intro x σ hf hx h23
    by_cases q : x < m
    · obtain ⟨σ', a, b, c, e⟩ := ih (x + 1) (up2 (up2 σ 86 (B + 98 + 2 * x) (σ 95 x)) 86 (B + 98 + 2 * x + 1) (σ 96 x)) (by omega) (by omega) (by rw [up2_o (by omega), up2_o (by omega)]; exact h23)
      refine ⟨σ', fun k hk => by rw [a k hk, up2_o hk, up2_o hk], fun i hi => by rw [b i (by omega), up2_c, upw_n (by omega), up2_c, upw_n (by omega)], fun j h1 h2 => ?_, ?_⟩
      · by_cases w : j = x
        · subst w
          rw [b _ (by omega), b _ (by omega), up2_c, upw_n (by omega), up2_c, upw_s, upw_s]
          exact ⟨rfl, rfl⟩
        · have := c j (by omega) h2
          rw [up2_o (by omega), up2_o (by omega), up2_o (by omega), up2_o (by omega)] at this
          exact this
      · have e2 : up2 σ 86 (B + 98 + 2 * x) (σ 95 x) 96 x = σ 96 x := by rw [up2_o (by omega)]
        rw [vX10_law_145, h23, if_pos (by omega), ck_p (by omega), ck_p (by omega), ck_p (by omega), ck_p (by omega), ck_p (by omega), nm_eq, ck_p (by omega), ck_p (by omega), ck_p (by omega), ck_p (by omega), ck_p (by omega), ck_p (by omega), nm_eq, ck_p (by omega), ← e]
        rw [show (B : Int) + 98 + 2 * (x : Int) = ((B + 98 + 2 * x : Nat) : Int) by omega, show ((B + 98 + 2 * x : Nat) : Int) + 1 = ((B + 98 + 2 * x + 1 : Nat) : Int) by omega, Int.toNat_natCast, Int.toNat_natCast, Int.toNat_natCast, show (x : Int) + 1 = ((x + 1 : Nat) : Int) by omega, e2]
    · have : x = m := by omega
      subst this
      refine ⟨σ, fun _ _ => rfl, fun _ _ => rfl, fun j h1 h2 => by omega, ?_⟩
      rw [vX10_law_145, vX10_law_145, h23, if_neg (by omega), if_neg (by omega)]
def dRu : Ru := (0, none, none, none, 1)
def opx (e : Option Xp) : Xp := e.getD (fun _ => 1)
def kdL (L : List Ru) (c : Nat) : Int := ((L[c]?).getD dRu).1
def fsL (L : List Ru) (c : Nat) : Xp := opx ((L[c]?).getD dRu).2.1
def tsL (L : List Ru) (c : Nat) : Xp := opx ((L[c]?).getD dRu).2.2.2.1
theorem MLaw_L {ρ : Nat → Int} {B : Nat} {L : List Ru} {c : Cd} {σ : Sg} (hL : L.length ≤ 12) (hok : ∀ x ∈ L, LawR x) (hB : 105 ≤ B ∧ B ≤ 4605) (hm : c.2.2 ≤ 400) (h1 : ρ (B + 1) = (L.length : Int)) (h94 : ∀ j, j < 8 * L.length → ρ (B + 2 + j) = σ 94 j) (h95 : ∀ k, k < c.2.2 → ρ (B + 98 + 2 * k) = c.1 k ∧ ρ (B + 98 + 2 * k + 1) = c.2.1 k) (hr : ∀ q x, L[q]? = some x → MRl σ c q x) : MLaw ρ (B : Int) L.length (kdL L) (tsL L) (fsL L) := by
  refine ⟨hL, by rw [show ((B : Int) + 1).toNat = B + 1 by omega]; exact h1, fun q hq => ?_⟩
  obtain ⟨x, hx⟩ : ∃ x, L[q]? = some x := ⟨L[q], List.getElem?_eq_getElem hq⟩
  obtain ⟨r1, r2, r3⟩ := hr q x hx
  obtain ⟨o1, o2, o3, o4⟩ := hok x (List.mem_of_getElem? hx)
  have ek : kdL L q = x.1 := by unfold kdL; rw [hx]; rfl
  have et : tsL L q = opx x.2.2.2.1 := by unfold tsL; rw [hx]; rfl
  have ef : fsL L q = opx x.2.1 := by unfold fsL; rw [hx]; rfl
  have mv : ∀ (a b : Int) (E : Xp), MlE 0 c a b (some E) → a < b ∧ MVal ρ (B : Int) a b E := by
    intro a b E h
    obtain ⟨lo, hi, l, e1, e2, s, hl, hh⟩ := h
    subst e1 e2
    refine ⟨by have := s.1.1; omega, MVal_s (by omega) (by omega) hl (fun k _ k2 => ?_) s⟩
    rw [show ((B : Int) + 98 + 2 * (k : Int)).toNat = B + 98 + 2 * k by omega, show ((B : Int) + 98 + 2 * (k : Int) + 1).toNat = B + 98 + 2 * k + 1 by omega]
    exact h95 k (by omega)
  rw [ek, et, ef, show ((B : Int) + 2 + 8 * (q : Int)).toNat = B + 2 + (8 * q) by omega, show ((B : Int) + 2 + 8 * (q : Int) + 3).toNat = B + 2 + (8 * q + 3) by omega, show ((B : Int) + 2 + 8 * (q : Int) + 4).toNat = B + 2 + (8 * q + 4) by omega, show ((B : Int) + 2 + 8 * (q : Int) + 5).toNat = B + 2 + (8 * q + 5) by omega, show ((B : Int) + 2 + 8 * (q : Int) + 6).toNat = B + 2 + (8 * q + 6) by omega, h94 _ (by omega), h94 _ (by omega), h94 _ (by omega), h94 _ (by omega), h94 _ (by omega)]
  refine ⟨r1, o1, fun w hw => ?_, fun w hw => ?_, ?_, ?_⟩
  · cases e : x.2.2.2.1 with
    | none => exact Or.inr (Or.inl rfl)
    | some E => exact (o4 E e) w hw
  · cases e : x.2.1 with
    | none => exact Or.inr ⟨by show (-1000000000 : Int) ≤ 1; omega, by show (1 : Int) ≤ 1000000000; omega⟩
    | some E =>
      by_cases z : x.1 = 3
      · rw [o2 z] at e; cases e
      · obtain ⟨E', e', ok⟩ := o3 z
        rw [e] at e'
        injection e' with e'
        rw [e']
        exact ok w hw
  · cases e : x.2.2.2.1 with
    | none =>
      rw [e] at r3
      have r3' : σ 94 (8 * q + 5) = σ 94 (8 * q + 6) := r3
      rw [if_neg (by omega)]
      exact fun _ _ => rfl
    | some E =>
      rw [e] at r3
      obtain ⟨a1, a2⟩ := mv _ _ E r3
      rw [if_pos a1]
      exact a2
  · by_cases z : x.1 = 3
    · rw [if_pos z, o2 z]
      exact fun _ _ => rfl
    · obtain ⟨E', e', ok⟩ := o3 z
      rw [if_neg z, e']
      rw [e'] at r2
      exact (mv _ _ E' r2).2
theorem CLaw_L {K : Kt} {σ σ0 : Sg} {q n z N i l : Nat} {cd : List Int} {L : List Ru} {σc : Sg} (hC : cLay K) (hcl : CL 9 N σc σ0 i l cd L) (hL : L.length ≤ 12) (hz : cd.length ≤ 400) (hk : IsC K q 7) (hq : 115 ≤ q) (hr : ∀ j, j < 6 → K.1 q j = some (q + 1 + j) ∧ IsA K (q + 1 + j) 20 (if j = 5 then cd.length else L.length)) (h6 : σ q 6 = (L.length : Int)) (h7 : σ q 7 = (cd.length : Int)) (ha : ∀ j i, j < 5 → i < L.length → σ (q + 1 + j) i = σ0 (65 + j) i) (hb : ∀ i, i < cd.length → σ (q + 6) i = σ0 70 i) : CLaw K σ q L.length (kdL L) (tsL L) (fsL L) := by
  obtain ⟨⟨-, -, -, g4⟩, g5, g6, g7, g8⟩ := hcl
  have ho : TxO K q := ⟨by omega, fun j t hj e => by
    rw [(hr j hj).1] at e
    injection e with e
    omega⟩
  have cv : ∀ (s : Int) (E : Xp), ClE 9 cd s (some E) → s ≠ -1 ∧ CVal K σ q 12 9 s E := by
    intro s E h
    obtain ⟨s', cs, l', e, sa, sc, hl⟩ := h
    subst e
    have bd := (List.getElem?_eq_some_iff.mp sa.2).1
    refine ⟨by omega, CVal_s (M := cd.length) (z := cd.length) hC hk (hr 5 (by omega)).1 (hr 5 (by omega)).2 ho (Nat.le_refl _) hz h7 (fun j y hy => ?_) (by omega) (fun _ => ?_) hl sc⟩
    · have := sa.1 j y hy
      rw [hb _ (List.getElem?_eq_some_iff.mp this).1]
      exact g4 _ _ this
    · rw [hb _ bd]
      exact g4 _ _ sa.2
  refine ⟨hk, ho, hL, h6, q + 1 + 0, q + 1 + 1, q + 1 + 3, L.length, (hr 0 (by omega)).1, (hr 1 (by omega)).1, (hr 3 (by omega)).1, Nat.le_refl _, (hr 0 (by omega)).2, (hr 1 (by omega)).2, (hr 3 (by omega)).2, fun c hc => ?_⟩
  obtain ⟨x, hx⟩ : ∃ x, L[c]? = some x := ⟨L[c], List.getElem?_eq_getElem hc⟩
  obtain ⟨r1, r2, r3, r4, r5⟩ := g8 c x hx
  have ek : kdL L c = x.1 := by unfold kdL; rw [hx]; rfl
  have et : tsL L c = opx x.2.2.2.1 := by unfold tsL; rw [hx]; rfl
  have ef : fsL L c = opx x.2.1 := by unfold fsL; rw [hx]; rfl
  rw [ha 0 c (by omega) hc, ha 1 c (by omega) hc, ha 3 c (by omega) hc, ek, et, ef]
  refine ⟨r1, ?_, ?_⟩
  · cases e : x.2.2.2.1 with
    | none =>
      rw [e] at r4
      rw [if_pos (show σ0 (65 + 3) c = -1 from r4)]
      exact fun _ _ => rfl
    | some E =>
      rw [e] at r4
      obtain ⟨a1, a2⟩ := cv _ E r4
      rw [if_neg a1]
      exact a2
  · cases e : x.2.1 with
    | none =>
      rw [e] at r2
      rw [if_pos (show σ0 (65 + 1) c = -1 from r2)]
      exact fun _ _ => rfl
    | some E =>
      rw [e] at r2
      obtain ⟨a1, a2⟩ := cv _ E r2
      rw [if_neg a1]
      exact a2
/-- the row behind a new law -/
def RowN (ρ ρ' : Nat → Int) (k : Nat) (L : List Ru) : Prop := (∀ i, i ≠ 2 → ¬ (105 + 900 * k ≤ i ∧ i < 105 + 900 * k + 900) → ρ' i = ρ i) ∧ ρ' 2 = (k : Int) + 1 ∧ MLaw ρ' (105 + 900 * (k : Int)) L.length (kdL L) (tsL L) (fsL L)
theorem m_law64 {tk : Nat → Int} {pl st : Nat → Nat} {N j l k : Nat} {c : Cd} {L : List Ru} {σM σe : Sg} (hN : N ≤ 400) (m : ML MRl tk pl st N σM σe j l c L) (ht : tk j = 256) (hL : L.length ≤ 12) (hok : ∀ x ∈ L, LawR x) (hk : σM 86 2 = (k : Int)) (hk6 : k < 6) : T (vX10_law_64 σe) (fun q => q.1 = (k : Int) ∧ ∃ s s1, q.2 = anM (k : Int) s ∧ MGe σM s1 ∧ s1 84 18 = -1 ∧ (∀ x, x ≠ 86 → s x = s1 x) ∧ RowN (σM 86) (s 86) k L) := by
  obtain ⟨m1, m2, m3, m4, m5⟩ := m
  have hc4 : c.2.2 ≤ 400 := by have := m1.2.2.1.1; omega
  unfold vX10_law_64
  refine T_bind (m_end_ok m3 m1 ht) (fun s1 h1 => ?_)
  obtain ⟨g1, g2, g3⟩ := h1
  have e86 : s1 86 = σM 86 := g1.1 86 (by omega) (by omega) (by omega)
  have e2 : s1 86 2 = (k : Int) := by rw [e86]; exact hk
  have e19 : s1 84 19 = 0 := by rw [g3 19 (by omega) (by omega)]; exact m1.2.1.1.1
  have e18 : s1 84 18 = -1 := by rw [g3 18 (by omega) (by omega)]; exact m1.2.2.2
  have e21 : s1 84 21 = (L.length : Int) := by rw [g3 21 (by omega) (by omega)]; exact m4
  have e23 : s1 84 23 = (c.2.2 : Int) := by rw [g3 23 (by omega) (by omega)]; exact m1.2.1.1.2.1
  rw [e2, e21]
  refine T_t e19 (T_ck (by omega) (T_ck (by omega) (T_nm (T_ck (by omega) (T_ck (by omega) (T_nm ?_))))))
  rw [show (105 : Int) + 900 * (k : Int) = ((105 + 900 * k : Nat) : Int) by omega, show ((105 + 900 * k : Nat) : Int) + 1 = ((105 + 900 * k + 1 : Nat) : Int) by omega, Int.toNat_natCast]
  generalize hA : up2 s1 86 (105 + 900 * k + 1) (L.length : Int) = A
  have Ao : ∀ x, x ≠ 86 → A x = s1 x := fun x hx => by rw [← hA, up2_o hx]
  have A86 : A 86 = upw (s1 86) (105 + 900 * k + 1) (L.length : Int) := by rw [← hA, up2_c]
  obtain ⟨Bs, b1, b2, b3, b4⟩ := m_l110 (B := 105 + 900 * k) (n := L.length) (by omega) hL FU 0 A (by have := FU_b; omega) (by omega) (by rw [Ao 84 (by omega)]; exact e21)
  obtain ⟨Cs, c1, c2, c3, c4⟩ := m_l145 (B := 105 + 900 * k) (m := c.2.2) (by omega) hc4 FU 0 Bs (by have := FU_b; omega) (by omega) (by rw [b1 84 (by omega), Ao 84 (by omega)]; exact e23)
  have so : ∀ x, x ≠ 86 → Cs x = s1 x := fun x hx => by rw [c1 x hx, b1 x hx, Ao x hx]
  have C2 : Cs 86 2 = (k : Int) := by rw [c2 2 (by omega), b2 2 (by omega), A86, upw_n (by omega)]; exact e2
  rw [show (0 : Int) = ((0 : Nat) : Int) from rfl, b4, show (0 : Int) = ((0 : Nat) : Int) from rfl, c4, vX10_law_145]
  refine T_f (by rw [so 84 (by omega), e23]; omega) ?_
  rw [C2]
  refine T_ck (by omega) (T_nm ?_)
  have D2 : up2 Cs 86 2 ((k : Int) + 1) 86 2 = (k : Int) + 1 := by rw [up2_c, upw_s]
  rw [D2, show (k : Int) + 1 - 1 = (k : Int) by omega]
  refine T_ck (by omega) ?_
  rw [m_told (by omega) (fun h => by omega), bd2_some]
  refine T_some ⟨rfl, _, s1, rfl, g1, e18, fun x hx => by rw [up2_o hx, so x hx], fun i hi hn => ?_, D2, ?_⟩
  · rw [up2_c, upw_n hi, c2 i (by omega), b2 i (by omega), A86, upw_n (by omega), e86]
  · rw [show (105 : Int) + 900 * (k : Int) = ((105 + 900 * k : Nat) : Int) by omega]
    refine MLaw_L (c := c) (σ := σe) hL hok (by omega) hc4 ?_ (fun j hj => ?_) (fun j hj => ?_) m5
    · rw [up2_c, upw_n (by omega), c2 _ (by omega), b2 _ (by omega), A86, upw_s]
    · rw [up2_c, upw_n (by omega), c2 _ (by omega), b3 j (by omega) hj, Ao 94 (by omega), g2 94 (by omega)]
    · have w := c3 j (by omega) hj
      have v := m1.2.1.2 j hj
      rw [up2_c, upw_n (by omega), upw_n (by omega), w.1, w.2, b1 95 (by omega), b1 96 (by omega), Ao 95 (by omega), Ao 96 (by omega), g2 95 (by omega), g2 96 (by omega)]
      exact v
