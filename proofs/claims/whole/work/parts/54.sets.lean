/-! ===== sets of books that can have been read ===== -/
def trS (ρ : Nat → Int) (fr : Int) (s : Nat) : Nat → Int
  | 0 => fr
  | b + 1 => if s.testBit b then bOr (trS ρ fr s b) (ρ (87 + (b : Int)).toNat) else trS ρ fr s b
theorem trS_b {ρ : Nat → Int} {fr : Int} {s N : Nat} (hf : 0 ≤ fr ∧ fr ≤ 63) (hg : ∀ b : Nat, b < N → 0 ≤ ρ (87 + (b : Int)).toNat ∧ ρ (87 + (b : Int)).toNat ≤ 63) : ∀ b : Nat, b ≤ N → 0 ≤ trS ρ fr s b ∧ trS ρ fr s b ≤ 63
  | 0, _ => hf
  | b + 1, h => by
    have ih := trS_b (s := s) hf hg b (by omega)
    rw [trS]
    split
    · exact bOr_63 ih (hg b (by omega))
    · exact ih
/-- b can be the last one of s -/
def lstP (ρ : Nat → Int) (N : Nat) (fr : Int) (R : Nat → Int) (s b : Nat) : Prop := s.testBit b = true ∧ R (s - 2 ^ b) ≠ 0 ∧ fitP ρ (b : Int) (trS ρ fr (s - 2 ^ b) N)
theorem tb_ge {s b : Nat} (h : s.testBit b = true) : 2 ^ b ≤ s := by
  rcases Nat.lt_or_ge s (2 ^ b) with c | c
  · rw [Nat.testBit_lt_two_pow c] at h; cases h
  · exact c
theorem tb_lt {s b : Nat} (h : s.testBit b = true) : s - 2 ^ b < s := by
  have := tb_ge h
  have := Nat.two_pow_pos b
  omega
def RcOk (ρ : Nat → Int) (N : Nat) (fr : Int) (R : Nat → Int) (s : Nat) : Prop := ∀ u, u < s → R u = bI (u = 0 ∨ ∃ b, b < N ∧ lstP ρ N fr R u b)
theorem RcOk_u {ρ : Nat → Int} {N : Nat} {fr : Int} {R : Nat → Int} {s : Nat} {z : Int} (h : RcOk ρ N fr R s) : RcOk ρ N fr (upw R s z) s := by
  intro u hu
  rw [upw_n (by omega), h u hu]
  refine bI_c ⟨fun x => x.imp id (fun ⟨b, b1, b2, b3, b4⟩ => ⟨b, b1, b2, ?_, b4⟩), fun x => x.imp id (fun ⟨b, b1, b2, b3, b4⟩ => ⟨b, b1, b2, ?_, b4⟩)⟩
  · rw [upw_n (by have := tb_lt b2; omega)]; exact b3
  · rw [upw_n (by have := tb_lt b2; omega)] at b3; exact b3
noncomputable def lsB (ρ : Nat → Int) (N : Nat) (fr : Int) (R : Nat → Int) (s : Nat) : Nat → Int
  | 0 => 0
  | b + 1 => @ite Int (lstP ρ N fr R s b) (Classical.propDecidable _) (bOr (lsB ρ N fr R s b) (bShl 1 (b : Int))) (lsB ρ N fr R s b)
theorem lsB_b {ρ : Nat → Int} {N : Nat} {fr : Int} {R : Nat → Int} {s : Nat} : ∀ b : Nat, b ≤ 8 → 0 ≤ lsB ρ N fr R s b ∧ lsB ρ N fr R s b ≤ 255
  | 0, _ => by rw [lsB]; omega
  | b + 1, h => by
    have ih := lsB_b (ρ := ρ) (N := N) (fr := fr) (R := R) (s := s) b (by omega)
    rw [lsB]
    by_cases c : lstP ρ N fr R s b
    · rw [if_pos c]; have := bShl_r (b := (b : Int)) (by omega); exact bOr_255 ih (by omega)
    · rw [if_neg c]; exact ih
theorem lsB_0 {ρ : Nat → Int} {N : Nat} {fr : Int} {R : Nat → Int} {s : Nat} : ∀ b : Nat, b ≤ 8 → (lsB ρ N fr R s b ≠ 0 ↔ ∃ b', b' < b ∧ lstP ρ N fr R s b')
  | 0, _ => by rw [lsB]; simp
  | b + 1, h => by
    have ih := lsB_0 (ρ := ρ) (N := N) (fr := fr) (R := R) (s := s) b (by omega)
    have bb := lsB_b (ρ := ρ) (N := N) (fr := fr) (R := R) (s := s) b (by omega)
    rw [lsB]
    by_cases c : lstP ρ N fr R s b
    · rw [if_pos c]
      refine ⟨fun _ => ⟨b, by omega, c⟩, fun _ => ?_⟩
      obtain ⟨m, e, -⟩ := bI_n _ bb.1
      rw [e] at bb ⊢
      rw [bShl_n (by omega)]
      have h2 : 2 ^ b ≤ 2 ^ 7 := Nat.pow_le_pow_right (by omega) (by omega)
      rw [bOr_n (by omega) (by omega)]
      have h3 := Nat.two_pow_pos b
      have h4 : 2 ^ b ≤ m ||| 2 ^ b := Nat.right_le_or
      omega
    · rw [if_neg c]
      exact ⟨fun x => (ih.mp x).elim (fun b' y => ⟨b', by omega, y.2⟩), fun ⟨b', y1, y2⟩ => ih.mpr ⟨b', by
        rcases Nat.lt_or_ge b' b with z | z
        · exact z
        · have : b' = b := by omega
          rw [this] at y2; exact absurd y2 c, y2⟩⟩
theorem lsB_c {ρ : Nat → Int} {N : Nat} {fr : Int} {R R' : Nat → Int} {s : Nat} (h : ∀ u, u < s → R u = R' u) : ∀ b : Nat, lsB ρ N fr R s b = lsB ρ N fr R' s b
  | 0 => rfl
  | b + 1 => by
    rw [lsB, lsB, lsB_c h b]
    have e : lstP ρ N fr R s b ↔ lstP ρ N fr R' s b := ⟨fun ⟨a, b', c⟩ => ⟨a, by rw [← h _ (tb_lt a)]; exact b', c⟩, fun ⟨a, b', c⟩ => ⟨a, by rw [h _ (tb_lt a)]; exact b', c⟩⟩
    by_cases c : lstP ρ N fr R s b
    · rw [if_pos c, if_pos (e.mp c)]
    · rw [if_neg c, if_neg (fun x => c (e.mpr x))]
theorem c_lastIn_4 {K : Kt} {σ : Sg} {ρ : Nat → Int} {N s : Nat} {fr : Int} (hH : HallIs σ 13 ρ) (hN : ρ 0 = (N : Int)) (h8 : N ≤ 8) (hs : s < 256) (h78 : ∀ u, u < s → σ 78 u = trS ρ fr u N) : ∀ (f x : Nat), N - x < f → x ≤ N → T (vX0_lastIn_4 K σ f (s : Int) (lsB ρ N fr (σ 76) s x) (x : Int)) (fun p => p = lsB ρ N fr (σ 76) s N) := by
  intro f
  induction f with
  | zero => intro x h; omega
  | succ f ih =>
    intro x hf hx
    rw [vX0_lastIn_4, show σ 13 1 = ρ 0 from hH.1.1, hN]
    refine T_ite (fun h => ?_) (fun h => ?_)
    · have nx := ih (x + 1) (by omega) (by omega)
      rw [lsB] at nx
      refine T_nm ?_
      rw [show (x : Int) + 1 = ((x + 1 : Nat) : Int) by omega]
      refine T_ite (fun c => ?_) (fun c => ?_)
      · rw [bit_c (by omega) (by omega), tb_n] at c
        rw [if_neg (fun h => by have := h.1; rw [c] at this; cases this)] at nx
        with_reducible refine T_ck (by omega) ?_
        exact nx
      · rw [bit_c (by omega) (by omega), tb_n] at c
        have ct : s.testBit x = true := by simpa using c
        have ge := tb_ge ct
        have lt := tb_lt ct
        have e2 : ((s : Int) - bShl 1 (x : Int)) = ((s - 2 ^ x : Nat) : Int) := by rw [bShl_n (by omega)]; omega
        rw [e2, Int.toNat_natCast, h78 _ lt]
        with_reducible refine T_ck (by omega) ?_
        with_reducible refine T_ck (by omega) ?_
        refine T_ite (fun c2 => ?_) (fun c2 => ?_)
        · rw [if_neg (fun h => h.2.1 c2)] at nx
          with_reducible refine T_ck (by omega) ?_
          exact nx
        · with_reducible refine T_ck (by omega) ?_
          with_reducible refine T_ck (by omega) ?_
          rw [c_fits hH (by omega), Option.bind_some]
          by_cases c3 : fitP ρ (x : Int) (trS ρ fr (s - 2 ^ x) N)
          · rw [if_pos ⟨ct, c2, c3⟩] at nx
            refine T_f (by rw [bI_t c3]; omega) (T_nm ?_)
            with_reducible refine T_ck (by omega) ?_
            exact nx
          · rw [if_neg (fun h => c3 h.2.2)] at nx
            refine T_t (bI_f c3) ?_
            with_reducible refine T_ck (by omega) ?_
            exact nx
    · rw [show x = N by omega]; exact T_some rfl
theorem c_lastIn {K : Kt} {σ : Sg} {ρ : Nat → Int} {N s : Nat} {fr : Int} (hH : HallIs σ 13 ρ) (hN : ρ 0 = (N : Int)) (h8 : N ≤ 8) (hs : s < 256) (h78 : ∀ u, u < s → σ 78 u = trS ρ fr u N) : vX0_lastIn K (s : Int) σ = some (lsB ρ N fr (σ 76) s N) := by
  obtain ⟨r, e, h⟩ := c_lastIn_4 (K := K) hH hN h8 hs h78 FU 0 (by have := FU_b; omega) (by omega)
  have e' : vX0_lastIn K (s : Int) σ = some r := e
  rw [e', h]
/-- s is one of the sets sought -/
def isS (ρ : Nat → Int) (N : Nat) (fr to : Int) (R : Nat → Int) (s : Nat) : Prop := R s ≠ 0 ∧ trS ρ fr s N = to
noncomputable def cnS (P : Nat → Prop) : Nat → Int
  | 0 => 0
  | s + 1 => cnS P s + bI (P s)
theorem cnS_b (P : Nat → Prop) : ∀ s : Nat, 0 ≤ cnS P s ∧ cnS P s ≤ s
  | 0 => by rw [cnS]; omega
  | s + 1 => by have := cnS_b P s; have := bI_01 (P s); rw [cnS]; omega
theorem cnS_c {P P' : Nat → Prop} : ∀ s : Nat, (∀ u, u < s → (P u ↔ P' u)) → cnS P s = cnS P' s
  | 0, _ => rfl
  | s + 1, h => by rw [cnS, cnS, cnS_c s (fun u hu => h u (by omega)), bI_c (h s (by omega))]
def fsI (ρ : Nat → Int) (N : Nat) (fr to : Int) (σ : Sg) (s : Nat) : Prop := (∀ u, u < s → σ 78 u = trS ρ fr u N) ∧ RcOk ρ N fr (σ 76) s ∧ (∀ u, u < s → σ 77 u = bI (isS ρ N fr to (σ 76) u))
theorem c_findSets_30 {K : Kt} {σ0 : Sg} {ρ : Nat → Int} {rec : Int → Int → Int → Int → Sg → Option (Int × Sg)} {Q : Int × Sg → Prop} {N s : Nat} {fr to x3 : Int} (hH : HallIs σ0 13 ρ) (hN : ρ 0 = (N : Int)) (h8 : N ≤ 8) (hs : s < 256) (hx : 0 ≤ x3 ∧ x3 ≤ 300)
    (cont : ∀ σ, Sme (fun k => k = 76 ∨ k = 77 ∨ k = 78) σ0 σ → fsI ρ N fr to σ (s + 1) → T (rec fr to (x3 + bI (isS ρ N fr to (σ 76) s)) ((s : Int) + 1) σ) Q) :
    ∀ (f x : Nat) (σ : Sg), N - x < f → x ≤ N → Sme (fun k => k = 76 ∨ k = 77 ∨ k = 78) σ0 σ → fsI ρ N fr to σ s → σ 78 s = trS ρ fr s x → T (vX0_findSets_30 K rec f fr to x3 (s : Int) (x : Int) σ) Q := by
  intro f
  induction f with
  | zero => intro x σ h; omega
  | succ f ih =>
    intro x σ hf hx' hS hI h78
    obtain ⟨i1, i2, i3⟩ := id hI
    have hHs : HallIs σ 13 ρ := HallIs_s hH (fun k k1 k2 => hS k (by omega))
    obtain ⟨⟨g0, -⟩, gB, -⟩ := H13 hHs
    rw [vX0_findSets_30, g0, hN]
    refine T_ite (fun h => ?_) (fun h => ?_)
    · rw [show (x : Int) + 1 = ((x + 1 : Nat) : Int) by omega]
      refine T_ite (fun c => ?_) (fun c => ?_)
      · rw [bit_c (by omega) (by omega), tb_n] at c
        with_reducible refine T_ck (by omega) ?_
        refine ih (x + 1) σ (by omega) (by omega) hS hI ?_
        rw [trS, c]; exact h78
      · rw [bit_c (by omega) (by omega), tb_n] at c
        have ct : s.testBit x = true := by simpa using c
        repeat (with_reducible first | refine T_ck (by omega) ?_ | refine T_nm ?_)
        rw [Int.toNat_natCast, h78, (gB x (by omega) (by omega)).2.2.1]
        refine ih (x + 1) _ (by omega) (by omega) (Sme_u hS (by omega)) ⟨fun u hu => ?_, ?_, fun u hu => ?_⟩ ?_
        · rw [up2_c, upw_n (by omega)]; exact i1 u hu
        · rw [up2_o (by omega)]; exact i2
        · rw [up2_o (by omega), up2_o (by omega)]; exact i3 u hu
        · rw [up2_c, upw_s, trS, ct]; rfl
    · have e : x = N := by omega
      subst e
      -- what is marked
      have mark : ∀ y, y = bI (s = 0 ∨ ∃ b, b < x ∧ lstP ρ x fr (σ 76) s b) → T (vX0_findSets_103 K rec fr to x3 (s : Int) (s : Int) y σ) Q := by
        intro y hy
        have y01 := bI_01 (s = 0 ∨ ∃ b, b < x ∧ lstP ρ x fr (σ 76) s b)
        rw [← hy] at y01
        unfold vX0_findSets_103
        rw [Int.toNat_natCast]
        refine T_ck ⟨y01, by omega, by omega⟩ (T_nm ?_)
        with_reducible refine T_ck (by omega) ?_
        have v76 : up2 σ 76 s y 76 = upw (σ 76) s y := up2_c
        have v78 : up2 σ 76 s y 78 = σ 78 := up2_o (by omega)
        have v77 : up2 σ 76 s y 77 = σ 77 := up2_o (by omega)
        have R1 : RcOk ρ x fr (upw (σ 76) s y) (s + 1) := by
          intro u hu
          by_cases e : u = s
          · rw [e, upw_s, hy]
            refine bI_c ⟨fun z => z.imp id (fun ⟨b, b1, b2, b3, b4⟩ => ⟨b, b1, b2, ?_, b4⟩), fun z => z.imp id (fun ⟨b, b1, b2, b3, b4⟩ => ⟨b, b1, b2, ?_, b4⟩)⟩
            · rw [upw_n (by have := tb_lt b2; omega)]; exact b3
            · rw [upw_n (by have := tb_lt b2; omega)] at b3; exact b3
          · exact RcOk_u i2 u (by omega)
        have i3' : ∀ u, u < s → σ 77 u = bI (isS ρ x fr to (upw (σ 76) s y) u) := by
          intro u hu
          rw [i3 u hu]
          refine bI_c ?_
          unfold isS
          rw [upw_n (by omega)]
        have fin : ∀ z, z = bI (isS ρ x fr to (upw (σ 76) s y) s) → T (vX0_findSets_136 K rec fr to x3 (s : Int) (s : Int) z (up2 σ 76 s y)) Q := by
          intro z hz
          have z01 := bI_01 (isS ρ x fr to (upw (σ 76) s y) s)
          rw [← hz] at z01
          unfold vX0_findSets_136
          rw [Int.toNat_natCast]
          refine T_ck ⟨z01, by omega, by omega⟩ (T_nm ?_)
          have w77 : up2 (up2 σ 76 s y) 77 s z 77 s = z := by rw [up2_c, upw_s]
          have w76 : up2 (up2 σ 76 s y) 77 s z 76 = upw (σ 76) s y := by rw [up2_o (by omega), up2_c]
          rw [w77]
          have co := cont (up2 (up2 σ 76 s y) 77 s z) (Sme_u (Sme_u hS (by omega)) (by omega)) ⟨fun u hu => ?_, ?_, fun u hu => ?_⟩
          · rw [w76, ← hz] at co
            with_reducible refine T_ck (by omega) ?_
            refine T_ite (fun h0 => ?_) (fun h0 => ?_)
            · with_reducible refine T_ck (by omega) ?_
              rw [h0] at co ⊢
              rw [Int.add_zero] at co; exact co
            · have z1 : z = 1 := by omega
              rw [z1] at co ⊢
              repeat (with_reducible first | refine T_ck (by omega) ?_ | refine T_nm ?_)
              exact co
          · rw [up2_o (by omega), up2_o (by omega)]
            by_cases e : u = s
            · rw [e]; exact h78
            · exact i1 u (by omega)
          · rw [w76]; exact R1
          · rw [w76, up2_c, v77]
            by_cases e : u = s
            · rw [e, upw_s]; exact hz
            · rw [upw_n e]; exact i3' u (by omega)
        rw [v76, upw_s, v78, h78]
        refine T_ite (fun h0 => ?_) (fun h0 => ?_)
        · unfold vX0_findSets_135
          exact fin 0 (bI_f (fun q => q.1 (by rw [upw_s]; exact h0))).symm
        · with_reducible refine T_ck (by omega) ?_
          refine T_ite (fun h1 => fin 1 (bI_t ⟨by rw [upw_s]; exact h0, h1⟩).symm) (fun h1 => ?_)
          unfold vX0_findSets_135
          exact fin 0 (bI_f (fun q => h1 q.2)).symm
      refine T_ite (fun h0 => ?_) (fun h0 => ?_)
      · unfold vX0_findSets_98
        exact mark 1 (bI_t (Or.inl (by omega))).symm
      · rw [c_lastIn hHs hN h8 hs i1, Option.bind_some]
        have lz := lsB_0 (ρ := ρ) (N := x) (fr := fr) (R := σ 76) (s := s) x h8
        refine T_ite (fun h1 => mark 0 (bI_f (fun q => ?_)).symm) (fun h1 => ?_)
        · rcases q with q | q
          · omega
          · exact lz.mpr q h1
        · unfold vX0_findSets_98
          exact mark 1 (bI_t (Or.inr (lz.mp h1))).symm
theorem c_findSets_5 {K : Kt} {σ0 : Sg} {ρ : Nat → Int} {N M : Nat} {fr to : Int} (hH : HallIs σ0 13 ρ) (hN : ρ 0 = (N : Int)) (h8 : N ≤ 8) (hM : bShl 1 (N : Int) = (M : Int)) (hM2 : M ≤ 256) :
    ∀ (f s : Nat) (σ : Sg), M - s < f → s ≤ M → Sme (fun k => k = 76 ∨ k = 77 ∨ k = 78) σ0 σ → fsI ρ N fr to σ s → T (vX0_findSets_5 K f fr to (cnS (isS ρ N fr to (σ 76)) s) (s : Int) σ) (fun p => Sme (fun k => k = 76 ∨ k = 77 ∨ k = 78) σ0 p.2 ∧ fsI ρ N fr to p.2 M ∧ p.1 = cnS (isS ρ N fr to (p.2 76)) M) := by
  intro f
  induction f with
  | zero => intro x σ h; omega
  | succ f ih =>
    intro s σ hf hs hS hI
    obtain ⟨i1, i2, i3⟩ := id hI
    have hHs : HallIs σ 13 ρ := HallIs_s hH (fun k k1 k2 => hS k (by omega))
    have cb := cnS_b (isS ρ N fr to (σ 76)) s
    rw [vX0_findSets_5, show σ 13 1 = ρ 0 from hHs.1.1, hN, hM]
    refine T_ite (fun h => ?_) (fun h => ?_)
    · repeat (with_reducible first | refine T_ck (by omega) ?_ | refine T_nm ?_)
      rw [Int.toNat_natCast]
      have e76 : up2 σ 78 s fr 76 = σ 76 := up2_o (by omega)
      have e77 : up2 σ 78 s fr 77 = σ 77 := up2_o (by omega)
      refine c_findSets_30 (σ0 := up2 σ 78 s fr) (N := N) (to := to) (HallIs_s hHs (fun k k1 k2 => up2_o (by omega))) hN h8 (by omega) (by omega) (fun σ1 S1 I1 => ?_) FU 0 (up2 σ 78 s fr) (by have := FU_b; omega) (by omega) Sme_r ⟨fun u hu => ?_, ?_, fun u hu => ?_⟩ ?_
      · have nx := ih (s + 1) σ1 (by omega) (by omega) (Sme_t (Sme_u hS (by omega)) S1) I1
        have ec : cnS (isS ρ N fr to (σ1 76)) s = cnS (isS ρ N fr to (σ 76)) s := by
          refine cnS_c s (fun u hu => ?_)
          have a := i3 u hu
          have b := I1.2.2 u (by omega)
          -- both are told by the same recursion
          have same : ∀ u, u ≤ s → (∀ v, v < u → σ1 76 v = σ 76 v) := by
            intro u
            induction u with
            | zero => intro _ v hv; omega
            | succ u ihu =>
              intro hu v hv
              by_cases e : v = u
              · subst e
                rw [I1.2.1 v (by omega), i2 v (by omega)]
                have pre := ihu (by omega)
                refine bI_c ⟨fun z => z.imp id (fun ⟨b, b1, b2, b3, b4⟩ => ⟨b, b1, b2, ?_, b4⟩), fun z => z.imp id (fun ⟨b, b1, b2, b3, b4⟩ => ⟨b, b1, b2, ?_, b4⟩)⟩
                · rw [← pre _ (tb_lt b2)]; exact b3
                · rw [pre _ (tb_lt b2)]; exact b3
              · exact ihu (by omega) v (by omega)
          unfold isS
          rw [same s (by omega) u hu]
        rw [cnS, ec] at nx
        rw [show (s : Int) + 1 = ((s + 1 : Nat) : Int) by omega]
        exact nx
      · rw [up2_c, upw_n (by omega)]; exact i1 u hu
      · rw [e76]; exact i2
      · rw [e76, e77]; exact i3 u hu
      · rw [up2_c, upw_s]; rfl
    · have e : s = M := by omega
      subst e
      exact T_some ⟨hS, hI, rfl⟩
theorem c_findSets {K : Kt} {σ : Sg} {ρ : Nat → Int} {N M : Nat} {fr to : Int} (hH : HallIs σ 13 ρ) (hN : ρ 0 = (N : Int)) (h8 : N ≤ 8) (hM : bShl 1 (N : Int) = (M : Int)) (hM2 : M ≤ 256) : T (vX0_findSets K fr to σ) (fun p => Sme (fun k => k = 76 ∨ k = 77 ∨ k = 78) σ p.2 ∧ fsI ρ N fr to p.2 M ∧ p.1 = cnS (isS ρ N fr to (p.2 76)) M) := by
  unfold vX0_findSets
  exact c_findSets_5 hH hN h8 hM hM2 FU 0 σ (by have := FU_b; omega) (by omega) Sme_r ⟨fun u hu => by omega, fun u hu => by omega, fun u hu => by omega⟩
/-! the reference's -/
theorem m_canBeLast {σ : Sg} {N s b : Nat} {fr : Int} {R : Nat → Int} (hs : s < 256) (hb : b < 8) (ht : s.testBit b = true) (hR : ∀ u, u < s → σ 108 u = R u) (h109 : ∀ u, u < s → σ 109 u = trS (σ 86) fr u N) : vX10_canBeLast (s : Int) (b : Int) σ = some (bI (lstP (σ 86) N fr R s b)) := by
  have ge := tb_ge ht
  have lt := tb_lt ht
  have e2 : ((s : Int) - bShl 1 (b : Int)) = ((s - 2 ^ b : Nat) : Int) := by rw [bShl_n (by omega)]; omega
  unfold vX10_canBeLast lstP
  simp only [nm]
  rw [e2, Int.toNat_natCast, hR _ lt, h109 _ lt, ck_p (by omega), ck_p (by omega)]
  by_cases c : R (s - 2 ^ b) = 0
  · rw [if_pos c, bI_f (fun h => h.2.1 c)]
  · rw [if_neg c, ck_p (by omega), ck_p (by omega), ck_p (by omega), m_isIn, Option.bind_some]
    by_cases c2 : fitP (σ 86) (b : Int) (trS (σ 86) fr (s - 2 ^ b) N)
    · have c2' := c2
      unfold fitP at c2'
      rw [if_neg (by rw [bI_t c2']; omega), bI_t ⟨ht, c, c2⟩]
    · have c2' := c2
      unfold fitP at c2'
      rw [if_pos (bI_f c2'), bI_f (fun h => c2 h.2.2)]
def lyI (ρ : Nat → Int) (N : Nat) (fr : Int) (R : Nat → Int) (σ : Sg) (s : Nat) : Prop := (∀ u, u < s → σ 109 u = trS ρ fr u N) ∧ (∀ u, u < s → σ 108 u = R u)
theorem m_laySets_44 {σ0 : Sg} {rec : Int → Int → Sg → Option Sg} {Q : Sg → Prop} {N s : Nat} {fr : Int} {R : Nat → Int} (hN : σ0 86 0 = (N : Int)) (h8 : N ≤ 8) (hs : s < 256) (hs0 : s ≠ 0) (hR : RcOk (σ0 86) N fr R (s + 1))
    (cont : ∀ σ, Sme (fun k => k = 108 ∨ k = 109) σ0 σ → lyI (σ0 86) N fr R σ (s + 1) → T (rec fr ((s : Int) + 1) σ) Q) :
    ∀ (f x : Nat) (σ : Sg), N - x < f → x ≤ N → Sme (fun k => k = 108 ∨ k = 109) σ0 σ → lyI (σ0 86) N fr R σ s → σ 109 s = trS (σ0 86) fr s x → σ 108 s = bI (∃ b, b < x ∧ lstP (σ0 86) N fr R s b) → T (vX10_laySets_44 rec f fr (s : Int) (x : Int) σ) Q := by
  intro f
  induction f with
  | zero => intro x σ h; omega
  | succ f ih =>
    intro x σ hf hx hS hI h109 h108
    have e86 : σ 86 = σ0 86 := hS 86 (by omega)
    rw [vX10_laySets_44, e86, hN]
    refine T_ite (fun h => ?_) (fun h => ?_)
    · rw [m_is (by omega) (by omega), Option.bind_some, tb_n]
      cases ct : s.testBit x with
      | false =>
        refine T_t rfl ?_
        with_reducible refine T_ck (by omega) ?_
        rw [show (x : Int) + 1 = ((x + 1 : Nat) : Int) by omega]
        refine ih (x + 1) σ (by omega) (by omega) hS hI (by rw [trS, ct]; exact h109) ?_
        rw [h108]
        refine bI_c ⟨fun ⟨b, b1, b2⟩ => ⟨b, by omega, b2⟩, fun ⟨b, b1, b2⟩ => ⟨b, ?_, b2⟩⟩
        rcases Nat.lt_or_ge b x with z | z
        · exact z
        · have : b = x := by omega
          rw [this] at b2
          have := b2.1
          rw [ct] at this; cases this
      | true =>
        refine T_f (by decide) ?_
        repeat (with_reducible first | refine T_ck (by omega) ?_ | refine T_nm ?_)
        rw [Int.toNat_natCast, h109]
        have w109 : up2 σ 109 s (bOr (trS (σ0 86) fr s x) (σ0 86 (87 + (x : Int)).toNat)) 109 = upw (σ 109) s (trS (σ0 86) fr s (x + 1)) := by rw [up2_c, trS, ct]; rfl
        have w108 : up2 σ 109 s (bOr (trS (σ0 86) fr s x) (σ0 86 (87 + (x : Int)).toNat)) 108 = σ 108 := up2_o (by omega)
        have w86 : up2 σ 109 s (bOr (trS (σ0 86) fr s x) (σ0 86 (87 + (x : Int)).toNat)) 86 = σ0 86 := by rw [up2_o (by omega)]; exact e86
        have S1 : Sme (fun k => k = 108 ∨ k = 109) σ0 (up2 σ 109 s (bOr (trS (σ0 86) fr s x) (σ0 86 (87 + (x : Int)).toNat))) := Sme_u hS (by omega)
        generalize up2 σ 109 s (bOr (trS (σ0 86) fr s x) (σ0 86 (87 + (x : Int)).toNat)) = σ4 at *
        have a109 : ∀ u, u < s → σ4 109 u = trS (σ0 86) fr u N := fun u hu => by rw [w109, upw_n (by omega)]; exact hI.1 u hu
        have a108 : ∀ u, u < s → σ4 108 u = R u := fun u hu => by rw [w108]; exact hI.2 u hu
        have put : ∀ z, z = bI (∃ b, b < x + 1 ∧ lstP (σ0 86) N fr R s b) → T (vX10_laySets_108 rec (vX10_laySets_44 rec f) fr (s : Int) (x : Int) (s : Int) z σ4) Q := by
          intro z hz
          have z01 := bI_01 (∃ b, b < x + 1 ∧ lstP (σ0 86) N fr R s b)
          rw [← hz] at z01
          unfold vX10_laySets_108
          rw [Int.toNat_natCast]
          refine T_ck ⟨z01, by omega, by omega⟩ (T_nm ?_)
          with_reducible refine T_ck (by omega) ?_
          rw [show (x : Int) + 1 = ((x + 1 : Nat) : Int) by omega]
          refine ih (x + 1) _ (by omega) (by omega) (Sme_u S1 (by omega)) ⟨fun u hu => ?_, fun u hu => ?_⟩ ?_ ?_
          · rw [up2_o (by omega)]; exact a109 u hu
          · rw [up2_c, upw_n (by omega)]; exact a108 u hu
          · rw [up2_o (by omega), w109, upw_s]
          · rw [up2_c, upw_s]; exact hz
        rw [w108, h108]
        by_cases c : ∃ b, b < x ∧ lstP (σ0 86) N fr R s b
        · refine T_f (by rw [bI_t c]; omega) ?_
          unfold vX10_laySets_103
          obtain ⟨b, b1, b2⟩ := c
          exact put 1 (bI_t ⟨b, by omega, b2⟩).symm
        · refine T_t (bI_f c) ?_
          rw [m_canBeLast (R := R) (N := N) (fr := fr) hs (by omega) ct a108 (by rw [w86]; exact a109), Option.bind_some, w86]
          by_cases c2 : lstP (σ0 86) N fr R s x
          · refine T_f (by rw [bI_t c2]; omega) ?_
            unfold vX10_laySets_103
            exact put 1 (bI_t ⟨x, by omega, c2⟩).symm
          · refine T_t (bI_f c2) (put 0 (bI_f (fun ⟨b, b1, b2⟩ => ?_)).symm)
            rcases Nat.lt_or_ge b x with z | z
            · exact c ⟨b, z, b2⟩
            · have : b = x := by omega
              rw [this] at b2; exact c2 b2
    · have e : x = N := by omega
      subst e
      with_reducible refine T_ck (by omega) ?_
      refine cont σ hS ⟨fun u hu => ?_, fun u hu => ?_⟩
      · by_cases e : u = s
        · rw [e]; exact h109
        · exact hI.1 u (by omega)
      · by_cases e : u = s
        · rw [e, h108, hR s (by omega)]
          exact bI_c ⟨Or.inr, fun z => z.resolve_left hs0⟩
        · exact hI.2 u (by omega)
theorem m_laySets_16 {σ0 : Sg} {N M : Nat} {fr : Int} {R : Nat → Int} (hN : σ0 86 0 = (N : Int)) (h8 : N ≤ 8) (hM : bShl 1 (N : Int) = (M : Int)) (hM2 : M ≤ 256) (hR : RcOk (σ0 86) N fr R M) :
    ∀ (f s : Nat) (σ : Sg), M - s < f → s ≤ M → s ≠ 0 → Sme (fun k => k = 108 ∨ k = 109) σ0 σ → lyI (σ0 86) N fr R σ s → T (vX10_laySets_16 f fr (s : Int) σ) (fun σ' => Sme (fun k => k = 108 ∨ k = 109) σ0 σ' ∧ lyI (σ0 86) N fr R σ' M) := by
  intro f
  induction f with
  | zero => intro x σ h; omega
  | succ f ih =>
    intro s σ hf hs h0 hS hI
    have e86 : σ 86 = σ0 86 := hS 86 (by omega)
    rw [vX10_laySets_16, e86, hN, hM]
    refine T_ite (fun h => ?_) (fun h => ?_)
    · refine T_ck ⟨Or.inl rfl, by omega, by omega⟩ (T_nm ?_)
      repeat (with_reducible first | refine T_ck (by omega) ?_ | refine T_nm ?_)
      rw [Int.toNat_natCast]
      refine m_laySets_44 (σ0 := up2 (up2 σ 108 s 0) 109 s fr) (N := N) (R := R) (by rw [up2_o (by omega), up2_o (by omega), e86]; exact hN) h8 (by omega) h0 (by rw [up2_o (by omega), up2_o (by omega), e86]; exact fun u hu => hR u (by omega)) (fun σ1 S1 I1 => ?_) FU 0 _ (by have := FU_b; omega) (by omega) Sme_r ⟨fun u hu => ?_, fun u hu => ?_⟩ ?_ ?_
      · rw [up2_o (by omega), up2_o (by omega), e86] at I1
        rw [show (s : Int) + 1 = ((s + 1 : Nat) : Int) by omega]
        exact ih (s + 1) σ1 (by omega) (by omega) (by omega) (Sme_t (Sme_u (Sme_u hS (by omega)) (by omega)) S1) I1
      · rw [up2_c, upw_n (by omega), up2_o (by omega), up2_o (by omega), up2_o (by omega), e86]; exact hI.1 u hu
      · rw [up2_o (by omega), up2_c, upw_n (by omega)]; exact hI.2 u hu
      · rw [up2_c, upw_s]; rfl
      · rw [up2_o (by omega), up2_c, upw_s, bI_f (fun ⟨b, b1, _⟩ => by omega)]
    · have e : s = M := by omega
      subst e
      exact T_some ⟨hS, hI⟩
theorem m_laySets {σ : Sg} {N M : Nat} {fr : Int} {R : Nat → Int} (hN : σ 86 0 = (N : Int)) (h8 : N ≤ 8) (hM : bShl 1 (N : Int) = (M : Int)) (hM1 : 1 ≤ M) (hM2 : M ≤ 256) (hR : RcOk (σ 86) N fr R M) : T (vX10_laySets fr σ) (fun σ' => Sme (fun k => k = 108 ∨ k = 109) σ σ' ∧ lyI (σ 86) N fr R σ' M) := by
  unfold vX10_laySets
  refine T_ck ⟨Or.inr rfl, by omega, by omega⟩ (T_nm (T_nm ?_))
  refine m_laySets_16 hN h8 hM hM2 hR FU 1 _ (by have := FU_b; omega) hM1 (by omega) (Sme_u (Sme_u Sme_r (by omega)) (by omega)) ⟨fun u hu => ?_, fun u hu => ?_⟩
  · have e : u = 0 := by omega
    subst e
    rw [up2_c, upw_s]
    have : ∀ b, trS (σ 86) fr 0 b = fr := by
      intro b
      induction b with
      | zero => rfl
      | succ b ih => rw [trS, ih]; simp
    rw [this]
  · have e : u = 0 := by omega
    subst e
    rw [up2_o (by omega), up2_c, upw_s, hR 0 (by omega), bI_t (Or.inl rfl)]
theorem m_isOne {σ : Sg} {ρ : Nat → Int} {N M s : Nat} {fr : Int} {R : Nat → Int} {r : Nat} (hI : lyI ρ N fr R σ M) (h86 : σ 86 = ρ) (hs : s < M) (hM2 : M ≤ 256) (hr : r < 6) : vX10_isOne (s : Int) (r : Int) σ = some (bI (isS ρ N fr (ρ (17 + (r : Int)).toNat) R s)) := by
  unfold vX10_isOne isS
  rw [Int.toNat_natCast, hI.2 s hs, hI.1 s hs, h86, ck_p (by omega)]
  by_cases c : R s = 0
  · rw [if_pos c, bI_f (fun h => h.1 c)]
  · rw [if_neg c, ck_p (by omega), ck_p (by omega), ck_p (by omega)]
    by_cases c2 : trS ρ fr s N = ρ (17 + (r : Int)).toNat
    · rw [if_pos c2, bI_t ⟨c, c2⟩]
    · rw [if_neg c2, bI_f (fun h => c2 h.2)]
