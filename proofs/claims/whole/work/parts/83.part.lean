/-! ===== the reference reads a part ===== -/
theorem PS_84 {N i l d l' d' : Nat} {tk : Nat → Int} {pl st : Nat → Nat} {σ0 σ : Sg} {c : Cd} {P : Pl} {j : Nat} {z : Int} (h : PS tk pl st N σ0 σ i l d c P) (hj : j = 26 ∨ j = 30) (h26 : if j = 26 then z = (l' : Int) ∧ d' = d else z = (d' : Int) ∧ l' = l) : PS tk pl st N σ0 (up2 σ 84 j z) i l' d' c P := by
  obtain ⟨h1, ⟨⟨a1, b1, e1, f1, g1⟩, h2, h3⟩, hT, h18⟩ := h
  have S : ∀ k, k ≠ j → up2 σ 84 j z 84 k = σ 84 k := fun k hk => by rw [up2_c, upw_n hk]
  have s : up2 σ 84 j z 84 j = z := by rw [up2_c, upw_s]
  refine ⟨PF_u h1 (by omega), ⟨⟨by rw [S 19 (by omega)]; exact a1, by rw [S 23 (by omega)]; exact b1, ?_, by rw [S 29 (by omega)]; exact f1, ?_⟩, fun k hk => by rw [up2_o (by omega), up2_o (by omega)]; exact h2 k hk, fun k x hx => by rw [up2_o (by omega), up2_o (by omega)]; exact h3 k x hx⟩, PT_84 hT (fun k hk => S k (by omega)), by rw [S 18 (by omega)]; exact h18⟩
  · by_cases q : j = 26
    · rw [if_pos q] at h26; subst q; rw [s]; exact h26.1
    · rw [if_neg q] at h26; rw [S 26 (by omega), h26.2]; exact e1
  · by_cases q : j = 26
    · rw [if_pos q] at h26; rw [S 30 (by omega), h26.2]; exact g1
    · rw [if_neg q] at h26
      have e : j = 30 := by omega
      subst e
      rw [s]; exact h26.1
theorem ps_open {b : Nat → Int} {n N : Nat} {tk : Nat → Int} {pl st : Nat → Nat} {ord : Int} {σ0 : Sg} (hc : PC b n tk pl st N) (hz : PZ b n ord σ0) {σ : Sg} {i l d : Nat} {c : Cd} {P : Pl} {o : Int} (h : PS tk pl st N σ0 σ i l d c P) (hi : i < N) (hl : P.length < 400) : T (vX10_openBracket o σ) (fun σ' => (d < 8 ∧ PS tk pl st N σ0 σ' (i + 1) l (d + 1) c ((o, 0) :: P)) ∨ (8 ≤ d ∧ PX pl σ0 σ' i l d c P)) := by
  have g1 : σ 84 30 = (d : Int) := h.2.1.1.2.2.2.2
  unfold vX10_openBracket
  rw [g1]
  refine T_ite (fun q => ?_) (fun q => ?_)
  · unfold vX10_openBracket_15
    refine T_bind (ps_must1 hc hz h hi) (fun σ1 h1 => ?_)
    have g2 : σ1 84 30 = (d : Int) := h1.2.1.1.2.2.2.2
    refine T_t h1.2.1.1.1 (T_ck (by omega) (T_nm ?_))
    have h2 : PS tk pl st N σ0 (up2 σ1 84 30 (σ1 84 30 + 1)) (i + 1) l (d + 1) c P := PS_84 (l' := l) (d' := d + 1) h1 (Or.inr rfl) (by rw [if_neg (by omega)]; exact ⟨by omega, rfl⟩)
    refine T_bind (ps_push (a := 0) rfl h2 hl) (fun σ3 h3 => T_some (Or.inl ⟨by omega, h3⟩))
  · unfold vX10_openBracket_15
    refine T_bind (ps_must0 h) (fun σ1 h1 => ?_)
    refine T_f (by have := h1.2.1.1.1; omega) (T_some (Or.inr ⟨by omega, h1⟩))
theorem ps_leaf {b : Nat → Int} {n N : Nat} {tk : Nat → Int} {pl st : Nat → Nat} {ord : Int} {σ0 : Sg} (hc : PC b n tk pl st N) (hz : PZ b n ord σ0) {σ : Sg} {i l d : Nat} {c : Cd} {P : Pl} {is o a : Int} (h : PS tk pl st N σ0 σ i l d c P) (hi : is ≠ 0 → i < N) (hm : c.2.2 < 400) : T (vX10_leaf is o a σ) (fun σ' => ((is ≠ 0 ∧ l < 50) ∧ PS tk pl st N σ0 σ' (i + 1) (l + 1) d (emt c o a) P) ∨ (¬ (is ≠ 0 ∧ l < 50) ∧ PX pl σ0 σ' i l d c P)) := by
  have e1 : σ 84 26 = (l : Int) := h.2.1.1.2.2.1
  have no : ¬ (is ≠ 0 ∧ l < 50) → T (vX10_leaf_18 o a σ) (fun σ' => ((is ≠ 0 ∧ l < 50) ∧ PS tk pl st N σ0 σ' (i + 1) (l + 1) d (emt c o a) P) ∨ (¬ (is ≠ 0 ∧ l < 50) ∧ PX pl σ0 σ' i l d c P)) := by
    intro q
    unfold vX10_leaf_18 vX10_leaf_19
    refine T_bind (ps_must0 h) (fun σ1 h1 => ?_)
    exact T_f (by have := h1.2.1.1.1; omega) (T_some (Or.inr ⟨q, h1⟩))
  unfold vX10_leaf
  refine T_ite (fun q => no (by omega)) (fun q => ?_)
  rw [e1]
  refine T_ite (fun q2 => ?_) (fun q2 => no (by omega))
  unfold vX10_leaf_19
  refine T_bind (ps_must1 hc hz h (hi q)) (fun σ1 h1 => ?_)
  refine T_t h1.2.1.1.1 ?_
  refine T_bind (ps_emit h1 hm) (fun σ3 h3 => ?_)
  have e3 : σ3 84 26 = (l : Int) := h3.2.1.1.2.2.1
  refine T_ck (by omega) (T_nm (T_some (Or.inl ⟨⟨q, by omega⟩, ?_⟩)))
  exact PS_84 (l' := l + 1) (d' := d) h3 (Or.inl rfl) (by rw [if_pos rfl]; exact ⟨by omega, rfl⟩)
/-! leaves -/
def lc1 (ord t : Int) : Int := if 1000 ≤ t ∧ t ≤ 2000 then t - 1000 else if ord = 0 then (if 308 ≤ t ∧ t ≤ 316 then 2000 + (t - 308) else -1) else if t = 315 then 2000 else if t = 317 then 2001 else if t = 318 then 2002 else if t = 319 then 2003 else -1
def two (ord t : Int) : Prop := ord ≠ 0 ∧ (t = 310 ∨ t = 313 ∨ t = 320)
def tw (t : Int) : Int := if t = 310 then 2016 else if t = 313 then 2010 else 2004
def twm (t : Int) : Int := if t = 310 then 7 else 5
def LF (ord : Int) (tk : Nat → Int) (i j : Nat) (cd : Int) : Prop := (j = i + 1 ∧ 0 ≤ lc1 ord (tk i) ∧ lc1 ord (tk i) = cd) ∨ (j = i + 2 ∧ two ord (tk i) ∧ (1000 ≤ tk (i + 1) ∧ tk (i + 1) ≤ 1000 + twm (tk i)) ∧ cd = tw (tk i) + (tk (i + 1) - 1000))
def LX (ord : Int) (tk : Nat → Int) (i k : Nat) : Prop := (k = i ∧ lc1 ord (tk i) = -1 ∧ ¬ two ord (tk i)) ∨ (k = i + 1 ∧ two ord (tk i) ∧ ¬ (1000 ≤ tk (i + 1) ∧ tk (i + 1) ≤ 1000 + twm (tk i)))
theorem upw_upw {ρ : Nat → Int} {j : Nat} {y z : Int} : upw (upw ρ j y) j z = upw ρ j z := by
  funext k
  unfold upw
  by_cases e : k = j
  · rw [if_pos e, if_pos e]
  · rw [if_neg e, if_neg e, if_neg e]
theorem PK_arg {σ : Sg} {l d : Nat} {c : Cd} {P : Pl} {bd o a z : Int} (h : PK σ l d (emt c o a) P bd) : PK (up2 σ 96 c.2.2 z) l d (emt c o z) P bd := by
  obtain ⟨h1, h2, h3⟩ := h
  refine ⟨by rw [up2_o (by omega)]; exact h1, fun k hk => ?_, fun j x hx => by rw [up2_o (by omega), up2_o (by omega)]; exact h3 j x hx⟩
  have := h2 k hk
  rw [up2_o (by omega), up2_c]
  refine ⟨this.1, ?_⟩
  show upw (σ 96) c.2.2 z k = upw c.2.1 c.2.2 z k
  by_cases q : k = c.2.2
  · rw [q, upw_s, upw_s]
  · rw [upw_n q, upw_n q]
    have t := this.2
    show σ 96 k = c.2.1 k
    rw [t]
    show upw c.2.1 c.2.2 a k = _
    rw [upw_n q]
theorem tk_N {b : Nat → Int} {n N i : Nat} {tk : Nat → Int} {pl st : Nat → Nat} (hc : PC b n tk pl st N) (hi : i ≤ N) (h : tk i ≠ 256) : i < N := by
  rcases Nat.lt_or_ge i N with q | q
  · exact q
  · have e : i = N := by omega
    rw [e] at h
    exact absurd hc.2.2.2.2.2.2.2 h
theorem PZ_C {b : Nat → Int} {n : Nat} {ord : Int} {σ0 σ : Sg} (hz : PZ b n ord σ0) (h : PF σ0 σ) : InvC σ ∧ σ 84 20 = ord :=
  ⟨InvC_f hz.2.2.2 (h.1 99 (by omega) (by omega) (by omega) (by omega) (by omega)) (h.1 100 (by omega) (by omega) (by omega) (by omega) (by omega)) (h.1 101 (by omega) (by omega) (by omega) (by omega) (by omega)) (h.1 112 (by omega) (by omega) (by omega) (by omega) (by omega)), by rw [h.2 20 (by omega)]; exact hz.2.2.1⟩
def RP (tk : Nat → Int) (pl st : Nat → Nat) (N : Nat) (ord : Int) (σ0 : Sg) (i l d : Nat) (c : Cd) (P : Pl) (p : Int × Sg) : Prop :=
  (tk i = 91 ∧ d < 8 ∧ p.1 = 1 ∧ PS tk pl st N σ0 p.2 (i + 1) l (d + 1) c ((32, 0) :: P)) ∨ (tk i = 91 ∧ 8 ≤ d ∧ PX pl σ0 p.2 i l d c P) ∨ (tk i ≠ 91 ∧ 50 ≤ l ∧ PX pl σ0 p.2 i l d c P)
  ∨ (tk i ≠ 91 ∧ l < 50 ∧ ∃ k l' c', LX ord tk i k ∧ PX pl σ0 p.2 k l' d c' P ∧ (c' = c ∨ ∃ o a, c' = emt c o a)) ∨ (tk i ≠ 91 ∧ l < 50 ∧ ∃ j cd o a, LF ord tk i j cd ∧ p.1 = 3 ∧ lfOk ord o a ∧ (o < 20 ∧ lf ord o a = cd) ∧ PS tk pl st N σ0 p.2 j (l + 1) d (emt c o a) P)
theorem ps_rp99 {b : Nat → Int} {n N : Nat} {tk : Nat → Int} {pl st : Nat → Nat} {ord : Int} {σ0 : Sg} (hc : PC b n tk pl st N) (hz : PZ b n ord σ0) {σ : Sg} {i l d : Nat} {c : Cd} {P : Pl} {its is o a : Int} (h : PS tk pl st N σ0 σ i l d c P) (hm : c.2.2 < 400) (n91 : tk i ≠ 91) (hits : its = if ord = 0 then lPart (tk i) else oPart (tk i)) (his : is ≠ 0 ↔ (its ≠ -1 ∨ (1000 ≤ tk i ∧ tk i ≤ 2000))) (ho : o = if its = -1 then 0 else its) (ha : a = if 1000 ≤ tk i ∧ tk i ≤ 2000 then tk i - 1000 else 0) : T (vX10_readPart_99 its is o a σ) (RP tk pl st N ord σ0 i l d c P) := by
  have tb := h.2.2.1.2.2.2.2.2.2.2.2
  have hiN := h.2.2.1.1
  have lp : (lPart (tk i) = -1 ∧ ¬ (308 ≤ tk i ∧ tk i ≤ 316)) ∨ (308 ≤ tk i ∧ tk i ≤ 316 ∧ lPart (tk i) = tk i - 307) := by
    unfold lPart
    by_cases q : 308 ≤ tk i ∧ tk i ≤ 316
    · rw [if_pos q]; omega
    · rw [if_neg q]; omega
  have op : (oPart (tk i) = -1 ∧ tk i ≠ 310 ∧ tk i ≠ 313 ∧ tk i ≠ 320 ∧ tk i ≠ 319 ∧ tk i ≠ 318 ∧ tk i ≠ 317 ∧ tk i ≠ 315) ∨ (tk i = 310 ∧ oPart (tk i) = 7) ∨ (tk i = 313 ∧ oPart (tk i) = 6) ∨ (tk i = 320 ∧ oPart (tk i) = 5) ∨ (tk i = 319 ∧ oPart (tk i) = 4) ∨ (tk i = 318 ∧ oPart (tk i) = 3) ∨ (tk i = 317 ∧ oPart (tk i) = 2) ∨ (tk i = 315 ∧ oPart (tk i) = 1) := by
    unfold oPart
    repeat' split
    all_goals omega
  unfold vX10_readPart_99
  have t256 : is ≠ 0 → i < N := fun q => by
    refine tk_N hc hiN (fun e => ?_)
    have := his.mp q
    by_cases z : ord = 0
    · rw [if_pos z] at hits; omega
    · rw [if_neg z] at hits; omega
  refine T_bind (ps_leaf hc hz (o := o) (a := a) h t256 hm) (fun σ1 h1 => ?_)
  rcases h1 with ⟨q, h1⟩ | ⟨q, h1⟩
  · have is1 := his.mp q.1
    have e20 := (PZ_C hz h1.1).2
    have e19 : σ1 84 19 = 0 := h1.2.1.1.1
    rw [e20]
    -- one token
    have one : ∀ cd : Int, lc1 ord (tk i) = cd → 0 ≤ cd → lfOk ord o a → o < 20 → lf ord o a = cd → T (some ((3 : Int), σ1)) (RP tk pl st N ord σ0 i l d c P) := by
      intro cd c1 c2 c3 c4 c5
      exact T_some (Or.inr (Or.inr (Or.inr (Or.inr ⟨n91, q.2, i + 1, cd, o, a, Or.inl ⟨rfl, by omega, c1⟩, rfl, c3, ⟨c4, c5⟩, h1⟩))))
    by_cases dgt : 1000 ≤ tk i ∧ tk i ≤ 2000
    · rw [if_pos dgt] at ha
      have its1 : its = -1 := by
        by_cases z : ord = 0
        · rw [if_pos z] at hits; omega
        · rw [if_neg z] at hits; omega
      rw [if_pos its1] at ho
      have fin := one (tk i - 1000) (by unfold lc1; rw [if_pos dgt]) (by omega) ⟨by omega, fun _ => by omega, fun _ => by omega, fun _ => ⟨by omega, fun _ => by omega, fun _ => by omega⟩⟩ (by omega) (by unfold lf; rw [if_pos ho]; exact ha)
      refine T_ite (fun _ => fin) (fun _ => T_t (by omega) fin)
    · rw [if_neg dgt] at ha
      have its1 : its ≠ -1 := by omega
      rw [if_neg its1] at ho
      by_cases z : ord = 0
      · rw [if_pos z] at hits
        refine T_t z (one (2000 + (tk i - 308)) (by unfold lc1; rw [if_neg dgt, if_pos z, if_pos (by omega)]) (by omega) ⟨by omega, fun _ => by omega, fun _ => by omega, fun w => absurd z w⟩ (by omega) ?_)
        unfold lf
        rw [if_neg (by omega), if_pos z]
        omega
      · rw [if_neg z] at hits
        refine T_f z ?_
        by_cases w : its < 5
        · refine T_t w (one (2000 + (its - 1)) ?_ (by omega) ⟨by omega, fun _ => by omega, fun w => absurd w z, fun _ => ⟨by omega, fun _ => by omega, fun _ => by omega⟩⟩ (by omega) ?_)
          · unfold lc1
            rw [if_neg dgt, if_neg z]
            by_cases w1 : tk i = 315
            · rw [if_pos w1]; omega
            · rw [if_neg w1]
              by_cases w2 : tk i = 317
              · rw [if_pos w2]; omega
              · rw [if_neg w2]
                by_cases w3 : tk i = 318
                · rw [if_pos w3]; omega
                · rw [if_neg w3, if_pos (by omega)]; omega
          · unfold lf
            rw [if_neg (by omega), if_neg z, if_pos (by omega)]
            omega
        · refine T_f w (T_t e19 ?_)
          have tw2 : two ord (tk i) := ⟨z, by omega⟩
          have e23 : σ1 84 23 = ((c.2.2 + 1 : Nat) : Int) := h1.2.1.1.2.1
          rw [e23]
          refine T_ck (by omega) (T_nm ?_)
          rw [show ((c.2.2 + 1 : Nat) : Int) - 1 = (c.2.2 : Int) by omega]
          have tmv : (tk i = 310 ∧ tw (tk i) = 2016 ∧ twm (tk i) = 7) ∨ (tk i = 313 ∧ tw (tk i) = 2010 ∧ twm (tk i) = 5) ∨ (tk i = 320 ∧ tw (tk i) = 2004 ∧ twm (tk i) = 5) := by
            unfold tw twm
            rcases tw2.2 with e | e | e
            · rw [if_pos e, if_pos e]; omega
            · rw [if_neg (by omega), if_pos e, if_neg (by omega)]; omega
            · rw [if_neg (by omega), if_neg (by omega), if_neg (by omega)]; omega
          have num : ∀ hi : Int, hi = twm (tk i) → T (vX10_readPart_150 (c.2.2 : Int) 0 hi σ1) (RP tk pl st N ord σ0 i l d c P) := by
            intro hi hh
            have tr := h1.2.2.1.2.2.2
            have wd : σ1 84 16 = 2 → w32 (σ1 84 17) = σ1 84 17 := fun e => w32_id (by have := tr.2.2.2.2.1 e; omega)
            unfold vX10_readPart_150 vX10_number
            -- the number is good
            have good : (1000 ≤ tk (i + 1) ∧ tk (i + 1) ≤ 1000 + twm (tk i)) → σ1 84 16 = 2 → T (bd2 (vX10_number_33 (w32 (σ1 84 17)) 1 σ1) (fun r1 σ2 => ck (0 ≤ (c.2.2 : Int) ∧ (c.2.2 : Int) < 400) (nm (up2 σ2 96 (c.2.2 : Int).toNat r1) (fun σ3 => some ((3 : Int), σ3))))) (RP tk pl st N ord σ0 i l d c P) := by
              intro g1 g2
              have tv := tr.2.2.2.2.1 g2
              have tv2 := tr.2.2.2.1
              have ev : σ1 84 17 = tk (i + 1) - 1000 := by
                have : σ1 84 17 ≤ 1000 := (tv2.mpr (by omega)).2
                have := tv.2.2 this
                omega
              unfold vX10_number_33
              have lt2 : i + 1 < N := tk_N hc h1.2.2.1.1 (by omega)
              obtain ⟨σ2, e2, h2⟩ := ps_must1 hc hz h1 lt2
              rw [e2, Option.bind_some, bd2_some]
              refine T_ck (by omega) (T_nm ?_)
              rw [Int.toNat_natCast, wd g2, ev]
              refine T_some (Or.inr (Or.inr (Or.inr (Or.inr ⟨n91, q.2, i + 2, tw (tk i) + (tk (i + 1) - 1000), o, tk (i + 1) - 1000, Or.inr ⟨rfl, tw2, g1, rfl⟩, rfl, ⟨by omega, fun _ => by omega, fun w => absurd w z, fun _ => ⟨by omega, fun _ => by omega, fun _ => by omega⟩⟩, ⟨by omega, ?_⟩, ?_⟩))))
              · unfold lf
                rw [if_neg (by omega), if_neg z, if_neg (by omega)]
                by_cases o5 : o = 5
                · rw [if_pos o5]; omega
                · rw [if_neg o5]
                  by_cases o6 : o = 6
                  · rw [if_pos o6]; omega
                  · rw [if_neg o6]; omega
              · exact ⟨PF_o h2.1 (by omega), PK_arg h2.2.1, PT_84 h2.2.2.1 (fun j hj => by dsimp only; rw [up2_o (by omega)]), by dsimp only; rw [up2_o (by omega)]; exact h2.2.2.2⟩
            have bad : ¬ (1000 ≤ tk (i + 1) ∧ tk (i + 1) ≤ 1000 + twm (tk i)) → T (bd2 (vX10_number_32 (w32 (σ1 84 17)) σ1) (fun r1 σ2 => ck (0 ≤ (c.2.2 : Int) ∧ (c.2.2 : Int) < 400) (nm (up2 σ2 96 (c.2.2 : Int).toNat r1) (fun σ3 => some ((3 : Int), σ3))))) (RP tk pl st N ord σ0 i l d c P) := by
              intro g1
              unfold vX10_number_32 vX10_number_33
              obtain ⟨σ2, e2, h2⟩ := ps_must0 h1
              rw [e2, Option.bind_some, bd2_some]
              refine T_ck (by omega) (T_nm ?_)
              rw [Int.toNat_natCast]
              exact T_some (Or.inr (Or.inr (Or.inr (Or.inl ⟨n91, q.2, i + 1, l + 1, _, Or.inr ⟨rfl, tw2, g1⟩, ⟨PF_o h2.1 (by omega), PK_arg h2.2.1, by dsimp only; rw [up2_o (by omega)]; exact h2.2.2⟩, Or.inr ⟨_, _, rfl⟩⟩))))
            rw [nm_eq]
            by_cases s2 : σ1 84 16 = 2
            · rw [if_pos s2, m_in, Option.bind_some]
              have tv := tr.2.2.2.2.1 s2
              have tv2 := tr.2.2.2.1
              by_cases g : 0 ≤ σ1 84 17 ∧ σ1 84 17 ≤ hi
              · rw [bI_t g, if_neg (by omega)]
                refine good ?_ s2
                have := tv.2.2 (by omega)
                omega
              · rw [bI_f g, if_pos rfl]
                refine bad (fun w => ?_)
                have := (tv2.mpr (by omega)).2
                have := tv.2.2 this
                omega
            · rw [if_neg s2]
              refine bad (fun w => ?_)
              exact s2 (tr.2.2.2.1.mpr (by omega)).1
          refine T_ite (fun e7 => num 7 (by omega)) (fun e7 => num 5 (by omega))
  · -- no leaf
    have fin : T (some ((3 : Int), σ1)) (RP tk pl st N ord σ0 i l d c P) := by
      by_cases l50 : 50 ≤ l
      · exact T_some (Or.inr (Or.inr (Or.inl ⟨n91, l50, h1⟩)))
      · refine T_some (Or.inr (Or.inr (Or.inr (Or.inl ⟨n91, by omega, i, l, c, Or.inl ⟨rfl, ?_, ?_⟩, h1, Or.inl rfl⟩))))
        · have is0 : ¬ (its ≠ -1 ∨ (1000 ≤ tk i ∧ tk i ≤ 2000)) := fun w => q ⟨his.mpr w, by omega⟩
          unfold lc1
          rw [if_neg (by omega)]
          by_cases z : ord = 0
          · rw [if_pos z] at hits; rw [if_pos z, if_neg (by omega)]
          · rw [if_neg z] at hits; rw [if_neg z, if_neg (by omega), if_neg (by omega), if_neg (by omega), if_neg (by omega)]
        · intro w
          have is0 : ¬ (its ≠ -1 ∨ (1000 ≤ tk i ∧ tk i ≤ 2000)) := fun w => q ⟨his.mpr w, by omega⟩
          have w1 := w.1
          have w2 := w.2
          rw [if_neg w1] at hits
          omega
    have e19 : σ1 84 19 = 1 := h1.2.1.1.1
    refine T_ite (fun _ => fin) (fun _ => T_ite (fun _ => fin) (fun _ => T_f (by omega) fin))
theorem ps_readPart {b : Nat → Int} {n N : Nat} {tk : Nat → Int} {pl st : Nat → Nat} {ord : Int} {σ0 : Sg} (hc : PC b n tk pl st N) (hz : PZ b n ord σ0) {σ : Sg} {i l d : Nat} {c : Cd} {P : Pl} (h : PS tk pl st N σ0 σ i l d c P) (hm : c.2.2 < 400) (hl : P.length < 400) : T (vX10_readPart σ) (RP tk pl st N ord σ0 i l d c P) := by
  have tr := h.2.2.1.2.2.2
  obtain ⟨hC, e20⟩ := PZ_C hz h.1
  unfold vX10_readPart
  rw [ps_sign h.2.2.1 (by omega) (by unfold dg; omega), Option.bind_some]
  by_cases n91 : tk i = 91
  · rw [bI_t n91]
    refine T_f (by omega) ?_
    refine T_bind (ps_open hc hz h (tk_N hc h.2.2.1.1 (by omega)) hl) (fun σ1 h1 => ?_)
    rcases h1 with ⟨q, h1⟩ | ⟨q, h1⟩
    · exact T_some (Or.inl ⟨n91, q, rfl, h1⟩)
    · exact T_some (Or.inr (Or.inl ⟨n91, q, h1⟩))
  · rw [bI_f n91]
    refine T_t rfl ?_
    have go : ∀ its, its = (if ord = 0 then lPart (tk i) else oPart (tk i)) → T (vX10_readPart_35 its σ) (RP tk pl st N ord σ0 i l d c P) := by
      intro its hits
      have wd : σ 84 16 = 2 → w32 (σ 84 17) = σ 84 17 := fun e => w32_id (by have := tr.2.2.2.2.1 e; omega)
      have p86 : ∀ (dgs is o : Int), (dgs = 1 ∧ (1000 ≤ tk i ∧ tk i ≤ 2000) ∨ dgs = 0 ∧ ¬ (1000 ≤ tk i ∧ tk i ≤ 2000)) → (is ≠ 0 ↔ (its ≠ -1 ∨ (1000 ≤ tk i ∧ tk i ≤ 2000))) → (o = if its = -1 then 0 else its) → T (vX10_readPart_86 its dgs is o σ) (RP tk pl st N ord σ0 i l d c P) := by
        intro dgs is o hd his ho
        unfold vX10_readPart_86
        rcases hd with ⟨d1, d2⟩ | ⟨d1, d2⟩
        · refine T_f (by omega) (ps_rp99 hc hz h hm n91 hits his ho ?_)
          rw [if_pos d2]
          obtain ⟨s2, w2⟩ := tr.2.2.2.1.mpr d2
          have := (tr.2.2.2.2.1 s2).2.2 w2
          rw [wd s2]
          omega
        · refine T_t d1 (ps_rp99 hc hz h hm n91 hits his ho ?_)
          rw [if_neg d2]
      have p76 : ∀ (dgs is : Int), (dgs = 1 ∧ (1000 ≤ tk i ∧ tk i ≤ 2000) ∨ dgs = 0 ∧ ¬ (1000 ≤ tk i ∧ tk i ≤ 2000)) → (is ≠ 0 ↔ (its ≠ -1 ∨ (1000 ≤ tk i ∧ tk i ≤ 2000))) → T (vX10_readPart_76 its dgs is σ) (RP tk pl st N ord σ0 i l d c P) := by
        intro dgs is hd his
        unfold vX10_readPart_76
        refine T_ite (fun q => p86 dgs is 0 hd his (by rw [if_pos q])) (fun q => p86 dgs is its hd his (by rw [if_neg q]))
      have p60 : ∀ (dgs : Int), (dgs = 1 ∧ (1000 ≤ tk i ∧ tk i ≤ 2000) ∨ dgs = 0 ∧ ¬ (1000 ≤ tk i ∧ tk i ≤ 2000)) → T (vX10_readPart_60 its dgs σ) (RP tk pl st N ord σ0 i l d c P) := by
        intro dgs hd
        unfold vX10_readPart_60 vX10_readPart_71
        refine T_ite (fun q => T_ite (fun q2 => p76 dgs 0 hd ⟨fun w => absurd rfl w, fun w => by omega⟩) (fun q2 => p76 dgs 1 hd ⟨fun _ => by omega, fun _ => by omega⟩)) (fun q => p76 dgs 1 hd ⟨fun _ => Or.inl q, fun _ => by omega⟩)
      unfold vX10_readPart_35 vX10_readPart_59
      have tv2 := tr.2.2.2.1
      refine T_ite (fun s2 => T_ite (fun q => p60 0 (Or.inr ⟨rfl, fun w => ?_⟩)) (fun q => p60 1 (Or.inl ⟨rfl, tv2.mp ⟨s2, by omega⟩⟩))) (fun s2 => p60 0 (Or.inr ⟨rfl, fun w => s2 (tv2.mpr w).1⟩))
      have := (tv2.mpr w).2
      omega
    rw [e20]
    refine T_ite (fun z => ?_) (fun z => ?_)
    · rw [ps_partAt h.2.2.1 hC, Option.bind_some]
      exact go _ (by rw [if_pos z])
    · rw [ps_orderPartAt h.2.2.1 hC, Option.bind_some]
      exact go _ (by rw [if_neg z])
