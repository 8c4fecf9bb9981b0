theorem cs_num {tk : Nat → Int} {pl : Nat → Nat} {N i l : Nat} {ord p1 p2 : Int} {σc σ : Sg} {cd : List Int} {K : Kt} (hz : CZ tk pl N ord σc) (h : CSt N σc σ i l cd) : vX4_numberHere K p1 p2 σ = some (if p1 ≤ tk i - 1000 ∧ tk i - 1000 ≤ p2 then tk i - 1000 else -1) := by
  obtain ⟨e6, e71, tb, i4⟩ := cs_tok hz h
  unfold vX4_numberHere
  rw [e6, ck_p (by omega), Int.toNat_natCast, e71, ck_p (by omega), nm_eq]
  by_cases a : tk i - 1000 < p1
  · rw [if_pos a, if_neg (by omega)]
  · rw [if_neg a]
    by_cases b : p2 < tk i - 1000
    · rw [if_pos b, if_neg (by omega)]
    · rw [if_neg b, if_pos (by omega)]
theorem cs_law {tk : Nat → Int} {pl : Nat → Nat} {N i l : Nat} {ord : Int} {σc σ : Sg} {cd : List Int} {K : Kt} (hz : CZ tk pl N ord σc) (h : CSt N σc σ i l cd) : vX4_lawWord K σ = some (if 308 ≤ tk i ∧ tk i ≤ 316 then 2000 + (tk i - 308) else -1) := by
  obtain ⟨e6, e71, tb, i4⟩ := cs_tok hz h
  unfold vX4_lawWord
  rw [e6, ck_p (by omega), Int.toNat_natCast, e71, ck_p (by omega), nm_eq]
  by_cases a : tk i - 308 < 0
  · rw [if_pos a, if_neg (by omega)]
  · rw [if_neg a]
    by_cases b : tk i - 308 < 9
    · rw [if_pos b, if_pos (by omega), ck_p (by omega)]
    · rw [if_neg b, if_neg (by omega)]
theorem cs_one {tk : Nat → Int} {pl : Nat → Nat} {N i l : Nat} {ord w m : Int} {σc σ : Sg} {cd : List Int} {K : Kt} (hz : CZ tk pl N ord σc) (h : CSt N σc σ i l cd) (hi : i < N) (hw : 0 ≤ w ∧ w ≤ 100) : ∃ σ', vX4_wordOfOne K w m σ = some (if 1000 ≤ tk (i + 1) ∧ tk (i + 1) < 1000 + m then 2000 + w + (tk (i + 1) - 1000) else -1, σ') ∧ CSt N σc σ' (i + 1) l cd := by
  obtain ⟨e6, e71, tb, i4⟩ := cs_tok hz h
  have h1 := cs_inc h hi
  obtain ⟨f6, f71, ub, j4⟩ := cs_tok hz h1
  refine ⟨_, ?_, h1⟩
  unfold vX4_wordOfOne
  rw [e6, ck_p (by omega), nm_eq, f6, ck_p (by omega), Int.toNat_natCast, f71, ck_p (by omega), nm_eq]
  by_cases a : tk (i + 1) - 1000 < 0
  · rw [if_pos a, if_neg (by omega)]
  · rw [if_neg a]
    by_cases b : tk (i + 1) - 1000 < m
    · rw [if_pos b, if_pos (by omega), ck_p (by omega), ck_p (by omega)]
    · rw [if_neg b, if_neg (by omega)]
theorem c_part {b : Nat → Int} {n N : Nat} {tk : Nat → Int} {pl st : Nat → Nat} {ord : Int} {σ0 : Sg} (hc : PC b n tk pl st N) (hz : PZ b n ord σ0) {test : Int} {σc σ : Sg} {K : Kt} {recS : Int → Sg → Option (Int × Sg)} {i l d : Nat} {cd : List Int} (cz : CZ tk pl N ord σc) (hrec : d < 8 → ∀ σ i l cd, CSt N σc σ i l cd → cd.length < i → T (recS ((d : Int) + 1) σ) (PO tk pl st N ord σ0 σc test (fun t => t = 1) 3 5 (hdb 5) EOk (fun t => aop t = -1) i l (d + 1) cd)) (h : CSt N σc σ i l cd) (hcd : cd.length < i) (hd : d ≤ 8) : T (vX4_part K recS (d : Int) σ) (PO tk pl st N ord σ0 σc test (S1 tk i) 3 7 (fun _ => True) EOk (fun _ => True) i l d cd) := by
  obtain ⟨e6, e71, tb, i4⟩ := cs_tok cz h
  have hiN : tk i ≠ 256 → i < N := fun q => tk_N hc h.2.1.1 q
  have e7 : σ 63 7 = (l : Int) := h.2.1.2.2.1
  unfold vX4_part
  rw [e6, Int.toNat_natCast, e71]
  refine T_ck (by omega) (T_ite (fun t91 => ?_) (fun t91 => ?_))
  · have key : T (vX4_inner K recS (d : Int) σ) (PO tk pl st N ord σ0 σc test (S1 tk i) 3 7 (fun _ => True) EOk (fun _ => True) i l d cd) := by
      unfold vX4_inner
      refine T_ite (fun q => ?_) (fun q => ?_)
      · rw [e6]
        have h1 := cs_inc h (hiN (by omega))
        refine T_ck (by omega) (T_nm (T_ck (by omega) ?_))
        refine T_bd2 (hrec (by omega) _ (i + 1) l cd h1 (by omega)) (fun r3 σ4 hr => ?_)
        rcases hr with ⟨a, j, l', cs, E, b1, b2, b3, b4, b5, b6, b7⟩ | ⟨a, k, b1, b2⟩
        · dsimp only at a b1
          subst a
          obtain ⟨f6, f71, fb, f4⟩ := cs_tok cz b1
          obtain ⟨ro1, ro2⟩ := r_open hc hz t91 (by omega) b6 b7
          rw [f6, Int.toNat_natCast, f71]
          refine T_f (by omega) (T_ck (by omega) (T_ite (fun t93 => ?_) (fun t93 => ?_)))
          · have h5 := cs_inc b1 (tk_N hc b1.2.1.1 (by omega))
            refine T_ck (by omega) (T_nm (T_some (Or.inl ⟨rfl, j + 1, l', cs, E, h5, b2, by omega, b4, b5, ro1 t93, trivial⟩)))
          · obtain ⟨σ5, e5, x5⟩ := cs_fails (K := K) cz b1
            rw [e5, bd2_some]
            exact T_ck (by omega) (T_some (Or.inr ⟨rfl, j, x5, ro2 t93⟩))
        · dsimp only at a b1
          subst a
          exact T_t rfl (T_some (Or.inr ⟨rfl, k, b1, r_openX hc hz t91 (Or.inr ⟨by omega, b2⟩)⟩))
      · obtain ⟨σ5, e5, x5⟩ := cs_fails (K := K) cz h
        rw [e5, bd2_some]
        exact T_ck (by omega) (T_some (Or.inr ⟨rfl, i, x5, r_openX hc hz t91 (Or.inl ⟨by omega, rfl⟩)⟩))
    refine T_bd2 key (fun r s q => T_ck ?_ (T_some q))
    rcases q with ⟨a, -⟩ | ⟨a, -⟩
    · exact Or.inr a
    · exact Or.inl a
  · rw [e7]
    refine T_ite (fun l50 => ?_) (fun l50 => ?_)
    · refine T_ck (by omega) (T_nm ?_)
      have h1 := cs_par h
      -- a code or none
      have p77 : ∀ (τ : Sg) (i' : Nat) (x : Int), CSt N σc τ i' (l + 1) cd → (x = -1 ∧ LX ord tk i i' ∨ x ≠ -1 ∧ LF ord tk i (i' + 1) x ∧ i' < N) → T (vX4_part_77 K recS x τ) (PO tk pl st N ord σ0 σc test (S1 tk i) 3 7 (fun _ => True) EOk (fun _ => True) i l d cd) := by
        intro τ i' x hτ hx
        unfold vX4_part_77
        rcases hx with ⟨x1, x2⟩ | ⟨x1, x2, x3⟩
        · obtain ⟨σ5, e5, x5⟩ := cs_fails (K := K) cz hτ
          rw [e5, bd2_some]
          exact T_t x1 (T_ck (by omega) (T_some (Or.inr ⟨rfl, i', x5, r_leafX hc hz t91 (Or.inr ⟨by omega, x2⟩)⟩)))
        · obtain ⟨g6, g71, gb, g4⟩ := cs_tok cz hτ
          have h2 := cs_inc hτ x3
          rw [g6]
          refine T_f x1 (T_ck (by omega) (T_nm ?_))
          refine T_bind (cs_add h2 (by omega)) (fun σ5 h5 => T_some (Or.inl ⟨rfl, i' + 1, l + 1, [x], fun w => lvl w x, h5, by omega, ?_, ?_, (SegC_l (LF_cd x2)).2, r_leaf hc hz t91 (by omega) x2, trivial⟩))
          · rcases x2 with ⟨z, -⟩ | ⟨z, -⟩ <;> (rw [List.length_singleton]; omega)
          · rw [show l + 1 - l = 1 by omega]; exact (SegC_l (LF_cd x2)).1
      have h5 : up2 σ 63 7 ((l : Int) + 1) 63 5 = σc 63 5 := h1.1.2.1 5 (by omega) (by omega) (by omega)
      rw [cs_num cz h1, Option.bind_some]
      by_cases dgt : 0 ≤ tk i - 1000 ∧ tk i - 1000 ≤ 1000
      · rw [if_pos dgt]
        refine T_f (by omega) (p77 _ i _ h1 (Or.inr ⟨by omega, Or.inl ⟨rfl, ?_, ?_⟩, hiN (by omega)⟩))
        · unfold lc1; rw [if_pos (by omega)]; omega
        · unfold lc1; rw [if_pos (by omega)]
      · rw [if_neg dgt]
        refine T_t rfl ?_
        rw [h5]
        refine T_ite (fun z => ?_) (fun z => ?_)
        · have zo : ord ≠ 0 := fun q => (cz.2.2.1.mp q) z
          -- words of orders
          have none1 : (tk i ≠ 315 ∧ tk i ≠ 317 ∧ tk i ≠ 318 ∧ tk i ≠ 319) → lc1 ord (tk i) = -1 := fun q => by
            unfold lc1
            rw [if_neg (by omega), if_neg zo, if_neg q.1, if_neg q.2.1, if_neg q.2.2.1, if_neg q.2.2.2]
          have no : (tk i ≠ 315 ∧ tk i ≠ 317 ∧ tk i ≠ 318 ∧ tk i ≠ 319) → (tk i ≠ 310 ∧ tk i ≠ 313 ∧ tk i ≠ 320) → LX ord tk i i := fun q1 q2 => Or.inl ⟨rfl, none1 q1, fun w => by have := w.2; omega⟩
          have yes : ∀ x : Int, lc1 ord (tk i) = x → 0 ≤ x → tk i ≠ 256 → T (bd2 (some (x, up2 σ 63 7 ((l : Int) + 1))) (fun r9 σ10 => vX4_part_76 K recS r9 σ10)) (PO tk pl st N ord σ0 σc test (S1 tk i) 3 7 (fun _ => True) EOk (fun _ => True) i l d cd) := by
            intro x x1 x2 x3
            rw [bd2_some]
            unfold vX4_part_76
            exact p77 _ i x h1 (Or.inr ⟨by omega, Or.inl ⟨rfl, by omega, x1⟩, hiN x3⟩)
          have nope : (tk i ≠ 315 ∧ tk i ≠ 317 ∧ tk i ≠ 318 ∧ tk i ≠ 319) → (tk i ≠ 310 ∧ tk i ≠ 313 ∧ tk i ≠ 320) → T (bd2 (some ((-1 : Int), up2 σ 63 7 ((l : Int) + 1))) (fun r9 σ10 => vX4_part_76 K recS r9 σ10)) (PO tk pl st N ord σ0 σc test (S1 tk i) 3 7 (fun _ => True) EOk (fun _ => True) i l d cd) := by
            intro q1 q2
            rw [bd2_some]
            unfold vX4_part_76
            exact p77 _ i (-1) h1 (Or.inl ⟨rfl, no q1 q2⟩)
          have two2 : ∀ (w m : Int), (tk i = 310 ∨ tk i = 313 ∨ tk i = 320) → 2000 + w = tw (tk i) → m = twm (tk i) + 1 → (0 ≤ w ∧ w ≤ 100) → T (bd2 (bd2 (vX4_wordOfOne K w m (up2 σ 63 7 ((l : Int) + 1))) (fun r1 σ2 => some (r1, σ2))) (fun r9 σ10 => vX4_part_76 K recS r9 σ10)) (PO tk pl st N ord σ0 σc test (S1 tk i) 3 7 (fun _ => True) EOk (fun _ => True) i l d cd) := by
            intro w m q1 q2 q3 q4
            obtain ⟨σ2, e2, h2⟩ := cs_one (K := K) (m := m) cz h1 (hiN (by omega)) q4
            rw [e2, bd2_some, bd2_some]
            unfold vX4_part_76
            have t2 : two ord (tk i) := ⟨zo, q1⟩
            by_cases g : 1000 ≤ tk (i + 1) ∧ tk (i + 1) < 1000 + m
            · rw [if_pos g]
              exact p77 _ (i + 1) _ h2 (Or.inr ⟨by omega, Or.inr ⟨rfl, t2, by omega, by omega⟩, tk_N hc h2.2.1.1 (by omega)⟩)
            · rw [if_neg g]
              exact p77 _ (i + 1) _ h2 (Or.inl ⟨rfl, Or.inr ⟨rfl, t2, by omega⟩⟩)
          obtain ⟨f6, f71, -, -⟩ := cs_tok cz h1
          unfold vX4_orderWord
          rw [f6, Int.toNat_natCast, f71, ck_p (by omega)]
          have tv : ∀ a, tk i = a → tw (tk i) = tw a ∧ twm (tk i) = twm a := fun a e => by rw [e]; exact ⟨rfl, rfl⟩
          by_cases c0 : tk i = 310
          · rw [if_pos c0]
            exact two2 16 8 (by omega) (by rw [(tv _ c0).1]; decide) (by rw [(tv _ c0).2]; decide) (by omega)
          · rw [if_neg c0]
            by_cases c1 : tk i = 311
            · rw [if_pos c1]; exact nope (by omega) (by omega)
            · rw [if_neg c1]
              by_cases c2 : tk i = 312
              · rw [if_pos c2]; exact nope (by omega) (by omega)
              · rw [if_neg c2]
                by_cases c3 : tk i = 313
                · rw [if_pos c3]
                  exact two2 10 6 (by omega) (by rw [(tv _ c3).1]; decide) (by rw [(tv _ c3).2]; decide) (by omega)
                · rw [if_neg c3]
                  by_cases c4 : tk i = 314
                  · rw [if_pos c4]; exact nope (by omega) (by omega)
                  · rw [if_neg c4]
                    by_cases c5 : tk i = 315
                    · rw [if_pos c5]
                      exact yes 2000 (by unfold lc1; rw [if_neg (by omega), if_neg zo, if_pos c5]) (by omega) (by omega)
                    · rw [if_neg c5]
                      by_cases c6 : tk i = 316
                      · rw [if_pos c6]; exact nope (by omega) (by omega)
                      · rw [if_neg c6]
                        by_cases c7 : tk i = 317
                        · rw [if_pos c7]
                          exact yes 2001 (by unfold lc1; rw [if_neg (by omega), if_neg zo, if_neg c5, if_pos c7]) (by omega) (by omega)
                        · rw [if_neg c7]
                          by_cases c8 : tk i = 318
                          · rw [if_pos c8]
                            exact yes 2002 (by unfold lc1; rw [if_neg (by omega), if_neg zo, if_neg c5, if_neg c7, if_pos c8]) (by omega) (by omega)
                          · rw [if_neg c8]
                            by_cases c9 : tk i = 319
                            · rw [if_pos c9]
                              exact yes 2003 (by unfold lc1; rw [if_neg (by omega), if_neg zo, if_neg c5, if_neg c7, if_neg c8, if_pos c9]) (by omega) (by omega)
                            · rw [if_neg c9]
                              by_cases ca : tk i = 320
                              · rw [if_pos ca]
                                exact two2 4 6 (by omega) (by rw [(tv _ ca).1]; decide) (by rw [(tv _ ca).2]; decide) (by omega)
                              · rw [if_neg ca]; exact nope (by omega) (by omega)
        · have zo : ord = 0 := cz.2.2.1.mpr z
          rw [cs_law cz h1, Option.bind_some]
          unfold vX4_part_76
          by_cases g : 308 ≤ tk i ∧ tk i ≤ 316
          · rw [if_pos g]
            refine p77 _ i _ h1 (Or.inr ⟨by omega, Or.inl ⟨rfl, ?_, ?_⟩, hiN (by omega)⟩)
            · unfold lc1; rw [if_neg (by omega), if_pos zo, if_pos g]; omega
            · unfold lc1; rw [if_neg (by omega), if_pos zo, if_pos g]
          · rw [if_neg g]
            refine p77 _ i _ h1 (Or.inl ⟨rfl, Or.inl ⟨rfl, ?_, fun w => w.1 zo⟩⟩)
            unfold lc1
            rw [if_neg (by omega), if_pos zo, if_neg g]
    · obtain ⟨σ5, e5, x5⟩ := cs_fails (K := K) cz h
      rw [e5, bd2_some]
      exact T_ck (by omega) (T_some (Or.inr ⟨rfl, i, x5, RXx_m (r_leafX hc hz t91 (Or.inl ⟨by omega, rfl⟩)) (fun _ q => q) (fun _ q => q)⟩))
