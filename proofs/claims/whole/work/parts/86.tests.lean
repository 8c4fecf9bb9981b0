/-! ===== comparisons and tests ===== -/
def Ct (test : Int) (π : Pl) : Prop := inn π ≠ 32 ∧ (inn π = -1 → test ≠ 0)
def cop (t : Int) : Int := if t = 60 then 25 else if t = 62 then 26 else 27
theorem cop_k {t : Int} : (t = 60 ∧ cop t = 25) ∨ (t = 62 ∧ cop t = 26) ∨ (t ≠ 60 ∧ t ≠ 62 ∧ cop t = 27) := by
  unfold cop
  repeat' split
  all_goals omega
theorem bnd_4 {o : Int} (h : bnd o < 4) : 28 ≤ o := by
  unfold bnd at h
  by_cases a : o < 31
  · rw [if_pos a] at h
    by_cases b : o = 30
    · omega
    · rw [if_neg b] at h
      by_cases c : o = 29
      · omega
      · rw [if_neg c] at h
        by_cases d : o = 28
        · omega
        · rw [if_neg d] at h
          by_cases e : o < 25
          · rw [if_pos e] at h
            by_cases g : o < 22
            · rw [if_pos g] at h; omega
            · rw [if_neg g] at h; omega
          · rw [if_neg e] at h; omega
  · omega
theorem bnd_c {o : Int} (h : 25 ≤ o ∧ o ≤ 27) : bnd o = 4 := by unfold bnd; rw [if_pos (by omega), if_neg (by omega), if_neg (by omega), if_neg (by omega), if_neg (by omega)]
theorem bnd_5 {o : Int} (h : 5 ≤ bnd o) (h2 : o < 31) : o < 25 := by
  by_cases q : o < 25
  · exact q
  · unfold bnd at h
    rw [if_pos h2] at h
    by_cases b : o = 30
    · rw [if_pos b] at h; omega
    · rw [if_neg b] at h
      by_cases c : o = 29
      · rw [if_pos c] at h; omega
      · rw [if_neg c] at h
        by_cases d : o = 28
        · rw [if_pos d] at h; omega
        · rw [if_neg d, if_neg (by omega)] at h; omega
theorem cmpd_h {π : Pl} (h : hdb 4 π) : cmpd π = 0 := by
  cases π with
  | nil => rfl
  | cons e r =>
    have := bnd_4 (h e r rfl)
    rw [cmpd, if_neg (by omega), if_neg (by omega)]
theorem Nw_m {ord lv lv' : Int} {j l l' : Nat} {c c' : Cd} {P π : Pl} {E : (Nat → Int) → Int} (h : Nw ord lv j l l' c c' P π E) (hl : lv' ≤ lv) : Nw ord lv' j l l' c c' P π E := by
  obtain ⟨n1, n2, n3, n4, n5⟩ := h
  exact ⟨n1, n2, n3, fun e he => ⟨⟨by have := (n4 e he).1.1; omega, (n4 e he).1.2⟩, (n4 e he).2⟩, n5⟩
/-- behind the first sum of a comparison -/
theorem ps_cmp1 {b : Nat → Int} {n N : Nat} {tk : Nat → Int} {pl st : Nat → Nat} {ord : Int} {σ0 : Sg} (hc : PC b n tk pl st N) (hz : PZ b n ord σ0) {test : Int} {σ : Sg} {i l d : Nat} {c : Cd} {P π : Pl} (h : PS tk pl st N σ0 σ i l d c (P ++ π)) (ht : aop (tk i) = -1) (hb : ∀ e ∈ P, 5 ≤ bnd e.1 ∧ 20 ≤ e.1 ∧ e.1 < 31) (hp : hdb 4 π) (hct : Ct test π) (bw : Bw i c (P ++ π)) : T (vX10_behindSum test σ) (fun p => ((tk i = 60 ∨ tk i = 61 ∨ tk i = 62) ∧ p.1 = 1 ∧ PS tk pl st N σ0 p.2 (i + 1) l d (sett c P) ((cop (tk i), 0) :: π)) ∨ (¬ (tk i = 60 ∨ tk i = 61 ∨ tk i = 62) ∧ PX pl σ0 p.2 i l d c (P ++ π))) := by
  have hN := nN hc
  have iN := h.2.2.1.1
  obtain ⟨b1, b2, b3⟩ := bw
  have b1' := b1
  have b2' := b2
  rw [wtp_a] at b1'
  rw [List.length_append] at b2'
  have ck := cop_k (t := tk i)
  have go : ∀ r : Int, r = (if tk i = 60 ∨ tk i = 61 ∨ tk i = 62 then 1 else 0) → T (vX10_behindSum_224 (cop (tk i)) r σ) (fun p => ((tk i = 60 ∨ tk i = 61 ∨ tk i = 62) ∧ p.1 = 1 ∧ PS tk pl st N σ0 p.2 (i + 1) l d (sett c P) ((cop (tk i), 0) :: π)) ∨ (¬ (tk i = 60 ∨ tk i = 61 ∨ tk i = 62) ∧ PX pl σ0 p.2 i l d c (P ++ π))) := by
    intro r hr
    unfold vX10_behindSum_224
    by_cases q : tk i = 60 ∨ tk i = 61 ∨ tk i = 62
    · rw [if_pos q] at hr
      subst hr
      refine T_bind (ps_must1 hc hz h (tk_N hc iN (by omega))) (fun σ1 h1 => T_t h1.2.1.1.1 ?_)
      refine T_bind (ps_settle (least := 5) h1 (fun e r e1 => by have := hp e r e1; omega) (fun e he => ⟨(hb e he).1, fun q => by have := b3 e (List.mem_append_left _ he) q; omega⟩) (by omega) (by rw [List.length_append]; omega)) (fun σ2 h2 => ?_)
      exact T_bind (ps_push (a := 0) rfl h2 (by omega)) (fun σ3 h3 => T_some (Or.inl ⟨q, rfl, h3⟩))
    · rw [if_neg q] at hr
      subst hr
      refine T_bind (ps_must0 h) (fun σ1 h1 => T_f (by have := h1.2.1.1.1; omega) (T_some (Or.inr ⟨q, h1⟩)))
  have ie : inn (P ++ π) = inn π := inn_a _ _ (fun e he => (hb e he).2.2)
  have ce : cmpd (P ++ π) = 0 := by rw [cmpd_a _ _ (fun e he => ⟨(hb e he).2.1, by have := bnd_5 (hb e he).1 (hb e he).2.2; omega⟩), cmpd_h hp]
  have g163 : T (vX10_behindSum_163 σ) (fun p => ((tk i = 60 ∨ tk i = 61 ∨ tk i = 62) ∧ p.1 = 1 ∧ PS tk pl st N σ0 p.2 (i + 1) l d (sett c P) ((cop (tk i), 0) :: π)) ∨ (¬ (tk i = 60 ∨ tk i = 61 ∨ tk i = 62) ∧ PX pl σ0 p.2 i l d c (P ++ π))) := by
    unfold vX10_behindSum_163
    rw [ps_cmp h.2.1 (by omega), Option.bind_some, ce]
    refine T_t rfl ?_
    rw [ps_sign h.2.2.1 (c := 60) (by omega) (by unfold dg; omega), Option.bind_some]
    by_cases c1 : tk i = 60
    · rw [bI_t c1]
      refine T_f (by omega) ?_
      unfold vX10_behindSum_202 vX10_behindSum_219
      refine T_f (by omega) ?_
      rw [show (25 : Int) = cop (tk i) by omega]
      exact go 1 (by rw [if_pos (by omega)])
    · rw [bI_f c1]
      refine T_t rfl ?_
      rw [ps_sign h.2.2.1 (c := 62) (by omega) (by unfold dg; omega), Option.bind_some]
      by_cases c2 : tk i = 62
      · rw [bI_t c2]
        refine T_f (by omega) ?_
        unfold vX10_behindSum_202 vX10_behindSum_219
        refine T_f (by omega) ?_
        rw [show (26 : Int) = cop (tk i) by omega]
        exact go 1 (by rw [if_pos (by omega)])
      · rw [bI_f c2]
        refine T_t rfl ?_
        unfold vX10_behindSum_202 vX10_behindSum_219
        refine T_t rfl ?_
        rw [ps_sign h.2.2.1 (c := 61) (by omega) (by unfold dg; omega), Option.bind_some]
        have e27 : (27 : Int) = cop (tk i) := by omega
        by_cases c3 : tk i = 61
        · rw [bI_t c3]
          refine T_f (by omega) ?_
          rw [e27]
          exact go 1 (by rw [if_pos (by omega)])
        · rw [bI_f c3]
          refine T_t rfl ?_
          rw [e27]
          exact go 0 (by rw [if_neg (by omega)])
  rw [ps_bsum h.2.2.1, ht]
  unfold vX10_behindSum_71
  refine T_t rfl ?_
  rw [ps_inner h.2.1 (by omega), Option.bind_some, ie]
  refine T_f hct.1 (T_ite (fun q => T_f (hct.2 q) g163) (fun q => g163))
/-- behind the second one -/
theorem ps_cmp2 {N i l d : Nat} {tk : Nat → Int} {pl st : Nat → Nat} {σ0 σ : Sg} {test o : Int} {c : Cd} {P π : Pl} (h : PS tk pl st N σ0 σ i l d c (P ++ (o, 0) :: π)) (ht : aop (tk i) = -1) (hb : ∀ e ∈ P, 5 ≤ bnd e.1 ∧ 20 ≤ e.1 ∧ e.1 < 31) (ho : 25 ≤ o ∧ o ≤ 27) (hct : Ct test π) (hl : (P ++ (o, 0) :: π).length ≤ 400) : vX10_behindSum test σ = some (2, σ) := by
  have ie : inn (P ++ (o, 0) :: π) = inn π := by rw [inn_a _ _ (fun e he => (hb e he).2.2), inn, if_pos (by show o < 31; omega)]
  have ce : cmpd (P ++ (o, 0) :: π) = 1 := by rw [cmpd_a _ _ (fun e he => ⟨(hb e he).2.1, by have := bnd_5 (hb e he).1 (hb e he).2.2; omega⟩), cmpd, if_neg (by show ¬ (20 ≤ o ∧ o ≤ 24); omega), if_pos (by show 25 ≤ o ∧ o ≤ 27; omega)]
  have g163 : vX10_behindSum_163 σ = some (2, σ) := by
    unfold vX10_behindSum_163
    rw [ps_cmp h.2.1 hl, Option.bind_some, ce, if_neg (by omega)]
  rw [ps_bsum h.2.2.1, ht]
  unfold vX10_behindSum_71
  rw [if_pos rfl, ps_inner h.2.1 hl, Option.bind_some, ie, if_neg hct.1]
  by_cases q : inn π = -1
  · rw [if_pos q, if_neg (hct.2 q)]; exact g163
  · rw [if_neg q]; exact g163
def Cx4 (test v : Int) (π : Pl) : Prop := hdb v π ∧ Ct test π
theorem hdb_m {v v' : Int} {π : Pl} (h : hdb v π) (hv : v ≤ v') : hdb v' π := fun e r q => by have := h e r q; omega
theorem r_cmp {b : Nat → Int} {n N : Nat} {tk : Nat → Int} {pl st : Nat → Nat} {ord : Int} {σ0 : Sg} (hc : PC b n tk pl st N) (hz : PZ b n ord σ0) {test : Int} {i l d j l' j2 l2 : Nat} {E E2 : (Nat → Int) → Int} (hs : tk i ≠ 323 ∧ tk i ≠ 40) (h1 : ROk tk pl st N ord σ0 test (S1 tk i) 3 5 (hdb 5) i l d j l' E) (ht : aop (tk j) = -1) (hsg : tk j = 60 ∨ tk j = 61 ∨ tk j = 62) (h2 : ROk tk pl st N ord σ0 test (fun t => t = 1) 3 5 (hdb 5) (j + 1) l' d j2 l2 E2) (ht2 : aop (tk j2) = -1) (oE : EOk E) (oE2 : EOk E2) : ROk tk pl st N ord σ0 test (fun t => t = 0) 2 4 (Cx4 test 4) i l d j2 l2 (fun w => jn (cOf (cop (tk j))) (E w) (E2 w)) := by
  have hN := nN hc
  have i1 := h1.1
  have i2 := h2.1
  have ck := cop_k (t := tk j)
  refine ⟨by omega, fun σ c π t0 s p bw cx => ?_⟩
  obtain ⟨σ1, c1, P1, k1, g1, g2, g3, nw⟩ := h1.2 σ c π t0 (Or.inr ⟨s, hs⟩) p bw (hdb_m cx.1 (by omega))
  obtain ⟨t, σ2, r, g⟩ := gx_3 (test := test) g3.2.1.1.1 (ps_cmp1 hc hz g3 ht (fun e he => (nw.2.2.2.1 e he).1) cx.1 cx.2 nw.2.1)
  rcases r with ⟨-, r1, r2⟩ | ⟨r1, -⟩
  · dsimp only at r1 r2
    subst r1
    have na : ¬ (cop (tk j) = 29 ∨ cop (tk j) = 30) := by omega
    obtain ⟨σ3, c3, P3, k3, q1, q2, q3, mw⟩ := h2.2 σ2 (sett c1 P1) ((cop (tk j), 0) :: π) 1 rfl r2 (Bw_s (e := (cop (tk j), 0)) na nw.2.1 (sett_m P1 c1) (by omega)) (fun e r w => by injection w with w _; rw [← w]; show bnd (cop (tk j)) < 5; rw [bnd_c (by omega)]; omega)
    have b2 := mw.2.1.2.1
    have j2N := q3.2.2.1.1
    have g4 : Gxp test 3 σ3 2 σ3 1 := by
      obtain ⟨t, σ4, r, g⟩ := gx_3 (test := test) (R := fun p => p = (2, σ3)) q3.2.1.1.1 (T_eq (ps_cmp2 q3 ht2 (fun e he => (mw.2.2.2.1 e he).1) (by omega) cx.2 (by omega)) (T_some rfl))
      injection r with r1 r2
      subst r1
      subst r2
      exact g
    refine ⟨σ3, c3, P3 ++ [(cop (tk j), 0)], 1 + (k3 + (1 + k1)), Gxp_t (Gxp_t (Gxp_t g1 g) q1) g4, by omega, by rw [List.append_assoc]; exact q3, Nw_2 (Nw_m nw (by omega)) mw (bnd_c (by omega)) (by omega) (by omega) oE oE2⟩
  · exact absurd hsg r1
theorem r_cmpX1 {tk : Nat → Int} {pl st : Nat → Nat} {N : Nat} {σ0 : Sg} {test : Int} {i l d k : Nat} (hs : tk i ≠ 323 ∧ tk i ≠ 40) (h : RXx tk pl st N σ0 test (S1 tk i) (hdb 5) i l d k) : RXx tk pl st N σ0 test (fun t => t = 0) (Cx4 test 4) i l d k := RXx_m h (fun π q => hdb_m q.1 (by omega)) (fun t q => Or.inr ⟨q, hs⟩)
theorem r_cmpX2 {b : Nat → Int} {n N : Nat} {tk : Nat → Int} {pl st : Nat → Nat} {ord : Int} {σ0 : Sg} (hc : PC b n tk pl st N) (hz : PZ b n ord σ0) {test : Int} {i l d j l' k : Nat} {E : (Nat → Int) → Int} (hs : tk i ≠ 323 ∧ tk i ≠ 40) (h1 : ROk tk pl st N ord σ0 test (S1 tk i) 3 5 (hdb 5) i l d j l' E) (ht : aop (tk j) = -1) (h : (¬ (tk j = 60 ∨ tk j = 61 ∨ tk j = 62) ∧ k = j) ∨ ((tk j = 60 ∨ tk j = 61 ∨ tk j = 62) ∧ RXx tk pl st N σ0 test (fun t => t = 1) (hdb 5) (j + 1) l' d k)) : RXx tk pl st N σ0 test (fun t => t = 0) (Cx4 test 4) i l d k := by
  have hN := nN hc
  have i1 := h1.1
  have ck := cop_k (t := tk j)
  intro σ c π t0 s p bw cx
  obtain ⟨σ1, c1, P1, k1, g1, g2, g3, nw⟩ := h1.2 σ c π t0 (Or.inr ⟨s, hs⟩) p bw (hdb_m cx.1 (by omega))
  obtain ⟨t, σ2, r, g⟩ := gx_3 (test := test) g3.2.1.1.1 (ps_cmp1 hc hz g3 ht (fun e he => (nw.2.2.2.1 e he).1) cx.1 cx.2 nw.2.1)
  rcases r with ⟨r0, r1, r2⟩ | ⟨r0, r1⟩
  · rcases h with ⟨h1, -⟩ | ⟨-, h2⟩
    · exact absurd r0 h1
    · dsimp only at r1 r2
      subst r1
      have na : ¬ (cop (tk j) = 29 ∨ cop (tk j) = 30) := by omega
      obtain ⟨σ3, t3, q3, l3, d3, c3, P3, e1, e2, e3, e4⟩ := h2 σ2 (sett c1 P1) ((cop (tk j), 0) :: π) 1 rfl r2 (Bw_s (e := (cop (tk j), 0)) na nw.2.1 (sett_m P1 c1) (by omega)) (fun e r w => by injection w with w _; rw [← w]; show bnd (cop (tk j)) < 5; rw [bnd_c (by omega)]; omega)
      exact ⟨σ3, t3, q3 + (1 + k1), l3, d3, c3, P3, Gxp_t (Gxp_t g1 g) e1, by omega, e3, e4⟩
  · rcases h with ⟨-, h2⟩ | ⟨h1, -⟩
    · exact ⟨σ2, t, 1 + k1, l', d, c1, P1 ++ π, Gxp_t g1 g, by have := g3.2.2.1.1; omega, by rw [h2]; exact r1, Bw_X (N := N) nw.2.1 (by have := g3.2.2.1.1; omega)⟩
    · exact absurd h1 r0
