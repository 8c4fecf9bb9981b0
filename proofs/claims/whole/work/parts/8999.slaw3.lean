/-! ===== a law is taken ===== -/
theorem law_ok {K K28 K33 : Kt} {σ σ10 σ29 : Sg} {n r : Int} {m z k : Nat} (hI : Inv K σ n) (hp : vX4_reads K 1 σ = some (r, σ10)) (hr : r = 1) (cg : ∀ k, k < 63 ∨ 72 < k → σ10 k = σ k) (hk : σ 86 2 = (k : Int)) (hk6 : k < 6) (h66 : σ10 64 6 = (m : Int)) (h67 : σ10 64 7 = (z : Int)) (hm : m ≤ 12) (hz : z ≤ 400) (tc : TxtCp K (up2 σ10 61 1 0) m z K28 σ29) (rs : RefS K28 9 k (some K.2.2.1) K33) : RmL K K33 ∧ cLay K33 ∧ T (vX10_law (anC (k : Int) (up2 σ29 1 4 ((k : Int) + 1)))) (fun q => q.1 = (k : Int) ∧ Inv K33 q.2 (n + 1)) := by
  obtain ⟨⟨hK, ⟨hW, hH⟩, hL, hU, hDD, hT, hM, hC'⟩, hS⟩ := id hI
  have l115 := hK.1.2.2
  have w2 := hW.1.2.2.1
  obtain ⟨p1, p2, p3, p4, p5, p6, p7, p8, p9, p10, p11⟩ := tc
  obtain ⟨r1, r2, r3⟩ := rs
  have cl : K33.2.2.1 = K.2.2.1 + 7 := by rw [r1]; exact p1
  have sh : ∀ x, x < K.2.2.1 → K33.2.1 x = K.2.1 x := fun x hx => by rw [r1]; exact p5 x hx
  have rf : ∀ x j, x < K.2.2.1 → x ≠ 9 → K33.1 x j = K.1 x j := fun x j hx h9 => by rw [r3 x j (by omega)]; exact p6 x j hx
  have k9 := (lcA_9 hK.1.1).2
  have ex : Ext K K33 := ⟨by omega, sh, fun x j hx hl => rf x j hx (fun e => by rw [e, k9] at hl; omega)⟩
  have Cq : IsC K33 K.2.2.1 7 := ⟨by omega, by rw [r1]; exact p3⟩
  have rq : ∀ j, j < 6 → K33.1 K.2.2.1 j = some (K.2.2.1 + 1 + j) ∧ IsA K33 (K.2.2.1 + 1 + j) 20 (if j = 5 then z else m) := fun j hj => ⟨by rw [r3 _ _ (by omega)]; exact (p4 j hj).1, by omega, by rw [r1]; exact (p4 j hj).2⟩
  have Tq : TxtAt K33 K.2.2.1 := ⟨Cq, fun j hj => ⟨(rq j hj).1, by rw [(rq j hj).2.2], (rq j hj).2.1⟩⟩
  have e9 : ∀ i, i ≠ k → K33.1 9 i = K.1 9 i := fun i hi => by rw [r3 9 i (by omega)]; exact p6 9 i (by omega)
  obtain ⟨-, hs33⟩ := Shp_law hK (K' := K33) (by omega) sh rf (fun i q hi e => by
    by_cases w : i = k
    · subst w
      rw [r2] at e
      injection e with e
      rw [← e]
      exact ⟨Tq, l115⟩
    · rw [e9 i w] at e
      exact ⟨TxtAt_x (hK.2.1 i q hi e).1 ex, (hK.2.1 i q hi e).2⟩)
  refine ⟨?_, hs33.1.1, ?_⟩
  · have zz : ∀ b N, b < 115 → b ≠ 9 → nul K33 b N = nul K b N := fun b N hb h9 => nul_c N (fun i _ => rf b i (by omega) h9)
    have s3 : K33.2.2.2 = K.2.2.2 + 8 + 5 * m + z := by rw [r1]; exact p2
    unfold RmL rmC rmS
    rw [zz 28 16 (by omega) (by omega), zz 31 16 (by omega) (by omega), zz 81 2 (by omega) (by omega), s3, cl]
    omega
  generalize hf : up2 σ29 1 4 ((k : Int) + 1) = σ34
  obtain ⟨a1, a2, a3, a4⟩ := anC_k (v := (k : Int)) (σ := σ34)
  have g29 : ∀ x, x < K.2.2.1 → x ≠ 61 → x < 63 ∨ 72 < x → σ29 x = σ x := fun x hx h1 h2 => by rw [p7 x hx, up2_o h1, cg x h2]
  have g34 : ∀ x, x ≠ 1 → σ34 x = σ29 x := fun x hx => by rw [← hf, up2_o hx]
  obtain ⟨tk, pl, st, N, σC, σm, hN, b1, b2, b4, go⟩ := law_go (σf := anC (k : Int) σ34) hI.1 hp (fun x k1 k2 => by rw [a1 x (by omega) (by omega), g34 x (by omega), g29 x (by omega) (by omega) (by omega)]) (by omega)
  rcases Or.symm b4 with ⟨e, -⟩ | ⟨-, j, l, cd, L, σe, c, h1, h2, h3, h4, h5, h6⟩
  · dsimp only at e; omega
  have eL : L.length = m := by have := h1.2.2.2.1; dsimp only at this; omega
  have ez : cd.length = z := by have := h1.1.2.2.1; dsimp only at this; omega
  have f2 : ∀ x, x ≠ 84 → σm x = anC (k : Int) σ34 x := fun x hx => by rw [b2.1 x hx, up2_o hx]
  have f86 : σm 86 = σ 86 := by rw [f2 86 (by omega), a1 86 (by omega) (by omega), g34 86 (by omega), g29 86 (by omega) (by omega) (by omega)]
  refine go _ (h6 _ (T_mono (m_law64 (k := k) hN h2 h3 h4 h5 (by rw [f86]; exact hk) hk6) (fun q hq => ?_)))
  obtain ⟨q1, s, s1, q2, m1, m18, so, ⟨rn1, rn2, rn3⟩⟩ := hq
  refine ⟨q1, ?_⟩
  rw [q2]
  obtain ⟨d1, d2, d3, d4⟩ := anM_k (v := (k : Int)) (σ := s)
  have Y : ∀ x, x < K.2.2.1 + 7 → x ≠ 0 → x ≠ 83 → x ≠ 84 → x ≠ 86 → ¬ (94 ≤ x ∧ x ≤ 98) → x ≠ 113 → s x = σ34 x := fun x x0 x1 x2 x3 x4 x5 x6 => by
    rw [so x x4, m1.1 x x3 (by omega) x6, f2 x x3, a1 x x1 x2]
  have X : ∀ x, x < K.2.2.1 → x ≠ 0 → x ≠ 1 → x ≠ 61 → ¬ (63 ≤ x ∧ x ≤ 72) → ¬ (83 ≤ x ∧ x ≤ 86) → ¬ (94 ≤ x ∧ x ≤ 98) → x ≠ 113 → anM (k : Int) s x = σ x := fun x x0 x1 x2 x3 x4 x5 x6 x7 => by
    rw [d1 x (by omega) (by omega), Y x (by omega) x1 (by omega) (by omega) (by omega) x6 x7, g34 x x2, g29 x x0 x3 (by omega)]
  have XQ : ∀ x, K.2.2.1 ≤ x → x < K.2.2.1 + 7 → anM (k : Int) s x = σ29 x := fun x x0 x1 => by
    rw [d1 x (by omega) (by omega), Y x x1 (by omega) (by omega) (by omega) (by omega) (by omega) (by omega), g34 x (by omega)]
  have X84 : ∀ j, j ≠ 0 → j ≠ 1 → j < 13 ∨ 30 < j → anM (k : Int) s 84 j = σ 84 j := fun j j0 j1 j2 => by
    rw [d2 j j1, so 84 (by omega), m1.2.1 j (by omega), b2.2 j (by omega), up2_c, upw_n j0, a1 84 (by omega) (by omega), g34 84 (by omega), g29 84 (by omega) (by omega) (by omega)]
  have X0 : ∀ j, j ≠ 14 → anM (k : Int) s 0 j = σ 0 j := fun j hj => by
    rw [d1 0 (by omega) (by omega), so 0 (by omega), m1.1 0 (by omega) (by omega) (by omega), f2 0 (by omega), a2 j hj, g34 0 (by omega), g29 0 (by omega) (by omega) (by omega)]
  have s61 : anM (k : Int) s 61 1 = 0 := by
    rw [d1 61 (by omega) (by omega), Y 61 (by omega) (by omega) (by omega) (by omega) (by omega) (by omega) (by omega), g34 61 (by omega), p7 61 (by omega), up2_c, upw_s]
  have s63 : anM (k : Int) s 63 2 = -1 := by
    rw [d1 63 (by omega) (by omega), Y 63 (by omega) (by omega) (by omega) (by omega) (by omega) (by omega) (by omega), g34 63 (by omega), p7 63 (by omega), up2_o (by omega)]
    exact h1.1.2.1.2.2.2
  have s1' : anM (k : Int) s 1 = upw (σ 1) 4 ((k : Int) + 1) := by
    rw [d1 1 (by omega) (by omega), Y 1 (by omega) (by omega) (by omega) (by omega) (by omega) (by omega) (by omega), ← hf, up2_c, g29 1 (by omega) (by omega) (by omega)]
  have e86 : anM (k : Int) s 86 = s 86 := d1 86 (by omega) (by omega)
  refine ⟨?_, ?_⟩
  · refine InvX_L hI.1 ex hs33 rf X (fun j hj => X84 j (by omega) (by omega) (by omega)) (fun i i0 i1 => by rw [e86, rn1 i i0 (by omega), f86]) (by rw [e86, rn2]; omega) ?_ ?_
    · obtain ⟨⟨t1, t2, t3⟩, t4, t5, t6, t7, t8⟩ := hT
      have m13 : anM (k : Int) s 84 13 = 0 := by rw [d2 13 (by omega), so 84 (by omega)]; exact m1.2.2.1
      refine ⟨⟨by rw [s61, m13], by omega, by omega⟩, fun i hi => ?_, ?_, ?_, ?_, ?_⟩
      · rw [X 62 (by omega) (by omega) (by omega) (by omega) (by omega) (by omega) (by omega) (by omega), X 93 (by omega) (by omega) (by omega) (by omega) (by omega) (by omega) (by omega) (by omega)]; exact t4 i hi
      · rw [s63, d2 18 (by omega), so 84 (by omega), m18]
      · rw [X0 12 (by omega), X84 11 (by omega) (by omega) (by omega)]; exact t6
      · rw [X0 13 (by omega), X84 52 (by omega) (by omega) (by omega)]; exact t7
      · rw [d2 20 (by omega), so 84 (by omega)]; exact m1.2.2.2
    · rw [e86]
      refine ⟨by rw [s1', upw_s, rn2], by rw [s1', upw_n (by omega), rn1 3 (by omega) (by omega), f86]; exact hL.1.2.1, fun i hi => ?_⟩
      rw [rn2] at hi
      by_cases w : i = k
      · subst w
        refine ⟨K.2.2.1, r2, L.length, kdL L, tsL L, fsL L, ?_, rn3⟩
        refine CLaw_L (n := 0) (z := 0) hs33.1.1 h1 h4 (by omega) Cq l115 (fun j hj => by rw [eL, ez]; exact rq j hj) (by rw [XQ _ (Nat.le_refl _) (by omega), p8, eL]) (by rw [XQ _ (Nat.le_refl _) (by omega), p9, ez]) (fun j i hj hi => ?_) (fun i hi => ?_)
        · rw [XQ _ (by omega) (by omega), p10 j i hj (by omega), up2_o (by omega)]
        · rw [XQ _ (by omega) (by omega), p11 i (by omega), up2_o (by omega)]
      · obtain ⟨q, e, n', kd, ts, fs, x, y⟩ := hL.1.2.2 i (by omega)
        have ht := hK.2.1 i q (by omega) e
        have tl := tx_lt ht.1
        refine ⟨q, by rw [e9 i w]; exact e, n', kd, ts, fs, CLaw_a (CLaw_x hK.1.1 ht.1 ex x) ⟨?_, fun j t hj e' => ?_⟩, MLaw_r y (by omega) (fun x x1 x2 => by rw [rn1 x (by omega) (by omega), f86])⟩
        · exact X q (by omega) (by omega) (by omega) (by omega) (by omega) (by omega) (by omega) (by omega)
        · rw [rf q j (by omega) (by omega), (ht.1.2 j hj).1] at e'
          injection e' with e'
          rw [← e']
          exact X _ (by omega) (by omega) (by omega) (by omega) (by omega) (by omega) (by omega) (by omega)
  · refine InvS_t (v := (k : Int)) hS ⟨by omega, ?_, d3, ?_, ?_⟩
    · rw [d1 0 (by omega) (by omega), so 0 (by omega), m1.1 0 (by omega) (by omega) (by omega), f2 0 (by omega), a3]
    · rw [d1 83 (by omega) (by omega), so 83 (by omega), m1.1 83 (by omega) (by omega) (by omega), f2 83 (by omega), a4, g34 83 (by omega), g29 83 (by omega) (by omega) (by omega)]
    · rw [d4, Y 85 (by omega) (by omega) (by omega) (by omega) (by omega) (by omega) (by omega), g34 85 (by omega), g29 85 (by omega) (by omega) (by omega)]
theorem s_law {K : Kt} {σ : Sg} {n : Int} (hI : Inv K σ n) (hn : n ≤ 600) : StK K n (vX9_law K σ) vX10_law := by
  obtain ⟨⟨hK, ⟨hW, hH⟩, hL, hU, hDD, hT, hM, hC'⟩, hS⟩ := id hI
  have c1 := hK.1.1
  have l115 := hK.1.2.2
  have w2 := hW.1.2.2.1
  have hl : σ 1 4 = σ 86 2 := hL.1.1
  unfold vX9_law StK
  rw [lcR_0_0 c1, Option.bind_some]
  refine T_ckP (lcO_0 c1) (T_ckP (lcO_1 c1) (T_ite (fun h6 => ?_) (fun h6 => ?_)))
  · obtain ⟨k, hk⟩ : ∃ k : Nat, σ 86 2 = (k : Int) := ⟨(σ 86 2).toNat, by omega⟩
    rw [lcR_0_7 c1, Option.bind_some]
    obtain ⟨⟨r, σ10⟩, hp, cg, hr⟩ := law_cls hI.1
    dsimp only at cg hr
    rw [hp, bd2_some, lcR_0_6 c1, Option.bind_some]
    refine T_ckP (lcO_0 c1) (T_ckP ⟨c1, rfl⟩ (T_ckP (lcO_63 c1) (T_ckP (lcO_0 c1) (T_ckP (lcO_61 c1) (T_nm ?_)))))
    rcases hr with ⟨hr, m, z, h66, hm, h67, hz⟩ | hr
    · refine T_f (by omega) (T_ckP (lcO_0 c1) ?_)
      rw [Option.bind_some, Option.bind_some, lcR_63_1 c1, Option.bind_some]
      refine T_ckP (lcO_0 c1) (T_ckP (lcO_63 c1) (T_ckP (lcO_64 c1) ?_))
      refine T_bdQK (c_copied (σ := up2 σ10 61 1 0) c1 l115 (by rw [up2_o (by omega)]; exact h66) (by rw [up2_o (by omega)]; exact h67) hm hz) (fun r27 K28 σ29 h28 => ?_)
      obtain ⟨e27, tc⟩ := h28
      dsimp only at e27 tc
      rw [e27, Option.bind_some]
      have p1 := tc.1
      have p5 := tc.2.2.2.2.1
      have p6 := tc.2.2.2.2.2.1
      have p7 := tc.2.2.2.2.2.2.1
      have O1 : IsC K28 1 3 := ⟨by omega, by rw [p5 1 (by omega)]; exact (lcO_1 c1).2⟩
      refine T_ckP O1 (T_bdIK (c_lawAdd (k := k) O1 (by rw [p6 1 1 (by omega)]; exact lcR_1_1 c1) ⟨by omega, by rw [p5 9 (by omega)]; exact (lcA_9 c1).2⟩ ⟨by omega, tc.2.2.1⟩ (by rw [p7 1 (by omega), up2_o (by omega), cg 1 (by omega)]; omega) (by omega)) (fun r32 K33 σ34 h33 => ?_))
      obtain ⟨e32, rs, e34⟩ := h33
      dsimp only at e32 rs e34
      obtain ⟨y1, y2, y3⟩ := law_ok (n := n) hI hp hr cg hk (by omega) h66 h67 hm hz tc rs
      refine T_ckP y2 (T_ckP (lcO_0 y2) ?_)
      rw [e32, e34, c_grant (by omega), bd2_some]
      exact T_some ⟨y1, y3⟩
    · have iv := InvR_v hS hn (v := -6) (by omega) (by omega)
      refine T_t hr (T_ckP c1 (T_ckP (lcO_0 c1) ?_))
      rw [c_refuse (by omega) (by rw [up2_o (by omega), cg 83 (by omega)]; exact iv.1), bd2_some]
      exact T_some ⟨RmL_r Rm_r, law_bad hI hn hp hr cg (by omega)⟩
  · have iv := InvR_v hS hn (v := -5) (by omega) (by omega)
    rw [lcR_0_6 c1, Option.bind_some]
    refine T_ckP (lcO_0 c1) (T_ckP (lcO_61 c1) (T_nm (T_ckP c1 (T_ckP (lcO_0 c1) ?_))))
    rw [c_refuse (by omega) (by rw [up2_o (by omega)]; exact iv.1), bd2_some]
    exact T_some ⟨RmL_r Rm_r, law_full hI hn (by omega)⟩
