noncomputable def vX10_whole_83 (rec_72 : Int → Int → Int → Int → Sg → Option (Int × Sg)) : Nat → Int → Int → Int → Int → Int → Sg → Option (Int × Sg)
  | 0, _, _, _, _, _, _ => none
  | f + 1, x1, x2, x3, x4, x5, σ => if x5 < 0 then (ck (in32 (x4 + 1)) (rec_72 x1 x2 x3 (x4 + 1) σ)) else (ck (0 ≤ x5 ∧ x5 < 21) (nm (σ 111 x5.toNat) (fun z2 => ck (in32 (10 - x3)) (ck (in64 (z2 * (10 - x3))) (ck (¬ (10 : Int) = 0 ∧ in64 (Int.tdiv (z2 * (10 - x3)) 10)) (ck (0 ≤ x5 ∧ x5 < 21) (nm (up2 σ 111 x5.toNat (Int.tdiv (z2 * (10 - x3)) 10)) (fun σ3 => ck (in32 (x5 + 1)) (ck (0 ≤ (x5 + 1) ∧ (x5 + 1) < 21) (ck (in64 (z2 * x3)) (ck (¬ (10 : Int) = 0 ∧ in64 (Int.tdiv (z2 * x3) 10)) (ck (in64 ((σ3 111 (x5 + 1).toNat) + (Int.tdiv (z2 * x3) 10))) (ck (0 ≤ (x5 + 1) ∧ (x5 + 1) < 21) (nm (up2 σ3 111 (x5 + 1).toNat ((σ3 111 (x5 + 1).toNat) + (Int.tdiv (z2 * x3) 10))) (fun σ4 => ck (in32 (x5 + (-1))) (vX10_whole_83 rec_72 f x1 x2 x3 x4 (x5 + (-1)) σ4))))))))))))))))
set_option maxRecDepth 100000 in
theorem tX10_whole_83 {Γ : Gx} {K : Kt} (hM : mLay K)  (rec_72 : Int → Int → Int → Int → Sg → Option (Int × Sg)) (hrec_72 : ∀ (x1 x2 x3 x4 : Int) (σ : Sg), Y Γ MX10_whole K (emLS K) K 72 [some (aR 84), some (aI x1), some (aI x2), some (aI x3), some (aI x4), none, none, none] [] σ (rec_72 x1 x2 x3 x4 σ)) : ∀ (f : Nat) (x1 x2 x3 x4 x5 : Int) (σ : Sg), Y Γ MX10_whole K (emLS K) K 83 [some (aR 84), some (aI x1), some (aI x2), some (aI x3), some (aI x4), some (aI x5), none, none] [] σ (vX10_whole_83 rec_72 f x1 x2 x3 x4 x5 σ) := by
  intro f
  induction f with
  | zero => intro x1 x2 x3 x4 x5 σ; exact y_none
  | succ f ih =>
    intro x1 x2 x3 x4 x5 σ
    rw [vX10_whole_83]
    refine y_iload dX10_whole_83 rfl ?_
    refine y_ite (fun h1 => ?_) (fun h1 => ?_)
    · refine y_if_lt_t dX10_whole_85 (t := 143) rfl h1 ?_
      refine yk_iinc dX10_whole_143 rfl (L' := [some (aR 84), some (aI x1), some (aI x2), some (aI x3), some (aI (x4 + 1)), some (aI x5), none, none]) rfl ?_
      refine y_goto dX10_whole_146 (t := 72) rfl ?_
      refine y_fg [true, true, true, true, true, false, false, false] (L' := [some (aR 84), some (aI x1), some (aI x2), some (aI x3), some (aI (x4 + 1)), none, none, none]) rfl ?_
      exact hrec_72 x1 x2 x3 (x4 + 1) σ
    · refine y_if_lt_f dX10_whole_85 (t := 143) rfl h1 ?_
      refine y_aload_n dX10_whole_88 rfl rfl ?_
      refine y_getR fX10_128 hM.1 rfl (lM_47 hM).1 dX10_whole_89 ?_
      refine y_iload dX10_whole_92 rfl ?_
      refine yk_laload (lM_47 hM).2 (N := 21) rfl (j := x5.toNat) rfl dX10_whole_94 ?_
      refine yn_lstore dX10_whole_95 (Nat.le_of_ble_eq_true rfl) (L' := fun z2 => [some (aR 84), some (aI x1), some (aI x2), some (aI x3), some (aI x4), some (aI x5), some (aL z2), none]) (fun _ => rfl) (fun z2 => ?_)
      refine y_aload_n dX10_whole_97 rfl rfl ?_
      refine y_getR fX10_128 hM.1 rfl (lM_47 hM).1 dX10_whole_98 ?_
      refine y_iload dX10_whole_101 rfl ?_
      refine y_lload dX10_whole_103 rfl ?_
      refine y_bipush dX10_whole_105 (by decide) (by decide) ?_
      refine y_iload_n dX10_whole_107 rfl rfl ?_
      refine yk_isub dX10_whole_108 ?_
      refine y_i2l dX10_whole_109 ?_
      refine yk_lmul dX10_whole_110 ?_
      refine y_ldc2 10 wX10_c206 dX10_whole_111 (by decide) (by decide) ?_
      refine yk_ldiv dX10_whole_114 ?_
      refine yk_lastore (lM_47 hM).2 (N := 21) rfl (j := x5.toNat) rfl dX10_whole_115 (fun σ3 => ?_)
      refine y_aload_n dX10_whole_116 rfl rfl ?_
      refine y_getR fX10_128 hM.1 rfl (lM_47 hM).1 dX10_whole_117 ?_
      refine y_iload dX10_whole_120 rfl ?_
      refine y_iconst dX10_whole_122 (by decide) ?_
      refine yk_iadd dX10_whole_123 ?_
      refine y_dup2 dX10_whole_124 (fun _ => rfl) (fun _ => rfl) ?_
      refine yk_laload (lM_47 hM).2 (N := 21) rfl (j := (x5 + 1).toNat) rfl dX10_whole_125 ?_
      refine y_lload dX10_whole_126 rfl ?_
      refine y_iload_n dX10_whole_128 rfl rfl ?_
      refine y_i2l dX10_whole_129 ?_
      refine yk_lmul dX10_whole_130 ?_
      refine y_ldc2 10 wX10_c206 dX10_whole_131 (by decide) (by decide) ?_
      refine yk_ldiv dX10_whole_134 ?_
      refine yk_ladd dX10_whole_135 ?_
      refine yk_lastore (lM_47 hM).2 (N := 21) rfl (j := (x5 + 1).toNat) rfl dX10_whole_136 (fun σ4 => ?_)
      refine yk_iinc dX10_whole_137 rfl (L' := [some (aR 84), some (aI x1), some (aI x2), some (aI x3), some (aI x4), some (aI (x5 + (-1))), some (aL z2), none]) rfl ?_
      refine y_goto dX10_whole_140 (t := 83) rfl ?_
      refine y_fg [true, true, true, true, true, true, false, false] (L' := [some (aR 84), some (aI x1), some (aI x2), some (aI x3), some (aI x4), some (aI (x5 + (-1))), none, none]) rfl ?_
      exact ih x1 x2 x3 x4 (x5 + (-1)) σ4
noncomputable def vX10_whole_155 : Nat → Int → Int → Int → Sg → Option (Int × Sg)
  | 0, _, _, _, _ => none
  | f + 1, x1, x4, x6, σ => if x6 < x1 then (ck (0 ≤ x6 ∧ x6 < 21) (ck (in64 (x4 + (σ 111 x6.toNat))) (nm (x4 + (σ 111 x6.toNat)) (fun z2 => ck (in32 (x6 + 1)) (vX10_whole_155 f x1 z2 (x6 + 1) σ))))) else (some (x4, σ))
set_option maxRecDepth 100000 in
theorem tX10_whole_155 {Γ : Gx} {K : Kt} (hM : mLay K)  : ∀ (f : Nat) (x1 x4 x6 : Int) (σ : Sg), Y Γ MX10_whole K (emLS K) K 155 [some (aR 84), some (aI x1), none, none, some (aL x4), none, some (aI x6), none] [] σ (vX10_whole_155 f x1 x4 x6 σ) := by
  intro f
  induction f with
  | zero => intro x1 x4 x6 σ; exact y_none
  | succ f ih =>
    intro x1 x4 x6 σ
    rw [vX10_whole_155]
    refine y_iload dX10_whole_155 rfl ?_
    refine y_iload_n dX10_whole_157 rfl rfl ?_
    refine y_ite (fun h1 => ?_) (fun h1 => ?_)
    · refine y_icmp_ge_f dX10_whole_158 (t := 179) rfl h1 ?_
      refine y_lload dX10_whole_161 rfl ?_
      refine y_aload_n dX10_whole_163 rfl rfl ?_
      refine y_getR fX10_128 hM.1 rfl (lM_47 hM).1 dX10_whole_164 ?_
      refine y_iload dX10_whole_167 rfl ?_
      refine yk_laload (lM_47 hM).2 (N := 21) rfl (j := x6.toNat) rfl dX10_whole_169 ?_
      refine yk_ladd dX10_whole_170 ?_
      refine yn_lstore dX10_whole_171 (Nat.le_of_ble_eq_true rfl) (L' := fun z2 => [some (aR 84), some (aI x1), none, none, some (aL z2), none, some (aI x6), none]) (fun _ => rfl) (fun z2 => ?_)
      refine yk_iinc dX10_whole_173 rfl (L' := [some (aR 84), some (aI x1), none, none, some (aL z2), none, some (aI (x6 + 1)), none]) rfl ?_
      refine y_goto dX10_whole_176 (t := 155) rfl ?_
      exact ih x1 z2 (x6 + 1) σ
    · refine y_icmp_ge_t dX10_whole_158 (t := 179) rfl h1 ?_
      refine y_lload dX10_whole_179 rfl ?_
      exact y_lret rfl rfl dX10_whole_181
noncomputable def vX10_whole_72 : Nat → Int → Int → Int → Int → Sg → Option (Int × Sg)
  | 0, _, _, _, _, _ => none
  | f + 1, x1, x2, x3, x4, σ => if x4 < x2 then (ck (in32 (x1 - 1)) (nm (x1 - 1) (fun z2 => vX10_whole_83 (vX10_whole_72 f) FU x1 x2 x3 x4 z2 σ))) else (vX10_whole_155 FU x1 0 0 σ)
set_option maxRecDepth 100000 in
theorem tX10_whole_72 {Γ : Gx} {K : Kt} (hM : mLay K)  : ∀ (f : Nat) (x1 x2 x3 x4 : Int) (σ : Sg), Y Γ MX10_whole K (emLS K) K 72 [some (aR 84), some (aI x1), some (aI x2), some (aI x3), some (aI x4), none, none, none] [] σ (vX10_whole_72 f x1 x2 x3 x4 σ) := by
  intro f
  induction f with
  | zero => intro x1 x2 x3 x4 σ; exact y_none
  | succ f ih =>
    intro x1 x2 x3 x4 σ
    rw [vX10_whole_72]
    refine y_iload dX10_whole_72 rfl ?_
    refine y_iload_n dX10_whole_74 rfl rfl ?_
    refine y_ite (fun h1 => ?_) (fun h1 => ?_)
    · refine y_icmp_ge_f dX10_whole_75 (t := 149) rfl h1 ?_
      refine y_iload_n dX10_whole_78 rfl rfl ?_
      refine y_iconst dX10_whole_79 (by decide) ?_
      refine yk_isub dX10_whole_80 ?_
      refine yn_istore dX10_whole_81 (Nat.le_of_ble_eq_true rfl) (L' := fun z2 => [some (aR 84), some (aI x1), some (aI x2), some (aI x3), some (aI x4), some (aI z2), none, none]) (fun _ => rfl) (fun z2 => ?_)
      exact tX10_whole_83 hM (vX10_whole_72 f) ih FU x1 x2 x3 x4 z2 σ
    · refine y_icmp_ge_t dX10_whole_75 (t := 149) rfl h1 ?_
      refine y_lconst 0 dX10_whole_149 (by decide) (by decide) ?_
      refine y_lstore dX10_whole_150 (Nat.le_of_ble_eq_true rfl) (L' := [some (aR 84), some (aI x1), some (aI x2), some (aI x3), some (aL 0), none, none, none]) rfl ?_
      refine y_iconst dX10_whole_152 (by decide) ?_
      refine y_istore dX10_whole_153 (Nat.le_of_ble_eq_true rfl) (L' := [some (aR 84), some (aI x1), some (aI x2), some (aI x3), some (aL 0), none, some (aI 0), none]) rfl ?_
      refine y_fg [true, true, false, false, true, false, true, false] (L' := [some (aR 84), some (aI x1), none, none, some (aL 0), none, some (aI 0), none]) rfl ?_
      exact tX10_whole_155 hM FU x1 0 0 σ
noncomputable def vX10_whole_35 : Nat → Int → Int → Int → Sg → Option (Int × Sg)
  | 0, _, _, _, _ => none
  | f + 1, x1, x2, x3, σ => if x3 < 21 then (ck (0 ≤ x3 ∧ x3 < 21) (nm (up2 σ 111 x3.toNat 0) (fun σ2 => ck (in32 (x3 + 1)) (vX10_whole_35 f x1 x2 (x3 + 1) σ2)))) else (nm (up2 σ 111 0 1000000000000) (fun σ3 => (vX10_term 2 σ3).bind (fun r4 => vX10_whole_72 FU x1 x2 r4 0 σ3)))
set_option maxRecDepth 100000 in
theorem tX10_whole_35 {Γ : Gx} {K : Kt} (hM : mLay K)  : ∀ (f : Nat) (x1 x2 x3 : Int) (σ : Sg), Y Γ MX10_whole K (emLS K) K 35 [some (aR 84), some (aI x1), some (aI x2), some (aI x3), none, none, none, none] [] σ (vX10_whole_35 f x1 x2 x3 σ) := by
  intro f
  induction f with
  | zero => intro x1 x2 x3 σ; exact y_none
  | succ f ih =>
    intro x1 x2 x3 σ
    rw [vX10_whole_35]
    refine y_iload_n dX10_whole_35 rfl rfl ?_
    refine y_bipush dX10_whole_36 (by decide) (by decide) ?_
    refine y_ite (fun h1 => ?_) (fun h1 => ?_)
    · refine y_icmp_ge_f dX10_whole_38 (t := 54) rfl h1 ?_
      refine y_aload_n dX10_whole_41 rfl rfl ?_
      refine y_getR fX10_128 hM.1 rfl (lM_47 hM).1 dX10_whole_42 ?_
      refine y_iload_n dX10_whole_45 rfl rfl ?_
      refine y_lconst 0 dX10_whole_46 (by decide) (by decide) ?_
      refine yk_lastore (lM_47 hM).2 (N := 21) rfl (j := x3.toNat) rfl dX10_whole_47 (fun σ2 => ?_)
      refine yk_iinc dX10_whole_48 rfl (L' := [some (aR 84), some (aI x1), some (aI x2), some (aI (x3 + 1)), none, none, none, none]) rfl ?_
      refine y_goto dX10_whole_51 (t := 35) rfl ?_
      exact ih x1 x2 (x3 + 1) σ2
    · refine y_icmp_ge_t dX10_whole_38 (t := 54) rfl h1 ?_
      refine y_aload_n dX10_whole_54 rfl rfl ?_
      refine y_getR fX10_128 hM.1 rfl (lM_47 hM).1 dX10_whole_55 ?_
      refine y_iconst dX10_whole_58 (by decide) ?_
      refine y_ldc2 1000000000000 wX10_c511 dX10_whole_59 (by decide) (by decide) ?_
      refine yl_lastore (lM_47 hM).2 (by decide) (j := 0) rfl dX10_whole_62 (fun σ3 => ?_)
      refine y_aload_n dX10_whole_63 rfl rfl ?_
      refine y_iconst dX10_whole_64 (by decide) ?_
      refine y_cvI (qX10_term hM 2 σ3) kX10_398 rfl hM.1 rfl (by decide) rfl (Nat.le_of_ble_eq_true rfl) dX10_whole_65 (fun r4 => ?_)
      refine y_istore_n dX10_whole_68 rfl (Nat.le_of_ble_eq_true rfl) (L' := [some (aR 84), some (aI x1), some (aI x2), some (aI r4), none, none, none, none]) rfl ?_
      refine y_iconst dX10_whole_69 (by decide) ?_
      refine y_istore dX10_whole_70 (Nat.le_of_ble_eq_true rfl) (L' := [some (aR 84), some (aI x1), some (aI x2), some (aI r4), some (aI 0), none, none, none]) rfl ?_
      exact tX10_whole_72 hM FU x1 x2 r4 0 σ3
noncomputable def vX10_whole (p1 : Int) (p2 : Int) (σ : Sg) : Option (Int × Sg) := nm (up2 σ 84 0 0) (fun σ1 => (vX10_in p1 1 20 σ1).bind (fun r2 => if r2 = 0 then (some ((-1), σ1)) else ((vX10_in p2 0 99 σ1).bind (fun r4 => if r4 = 0 then (some ((-1), σ1)) else (vX10_whole_35 FU p1 p2 0 σ1)))))
set_option maxRecDepth 100000 in
theorem tX10_whole {Γ : Gx} {K : Kt} (hM : mLay K) (p1 : Int) (p2 : Int) (σ : Sg) : Y Γ MX10_whole K (emLS K) K 0 [some (aR 84), some (aI p1), some (aI p2), none, none, none, none, none] [] σ (vX10_whole p1 p2 σ) := by
  unfold vX10_whole
  refine y_aload_n dX10_whole_0 rfl rfl ?_
  refine y_iconst dX10_whole_1 (by decide) ?_
  refine yn_putI fX10_157 hM.1 rfl rfl dX10_whole_2 (fun σ1 => ?_)
  refine y_iload_n dX10_whole_5 rfl rfl ?_
  refine y_i2l dX10_whole_6 ?_
  refine y_lconst 1 dX10_whole_7 (by decide) (by decide) ?_
  refine y_ldc2 20 wX10_c204 dX10_whole_8 (by decide) (by decide) ?_
  refine y_csI (qX10_in (K := K) p1 1 20 σ1) kX10_177 rfl (by decide) rfl (Nat.le_of_ble_eq_true rfl) dX10_whole_11 (fun r2 => ?_)
  refine y_ite (fun h3 => ?_) (fun h3 => ?_)
  · refine y_if_eq_t dX10_whole_14 (t := 29) rfl h3 ?_
    refine y_ldc2 (-1) wX10_c251 dX10_whole_29 (by decide) (by decide) ?_
    exact y_lret rfl rfl dX10_whole_32
  · refine y_if_eq_f dX10_whole_14 (t := 29) rfl h3 ?_
    refine y_iload_n dX10_whole_17 rfl rfl ?_
    refine y_i2l dX10_whole_18 ?_
    refine y_lconst 0 dX10_whole_19 (by decide) (by decide) ?_
    refine y_ldc2 99 wX10_c509 dX10_whole_20 (by decide) (by decide) ?_
    refine y_csI (qX10_in (K := K) p2 0 99 σ1) kX10_177 rfl (by decide) rfl (Nat.le_of_ble_eq_true rfl) dX10_whole_23 (fun r4 => ?_)
    refine y_ite (fun h5 => ?_) (fun h5 => ?_)
    · refine y_if_ne_f dX10_whole_26 (t := 33) rfl h5 ?_
      refine y_ldc2 (-1) wX10_c251 dX10_whole_29 (by decide) (by decide) ?_
      exact y_lret rfl rfl dX10_whole_32
    · refine y_if_ne_t dX10_whole_26 (t := 33) rfl h5 ?_
      refine y_iconst dX10_whole_33 (by decide) ?_
      refine y_istore_n dX10_whole_34 rfl (Nat.le_of_ble_eq_true rfl) (L' := [some (aR 84), some (aI p1), some (aI p2), some (aI 0), none, none, none, none]) rfl ?_
      exact tX10_whole_35 hM FU p1 p2 0 σ1
theorem qX10_whole {K : Kt} (hM : mLay K) (p1 : Int) (p2 : Int) (σ : Sg) : Cc MX10_whole K [aR 84, aI p1, aI p2] σ (emLS K) (vX10_whole p1 p2 σ) := cc_of plX10 (Nat.le_of_ble_eq_true rfl) (fun o _ => ⟨Nat.le_refl _, Nat.le_refl _⟩) (fun Γ => tX10_whole hM p1 p2 σ)
noncomputable def vX10_readSum_22 (x1 : Int) (σ : Sg) : Option (Sg) := ck (in32 (x1 + 1)) (ck (0 ≤ (x1 + 1) ∧ (x1 + 1) < 96) (nm (up2 σ 113 (x1 + 1).toNat (σ 84 23)) (fun σ1 => some σ1)))
set_option maxRecDepth 100000 in
theorem tX10_readSum_22 {Γ : Gx} {K : Kt} (hM : mLay K)  (x1 : Int) (σ : Sg) : Y Γ MX10_readSum K (emV K) K 22 [some (aR 84), some (aI x1)] [] σ (vX10_readSum_22 x1 σ) := by
  unfold vX10_readSum_22
  refine y_aload_n dX10_readSum_22 rfl rfl ?_
  refine y_getR fX10_142 hM.1 rfl (lM_49 hM).1 dX10_readSum_23 ?_
  refine y_iload_n dX10_readSum_26 rfl rfl ?_
  refine y_iconst dX10_readSum_27 (by decide) ?_
  refine yk_iadd dX10_readSum_28 ?_
  refine y_aload_n dX10_readSum_29 rfl rfl ?_
  refine y_getI fX10_261 hM.1 rfl dX10_readSum_30 ?_
  refine yk_iastore (lM_49 hM).2 (N := 96) rfl (j := (x1 + 1).toNat) rfl dX10_readSum_33 (fun σ1 => ?_)
  exact y_vret rfl rfl dX10_readSum_34
noncomputable def vX10_readSum (p1 : Int) (σ : Sg) : Option (Sg) := ck (0 ≤ p1 ∧ p1 < 96) (nm (up2 σ 113 p1.toNat (σ 84 23)) (fun σ1 => if (σ1 84 19) = 0 then ((vX10_readExpression 0 σ1).bind (fun σ3 => vX10_readSum_22 p1 σ3)) else (vX10_readSum_22 p1 σ1)))
set_option maxRecDepth 100000 in
theorem tX10_readSum {Γ : Gx} {K : Kt} (hM : mLay K) (p1 : Int) (σ : Sg) : Y Γ MX10_readSum K (emV K) K 0 [some (aR 84), some (aI p1)] [] σ (vX10_readSum p1 σ) := by
  unfold vX10_readSum
  refine y_aload_n dX10_readSum_0 rfl rfl ?_
  refine y_getR fX10_142 hM.1 rfl (lM_49 hM).1 dX10_readSum_1 ?_
  refine y_iload_n dX10_readSum_4 rfl rfl ?_
  refine y_aload_n dX10_readSum_5 rfl rfl ?_
  refine y_getI fX10_261 hM.1 rfl dX10_readSum_6 ?_
  refine yk_iastore (lM_49 hM).2 (N := 96) rfl (j := p1.toNat) rfl dX10_readSum_9 (fun σ1 => ?_)
  refine y_aload_n dX10_readSum_10 rfl rfl ?_
  refine y_getI fX10_224 hM.1 rfl dX10_readSum_11 ?_
  refine y_ite (fun h2 => ?_) (fun h2 => ?_)
  · refine y_if_ne_f dX10_readSum_14 (t := 22) rfl h2 ?_
    refine y_aload_n dX10_readSum_17 rfl rfl ?_
    refine y_iconst dX10_readSum_18 (by decide) ?_
    refine y_cvV (qX10_readExpression hM 0 σ1) kX10_358 rfl hM.1 rfl (by decide) rfl (Nat.le_of_ble_eq_true rfl) dX10_readSum_19 (fun σ3 => ?_)
    exact tX10_readSum_22 hM p1 σ3
  · refine y_if_ne_t dX10_readSum_14 (t := 22) rfl h2 ?_
    exact tX10_readSum_22 hM p1 σ1
theorem qX10_readSum {K : Kt} (hM : mLay K) (p1 : Int) (σ : Sg) : Cc MX10_readSum K [aR 84, aI p1] σ (emV K) (vX10_readSum p1 σ) := cc_of plX10 (Nat.le_of_ble_eq_true rfl) (fun o _ => ⟨Nat.le_refl _, Nat.le_refl _⟩) (fun Γ => tX10_readSum hM p1 σ)
noncomputable def vX10_readOrder_255 (x2 : Int) (σ : Sg) : Option (Sg) := ck (in32 (x2 + 6)) (ck (0 ≤ (x2 + 6) ∧ (x2 + 6) < 96) (nm (up2 σ 113 (x2 + 6).toNat (σ 84 23)) (fun σ1 => some σ1)))
set_option maxRecDepth 100000 in
theorem tX10_readOrder_255 {Γ : Gx} {K : Kt} (hM : mLay K)  (x2 : Int) (σ : Sg) : Y Γ MX10_readOrder K (emV K) K 255 [some (aR 84), none, some (aI x2), none] [] σ (vX10_readOrder_255 x2 σ) := by
  unfold vX10_readOrder_255
  refine y_aload_n dX10_readOrder_255 rfl rfl ?_
  refine y_getR fX10_142 hM.1 rfl (lM_49 hM).1 dX10_readOrder_256 ?_
  refine y_iload_n dX10_readOrder_259 rfl rfl ?_
  refine y_bipush dX10_readOrder_260 (by decide) (by decide) ?_
  refine yk_iadd dX10_readOrder_262 ?_
  refine y_aload_n dX10_readOrder_263 rfl rfl ?_
  refine y_getI fX10_261 hM.1 rfl dX10_readOrder_264 ?_
  refine yk_iastore (lM_49 hM).2 (N := 96) rfl (j := (x2 + 6).toNat) rfl dX10_readOrder_267 (fun σ1 => ?_)
  exact y_vret rfl rfl dX10_readOrder_268
noncomputable def vX10_readOrder_217 (x2 : Int) (σ : Sg) : Option (Sg) := ck (in32 (x2 + 5)) (ck (0 ≤ (x2 + 5) ∧ (x2 + 5) < 96) (nm (up2 σ 113 (x2 + 5).toNat (σ 84 23)) (fun σ1 => if (σ1 84 19) = 0 then ((vX10_isWord 294 σ1).bind (fun r3 => if r3 = 0 then (vX10_readOrder_255 x2 σ1) else ((vX10_next σ1).bind (fun σ5 => (vX10_readExpression 1 σ5).bind (fun σ6 => vX10_readOrder_255 x2 σ6))))) else (vX10_readOrder_255 x2 σ1))))
set_option maxRecDepth 100000 in
theorem tX10_readOrder_217 {Γ : Gx} {K : Kt} (hM : mLay K)  (x2 : Int) (σ : Sg) : Y Γ MX10_readOrder K (emV K) K 217 [some (aR 84), none, some (aI x2), none] [] σ (vX10_readOrder_217 x2 σ) := by
  unfold vX10_readOrder_217
  refine y_aload_n dX10_readOrder_217 rfl rfl ?_
  refine y_getR fX10_142 hM.1 rfl (lM_49 hM).1 dX10_readOrder_218 ?_
  refine y_iload_n dX10_readOrder_221 rfl rfl ?_
  refine y_iconst dX10_readOrder_222 (by decide) ?_
  refine yk_iadd dX10_readOrder_223 ?_
  refine y_aload_n dX10_readOrder_224 rfl rfl ?_
  refine y_getI fX10_261 hM.1 rfl dX10_readOrder_225 ?_
  refine yk_iastore (lM_49 hM).2 (N := 96) rfl (j := (x2 + 5).toNat) rfl dX10_readOrder_228 (fun σ1 => ?_)
  refine y_aload_n dX10_readOrder_229 rfl rfl ?_
  refine y_getI fX10_224 hM.1 rfl dX10_readOrder_230 ?_
  refine y_ite (fun h2 => ?_) (fun h2 => ?_)
  · refine y_if_ne_f dX10_readOrder_233 (t := 255) rfl h2 ?_
    refine y_aload_n dX10_readOrder_236 rfl rfl ?_
    refine y_ldc2 294 wX10_c361 dX10_readOrder_237 (by decide) (by decide) ?_
    refine y_cvI (qX10_isWord hM 294 σ1) kX10_280 rfl hM.1 rfl (by decide) rfl (Nat.le_of_ble_eq_true rfl) dX10_readOrder_240 (fun r3 => ?_)
    refine y_ite (fun h4 => ?_) (fun h4 => ?_)
    · refine y_if_eq_t dX10_readOrder_243 (t := 255) rfl h4 ?_
      exact tX10_readOrder_255 hM x2 σ1
    · refine y_if_eq_f dX10_readOrder_243 (t := 255) rfl h4 ?_
      refine y_aload_n dX10_readOrder_246 rfl rfl ?_
      refine y_cvV (qX10_next hM σ1) kX10_228 rfl hM.1 rfl (by decide) rfl (Nat.le_of_ble_eq_true rfl) dX10_readOrder_247 (fun σ5 => ?_)
      refine y_aload_n dX10_readOrder_250 rfl rfl ?_
      refine y_iconst dX10_readOrder_251 (by decide) ?_
      refine y_cvV (qX10_readExpression hM 1 σ5) kX10_358 rfl hM.1 rfl (by decide) rfl (Nat.le_of_ble_eq_true rfl) dX10_readOrder_252 (fun σ6 => ?_)
      exact tX10_readOrder_255 hM x2 σ6
  · refine y_if_ne_t dX10_readOrder_233 (t := 255) rfl h2 ?_
    exact tX10_readOrder_255 hM x2 σ1
noncomputable def vX10_readOrder_169 (x2 : Int) (σ : Sg) : Option (Sg) := ck (in32 (x2 + 7)) (ck (0 ≤ (x2 + 7) ∧ (x2 + 7) < 96) (nm (up2 σ 113 (x2 + 7).toNat 1) (fun σ1 => if (σ1 84 19) = 0 then ((vX10_isWord 21279923 σ1).bind (fun r3 => if r3 = 0 then (vX10_readOrder_217 x2 σ1) else ((vX10_next σ1).bind (fun σ5 => ck (in32 (x2 + 7)) (bd2 (vX10_number 1 20 σ5) (fun r6 σ7 => ck (0 ≤ (x2 + 7) ∧ (x2 + 7) < 96) (nm (up2 σ7 113 (x2 + 7).toNat r6) (fun σ8 => vX10_readOrder_217 x2 σ8)))))))) else (vX10_readOrder_217 x2 σ1))))
set_option maxRecDepth 100000 in
theorem tX10_readOrder_169 {Γ : Gx} {K : Kt} (hM : mLay K)  (x2 : Int) (σ : Sg) : Y Γ MX10_readOrder K (emV K) K 169 [some (aR 84), none, some (aI x2), none] [] σ (vX10_readOrder_169 x2 σ) := by
  unfold vX10_readOrder_169
  refine y_aload_n dX10_readOrder_169 rfl rfl ?_
  refine y_getR fX10_142 hM.1 rfl (lM_49 hM).1 dX10_readOrder_170 ?_
  refine y_iload_n dX10_readOrder_173 rfl rfl ?_
  refine y_bipush dX10_readOrder_174 (by decide) (by decide) ?_
  refine yk_iadd dX10_readOrder_176 ?_
  refine y_iconst dX10_readOrder_177 (by decide) ?_
  refine yk_iastore (lM_49 hM).2 (N := 96) rfl (j := (x2 + 7).toNat) rfl dX10_readOrder_178 (fun σ1 => ?_)
  refine y_aload_n dX10_readOrder_179 rfl rfl ?_
  refine y_getI fX10_224 hM.1 rfl dX10_readOrder_180 ?_
  refine y_ite (fun h2 => ?_) (fun h2 => ?_)
  · refine y_if_ne_f dX10_readOrder_183 (t := 217) rfl h2 ?_
    refine y_aload_n dX10_readOrder_186 rfl rfl ?_
    refine y_ldc2 21279923 wX10_c520 dX10_readOrder_187 (by decide) (by decide) ?_
    refine y_cvI (qX10_isWord hM 21279923 σ1) kX10_280 rfl hM.1 rfl (by decide) rfl (Nat.le_of_ble_eq_true rfl) dX10_readOrder_190 (fun r3 => ?_)
    refine y_ite (fun h4 => ?_) (fun h4 => ?_)
    · refine y_if_eq_t dX10_readOrder_193 (t := 217) rfl h4 ?_
      exact tX10_readOrder_217 hM x2 σ1
    · refine y_if_eq_f dX10_readOrder_193 (t := 217) rfl h4 ?_
      refine y_aload_n dX10_readOrder_196 rfl rfl ?_
      refine y_cvV (qX10_next hM σ1) kX10_228 rfl hM.1 rfl (by decide) rfl (Nat.le_of_ble_eq_true rfl) dX10_readOrder_197 (fun σ5 => ?_)
      refine y_aload_n dX10_readOrder_200 rfl rfl ?_
      refine y_getR fX10_142 hM.1 rfl (lM_49 hM).1 dX10_readOrder_201 ?_
      refine y_iload_n dX10_readOrder_204 rfl rfl ?_
      refine y_bipush dX10_readOrder_205 (by decide) (by decide) ?_
      refine yk_iadd dX10_readOrder_207 ?_
      refine y_aload_n dX10_readOrder_208 rfl rfl ?_
      refine y_lconst 1 dX10_readOrder_209 (by decide) (by decide) ?_
      refine y_ldc2 20 wX10_c204 dX10_readOrder_210 (by decide) (by decide) ?_
      refine y_cvIS (qX10_number hM 1 20 σ5) kX10_319 rfl hM.1 rfl (by decide) rfl (Nat.le_of_ble_eq_true rfl) dX10_readOrder_213 (fun r6 σ7 => ?_)
      refine yk_iastore (lM_49 hM).2 (N := 96) rfl (j := (x2 + 7).toNat) rfl dX10_readOrder_216 (fun σ8 => ?_)
      exact tX10_readOrder_217 hM x2 σ8
  · refine y_if_ne_t dX10_readOrder_183 (t := 217) rfl h2 ?_
    exact tX10_readOrder_217 hM x2 σ1
noncomputable def vX10_readOrder_162 (x2 : Int) (σ : Sg) : Option (Sg) := ck (in32 (x2 + 3)) ((vX10_readSum (x2 + 3) σ).bind (fun σ1 => vX10_readOrder_169 x2 σ1))
set_option maxRecDepth 100000 in
theorem tX10_readOrder_162 {Γ : Gx} {K : Kt} (hM : mLay K)  (x2 : Int) (σ : Sg) : Y Γ MX10_readOrder K (emV K) K 162 [some (aR 84), none, some (aI x2), none] [] σ (vX10_readOrder_162 x2 σ) := by
  unfold vX10_readOrder_162
  refine y_aload_n dX10_readOrder_162 rfl rfl ?_
  refine y_iload_n dX10_readOrder_163 rfl rfl ?_
  refine y_iconst dX10_readOrder_164 (by decide) ?_
  refine yk_iadd dX10_readOrder_165 ?_
  refine y_cvV (qX10_readSum hM (x2 + 3) σ) kX10_513 rfl hM.1 rfl (by decide) rfl (Nat.le_of_ble_eq_true rfl) dX10_readOrder_166 (fun σ1 => ?_)
  exact tX10_readOrder_169 hM x2 σ1
noncomputable def vX10_readOrder_156 (x2 y2 : Int) (σ : Sg) : Option (Sg) := (vX10_isWord y2 σ).bind (fun r1 => (vX10_must r1 σ).bind (fun σ2 => vX10_readOrder_162 x2 σ2))
set_option maxRecDepth 100000 in
theorem tX10_readOrder_156 {Γ : Gx} {K : Kt} (hM : mLay K)  (x2 y2 : Int) (σ : Sg) : Y Γ MX10_readOrder K (emV K) K 156 [some (aR 84), none, some (aI x2), none] [aL y2, aR 84, aR 84] σ (vX10_readOrder_156 x2 y2 σ) := by
  unfold vX10_readOrder_156
  refine y_cvI (qX10_isWord hM y2 σ) kX10_280 rfl hM.1 rfl (by decide) rfl (Nat.le_of_ble_eq_true rfl) dX10_readOrder_156 (fun r1 => ?_)
  refine y_cvV (qX10_must hM r1 σ) kX10_257 rfl hM.1 rfl (by decide) rfl (Nat.le_of_ble_eq_true rfl) dX10_readOrder_159 (fun σ2 => ?_)
  exact tX10_readOrder_162 hM x2 σ2
noncomputable def vX10_readOrder_134 (x1 x2 : Int) (σ : Sg) : Option (Sg) := if (σ 84 19) = 0 then (if x1 = 0 then (vX10_readOrder_156 x2 655 σ) else (vX10_readOrder_156 x2 6642 σ)) else (vX10_readOrder_162 x2 σ)
set_option maxRecDepth 100000 in
theorem tX10_readOrder_134 {Γ : Gx} {K : Kt} (hM : mLay K)  (x1 x2 : Int) (σ : Sg) : Y Γ MX10_readOrder K (emV K) K 134 [some (aR 84), some (aI x1), some (aI x2), none] [] σ (vX10_readOrder_134 x1 x2 σ) := by
  unfold vX10_readOrder_134
  refine y_aload_n dX10_readOrder_134 rfl rfl ?_
  refine y_getI fX10_224 hM.1 rfl dX10_readOrder_135 ?_
  refine y_ite (fun h1 => ?_) (fun h1 => ?_)
  · refine y_if_ne_f dX10_readOrder_138 (t := 162) rfl h1 ?_
    refine y_aload_n dX10_readOrder_141 rfl rfl ?_
    refine y_aload_n dX10_readOrder_142 rfl rfl ?_
    refine y_iload_n dX10_readOrder_143 rfl rfl ?_
    refine y_ite (fun h2 => ?_) (fun h2 => ?_)
    · refine y_if_ne_f dX10_readOrder_144 (t := 153) rfl h2 ?_
      refine y_ldc2 655 wX10_c516 dX10_readOrder_147 (by decide) (by decide) ?_
      refine y_goto dX10_readOrder_150 (t := 156) rfl ?_
      refine y_fg [true, false, true, false] (L' := [some (aR 84), none, some (aI x2), none]) rfl ?_
      exact tX10_readOrder_156 hM x2 655 σ
    · refine y_if_ne_t dX10_readOrder_144 (t := 153) rfl h2 ?_
      refine y_ldc2 6642 wX10_c518 dX10_readOrder_153 (by decide) (by decide) ?_
      refine y_fg [true, false, true, false] (L' := [some (aR 84), none, some (aI x2), none]) rfl ?_
      exact tX10_readOrder_156 hM x2 6642 σ
  · refine y_if_ne_t dX10_readOrder_138 (t := 162) rfl h1 ?_
    refine y_fg [true, false, true, false] (L' := [some (aR 84), none, some (aI x2), none]) rfl ?_
    exact tX10_readOrder_162 hM x2 σ
noncomputable def vX10_readOrder_125 (x1 x2 : Int) (σ : Sg) : Option (Sg) := if x1 = 0 then (vX10_readOrder_134 x1 x2 σ) else (if x1 = 2 then (vX10_readOrder_134 x1 x2 σ) else (vX10_readOrder_169 x2 σ))
set_option maxRecDepth 100000 in
theorem tX10_readOrder_125 {Γ : Gx} {K : Kt} (hM : mLay K)  (x1 x2 : Int) (σ : Sg) : Y Γ MX10_readOrder K (emV K) K 125 [some (aR 84), some (aI x1), some (aI x2), none] [] σ (vX10_readOrder_125 x1 x2 σ) := by
  unfold vX10_readOrder_125
  refine y_iload_n dX10_readOrder_125 rfl rfl ?_
  refine y_ite (fun h1 => ?_) (fun h1 => ?_)
  · refine y_if_eq_t dX10_readOrder_126 (t := 134) rfl h1 ?_
    exact tX10_readOrder_134 hM x1 x2 σ
  · refine y_if_eq_f dX10_readOrder_126 (t := 134) rfl h1 ?_
    refine y_iload_n dX10_readOrder_129 rfl rfl ?_
    refine y_iconst dX10_readOrder_130 (by decide) ?_
    refine y_ite (fun h2 => ?_) (fun h2 => ?_)
    · refine y_icmp_ne_f dX10_readOrder_131 (t := 169) rfl h2 ?_
      exact tX10_readOrder_134 hM x1 x2 σ
    · refine y_icmp_ne_t dX10_readOrder_131 (t := 169) rfl h2 ?_
      refine y_fg [true, false, true, false] (L' := [some (aR 84), none, some (aI x2), none]) rfl ?_
      exact tX10_readOrder_169 hM x2 σ
noncomputable def vX10_readOrder_85 : Nat → Int → Int → Int → Sg → Option (Sg)
  | 0, _, _, _, _ => none
  | f + 1, x1, x2, x3, σ => if x3 < 8 then (ck (in32 (x2 + x3)) (ck (0 ≤ (x2 + x3) ∧ (x2 + x3) < 96) (nm (up2 σ 113 (x2 + x3).toNat 0) (fun σ2 => ck (in32 (x3 + 1)) (vX10_readOrder_85 f x1 x2 (x3 + 1) σ2))))) else (ck (0 ≤ x2 ∧ x2 < 96) (nm (up2 σ 113 x2.toNat x1) (fun σ3 => if x1 = 3 then (vX10_readOrder_125 x1 x2 σ3) else (ck (in32 (x2 + 1)) ((vX10_readSum (x2 + 1) σ3).bind (fun σ5 => vX10_readOrder_125 x1 x2 σ5))))))
set_option maxRecDepth 100000 in
theorem tX10_readOrder_85 {Γ : Gx} {K : Kt} (hM : mLay K)  : ∀ (f : Nat) (x1 x2 x3 : Int) (σ : Sg), Y Γ MX10_readOrder K (emV K) K 85 [some (aR 84), some (aI x1), some (aI x2), some (aI x3)] [] σ (vX10_readOrder_85 f x1 x2 x3 σ) := by
  intro f
  induction f with
  | zero => intro x1 x2 x3 σ; exact y_none
  | succ f ih =>
    intro x1 x2 x3 σ
    rw [vX10_readOrder_85]
    refine y_iload_n dX10_readOrder_85 rfl rfl ?_
    refine y_bipush dX10_readOrder_86 (by decide) (by decide) ?_
    refine y_ite (fun h1 => ?_) (fun h1 => ?_)
    · refine y_icmp_ge_f dX10_readOrder_88 (t := 106) rfl h1 ?_
      refine y_aload_n dX10_readOrder_91 rfl rfl ?_
      refine y_getR fX10_142 hM.1 rfl (lM_49 hM).1 dX10_readOrder_92 ?_
      refine y_iload_n dX10_readOrder_95 rfl rfl ?_
      refine y_iload_n dX10_readOrder_96 rfl rfl ?_
      refine yk_iadd dX10_readOrder_97 ?_
      refine y_iconst dX10_readOrder_98 (by decide) ?_
      refine yk_iastore (lM_49 hM).2 (N := 96) rfl (j := (x2 + x3).toNat) rfl dX10_readOrder_99 (fun σ2 => ?_)
      refine yk_iinc dX10_readOrder_100 rfl (L' := [some (aR 84), some (aI x1), some (aI x2), some (aI (x3 + 1))]) rfl ?_
      refine y_goto dX10_readOrder_103 (t := 85) rfl ?_
      exact ih x1 x2 (x3 + 1) σ2
    · refine y_icmp_ge_t dX10_readOrder_88 (t := 106) rfl h1 ?_
      refine y_aload_n dX10_readOrder_106 rfl rfl ?_
      refine y_getR fX10_142 hM.1 rfl (lM_49 hM).1 dX10_readOrder_107 ?_
      refine y_iload_n dX10_readOrder_110 rfl rfl ?_
      refine y_iload_n dX10_readOrder_111 rfl rfl ?_
      refine yk_iastore (lM_49 hM).2 (N := 96) rfl (j := x2.toNat) rfl dX10_readOrder_112 (fun σ3 => ?_)
      refine y_iload_n dX10_readOrder_113 rfl rfl ?_
      refine y_iconst dX10_readOrder_114 (by decide) ?_
      refine y_ite (fun h4 => ?_) (fun h4 => ?_)
      · refine y_icmp_eq_t dX10_readOrder_115 (t := 125) rfl h4 ?_
        refine y_fg [true, true, true, false] (L' := [some (aR 84), some (aI x1), some (aI x2), none]) rfl ?_
        exact tX10_readOrder_125 hM x1 x2 σ3
      · refine y_icmp_eq_f dX10_readOrder_115 (t := 125) rfl h4 ?_
        refine y_aload_n dX10_readOrder_118 rfl rfl ?_
        refine y_iload_n dX10_readOrder_119 rfl rfl ?_
        refine y_iconst dX10_readOrder_120 (by decide) ?_
        refine yk_iadd dX10_readOrder_121 ?_
        refine y_cvV (qX10_readSum hM (x2 + 1) σ3) kX10_513 rfl hM.1 rfl (by decide) rfl (Nat.le_of_ble_eq_true rfl) dX10_readOrder_122 (fun σ5 => ?_)
        refine y_fg [true, true, true, false] (L' := [some (aR 84), some (aI x1), some (aI x2), none]) rfl ?_
        exact tX10_readOrder_125 hM x1 x2 σ5
noncomputable def vX10_readOrder_54 (x1 y1 : Int) (σ : Sg) : Option (Sg) := (vX10_must y1 σ).bind (fun σ1 => if (σ1 84 19) = 0 then (ck (in32 (8 * (σ1 84 21))) (nm (8 * (σ1 84 21)) (fun z3 => ck (in32 ((σ1 84 21) + 1)) (nm (up2 σ1 84 21 ((σ1 84 21) + 1)) (fun σ4 => vX10_readOrder_85 FU x1 z3 0 σ4))))) else (some σ1))
set_option maxRecDepth 100000 in
theorem tX10_readOrder_54 {Γ : Gx} {K : Kt} (hM : mLay K)  (x1 y1 : Int) (σ : Sg) : Y Γ MX10_readOrder K (emV K) K 54 [some (aR 84), some (aI x1), none, none] [aI y1, aR 84] σ (vX10_readOrder_54 x1 y1 σ) := by
  unfold vX10_readOrder_54
  refine y_cvV (qX10_must hM y1 σ) kX10_257 rfl hM.1 rfl (by decide) rfl (Nat.le_of_ble_eq_true rfl) dX10_readOrder_54 (fun σ1 => ?_)
  refine y_aload_n dX10_readOrder_57 rfl rfl ?_
  refine y_getI fX10_224 hM.1 rfl dX10_readOrder_58 ?_
  refine y_ite (fun h2 => ?_) (fun h2 => ?_)
  · refine y_if_eq_t dX10_readOrder_61 (t := 65) rfl h2 ?_
    refine y_bipush dX10_readOrder_65 (by decide) (by decide) ?_
    refine y_aload_n dX10_readOrder_67 rfl rfl ?_
    refine y_getI fX10_355 hM.1 rfl dX10_readOrder_68 ?_
    refine yk_imul dX10_readOrder_71 ?_
    refine yn_istore_n dX10_readOrder_72 rfl (Nat.le_of_ble_eq_true rfl) (L' := fun z3 => [some (aR 84), some (aI x1), some (aI z3), none]) (fun _ => rfl) (fun z3 => ?_)
    refine y_aload_n dX10_readOrder_73 rfl rfl ?_
    refine y_dup dX10_readOrder_74 (fun _ => rfl) ?_
    refine y_getI fX10_355 hM.1 rfl dX10_readOrder_75 ?_
    refine y_iconst dX10_readOrder_78 (by decide) ?_
    refine yk_iadd dX10_readOrder_79 ?_
    refine yn_putI fX10_355 hM.1 rfl rfl dX10_readOrder_80 (fun σ4 => ?_)
    refine y_iconst dX10_readOrder_83 (by decide) ?_
    refine y_istore_n dX10_readOrder_84 rfl (Nat.le_of_ble_eq_true rfl) (L' := [some (aR 84), some (aI x1), some (aI z3), some (aI 0)]) rfl ?_
    exact tX10_readOrder_85 hM FU x1 z3 0 σ4
  · refine y_if_eq_f dX10_readOrder_61 (t := 65) rfl h2 ?_
    exact y_vret rfl rfl dX10_readOrder_64
noncomputable def vX10_readOrder_53 (x1 : Int) (σ : Sg) : Option (Sg) := vX10_readOrder_54 x1 0 σ
set_option maxRecDepth 100000 in
theorem tX10_readOrder_53 {Γ : Gx} {K : Kt} (hM : mLay K)  (x1 : Int) (σ : Sg) : Y Γ MX10_readOrder K (emV K) K 53 [some (aR 84), some (aI x1), none, none] [aR 84] σ (vX10_readOrder_53 x1 σ) := by
  unfold vX10_readOrder_53
  refine y_iconst dX10_readOrder_53 (by decide) ?_
  exact tX10_readOrder_54 hM x1 0 σ
noncomputable def vX10_readOrder_4 : Nat → Int → Int → Sg → Option (Sg)
  | 0, _, _, _ => none
  | f + 1, x1, x2, σ => if x2 < 4 then (ck (0 ≤ x2 ∧ x2 < 4) ((vX10_isWord (σ 112 x2.toNat) σ).bind (fun r2 => if r2 = 0 then (ck (in32 (x2 + 1)) (vX10_readOrder_4 f x1 (x2 + 1) σ)) else (ck (in32 (x2 + 1)) (vX10_readOrder_4 f x2 (x2 + 1) σ))))) else (if x1 = (-1) then (vX10_readOrder_53 x1 σ) else (if (σ 84 21) < 12 then (vX10_readOrder_54 x1 1 σ) else (vX10_readOrder_53 x1 σ)))
set_option maxRecDepth 100000 in
theorem tX10_readOrder_4 {Γ : Gx} {K : Kt} (hM : mLay K)  : ∀ (f : Nat) (x1 x2 : Int) (σ : Sg), Y Γ MX10_readOrder K (emV K) K 4 [some (aR 84), some (aI x1), some (aI x2), none] [] σ (vX10_readOrder_4 f x1 x2 σ) := by
  intro f
  induction f with
  | zero => intro x1 x2 σ; exact y_none
  | succ f ih =>
    intro x1 x2 σ
    rw [vX10_readOrder_4]
    refine y_iload_n dX10_readOrder_4 rfl rfl ?_
    refine y_iconst dX10_readOrder_5 (by decide) ?_
    refine y_ite (fun h1 => ?_) (fun h1 => ?_)
    · refine y_icmp_ge_f dX10_readOrder_6 (t := 34) rfl h1 ?_
      refine y_aload_n dX10_readOrder_9 rfl rfl ?_
      refine y_aload_n dX10_readOrder_10 rfl rfl ?_
      refine y_getR fX10_139 hM.1 rfl (lM_48 hM).1 dX10_readOrder_11 ?_
      refine y_iload_n dX10_readOrder_14 rfl rfl ?_
      refine yk_laload (lM_48 hM).2 (N := 4) rfl (j := x2.toNat) rfl dX10_readOrder_15 ?_
      refine y_cvI (qX10_isWord hM (σ 112 x2.toNat) σ) kX10_280 rfl hM.1 rfl (by decide) rfl (Nat.le_of_ble_eq_true rfl) dX10_readOrder_16 (fun r2 => ?_)
      refine y_ite (fun h3 => ?_) (fun h3 => ?_)
      · refine y_if_eq_t dX10_readOrder_19 (t := 26) rfl h3 ?_
        refine y_iload_n dX10_readOrder_26 rfl rfl ?_
        refine y_istore_n dX10_readOrder_27 rfl (Nat.le_of_ble_eq_true rfl) (L' := [some (aR 84), some (aI x1), some (aI x2), none]) rfl ?_
        refine yk_iinc dX10_readOrder_28 rfl (L' := [some (aR 84), some (aI x1), some (aI (x2 + 1)), none]) rfl ?_
        refine y_goto dX10_readOrder_31 (t := 4) rfl ?_
        exact ih x1 (x2 + 1) σ
      · refine y_if_eq_f dX10_readOrder_19 (t := 26) rfl h3 ?_
        refine y_iload_n dX10_readOrder_22 rfl rfl ?_
        refine y_goto dX10_readOrder_23 (t := 27) rfl ?_
        refine y_istore_n dX10_readOrder_27 rfl (Nat.le_of_ble_eq_true rfl) (L' := [some (aR 84), some (aI x2), some (aI x2), none]) rfl ?_
        refine yk_iinc dX10_readOrder_28 rfl (L' := [some (aR 84), some (aI x2), some (aI (x2 + 1)), none]) rfl ?_
        refine y_goto dX10_readOrder_31 (t := 4) rfl ?_
        exact ih x2 (x2 + 1) σ
    · refine y_icmp_ge_t dX10_readOrder_6 (t := 34) rfl h1 ?_
      refine y_aload_n dX10_readOrder_34 rfl rfl ?_
      refine y_iload_n dX10_readOrder_35 rfl rfl ?_
      refine y_iconst dX10_readOrder_36 (by decide) ?_
      refine y_ite (fun h4 => ?_) (fun h4 => ?_)
      · refine y_icmp_eq_t dX10_readOrder_37 (t := 53) rfl h4 ?_
        refine y_fg [true, true, false, false] (L' := [some (aR 84), some (aI x1), none, none]) rfl ?_
        exact tX10_readOrder_53 hM x1 σ
      · refine y_icmp_eq_f dX10_readOrder_37 (t := 53) rfl h4 ?_
        refine y_aload_n dX10_readOrder_40 rfl rfl ?_
        refine y_getI fX10_355 hM.1 rfl dX10_readOrder_41 ?_
        refine y_bipush dX10_readOrder_44 (by decide) (by decide) ?_
        refine y_ite (fun h5 => ?_) (fun h5 => ?_)
        · refine y_icmp_ge_f dX10_readOrder_46 (t := 53) rfl h5 ?_
          refine y_iconst dX10_readOrder_49 (by decide) ?_
          refine y_goto dX10_readOrder_50 (t := 54) rfl ?_
          refine y_fg [true, true, false, false] (L' := [some (aR 84), some (aI x1), none, none]) rfl ?_
          exact tX10_readOrder_54 hM x1 1 σ
        · refine y_icmp_ge_t dX10_readOrder_46 (t := 53) rfl h5 ?_
          refine y_fg [true, true, false, false] (L' := [some (aR 84), some (aI x1), none, none]) rfl ?_
          exact tX10_readOrder_53 hM x1 σ
noncomputable def vX10_readOrder (σ : Sg) : Option (Sg) := vX10_readOrder_4 FU (-1) 0 σ
set_option maxRecDepth 100000 in
theorem tX10_readOrder {Γ : Gx} {K : Kt} (hM : mLay K) (σ : Sg) : Y Γ MX10_readOrder K (emV K) K 0 [some (aR 84), none, none, none] [] σ (vX10_readOrder σ) := by
  unfold vX10_readOrder
  refine y_iconst dX10_readOrder_0 (by decide) ?_
  refine y_istore_n dX10_readOrder_1 rfl (Nat.le_of_ble_eq_true rfl) (L' := [some (aR 84), some (aI (-1)), none, none]) rfl ?_
  refine y_iconst dX10_readOrder_2 (by decide) ?_
  refine y_istore_n dX10_readOrder_3 rfl (Nat.le_of_ble_eq_true rfl) (L' := [some (aR 84), some (aI (-1)), some (aI 0), none]) rfl ?_
  exact tX10_readOrder_4 hM FU (-1) 0 σ
theorem qX10_readOrder {K : Kt} (hM : mLay K) (σ : Sg) : Cc MX10_readOrder K [aR 84] σ (emV K) (vX10_readOrder σ) := cc_of plX10 (Nat.le_of_ble_eq_true rfl) (fun o _ => ⟨Nat.le_refl _, Nat.le_refl _⟩) (fun Γ => tX10_readOrder hM σ)
noncomputable def vX10_sumOf (p1 : Int) (σ : Sg) : Option (Int × Sg) := if (σ 84 53) = 0 then (ck (0 ≤ p1 ∧ p1 < 96) (ck (in32 (p1 + 1)) (ck (0 ≤ (p1 + 1) ∧ (p1 + 1) < 96) (if (σ 113 p1.toNat) = (σ 113 (p1 + 1).toNat) then (some ((-1), σ)) else (nm (up2 σ 84 20 1) (fun σ3 => ck (0 ≤ p1 ∧ p1 < 96) (ck (in32 (p1 + 1)) (ck (0 ≤ (p1 + 1) ∧ (p1 + 1) < 96) ((vX10_reckonAll (σ3 113 p1.toNat) (σ3 113 (p1 + 1).toNat) σ3).bind (fun σ4 => nm (up2 σ4 84 20 0) (fun σ5 => ck ((σ5 84 38) = 0 ∨ (σ5 84 38) = 1) (nm (up2 σ5 84 53 (σ5 84 38)) (fun σ6 => some ((w32 (σ6 84 39)), σ6)))))))))))))) else (some ((-1), σ))
set_option maxRecDepth 100000 in
theorem tX10_sumOf {Γ : Gx} {K : Kt} (hM : mLay K) (p1 : Int) (σ : Sg) : Y Γ MX10_sumOf K (emIS K) K 0 [some (aR 84), some (aI p1)] [] σ (vX10_sumOf p1 σ) := by
  unfold vX10_sumOf
  refine y_aload_n dX10_sumOf_0 rfl rfl ?_
  refine y_getI fX10_522 hM.1 rfl dX10_sumOf_1 ?_
  refine y_ite (fun h1 => ?_) (fun h1 => ?_)
  · refine y_if_ne_f dX10_sumOf_4 (t := 24) rfl h1 ?_
    refine y_aload_n dX10_sumOf_7 rfl rfl ?_
    refine y_getR fX10_142 hM.1 rfl (lM_49 hM).1 dX10_sumOf_8 ?_
    refine y_iload_n dX10_sumOf_11 rfl rfl ?_
    refine yk_iaload (lM_49 hM).2 (N := 96) rfl (j := p1.toNat) rfl dX10_sumOf_12 ?_
    refine y_aload_n dX10_sumOf_13 rfl rfl ?_
    refine y_getR fX10_142 hM.1 rfl (lM_49 hM).1 dX10_sumOf_14 ?_
    refine y_iload_n dX10_sumOf_17 rfl rfl ?_
    refine y_iconst dX10_sumOf_18 (by decide) ?_
    refine yk_iadd dX10_sumOf_19 ?_
    refine yk_iaload (lM_49 hM).2 (N := 96) rfl (j := (p1 + 1).toNat) rfl dX10_sumOf_20 ?_
    refine y_ite (fun h2 => ?_) (fun h2 => ?_)
    · refine y_icmp_ne_f dX10_sumOf_21 (t := 26) rfl h2 ?_
      refine y_iconst dX10_sumOf_24 (by decide) ?_
      exact y_iret rfl rfl dX10_sumOf_25
    · refine y_icmp_ne_t dX10_sumOf_21 (t := 26) rfl h2 ?_
      refine y_aload_n dX10_sumOf_26 rfl rfl ?_
      refine y_iconst dX10_sumOf_27 (by decide) ?_
      refine yn_putZ (by decide) fX10_299 hM.1 rfl rfl dX10_sumOf_28 (fun σ3 => ?_)
      refine y_aload_n dX10_sumOf_31 rfl rfl ?_
      refine y_aload_n dX10_sumOf_32 rfl rfl ?_
      refine y_getR fX10_142 hM.1 rfl (lM_49 hM).1 dX10_sumOf_33 ?_
      refine y_iload_n dX10_sumOf_36 rfl rfl ?_
      refine yk_iaload (lM_49 hM).2 (N := 96) rfl (j := p1.toNat) rfl dX10_sumOf_37 ?_
      refine y_aload_n dX10_sumOf_38 rfl rfl ?_
      refine y_getR fX10_142 hM.1 rfl (lM_49 hM).1 dX10_sumOf_39 ?_
      refine y_iload_n dX10_sumOf_42 rfl rfl ?_
      refine y_iconst dX10_sumOf_43 (by decide) ?_
      refine yk_iadd dX10_sumOf_44 ?_
      refine yk_iaload (lM_49 hM).2 (N := 96) rfl (j := (p1 + 1).toNat) rfl dX10_sumOf_45 ?_
      refine y_cvV (qX10_reckonAll hM (σ3 113 p1.toNat) (σ3 113 (p1 + 1).toNat) σ3) kX10_392 rfl hM.1 rfl (by decide) rfl (Nat.le_of_ble_eq_true rfl) dX10_sumOf_46 (fun σ4 => ?_)
      refine y_aload_n dX10_sumOf_49 rfl rfl ?_
      refine y_iconst dX10_sumOf_50 (by decide) ?_
      refine yn_putZ (by decide) fX10_299 hM.1 rfl rfl dX10_sumOf_51 (fun σ5 => ?_)
      refine y_aload_n dX10_sumOf_54 rfl rfl ?_
      refine y_aload_n dX10_sumOf_55 rfl rfl ?_
      refine y_getI fX10_375 hM.1 rfl dX10_sumOf_56 ?_
      refine yk_putZ fX10_522 hM.1 rfl rfl dX10_sumOf_59 (fun σ6 => ?_)
      refine y_aload_n dX10_sumOf_62 rfl rfl ?_
      refine y_getJ fX10_389 hM.1 rfl dX10_sumOf_63 ?_
      refine y_l2i dX10_sumOf_66 ?_
      exact y_iret rfl rfl dX10_sumOf_67
  · refine y_if_ne_t dX10_sumOf_4 (t := 24) rfl h1 ?_
    refine y_iconst dX10_sumOf_24 (by decide) ?_
    exact y_iret rfl rfl dX10_sumOf_25
theorem qX10_sumOf {K : Kt} (hM : mLay K) (p1 : Int) (σ : Sg) : Cc MX10_sumOf K [aR 84, aI p1] σ (emIS K) (vX10_sumOf p1 σ) := cc_of plX10 (Nat.le_of_ble_eq_true rfl) (fun o _ => ⟨Nat.le_refl _, Nat.le_refl _⟩) (fun Γ => tX10_sumOf hM p1 σ)
noncomputable def vX10_act (p1 : Int) (p2 : Int) (p3 : Int) (σ : Sg) : Option (Int × Sg) := if p1 = 0 then (bd2 (vX10_lendNow p2 p3 σ) (fun r1 σ2 => some (r1, σ2))) else (if p1 = 1 then (bd2 (vX10_bringNow p2 σ) (fun r3 σ4 => some (r3, σ4))) else (if p1 = 2 then (bd2 (vX10_waitsNow p2 p3 σ) (fun r5 σ6 => some (r5, σ6))) else (bd2 (vX10_passNow σ) (fun r7 σ8 => some (r7, σ8)))))
set_option maxRecDepth 100000 in
theorem tX10_act {Γ : Gx} {K : Kt} (hM : mLay K) (p1 : Int) (p2 : Int) (p3 : Int) (σ : Sg) : Y Γ MX10_act K (emIS K) K 0 [some (aR 84), some (aI p1), some (aI p2), some (aI p3)] [] σ (vX10_act p1 p2 p3 σ) := by
  unfold vX10_act
  refine y_iload_n dX10_act_0 rfl rfl ?_
  refine y_ite (fun h11 => ?_) (fun h11 => ?_)
  · refine y_tab_in dX10_act_1 (t := 28) (off := 27) (by omega) (by rw [h11]; rfl) rfl ?_
    refine y_aload_n dX10_act_28 rfl rfl ?_
    refine y_iload_n dX10_act_29 rfl rfl ?_
    refine y_iload_n dX10_act_30 rfl rfl ?_
    refine y_cvIS (qX10_lendNow hM p2 p3 σ) kX10_457 rfl hM.1 rfl (by decide) rfl (Nat.le_of_ble_eq_true rfl) dX10_act_31 (fun r1 σ2 => ?_)
    exact y_iret rfl rfl dX10_act_34
  · refine y_ite (fun h10 => ?_) (fun h10 => ?_)
    · refine y_tab_in dX10_act_1 (t := 35) (off := 34) (by omega) (by rw [h10]; rfl) rfl ?_
      refine y_aload_n dX10_act_35 rfl rfl ?_
      refine y_iload_n dX10_act_36 rfl rfl ?_
      refine y_cvIS (qX10_bringNow hM p2 σ) kX10_460 rfl hM.1 rfl (by decide) rfl (Nat.le_of_ble_eq_true rfl) dX10_act_37 (fun r3 σ4 => ?_)
      exact y_iret rfl rfl dX10_act_40
    · refine y_ite (fun h9 => ?_) (fun h9 => ?_)
      · refine y_tab_in dX10_act_1 (t := 41) (off := 40) (by omega) (by rw [h9]; rfl) rfl ?_
        refine y_aload_n dX10_act_41 rfl rfl ?_
        refine y_iload_n dX10_act_42 rfl rfl ?_
        refine y_iload_n dX10_act_43 rfl rfl ?_
        refine y_cvIS (qX10_waitsNow hM p2 p3 σ) kX10_463 rfl hM.1 rfl (by decide) rfl (Nat.le_of_ble_eq_true rfl) dX10_act_44 (fun r5 σ6 => ?_)
        exact y_iret rfl rfl dX10_act_47
      · refine y_tab_out dX10_act_1 (t := 48) (by omega) rfl ?_
        refine y_aload_n dX10_act_48 rfl rfl ?_
        refine y_cvIS (qX10_passNow hM σ) kX10_469 rfl hM.1 rfl (by decide) rfl (Nat.le_of_ble_eq_true rfl) dX10_act_49 (fun r7 σ8 => ?_)
        exact y_iret rfl rfl dX10_act_52
theorem qX10_act {K : Kt} (hM : mLay K) (p1 : Int) (p2 : Int) (p3 : Int) (σ : Sg) : Cc MX10_act K [aR 84, aI p1, aI p2, aI p3] σ (emIS K) (vX10_act p1 p2 p3 σ) := cc_of plX10 (Nat.le_of_ble_eq_true rfl) (fun o _ => ⟨Nat.le_refl _, Nat.le_refl _⟩) (fun Γ => tX10_act hM p1 p2 p3 σ)
noncomputable def vX10_run_162 (y1 : Int) (σ : Sg) : Option (Int × Sg) := nm (up2 σ 84 51 y1) (fun σ1 => ck (in32 ((σ1 84 50) + 1)) (nm (up2 σ1 84 50 ((σ1 84 50) + 1)) (fun σ2 => some (0, σ2))))
set_option maxRecDepth 100000 in
theorem tX10_run_162 {Γ : Gx} {K : Kt} (hM : mLay K)  (y1 : Int) (σ : Sg) : Y Γ MX10_run K (emIS K) K 162 [some (aR 84), none, none, none, none] [aI y1, aR 84] σ (vX10_run_162 y1 σ) := by
  unfold vX10_run_162
  refine yn_putI fX10_528 hM.1 rfl rfl dX10_run_162 (fun σ1 => ?_)
  refine y_aload_n dX10_run_165 rfl rfl ?_
  refine y_dup dX10_run_166 (fun _ => rfl) ?_
  refine y_getI fX10_525 hM.1 rfl dX10_run_167 ?_
  refine y_iconst dX10_run_170 (by decide) ?_
  refine yk_iadd dX10_run_171 ?_
  refine yn_putI fX10_525 hM.1 rfl rfl dX10_run_172 (fun σ2 => ?_)
  refine y_iconst dX10_run_175 (by decide) ?_
  exact y_iret rfl rfl dX10_run_176
noncomputable def vX10_run_94 (x1 : Int) (σ : Sg) : Option (Int × Sg) := ck (in32 (x1 + 1)) (bd2 (vX10_sumOf (x1 + 1) σ) (fun r1 σ2 => ck (in32 (x1 + 3)) (bd2 (vX10_sumOf (x1 + 3) σ2) (fun r3 σ4 => if (σ4 84 53) = 0 then (ck (0 ≤ x1 ∧ x1 < 96) (bd2 (vX10_act (σ4 113 x1.toNat) r1 r3 σ4) (fun r6 σ7 => if r6 < 0 then (some ((-3), σ7)) else (ck (0 ≤ x1 ∧ x1 < 96) (if (σ7 113 x1.toNat) < 2 then (vX10_run_162 r6 σ7) else (vX10_run_162 (σ7 84 51) σ7)))))) else (some ((-3), σ4))))))
set_option maxRecDepth 100000 in
theorem tX10_run_94 {Γ : Gx} {K : Kt} (hM : mLay K)  (x1 : Int) (σ : Sg) : Y Γ MX10_run K (emIS K) K 94 [some (aR 84), some (aI x1), none, none, none] [] σ (vX10_run_94 x1 σ) := by
  unfold vX10_run_94
  refine y_aload_n dX10_run_94 rfl rfl ?_
  refine y_iload_n dX10_run_95 rfl rfl ?_
  refine y_iconst dX10_run_96 (by decide) ?_
  refine yk_iadd dX10_run_97 ?_
  refine y_cvIS (qX10_sumOf hM (x1 + 1) σ) kX10_531 rfl hM.1 rfl (by decide) rfl (Nat.le_of_ble_eq_true rfl) dX10_run_98 (fun r1 σ2 => ?_)
  refine y_istore_n dX10_run_101 rfl (Nat.le_of_ble_eq_true rfl) (L' := [some (aR 84), some (aI x1), some (aI r1), none, none]) rfl ?_
  refine y_aload_n dX10_run_102 rfl rfl ?_
  refine y_iload_n dX10_run_103 rfl rfl ?_
  refine y_iconst dX10_run_104 (by decide) ?_
  refine yk_iadd dX10_run_105 ?_
  refine y_cvIS (qX10_sumOf hM (x1 + 3) σ2) kX10_531 rfl hM.1 rfl (by decide) rfl (Nat.le_of_ble_eq_true rfl) dX10_run_106 (fun r3 σ4 => ?_)
  refine y_istore_n dX10_run_109 rfl (Nat.le_of_ble_eq_true rfl) (L' := [some (aR 84), some (aI x1), some (aI r1), some (aI r3), none]) rfl ?_
  refine y_aload_n dX10_run_110 rfl rfl ?_
  refine y_getI fX10_522 hM.1 rfl dX10_run_111 ?_
  refine y_ite (fun h5 => ?_) (fun h5 => ?_)
  · refine y_if_eq_t dX10_run_114 (t := 120) rfl h5 ?_
    refine y_aload_n dX10_run_120 rfl rfl ?_
    refine y_aload_n dX10_run_121 rfl rfl ?_
    refine y_getR fX10_142 hM.1 rfl (lM_49 hM).1 dX10_run_122 ?_
    refine y_iload_n dX10_run_125 rfl rfl ?_
    refine yk_iaload (lM_49 hM).2 (N := 96) rfl (j := x1.toNat) rfl dX10_run_126 ?_
    refine y_iload_n dX10_run_127 rfl rfl ?_
    refine y_iload_n dX10_run_128 rfl rfl ?_
    refine y_cvIS (qX10_act hM (σ4 113 x1.toNat) r1 r3 σ4) kX10_534 rfl hM.1 rfl (by decide) rfl (Nat.le_of_ble_eq_true rfl) dX10_run_129 (fun r6 σ7 => ?_)
    refine y_istore dX10_run_132 (Nat.le_of_ble_eq_true rfl) (L' := [some (aR 84), some (aI x1), some (aI r1), some (aI r3), some (aI r6)]) rfl ?_
    refine y_iload dX10_run_134 rfl ?_
    refine y_ite (fun h8 => ?_) (fun h8 => ?_)
    · refine y_if_ge_f dX10_run_136 (t := 142) rfl h8 ?_
      refine y_bipush dX10_run_139 (by decide) (by decide) ?_
      exact y_iret rfl rfl dX10_run_141
    · refine y_if_ge_t dX10_run_136 (t := 142) rfl h8 ?_
      refine y_aload_n dX10_run_142 rfl rfl ?_
      refine y_aload_n dX10_run_143 rfl rfl ?_
      refine y_getR fX10_142 hM.1 rfl (lM_49 hM).1 dX10_run_144 ?_
      refine y_iload_n dX10_run_147 rfl rfl ?_
      refine yk_iaload (lM_49 hM).2 (N := 96) rfl (j := x1.toNat) rfl dX10_run_148 ?_
      refine y_iconst dX10_run_149 (by decide) ?_
      refine y_ite (fun h9 => ?_) (fun h9 => ?_)
      · refine y_icmp_ge_f dX10_run_150 (t := 158) rfl h9 ?_
        refine y_iload dX10_run_153 rfl ?_
        refine y_goto dX10_run_155 (t := 162) rfl ?_
        refine y_fg [true, false, false, false, false] (L' := [some (aR 84), none, none, none, none]) rfl ?_
        exact tX10_run_162 hM r6 σ7
      · refine y_icmp_ge_t dX10_run_150 (t := 158) rfl h9 ?_
        refine y_aload_n dX10_run_158 rfl rfl ?_
        refine y_getI fX10_528 hM.1 rfl dX10_run_159 ?_
        refine y_fg [true, false, false, false, false] (L' := [some (aR 84), none, none, none, none]) rfl ?_
        exact tX10_run_162 hM (σ7 84 51) σ7
  · refine y_if_eq_f dX10_run_114 (t := 120) rfl h5 ?_
    refine y_bipush dX10_run_117 (by decide) (by decide) ?_
    exact y_iret rfl rfl dX10_run_119
noncomputable def vX10_run (p1 : Int) (σ : Sg) : Option (Int × Sg) := (vX10_term 0 σ).bind (fun r1 => nm (up2 σ 103 1 r1) (fun σ2 => nm (up2 σ2 103 2 (σ2 84 50)) (fun σ3 => nm (up2 σ3 103 3 (σ3 84 51)) (fun σ4 => nm (up2 σ4 103 4 (σ4 86 8)) (fun σ5 => nm (up2 σ5 84 53 0) (fun σ6 => ck (in32 (p1 + 5)) (ck (0 ≤ (p1 + 5) ∧ (p1 + 5) < 96) (ck (in32 (p1 + 6)) (ck (0 ≤ (p1 + 6) ∧ (p1 + 6) < 96) (if (σ6 113 (p1 + 5).toNat) < (σ6 113 (p1 + 6).toNat) then (ck (in32 (p1 + 5)) (bd2 (vX10_sumOf (p1 + 5) σ6) (fun r8 σ9 => if (σ9 84 53) = 0 then (if r8 = 0 then (some (0, σ9)) else (vX10_run_94 p1 σ9)) else (some (0, σ9))))) else (vX10_run_94 p1 σ6)))))))))))
set_option maxRecDepth 100000 in
theorem tX10_run {Γ : Gx} {K : Kt} (hM : mLay K) (p1 : Int) (σ : Sg) : Y Γ MX10_run K (emIS K) K 0 [some (aR 84), some (aI p1), none, none, none] [] σ (vX10_run p1 σ) := by
  unfold vX10_run
  refine y_aload_n dX10_run_0 rfl rfl ?_
  refine y_getR fX10_104 hM.1 rfl (lM_36 hM).1 dX10_run_1 ?_
  refine y_iconst dX10_run_4 (by decide) ?_
  refine y_aload_n dX10_run_5 rfl rfl ?_
  refine y_iconst dX10_run_6 (by decide) ?_
  refine y_cvI (qX10_term hM 0 σ) kX10_398 rfl hM.1 rfl (by decide) rfl (Nat.le_of_ble_eq_true rfl) dX10_run_7 (fun r1 => ?_)
  refine y_i2l dX10_run_10 ?_
  refine yl_lastore (lM_36 hM).2 (by decide) (j := 1) rfl dX10_run_11 (fun σ2 => ?_)
  refine y_aload_n dX10_run_12 rfl rfl ?_
  refine y_getR fX10_104 hM.1 rfl (lM_36 hM).1 dX10_run_13 ?_
  refine y_iconst dX10_run_16 (by decide) ?_
  refine y_aload_n dX10_run_17 rfl rfl ?_
  refine y_getI fX10_525 hM.1 rfl dX10_run_18 ?_
  refine y_i2l dX10_run_21 ?_
  refine yl_lastore (lM_36 hM).2 (by decide) (j := 2) rfl dX10_run_22 (fun σ3 => ?_)
  refine y_aload_n dX10_run_23 rfl rfl ?_
  refine y_getR fX10_104 hM.1 rfl (lM_36 hM).1 dX10_run_24 ?_
  refine y_iconst dX10_run_27 (by decide) ?_
  refine y_aload_n dX10_run_28 rfl rfl ?_
  refine y_getI fX10_528 hM.1 rfl dX10_run_29 ?_
  refine y_i2l dX10_run_32 ?_
  refine yl_lastore (lM_36 hM).2 (by decide) (j := 3) rfl dX10_run_33 (fun σ4 => ?_)
  refine y_aload_n dX10_run_34 rfl rfl ?_
  refine y_getR fX10_104 hM.1 rfl (lM_36 hM).1 dX10_run_35 ?_
  refine y_iconst dX10_run_38 (by decide) ?_
  refine y_aload_n dX10_run_39 rfl rfl ?_
  refine y_getR fX10_13 hM.1 rfl (lM_3 hM).1 dX10_run_40 ?_
  refine y_bipush dX10_run_43 (by decide) (by decide) ?_
  refine yl_iaload (lM_3 hM).2 (by decide) (j := 8) rfl dX10_run_45 ?_
  refine y_i2l dX10_run_46 ?_
  refine yl_lastore (lM_36 hM).2 (by decide) (j := 4) rfl dX10_run_47 (fun σ5 => ?_)
  refine y_aload_n dX10_run_48 rfl rfl ?_
  refine y_iconst dX10_run_49 (by decide) ?_
  refine yn_putZ (by decide) fX10_522 hM.1 rfl rfl dX10_run_50 (fun σ6 => ?_)
  refine y_aload_n dX10_run_53 rfl rfl ?_
  refine y_getR fX10_142 hM.1 rfl (lM_49 hM).1 dX10_run_54 ?_
  refine y_iload_n dX10_run_57 rfl rfl ?_
  refine y_iconst dX10_run_58 (by decide) ?_
  refine yk_iadd dX10_run_59 ?_
  refine yk_iaload (lM_49 hM).2 (N := 96) rfl (j := (p1 + 5).toNat) rfl dX10_run_60 ?_
  refine y_aload_n dX10_run_61 rfl rfl ?_
  refine y_getR fX10_142 hM.1 rfl (lM_49 hM).1 dX10_run_62 ?_
  refine y_iload_n dX10_run_65 rfl rfl ?_
  refine y_bipush dX10_run_66 (by decide) (by decide) ?_
  refine yk_iadd dX10_run_68 ?_
  refine yk_iaload (lM_49 hM).2 (N := 96) rfl (j := (p1 + 6).toNat) rfl dX10_run_69 ?_
  refine y_ite (fun h7 => ?_) (fun h7 => ?_)
  · refine y_icmp_ge_f dX10_run_70 (t := 94) rfl h7 ?_
    refine y_aload_n dX10_run_73 rfl rfl ?_
    refine y_iload_n dX10_run_74 rfl rfl ?_
    refine y_iconst dX10_run_75 (by decide) ?_
    refine yk_iadd dX10_run_76 ?_
    refine y_cvIS (qX10_sumOf hM (p1 + 5) σ6) kX10_531 rfl hM.1 rfl (by decide) rfl (Nat.le_of_ble_eq_true rfl) dX10_run_77 (fun r8 σ9 => ?_)
    refine y_istore_n dX10_run_80 rfl (Nat.le_of_ble_eq_true rfl) (L' := [some (aR 84), some (aI p1), some (aI r8), none, none]) rfl ?_
    refine y_aload_n dX10_run_81 rfl rfl ?_
    refine y_getI fX10_522 hM.1 rfl dX10_run_82 ?_
    refine y_ite (fun h10 => ?_) (fun h10 => ?_)
    · refine y_if_ne_f dX10_run_85 (t := 92) rfl h10 ?_
      refine y_iload_n dX10_run_88 rfl rfl ?_
      refine y_ite (fun h11 => ?_) (fun h11 => ?_)
      · refine y_if_ne_f dX10_run_89 (t := 94) rfl h11 ?_
        refine y_iconst dX10_run_92 (by decide) ?_
        exact y_iret rfl rfl dX10_run_93
      · refine y_if_ne_t dX10_run_89 (t := 94) rfl h11 ?_
        refine y_fg [true, true, false, false, false] (L' := [some (aR 84), some (aI p1), none, none, none]) rfl ?_
        exact tX10_run_94 hM p1 σ9
    · refine y_if_ne_t dX10_run_85 (t := 92) rfl h10 ?_
      refine y_iconst dX10_run_92 (by decide) ?_
      exact y_iret rfl rfl dX10_run_93
  · refine y_icmp_ge_t dX10_run_70 (t := 94) rfl h7 ?_
    exact tX10_run_94 hM p1 σ6
theorem qX10_run {K : Kt} (hM : mLay K) (p1 : Int) (σ : Sg) : Cc MX10_run K [aR 84, aI p1] σ (emIS K) (vX10_run p1 σ) := cc_of plX10 (Nat.le_of_ble_eq_true rfl) (fun o _ => ⟨Nat.le_refl _, Nat.le_refl _⟩) (fun Γ => tX10_run hM p1 σ)
noncomputable def vX10_giveBack_35 : Nat → Int → Int → Sg → Option (Sg)
  | 0, _, _, _ => none
  | f + 1, x1, x2, σ => if x2 < 16 then (ck (0 ≤ x2 ∧ x2 < 16) (ck (0 ≤ x2 ∧ x2 < 16) (nm (up2 σ 90 x2.toNat (σ 92 x2.toNat)) (fun σ2 => ck (in32 (x2 + 1)) (vX10_giveBack_35 f x1 (x2 + 1) σ2))))) else (nm (up2 σ 84 8 x1) (fun σ3 => some σ3))
set_option maxRecDepth 100000 in
theorem tX10_giveBack_35 {Γ : Gx} {K : Kt} (hM : mLay K)  : ∀ (f : Nat) (x1 x2 : Int) (σ : Sg), Y Γ MX10_giveBack K (emV K) K 35 [some (aR 84), some (aI x1), some (aI x2)] [] σ (vX10_giveBack_35 f x1 x2 σ) := by
  intro f
  induction f with
  | zero => intro x1 x2 σ; exact y_none
  | succ f ih =>
    intro x1 x2 σ
    rw [vX10_giveBack_35]
    refine y_iload_n dX10_giveBack_35 rfl rfl ?_
    refine y_bipush dX10_giveBack_36 (by decide) (by decide) ?_
    refine y_ite (fun h1 => ?_) (fun h1 => ?_)
    · refine y_icmp_ge_f dX10_giveBack_38 (t := 59) rfl h1 ?_
      refine y_aload_n dX10_giveBack_41 rfl rfl ?_
      refine y_getR fX10_26 hM.1 rfl (lM_7 hM).1 dX10_giveBack_42 ?_
      refine y_iload_n dX10_giveBack_45 rfl rfl ?_
      refine y_aload_n dX10_giveBack_46 rfl rfl ?_
      refine y_getR fX10_32 hM.1 rfl (lM_10 hM).1 dX10_giveBack_47 ?_
      refine y_iload_n dX10_giveBack_50 rfl rfl ?_
      refine yk_iaload (lM_10 hM).2 (N := 16) rfl (j := x2.toNat) rfl dX10_giveBack_51 ?_
      refine yk_iastore (lM_7 hM).2 (N := 16) rfl (j := x2.toNat) rfl dX10_giveBack_52 (fun σ2 => ?_)
      refine yk_iinc dX10_giveBack_53 rfl (L' := [some (aR 84), some (aI x1), some (aI (x2 + 1))]) rfl ?_
      refine y_goto dX10_giveBack_56 (t := 35) rfl ?_
      exact ih x1 (x2 + 1) σ2
    · refine y_icmp_ge_t dX10_giveBack_38 (t := 59) rfl h1 ?_
      refine y_aload_n dX10_giveBack_59 rfl rfl ?_
      refine y_iload_n dX10_giveBack_60 rfl rfl ?_
      refine yn_putI fX10_163 hM.1 rfl rfl dX10_giveBack_61 (fun σ3 => ?_)
      exact y_vret rfl rfl dX10_giveBack_64
noncomputable def vX10_giveBack_8 : Nat → Int → Int → Sg → Option (Sg)
  | 0, _, _, _ => none
  | f + 1, x1, x2, σ => if x2 < 1072 then (ck (0 ≤ x2 ∧ x2 < 1072) (ck (0 ≤ x2 ∧ x2 < 1273) (nm (up2 σ 89 x2.toNat (σ 91 x2.toNat)) (fun σ2 => ck (in32 (x2 + 1)) (vX10_giveBack_8 f x1 (x2 + 1) σ2))))) else (vX10_giveBack_35 FU x1 0 σ)
set_option maxRecDepth 100000 in
theorem tX10_giveBack_8 {Γ : Gx} {K : Kt} (hM : mLay K)  : ∀ (f : Nat) (x1 x2 : Int) (σ : Sg), Y Γ MX10_giveBack K (emV K) K 8 [some (aR 84), some (aI x1), some (aI x2)] [] σ (vX10_giveBack_8 f x1 x2 σ) := by
  intro f
  induction f with
  | zero => intro x1 x2 σ; exact y_none
  | succ f ih =>
    intro x1 x2 σ
    rw [vX10_giveBack_8]
    refine y_iload_n dX10_giveBack_8 rfl rfl ?_
    refine y_sipush dX10_giveBack_9 (by decide) (by decide) ?_
    refine y_ite (fun h1 => ?_) (fun h1 => ?_)
    · refine y_icmp_ge_f dX10_giveBack_12 (t := 33) rfl h1 ?_
      refine y_aload_n dX10_giveBack_15 rfl rfl ?_
      refine y_getR fX10_23 hM.1 rfl (lM_6 hM).1 dX10_giveBack_16 ?_
      refine y_iload_n dX10_giveBack_19 rfl rfl ?_
      refine y_aload_n dX10_giveBack_20 rfl rfl ?_
      refine y_getR fX10_29 hM.1 rfl (lM_9 hM).1 dX10_giveBack_21 ?_
      refine y_iload_n dX10_giveBack_24 rfl rfl ?_
      refine yk_iaload (lM_9 hM).2 (N := 1072) rfl (j := x2.toNat) rfl dX10_giveBack_25 ?_
      refine yk_iastore (lM_6 hM).2 (N := 1273) rfl (j := x2.toNat) rfl dX10_giveBack_26 (fun σ2 => ?_)
      refine yk_iinc dX10_giveBack_27 rfl (L' := [some (aR 84), some (aI x1), some (aI (x2 + 1))]) rfl ?_
      refine y_goto dX10_giveBack_30 (t := 8) rfl ?_
      exact ih x1 (x2 + 1) σ2
    · refine y_icmp_ge_t dX10_giveBack_12 (t := 33) rfl h1 ?_
      refine y_iconst dX10_giveBack_33 (by decide) ?_
      refine y_istore_n dX10_giveBack_34 rfl (Nat.le_of_ble_eq_true rfl) (L' := [some (aR 84), some (aI x1), some (aI 0)]) rfl ?_
      exact tX10_giveBack_35 hM FU x1 0 σ
noncomputable def vX10_giveBack (p1 : Int) (σ : Sg) : Option (Sg) := (vX10_putBack 17 σ).bind (fun σ1 => vX10_giveBack_8 FU p1 0 σ1)
set_option maxRecDepth 100000 in
theorem tX10_giveBack {Γ : Gx} {K : Kt} (hM : mLay K) (p1 : Int) (σ : Sg) : Y Γ MX10_giveBack K (emV K) K 0 [some (aR 84), some (aI p1), none] [] σ (vX10_giveBack p1 σ) := by
  unfold vX10_giveBack
  refine y_aload_n dX10_giveBack_0 rfl rfl ?_
  refine y_bipush dX10_giveBack_1 (by decide) (by decide) ?_
  refine y_cvV (qX10_putBack hM 17 σ) kX10_174 rfl hM.1 rfl (by decide) rfl (Nat.le_of_ble_eq_true rfl) dX10_giveBack_3 (fun σ1 => ?_)
  refine y_iconst dX10_giveBack_6 (by decide) ?_
  refine y_istore_n dX10_giveBack_7 rfl (Nat.le_of_ble_eq_true rfl) (L' := [some (aR 84), some (aI p1), some (aI 0)]) rfl ?_
  exact tX10_giveBack_8 hM FU p1 0 σ1
theorem qX10_giveBack {K : Kt} (hM : mLay K) (p1 : Int) (σ : Sg) : Cc MX10_giveBack K [aR 84, aI p1] σ (emV K) (vX10_giveBack p1 σ) := cc_of plX10 (Nat.le_of_ble_eq_true rfl) (fun o _ => ⟨Nat.le_refl _, Nat.le_refl _⟩) (fun Γ => tX10_giveBack hM p1 σ)
noncomputable def vX10_orders_150 (rec_140 : Int → Int → Sg → Option (Int × Sg)) : Nat → Int → Int → Int → Sg → Option (Int × Sg)
  | 0, _, _, _, _ => none
  | f + 1, x1, x2, x3, σ => ck (in32 (8 * x2)) (ck (in32 ((8 * x2) + 7)) (ck (0 ≤ ((8 * x2) + 7) ∧ ((8 * x2) + 7) < 96) (if x3 < (σ 113 ((8 * x2) + 7).toNat) then (ck (in32 (8 * x2)) (bd2 (vX10_run (8 * x2) σ) (fun r2 σ3 => if r2 < 0 then ((vX10_giveBack x1 σ3).bind (fun σ5 => nm (up2 σ5 84 52 x2) (fun σ6 => bd2 (vX10_tell (-3) σ6) (fun r7 σ8 => some (r7, σ8))))) else (ck (in32 (x3 + 1)) (vX10_orders_150 rec_140 f x1 x2 (x3 + 1) σ3))))) else (ck (in32 (x2 + 1)) (rec_140 x1 (x2 + 1) σ)))))
set_option maxRecDepth 100000 in
theorem tX10_orders_150 {Γ : Gx} {K : Kt} (hM : mLay K)  (rec_140 : Int → Int → Sg → Option (Int × Sg)) (hrec_140 : ∀ (x1 x2 : Int) (σ : Sg), Y Γ MX10_orders K (emIS K) K 140 [some (aR 84), some (aI x1), some (aI x2), none] [] σ (rec_140 x1 x2 σ)) : ∀ (f : Nat) (x1 x2 x3 : Int) (σ : Sg), Y Γ MX10_orders K (emIS K) K 150 [some (aR 84), some (aI x1), some (aI x2), some (aI x3)] [] σ (vX10_orders_150 rec_140 f x1 x2 x3 σ) := by
  intro f
  induction f with
  | zero => intro x1 x2 x3 σ; exact y_none
  | succ f ih =>
    intro x1 x2 x3 σ
    rw [vX10_orders_150]
    refine y_iload_n dX10_orders_150 rfl rfl ?_
    refine y_aload_n dX10_orders_151 rfl rfl ?_
    refine y_getR fX10_142 hM.1 rfl (lM_49 hM).1 dX10_orders_152 ?_
    refine y_bipush dX10_orders_155 (by decide) (by decide) ?_
    refine y_iload_n dX10_orders_157 rfl rfl ?_
    refine yk_imul dX10_orders_158 ?_
    refine y_bipush dX10_orders_159 (by decide) (by decide) ?_
    refine yk_iadd dX10_orders_161 ?_
    refine yk_iaload (lM_49 hM).2 (N := 96) rfl (j := ((8 * x2) + 7).toNat) rfl dX10_orders_162 ?_
    refine y_ite (fun h1 => ?_) (fun h1 => ?_)
    · refine y_icmp_ge_f dX10_orders_163 (t := 200) rfl h1 ?_
      refine y_aload_n dX10_orders_166 rfl rfl ?_
      refine y_bipush dX10_orders_167 (by decide) (by decide) ?_
      refine y_iload_n dX10_orders_169 rfl rfl ?_
      refine yk_imul dX10_orders_170 ?_
      refine y_cvIS (qX10_run hM (8 * x2) σ) kX10_541 rfl hM.1 rfl (by decide) rfl (Nat.le_of_ble_eq_true rfl) dX10_orders_171 (fun r2 σ3 => ?_)
      refine y_ite (fun h4 => ?_) (fun h4 => ?_)
      · refine y_if_ge_f dX10_orders_174 (t := 194) rfl h4 ?_
        refine y_aload_n dX10_orders_177 rfl rfl ?_
        refine y_iload_n dX10_orders_178 rfl rfl ?_
        refine y_cvV (qX10_giveBack hM x1 σ3) kX10_544 rfl hM.1 rfl (by decide) rfl (Nat.le_of_ble_eq_true rfl) dX10_orders_179 (fun σ5 => ?_)
        refine y_aload_n dX10_orders_182 rfl rfl ?_
        refine y_iload_n dX10_orders_183 rfl rfl ?_
        refine yn_putI fX10_145 hM.1 rfl rfl dX10_orders_184 (fun σ6 => ?_)
        refine y_aload_n dX10_orders_187 rfl rfl ?_
        refine y_bipush dX10_orders_188 (by decide) (by decide) ?_
        refine y_cvIS (qX10_tell hM (-3) σ6) kX10_166 rfl hM.1 rfl (by decide) rfl (Nat.le_of_ble_eq_true rfl) dX10_orders_190 (fun r7 σ8 => ?_)
        exact y_iret rfl rfl dX10_orders_193
      · refine y_if_ge_t dX10_orders_174 (t := 194) rfl h4 ?_
        refine yk_iinc dX10_orders_194 rfl (L' := [some (aR 84), some (aI x1), some (aI x2), some (aI (x3 + 1))]) rfl ?_
        refine y_goto dX10_orders_197 (t := 150) rfl ?_
        exact ih x1 x2 (x3 + 1) σ3
    · refine y_icmp_ge_t dX10_orders_163 (t := 200) rfl h1 ?_
      refine yk_iinc dX10_orders_200 rfl (L' := [some (aR 84), some (aI x1), some (aI (x2 + 1)), some (aI x3)]) rfl ?_
      refine y_goto dX10_orders_203 (t := 140) rfl ?_
      refine y_fg [true, true, true, false] (L' := [some (aR 84), some (aI x1), some (aI (x2 + 1)), none]) rfl ?_
      exact hrec_140 x1 (x2 + 1) σ
noncomputable def vX10_orders_140 : Nat → Int → Int → Sg → Option (Int × Sg)
  | 0, _, _, _ => none
  | f + 1, x1, x2, σ => if x2 < (σ 84 21) then (vX10_orders_150 (vX10_orders_140 f) FU x1 x2 0 σ) else (bd2 (vX10_tell (σ 84 50) σ) (fun r2 σ3 => some (r2, σ3)))
set_option maxRecDepth 100000 in
theorem tX10_orders_140 {Γ : Gx} {K : Kt} (hM : mLay K)  : ∀ (f : Nat) (x1 x2 : Int) (σ : Sg), Y Γ MX10_orders K (emIS K) K 140 [some (aR 84), some (aI x1), some (aI x2), none] [] σ (vX10_orders_140 f x1 x2 σ) := by
  intro f
  induction f with
  | zero => intro x1 x2 σ; exact y_none
  | succ f ih =>
    intro x1 x2 σ
    rw [vX10_orders_140]
    refine y_iload_n dX10_orders_140 rfl rfl ?_
    refine y_aload_n dX10_orders_141 rfl rfl ?_
    refine y_getI fX10_355 hM.1 rfl dX10_orders_142 ?_
    refine y_ite (fun h1 => ?_) (fun h1 => ?_)
    · refine y_icmp_ge_f dX10_orders_145 (t := 206) rfl h1 ?_
      refine y_iconst dX10_orders_148 (by decide) ?_
      refine y_istore_n dX10_orders_149 rfl (Nat.le_of_ble_eq_true rfl) (L' := [some (aR 84), some (aI x1), some (aI x2), some (aI 0)]) rfl ?_
      exact tX10_orders_150 hM (vX10_orders_140 f) ih FU x1 x2 0 σ
    · refine y_icmp_ge_t dX10_orders_145 (t := 206) rfl h1 ?_
      refine y_aload_n dX10_orders_206 rfl rfl ?_
      refine y_aload_n dX10_orders_207 rfl rfl ?_
      refine y_getI fX10_525 hM.1 rfl dX10_orders_208 ?_
      refine y_cvIS (qX10_tell hM (σ 84 50) σ) kX10_166 rfl hM.1 rfl (by decide) rfl (Nat.le_of_ble_eq_true rfl) dX10_orders_211 (fun r2 σ3 => ?_)
      exact y_iret rfl rfl dX10_orders_214
noncomputable def vX10_orders_104 : Nat → Int → Int → Sg → Option (Int × Sg)
  | 0, _, _, _ => none
  | f + 1, x1, x2, σ => if x2 < 16 then (ck (0 ≤ x2 ∧ x2 < 16) (ck (0 ≤ x2 ∧ x2 < 16) (nm (up2 σ 92 x2.toNat (σ 90 x2.toNat)) (fun σ2 => ck (in32 (x2 + 1)) (vX10_orders_104 f x1 (x2 + 1) σ2))))) else (nm (up2 σ 84 50 0) (fun σ3 => nm (up2 σ3 84 51 (-1)) (fun σ4 => vX10_orders_140 FU x1 0 σ4)))
set_option maxRecDepth 100000 in
theorem tX10_orders_104 {Γ : Gx} {K : Kt} (hM : mLay K)  : ∀ (f : Nat) (x1 x2 : Int) (σ : Sg), Y Γ MX10_orders K (emIS K) K 104 [some (aR 84), some (aI x1), some (aI x2), none] [] σ (vX10_orders_104 f x1 x2 σ) := by
  intro f
  induction f with
  | zero => intro x1 x2 σ; exact y_none
  | succ f ih =>
    intro x1 x2 σ
    rw [vX10_orders_104]
    refine y_iload_n dX10_orders_104 rfl rfl ?_
    refine y_bipush dX10_orders_105 (by decide) (by decide) ?_
    refine y_ite (fun h1 => ?_) (fun h1 => ?_)
    · refine y_icmp_ge_f dX10_orders_107 (t := 128) rfl h1 ?_
      refine y_aload_n dX10_orders_110 rfl rfl ?_
      refine y_getR fX10_32 hM.1 rfl (lM_10 hM).1 dX10_orders_111 ?_
      refine y_iload_n dX10_orders_114 rfl rfl ?_
      refine y_aload_n dX10_orders_115 rfl rfl ?_
      refine y_getR fX10_26 hM.1 rfl (lM_7 hM).1 dX10_orders_116 ?_
      refine y_iload_n dX10_orders_119 rfl rfl ?_
      refine yk_iaload (lM_7 hM).2 (N := 16) rfl (j := x2.toNat) rfl dX10_orders_120 ?_
      refine yk_iastore (lM_10 hM).2 (N := 16) rfl (j := x2.toNat) rfl dX10_orders_121 (fun σ2 => ?_)
      refine yk_iinc dX10_orders_122 rfl (L' := [some (aR 84), some (aI x1), some (aI (x2 + 1)), none]) rfl ?_
      refine y_goto dX10_orders_125 (t := 104) rfl ?_
      exact ih x1 (x2 + 1) σ2
    · refine y_icmp_ge_t dX10_orders_107 (t := 128) rfl h1 ?_
      refine y_aload_n dX10_orders_128 rfl rfl ?_
      refine y_iconst dX10_orders_129 (by decide) ?_
      refine yn_putI fX10_525 hM.1 rfl rfl dX10_orders_130 (fun σ3 => ?_)
      refine y_aload_n dX10_orders_133 rfl rfl ?_
      refine y_iconst dX10_orders_134 (by decide) ?_
      refine yn_putI fX10_528 hM.1 rfl rfl dX10_orders_135 (fun σ4 => ?_)
      refine y_iconst dX10_orders_138 (by decide) ?_
      refine y_istore_n dX10_orders_139 rfl (Nat.le_of_ble_eq_true rfl) (L' := [some (aR 84), some (aI x1), some (aI 0), none]) rfl ?_
      exact tX10_orders_140 hM FU x1 0 σ4
noncomputable def vX10_orders_77 : Nat → Int → Int → Sg → Option (Int × Sg)
  | 0, _, _, _ => none
  | f + 1, x1, x2, σ => if x2 < 1072 then (ck (0 ≤ x2 ∧ x2 < 1273) (ck (0 ≤ x2 ∧ x2 < 1072) (nm (up2 σ 91 x2.toNat (σ 89 x2.toNat)) (fun σ2 => ck (in32 (x2 + 1)) (vX10_orders_77 f x1 (x2 + 1) σ2))))) else (vX10_orders_104 FU x1 0 σ)
set_option maxRecDepth 100000 in
theorem tX10_orders_77 {Γ : Gx} {K : Kt} (hM : mLay K)  : ∀ (f : Nat) (x1 x2 : Int) (σ : Sg), Y Γ MX10_orders K (emIS K) K 77 [some (aR 84), some (aI x1), some (aI x2), none] [] σ (vX10_orders_77 f x1 x2 σ) := by
  intro f
  induction f with
  | zero => intro x1 x2 σ; exact y_none
  | succ f ih =>
    intro x1 x2 σ
    rw [vX10_orders_77]
    refine y_iload_n dX10_orders_77 rfl rfl ?_
    refine y_sipush dX10_orders_78 (by decide) (by decide) ?_
    refine y_ite (fun h1 => ?_) (fun h1 => ?_)
    · refine y_icmp_ge_f dX10_orders_81 (t := 102) rfl h1 ?_
      refine y_aload_n dX10_orders_84 rfl rfl ?_
      refine y_getR fX10_29 hM.1 rfl (lM_9 hM).1 dX10_orders_85 ?_
      refine y_iload_n dX10_orders_88 rfl rfl ?_
      refine y_aload_n dX10_orders_89 rfl rfl ?_
      refine y_getR fX10_23 hM.1 rfl (lM_6 hM).1 dX10_orders_90 ?_
      refine y_iload_n dX10_orders_93 rfl rfl ?_
      refine yk_iaload (lM_6 hM).2 (N := 1273) rfl (j := x2.toNat) rfl dX10_orders_94 ?_
      refine yk_iastore (lM_9 hM).2 (N := 1072) rfl (j := x2.toNat) rfl dX10_orders_95 (fun σ2 => ?_)
      refine yk_iinc dX10_orders_96 rfl (L' := [some (aR 84), some (aI x1), some (aI (x2 + 1)), none]) rfl ?_
      refine y_goto dX10_orders_99 (t := 77) rfl ?_
      exact ih x1 (x2 + 1) σ2
    · refine y_icmp_ge_t dX10_orders_81 (t := 102) rfl h1 ?_
      refine y_iconst dX10_orders_102 (by decide) ?_
      refine y_istore_n dX10_orders_103 rfl (Nat.le_of_ble_eq_true rfl) (L' := [some (aR 84), some (aI x1), some (aI 0), none]) rfl ?_
      exact tX10_orders_104 hM FU x1 0 σ
noncomputable def vX10_orders_46 (σ : Sg) : Option (Int × Sg) := (vX10_endText σ).bind (fun σ1 => if (σ1 84 19) = 0 then ((vX10_keepAll 17 σ1).bind (fun σ3 => nm (σ3 84 8) (fun z4 => vX10_orders_77 FU z4 0 σ3))) else (bd2 (vX10_tell (-6) σ1) (fun r5 σ6 => some (r5, σ6))))
set_option maxRecDepth 100000 in
theorem tX10_orders_46 {Γ : Gx} {K : Kt} (hM : mLay K)  (σ : Sg) : Y Γ MX10_orders K (emIS K) K 46 [some (aR 84), none, none, none] [] σ (vX10_orders_46  σ) := by
  unfold vX10_orders_46
  refine y_aload_n dX10_orders_46 rfl rfl ?_
  refine y_cvV (qX10_endText hM σ) kX10_369 rfl hM.1 rfl (by decide) rfl (Nat.le_of_ble_eq_true rfl) dX10_orders_47 (fun σ1 => ?_)
  refine y_aload_n dX10_orders_50 rfl rfl ?_
  refine y_getI fX10_224 hM.1 rfl dX10_orders_51 ?_
  refine y_ite (fun h2 => ?_) (fun h2 => ?_)
  · refine y_if_eq_t dX10_orders_54 (t := 64) rfl h2 ?_
    refine y_aload_n dX10_orders_64 rfl rfl ?_
    refine y_bipush dX10_orders_65 (by decide) (by decide) ?_
    refine y_cvV (qX10_keepAll hM 17 σ1) kX10_170 rfl hM.1 rfl (by decide) rfl (Nat.le_of_ble_eq_true rfl) dX10_orders_67 (fun σ3 => ?_)
    refine y_aload_n dX10_orders_70 rfl rfl ?_
    refine y_getI fX10_163 hM.1 rfl dX10_orders_71 ?_
    refine yn_istore_n dX10_orders_74 rfl (Nat.le_of_ble_eq_true rfl) (L' := fun z4 => [some (aR 84), some (aI z4), none, none]) (fun _ => rfl) (fun z4 => ?_)
    refine y_iconst dX10_orders_75 (by decide) ?_
    refine y_istore_n dX10_orders_76 rfl (Nat.le_of_ble_eq_true rfl) (L' := [some (aR 84), some (aI z4), some (aI 0), none]) rfl ?_
    exact tX10_orders_77 hM FU z4 0 σ3
  · refine y_if_eq_f dX10_orders_54 (t := 64) rfl h2 ?_
    refine y_aload_n dX10_orders_57 rfl rfl ?_
    refine y_bipush dX10_orders_58 (by decide) (by decide) ?_
    refine y_cvIS (qX10_tell hM (-6) σ1) kX10_166 rfl hM.1 rfl (by decide) rfl (Nat.le_of_ble_eq_true rfl) dX10_orders_60 (fun r5 σ6 => ?_)
    exact y_iret rfl rfl dX10_orders_63
noncomputable def vX10_orders_19 : Nat → Sg → Option (Int × Sg)
  | 0, _ => none
  | f + 1, σ => if (σ 84 19) = 0 then ((vX10_isSign 59 σ).bind (fun r2 => if r2 = 0 then (vX10_orders_46 σ) else ((vX10_next σ).bind (fun σ4 => (vX10_readOrder σ4).bind (fun σ5 => vX10_orders_19 f σ5))))) else (vX10_orders_46 σ)
set_option maxRecDepth 100000 in
theorem tX10_orders_19 {Γ : Gx} {K : Kt} (hM : mLay K)  : ∀ (f : Nat) (σ : Sg), Y Γ MX10_orders K (emIS K) K 19 [some (aR 84), none, none, none] [] σ (vX10_orders_19 f  σ) := by
  intro f
  induction f with
  | zero => intro  σ; exact y_none
  | succ f ih =>
    intro  σ
    rw [vX10_orders_19]
    refine y_aload_n dX10_orders_19 rfl rfl ?_
    refine y_getI fX10_224 hM.1 rfl dX10_orders_20 ?_
    refine y_ite (fun h1 => ?_) (fun h1 => ?_)
    · refine y_if_ne_f dX10_orders_23 (t := 46) rfl h1 ?_
      refine y_aload_n dX10_orders_26 rfl rfl ?_
      refine y_bipush dX10_orders_27 (by decide) (by decide) ?_
      refine y_cvI (qX10_isSign hM 59 σ) kX10_293 rfl hM.1 rfl (by decide) rfl (Nat.le_of_ble_eq_true rfl) dX10_orders_29 (fun r2 => ?_)
      refine y_ite (fun h3 => ?_) (fun h3 => ?_)
      · refine y_if_eq_t dX10_orders_32 (t := 46) rfl h3 ?_
        exact tX10_orders_46 hM σ
      · refine y_if_eq_f dX10_orders_32 (t := 46) rfl h3 ?_
        refine y_aload_n dX10_orders_35 rfl rfl ?_
        refine y_cvV (qX10_next hM σ) kX10_228 rfl hM.1 rfl (by decide) rfl (Nat.le_of_ble_eq_true rfl) dX10_orders_36 (fun σ4 => ?_)
        refine y_aload_n dX10_orders_39 rfl rfl ?_
        refine y_cvV (qX10_readOrder hM σ4) kX10_538 rfl hM.1 rfl (by decide) rfl (Nat.le_of_ble_eq_true rfl) dX10_orders_40 (fun σ5 => ?_)
        refine y_goto dX10_orders_43 (t := 19) rfl ?_
        exact ih σ5
    · refine y_if_ne_t dX10_orders_23 (t := 46) rfl h1 ?_
      exact tX10_orders_46 hM σ
noncomputable def vX10_orders (σ : Sg) : Option (Int × Sg) := nm (up2 σ 84 0 0) (fun σ1 => nm (up2 σ1 84 52 (-1)) (fun σ2 => (vX10_beginText 1 σ2).bind (fun σ3 => (vX10_readOrder σ3).bind (fun σ4 => vX10_orders_19 FU σ4))))
set_option maxRecDepth 100000 in
theorem tX10_orders {Γ : Gx} {K : Kt} (hM : mLay K) (σ : Sg) : Y Γ MX10_orders K (emIS K) K 0 [some (aR 84), none, none, none] [] σ (vX10_orders σ) := by
  unfold vX10_orders
  refine y_aload_n dX10_orders_0 rfl rfl ?_
  refine y_iconst dX10_orders_1 (by decide) ?_
  refine yn_putI fX10_157 hM.1 rfl rfl dX10_orders_2 (fun σ1 => ?_)
  refine y_aload_n dX10_orders_5 rfl rfl ?_
  refine y_iconst dX10_orders_6 (by decide) ?_
  refine yn_putI fX10_145 hM.1 rfl rfl dX10_orders_7 (fun σ2 => ?_)
  refine y_aload_n dX10_orders_10 rfl rfl ?_
  refine y_iconst dX10_orders_11 (by decide) ?_
  refine y_cvV (qX10_beginText hM 1 σ2) kX10_363 rfl hM.1 rfl (by decide) rfl (Nat.le_of_ble_eq_true rfl) dX10_orders_12 (fun σ3 => ?_)
  refine y_aload_n dX10_orders_15 rfl rfl ?_
  refine y_cvV (qX10_readOrder hM σ3) kX10_538 rfl hM.1 rfl (by decide) rfl (Nat.le_of_ble_eq_true rfl) dX10_orders_16 (fun σ4 => ?_)
  exact tX10_orders_19 hM FU σ4
theorem qX10_orders {K : Kt} (hM : mLay K) (σ : Sg) : Cc MX10_orders K [aR 84] σ (emIS K) (vX10_orders σ) := cc_of plX10 (Nat.le_of_ble_eq_true rfl) (fun o _ => ⟨Nat.le_refl _, Nat.le_refl _⟩) (fun Γ => tX10_orders hM σ)
noncomputable def vX10_stopped (σ : Sg) : Option (Int × Sg) := nm (up2 σ 84 0 0) (fun σ1 => some ((σ1 84 52), σ1))
set_option maxRecDepth 100000 in
theorem tX10_stopped {Γ : Gx} {K : Kt} (hM : mLay K) (σ : Sg) : Y Γ MX10_stopped K (emIS K) K 0 [some (aR 84)] [] σ (vX10_stopped σ) := by
  unfold vX10_stopped
  refine y_aload_n dX10_stopped_0 rfl rfl ?_
  refine y_iconst dX10_stopped_1 (by decide) ?_
  refine yn_putI fX10_157 hM.1 rfl rfl dX10_stopped_2 (fun σ1 => ?_)
  refine y_aload_n dX10_stopped_5 rfl rfl ?_
  refine y_getI fX10_145 hM.1 rfl dX10_stopped_6 ?_
  exact y_iret rfl rfl dX10_stopped_9
theorem qX10_stopped {K : Kt} (hM : mLay K) (σ : Sg) : Cc MX10_stopped K [aR 84] σ (emIS K) (vX10_stopped σ) := cc_of plX10 (Nat.le_of_ble_eq_true rfl) (fun o _ => ⟨Nat.le_refl _, Nat.le_refl _⟩) (fun Γ => tX10_stopped hM σ)
noncomputable def vX10_draw (p1 : Int) (σ : Sg) : Option (Int × Sg) := ck (in64 ((σ 84 54) * 1103)) (ck (in64 (((σ 84 54) * 1103) + 12345)) (ck (¬ (1000003 : Int) = 0 ∧ in64 (Int.tmod (((σ 84 54) * 1103) + 12345) 1000003)) (nm (up2 σ 84 54 (Int.tmod (((σ 84 54) * 1103) + 12345) 1000003)) (fun σ1 => ck (¬ p1 = 0 ∧ in64 (Int.tmod (σ1 84 54) p1)) (some ((w32 (Int.tmod (σ1 84 54) p1)), σ1))))))
set_option maxRecDepth 100000 in
theorem tX10_draw {Γ : Gx} {K : Kt} (hM : mLay K) (p1 : Int) (σ : Sg) : Y Γ MX10_draw K (emIS K) K 0 [some (aR 84), some (aI p1)] [] σ (vX10_draw p1 σ) := by
  unfold vX10_draw
  refine y_aload_n dX10_draw_0 rfl rfl ?_
  refine y_aload_n dX10_draw_1 rfl rfl ?_
  refine y_getJ fX10_547 hM.1 rfl dX10_draw_2 ?_
  refine y_ldc2 1103 wX10_c550 dX10_draw_5 (by decide) (by decide) ?_
  refine yk_lmul dX10_draw_8 ?_
  refine y_ldc2 12345 wX10_c552 dX10_draw_9 (by decide) (by decide) ?_
  refine yk_ladd dX10_draw_12 ?_
  refine y_ldc2 1000003 wX10_c554 dX10_draw_13 (by decide) (by decide) ?_
  refine yk_lrem dX10_draw_16 ?_
  refine yn_putJ fX10_547 hM.1 rfl rfl dX10_draw_17 (fun σ1 => ?_)
  refine y_aload_n dX10_draw_20 rfl rfl ?_
  refine y_getJ fX10_547 hM.1 rfl dX10_draw_21 ?_
  refine y_iload_n dX10_draw_24 rfl rfl ?_
  refine y_i2l dX10_draw_25 ?_
  refine yk_lrem dX10_draw_26 ?_
  refine y_l2i dX10_draw_27 ?_
  exact y_iret rfl rfl dX10_draw_28
theorem qX10_draw {K : Kt} (hM : mLay K) (p1 : Int) (σ : Sg) : Cc MX10_draw K [aR 84, aI p1] σ (emIS K) (vX10_draw p1 σ) := cc_of plX10 (Nat.le_of_ble_eq_true rfl) (fun o _ => ⟨Nat.le_refl _, Nat.le_refl _⟩) (fun Γ => tX10_draw hM p1 σ)
noncomputable def vX10_years_29 (σ : Sg) : Option (Int × Sg) := bd2 (vX10_tell (-1) σ) (fun r1 σ2 => some (r1, σ2))
set_option maxRecDepth 100000 in
theorem tX10_years_29 {Γ : Gx} {K : Kt} (hM : mLay K)  (σ : Sg) : Y Γ MX10_years K (emIS K) K 29 [some (aR 84), none, none, none, none, none, none, none] [] σ (vX10_years_29  σ) := by
  unfold vX10_years_29
  refine y_aload_n dX10_years_29 rfl rfl ?_
  refine y_iconst dX10_years_30 (by decide) ?_
  refine y_cvIS (qX10_tell hM (-1) σ) kX10_166 rfl hM.1 rfl (by decide) rfl (Nat.le_of_ble_eq_true rfl) dX10_years_31 (fun r1 σ2 => ?_)
  exact y_iret rfl rfl dX10_years_34
noncomputable def vX10_years_53 (σ : Sg) : Option (Int × Sg) := bd2 (vX10_tell (-3) σ) (fun r1 σ2 => some (r1, σ2))
set_option maxRecDepth 100000 in
theorem tX10_years_53 {Γ : Gx} {K : Kt} (hM : mLay K)  (σ : Sg) : Y Γ MX10_years K (emIS K) K 53 [some (aR 84), none, none, none, none, none, none, none] [] σ (vX10_years_53  σ) := by
  unfold vX10_years_53
  refine y_aload_n dX10_years_53 rfl rfl ?_
  refine y_bipush dX10_years_54 (by decide) (by decide) ?_
  refine y_cvIS (qX10_tell hM (-3) σ) kX10_166 rfl hM.1 rfl (by decide) rfl (Nat.le_of_ble_eq_true rfl) dX10_years_56 (fun r1 σ2 => ?_)
  exact y_iret rfl rfl dX10_years_59
noncomputable def vX10_years_178 (rec_77 : Int → Int → Int → Sg → Option (Int × Sg)) (x2 x3 x4 : Int) (σ : Sg) : Option (Int × Sg) := (vX10_passIt σ).bind (fun σ1 => ck (in32 (x4 + 1)) (rec_77 x2 x3 (x4 + 1) σ1))
set_option maxRecDepth 100000 in
theorem tX10_years_178 {Γ : Gx} {K : Kt} (hM : mLay K)  (rec_77 : Int → Int → Int → Sg → Option (Int × Sg)) (hrec_77 : ∀ (x2 x3 x4 : Int) (σ : Sg), Y Γ MX10_years K (emIS K) K 77 [some (aR 84), none, some (aI x2), some (aI x3), some (aI x4), none, none, none] [] σ (rec_77 x2 x3 x4 σ)) (x2 x3 x4 : Int) (σ : Sg) : Y Γ MX10_years K (emIS K) K 178 [some (aR 84), none, some (aI x2), some (aI x3), some (aI x4), none, none, none] [] σ (vX10_years_178 rec_77 x2 x3 x4 σ) := by
  unfold vX10_years_178
  refine y_aload_n dX10_years_178 rfl rfl ?_
  refine y_cvV (qX10_passIt hM σ) kX10_466 rfl hM.1 rfl (by decide) rfl (Nat.le_of_ble_eq_true rfl) dX10_years_179 (fun σ1 => ?_)
  refine yk_iinc dX10_years_182 rfl (L' := [some (aR 84), none, some (aI x2), some (aI x3), some (aI (x4 + 1)), none, none, none]) rfl ?_
  refine y_goto dX10_years_185 (t := 77) rfl ?_
  exact hrec_77 x2 x3 (x4 + 1) σ1
noncomputable def vX10_years_156 (rec_77 : Int → Int → Int → Sg → Option (Int × Sg)) (x2 x3 x4 x5 x6 : Int) (σ : Sg) : Option (Int × Sg) := bd2 (vX10_canLend x5 x6 σ) (fun r1 σ2 => if r1 = 0 then (vX10_years_178 rec_77 x2 x3 x4 σ2) else (bd2 (vX10_lendIt x5 x6 σ2) (fun r4 σ5 => ck (in32 (x3 + r4)) (nm (x3 + r4) (fun z6 => vX10_years_178 rec_77 x2 z6 x4 σ5)))))
set_option maxRecDepth 100000 in
theorem tX10_years_156 {Γ : Gx} {K : Kt} (hM : mLay K)  (rec_77 : Int → Int → Int → Sg → Option (Int × Sg)) (hrec_77 : ∀ (x2 x3 x4 : Int) (σ : Sg), Y Γ MX10_years K (emIS K) K 77 [some (aR 84), none, some (aI x2), some (aI x3), some (aI x4), none, none, none] [] σ (rec_77 x2 x3 x4 σ)) (x2 x3 x4 x5 x6 : Int) (σ : Sg) : Y Γ MX10_years K (emIS K) K 156 [some (aR 84), none, some (aI x2), some (aI x3), some (aI x4), some (aI x5), some (aI x6), none] [] σ (vX10_years_156 rec_77 x2 x3 x4 x5 x6 σ) := by
  unfold vX10_years_156
  refine y_aload_n dX10_years_156 rfl rfl ?_
  refine y_iload dX10_years_157 rfl ?_
  refine y_iload dX10_years_159 rfl ?_
  refine y_cvIS (qX10_canLend hM x5 x6 σ) kX10_448 rfl hM.1 rfl (by decide) rfl (Nat.le_of_ble_eq_true rfl) dX10_years_161 (fun r1 σ2 => ?_)
  refine y_ite (fun h3 => ?_) (fun h3 => ?_)
  · refine y_if_eq_t dX10_years_164 (t := 178) rfl h3 ?_
    refine y_fg [true, false, true, true, true, false, false, false] (L' := [some (aR 84), none, some (aI x2), some (aI x3), some (aI x4), none, none, none]) rfl ?_
    exact tX10_years_178 hM rec_77 hrec_77 x2 x3 x4 σ2
  · refine y_if_eq_f dX10_years_164 (t := 178) rfl h3 ?_
    refine y_iload_n dX10_years_167 rfl rfl ?_
    refine y_aload_n dX10_years_168 rfl rfl ?_
    refine y_iload dX10_years_169 rfl ?_
    refine y_iload dX10_years_171 rfl ?_
    refine y_cvIS (qX10_lendIt hM x5 x6 σ2) kX10_454 rfl hM.1 rfl (by decide) rfl (Nat.le_of_ble_eq_true rfl) dX10_years_173 (fun r4 σ5 => ?_)
    refine yk_iadd dX10_years_176 ?_
    refine yn_istore_n dX10_years_177 rfl (Nat.le_of_ble_eq_true rfl) (L' := fun z6 => [some (aR 84), none, some (aI x2), some (aI z6), some (aI x4), some (aI x5), some (aI x6), none]) (fun _ => rfl) (fun z6 => ?_)
    refine y_fg [true, false, true, true, true, false, false, false] (L' := [some (aR 84), none, some (aI x2), some (aI z6), some (aI x4), none, none, none]) rfl ?_
    exact tX10_years_178 hM rec_77 hrec_77 x2 z6 x4 σ5
noncomputable def vX10_years_290 : Nat → Int → Int → Sg → Option (Int × Sg)
  | 0, _, _, _ => none
  | f + 1, x3, x4, σ => if x4 < (σ 84 57) then (ck (in32 (18 + x4)) (ck (in32 (9 + x4)) (ck (0 ≤ (9 + x4) ∧ (9 + x4) < 5505) (ck (0 ≤ (18 + x4) ∧ (18 + x4) < 26) (nm (up2 σ 114 (18 + x4).toNat (σ 86 (9 + x4).toNat)) (fun σ2 => ck (in32 (x4 + 1)) (vX10_years_290 f x3 (x4 + 1) σ2))))))) else ((vX10_putBack 16 σ).bind (fun σ3 => bd2 (vX10_tell x3 σ3) (fun r4 σ5 => some (r4, σ5))))
set_option maxRecDepth 100000 in
theorem tX10_years_290 {Γ : Gx} {K : Kt} (hM : mLay K)  : ∀ (f : Nat) (x3 x4 : Int) (σ : Sg), Y Γ MX10_years K (emIS K) K 290 [some (aR 84), none, none, some (aI x3), some (aI x4), none, none, none] [] σ (vX10_years_290 f x3 x4 σ) := by
  intro f
  induction f with
  | zero => intro x3 x4 σ; exact y_none
  | succ f ih =>
    intro x3 x4 σ
    rw [vX10_years_290]
    refine y_iload dX10_years_290 rfl ?_
    refine y_aload_n dX10_years_292 rfl rfl ?_
    refine y_getI fX10_154 hM.1 rfl dX10_years_293 ?_
    refine y_ite (fun h1 => ?_) (fun h1 => ?_)
    · refine y_icmp_ge_f dX10_years_296 (t := 325) rfl h1 ?_
      refine y_aload_n dX10_years_299 rfl rfl ?_
      refine y_getR fX10_148 hM.1 rfl (lM_55 hM).1 dX10_years_300 ?_
      refine y_bipush dX10_years_303 (by decide) (by decide) ?_
      refine y_iload dX10_years_305 rfl ?_
      refine yk_iadd dX10_years_307 ?_
      refine y_aload_n dX10_years_308 rfl rfl ?_
      refine y_getR fX10_13 hM.1 rfl (lM_3 hM).1 dX10_years_309 ?_
      refine y_bipush dX10_years_312 (by decide) (by decide) ?_
      refine y_iload dX10_years_314 rfl ?_
      refine yk_iadd dX10_years_316 ?_
      refine yk_iaload (lM_3 hM).2 (N := 5505) rfl (j := (9 + x4).toNat) rfl dX10_years_317 ?_
      refine yk_iastore (lM_55 hM).2 (N := 26) rfl (j := (18 + x4).toNat) rfl dX10_years_318 (fun σ2 => ?_)
      refine yk_iinc dX10_years_319 rfl (L' := [some (aR 84), none, none, some (aI x3), some (aI (x4 + 1)), none, none, none]) rfl ?_
      refine y_goto dX10_years_322 (t := 290) rfl ?_
      exact ih x3 (x4 + 1) σ2
    · refine y_icmp_ge_t dX10_years_296 (t := 325) rfl h1 ?_
      refine y_aload_n dX10_years_325 rfl rfl ?_
      refine y_bipush dX10_years_326 (by decide) (by decide) ?_
      refine y_cvV (qX10_putBack hM 16 σ) kX10_174 rfl hM.1 rfl (by decide) rfl (Nat.le_of_ble_eq_true rfl) dX10_years_328 (fun σ3 => ?_)
      refine y_aload_n dX10_years_331 rfl rfl ?_
      refine y_iload_n dX10_years_332 rfl rfl ?_
      refine y_cvIS (qX10_tell hM x3 σ3) kX10_166 rfl hM.1 rfl (by decide) rfl (Nat.le_of_ble_eq_true rfl) dX10_years_333 (fun r4 σ5 => ?_)
      exact y_iret rfl rfl dX10_years_336
noncomputable def vX10_years_211 : Nat → Int → Int → Sg → Option (Int × Sg)
  | 0, _, _, _ => none
  | f + 1, x3, x4, σ => if x4 < (σ 84 56) then (ck (in32 (3 * x4)) (ck (in32 (17 + x4)) (ck (0 ≤ (17 + x4) ∧ (17 + x4) < 5505) (ck (0 ≤ (3 * x4) ∧ (3 * x4) < 26) (nm (up2 σ 114 (3 * x4).toNat (σ 86 (17 + x4).toNat)) (fun σ2 => ck (in32 (3 * x4)) (ck (in32 ((3 * x4) + 1)) (ck (in32 (23 + x4)) (ck (0 ≤ (23 + x4) ∧ (23 + x4) < 5505) (ck (0 ≤ ((3 * x4) + 1) ∧ ((3 * x4) + 1) < 26) (nm (up2 σ2 114 ((3 * x4) + 1).toNat (σ2 86 (23 + x4).toNat)) (fun σ3 => ck (in32 (3 * x4)) (ck (in32 ((3 * x4) + 2)) (ck (in32 (29 + x4)) (ck (0 ≤ (29 + x4) ∧ (29 + x4) < 5505) (ck (0 ≤ ((3 * x4) + 2) ∧ ((3 * x4) + 2) < 26) (nm (up2 σ3 114 ((3 * x4) + 2).toNat (σ3 86 (29 + x4).toNat)) (fun σ4 => ck (in32 (x4 + 1)) (vX10_years_211 f x3 (x4 + 1) σ4))))))))))))))))))) else (vX10_years_290 FU x3 0 σ)
set_option maxRecDepth 100000 in
theorem tX10_years_211 {Γ : Gx} {K : Kt} (hM : mLay K)  : ∀ (f : Nat) (x3 x4 : Int) (σ : Sg), Y Γ MX10_years K (emIS K) K 211 [some (aR 84), none, none, some (aI x3), some (aI x4), none, none, none] [] σ (vX10_years_211 f x3 x4 σ) := by
  intro f
  induction f with
  | zero => intro x3 x4 σ; exact y_none
  | succ f ih =>
    intro x3 x4 σ
    rw [vX10_years_211]
    refine y_iload dX10_years_211 rfl ?_
    refine y_aload_n dX10_years_213 rfl rfl ?_
    refine y_getI fX10_151 hM.1 rfl dX10_years_214 ?_
    refine y_ite (fun h1 => ?_) (fun h1 => ?_)
    · refine y_icmp_ge_f dX10_years_217 (t := 287) rfl h1 ?_
      refine y_aload_n dX10_years_220 rfl rfl ?_
      refine y_getR fX10_148 hM.1 rfl (lM_55 hM).1 dX10_years_221 ?_
      refine y_iconst dX10_years_224 (by decide) ?_
      refine y_iload dX10_years_225 rfl ?_
      refine yk_imul dX10_years_227 ?_
      refine y_aload_n dX10_years_228 rfl rfl ?_
      refine y_getR fX10_13 hM.1 rfl (lM_3 hM).1 dX10_years_229 ?_
      refine y_bipush dX10_years_232 (by decide) (by decide) ?_
      refine y_iload dX10_years_234 rfl ?_
      refine yk_iadd dX10_years_236 ?_
      refine yk_iaload (lM_3 hM).2 (N := 5505) rfl (j := (17 + x4).toNat) rfl dX10_years_237 ?_
      refine yk_iastore (lM_55 hM).2 (N := 26) rfl (j := (3 * x4).toNat) rfl dX10_years_238 (fun σ2 => ?_)
      refine y_aload_n dX10_years_239 rfl rfl ?_
      refine y_getR fX10_148 hM.1 rfl (lM_55 hM).1 dX10_years_240 ?_
      refine y_iconst dX10_years_243 (by decide) ?_
      refine y_iload dX10_years_244 rfl ?_
      refine yk_imul dX10_years_246 ?_
      refine y_iconst dX10_years_247 (by decide) ?_
      refine yk_iadd dX10_years_248 ?_
      refine y_aload_n dX10_years_249 rfl rfl ?_
      refine y_getR fX10_13 hM.1 rfl (lM_3 hM).1 dX10_years_250 ?_
      refine y_bipush dX10_years_253 (by decide) (by decide) ?_
      refine y_iload dX10_years_255 rfl ?_
      refine yk_iadd dX10_years_257 ?_
      refine yk_iaload (lM_3 hM).2 (N := 5505) rfl (j := (23 + x4).toNat) rfl dX10_years_258 ?_
      refine yk_iastore (lM_55 hM).2 (N := 26) rfl (j := ((3 * x4) + 1).toNat) rfl dX10_years_259 (fun σ3 => ?_)
      refine y_aload_n dX10_years_260 rfl rfl ?_
      refine y_getR fX10_148 hM.1 rfl (lM_55 hM).1 dX10_years_261 ?_
      refine y_iconst dX10_years_264 (by decide) ?_
      refine y_iload dX10_years_265 rfl ?_
      refine yk_imul dX10_years_267 ?_
      refine y_iconst dX10_years_268 (by decide) ?_
      refine yk_iadd dX10_years_269 ?_
      refine y_aload_n dX10_years_270 rfl rfl ?_
      refine y_getR fX10_13 hM.1 rfl (lM_3 hM).1 dX10_years_271 ?_
      refine y_bipush dX10_years_274 (by decide) (by decide) ?_
      refine y_iload dX10_years_276 rfl ?_
      refine yk_iadd dX10_years_278 ?_
      refine yk_iaload (lM_3 hM).2 (N := 5505) rfl (j := (29 + x4).toNat) rfl dX10_years_279 ?_
      refine yk_iastore (lM_55 hM).2 (N := 26) rfl (j := ((3 * x4) + 2).toNat) rfl dX10_years_280 (fun σ4 => ?_)
      refine yk_iinc dX10_years_281 rfl (L' := [some (aR 84), none, none, some (aI x3), some (aI (x4 + 1)), none, none, none]) rfl ?_
      refine y_goto dX10_years_284 (t := 211) rfl ?_
      exact ih x3 (x4 + 1) σ4
    · refine y_icmp_ge_t dX10_years_217 (t := 287) rfl h1 ?_
      refine y_iconst dX10_years_287 (by decide) ?_
      refine y_istore dX10_years_288 (Nat.le_of_ble_eq_true rfl) (L' := [some (aR 84), none, none, some (aI x3), some (aI 0), none, none, none]) rfl ?_
      exact tX10_years_290 hM FU x3 0 σ
noncomputable def vX10_years_188 (x3 : Int) (σ : Sg) : Option (Int × Sg) := nm (up2 σ 84 56 (σ 86 1)) (fun σ1 => nm (up2 σ1 84 57 (σ1 86 0)) (fun σ2 => vX10_years_211 FU x3 0 σ2))
set_option maxRecDepth 100000 in
theorem tX10_years_188 {Γ : Gx} {K : Kt} (hM : mLay K)  (x3 : Int) (σ : Sg) : Y Γ MX10_years K (emIS K) K 188 [some (aR 84), none, none, some (aI x3), none, none, none, none] [] σ (vX10_years_188 x3 σ) := by
  unfold vX10_years_188
  refine y_aload_n dX10_years_188 rfl rfl ?_
  refine y_aload_n dX10_years_189 rfl rfl ?_
  refine y_getR fX10_13 hM.1 rfl (lM_3 hM).1 dX10_years_190 ?_
  refine y_iconst dX10_years_193 (by decide) ?_
  refine yl_iaload (lM_3 hM).2 (by decide) (j := 1) rfl dX10_years_194 ?_
  refine yn_putI fX10_151 hM.1 rfl rfl dX10_years_195 (fun σ1 => ?_)
  refine y_aload_n dX10_years_198 rfl rfl ?_
  refine y_aload_n dX10_years_199 rfl rfl ?_
  refine y_getR fX10_13 hM.1 rfl (lM_3 hM).1 dX10_years_200 ?_
  refine y_iconst dX10_years_203 (by decide) ?_
  refine yl_iaload (lM_3 hM).2 (by decide) (j := 0) rfl dX10_years_204 ?_
  refine yn_putI fX10_154 hM.1 rfl rfl dX10_years_205 (fun σ2 => ?_)
  refine y_iconst dX10_years_208 (by decide) ?_
  refine y_istore dX10_years_209 (Nat.le_of_ble_eq_true rfl) (L' := [some (aR 84), none, none, some (aI x3), some (aI 0), none, none, none]) rfl ?_
  exact tX10_years_211 hM FU x3 0 σ2
noncomputable def vX10_years_77 : Nat → Int → Int → Int → Sg → Option (Int × Sg)
  | 0, _, _, _, _ => none
  | f + 1, x2, x3, x4, σ => if x4 < x2 then ((vX10_term 0 σ).bind (fun r2 => if r2 < 999 then (bd2 (vX10_draw (σ 86 1) σ) (fun r4 σ5 => bd2 (vX10_draw (σ5 86 0) σ5) (fun r6 σ7 => bd2 (vX10_draw 3 σ7) (fun r8 σ9 => if r8 = 0 then (ck (in32 (29 + r4)) (ck (0 ≤ (29 + r4) ∧ (29 + r4) < 5505) (if (σ9 86 (29 + r4).toNat) = (-1) then (vX10_years_156 (vX10_years_77 f) x2 x3 x4 r4 r6 σ9) else (bd2 (vX10_leaveIt r4 σ9) (fun r12 σ13 => ck (in32 (x3 + r12)) (nm (x3 + r12) (fun z14 => vX10_years_178 (vX10_years_77 f) x2 z14 x4 σ13))))))) else (vX10_years_156 (vX10_years_77 f) x2 x3 x4 r4 r6 σ9))))) else (vX10_years_188 x3 σ))) else (vX10_years_188 x3 σ)
set_option maxRecDepth 100000 in
theorem tX10_years_77 {Γ : Gx} {K : Kt} (hM : mLay K)  : ∀ (f : Nat) (x2 x3 x4 : Int) (σ : Sg), Y Γ MX10_years K (emIS K) K 77 [some (aR 84), none, some (aI x2), some (aI x3), some (aI x4), none, none, none] [] σ (vX10_years_77 f x2 x3 x4 σ) := by
  intro f
  induction f with
  | zero => intro x2 x3 x4 σ; exact y_none
  | succ f ih =>
    intro x2 x3 x4 σ
    rw [vX10_years_77]
    refine y_iload dX10_years_77 rfl ?_
    refine y_iload_n dX10_years_79 rfl rfl ?_
    refine y_ite (fun h1 => ?_) (fun h1 => ?_)
    · refine y_icmp_ge_f dX10_years_80 (t := 188) rfl h1 ?_
      refine y_aload_n dX10_years_83 rfl rfl ?_
      refine y_iconst dX10_years_84 (by decide) ?_
      refine y_cvI (qX10_term hM 0 σ) kX10_398 rfl hM.1 rfl (by decide) rfl (Nat.le_of_ble_eq_true rfl) dX10_years_85 (fun r2 => ?_)
      refine y_sipush dX10_years_88 (by decide) (by decide) ?_
      refine y_ite (fun h3 => ?_) (fun h3 => ?_)
      · refine y_icmp_ge_f dX10_years_91 (t := 188) rfl h3 ?_
        refine y_aload_n dX10_years_94 rfl rfl ?_
        refine y_aload_n dX10_years_95 rfl rfl ?_
        refine y_getR fX10_13 hM.1 rfl (lM_3 hM).1 dX10_years_96 ?_
        refine y_iconst dX10_years_99 (by decide) ?_
        refine yl_iaload (lM_3 hM).2 (by decide) (j := 1) rfl dX10_years_100 ?_
        refine y_cvIS (qX10_draw hM (σ 86 1) σ) kX10_558 rfl hM.1 rfl (by decide) rfl (Nat.le_of_ble_eq_true rfl) dX10_years_101 (fun r4 σ5 => ?_)
        refine y_istore dX10_years_104 (Nat.le_of_ble_eq_true rfl) (L' := [some (aR 84), none, some (aI x2), some (aI x3), some (aI x4), some (aI r4), none, none]) rfl ?_
        refine y_aload_n dX10_years_106 rfl rfl ?_
        refine y_aload_n dX10_years_107 rfl rfl ?_
        refine y_getR fX10_13 hM.1 rfl (lM_3 hM).1 dX10_years_108 ?_
        refine y_iconst dX10_years_111 (by decide) ?_
        refine yl_iaload (lM_3 hM).2 (by decide) (j := 0) rfl dX10_years_112 ?_
        refine y_cvIS (qX10_draw hM (σ5 86 0) σ5) kX10_558 rfl hM.1 rfl (by decide) rfl (Nat.le_of_ble_eq_true rfl) dX10_years_113 (fun r6 σ7 => ?_)
        refine y_istore dX10_years_116 (Nat.le_of_ble_eq_true rfl) (L' := [some (aR 84), none, some (aI x2), some (aI x3), some (aI x4), some (aI r4), some (aI r6), none]) rfl ?_
        refine y_aload_n dX10_years_118 rfl rfl ?_
        refine y_iconst dX10_years_119 (by decide) ?_
        refine y_cvIS (qX10_draw hM 3 σ7) kX10_558 rfl hM.1 rfl (by decide) rfl (Nat.le_of_ble_eq_true rfl) dX10_years_120 (fun r8 σ9 => ?_)
        refine y_istore dX10_years_123 (Nat.le_of_ble_eq_true rfl) (L' := [some (aR 84), none, some (aI x2), some (aI x3), some (aI x4), some (aI r4), some (aI r6), some (aI r8)]) rfl ?_
        refine y_iload dX10_years_125 rfl ?_
        refine y_ite (fun h10 => ?_) (fun h10 => ?_)
        · refine y_if_ne_f dX10_years_127 (t := 156) rfl h10 ?_
          refine y_aload_n dX10_years_130 rfl rfl ?_
          refine y_getR fX10_13 hM.1 rfl (lM_3 hM).1 dX10_years_131 ?_
          refine y_bipush dX10_years_134 (by decide) (by decide) ?_
          refine y_iload dX10_years_136 rfl ?_
          refine yk_iadd dX10_years_138 ?_
          refine yk_iaload (lM_3 hM).2 (N := 5505) rfl (j := (29 + r4).toNat) rfl dX10_years_139 ?_
          refine y_iconst dX10_years_140 (by decide) ?_
          refine y_ite (fun h11 => ?_) (fun h11 => ?_)
          · refine y_icmp_eq_t dX10_years_141 (t := 156) rfl h11 ?_
            refine y_fg [true, false, true, true, true, true, true, false] (L' := [some (aR 84), none, some (aI x2), some (aI x3), some (aI x4), some (aI r4), some (aI r6), none]) rfl ?_
            exact tX10_years_156 hM (vX10_years_77 f) ih x2 x3 x4 r4 r6 σ9
          · refine y_icmp_eq_f dX10_years_141 (t := 156) rfl h11 ?_
            refine y_iload_n dX10_years_144 rfl rfl ?_
            refine y_aload_n dX10_years_145 rfl rfl ?_
            refine y_iload dX10_years_146 rfl ?_
            refine y_cvIS (qX10_leaveIt hM r4 σ9) kX10_442 rfl hM.1 rfl (by decide) rfl (Nat.le_of_ble_eq_true rfl) dX10_years_148 (fun r12 σ13 => ?_)
            refine yk_iadd dX10_years_151 ?_
            refine yn_istore_n dX10_years_152 rfl (Nat.le_of_ble_eq_true rfl) (L' := fun z14 => [some (aR 84), none, some (aI x2), some (aI z14), some (aI x4), some (aI r4), some (aI r6), some (aI r8)]) (fun _ => rfl) (fun z14 => ?_)
            refine y_goto dX10_years_153 (t := 178) rfl ?_
            refine y_fg [true, false, true, true, true, false, false, false] (L' := [some (aR 84), none, some (aI x2), some (aI z14), some (aI x4), none, none, none]) rfl ?_
            exact tX10_years_178 hM (vX10_years_77 f) ih x2 z14 x4 σ13
        · refine y_if_ne_t dX10_years_127 (t := 156) rfl h10 ?_
          refine y_fg [true, false, true, true, true, true, true, false] (L' := [some (aR 84), none, some (aI x2), some (aI x3), some (aI x4), some (aI r4), some (aI r6), none]) rfl ?_
          exact tX10_years_156 hM (vX10_years_77 f) ih x2 x3 x4 r4 r6 σ9
      · refine y_icmp_ge_t dX10_years_91 (t := 188) rfl h3 ?_
        refine y_fg [true, false, false, true, false, false, false, false] (L' := [some (aR 84), none, none, some (aI x3), none, none, none, none]) rfl ?_
        exact tX10_years_188 hM x3 σ
    · refine y_icmp_ge_t dX10_years_80 (t := 188) rfl h1 ?_
      refine y_fg [true, false, false, true, false, false, false, false] (L' := [some (aR 84), none, none, some (aI x3), none, none, none, none]) rfl ?_
      exact tX10_years_188 hM x3 σ
noncomputable def vX10_years (p1 : Int) (p2 : Int) (σ : Sg) : Option (Int × Sg) := nm (up2 σ 84 0 0) (fun σ1 => (vX10_in p1 0 1000000 σ1).bind (fun r2 => if r2 = 0 then (vX10_years_29 σ1) else ((vX10_in p2 1 60 σ1).bind (fun r4 => if r4 = 0 then (vX10_years_29 σ1) else (if (σ1 86 0) = 0 then (vX10_years_53 σ1) else (if (σ1 86 1) = 0 then (vX10_years_53 σ1) else ((vX10_keepAll 16 σ1).bind (fun σ8 => nm (up2 σ8 84 54 p1) (fun σ9 => vX10_years_77 FU p2 0 0 σ9)))))))))
set_option maxRecDepth 100000 in
theorem tX10_years {Γ : Gx} {K : Kt} (hM : mLay K) (p1 : Int) (p2 : Int) (σ : Sg) : Y Γ MX10_years K (emIS K) K 0 [some (aR 84), some (aI p1), some (aI p2), none, none, none, none, none] [] σ (vX10_years p1 p2 σ) := by
  unfold vX10_years
  refine y_aload_n dX10_years_0 rfl rfl ?_
  refine y_iconst dX10_years_1 (by decide) ?_
  refine yn_putI fX10_157 hM.1 rfl rfl dX10_years_2 (fun σ1 => ?_)
  refine y_iload_n dX10_years_5 rfl rfl ?_
  refine y_i2l dX10_years_6 ?_
  refine y_lconst 0 dX10_years_7 (by decide) (by decide) ?_
  refine y_ldc2 1000000 wX10_c253 dX10_years_8 (by decide) (by decide) ?_
  refine y_csI (qX10_in (K := K) p1 0 1000000 σ1) kX10_177 rfl (by decide) rfl (Nat.le_of_ble_eq_true rfl) dX10_years_11 (fun r2 => ?_)
  refine y_ite (fun h3 => ?_) (fun h3 => ?_)
  · refine y_if_eq_t dX10_years_14 (t := 29) rfl h3 ?_
    refine y_fg [true, false, false, false, false, false, false, false] (L' := [some (aR 84), none, none, none, none, none, none, none]) rfl ?_
    exact tX10_years_29 hM σ1
  · refine y_if_eq_f dX10_years_14 (t := 29) rfl h3 ?_
    refine y_iload_n dX10_years_17 rfl rfl ?_
    refine y_i2l dX10_years_18 ?_
    refine y_lconst 1 dX10_years_19 (by decide) (by decide) ?_
    refine y_ldc2 60 wX10_c556 dX10_years_20 (by decide) (by decide) ?_
    refine y_csI (qX10_in (K := K) p2 1 60 σ1) kX10_177 rfl (by decide) rfl (Nat.le_of_ble_eq_true rfl) dX10_years_23 (fun r4 => ?_)
    refine y_ite (fun h5 => ?_) (fun h5 => ?_)
    · refine y_if_ne_f dX10_years_26 (t := 35) rfl h5 ?_
      refine y_fg [true, false, false, false, false, false, false, false] (L' := [some (aR 84), none, none, none, none, none, none, none]) rfl ?_
      exact tX10_years_29 hM σ1
    · refine y_if_ne_t dX10_years_26 (t := 35) rfl h5 ?_
      refine y_aload_n dX10_years_35 rfl rfl ?_
      refine y_getR fX10_13 hM.1 rfl (lM_3 hM).1 dX10_years_36 ?_
      refine y_iconst dX10_years_39 (by decide) ?_
      refine yl_iaload (lM_3 hM).2 (by decide) (j := 0) rfl dX10_years_40 ?_
      refine y_ite (fun h6 => ?_) (fun h6 => ?_)
      · refine y_if_eq_t dX10_years_41 (t := 53) rfl h6 ?_
        refine y_fg [true, false, false, false, false, false, false, false] (L' := [some (aR 84), none, none, none, none, none, none, none]) rfl ?_
        exact tX10_years_53 hM σ1
      · refine y_if_eq_f dX10_years_41 (t := 53) rfl h6 ?_
        refine y_aload_n dX10_years_44 rfl rfl ?_
        refine y_getR fX10_13 hM.1 rfl (lM_3 hM).1 dX10_years_45 ?_
        refine y_iconst dX10_years_48 (by decide) ?_
        refine yl_iaload (lM_3 hM).2 (by decide) (j := 1) rfl dX10_years_49 ?_
        refine y_ite (fun h7 => ?_) (fun h7 => ?_)
        · refine y_if_ne_f dX10_years_50 (t := 60) rfl h7 ?_
          refine y_fg [true, false, false, false, false, false, false, false] (L' := [some (aR 84), none, none, none, none, none, none, none]) rfl ?_
          exact tX10_years_53 hM σ1
        · refine y_if_ne_t dX10_years_50 (t := 60) rfl h7 ?_
          refine y_aload_n dX10_years_60 rfl rfl ?_
          refine y_bipush dX10_years_61 (by decide) (by decide) ?_
          refine y_cvV (qX10_keepAll hM 16 σ1) kX10_170 rfl hM.1 rfl (by decide) rfl (Nat.le_of_ble_eq_true rfl) dX10_years_63 (fun σ8 => ?_)
          refine y_aload_n dX10_years_66 rfl rfl ?_
          refine y_iload_n dX10_years_67 rfl rfl ?_
          refine y_i2l dX10_years_68 ?_
          refine yn_putJ fX10_547 hM.1 rfl rfl dX10_years_69 (fun σ9 => ?_)
          refine y_iconst dX10_years_72 (by decide) ?_
          refine y_istore_n dX10_years_73 rfl (Nat.le_of_ble_eq_true rfl) (L' := [some (aR 84), some (aI p1), some (aI p2), some (aI 0), none, none, none, none]) rfl ?_
          refine y_iconst dX10_years_74 (by decide) ?_
          refine y_istore dX10_years_75 (Nat.le_of_ble_eq_true rfl) (L' := [some (aR 84), some (aI p1), some (aI p2), some (aI 0), some (aI 0), none, none, none]) rfl ?_
          refine y_fg [true, false, true, true, true, false, false, false] (L' := [some (aR 84), none, some (aI p2), some (aI 0), some (aI 0), none, none, none]) rfl ?_
          exact tX10_years_77 hM FU p2 0 0 σ9
theorem qX10_years {K : Kt} (hM : mLay K) (p1 : Int) (p2 : Int) (σ : Sg) : Cc MX10_years K [aR 84, aI p1, aI p2] σ (emIS K) (vX10_years p1 p2 σ) := cc_of plX10 (Nat.le_of_ble_eq_true rfl) (fun o _ => ⟨Nat.le_refl _, Nat.le_refl _⟩) (fun Γ => tX10_years hM p1 p2 σ)
noncomputable def vX10_drawn_36 (x1 x2 y0 y1 y2 : Int) (σ : Sg) : Option (Int × Sg) := ck (in64 (y2 - 1)) ((vX10_in y0 y1 (y2 - 1) σ).bind (fun r1 => if r1 = 0 then (some ((-1), σ)) else (if x2 = 3 then (ck (in32 (18 + x1)) (ck (0 ≤ (18 + x1) ∧ (18 + x1) < 26) (some ((σ 114 (18 + x1).toNat), σ)))) else (ck (in32 (3 * x1)) (ck (in32 ((3 * x1) + x2)) (ck (0 ≤ ((3 * x1) + x2) ∧ ((3 * x1) + x2) < 26) (some ((σ 114 ((3 * x1) + x2).toNat), σ))))))))
set_option maxRecDepth 100000 in
theorem tX10_drawn_36 {Γ : Gx} {K : Kt} (hM : mLay K)  (x1 x2 y0 y1 y2 : Int) (σ : Sg) : Y Γ MX10_drawn K (emIS K) K 36 [some (aR 84), some (aI x1), some (aI x2)] [aI y2, aL y1, aL y0] σ (vX10_drawn_36 x1 x2 y0 y1 y2 σ) := by
  unfold vX10_drawn_36
  refine y_i2l dX10_drawn_36 ?_
  refine y_lconst 1 dX10_drawn_37 (by decide) (by decide) ?_
  refine yk_lsub dX10_drawn_38 ?_
  refine y_csI (qX10_in (K := K) y0 y1 (y2 - 1) σ) kX10_177 rfl (by decide) rfl (Nat.le_of_ble_eq_true rfl) dX10_drawn_39 (fun r1 => ?_)
  refine y_ite (fun h2 => ?_) (fun h2 => ?_)
  · refine y_if_ne_f dX10_drawn_42 (t := 47) rfl h2 ?_
    refine y_iconst dX10_drawn_45 (by decide) ?_
    exact y_iret rfl rfl dX10_drawn_46
  · refine y_if_ne_t dX10_drawn_42 (t := 47) rfl h2 ?_
    refine y_iload_n dX10_drawn_47 rfl rfl ?_
    refine y_iconst dX10_drawn_48 (by decide) ?_
    refine y_ite (fun h3 => ?_) (fun h3 => ?_)
    · refine y_icmp_ne_f dX10_drawn_49 (t := 64) rfl h3 ?_
      refine y_aload_n dX10_drawn_52 rfl rfl ?_
      refine y_getR fX10_148 hM.1 rfl (lM_55 hM).1 dX10_drawn_53 ?_
      refine y_bipush dX10_drawn_56 (by decide) (by decide) ?_
      refine y_iload_n dX10_drawn_58 rfl rfl ?_
      refine yk_iadd dX10_drawn_59 ?_
      refine yk_iaload (lM_55 hM).2 (N := 26) rfl (j := (18 + x1).toNat) rfl dX10_drawn_60 ?_
      refine y_goto dX10_drawn_61 (t := 74) rfl ?_
      exact y_iret rfl rfl dX10_drawn_74
    · refine y_icmp_ne_t dX10_drawn_49 (t := 64) rfl h3 ?_
      refine y_aload_n dX10_drawn_64 rfl rfl ?_
      refine y_getR fX10_148 hM.1 rfl (lM_55 hM).1 dX10_drawn_65 ?_
      refine y_iconst dX10_drawn_68 (by decide) ?_
      refine y_iload_n dX10_drawn_69 rfl rfl ?_
      refine yk_imul dX10_drawn_70 ?_
      refine y_iload_n dX10_drawn_71 rfl rfl ?_
      refine yk_iadd dX10_drawn_72 ?_
      refine yk_iaload (lM_55 hM).2 (N := 26) rfl (j := ((3 * x1) + x2).toNat) rfl dX10_drawn_73 ?_
      exact y_iret rfl rfl dX10_drawn_74
noncomputable def vX10_drawn (p1 : Int) (p2 : Int) (σ : Sg) : Option (Int × Sg) := nm (up2 σ 84 0 0) (fun σ1 => (vX10_in p2 0 3 σ1).bind (fun r2 => if r2 = 0 then (some ((-1), σ1)) else (if p2 = 3 then (vX10_drawn_36 p1 p2 p1 0 (σ1 84 57) σ1) else (vX10_drawn_36 p1 p2 p1 0 (σ1 84 56) σ1))))
set_option maxRecDepth 100000 in
theorem tX10_drawn {Γ : Gx} {K : Kt} (hM : mLay K) (p1 : Int) (p2 : Int) (σ : Sg) : Y Γ MX10_drawn K (emIS K) K 0 [some (aR 84), some (aI p1), some (aI p2)] [] σ (vX10_drawn p1 p2 σ) := by
  unfold vX10_drawn
  refine y_aload_n dX10_drawn_0 rfl rfl ?_
  refine y_iconst dX10_drawn_1 (by decide) ?_
  refine yn_putI fX10_157 hM.1 rfl rfl dX10_drawn_2 (fun σ1 => ?_)
  refine y_iload_n dX10_drawn_5 rfl rfl ?_
  refine y_i2l dX10_drawn_6 ?_
  refine y_lconst 0 dX10_drawn_7 (by decide) (by decide) ?_
  refine y_ldc2 3 wX10_c561 dX10_drawn_8 (by decide) (by decide) ?_
  refine y_csI (qX10_in (K := K) p2 0 3 σ1) kX10_177 rfl (by decide) rfl (Nat.le_of_ble_eq_true rfl) dX10_drawn_11 (fun r2 => ?_)
  refine y_ite (fun h3 => ?_) (fun h3 => ?_)
  · refine y_if_eq_t dX10_drawn_14 (t := 45) rfl h3 ?_
    refine y_iconst dX10_drawn_45 (by decide) ?_
    exact y_iret rfl rfl dX10_drawn_46
  · refine y_if_eq_f dX10_drawn_14 (t := 45) rfl h3 ?_
    refine y_iload_n dX10_drawn_17 rfl rfl ?_
    refine y_i2l dX10_drawn_18 ?_
    refine y_lconst 0 dX10_drawn_19 (by decide) (by decide) ?_
    refine y_iload_n dX10_drawn_20 rfl rfl ?_
    refine y_iconst dX10_drawn_21 (by decide) ?_
    refine y_ite (fun h4 => ?_) (fun h4 => ?_)
    · refine y_icmp_ne_f dX10_drawn_22 (t := 32) rfl h4 ?_
      refine y_aload_n dX10_drawn_25 rfl rfl ?_
      refine y_getI fX10_154 hM.1 rfl dX10_drawn_26 ?_
      refine y_goto dX10_drawn_29 (t := 36) rfl ?_
      exact tX10_drawn_36 hM p1 p2 p1 0 (σ1 84 57) σ1
    · refine y_icmp_ne_t dX10_drawn_22 (t := 32) rfl h4 ?_
      refine y_aload_n dX10_drawn_32 rfl rfl ?_
      refine y_getI fX10_151 hM.1 rfl dX10_drawn_33 ?_
      exact tX10_drawn_36 hM p1 p2 p1 0 (σ1 84 56) σ1
theorem qX10_drawn {K : Kt} (hM : mLay K) (p1 : Int) (p2 : Int) (σ : Sg) : Cc MX10_drawn K [aR 84, aI p1, aI p2] σ (emIS K) (vX10_drawn p1 p2 σ) := cc_of plX10 (Nat.le_of_ble_eq_true rfl) (fun o _ => ⟨Nat.le_refl _, Nat.le_refl _⟩) (fun Γ => tX10_drawn hM p1 p2 σ)
noncomputable def vX10_lentOnes_4 (σ : Sg) : Nat → Int → Int → Option (Int)
  | 0, _, _ => none
  | f + 1, x1, x2 => if x2 < (σ 86 1) then (ck (in32 (29 + x2)) (ck (0 ≤ (29 + x2) ∧ (29 + x2) < 5505) (if (σ 86 (29 + x2).toNat) = (-1) then (ck (in32 (x1 + 0)) (nm (x1 + 0) (fun z3 => ck (in32 (x2 + 1)) (vX10_lentOnes_4 σ f z3 (x2 + 1))))) else (ck (in32 (x1 + 1)) (nm (x1 + 1) (fun z4 => ck (in32 (x2 + 1)) (vX10_lentOnes_4 σ f z4 (x2 + 1)))))))) else (some x1)
set_option maxRecDepth 100000 in
theorem tX10_lentOnes_4 {Γ : Gx} {K : Kt} (hM : mLay K) (σ : Sg)  : ∀ (f : Nat) (x1 x2 : Int), Y Γ MX10_lentOnes K (emI K σ) K 4 [some (aR 84), some (aI x1), some (aI x2)] [] σ (vX10_lentOnes_4 σ f x1 x2) := by
  intro f
  induction f with
  | zero => intro x1 x2; exact y_none
  | succ f ih =>
    intro x1 x2
    rw [vX10_lentOnes_4]
    refine y_iload_n dX10_lentOnes_4 rfl rfl ?_
    refine y_aload_n dX10_lentOnes_5 rfl rfl ?_
    refine y_getR fX10_13 hM.1 rfl (lM_3 hM).1 dX10_lentOnes_6 ?_
    refine y_iconst dX10_lentOnes_9 (by decide) ?_
    refine yl_iaload (lM_3 hM).2 (by decide) (j := 1) rfl dX10_lentOnes_10 ?_
    refine y_ite (fun h1 => ?_) (fun h1 => ?_)
    · refine y_icmp_ge_f dX10_lentOnes_11 (t := 41) rfl h1 ?_
      refine y_iload_n dX10_lentOnes_14 rfl rfl ?_
      refine y_aload_n dX10_lentOnes_15 rfl rfl ?_
      refine y_getR fX10_13 hM.1 rfl (lM_3 hM).1 dX10_lentOnes_16 ?_
      refine y_bipush dX10_lentOnes_19 (by decide) (by decide) ?_
      refine y_iload_n dX10_lentOnes_21 rfl rfl ?_
      refine yk_iadd dX10_lentOnes_22 ?_
      refine yk_iaload (lM_3 hM).2 (N := 5505) rfl (j := (29 + x2).toNat) rfl dX10_lentOnes_23 ?_
      refine y_iconst dX10_lentOnes_24 (by decide) ?_
      refine y_ite (fun h2 => ?_) (fun h2 => ?_)
      · refine y_icmp_ne_f dX10_lentOnes_25 (t := 32) rfl h2 ?_
        refine y_iconst dX10_lentOnes_28 (by decide) ?_
        refine y_goto dX10_lentOnes_29 (t := 33) rfl ?_
        refine yk_iadd dX10_lentOnes_33 ?_
        refine yn_istore_n dX10_lentOnes_34 rfl (Nat.le_of_ble_eq_true rfl) (L' := fun z3 => [some (aR 84), some (aI z3), some (aI x2)]) (fun _ => rfl) (fun z3 => ?_)
        refine yk_iinc dX10_lentOnes_35 rfl (L' := [some (aR 84), some (aI z3), some (aI (x2 + 1))]) rfl ?_
        refine y_goto dX10_lentOnes_38 (t := 4) rfl ?_
        exact ih z3 (x2 + 1)
      · refine y_icmp_ne_t dX10_lentOnes_25 (t := 32) rfl h2 ?_
        refine y_iconst dX10_lentOnes_32 (by decide) ?_
        refine yk_iadd dX10_lentOnes_33 ?_
        refine yn_istore_n dX10_lentOnes_34 rfl (Nat.le_of_ble_eq_true rfl) (L' := fun z4 => [some (aR 84), some (aI z4), some (aI x2)]) (fun _ => rfl) (fun z4 => ?_)
        refine yk_iinc dX10_lentOnes_35 rfl (L' := [some (aR 84), some (aI z4), some (aI (x2 + 1))]) rfl ?_
        refine y_goto dX10_lentOnes_38 (t := 4) rfl ?_
        exact ih z4 (x2 + 1)
    · refine y_icmp_ge_t dX10_lentOnes_11 (t := 41) rfl h1 ?_
      refine y_iload_n dX10_lentOnes_41 rfl rfl ?_
      exact y_iret rfl rfl dX10_lentOnes_42
noncomputable def vX10_lentOnes (σ : Sg) : Option (Int) := vX10_lentOnes_4 σ FU 0 0
set_option maxRecDepth 100000 in
theorem tX10_lentOnes {Γ : Gx} {K : Kt} (hM : mLay K) (σ : Sg) : Y Γ MX10_lentOnes K (emI K σ) K 0 [some (aR 84), none, none] [] σ (vX10_lentOnes σ) := by
  unfold vX10_lentOnes
  refine y_iconst dX10_lentOnes_0 (by decide) ?_
  refine y_istore_n dX10_lentOnes_1 rfl (Nat.le_of_ble_eq_true rfl) (L' := [some (aR 84), some (aI 0), none]) rfl ?_
  refine y_iconst dX10_lentOnes_2 (by decide) ?_
  refine y_istore_n dX10_lentOnes_3 rfl (Nat.le_of_ble_eq_true rfl) (L' := [some (aR 84), some (aI 0), some (aI 0)]) rfl ?_
  exact tX10_lentOnes_4 hM σ FU 0 0
theorem qX10_lentOnes {K : Kt} (hM : mLay K) (σ : Sg) : Cc MX10_lentOnes K [aR 84] σ (emI K σ) (vX10_lentOnes σ) := cc_of plX10 (Nat.le_of_ble_eq_true rfl) (fun o _ => ⟨Nat.le_refl _, Nat.le_refl _⟩) (fun Γ => tX10_lentOnes hM σ)
