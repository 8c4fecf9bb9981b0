noncomputable def vX10_endText_19 (σ : Sg) : Option (Sg) := nm (up2 σ 84 20 0) (fun σ1 => nm (up2 σ1 84 13 0) (fun σ2 => some σ2))
set_option maxRecDepth 100000 in
theorem tX10_endText_19 {Γ : Gx} {K : Kt} (hM : mLay K)  (σ : Sg) : Y Γ MX10_endText K (emV K) K 19 [some (aR 84)] [] σ (vX10_endText_19  σ) := by
  unfold vX10_endText_19
  refine y_aload_n dX10_endText_19 rfl rfl ?_
  refine y_iconst dX10_endText_20 (by decide) ?_
  refine yn_putZ (by decide) fX10_299 hM.1 rfl rfl dX10_endText_21 (fun σ1 => ?_)
  refine y_aload_n dX10_endText_24 rfl rfl ?_
  refine y_iconst dX10_endText_25 (by decide) ?_
  refine yn_putI fX10_212 hM.1 rfl rfl dX10_endText_26 (fun σ2 => ?_)
  exact y_vret rfl rfl dX10_endText_29
noncomputable def vX10_endText (σ : Sg) : Option (Sg) := if (σ 84 19) = 0 then (if (σ 84 16) = 0 then (vX10_endText_19 σ) else ((vX10_must 0 σ).bind (fun σ3 => vX10_endText_19 σ3))) else (vX10_endText_19 σ)
set_option maxRecDepth 100000 in
theorem tX10_endText {Γ : Gx} {K : Kt} (hM : mLay K) (σ : Sg) : Y Γ MX10_endText K (emV K) K 0 [some (aR 84)] [] σ (vX10_endText σ) := by
  unfold vX10_endText
  refine y_aload_n dX10_endText_0 rfl rfl ?_
  refine y_getI fX10_224 hM.1 rfl dX10_endText_1 ?_
  refine y_ite (fun h1 => ?_) (fun h1 => ?_)
  · refine y_if_ne_f dX10_endText_4 (t := 19) rfl h1 ?_
    refine y_aload_n dX10_endText_7 rfl rfl ?_
    refine y_getI fX10_244 hM.1 rfl dX10_endText_8 ?_
    refine y_ite (fun h2 => ?_) (fun h2 => ?_)
    · refine y_if_eq_t dX10_endText_11 (t := 19) rfl h2 ?_
      exact tX10_endText_19 hM σ
    · refine y_if_eq_f dX10_endText_11 (t := 19) rfl h2 ?_
      refine y_aload_n dX10_endText_14 rfl rfl ?_
      refine y_iconst dX10_endText_15 (by decide) ?_
      refine y_cvV (qX10_must hM 0 σ) kX10_257 rfl hM.1 rfl (by decide) rfl (Nat.le_of_ble_eq_true rfl) dX10_endText_16 (fun σ3 => ?_)
      exact tX10_endText_19 hM σ3
  · refine y_if_ne_t dX10_endText_4 (t := 19) rfl h1 ?_
    exact tX10_endText_19 hM σ
theorem qX10_endText {K : Kt} (hM : mLay K) (σ : Sg) : Cc MX10_endText K [aR 84] σ (emV K) (vX10_endText σ) := cc_of plX10 (Nat.le_of_ble_eq_true rfl) (fun o _ => ⟨Nat.le_refl _, Nat.le_refl _⟩) (fun Γ => tX10_endText hM σ)
noncomputable def vX10_readLaw_185 (x2 : Int) (σ : Sg) : Option (Sg) := ck (in32 (x2 + 6)) (ck (0 ≤ (x2 + 6) ∧ (x2 + 6) < 96) (nm (up2 σ 94 (x2 + 6).toNat (σ 84 23)) (fun σ1 => some σ1)))
set_option maxRecDepth 100000 in
theorem tX10_readLaw_185 {Γ : Gx} {K : Kt} (hM : mLay K)  (x2 : Int) (σ : Sg) : Y Γ MX10_readLaw K (emV K) K 185 [some (aR 84), none, some (aI x2), none] [] σ (vX10_readLaw_185 x2 σ) := by
  unfold vX10_readLaw_185
  refine y_aload_n dX10_readLaw_185 rfl rfl ?_
  refine y_getR fX10_42 hM.1 rfl (lM_22 hM).1 dX10_readLaw_186 ?_
  refine y_iload_n dX10_readLaw_189 rfl rfl ?_
  refine y_bipush dX10_readLaw_190 (by decide) (by decide) ?_
  refine yk_iadd dX10_readLaw_192 ?_
  refine y_aload_n dX10_readLaw_193 rfl rfl ?_
  refine y_getI fX10_261 hM.1 rfl dX10_readLaw_194 ?_
  refine yk_iastore (lM_22 hM).2 (N := 96) rfl (j := (x2 + 6).toNat) rfl dX10_readLaw_197 (fun σ1 => ?_)
  exact y_vret rfl rfl dX10_readLaw_198
noncomputable def vX10_readLaw_135 (x2 : Int) (σ : Sg) : Option (Sg) := ck (in32 (x2 + 4)) (ck (0 ≤ (x2 + 4) ∧ (x2 + 4) < 96) (nm (up2 σ 94 (x2 + 4).toNat (σ 84 23)) (fun σ1 => ck (in32 (x2 + 5)) (ck (0 ≤ (x2 + 5) ∧ (x2 + 5) < 96) (nm (up2 σ1 94 (x2 + 5).toNat (σ1 84 23)) (fun σ2 => if (σ2 84 19) = 0 then ((vX10_isWord 294 σ2).bind (fun r4 => if r4 = 0 then (vX10_readLaw_185 x2 σ2) else ((vX10_next σ2).bind (fun σ6 => (vX10_readExpression 1 σ6).bind (fun σ7 => vX10_readLaw_185 x2 σ7))))) else (vX10_readLaw_185 x2 σ2)))))))
set_option maxRecDepth 100000 in
theorem tX10_readLaw_135 {Γ : Gx} {K : Kt} (hM : mLay K)  (x2 : Int) (σ : Sg) : Y Γ MX10_readLaw K (emV K) K 135 [some (aR 84), none, some (aI x2), none] [] σ (vX10_readLaw_135 x2 σ) := by
  unfold vX10_readLaw_135
  refine y_aload_n dX10_readLaw_135 rfl rfl ?_
  refine y_getR fX10_42 hM.1 rfl (lM_22 hM).1 dX10_readLaw_136 ?_
  refine y_iload_n dX10_readLaw_139 rfl rfl ?_
  refine y_iconst dX10_readLaw_140 (by decide) ?_
  refine yk_iadd dX10_readLaw_141 ?_
  refine y_aload_n dX10_readLaw_142 rfl rfl ?_
  refine y_getI fX10_261 hM.1 rfl dX10_readLaw_143 ?_
  refine yk_iastore (lM_22 hM).2 (N := 96) rfl (j := (x2 + 4).toNat) rfl dX10_readLaw_146 (fun σ1 => ?_)
  refine y_aload_n dX10_readLaw_147 rfl rfl ?_
  refine y_getR fX10_42 hM.1 rfl (lM_22 hM).1 dX10_readLaw_148 ?_
  refine y_iload_n dX10_readLaw_151 rfl rfl ?_
  refine y_iconst dX10_readLaw_152 (by decide) ?_
  refine yk_iadd dX10_readLaw_153 ?_
  refine y_aload_n dX10_readLaw_154 rfl rfl ?_
  refine y_getI fX10_261 hM.1 rfl dX10_readLaw_155 ?_
  refine yk_iastore (lM_22 hM).2 (N := 96) rfl (j := (x2 + 5).toNat) rfl dX10_readLaw_158 (fun σ2 => ?_)
  refine y_aload_n dX10_readLaw_159 rfl rfl ?_
  refine y_getI fX10_224 hM.1 rfl dX10_readLaw_160 ?_
  refine y_ite (fun h3 => ?_) (fun h3 => ?_)
  · refine y_if_ne_f dX10_readLaw_163 (t := 185) rfl h3 ?_
    refine y_aload_n dX10_readLaw_166 rfl rfl ?_
    refine y_ldc2 294 wX10_c361 dX10_readLaw_167 (by decide) (by decide) ?_
    refine y_cvI (qX10_isWord hM 294 σ2) kX10_280 rfl hM.1 rfl (by decide) rfl (Nat.le_of_ble_eq_true rfl) dX10_readLaw_170 (fun r4 => ?_)
    refine y_ite (fun h5 => ?_) (fun h5 => ?_)
    · refine y_if_eq_t dX10_readLaw_173 (t := 185) rfl h5 ?_
      exact tX10_readLaw_185 hM x2 σ2
    · refine y_if_eq_f dX10_readLaw_173 (t := 185) rfl h5 ?_
      refine y_aload_n dX10_readLaw_176 rfl rfl ?_
      refine y_cvV (qX10_next hM σ2) kX10_228 rfl hM.1 rfl (by decide) rfl (Nat.le_of_ble_eq_true rfl) dX10_readLaw_177 (fun σ6 => ?_)
      refine y_aload_n dX10_readLaw_180 rfl rfl ?_
      refine y_iconst dX10_readLaw_181 (by decide) ?_
      refine y_cvV (qX10_readExpression hM 1 σ6) kX10_358 rfl hM.1 rfl (by decide) rfl (Nat.le_of_ble_eq_true rfl) dX10_readLaw_182 (fun σ7 => ?_)
      exact tX10_readLaw_185 hM x2 σ7
  · refine y_if_ne_t dX10_readLaw_163 (t := 185) rfl h3 ?_
    exact tX10_readLaw_185 hM x2 σ2
noncomputable def vX10_readLaw_75 : Nat → Int → Int → Int → Sg → Option (Sg)
  | 0, _, _, _, _ => none
  | f + 1, x1, x2, x3, σ => if x3 < 8 then (ck (in32 (x2 + x3)) (ck (0 ≤ (x2 + x3) ∧ (x2 + x3) < 96) (nm (up2 σ 94 (x2 + x3).toNat 0) (fun σ2 => ck (in32 (x3 + 1)) (vX10_readLaw_75 f x1 x2 (x3 + 1) σ2))))) else (ck (0 ≤ x2 ∧ x2 < 96) (nm (up2 σ 94 x2.toNat x1) (fun σ3 => ck (in32 ((σ3 84 21) + 1)) (nm (up2 σ3 84 21 ((σ3 84 21) + 1)) (fun σ4 => ck (in32 (x2 + 3)) (ck (0 ≤ (x2 + 3) ∧ (x2 + 3) < 96) (nm (up2 σ4 94 (x2 + 3).toNat (σ4 84 23)) (fun σ5 => if x1 = 3 then (vX10_readLaw_135 x2 σ5) else ((vX10_readExpression 0 σ5).bind (fun σ7 => vX10_readLaw_135 x2 σ7))))))))))
set_option maxRecDepth 100000 in
theorem tX10_readLaw_75 {Γ : Gx} {K : Kt} (hM : mLay K)  : ∀ (f : Nat) (x1 x2 x3 : Int) (σ : Sg), Y Γ MX10_readLaw K (emV K) K 75 [some (aR 84), some (aI x1), some (aI x2), some (aI x3)] [] σ (vX10_readLaw_75 f x1 x2 x3 σ) := by
  intro f
  induction f with
  | zero => intro x1 x2 x3 σ; exact y_none
  | succ f ih =>
    intro x1 x2 x3 σ
    rw [vX10_readLaw_75]
    refine y_iload_n dX10_readLaw_75 rfl rfl ?_
    refine y_bipush dX10_readLaw_76 (by decide) (by decide) ?_
    refine y_ite (fun h1 => ?_) (fun h1 => ?_)
    · refine y_icmp_ge_f dX10_readLaw_78 (t := 96) rfl h1 ?_
      refine y_aload_n dX10_readLaw_81 rfl rfl ?_
      refine y_getR fX10_42 hM.1 rfl (lM_22 hM).1 dX10_readLaw_82 ?_
      refine y_iload_n dX10_readLaw_85 rfl rfl ?_
      refine y_iload_n dX10_readLaw_86 rfl rfl ?_
      refine yk_iadd dX10_readLaw_87 ?_
      refine y_iconst dX10_readLaw_88 (by decide) ?_
      refine yk_iastore (lM_22 hM).2 (N := 96) rfl (j := (x2 + x3).toNat) rfl dX10_readLaw_89 (fun σ2 => ?_)
      refine yk_iinc dX10_readLaw_90 rfl (L' := [some (aR 84), some (aI x1), some (aI x2), some (aI (x3 + 1))]) rfl ?_
      refine y_goto dX10_readLaw_93 (t := 75) rfl ?_
      exact ih x1 x2 (x3 + 1) σ2
    · refine y_icmp_ge_t dX10_readLaw_78 (t := 96) rfl h1 ?_
      refine y_aload_n dX10_readLaw_96 rfl rfl ?_
      refine y_getR fX10_42 hM.1 rfl (lM_22 hM).1 dX10_readLaw_97 ?_
      refine y_iload_n dX10_readLaw_100 rfl rfl ?_
      refine y_iload_n dX10_readLaw_101 rfl rfl ?_
      refine yk_iastore (lM_22 hM).2 (N := 96) rfl (j := x2.toNat) rfl dX10_readLaw_102 (fun σ3 => ?_)
      refine y_aload_n dX10_readLaw_103 rfl rfl ?_
      refine y_dup dX10_readLaw_104 (fun _ => rfl) ?_
      refine y_getI fX10_355 hM.1 rfl dX10_readLaw_105 ?_
      refine y_iconst dX10_readLaw_108 (by decide) ?_
      refine yk_iadd dX10_readLaw_109 ?_
      refine yn_putI fX10_355 hM.1 rfl rfl dX10_readLaw_110 (fun σ4 => ?_)
      refine y_aload_n dX10_readLaw_113 rfl rfl ?_
      refine y_getR fX10_42 hM.1 rfl (lM_22 hM).1 dX10_readLaw_114 ?_
      refine y_iload_n dX10_readLaw_117 rfl rfl ?_
      refine y_iconst dX10_readLaw_118 (by decide) ?_
      refine yk_iadd dX10_readLaw_119 ?_
      refine y_aload_n dX10_readLaw_120 rfl rfl ?_
      refine y_getI fX10_261 hM.1 rfl dX10_readLaw_121 ?_
      refine yk_iastore (lM_22 hM).2 (N := 96) rfl (j := (x2 + 3).toNat) rfl dX10_readLaw_124 (fun σ5 => ?_)
      refine y_iload_n dX10_readLaw_125 rfl rfl ?_
      refine y_iconst dX10_readLaw_126 (by decide) ?_
      refine y_ite (fun h6 => ?_) (fun h6 => ?_)
      · refine y_icmp_eq_t dX10_readLaw_127 (t := 135) rfl h6 ?_
        refine y_fg [true, false, true, false] (L' := [some (aR 84), none, some (aI x2), none]) rfl ?_
        exact tX10_readLaw_135 hM x2 σ5
      · refine y_icmp_eq_f dX10_readLaw_127 (t := 135) rfl h6 ?_
        refine y_aload_n dX10_readLaw_130 rfl rfl ?_
        refine y_iconst dX10_readLaw_131 (by decide) ?_
        refine y_cvV (qX10_readExpression hM 0 σ5) kX10_358 rfl hM.1 rfl (by decide) rfl (Nat.le_of_ble_eq_true rfl) dX10_readLaw_132 (fun σ7 => ?_)
        refine y_fg [true, false, true, false] (L' := [some (aR 84), none, some (aI x2), none]) rfl ?_
        exact tX10_readLaw_135 hM x2 σ7
noncomputable def vX10_readLaw_54 (x1 y1 : Int) (σ : Sg) : Option (Sg) := (vX10_must y1 σ).bind (fun σ1 => if (σ1 84 19) = 0 then (ck (in32 (8 * (σ1 84 21))) (nm (8 * (σ1 84 21)) (fun z3 => vX10_readLaw_75 FU x1 z3 0 σ1))) else (some σ1))
set_option maxRecDepth 100000 in
theorem tX10_readLaw_54 {Γ : Gx} {K : Kt} (hM : mLay K)  (x1 y1 : Int) (σ : Sg) : Y Γ MX10_readLaw K (emV K) K 54 [some (aR 84), some (aI x1), none, none] [aI y1, aR 84] σ (vX10_readLaw_54 x1 y1 σ) := by
  unfold vX10_readLaw_54
  refine y_cvV (qX10_must hM y1 σ) kX10_257 rfl hM.1 rfl (by decide) rfl (Nat.le_of_ble_eq_true rfl) dX10_readLaw_54 (fun σ1 => ?_)
  refine y_aload_n dX10_readLaw_57 rfl rfl ?_
  refine y_getI fX10_224 hM.1 rfl dX10_readLaw_58 ?_
  refine y_ite (fun h2 => ?_) (fun h2 => ?_)
  · refine y_if_eq_t dX10_readLaw_61 (t := 65) rfl h2 ?_
    refine y_bipush dX10_readLaw_65 (by decide) (by decide) ?_
    refine y_aload_n dX10_readLaw_67 rfl rfl ?_
    refine y_getI fX10_355 hM.1 rfl dX10_readLaw_68 ?_
    refine yk_imul dX10_readLaw_71 ?_
    refine yn_istore_n dX10_readLaw_72 rfl (Nat.le_of_ble_eq_true rfl) (L' := fun z3 => [some (aR 84), some (aI x1), some (aI z3), none]) (fun _ => rfl) (fun z3 => ?_)
    refine y_iconst dX10_readLaw_73 (by decide) ?_
    refine y_istore_n dX10_readLaw_74 rfl (Nat.le_of_ble_eq_true rfl) (L' := [some (aR 84), some (aI x1), some (aI z3), some (aI 0)]) rfl ?_
    exact tX10_readLaw_75 hM FU x1 z3 0 σ1
  · refine y_if_eq_f dX10_readLaw_61 (t := 65) rfl h2 ?_
    exact y_vret rfl rfl dX10_readLaw_64
noncomputable def vX10_readLaw_53 (x1 : Int) (σ : Sg) : Option (Sg) := vX10_readLaw_54 x1 0 σ
set_option maxRecDepth 100000 in
theorem tX10_readLaw_53 {Γ : Gx} {K : Kt} (hM : mLay K)  (x1 : Int) (σ : Sg) : Y Γ MX10_readLaw K (emV K) K 53 [some (aR 84), some (aI x1), none, none] [aR 84] σ (vX10_readLaw_53 x1 σ) := by
  unfold vX10_readLaw_53
  refine y_iconst dX10_readLaw_53 (by decide) ?_
  exact tX10_readLaw_54 hM x1 0 σ
noncomputable def vX10_readLaw_4 : Nat → Int → Int → Sg → Option (Sg)
  | 0, _, _, _ => none
  | f + 1, x1, x2, σ => if x2 < 4 then (ck (0 ≤ x2 ∧ x2 < 4) ((vX10_isWord (σ 101 x2.toNat) σ).bind (fun r2 => if r2 = 0 then (ck (in32 (x2 + 1)) (vX10_readLaw_4 f x1 (x2 + 1) σ)) else (ck (in32 (x2 + 1)) (vX10_readLaw_4 f x2 (x2 + 1) σ))))) else (if x1 = (-1) then (vX10_readLaw_53 x1 σ) else (if (σ 84 21) < 12 then (vX10_readLaw_54 x1 1 σ) else (vX10_readLaw_53 x1 σ)))
set_option maxRecDepth 100000 in
theorem tX10_readLaw_4 {Γ : Gx} {K : Kt} (hM : mLay K)  : ∀ (f : Nat) (x1 x2 : Int) (σ : Sg), Y Γ MX10_readLaw K (emV K) K 4 [some (aR 84), some (aI x1), some (aI x2), none] [] σ (vX10_readLaw_4 f x1 x2 σ) := by
  intro f
  induction f with
  | zero => intro x1 x2 σ; exact y_none
  | succ f ih =>
    intro x1 x2 σ
    rw [vX10_readLaw_4]
    refine y_iload_n dX10_readLaw_4 rfl rfl ?_
    refine y_iconst dX10_readLaw_5 (by decide) ?_
    refine y_ite (fun h1 => ?_) (fun h1 => ?_)
    · refine y_icmp_ge_f dX10_readLaw_6 (t := 34) rfl h1 ?_
      refine y_aload_n dX10_readLaw_9 rfl rfl ?_
      refine y_aload_n dX10_readLaw_10 rfl rfl ?_
      refine y_getR fX10_98 hM.1 rfl (lM_33 hM).1 dX10_readLaw_11 ?_
      refine y_iload_n dX10_readLaw_14 rfl rfl ?_
      refine yk_laload (lM_33 hM).2 (N := 4) rfl (j := x2.toNat) rfl dX10_readLaw_15 ?_
      refine y_cvI (qX10_isWord hM (σ 101 x2.toNat) σ) kX10_280 rfl hM.1 rfl (by decide) rfl (Nat.le_of_ble_eq_true rfl) dX10_readLaw_16 (fun r2 => ?_)
      refine y_ite (fun h3 => ?_) (fun h3 => ?_)
      · refine y_if_eq_t dX10_readLaw_19 (t := 26) rfl h3 ?_
        refine y_iload_n dX10_readLaw_26 rfl rfl ?_
        refine y_istore_n dX10_readLaw_27 rfl (Nat.le_of_ble_eq_true rfl) (L' := [some (aR 84), some (aI x1), some (aI x2), none]) rfl ?_
        refine yk_iinc dX10_readLaw_28 rfl (L' := [some (aR 84), some (aI x1), some (aI (x2 + 1)), none]) rfl ?_
        refine y_goto dX10_readLaw_31 (t := 4) rfl ?_
        exact ih x1 (x2 + 1) σ
      · refine y_if_eq_f dX10_readLaw_19 (t := 26) rfl h3 ?_
        refine y_iload_n dX10_readLaw_22 rfl rfl ?_
        refine y_goto dX10_readLaw_23 (t := 27) rfl ?_
        refine y_istore_n dX10_readLaw_27 rfl (Nat.le_of_ble_eq_true rfl) (L' := [some (aR 84), some (aI x2), some (aI x2), none]) rfl ?_
        refine yk_iinc dX10_readLaw_28 rfl (L' := [some (aR 84), some (aI x2), some (aI (x2 + 1)), none]) rfl ?_
        refine y_goto dX10_readLaw_31 (t := 4) rfl ?_
        exact ih x2 (x2 + 1) σ
    · refine y_icmp_ge_t dX10_readLaw_6 (t := 34) rfl h1 ?_
      refine y_aload_n dX10_readLaw_34 rfl rfl ?_
      refine y_iload_n dX10_readLaw_35 rfl rfl ?_
      refine y_iconst dX10_readLaw_36 (by decide) ?_
      refine y_ite (fun h4 => ?_) (fun h4 => ?_)
      · refine y_icmp_eq_t dX10_readLaw_37 (t := 53) rfl h4 ?_
        refine y_fg [true, true, false, false] (L' := [some (aR 84), some (aI x1), none, none]) rfl ?_
        exact tX10_readLaw_53 hM x1 σ
      · refine y_icmp_eq_f dX10_readLaw_37 (t := 53) rfl h4 ?_
        refine y_aload_n dX10_readLaw_40 rfl rfl ?_
        refine y_getI fX10_355 hM.1 rfl dX10_readLaw_41 ?_
        refine y_bipush dX10_readLaw_44 (by decide) (by decide) ?_
        refine y_ite (fun h5 => ?_) (fun h5 => ?_)
        · refine y_icmp_ge_f dX10_readLaw_46 (t := 53) rfl h5 ?_
          refine y_iconst dX10_readLaw_49 (by decide) ?_
          refine y_goto dX10_readLaw_50 (t := 54) rfl ?_
          refine y_fg [true, true, false, false] (L' := [some (aR 84), some (aI x1), none, none]) rfl ?_
          exact tX10_readLaw_54 hM x1 1 σ
        · refine y_icmp_ge_t dX10_readLaw_46 (t := 53) rfl h5 ?_
          refine y_fg [true, true, false, false] (L' := [some (aR 84), some (aI x1), none, none]) rfl ?_
          exact tX10_readLaw_53 hM x1 σ
noncomputable def vX10_readLaw (σ : Sg) : Option (Sg) := vX10_readLaw_4 FU (-1) 0 σ
set_option maxRecDepth 100000 in
theorem tX10_readLaw {Γ : Gx} {K : Kt} (hM : mLay K) (σ : Sg) : Y Γ MX10_readLaw K (emV K) K 0 [some (aR 84), none, none, none] [] σ (vX10_readLaw σ) := by
  unfold vX10_readLaw
  refine y_iconst dX10_readLaw_0 (by decide) ?_
  refine y_istore_n dX10_readLaw_1 rfl (Nat.le_of_ble_eq_true rfl) (L' := [some (aR 84), some (aI (-1)), none, none]) rfl ?_
  refine y_iconst dX10_readLaw_2 (by decide) ?_
  refine y_istore_n dX10_readLaw_3 rfl (Nat.le_of_ble_eq_true rfl) (L' := [some (aR 84), some (aI (-1)), some (aI 0), none]) rfl ?_
  exact tX10_readLaw_4 hM FU (-1) 0 σ
theorem qX10_readLaw {K : Kt} (hM : mLay K) (σ : Sg) : Cc MX10_readLaw K [aR 84] σ (emV K) (vX10_readLaw σ) := cc_of plX10 (Nat.le_of_ble_eq_true rfl) (fun o _ => ⟨Nat.le_refl _, Nat.le_refl _⟩) (fun Γ => tX10_readLaw hM σ)
noncomputable def vX10_law_145 : Nat → Int → Int → Sg → Option (Int × Sg)
  | 0, _, _, _ => none
  | f + 1, x1, x2, σ => if x2 < (σ 84 23) then (ck (in32 (x1 + 98)) (ck (in32 (2 * x2)) (ck (in32 ((x1 + 98) + (2 * x2))) (ck (0 ≤ x2 ∧ x2 < 400) (ck (0 ≤ ((x1 + 98) + (2 * x2)) ∧ ((x1 + 98) + (2 * x2)) < 5505) (nm (up2 σ 86 ((x1 + 98) + (2 * x2)).toNat (σ 95 x2.toNat)) (fun σ2 => ck (in32 (x1 + 98)) (ck (in32 (2 * x2)) (ck (in32 ((x1 + 98) + (2 * x2))) (ck (in32 (((x1 + 98) + (2 * x2)) + 1)) (ck (0 ≤ x2 ∧ x2 < 400) (ck (0 ≤ (((x1 + 98) + (2 * x2)) + 1) ∧ (((x1 + 98) + (2 * x2)) + 1) < 5505) (nm (up2 σ2 86 (((x1 + 98) + (2 * x2)) + 1).toNat (σ2 96 x2.toNat)) (fun σ3 => ck (in32 (x2 + 1)) (vX10_law_145 f x1 (x2 + 1) σ3))))))))))))))) else (ck (in32 ((σ 86 2) + 1)) (nm (up2 σ 86 2 ((σ 86 2) + 1)) (fun σ4 => ck (in32 ((σ4 86 2) - 1)) (bd2 (vX10_tell ((σ4 86 2) - 1) σ4) (fun r5 σ6 => some (r5, σ6))))))
set_option maxRecDepth 100000 in
theorem tX10_law_145 {Γ : Gx} {K : Kt} (hM : mLay K)  : ∀ (f : Nat) (x1 x2 : Int) (σ : Sg), Y Γ MX10_law K (emIS K) K 145 [some (aR 84), some (aI x1), some (aI x2)] [] σ (vX10_law_145 f x1 x2 σ) := by
  intro f
  induction f with
  | zero => intro x1 x2 σ; exact y_none
  | succ f ih =>
    intro x1 x2 σ
    rw [vX10_law_145]
    refine y_iload_n dX10_law_145 rfl rfl ?_
    refine y_aload_n dX10_law_146 rfl rfl ?_
    refine y_getI fX10_261 hM.1 rfl dX10_law_147 ?_
    refine y_ite (fun h1 => ?_) (fun h1 => ?_)
    · refine y_icmp_ge_f dX10_law_150 (t := 199) rfl h1 ?_
      refine y_aload_n dX10_law_153 rfl rfl ?_
      refine y_getR fX10_13 hM.1 rfl (lM_3 hM).1 dX10_law_154 ?_
      refine y_iload_n dX10_law_157 rfl rfl ?_
      refine y_bipush dX10_law_158 (by decide) (by decide) ?_
      refine yk_iadd dX10_law_160 ?_
      refine y_iconst dX10_law_161 (by decide) ?_
      refine y_iload_n dX10_law_162 rfl rfl ?_
      refine yk_imul dX10_law_163 ?_
      refine yk_iadd dX10_law_164 ?_
      refine y_aload_n dX10_law_165 rfl rfl ?_
      refine y_getR fX10_45 hM.1 rfl (lM_24 hM).1 dX10_law_166 ?_
      refine y_iload_n dX10_law_169 rfl rfl ?_
      refine yk_iaload (lM_24 hM).2 (N := 400) rfl (j := x2.toNat) rfl dX10_law_170 ?_
      refine yk_iastore (lM_3 hM).2 (N := 5505) rfl (j := ((x1 + 98) + (2 * x2)).toNat) rfl dX10_law_171 (fun σ2 => ?_)
      refine y_aload_n dX10_law_172 rfl rfl ?_
      refine y_getR fX10_13 hM.1 rfl (lM_3 hM).1 dX10_law_173 ?_
      refine y_iload_n dX10_law_176 rfl rfl ?_
      refine y_bipush dX10_law_177 (by decide) (by decide) ?_
      refine yk_iadd dX10_law_179 ?_
      refine y_iconst dX10_law_180 (by decide) ?_
      refine y_iload_n dX10_law_181 rfl rfl ?_
      refine yk_imul dX10_law_182 ?_
      refine yk_iadd dX10_law_183 ?_
      refine y_iconst dX10_law_184 (by decide) ?_
      refine yk_iadd dX10_law_185 ?_
      refine y_aload_n dX10_law_186 rfl rfl ?_
      refine y_getR fX10_48 hM.1 rfl (lM_25 hM).1 dX10_law_187 ?_
      refine y_iload_n dX10_law_190 rfl rfl ?_
      refine yk_iaload (lM_25 hM).2 (N := 400) rfl (j := x2.toNat) rfl dX10_law_191 ?_
      refine yk_iastore (lM_3 hM).2 (N := 5505) rfl (j := (((x1 + 98) + (2 * x2)) + 1).toNat) rfl dX10_law_192 (fun σ3 => ?_)
      refine yk_iinc dX10_law_193 rfl (L' := [some (aR 84), some (aI x1), some (aI (x2 + 1))]) rfl ?_
      refine y_goto dX10_law_196 (t := 145) rfl ?_
      exact ih x1 (x2 + 1) σ3
    · refine y_icmp_ge_t dX10_law_150 (t := 199) rfl h1 ?_
      refine y_aload_n dX10_law_199 rfl rfl ?_
      refine y_getR fX10_13 hM.1 rfl (lM_3 hM).1 dX10_law_200 ?_
      refine y_iconst dX10_law_203 (by decide) ?_
      refine y_dup2 dX10_law_204 (fun _ => rfl) (fun _ => rfl) ?_
      refine yl_iaload (lM_3 hM).2 (by decide) (j := 2) rfl dX10_law_205 ?_
      refine y_iconst dX10_law_206 (by decide) ?_
      refine yk_iadd dX10_law_207 ?_
      refine yl_iastore (lM_3 hM).2 (by decide) (j := 2) rfl dX10_law_208 (fun σ4 => ?_)
      refine y_aload_n dX10_law_209 rfl rfl ?_
      refine y_aload_n dX10_law_210 rfl rfl ?_
      refine y_getR fX10_13 hM.1 rfl (lM_3 hM).1 dX10_law_211 ?_
      refine y_iconst dX10_law_214 (by decide) ?_
      refine yl_iaload (lM_3 hM).2 (by decide) (j := 2) rfl dX10_law_215 ?_
      refine y_iconst dX10_law_216 (by decide) ?_
      refine yk_isub dX10_law_217 ?_
      refine y_cvIS (qX10_tell hM ((σ4 86 2) - 1) σ4) kX10_166 rfl hM.1 rfl (by decide) rfl (Nat.le_of_ble_eq_true rfl) dX10_law_218 (fun r5 σ6 => ?_)
      exact y_iret rfl rfl dX10_law_221
noncomputable def vX10_law_110 : Nat → Int → Int → Sg → Option (Int × Sg)
  | 0, _, _, _ => none
  | f + 1, x1, x2, σ => ck (in32 (8 * (σ 84 21))) (if x2 < (8 * (σ 84 21)) then (ck (in32 (x1 + 2)) (ck (in32 ((x1 + 2) + x2)) (ck (0 ≤ x2 ∧ x2 < 96) (ck (0 ≤ ((x1 + 2) + x2) ∧ ((x1 + 2) + x2) < 5505) (nm (up2 σ 86 ((x1 + 2) + x2).toNat (σ 94 x2.toNat)) (fun σ2 => ck (in32 (x2 + 1)) (vX10_law_110 f x1 (x2 + 1) σ2))))))) else (vX10_law_145 FU x1 0 σ))
set_option maxRecDepth 100000 in
theorem tX10_law_110 {Γ : Gx} {K : Kt} (hM : mLay K)  : ∀ (f : Nat) (x1 x2 : Int) (σ : Sg), Y Γ MX10_law K (emIS K) K 110 [some (aR 84), some (aI x1), some (aI x2)] [] σ (vX10_law_110 f x1 x2 σ) := by
  intro f
  induction f with
  | zero => intro x1 x2 σ; exact y_none
  | succ f ih =>
    intro x1 x2 σ
    rw [vX10_law_110]
    refine y_iload_n dX10_law_110 rfl rfl ?_
    refine y_bipush dX10_law_111 (by decide) (by decide) ?_
    refine y_aload_n dX10_law_113 rfl rfl ?_
    refine y_getI fX10_355 hM.1 rfl dX10_law_114 ?_
    refine yk_imul dX10_law_117 ?_
    refine y_ite (fun h1 => ?_) (fun h1 => ?_)
    · refine y_icmp_ge_f dX10_law_118 (t := 143) rfl h1 ?_
      refine y_aload_n dX10_law_121 rfl rfl ?_
      refine y_getR fX10_13 hM.1 rfl (lM_3 hM).1 dX10_law_122 ?_
      refine y_iload_n dX10_law_125 rfl rfl ?_
      refine y_iconst dX10_law_126 (by decide) ?_
      refine yk_iadd dX10_law_127 ?_
      refine y_iload_n dX10_law_128 rfl rfl ?_
      refine yk_iadd dX10_law_129 ?_
      refine y_aload_n dX10_law_130 rfl rfl ?_
      refine y_getR fX10_42 hM.1 rfl (lM_22 hM).1 dX10_law_131 ?_
      refine y_iload_n dX10_law_134 rfl rfl ?_
      refine yk_iaload (lM_22 hM).2 (N := 96) rfl (j := x2.toNat) rfl dX10_law_135 ?_
      refine yk_iastore (lM_3 hM).2 (N := 5505) rfl (j := ((x1 + 2) + x2).toNat) rfl dX10_law_136 (fun σ2 => ?_)
      refine yk_iinc dX10_law_137 rfl (L' := [some (aR 84), some (aI x1), some (aI (x2 + 1))]) rfl ?_
      refine y_goto dX10_law_140 (t := 110) rfl ?_
      exact ih x1 (x2 + 1) σ2
    · refine y_icmp_ge_t dX10_law_118 (t := 143) rfl h1 ?_
      refine y_iconst dX10_law_143 (by decide) ?_
      refine y_istore_n dX10_law_144 rfl (Nat.le_of_ble_eq_true rfl) (L' := [some (aR 84), some (aI x1), some (aI 0)]) rfl ?_
      exact tX10_law_145 hM FU x1 0 σ
noncomputable def vX10_law_64 (σ : Sg) : Option (Int × Sg) := (vX10_endText σ).bind (fun σ1 => if (σ1 84 19) = 0 then (ck (in32 (900 * (σ1 86 2))) (ck (in32 (105 + (900 * (σ1 86 2)))) (nm (105 + (900 * (σ1 86 2))) (fun z3 => ck (in32 (z3 + 1)) (ck (0 ≤ (z3 + 1) ∧ (z3 + 1) < 5505) (nm (up2 σ1 86 (z3 + 1).toNat (σ1 84 21)) (fun σ4 => vX10_law_110 FU z3 0 σ4))))))) else (bd2 (vX10_tell (-6) σ1) (fun r5 σ6 => some (r5, σ6))))
set_option maxRecDepth 100000 in
theorem tX10_law_64 {Γ : Gx} {K : Kt} (hM : mLay K)  (σ : Sg) : Y Γ MX10_law K (emIS K) K 64 [some (aR 84), none, none] [] σ (vX10_law_64  σ) := by
  unfold vX10_law_64
  refine y_aload_n dX10_law_64 rfl rfl ?_
  refine y_cvV (qX10_endText hM σ) kX10_369 rfl hM.1 rfl (by decide) rfl (Nat.le_of_ble_eq_true rfl) dX10_law_65 (fun σ1 => ?_)
  refine y_aload_n dX10_law_68 rfl rfl ?_
  refine y_getI fX10_224 hM.1 rfl dX10_law_69 ?_
  refine y_ite (fun h2 => ?_) (fun h2 => ?_)
  · refine y_if_eq_t dX10_law_72 (t := 82) rfl h2 ?_
    refine y_bipush dX10_law_82 (by decide) (by decide) ?_
    refine y_sipush dX10_law_84 (by decide) (by decide) ?_
    refine y_aload_n dX10_law_87 rfl rfl ?_
    refine y_getR fX10_13 hM.1 rfl (lM_3 hM).1 dX10_law_88 ?_
    refine y_iconst dX10_law_91 (by decide) ?_
    refine yl_iaload (lM_3 hM).2 (by decide) (j := 2) rfl dX10_law_92 ?_
    refine yk_imul dX10_law_93 ?_
    refine yk_iadd dX10_law_94 ?_
    refine yn_istore_n dX10_law_95 rfl (Nat.le_of_ble_eq_true rfl) (L' := fun z3 => [some (aR 84), some (aI z3), none]) (fun _ => rfl) (fun z3 => ?_)
    refine y_aload_n dX10_law_96 rfl rfl ?_
    refine y_getR fX10_13 hM.1 rfl (lM_3 hM).1 dX10_law_97 ?_
    refine y_iload_n dX10_law_100 rfl rfl ?_
    refine y_iconst dX10_law_101 (by decide) ?_
    refine yk_iadd dX10_law_102 ?_
    refine y_aload_n dX10_law_103 rfl rfl ?_
    refine y_getI fX10_355 hM.1 rfl dX10_law_104 ?_
    refine yk_iastore (lM_3 hM).2 (N := 5505) rfl (j := (z3 + 1).toNat) rfl dX10_law_107 (fun σ4 => ?_)
    refine y_iconst dX10_law_108 (by decide) ?_
    refine y_istore_n dX10_law_109 rfl (Nat.le_of_ble_eq_true rfl) (L' := [some (aR 84), some (aI z3), some (aI 0)]) rfl ?_
    exact tX10_law_110 hM FU z3 0 σ4
  · refine y_if_eq_f dX10_law_72 (t := 82) rfl h2 ?_
    refine y_aload_n dX10_law_75 rfl rfl ?_
    refine y_bipush dX10_law_76 (by decide) (by decide) ?_
    refine y_cvIS (qX10_tell hM (-6) σ1) kX10_166 rfl hM.1 rfl (by decide) rfl (Nat.le_of_ble_eq_true rfl) dX10_law_78 (fun r5 σ6 => ?_)
    exact y_iret rfl rfl dX10_law_81
noncomputable def vX10_law_37 : Nat → Sg → Option (Int × Sg)
  | 0, _ => none
  | f + 1, σ => if (σ 84 19) = 0 then ((vX10_isSign 59 σ).bind (fun r2 => if r2 = 0 then (vX10_law_64 σ) else ((vX10_next σ).bind (fun σ4 => (vX10_readLaw σ4).bind (fun σ5 => vX10_law_37 f σ5))))) else (vX10_law_64 σ)
set_option maxRecDepth 100000 in
theorem tX10_law_37 {Γ : Gx} {K : Kt} (hM : mLay K)  : ∀ (f : Nat) (σ : Sg), Y Γ MX10_law K (emIS K) K 37 [some (aR 84), none, none] [] σ (vX10_law_37 f  σ) := by
  intro f
  induction f with
  | zero => intro  σ; exact y_none
  | succ f ih =>
    intro  σ
    rw [vX10_law_37]
    refine y_aload_n dX10_law_37 rfl rfl ?_
    refine y_getI fX10_224 hM.1 rfl dX10_law_38 ?_
    refine y_ite (fun h1 => ?_) (fun h1 => ?_)
    · refine y_if_ne_f dX10_law_41 (t := 64) rfl h1 ?_
      refine y_aload_n dX10_law_44 rfl rfl ?_
      refine y_bipush dX10_law_45 (by decide) (by decide) ?_
      refine y_cvI (qX10_isSign hM 59 σ) kX10_293 rfl hM.1 rfl (by decide) rfl (Nat.le_of_ble_eq_true rfl) dX10_law_47 (fun r2 => ?_)
      refine y_ite (fun h3 => ?_) (fun h3 => ?_)
      · refine y_if_eq_t dX10_law_50 (t := 64) rfl h3 ?_
        exact tX10_law_64 hM σ
      · refine y_if_eq_f dX10_law_50 (t := 64) rfl h3 ?_
        refine y_aload_n dX10_law_53 rfl rfl ?_
        refine y_cvV (qX10_next hM σ) kX10_228 rfl hM.1 rfl (by decide) rfl (Nat.le_of_ble_eq_true rfl) dX10_law_54 (fun σ4 => ?_)
        refine y_aload_n dX10_law_57 rfl rfl ?_
        refine y_cvV (qX10_readLaw hM σ4) kX10_366 rfl hM.1 rfl (by decide) rfl (Nat.le_of_ble_eq_true rfl) dX10_law_58 (fun σ5 => ?_)
        refine y_goto dX10_law_61 (t := 37) rfl ?_
        exact ih σ5
    · refine y_if_ne_t dX10_law_41 (t := 64) rfl h1 ?_
      exact tX10_law_64 hM σ
noncomputable def vX10_law (σ : Sg) : Option (Int × Sg) := nm (up2 σ 84 0 0) (fun σ1 => if (σ1 86 2) = 6 then (nm (up2 σ1 84 13 0) (fun σ3 => bd2 (vX10_tell (-5) σ3) (fun r4 σ5 => some (r4, σ5)))) else ((vX10_beginText 0 σ1).bind (fun σ6 => (vX10_readLaw σ6).bind (fun σ7 => vX10_law_37 FU σ7))))
set_option maxRecDepth 100000 in
theorem tX10_law {Γ : Gx} {K : Kt} (hM : mLay K) (σ : Sg) : Y Γ MX10_law K (emIS K) K 0 [some (aR 84), none, none] [] σ (vX10_law σ) := by
  unfold vX10_law
  refine y_aload_n dX10_law_0 rfl rfl ?_
  refine y_iconst dX10_law_1 (by decide) ?_
  refine yn_putI fX10_157 hM.1 rfl rfl dX10_law_2 (fun σ1 => ?_)
  refine y_aload_n dX10_law_5 rfl rfl ?_
  refine y_getR fX10_13 hM.1 rfl (lM_3 hM).1 dX10_law_6 ?_
  refine y_iconst dX10_law_9 (by decide) ?_
  refine yl_iaload (lM_3 hM).2 (by decide) (j := 2) rfl dX10_law_10 ?_
  refine y_bipush dX10_law_11 (by decide) (by decide) ?_
  refine y_ite (fun h2 => ?_) (fun h2 => ?_)
  · refine y_icmp_ne_f dX10_law_13 (t := 28) rfl h2 ?_
    refine y_aload_n dX10_law_16 rfl rfl ?_
    refine y_iconst dX10_law_17 (by decide) ?_
    refine yn_putI fX10_212 hM.1 rfl rfl dX10_law_18 (fun σ3 => ?_)
    refine y_aload_n dX10_law_21 rfl rfl ?_
    refine y_bipush dX10_law_22 (by decide) (by decide) ?_
    refine y_cvIS (qX10_tell hM (-5) σ3) kX10_166 rfl hM.1 rfl (by decide) rfl (Nat.le_of_ble_eq_true rfl) dX10_law_24 (fun r4 σ5 => ?_)
    exact y_iret rfl rfl dX10_law_27
  · refine y_icmp_ne_t dX10_law_13 (t := 28) rfl h2 ?_
    refine y_aload_n dX10_law_28 rfl rfl ?_
    refine y_iconst dX10_law_29 (by decide) ?_
    refine y_cvV (qX10_beginText hM 0 σ1) kX10_363 rfl hM.1 rfl (by decide) rfl (Nat.le_of_ble_eq_true rfl) dX10_law_30 (fun σ6 => ?_)
    refine y_aload_n dX10_law_33 rfl rfl ?_
    refine y_cvV (qX10_readLaw hM σ6) kX10_366 rfl hM.1 rfl (by decide) rfl (Nat.le_of_ble_eq_true rfl) dX10_law_34 (fun σ7 => ?_)
    exact tX10_law_37 hM FU σ7
theorem qX10_law {K : Kt} (hM : mLay K) (σ : Sg) : Cc MX10_law K [aR 84] σ (emIS K) (vX10_law σ) := cc_of plX10 (Nat.le_of_ble_eq_true rfl) (fun o _ => ⟨Nat.le_refl _, Nat.le_refl _⟩) (fun Γ => tX10_law hM σ)
noncomputable def vX10_isLaw (p1 : Int) (σ : Sg) : Option (Int) := if p1 = (-1) then (some 1) else (ck (in64 ((σ 86 2) - 1)) ((vX10_in p1 0 ((σ 86 2) - 1) σ).bind (fun r2 => if r2 = 0 then (some 0) else (some 1))))
set_option maxRecDepth 100000 in
theorem tX10_isLaw {Γ : Gx} {K : Kt} (hM : mLay K) (p1 : Int) (σ : Sg) : Y Γ MX10_isLaw K (emI K σ) K 0 [some (aR 84), some (aI p1)] [] σ (vX10_isLaw p1 σ) := by
  unfold vX10_isLaw
  refine y_iload_n dX10_isLaw_0 rfl rfl ?_
  refine y_iconst dX10_isLaw_1 (by decide) ?_
  refine y_ite (fun h1 => ?_) (fun h1 => ?_)
  · refine y_icmp_eq_t dX10_isLaw_2 (t := 23) rfl h1 ?_
    refine y_iconst dX10_isLaw_23 (by decide) ?_
    refine y_goto dX10_isLaw_24 (t := 28) rfl ?_
    exact y_zret (by decide) rfl rfl dX10_isLaw_28
  · refine y_icmp_eq_f dX10_isLaw_2 (t := 23) rfl h1 ?_
    refine y_iload_n dX10_isLaw_5 rfl rfl ?_
    refine y_i2l dX10_isLaw_6 ?_
    refine y_lconst 0 dX10_isLaw_7 (by decide) (by decide) ?_
    refine y_aload_n dX10_isLaw_8 rfl rfl ?_
    refine y_getR fX10_13 hM.1 rfl (lM_3 hM).1 dX10_isLaw_9 ?_
    refine y_iconst dX10_isLaw_12 (by decide) ?_
    refine yl_iaload (lM_3 hM).2 (by decide) (j := 2) rfl dX10_isLaw_13 ?_
    refine y_i2l dX10_isLaw_14 ?_
    refine y_lconst 1 dX10_isLaw_15 (by decide) (by decide) ?_
    refine yk_lsub dX10_isLaw_16 ?_
    refine y_csI (qX10_in (K := K) p1 0 ((σ 86 2) - 1) σ) kX10_177 rfl (by decide) rfl (Nat.le_of_ble_eq_true rfl) dX10_isLaw_17 (fun r2 => ?_)
    refine y_ite (fun h3 => ?_) (fun h3 => ?_)
    · refine y_if_eq_t dX10_isLaw_20 (t := 27) rfl h3 ?_
      refine y_iconst dX10_isLaw_27 (by decide) ?_
      exact y_zret (by decide) rfl rfl dX10_isLaw_28
    · refine y_if_eq_f dX10_isLaw_20 (t := 27) rfl h3 ?_
      refine y_iconst dX10_isLaw_23 (by decide) ?_
      refine y_goto dX10_isLaw_24 (t := 28) rfl ?_
      exact y_zret (by decide) rfl rfl dX10_isLaw_28
theorem qX10_isLaw {K : Kt} (hM : mLay K) (p1 : Int) (σ : Sg) : Cc MX10_isLaw K [aR 84, aI p1] σ (emI K σ) (vX10_isLaw p1 σ) := cc_of plX10 (Nat.le_of_ble_eq_true rfl) (fun o _ => ⟨Nat.le_refl _, Nat.le_refl _⟩) (fun Γ => tX10_isLaw hM p1 σ)
noncomputable def vX10_force (p1 : Int) (σ : Sg) : Option (Int × Sg) := nm (up2 σ 84 0 0) (fun σ1 => (vX10_isLaw p1 σ1).bind (fun r2 => if r2 = 0 then (bd2 (vX10_tell (-2) σ1) (fun r4 σ5 => some (r4, σ5))) else (bd2 (vX10_change 3 p1 σ1) (fun r6 σ7 => some (r6, σ7)))))
set_option maxRecDepth 100000 in
theorem tX10_force {Γ : Gx} {K : Kt} (hM : mLay K) (p1 : Int) (σ : Sg) : Y Γ MX10_force K (emIS K) K 0 [some (aR 84), some (aI p1)] [] σ (vX10_force p1 σ) := by
  unfold vX10_force
  refine y_aload_n dX10_force_0 rfl rfl ?_
  refine y_iconst dX10_force_1 (by decide) ?_
  refine yn_putI fX10_157 hM.1 rfl rfl dX10_force_2 (fun σ1 => ?_)
  refine y_aload_n dX10_force_5 rfl rfl ?_
  refine y_iload_n dX10_force_6 rfl rfl ?_
  refine y_cvI (qX10_isLaw hM p1 σ1) kX10_372 rfl hM.1 rfl (by decide) rfl (Nat.le_of_ble_eq_true rfl) dX10_force_7 (fun r2 => ?_)
  refine y_ite (fun h3 => ?_) (fun h3 => ?_)
  · refine y_if_eq_t dX10_force_10 (t := 22) rfl h3 ?_
    refine y_aload_n dX10_force_22 rfl rfl ?_
    refine y_bipush dX10_force_23 (by decide) (by decide) ?_
    refine y_cvIS (qX10_tell hM (-2) σ1) kX10_166 rfl hM.1 rfl (by decide) rfl (Nat.le_of_ble_eq_true rfl) dX10_force_25 (fun r4 σ5 => ?_)
    exact y_iret rfl rfl dX10_force_28
  · refine y_if_eq_f dX10_force_10 (t := 22) rfl h3 ?_
    refine y_aload_n dX10_force_13 rfl rfl ?_
    refine y_iconst dX10_force_14 (by decide) ?_
    refine y_iload_n dX10_force_15 rfl rfl ?_
    refine y_cvIS (qX10_change hM 3 p1 σ1) kX10_208 rfl hM.1 rfl (by decide) rfl (Nat.le_of_ble_eq_true rfl) dX10_force_16 (fun r6 σ7 => ?_)
    refine y_goto dX10_force_19 (t := 28) rfl ?_
    exact y_iret rfl rfl dX10_force_28
theorem qX10_force {K : Kt} (hM : mLay K) (p1 : Int) (σ : Sg) : Cc MX10_force K [aR 84, aI p1] σ (emIS K) (vX10_force p1 σ) := cc_of plX10 (Nat.le_of_ble_eq_true rfl) (fun o _ => ⟨Nat.le_refl _, Nat.le_refl _⟩) (fun Γ => tX10_force hM p1 σ)
noncomputable def vX10_reckon_72 (x2 x4 y1 : Int) (σ : Sg) : Option (Int × Sg) := ck (y1 = 0 ∨ y1 = 1) (nm (up2 σ 84 38 y1) (fun σ1 => if (σ1 84 38) = 0 then (ck (¬ x4 = 0 ∧ in64 (Int.tdiv x2 x4)) (some ((Int.tdiv x2 x4), σ1))) else (some (0, σ1))))
set_option maxRecDepth 100000 in
theorem tX10_reckon_72 {Γ : Gx} {K : Kt} (hM : mLay K)  (x2 x4 y1 : Int) (σ : Sg) : Y Γ MX10_reckon K (emLS K) K 72 [some (aR 84), none, some (aL x2), none, some (aL x4), none] [aI y1, aR 84] σ (vX10_reckon_72 x2 x4 y1 σ) := by
  unfold vX10_reckon_72
  refine yk_putZ fX10_375 hM.1 rfl rfl dX10_reckon_72 (fun σ1 => ?_)
  refine y_aload_n dX10_reckon_75 rfl rfl ?_
  refine y_getI fX10_375 hM.1 rfl dX10_reckon_76 ?_
  refine y_ite (fun h2 => ?_) (fun h2 => ?_)
  · refine y_if_eq_t dX10_reckon_79 (t := 86) rfl h2 ?_
    refine y_lload_n dX10_reckon_86 rfl rfl ?_
    refine y_lload dX10_reckon_87 rfl ?_
    refine yk_ldiv dX10_reckon_89 ?_
    exact y_lret rfl rfl dX10_reckon_90
  · refine y_if_eq_f dX10_reckon_79 (t := 86) rfl h2 ?_
    refine y_lconst 0 dX10_reckon_82 (by decide) (by decide) ?_
    refine y_goto dX10_reckon_83 (t := 90) rfl ?_
    exact y_lret rfl rfl dX10_reckon_90
noncomputable def vX10_reckon_104 (x2 x4 y1 : Int) (σ : Sg) : Option (Int × Sg) := ck (y1 = 0 ∨ y1 = 1) (nm (up2 σ 84 38 y1) (fun σ1 => if (σ1 84 38) = 0 then (ck (¬ x4 = 0 ∧ in64 (Int.tmod x2 x4)) (some ((Int.tmod x2 x4), σ1))) else (some (0, σ1))))
set_option maxRecDepth 100000 in
theorem tX10_reckon_104 {Γ : Gx} {K : Kt} (hM : mLay K)  (x2 x4 y1 : Int) (σ : Sg) : Y Γ MX10_reckon K (emLS K) K 104 [some (aR 84), none, some (aL x2), none, some (aL x4), none] [aI y1, aR 84] σ (vX10_reckon_104 x2 x4 y1 σ) := by
  unfold vX10_reckon_104
  refine yk_putZ fX10_375 hM.1 rfl rfl dX10_reckon_104 (fun σ1 => ?_)
  refine y_aload_n dX10_reckon_107 rfl rfl ?_
  refine y_getI fX10_375 hM.1 rfl dX10_reckon_108 ?_
  refine y_ite (fun h2 => ?_) (fun h2 => ?_)
  · refine y_if_eq_t dX10_reckon_111 (t := 118) rfl h2 ?_
    refine y_lload_n dX10_reckon_118 rfl rfl ?_
    refine y_lload dX10_reckon_119 rfl ?_
    refine yk_lrem dX10_reckon_121 ?_
    exact y_lret rfl rfl dX10_reckon_122
  · refine y_if_eq_f dX10_reckon_111 (t := 118) rfl h2 ?_
    refine y_lconst 0 dX10_reckon_114 (by decide) (by decide) ?_
    refine y_goto dX10_reckon_115 (t := 122) rfl ?_
    exact y_lret rfl rfl dX10_reckon_122
noncomputable def vX10_reckon (p1 : Int) (p2 : Int) (p3 : Int) (σ : Sg) : Option (Int × Sg) := if p1 = 20 then (ck (in64 (p2 + p3)) (some ((p2 + p3), σ))) else (if p1 = 21 then (ck (in64 (p2 - p3)) (some ((p2 - p3), σ))) else (if p1 = 22 then (ck (in64 (p2 * p3)) (some ((p2 * p3), σ))) else (if p1 = 23 then (if p3 = 0 then (vX10_reckon_72 p2 p3 1 σ) else (vX10_reckon_72 p2 p3 0 σ)) else (if p1 = 24 then (if p3 = 0 then (vX10_reckon_104 p2 p3 1 σ) else (vX10_reckon_104 p2 p3 0 σ)) else (if p1 = 25 then (if p2 < p3 then (some (1, σ)) else (some (0, σ))) else (if p1 = 26 then (if p3 < p2 then (some (1, σ)) else (some (0, σ))) else (if p2 = p3 then (some (1, σ)) else (some (0, σ)))))))))
set_option maxRecDepth 100000 in
theorem tX10_reckon {Γ : Gx} {K : Kt} (hM : mLay K) (p1 : Int) (p2 : Int) (p3 : Int) (σ : Sg) : Y Γ MX10_reckon K (emLS K) K 0 [some (aR 84), some (aI p1), some (aL p2), none, some (aL p3), none] [] σ (vX10_reckon p1 p2 p3 σ) := by
  unfold vX10_reckon
  refine y_iload_n dX10_reckon_0 rfl rfl ?_
  refine y_ite (fun h12 => ?_) (fun h12 => ?_)
  · refine y_tab_in dX10_reckon_1 (t := 44) (off := 43) (by omega) (by rw [h12]; rfl) rfl ?_
    refine y_lload_n dX10_reckon_44 rfl rfl ?_
    refine y_lload dX10_reckon_45 rfl ?_
    refine yk_ladd dX10_reckon_47 ?_
    exact y_lret rfl rfl dX10_reckon_48
  · refine y_ite (fun h11 => ?_) (fun h11 => ?_)
    · refine y_tab_in dX10_reckon_1 (t := 49) (off := 48) (by omega) (by rw [h11]; rfl) rfl ?_
      refine y_lload_n dX10_reckon_49 rfl rfl ?_
      refine y_lload dX10_reckon_50 rfl ?_
      refine yk_lsub dX10_reckon_52 ?_
      exact y_lret rfl rfl dX10_reckon_53
    · refine y_ite (fun h10 => ?_) (fun h10 => ?_)
      · refine y_tab_in dX10_reckon_1 (t := 54) (off := 53) (by omega) (by rw [h10]; rfl) rfl ?_
        refine y_lload_n dX10_reckon_54 rfl rfl ?_
        refine y_lload dX10_reckon_55 rfl ?_
        refine yk_lmul dX10_reckon_57 ?_
        exact y_lret rfl rfl dX10_reckon_58
      · refine y_ite (fun h9 => ?_) (fun h9 => ?_)
        · refine y_tab_in dX10_reckon_1 (t := 59) (off := 58) (by omega) (by rw [h9]; rfl) rfl ?_
          refine y_aload_n dX10_reckon_59 rfl rfl ?_
          refine y_lload dX10_reckon_60 rfl ?_
          refine y_lconst 0 dX10_reckon_62 (by decide) (by decide) ?_
          refine y_lcmp dX10_reckon_63 ?_
          refine y_ite (fun h1 => ?_) (fun h1 => ?_)
          · refine y_if_ne_f dX10_reckon_64 (t := 71) rfl (cmp3_eq.mpr h1) ?_
            refine y_iconst dX10_reckon_67 (by decide) ?_
            refine y_goto dX10_reckon_68 (t := 72) rfl ?_
            refine y_fg [true, false, true, false, true, false] (L' := [some (aR 84), none, some (aL p2), none, some (aL p3), none]) rfl ?_
            exact tX10_reckon_72 hM p2 p3 1 σ
          · refine y_if_ne_t dX10_reckon_64 (t := 71) rfl (fun z => h1 (cmp3_eq.mp z)) ?_
            refine y_iconst dX10_reckon_71 (by decide) ?_
            refine y_fg [true, false, true, false, true, false] (L' := [some (aR 84), none, some (aL p2), none, some (aL p3), none]) rfl ?_
            exact tX10_reckon_72 hM p2 p3 0 σ
        · refine y_ite (fun h8 => ?_) (fun h8 => ?_)
          · refine y_tab_in dX10_reckon_1 (t := 91) (off := 90) (by omega) (by rw [h8]; rfl) rfl ?_
            refine y_aload_n dX10_reckon_91 rfl rfl ?_
            refine y_lload dX10_reckon_92 rfl ?_
            refine y_lconst 0 dX10_reckon_94 (by decide) (by decide) ?_
            refine y_lcmp dX10_reckon_95 ?_
            refine y_ite (fun h2 => ?_) (fun h2 => ?_)
            · refine y_if_ne_f dX10_reckon_96 (t := 103) rfl (cmp3_eq.mpr h2) ?_
              refine y_iconst dX10_reckon_99 (by decide) ?_
              refine y_goto dX10_reckon_100 (t := 104) rfl ?_
              refine y_fg [true, false, true, false, true, false] (L' := [some (aR 84), none, some (aL p2), none, some (aL p3), none]) rfl ?_
              exact tX10_reckon_104 hM p2 p3 1 σ
            · refine y_if_ne_t dX10_reckon_96 (t := 103) rfl (fun z => h2 (cmp3_eq.mp z)) ?_
              refine y_iconst dX10_reckon_103 (by decide) ?_
              refine y_fg [true, false, true, false, true, false] (L' := [some (aR 84), none, some (aL p2), none, some (aL p3), none]) rfl ?_
              exact tX10_reckon_104 hM p2 p3 0 σ
          · refine y_ite (fun h7 => ?_) (fun h7 => ?_)
            · refine y_tab_in dX10_reckon_1 (t := 123) (off := 122) (by omega) (by rw [h7]; rfl) rfl ?_
              refine y_lload_n dX10_reckon_123 rfl rfl ?_
              refine y_lload dX10_reckon_124 rfl ?_
              refine y_lcmp dX10_reckon_126 ?_
              refine y_ite (fun h3 => ?_) (fun h3 => ?_)
              · refine y_if_ge_f dX10_reckon_127 (t := 134) rfl (cmp3_lt.mpr h3) ?_
                refine y_lconst 1 dX10_reckon_130 (by decide) (by decide) ?_
                refine y_goto dX10_reckon_131 (t := 135) rfl ?_
                exact y_lret rfl rfl dX10_reckon_135
              · refine y_if_ge_t dX10_reckon_127 (t := 134) rfl (fun z => h3 (cmp3_lt.mp z)) ?_
                refine y_lconst 0 dX10_reckon_134 (by decide) (by decide) ?_
                exact y_lret rfl rfl dX10_reckon_135
            · refine y_ite (fun h6 => ?_) (fun h6 => ?_)
              · refine y_tab_in dX10_reckon_1 (t := 136) (off := 135) (by omega) (by rw [h6]; rfl) rfl ?_
                refine y_lload_n dX10_reckon_136 rfl rfl ?_
                refine y_lload dX10_reckon_137 rfl ?_
                refine y_lcmp dX10_reckon_139 ?_
                refine y_ite (fun h4 => ?_) (fun h4 => ?_)
                · refine y_if_le_f dX10_reckon_140 (t := 147) rfl (cmp3_gt.mpr h4) ?_
                  refine y_lconst 1 dX10_reckon_143 (by decide) (by decide) ?_
                  refine y_goto dX10_reckon_144 (t := 148) rfl ?_
                  exact y_lret rfl rfl dX10_reckon_148
                · refine y_if_le_t dX10_reckon_140 (t := 147) rfl (fun z => h4 (cmp3_gt.mp z)) ?_
                  refine y_lconst 0 dX10_reckon_147 (by decide) (by decide) ?_
                  exact y_lret rfl rfl dX10_reckon_148
              · refine y_tab_out dX10_reckon_1 (t := 149) (by omega) rfl ?_
                refine y_lload_n dX10_reckon_149 rfl rfl ?_
                refine y_lload dX10_reckon_150 rfl ?_
                refine y_lcmp dX10_reckon_152 ?_
                refine y_ite (fun h5 => ?_) (fun h5 => ?_)
                · refine y_if_ne_f dX10_reckon_153 (t := 160) rfl (cmp3_eq.mpr h5) ?_
                  refine y_lconst 1 dX10_reckon_156 (by decide) (by decide) ?_
                  refine y_goto dX10_reckon_157 (t := 161) rfl ?_
                  exact y_lret rfl rfl dX10_reckon_161
                · refine y_if_ne_t dX10_reckon_153 (t := 160) rfl (fun z => h5 (cmp3_eq.mp z)) ?_
                  refine y_lconst 0 dX10_reckon_160 (by decide) (by decide) ?_
                  exact y_lret rfl rfl dX10_reckon_161
theorem qX10_reckon {K : Kt} (hM : mLay K) (p1 : Int) (p2 : Int) (p3 : Int) (σ : Sg) : Cc MX10_reckon K [aR 84, aI p1, aL p2, aL p3] σ (emLS K) (vX10_reckon p1 p2 p3 σ) := cc_of plX10 (Nat.le_of_ble_eq_true rfl) (fun o _ => ⟨Nat.le_refl _, Nat.le_refl _⟩) (fun Γ => tX10_reckon hM p1 p2 p3 σ)
noncomputable def vX10_reckonAll_236 (rec_10 : Int → Int → Int → Sg → Option (Sg)) (x2 x3 x4 y1 y2 : Int) (σ : Sg) : Option (Sg) := ck (0 ≤ y1 ∧ y1 < 400) (nm (up2 σ 104 y1.toNat y2) (fun σ1 => ck (in32 (x3 + 1)) (rec_10 x2 (x3 + 1) x4 σ1)))
set_option maxRecDepth 100000 in
theorem tX10_reckonAll_236 {Γ : Gx} {K : Kt} (hM : mLay K)  (rec_10 : Int → Int → Int → Sg → Option (Sg)) (hrec_10 : ∀ (x2 x3 x4 : Int) (σ : Sg), Y Γ MX10_reckonAll K (emV K) K 10 [some (aR 84), none, some (aI x2), some (aI x3), some (aI x4), none, none] [] σ (rec_10 x2 x3 x4 σ)) (x2 x3 x4 y1 y2 : Int) (σ : Sg) : Y Γ MX10_reckonAll K (emV K) K 236 [some (aR 84), none, some (aI x2), some (aI x3), some (aI x4), none, none] [aL y2, aI y1, aR 104] σ (vX10_reckonAll_236 rec_10 x2 x3 x4 y1 y2 σ) := by
  unfold vX10_reckonAll_236
  refine yk_lastore (lM_37 hM).2 (N := 400) rfl (j := y1.toNat) rfl dX10_reckonAll_236 (fun σ1 => ?_)
  refine yk_iinc dX10_reckonAll_237 rfl (L' := [some (aR 84), none, some (aI x2), some (aI (x3 + 1)), some (aI x4), none, none]) rfl ?_
  refine y_goto dX10_reckonAll_240 (t := 382) rfl ?_
  refine y_goto dX10_reckonAll_382 (t := 10) rfl ?_
  exact hrec_10 x2 (x3 + 1) x4 σ1
noncomputable def vX10_reckonAll_186 (rec_10 : Int → Int → Int → Sg → Option (Sg)) (x2 x3 x4 y1 y2 : Int) (σ : Sg) : Option (Sg) := vX10_reckonAll_236 rec_10 x2 x3 x4 y1 y2 σ
set_option maxRecDepth 100000 in
theorem tX10_reckonAll_186 {Γ : Gx} {K : Kt} (hM : mLay K)  (rec_10 : Int → Int → Int → Sg → Option (Sg)) (hrec_10 : ∀ (x2 x3 x4 : Int) (σ : Sg), Y Γ MX10_reckonAll K (emV K) K 10 [some (aR 84), none, some (aI x2), some (aI x3), some (aI x4), none, none] [] σ (rec_10 x2 x3 x4 σ)) (x2 x3 x4 y1 y2 : Int) (σ : Sg) : Y Γ MX10_reckonAll K (emV K) K 186 [some (aR 84), none, some (aI x2), some (aI x3), some (aI x4), none, none] [aI y2, aI y1, aR 104] σ (vX10_reckonAll_186 rec_10 x2 x3 x4 y1 y2 σ) := by
  unfold vX10_reckonAll_186
  refine y_i2l dX10_reckonAll_186 ?_
  refine y_goto dX10_reckonAll_187 (t := 236) rfl ?_
  exact tX10_reckonAll_236 hM rec_10 hrec_10 x2 x3 x4 y1 y2 σ
noncomputable def vX10_reckonAll_314 (rec_10 : Int → Int → Int → Sg → Option (Sg)) (x2 x3 x4 y1 : Int) (σ : Sg) : Option (Sg) := ck (y1 = 0 ∨ y1 = 1) (nm (up2 σ 84 38 y1) (fun σ1 => rec_10 x2 x3 x4 σ1))
set_option maxRecDepth 100000 in
theorem tX10_reckonAll_314 {Γ : Gx} {K : Kt} (hM : mLay K)  (rec_10 : Int → Int → Int → Sg → Option (Sg)) (hrec_10 : ∀ (x2 x3 x4 : Int) (σ : Sg), Y Γ MX10_reckonAll K (emV K) K 10 [some (aR 84), none, some (aI x2), some (aI x3), some (aI x4), none, none] [] σ (rec_10 x2 x3 x4 σ)) (x2 x3 x4 y1 : Int) (σ : Sg) : Y Γ MX10_reckonAll K (emV K) K 314 [some (aR 84), none, some (aI x2), some (aI x3), some (aI x4), none, none] [aI y1, aR 84] σ (vX10_reckonAll_314 rec_10 x2 x3 x4 y1 σ) := by
  unfold vX10_reckonAll_314
  refine yk_putZ fX10_375 hM.1 rfl rfl dX10_reckonAll_314 (fun σ1 => ?_)
  refine y_goto dX10_reckonAll_317 (t := 382) rfl ?_
  refine y_goto dX10_reckonAll_382 (t := 10) rfl ?_
  exact hrec_10 x2 x3 x4 σ1
noncomputable def vX10_reckonAll_309 (rec_10 : Int → Int → Int → Sg → Option (Sg)) (x2 x3 x4 : Int) (σ : Sg) : Option (Sg) := vX10_reckonAll_314 rec_10 x2 x3 x4 1 σ
set_option maxRecDepth 100000 in
theorem tX10_reckonAll_309 {Γ : Gx} {K : Kt} (hM : mLay K)  (rec_10 : Int → Int → Int → Sg → Option (Sg)) (hrec_10 : ∀ (x2 x3 x4 : Int) (σ : Sg), Y Γ MX10_reckonAll K (emV K) K 10 [some (aR 84), none, some (aI x2), some (aI x3), some (aI x4), none, none] [] σ (rec_10 x2 x3 x4 σ)) (x2 x3 x4 : Int) (σ : Sg) : Y Γ MX10_reckonAll K (emV K) K 309 [some (aR 84), none, some (aI x2), some (aI x3), some (aI x4), none, none] [aR 84] σ (vX10_reckonAll_309 rec_10 x2 x3 x4 σ) := by
  unfold vX10_reckonAll_309
  refine y_iconst dX10_reckonAll_309 (by decide) ?_
  refine y_goto dX10_reckonAll_310 (t := 314) rfl ?_
  exact tX10_reckonAll_314 hM rec_10 hrec_10 x2 x3 x4 1 σ
noncomputable def vX10_reckonAll_368 (rec_10 : Int → Int → Int → Sg → Option (Sg)) (x2 x3 x4 x6 y0 y1 : Int) (σ : Sg) : Option (Sg) := if y0 = y1 then (rec_10 x2 x3 x6 σ) else (ck (in32 (x3 + (-1))) (rec_10 x2 (x3 + (-1)) x4 σ))
set_option maxRecDepth 100000 in
theorem tX10_reckonAll_368 {Γ : Gx} {K : Kt} (hM : mLay K)  (rec_10 : Int → Int → Int → Sg → Option (Sg)) (hrec_10 : ∀ (x2 x3 x4 : Int) (σ : Sg), Y Γ MX10_reckonAll K (emV K) K 10 [some (aR 84), none, some (aI x2), some (aI x3), some (aI x4), none, none] [] σ (rec_10 x2 x3 x4 σ)) (x2 x3 x4 x6 y0 y1 : Int) (σ : Sg) : Y Γ MX10_reckonAll K (emV K) K 368 [some (aR 84), none, some (aI x2), some (aI x3), some (aI x4), none, some (aI x6)] [aL y1, aL y0] σ (vX10_reckonAll_368 rec_10 x2 x3 x4 x6 y0 y1 σ) := by
  unfold vX10_reckonAll_368
  refine y_lcmp dX10_reckonAll_368 ?_
  refine y_ite (fun h1 => ?_) (fun h1 => ?_)
  · refine y_if_ne_f dX10_reckonAll_369 (t := 379) rfl (cmp3_eq.mpr h1) ?_
    refine y_iload dX10_reckonAll_372 rfl ?_
    refine y_istore dX10_reckonAll_374 (Nat.le_of_ble_eq_true rfl) (L' := [some (aR 84), none, some (aI x2), some (aI x3), some (aI x6), none, some (aI x6)]) rfl ?_
    refine y_goto dX10_reckonAll_376 (t := 382) rfl ?_
    refine y_goto dX10_reckonAll_382 (t := 10) rfl ?_
    refine y_fg [true, false, true, true, true, false, false] (L' := [some (aR 84), none, some (aI x2), some (aI x3), some (aI x6), none, none]) rfl ?_
    exact hrec_10 x2 x3 x6 σ
  · refine y_if_ne_t dX10_reckonAll_369 (t := 379) rfl (fun z => h1 (cmp3_eq.mp z)) ?_
    refine yk_iinc dX10_reckonAll_379 rfl (L' := [some (aR 84), none, some (aI x2), some (aI (x3 + (-1))), some (aI x4), none, some (aI x6)]) rfl ?_
    refine y_goto dX10_reckonAll_382 (t := 10) rfl ?_
    refine y_fg [true, false, true, true, true, false, false] (L' := [some (aR 84), none, some (aI x2), some (aI (x3 + (-1))), some (aI x4), none, none]) rfl ?_
    exact hrec_10 x2 (x3 + (-1)) x4 σ
noncomputable def vX10_reckonAll_95 (rec_10 : Int → Int → Int → Sg → Option (Sg)) (x2 x3 x4 x5 y0 : Int) (σ : Sg) : Option (Sg) := ck (in32 (x4 + 1)) (if x5 < 20 then (if x5 = 0 then (vX10_reckonAll_236 rec_10 x2 x3 (x4 + 1) x3 y0 σ) else (if (σ 84 20) = 0 then (ck (0 ≤ x5 ∧ x5 < 13) (vX10_reckonAll_236 rec_10 x2 x3 (x4 + 1) x3 (σ 102 x5.toNat) σ)) else (if x5 < 5 then (ck (0 ≤ x5 ∧ x5 < 13) (vX10_reckonAll_236 rec_10 x2 x3 (x4 + 1) x3 (σ 103 x5.toNat) σ)) else (if x5 = 7 then ((vX10_isBook y0 σ).bind (fun r6 => if r6 = 0 then (vX10_reckonAll_186 rec_10 x2 x3 (x4 + 1) x3 (-1) σ) else (ck (in32 (9 + y0)) (ck (0 ≤ (9 + y0) ∧ (9 + y0) < 5505) (vX10_reckonAll_186 rec_10 x2 x3 (x4 + 1) x3 (σ 86 (9 + y0).toNat) σ))))) else ((vX10_isReader y0 σ).bind (fun r8 => if r8 = 0 then (vX10_reckonAll_236 rec_10 x2 x3 (x4 + 1) x3 (-1) σ) else (if x5 = 5 then (ck (in32 (29 + y0)) (ck (0 ≤ (29 + y0) ∧ (29 + y0) < 5505) (vX10_reckonAll_236 rec_10 x2 x3 (x4 + 1) x3 (σ 86 (29 + y0).toNat) σ))) else (ck (in32 (23 + y0)) (ck (0 ≤ (23 + y0) ∧ (23 + y0) < 5505) (vX10_reckonAll_236 rec_10 x2 x3 (x4 + 1) x3 (σ 86 (23 + y0).toNat) σ)))))))))) else (if x5 < 28 then (ck (in32 (x3 + (-1))) (ck (in32 ((x3 + (-1)) - 1)) (ck (in32 ((x3 + (-1)) - 1)) (ck (0 ≤ ((x3 + (-1)) - 1) ∧ ((x3 + (-1)) - 1) < 400) (ck (0 ≤ (x3 + (-1)) ∧ (x3 + (-1)) < 400) (bd2 (vX10_reckon x5 (σ 104 ((x3 + (-1)) - 1).toNat) (σ 104 (x3 + (-1)).toNat) σ) (fun r12 σ13 => ck (0 ≤ ((x3 + (-1)) - 1) ∧ ((x3 + (-1)) - 1) < 400) (nm (up2 σ13 104 ((x3 + (-1)) - 1).toNat r12) (fun σ14 => if (σ14 84 38) = 0 then (ck (in32 ((x3 + (-1)) - 1)) (ck (0 ≤ ((x3 + (-1)) - 1) ∧ ((x3 + (-1)) - 1) < 400) ((vX10_in (σ14 104 ((x3 + (-1)) - 1).toNat) (-1000000000) 1000000000 σ14).bind (fun r16 => if r16 = 0 then (vX10_reckonAll_309 rec_10 x2 (x3 + (-1)) (x4 + 1) σ14) else (vX10_reckonAll_314 rec_10 x2 (x3 + (-1)) (x4 + 1) 0 σ14))))) else (vX10_reckonAll_309 rec_10 x2 (x3 + (-1)) (x4 + 1) σ14)))))))))) else (if x5 = 28 then (ck (in32 (x3 - 1)) (ck (in32 (x3 - 1)) (ck (0 ≤ (x3 - 1) ∧ (x3 - 1) < 400) (ck (in64 (1 - (σ 104 (x3 - 1).toNat))) (ck (0 ≤ (x3 - 1) ∧ (x3 - 1) < 400) (nm (up2 σ 104 (x3 - 1).toNat (1 - (σ 104 (x3 - 1).toNat))) (fun σ19 => rec_10 x2 x3 (x4 + 1) σ19))))))) else (ck (in32 (x3 - 1)) (ck (0 ≤ (x3 - 1) ∧ (x3 - 1) < 400) (if x5 = 29 then (vX10_reckonAll_368 rec_10 x2 x3 (x4 + 1) y0 (σ 104 (x3 - 1).toNat) 0 σ) else (vX10_reckonAll_368 rec_10 x2 x3 (x4 + 1) y0 (σ 104 (x3 - 1).toNat) 1 σ)))))))
set_option maxRecDepth 100000 in
theorem tX10_reckonAll_95 {Γ : Gx} {K : Kt} (hM : mLay K)  (rec_10 : Int → Int → Int → Sg → Option (Sg)) (hrec_10 : ∀ (x2 x3 x4 : Int) (σ : Sg), Y Γ MX10_reckonAll K (emV K) K 10 [some (aR 84), none, some (aI x2), some (aI x3), some (aI x4), none, none] [] σ (rec_10 x2 x3 x4 σ)) (x2 x3 x4 x5 y0 : Int) (σ : Sg) : Y Γ MX10_reckonAll K (emV K) K 95 [some (aR 84), none, some (aI x2), some (aI x3), some (aI x4), some (aI x5), none] [aI y0] σ (vX10_reckonAll_95 rec_10 x2 x3 x4 x5 y0 σ) := by
  unfold vX10_reckonAll_95
  refine y_istore dX10_reckonAll_95 (Nat.le_of_ble_eq_true rfl) (L' := [some (aR 84), none, some (aI x2), some (aI x3), some (aI x4), some (aI x5), some (aI y0)]) rfl ?_
  refine yk_iinc dX10_reckonAll_97 rfl (L' := [some (aR 84), none, some (aI x2), some (aI x3), some (aI (x4 + 1)), some (aI x5), some (aI y0)]) rfl ?_
  refine y_iload dX10_reckonAll_100 rfl ?_
  refine y_bipush dX10_reckonAll_102 (by decide) (by decide) ?_
  refine y_ite (fun h1 => ?_) (fun h1 => ?_)
  · refine y_icmp_ge_f dX10_reckonAll_104 (t := 243) rfl h1 ?_
    refine y_aload_n dX10_reckonAll_107 rfl rfl ?_
    refine y_getR fX10_107 hM.1 rfl (lM_37 hM).1 dX10_reckonAll_108 ?_
    refine y_iload_n dX10_reckonAll_111 rfl rfl ?_
    refine y_iload dX10_reckonAll_112 rfl ?_
    refine y_ite (fun h2 => ?_) (fun h2 => ?_)
    · refine y_if_ne_f dX10_reckonAll_114 (t := 123) rfl h2 ?_
      refine y_iload dX10_reckonAll_117 rfl ?_
      refine y_i2l dX10_reckonAll_119 ?_
      refine y_goto dX10_reckonAll_120 (t := 236) rfl ?_
      refine y_fg [true, false, true, true, true, false, false] (L' := [some (aR 84), none, some (aI x2), some (aI x3), some (aI (x4 + 1)), none, none]) rfl ?_
      exact tX10_reckonAll_236 hM rec_10 hrec_10 x2 x3 (x4 + 1) x3 y0 σ
    · refine y_if_ne_t dX10_reckonAll_114 (t := 123) rfl h2 ?_
      refine y_aload_n dX10_reckonAll_123 rfl rfl ?_
      refine y_getI fX10_299 hM.1 rfl dX10_reckonAll_124 ?_
      refine y_ite (fun h3 => ?_) (fun h3 => ?_)
      · refine y_if_ne_f dX10_reckonAll_127 (t := 140) rfl h3 ?_
        refine y_aload_n dX10_reckonAll_130 rfl rfl ?_
        refine y_getR fX10_101 hM.1 rfl (lM_35 hM).1 dX10_reckonAll_131 ?_
        refine y_iload dX10_reckonAll_134 rfl ?_
        refine yk_laload (lM_35 hM).2 (N := 13) rfl (j := x5.toNat) rfl dX10_reckonAll_136 ?_
        refine y_goto dX10_reckonAll_137 (t := 236) rfl ?_
        refine y_fg [true, false, true, true, true, false, false] (L' := [some (aR 84), none, some (aI x2), some (aI x3), some (aI (x4 + 1)), none, none]) rfl ?_
        exact tX10_reckonAll_236 hM rec_10 hrec_10 x2 x3 (x4 + 1) x3 (σ 102 x5.toNat) σ
      · refine y_if_ne_t dX10_reckonAll_127 (t := 140) rfl h3 ?_
        refine y_iload dX10_reckonAll_140 rfl ?_
        refine y_iconst dX10_reckonAll_142 (by decide) ?_
        refine y_ite (fun h4 => ?_) (fun h4 => ?_)
        · refine y_icmp_ge_f dX10_reckonAll_143 (t := 156) rfl h4 ?_
          refine y_aload_n dX10_reckonAll_146 rfl rfl ?_
          refine y_getR fX10_104 hM.1 rfl (lM_36 hM).1 dX10_reckonAll_147 ?_
          refine y_iload dX10_reckonAll_150 rfl ?_
          refine yk_laload (lM_36 hM).2 (N := 13) rfl (j := x5.toNat) rfl dX10_reckonAll_152 ?_
          refine y_goto dX10_reckonAll_153 (t := 236) rfl ?_
          refine y_fg [true, false, true, true, true, false, false] (L' := [some (aR 84), none, some (aI x2), some (aI x3), some (aI (x4 + 1)), none, none]) rfl ?_
          exact tX10_reckonAll_236 hM rec_10 hrec_10 x2 x3 (x4 + 1) x3 (σ 103 x5.toNat) σ
        · refine y_icmp_ge_t dX10_reckonAll_143 (t := 156) rfl h4 ?_
          refine y_iload dX10_reckonAll_156 rfl ?_
          refine y_bipush dX10_reckonAll_158 (by decide) (by decide) ?_
          refine y_ite (fun h5 => ?_) (fun h5 => ?_)
          · refine y_icmp_ne_f dX10_reckonAll_160 (t := 190) rfl h5 ?_
            refine y_aload_n dX10_reckonAll_163 rfl rfl ?_
            refine y_iload dX10_reckonAll_164 rfl ?_
            refine y_cvI (qX10_isBook hM y0 σ) kX10_194 rfl hM.1 rfl (by decide) rfl (Nat.le_of_ble_eq_true rfl) dX10_reckonAll_166 (fun r6 => ?_)
            refine y_ite (fun h7 => ?_) (fun h7 => ?_)
            · refine y_if_eq_t dX10_reckonAll_169 (t := 185) rfl h7 ?_
              refine y_iconst dX10_reckonAll_185 (by decide) ?_
              refine y_fg [true, false, true, true, true, false, false] (L' := [some (aR 84), none, some (aI x2), some (aI x3), some (aI (x4 + 1)), none, none]) rfl ?_
              exact tX10_reckonAll_186 hM rec_10 hrec_10 x2 x3 (x4 + 1) x3 (-1) σ
            · refine y_if_eq_f dX10_reckonAll_169 (t := 185) rfl h7 ?_
              refine y_aload_n dX10_reckonAll_172 rfl rfl ?_
              refine y_getR fX10_13 hM.1 rfl (lM_3 hM).1 dX10_reckonAll_173 ?_
              refine y_bipush dX10_reckonAll_176 (by decide) (by decide) ?_
              refine y_iload dX10_reckonAll_178 rfl ?_
              refine yk_iadd dX10_reckonAll_180 ?_
              refine yk_iaload (lM_3 hM).2 (N := 5505) rfl (j := (9 + y0).toNat) rfl dX10_reckonAll_181 ?_
              refine y_goto dX10_reckonAll_182 (t := 186) rfl ?_
              refine y_fg [true, false, true, true, true, false, false] (L' := [some (aR 84), none, some (aI x2), some (aI x3), some (aI (x4 + 1)), none, none]) rfl ?_
              exact tX10_reckonAll_186 hM rec_10 hrec_10 x2 x3 (x4 + 1) x3 (σ 86 (9 + y0).toNat) σ
          · refine y_icmp_ne_t dX10_reckonAll_160 (t := 190) rfl h5 ?_
            refine y_aload_n dX10_reckonAll_190 rfl rfl ?_
            refine y_iload dX10_reckonAll_191 rfl ?_
            refine y_cvI (qX10_isReader hM y0 σ) kX10_201 rfl hM.1 rfl (by decide) rfl (Nat.le_of_ble_eq_true rfl) dX10_reckonAll_193 (fun r8 => ?_)
            refine y_ite (fun h9 => ?_) (fun h9 => ?_)
            · refine y_if_ne_f dX10_reckonAll_196 (t := 205) rfl h9 ?_
              refine y_ldc2 (-1) wX10_c251 dX10_reckonAll_199 (by decide) (by decide) ?_
              refine y_goto dX10_reckonAll_202 (t := 236) rfl ?_
              refine y_fg [true, false, true, true, true, false, false] (L' := [some (aR 84), none, some (aI x2), some (aI x3), some (aI (x4 + 1)), none, none]) rfl ?_
              exact tX10_reckonAll_236 hM rec_10 hrec_10 x2 x3 (x4 + 1) x3 (-1) σ
            · refine y_if_ne_t dX10_reckonAll_196 (t := 205) rfl h9 ?_
              refine y_iload dX10_reckonAll_205 rfl ?_
              refine y_iconst dX10_reckonAll_207 (by decide) ?_
              refine y_ite (fun h10 => ?_) (fun h10 => ?_)
              · refine y_icmp_ne_f dX10_reckonAll_208 (t := 225) rfl h10 ?_
                refine y_aload_n dX10_reckonAll_211 rfl rfl ?_
                refine y_getR fX10_13 hM.1 rfl (lM_3 hM).1 dX10_reckonAll_212 ?_
                refine y_bipush dX10_reckonAll_215 (by decide) (by decide) ?_
                refine y_iload dX10_reckonAll_217 rfl ?_
                refine yk_iadd dX10_reckonAll_219 ?_
                refine yk_iaload (lM_3 hM).2 (N := 5505) rfl (j := (29 + y0).toNat) rfl dX10_reckonAll_220 ?_
                refine y_i2l dX10_reckonAll_221 ?_
                refine y_goto dX10_reckonAll_222 (t := 236) rfl ?_
                refine y_fg [true, false, true, true, true, false, false] (L' := [some (aR 84), none, some (aI x2), some (aI x3), some (aI (x4 + 1)), none, none]) rfl ?_
                exact tX10_reckonAll_236 hM rec_10 hrec_10 x2 x3 (x4 + 1) x3 (σ 86 (29 + y0).toNat) σ
              · refine y_icmp_ne_t dX10_reckonAll_208 (t := 225) rfl h10 ?_
                refine y_aload_n dX10_reckonAll_225 rfl rfl ?_
                refine y_getR fX10_13 hM.1 rfl (lM_3 hM).1 dX10_reckonAll_226 ?_
                refine y_bipush dX10_reckonAll_229 (by decide) (by decide) ?_
                refine y_iload dX10_reckonAll_231 rfl ?_
                refine yk_iadd dX10_reckonAll_233 ?_
                refine yk_iaload (lM_3 hM).2 (N := 5505) rfl (j := (23 + y0).toNat) rfl dX10_reckonAll_234 ?_
                refine y_i2l dX10_reckonAll_235 ?_
                refine y_fg [true, false, true, true, true, false, false] (L' := [some (aR 84), none, some (aI x2), some (aI x3), some (aI (x4 + 1)), none, none]) rfl ?_
                exact tX10_reckonAll_236 hM rec_10 hrec_10 x2 x3 (x4 + 1) x3 (σ 86 (23 + y0).toNat) σ
  · refine y_icmp_ge_t dX10_reckonAll_104 (t := 243) rfl h1 ?_
    refine y_iload dX10_reckonAll_243 rfl ?_
    refine y_bipush dX10_reckonAll_245 (by decide) (by decide) ?_
    refine y_ite (fun h11 => ?_) (fun h11 => ?_)
    · refine y_icmp_ge_f dX10_reckonAll_247 (t := 320) rfl h11 ?_
      refine yk_iinc dX10_reckonAll_250 rfl (L' := [some (aR 84), none, some (aI x2), some (aI (x3 + (-1))), some (aI (x4 + 1)), some (aI x5), some (aI y0)]) rfl ?_
      refine y_aload_n dX10_reckonAll_253 rfl rfl ?_
      refine y_getR fX10_107 hM.1 rfl (lM_37 hM).1 dX10_reckonAll_254 ?_
      refine y_iload_n dX10_reckonAll_257 rfl rfl ?_
      refine y_iconst dX10_reckonAll_258 (by decide) ?_
      refine yk_isub dX10_reckonAll_259 ?_
      refine y_aload_n dX10_reckonAll_260 rfl rfl ?_
      refine y_iload dX10_reckonAll_261 rfl ?_
      refine y_aload_n dX10_reckonAll_263 rfl rfl ?_
      refine y_getR fX10_107 hM.1 rfl (lM_37 hM).1 dX10_reckonAll_264 ?_
      refine y_iload_n dX10_reckonAll_267 rfl rfl ?_
      refine y_iconst dX10_reckonAll_268 (by decide) ?_
      refine yk_isub dX10_reckonAll_269 ?_
      refine yk_laload (lM_37 hM).2 (N := 400) rfl (j := ((x3 + (-1)) - 1).toNat) rfl dX10_reckonAll_270 ?_
      refine y_aload_n dX10_reckonAll_271 rfl rfl ?_
      refine y_getR fX10_107 hM.1 rfl (lM_37 hM).1 dX10_reckonAll_272 ?_
      refine y_iload_n dX10_reckonAll_275 rfl rfl ?_
      refine yk_laload (lM_37 hM).2 (N := 400) rfl (j := (x3 + (-1)).toNat) rfl dX10_reckonAll_276 ?_
      refine y_cvLS (qX10_reckon hM x5 (σ 104 ((x3 + (-1)) - 1).toNat) (σ 104 (x3 + (-1)).toNat) σ) kX10_381 rfl hM.1 rfl (by decide) rfl (Nat.le_of_ble_eq_true rfl) dX10_reckonAll_277 (fun r12 σ13 => ?_)
      refine yk_lastore (lM_37 hM).2 (N := 400) rfl (j := ((x3 + (-1)) - 1).toNat) rfl dX10_reckonAll_280 (fun σ14 => ?_)
      refine y_aload_n dX10_reckonAll_281 rfl rfl ?_
      refine y_aload_n dX10_reckonAll_282 rfl rfl ?_
      refine y_getI fX10_375 hM.1 rfl dX10_reckonAll_283 ?_
      refine y_ite (fun h15 => ?_) (fun h15 => ?_)
      · refine y_if_ne_f dX10_reckonAll_286 (t := 309) rfl h15 ?_
        refine y_aload_n dX10_reckonAll_289 rfl rfl ?_
        refine y_getR fX10_107 hM.1 rfl (lM_37 hM).1 dX10_reckonAll_290 ?_
        refine y_iload_n dX10_reckonAll_293 rfl rfl ?_
        refine y_iconst dX10_reckonAll_294 (by decide) ?_
        refine yk_isub dX10_reckonAll_295 ?_
        refine yk_laload (lM_37 hM).2 (N := 400) rfl (j := ((x3 + (-1)) - 1).toNat) rfl dX10_reckonAll_296 ?_
        refine y_ldc2 (-1000000000) wX10_c385 dX10_reckonAll_297 (by decide) (by decide) ?_
        refine y_ldc2 1000000000 wX10_c387 dX10_reckonAll_300 (by decide) (by decide) ?_
        refine y_csI (qX10_in (K := K) (σ14 104 ((x3 + (-1)) - 1).toNat) (-1000000000) 1000000000 σ14) kX10_177 rfl (by decide) rfl (Nat.le_of_ble_eq_true rfl) dX10_reckonAll_303 (fun r16 => ?_)
        refine y_ite (fun h17 => ?_) (fun h17 => ?_)
        · refine y_if_ne_f dX10_reckonAll_306 (t := 313) rfl h17 ?_
          refine y_fg [true, false, true, true, true, false, false] (L' := [some (aR 84), none, some (aI x2), some (aI (x3 + (-1))), some (aI (x4 + 1)), none, none]) rfl ?_
          exact tX10_reckonAll_309 hM rec_10 hrec_10 x2 (x3 + (-1)) (x4 + 1) σ14
        · refine y_if_ne_t dX10_reckonAll_306 (t := 313) rfl h17 ?_
          refine y_iconst dX10_reckonAll_313 (by decide) ?_
          refine y_fg [true, false, true, true, true, false, false] (L' := [some (aR 84), none, some (aI x2), some (aI (x3 + (-1))), some (aI (x4 + 1)), none, none]) rfl ?_
          exact tX10_reckonAll_314 hM rec_10 hrec_10 x2 (x3 + (-1)) (x4 + 1) 0 σ14
      · refine y_if_ne_t dX10_reckonAll_286 (t := 309) rfl h15 ?_
        refine y_fg [true, false, true, true, true, false, false] (L' := [some (aR 84), none, some (aI x2), some (aI (x3 + (-1))), some (aI (x4 + 1)), none, none]) rfl ?_
        exact tX10_reckonAll_309 hM rec_10 hrec_10 x2 (x3 + (-1)) (x4 + 1) σ14
    · refine y_icmp_ge_t dX10_reckonAll_247 (t := 320) rfl h11 ?_
      refine y_iload dX10_reckonAll_320 rfl ?_
      refine y_bipush dX10_reckonAll_322 (by decide) (by decide) ?_
      refine y_ite (fun h18 => ?_) (fun h18 => ?_)
      · refine y_icmp_ne_f dX10_reckonAll_324 (t := 348) rfl h18 ?_
        refine y_aload_n dX10_reckonAll_327 rfl rfl ?_
        refine y_getR fX10_107 hM.1 rfl (lM_37 hM).1 dX10_reckonAll_328 ?_
        refine y_iload_n dX10_reckonAll_331 rfl rfl ?_
        refine y_iconst dX10_reckonAll_332 (by decide) ?_
        refine yk_isub dX10_reckonAll_333 ?_
        refine y_lconst 1 dX10_reckonAll_334 (by decide) (by decide) ?_
        refine y_aload_n dX10_reckonAll_335 rfl rfl ?_
        refine y_getR fX10_107 hM.1 rfl (lM_37 hM).1 dX10_reckonAll_336 ?_
        refine y_iload_n dX10_reckonAll_339 rfl rfl ?_
        refine y_iconst dX10_reckonAll_340 (by decide) ?_
        refine yk_isub dX10_reckonAll_341 ?_
        refine yk_laload (lM_37 hM).2 (N := 400) rfl (j := (x3 - 1).toNat) rfl dX10_reckonAll_342 ?_
        refine yk_lsub dX10_reckonAll_343 ?_
        refine yk_lastore (lM_37 hM).2 (N := 400) rfl (j := (x3 - 1).toNat) rfl dX10_reckonAll_344 (fun σ19 => ?_)
        refine y_goto dX10_reckonAll_345 (t := 382) rfl ?_
        refine y_goto dX10_reckonAll_382 (t := 10) rfl ?_
        refine y_fg [true, false, true, true, true, false, false] (L' := [some (aR 84), none, some (aI x2), some (aI x3), some (aI (x4 + 1)), none, none]) rfl ?_
        exact hrec_10 x2 x3 (x4 + 1) σ19
      · refine y_icmp_ne_t dX10_reckonAll_324 (t := 348) rfl h18 ?_
        refine y_aload_n dX10_reckonAll_348 rfl rfl ?_
        refine y_getR fX10_107 hM.1 rfl (lM_37 hM).1 dX10_reckonAll_349 ?_
        refine y_iload_n dX10_reckonAll_352 rfl rfl ?_
        refine y_iconst dX10_reckonAll_353 (by decide) ?_
        refine yk_isub dX10_reckonAll_354 ?_
        refine yk_laload (lM_37 hM).2 (N := 400) rfl (j := (x3 - 1).toNat) rfl dX10_reckonAll_355 ?_
        refine y_iload dX10_reckonAll_356 rfl ?_
        refine y_bipush dX10_reckonAll_358 (by decide) (by decide) ?_
        refine y_ite (fun h20 => ?_) (fun h20 => ?_)
        · refine y_icmp_ne_f dX10_reckonAll_360 (t := 367) rfl h20 ?_
          refine y_lconst 0 dX10_reckonAll_363 (by decide) (by decide) ?_
          refine y_goto dX10_reckonAll_364 (t := 368) rfl ?_
          refine y_fg [true, false, true, true, true, false, true] (L' := [some (aR 84), none, some (aI x2), some (aI x3), some (aI (x4 + 1)), none, some (aI y0)]) rfl ?_
          exact tX10_reckonAll_368 hM rec_10 hrec_10 x2 x3 (x4 + 1) y0 (σ 104 (x3 - 1).toNat) 0 σ
        · refine y_icmp_ne_t dX10_reckonAll_360 (t := 367) rfl h20 ?_
          refine y_lconst 1 dX10_reckonAll_367 (by decide) (by decide) ?_
          refine y_fg [true, false, true, true, true, false, true] (L' := [some (aR 84), none, some (aI x2), some (aI x3), some (aI (x4 + 1)), none, some (aI y0)]) rfl ?_
          exact tX10_reckonAll_368 hM rec_10 hrec_10 x2 x3 (x4 + 1) y0 (σ 104 (x3 - 1).toNat) 1 σ
noncomputable def vX10_reckonAll_57 (rec_10 : Int → Int → Int → Sg → Option (Sg)) (x2 x3 x4 y0 : Int) (σ : Sg) : Option (Sg) := if (σ 84 20) = 0 then (ck (in32 ((σ 84 34) + 98)) (ck (in32 (2 * x4)) (ck (in32 (((σ 84 34) + 98) + (2 * x4))) (ck (in32 ((((σ 84 34) + 98) + (2 * x4)) + 1)) (ck (0 ≤ ((((σ 84 34) + 98) + (2 * x4)) + 1) ∧ ((((σ 84 34) + 98) + (2 * x4)) + 1) < 5505) (vX10_reckonAll_95 rec_10 x2 x3 x4 y0 (σ 86 ((((σ 84 34) + 98) + (2 * x4)) + 1).toNat) σ)))))) else (ck (0 ≤ x4 ∧ x4 < 400) (vX10_reckonAll_95 rec_10 x2 x3 x4 y0 (σ 96 x4.toNat) σ))
set_option maxRecDepth 100000 in
theorem tX10_reckonAll_57 {Γ : Gx} {K : Kt} (hM : mLay K)  (rec_10 : Int → Int → Int → Sg → Option (Sg)) (hrec_10 : ∀ (x2 x3 x4 : Int) (σ : Sg), Y Γ MX10_reckonAll K (emV K) K 10 [some (aR 84), none, some (aI x2), some (aI x3), some (aI x4), none, none] [] σ (rec_10 x2 x3 x4 σ)) (x2 x3 x4 y0 : Int) (σ : Sg) : Y Γ MX10_reckonAll K (emV K) K 57 [some (aR 84), none, some (aI x2), some (aI x3), some (aI x4), none, none] [aI y0] σ (vX10_reckonAll_57 rec_10 x2 x3 x4 y0 σ) := by
  unfold vX10_reckonAll_57
  refine y_istore dX10_reckonAll_57 (Nat.le_of_ble_eq_true rfl) (L' := [some (aR 84), none, some (aI x2), some (aI x3), some (aI x4), some (aI y0), none]) rfl ?_
  refine y_aload_n dX10_reckonAll_59 rfl rfl ?_
  refine y_getI fX10_299 hM.1 rfl dX10_reckonAll_60 ?_
  refine y_ite (fun h1 => ?_) (fun h1 => ?_)
  · refine y_if_eq_t dX10_reckonAll_63 (t := 76) rfl h1 ?_
    refine y_aload_n dX10_reckonAll_76 rfl rfl ?_
    refine y_getR fX10_13 hM.1 rfl (lM_3 hM).1 dX10_reckonAll_77 ?_
    refine y_aload_n dX10_reckonAll_80 rfl rfl ?_
    refine y_getI fX10_378 hM.1 rfl dX10_reckonAll_81 ?_
    refine y_bipush dX10_reckonAll_84 (by decide) (by decide) ?_
    refine yk_iadd dX10_reckonAll_86 ?_
    refine y_iconst dX10_reckonAll_87 (by decide) ?_
    refine y_iload dX10_reckonAll_88 rfl ?_
    refine yk_imul dX10_reckonAll_90 ?_
    refine yk_iadd dX10_reckonAll_91 ?_
    refine y_iconst dX10_reckonAll_92 (by decide) ?_
    refine yk_iadd dX10_reckonAll_93 ?_
    refine yk_iaload (lM_3 hM).2 (N := 5505) rfl (j := ((((σ 84 34) + 98) + (2 * x4)) + 1).toNat) rfl dX10_reckonAll_94 ?_
    exact tX10_reckonAll_95 hM rec_10 hrec_10 x2 x3 x4 y0 (σ 86 ((((σ 84 34) + 98) + (2 * x4)) + 1).toNat) σ
  · refine y_if_eq_f dX10_reckonAll_63 (t := 76) rfl h1 ?_
    refine y_aload_n dX10_reckonAll_66 rfl rfl ?_
    refine y_getR fX10_48 hM.1 rfl (lM_25 hM).1 dX10_reckonAll_67 ?_
    refine y_iload dX10_reckonAll_70 rfl ?_
    refine yk_iaload (lM_25 hM).2 (N := 400) rfl (j := x4.toNat) rfl dX10_reckonAll_72 ?_
    refine y_goto dX10_reckonAll_73 (t := 95) rfl ?_
    exact tX10_reckonAll_95 hM rec_10 hrec_10 x2 x3 x4 y0 (σ 96 x4.toNat) σ
noncomputable def vX10_reckonAll_400 (y1 : Int) (σ : Sg) : Option (Sg) := nm (up2 σ 84 39 y1) (fun σ1 => some σ1)
set_option maxRecDepth 100000 in
theorem tX10_reckonAll_400 {Γ : Gx} {K : Kt} (hM : mLay K)  (y1 : Int) (σ : Sg) : Y Γ MX10_reckonAll K (emV K) K 400 [none, none, none, none, none, none, none] [aL y1, aR 84] σ (vX10_reckonAll_400 y1 σ) := by
  unfold vX10_reckonAll_400
  refine yn_putJ fX10_389 hM.1 rfl rfl dX10_reckonAll_400 (fun σ1 => ?_)
  exact y_vret rfl rfl dX10_reckonAll_403
noncomputable def vX10_reckonAll_385 (x3 : Int) (σ : Sg) : Option (Sg) := if 0 < x3 then (vX10_reckonAll_400 (σ 104 0) σ) else (vX10_reckonAll_400 0 σ)
set_option maxRecDepth 100000 in
theorem tX10_reckonAll_385 {Γ : Gx} {K : Kt} (hM : mLay K)  (x3 : Int) (σ : Sg) : Y Γ MX10_reckonAll K (emV K) K 385 [some (aR 84), none, none, some (aI x3), none, none, none] [] σ (vX10_reckonAll_385 x3 σ) := by
  unfold vX10_reckonAll_385
  refine y_aload_n dX10_reckonAll_385 rfl rfl ?_
  refine y_iload_n dX10_reckonAll_386 rfl rfl ?_
  refine y_ite (fun h1 => ?_) (fun h1 => ?_)
  · refine y_if_le_f dX10_reckonAll_387 (t := 399) rfl h1 ?_
    refine y_aload_n dX10_reckonAll_390 rfl rfl ?_
    refine y_getR fX10_107 hM.1 rfl (lM_37 hM).1 dX10_reckonAll_391 ?_
    refine y_iconst dX10_reckonAll_394 (by decide) ?_
    refine yl_laload (lM_37 hM).2 (by decide) (j := 0) rfl dX10_reckonAll_395 ?_
    refine y_goto dX10_reckonAll_396 (t := 400) rfl ?_
    refine y_fg [false, false, false, false, false, false, false] (L' := [none, none, none, none, none, none, none]) rfl ?_
    exact tX10_reckonAll_400 hM (σ 104 0) σ
  · refine y_if_le_t dX10_reckonAll_387 (t := 399) rfl h1 ?_
    refine y_lconst 0 dX10_reckonAll_399 (by decide) (by decide) ?_
    refine y_fg [false, false, false, false, false, false, false] (L' := [none, none, none, none, none, none, none]) rfl ?_
    exact tX10_reckonAll_400 hM 0 σ
noncomputable def vX10_reckonAll_10 : Nat → Int → Int → Int → Sg → Option (Sg)
  | 0, _, _, _, _ => none
  | f + 1, x2, x3, x4, σ => if x4 < x2 then (if (σ 84 38) = 0 then (if (σ 84 20) = 0 then (ck (in32 ((σ 84 34) + 98)) (ck (in32 (2 * x4)) (ck (in32 (((σ 84 34) + 98) + (2 * x4))) (ck (0 ≤ (((σ 84 34) + 98) + (2 * x4)) ∧ (((σ 84 34) + 98) + (2 * x4)) < 5505) (vX10_reckonAll_57 (vX10_reckonAll_10 f) x2 x3 x4 (σ 86 (((σ 84 34) + 98) + (2 * x4)).toNat) σ))))) else (ck (0 ≤ x4 ∧ x4 < 400) (vX10_reckonAll_57 (vX10_reckonAll_10 f) x2 x3 x4 (σ 95 x4.toNat) σ))) else (vX10_reckonAll_385 x3 σ)) else (vX10_reckonAll_385 x3 σ)
set_option maxRecDepth 100000 in
theorem tX10_reckonAll_10 {Γ : Gx} {K : Kt} (hM : mLay K)  : ∀ (f : Nat) (x2 x3 x4 : Int) (σ : Sg), Y Γ MX10_reckonAll K (emV K) K 10 [some (aR 84), none, some (aI x2), some (aI x3), some (aI x4), none, none] [] σ (vX10_reckonAll_10 f x2 x3 x4 σ) := by
  intro f
  induction f with
  | zero => intro x2 x3 x4 σ; exact y_none
  | succ f ih =>
    intro x2 x3 x4 σ
    rw [vX10_reckonAll_10]
    refine y_iload dX10_reckonAll_10 rfl ?_
    refine y_iload_n dX10_reckonAll_12 rfl rfl ?_
    refine y_ite (fun h1 => ?_) (fun h1 => ?_)
    · refine y_icmp_ge_f dX10_reckonAll_13 (t := 385) rfl h1 ?_
      refine y_aload_n dX10_reckonAll_16 rfl rfl ?_
      refine y_getI fX10_375 hM.1 rfl dX10_reckonAll_17 ?_
      refine y_ite (fun h2 => ?_) (fun h2 => ?_)
      · refine y_if_ne_f dX10_reckonAll_20 (t := 385) rfl h2 ?_
        refine y_aload_n dX10_reckonAll_23 rfl rfl ?_
        refine y_getI fX10_299 hM.1 rfl dX10_reckonAll_24 ?_
        refine y_ite (fun h3 => ?_) (fun h3 => ?_)
        · refine y_if_eq_t dX10_reckonAll_27 (t := 40) rfl h3 ?_
          refine y_aload_n dX10_reckonAll_40 rfl rfl ?_
          refine y_getR fX10_13 hM.1 rfl (lM_3 hM).1 dX10_reckonAll_41 ?_
          refine y_aload_n dX10_reckonAll_44 rfl rfl ?_
          refine y_getI fX10_378 hM.1 rfl dX10_reckonAll_45 ?_
          refine y_bipush dX10_reckonAll_48 (by decide) (by decide) ?_
          refine yk_iadd dX10_reckonAll_50 ?_
          refine y_iconst dX10_reckonAll_51 (by decide) ?_
          refine y_iload dX10_reckonAll_52 rfl ?_
          refine yk_imul dX10_reckonAll_54 ?_
          refine yk_iadd dX10_reckonAll_55 ?_
          refine yk_iaload (lM_3 hM).2 (N := 5505) rfl (j := (((σ 84 34) + 98) + (2 * x4)).toNat) rfl dX10_reckonAll_56 ?_
          exact tX10_reckonAll_57 hM (vX10_reckonAll_10 f) ih x2 x3 x4 (σ 86 (((σ 84 34) + 98) + (2 * x4)).toNat) σ
        · refine y_if_eq_f dX10_reckonAll_27 (t := 40) rfl h3 ?_
          refine y_aload_n dX10_reckonAll_30 rfl rfl ?_
          refine y_getR fX10_45 hM.1 rfl (lM_24 hM).1 dX10_reckonAll_31 ?_
          refine y_iload dX10_reckonAll_34 rfl ?_
          refine yk_iaload (lM_24 hM).2 (N := 400) rfl (j := x4.toNat) rfl dX10_reckonAll_36 ?_
          refine y_goto dX10_reckonAll_37 (t := 57) rfl ?_
          exact tX10_reckonAll_57 hM (vX10_reckonAll_10 f) ih x2 x3 x4 (σ 95 x4.toNat) σ
      · refine y_if_ne_t dX10_reckonAll_20 (t := 385) rfl h2 ?_
        refine y_fg [true, false, false, true, false, false, false] (L' := [some (aR 84), none, none, some (aI x3), none, none, none]) rfl ?_
        exact tX10_reckonAll_385 hM x3 σ
    · refine y_icmp_ge_t dX10_reckonAll_13 (t := 385) rfl h1 ?_
      refine y_fg [true, false, false, true, false, false, false] (L' := [some (aR 84), none, none, some (aI x3), none, none, none]) rfl ?_
      exact tX10_reckonAll_385 hM x3 σ
noncomputable def vX10_reckonAll (p1 : Int) (p2 : Int) (σ : Sg) : Option (Sg) := nm (up2 σ 84 38 0) (fun σ1 => vX10_reckonAll_10 FU p2 0 p1 σ1)
set_option maxRecDepth 100000 in
theorem tX10_reckonAll {Γ : Gx} {K : Kt} (hM : mLay K) (p1 : Int) (p2 : Int) (σ : Sg) : Y Γ MX10_reckonAll K (emV K) K 0 [some (aR 84), some (aI p1), some (aI p2), none, none, none, none] [] σ (vX10_reckonAll p1 p2 σ) := by
  unfold vX10_reckonAll
  refine y_aload_n dX10_reckonAll_0 rfl rfl ?_
  refine y_iconst dX10_reckonAll_1 (by decide) ?_
  refine yn_putZ (by decide) fX10_375 hM.1 rfl rfl dX10_reckonAll_2 (fun σ1 => ?_)
  refine y_iconst dX10_reckonAll_5 (by decide) ?_
  refine y_istore_n dX10_reckonAll_6 rfl (Nat.le_of_ble_eq_true rfl) (L' := [some (aR 84), some (aI p1), some (aI p2), some (aI 0), none, none, none]) rfl ?_
  refine y_iload_n dX10_reckonAll_7 rfl rfl ?_
  refine y_istore dX10_reckonAll_8 (Nat.le_of_ble_eq_true rfl) (L' := [some (aR 84), some (aI p1), some (aI p2), some (aI 0), some (aI p1), none, none]) rfl ?_
  refine y_fg [true, false, true, true, true, false, false] (L' := [some (aR 84), none, some (aI p2), some (aI 0), some (aI p1), none, none]) rfl ?_
  exact tX10_reckonAll_10 hM FU p2 0 p1 σ1
theorem qX10_reckonAll {K : Kt} (hM : mLay K) (p1 : Int) (p2 : Int) (σ : Sg) : Cc MX10_reckonAll K [aR 84, aI p1, aI p2] σ (emV K) (vX10_reckonAll p1 p2 σ) := cc_of plX10 (Nat.le_of_ble_eq_true rfl) (fun o _ => ⟨Nat.le_refl _, Nat.le_refl _⟩) (fun Γ => tX10_reckonAll hM p1 p2 σ)
noncomputable def vX10_isSo_59 (x1 : Int) (σ : Sg) : Option (Int × Sg) := ck (0 ≤ x1 ∧ x1 < 5505) (if (σ 86 x1.toNat) = 3 then (some (1, σ)) else (ck (in32 (x1 + 3)) (ck (0 ≤ (x1 + 3) ∧ (x1 + 3) < 5505) (ck (in32 (x1 + 4)) (ck (0 ≤ (x1 + 4) ∧ (x1 + 4) < 5505) ((vX10_reckonAll (σ 86 (x1 + 3).toNat) (σ 86 (x1 + 4).toNat) σ).bind (fun σ2 => nm (up2 σ2 84 40 (σ2 84 39)) (fun σ3 => if (σ3 84 38) = 0 then (some (1, σ3)) else (some (0, σ3))))))))))
set_option maxRecDepth 100000 in
theorem tX10_isSo_59 {Γ : Gx} {K : Kt} (hM : mLay K)  (x1 : Int) (σ : Sg) : Y Γ MX10_isSo K (emIS K) K 59 [some (aR 84), some (aI x1)] [] σ (vX10_isSo_59 x1 σ) := by
  unfold vX10_isSo_59
  refine y_aload_n dX10_isSo_59 rfl rfl ?_
  refine y_getR fX10_13 hM.1 rfl (lM_3 hM).1 dX10_isSo_60 ?_
  refine y_iload_n dX10_isSo_63 rfl rfl ?_
  refine yk_iaload (lM_3 hM).2 (N := 5505) rfl (j := x1.toNat) rfl dX10_isSo_64 ?_
  refine y_iconst dX10_isSo_65 (by decide) ?_
  refine y_ite (fun h1 => ?_) (fun h1 => ?_)
  · refine y_icmp_eq_t dX10_isSo_66 (t := 110) rfl h1 ?_
    refine y_iconst dX10_isSo_110 (by decide) ?_
    exact y_zret (by decide) rfl rfl dX10_isSo_111
  · refine y_icmp_eq_f dX10_isSo_66 (t := 110) rfl h1 ?_
    refine y_aload_n dX10_isSo_69 rfl rfl ?_
    refine y_aload_n dX10_isSo_70 rfl rfl ?_
    refine y_getR fX10_13 hM.1 rfl (lM_3 hM).1 dX10_isSo_71 ?_
    refine y_iload_n dX10_isSo_74 rfl rfl ?_
    refine y_iconst dX10_isSo_75 (by decide) ?_
    refine yk_iadd dX10_isSo_76 ?_
    refine yk_iaload (lM_3 hM).2 (N := 5505) rfl (j := (x1 + 3).toNat) rfl dX10_isSo_77 ?_
    refine y_aload_n dX10_isSo_78 rfl rfl ?_
    refine y_getR fX10_13 hM.1 rfl (lM_3 hM).1 dX10_isSo_79 ?_
    refine y_iload_n dX10_isSo_82 rfl rfl ?_
    refine y_iconst dX10_isSo_83 (by decide) ?_
    refine yk_iadd dX10_isSo_84 ?_
    refine yk_iaload (lM_3 hM).2 (N := 5505) rfl (j := (x1 + 4).toNat) rfl dX10_isSo_85 ?_
    refine y_cvV (qX10_reckonAll hM (σ 86 (x1 + 3).toNat) (σ 86 (x1 + 4).toNat) σ) kX10_392 rfl hM.1 rfl (by decide) rfl (Nat.le_of_ble_eq_true rfl) dX10_isSo_86 (fun σ2 => ?_)
    refine y_aload_n dX10_isSo_89 rfl rfl ?_
    refine y_aload_n dX10_isSo_90 rfl rfl ?_
    refine y_getJ fX10_389 hM.1 rfl dX10_isSo_91 ?_
    refine yn_putJ fX10_395 hM.1 rfl rfl dX10_isSo_94 (fun σ3 => ?_)
    refine y_aload_n dX10_isSo_97 rfl rfl ?_
    refine y_getI fX10_375 hM.1 rfl dX10_isSo_98 ?_
    refine y_ite (fun h4 => ?_) (fun h4 => ?_)
    · refine y_if_ne_f dX10_isSo_101 (t := 108) rfl h4 ?_
      refine y_iconst dX10_isSo_104 (by decide) ?_
      refine y_goto dX10_isSo_105 (t := 109) rfl ?_
      exact y_zret (by decide) rfl rfl dX10_isSo_109
    · refine y_if_ne_t dX10_isSo_101 (t := 108) rfl h4 ?_
      refine y_iconst dX10_isSo_108 (by decide) ?_
      exact y_zret (by decide) rfl rfl dX10_isSo_109
noncomputable def vX10_isSo (p1 : Int) (σ : Sg) : Option (Int × Sg) := ck (in32 (p1 + 5)) (ck (0 ≤ (p1 + 5) ∧ (p1 + 5) < 5505) (ck (in32 (p1 + 6)) (ck (0 ≤ (p1 + 6) ∧ (p1 + 6) < 5505) (if (σ 86 (p1 + 5).toNat) < (σ 86 (p1 + 6).toNat) then (ck (in32 (p1 + 5)) (ck (0 ≤ (p1 + 5) ∧ (p1 + 5) < 5505) (ck (in32 (p1 + 6)) (ck (0 ≤ (p1 + 6) ∧ (p1 + 6) < 5505) ((vX10_reckonAll (σ 86 (p1 + 5).toNat) (σ 86 (p1 + 6).toNat) σ).bind (fun σ2 => if (σ2 84 38) = 0 then (if (σ2 84 39) = 0 then (some (0, σ2)) else (vX10_isSo_59 p1 σ2)) else (some (0, σ2)))))))) else (vX10_isSo_59 p1 σ)))))
set_option maxRecDepth 100000 in
theorem tX10_isSo {Γ : Gx} {K : Kt} (hM : mLay K) (p1 : Int) (σ : Sg) : Y Γ MX10_isSo K (emIS K) K 0 [some (aR 84), some (aI p1)] [] σ (vX10_isSo p1 σ) := by
  unfold vX10_isSo
  refine y_aload_n dX10_isSo_0 rfl rfl ?_
  refine y_getR fX10_13 hM.1 rfl (lM_3 hM).1 dX10_isSo_1 ?_
  refine y_iload_n dX10_isSo_4 rfl rfl ?_
  refine y_iconst dX10_isSo_5 (by decide) ?_
  refine yk_iadd dX10_isSo_6 ?_
  refine yk_iaload (lM_3 hM).2 (N := 5505) rfl (j := (p1 + 5).toNat) rfl dX10_isSo_7 ?_
  refine y_aload_n dX10_isSo_8 rfl rfl ?_
  refine y_getR fX10_13 hM.1 rfl (lM_3 hM).1 dX10_isSo_9 ?_
  refine y_iload_n dX10_isSo_12 rfl rfl ?_
  refine y_bipush dX10_isSo_13 (by decide) (by decide) ?_
  refine yk_iadd dX10_isSo_15 ?_
  refine yk_iaload (lM_3 hM).2 (N := 5505) rfl (j := (p1 + 6).toNat) rfl dX10_isSo_16 ?_
  refine y_ite (fun h1 => ?_) (fun h1 => ?_)
  · refine y_icmp_ge_f dX10_isSo_17 (t := 59) rfl h1 ?_
    refine y_aload_n dX10_isSo_20 rfl rfl ?_
    refine y_aload_n dX10_isSo_21 rfl rfl ?_
    refine y_getR fX10_13 hM.1 rfl (lM_3 hM).1 dX10_isSo_22 ?_
    refine y_iload_n dX10_isSo_25 rfl rfl ?_
    refine y_iconst dX10_isSo_26 (by decide) ?_
    refine yk_iadd dX10_isSo_27 ?_
    refine yk_iaload (lM_3 hM).2 (N := 5505) rfl (j := (p1 + 5).toNat) rfl dX10_isSo_28 ?_
    refine y_aload_n dX10_isSo_29 rfl rfl ?_
    refine y_getR fX10_13 hM.1 rfl (lM_3 hM).1 dX10_isSo_30 ?_
    refine y_iload_n dX10_isSo_33 rfl rfl ?_
    refine y_bipush dX10_isSo_34 (by decide) (by decide) ?_
    refine yk_iadd dX10_isSo_36 ?_
    refine yk_iaload (lM_3 hM).2 (N := 5505) rfl (j := (p1 + 6).toNat) rfl dX10_isSo_37 ?_
    refine y_cvV (qX10_reckonAll hM (σ 86 (p1 + 5).toNat) (σ 86 (p1 + 6).toNat) σ) kX10_392 rfl hM.1 rfl (by decide) rfl (Nat.le_of_ble_eq_true rfl) dX10_isSo_38 (fun σ2 => ?_)
    refine y_aload_n dX10_isSo_41 rfl rfl ?_
    refine y_getI fX10_375 hM.1 rfl dX10_isSo_42 ?_
    refine y_ite (fun h3 => ?_) (fun h3 => ?_)
    · refine y_if_ne_f dX10_isSo_45 (t := 57) rfl h3 ?_
      refine y_aload_n dX10_isSo_48 rfl rfl ?_
      refine y_getJ fX10_389 hM.1 rfl dX10_isSo_49 ?_
      refine y_lconst 0 dX10_isSo_52 (by decide) (by decide) ?_
      refine y_lcmp dX10_isSo_53 ?_
      refine y_ite (fun h4 => ?_) (fun h4 => ?_)
      · refine y_if_ne_f dX10_isSo_54 (t := 59) rfl (cmp3_eq.mpr h4) ?_
        refine y_iconst dX10_isSo_57 (by decide) ?_
        exact y_zret (by decide) rfl rfl dX10_isSo_58
      · refine y_if_ne_t dX10_isSo_54 (t := 59) rfl (fun z => h4 (cmp3_eq.mp z)) ?_
        exact tX10_isSo_59 hM p1 σ2
    · refine y_if_ne_t dX10_isSo_45 (t := 57) rfl h3 ?_
      refine y_iconst dX10_isSo_57 (by decide) ?_
      exact y_zret (by decide) rfl rfl dX10_isSo_58
  · refine y_icmp_ge_t dX10_isSo_17 (t := 59) rfl h1 ?_
    exact tX10_isSo_59 hM p1 σ
theorem qX10_isSo {K : Kt} (hM : mLay K) (p1 : Int) (σ : Sg) : Cc MX10_isSo K [aR 84, aI p1] σ (emIS K) (vX10_isSo p1 σ) := cc_of plX10 (Nat.le_of_ble_eq_true rfl) (fun o _ => ⟨Nat.le_refl _, Nat.le_refl _⟩) (fun Γ => tX10_isSo hM p1 σ)
noncomputable def vX10_keptFor (p1 : Int) (σ : Sg) : Option (Int) := (vX10_term 0 σ).bind (fun r1 => ck (in32 (35 + p1)) (ck (0 ≤ (35 + p1) ∧ (35 + p1) < 5505) (ck (in32 (r1 - (σ 86 (35 + p1).toNat))) (some (r1 - (σ 86 (35 + p1).toNat))))))
set_option maxRecDepth 100000 in
theorem tX10_keptFor {Γ : Gx} {K : Kt} (hM : mLay K) (p1 : Int) (σ : Sg) : Y Γ MX10_keptFor K (emI K σ) K 0 [some (aR 84), some (aI p1)] [] σ (vX10_keptFor p1 σ) := by
  unfold vX10_keptFor
  refine y_aload_n dX10_keptFor_0 rfl rfl ?_
  refine y_iconst dX10_keptFor_1 (by decide) ?_
  refine y_cvI (qX10_term hM 0 σ) kX10_398 rfl hM.1 rfl (by decide) rfl (Nat.le_of_ble_eq_true rfl) dX10_keptFor_2 (fun r1 => ?_)
  refine y_aload_n dX10_keptFor_5 rfl rfl ?_
  refine y_getR fX10_13 hM.1 rfl (lM_3 hM).1 dX10_keptFor_6 ?_
  refine y_bipush dX10_keptFor_9 (by decide) (by decide) ?_
  refine y_iload_n dX10_keptFor_11 rfl rfl ?_
  refine yk_iadd dX10_keptFor_12 ?_
  refine yk_iaload (lM_3 hM).2 (N := 5505) rfl (j := (35 + p1).toNat) rfl dX10_keptFor_13 ?_
  refine yk_isub dX10_keptFor_14 ?_
  exact y_iret rfl rfl dX10_keptFor_15
theorem qX10_keptFor {K : Kt} (hM : mLay K) (p1 : Int) (σ : Sg) : Cc MX10_keptFor K [aR 84, aI p1] σ (emI K σ) (vX10_keptFor p1 σ) := cc_of plX10 (Nat.le_of_ble_eq_true rfl) (fun o _ => ⟨Nat.le_refl _, Nat.le_refl _⟩) (fun Γ => tX10_keptFor hM p1 σ)
noncomputable def vX10_tells_176 : Nat → Int → Int → Int → Sg → Option (Int × Sg)
  | 0, _, _, _, _ => none
  | f + 1, x1, x6, x8, σ => ck (in32 ((σ 84 34) + 1)) (ck (0 ≤ ((σ 84 34) + 1) ∧ ((σ 84 34) + 1) < 5505) (if x8 < (σ 86 ((σ 84 34) + 1).toNat) then (ck (in32 ((σ 84 34) + 2)) (ck (in32 (8 * x8)) (ck (in32 (((σ 84 34) + 2) + (8 * x8))) (nm (((σ 84 34) + 2) + (8 * x8)) (fun z2 => ck (0 ≤ z2 ∧ z2 < 5505) (if (σ 86 z2.toNat) = x1 then (bd2 (vX10_isSo z2 σ) (fun r4 σ5 => if r4 = 0 then (ck (in32 (x8 + 1)) (vX10_tells_176 f x1 x6 (x8 + 1) σ5)) else (if x1 = 3 then (ck (in32 (x8 + 1)) (vX10_tells_176 f x1 1 (x8 + 1) σ5)) else (nm (σ5 84 40) (fun z8 => ck (in32 (x8 + 1)) (vX10_tells_176 f x1 z8 (x8 + 1) σ5)))))) else (ck (in32 (x8 + 1)) (vX10_tells_176 f x1 x6 (x8 + 1) σ)))))))) else (some (x6, σ))))
set_option maxRecDepth 100000 in
theorem tX10_tells_176 {Γ : Gx} {K : Kt} (hM : mLay K)  : ∀ (f : Nat) (x1 x6 x8 : Int) (σ : Sg), Y Γ MX10_tells K (emLS K) K 176 [some (aR 84), some (aI x1), none, none, none, none, some (aL x6), none, some (aI x8), none] [] σ (vX10_tells_176 f x1 x6 x8 σ) := by
  intro f
  induction f with
  | zero => intro x1 x6 x8 σ; exact y_none
  | succ f ih =>
    intro x1 x6 x8 σ
    rw [vX10_tells_176]
    refine y_iload dX10_tells_176 rfl ?_
    refine y_aload_n dX10_tells_178 rfl rfl ?_
    refine y_getR fX10_13 hM.1 rfl (lM_3 hM).1 dX10_tells_179 ?_
    refine y_aload_n dX10_tells_182 rfl rfl ?_
    refine y_getI fX10_378 hM.1 rfl dX10_tells_183 ?_
    refine y_iconst dX10_tells_186 (by decide) ?_
    refine yk_iadd dX10_tells_187 ?_
    refine yk_iaload (lM_3 hM).2 (N := 5505) rfl (j := ((σ 84 34) + 1).toNat) rfl dX10_tells_188 ?_
    refine y_ite (fun h1 => ?_) (fun h1 => ?_)
    · refine y_icmp_ge_f dX10_tells_189 (t := 247) rfl h1 ?_
      refine y_aload_n dX10_tells_192 rfl rfl ?_
      refine y_getI fX10_378 hM.1 rfl dX10_tells_193 ?_
      refine y_iconst dX10_tells_196 (by decide) ?_
      refine yk_iadd dX10_tells_197 ?_
      refine y_bipush dX10_tells_198 (by decide) (by decide) ?_
      refine y_iload dX10_tells_200 rfl ?_
      refine yk_imul dX10_tells_202 ?_
      refine yk_iadd dX10_tells_203 ?_
      refine yn_istore dX10_tells_204 (Nat.le_of_ble_eq_true rfl) (L' := fun z2 => [some (aR 84), some (aI x1), none, none, none, none, some (aL x6), none, some (aI x8), some (aI z2)]) (fun _ => rfl) (fun z2 => ?_)
      refine y_aload_n dX10_tells_206 rfl rfl ?_
      refine y_getR fX10_13 hM.1 rfl (lM_3 hM).1 dX10_tells_207 ?_
      refine y_iload dX10_tells_210 rfl ?_
      refine yk_iaload (lM_3 hM).2 (N := 5505) rfl (j := z2.toNat) rfl dX10_tells_212 ?_
      refine y_iload_n dX10_tells_213 rfl rfl ?_
      refine y_ite (fun h3 => ?_) (fun h3 => ?_)
      · refine y_icmp_ne_f dX10_tells_214 (t := 241) rfl h3 ?_
        refine y_aload_n dX10_tells_217 rfl rfl ?_
        refine y_iload dX10_tells_218 rfl ?_
        refine y_cvIS (qX10_isSo hM z2 σ) kX10_404 rfl hM.1 rfl (by decide) rfl (Nat.le_of_ble_eq_true rfl) dX10_tells_220 (fun r4 σ5 => ?_)
        refine y_ite (fun h6 => ?_) (fun h6 => ?_)
        · refine y_if_eq_t dX10_tells_223 (t := 241) rfl h6 ?_
          refine yk_iinc dX10_tells_241 rfl (L' := [some (aR 84), some (aI x1), none, none, none, none, some (aL x6), none, some (aI (x8 + 1)), some (aI z2)]) rfl ?_
          refine y_goto dX10_tells_244 (t := 176) rfl ?_
          refine y_fg [true, true, false, false, false, false, true, false, true, false] (L' := [some (aR 84), some (aI x1), none, none, none, none, some (aL x6), none, some (aI (x8 + 1)), none]) rfl ?_
          exact ih x1 x6 (x8 + 1) σ5
        · refine y_if_eq_f dX10_tells_223 (t := 241) rfl h6 ?_
          refine y_iload_n dX10_tells_226 rfl rfl ?_
          refine y_iconst dX10_tells_227 (by decide) ?_
          refine y_ite (fun h7 => ?_) (fun h7 => ?_)
          · refine y_icmp_ne_f dX10_tells_228 (t := 235) rfl h7 ?_
            refine y_lconst 1 dX10_tells_231 (by decide) (by decide) ?_
            refine y_goto dX10_tells_232 (t := 239) rfl ?_
            refine y_lstore dX10_tells_239 (Nat.le_of_ble_eq_true rfl) (L' := [some (aR 84), some (aI x1), none, none, none, none, some (aL 1), none, some (aI x8), some (aI z2)]) rfl ?_
            refine yk_iinc dX10_tells_241 rfl (L' := [some (aR 84), some (aI x1), none, none, none, none, some (aL 1), none, some (aI (x8 + 1)), some (aI z2)]) rfl ?_
            refine y_goto dX10_tells_244 (t := 176) rfl ?_
            refine y_fg [true, true, false, false, false, false, true, false, true, false] (L' := [some (aR 84), some (aI x1), none, none, none, none, some (aL 1), none, some (aI (x8 + 1)), none]) rfl ?_
            exact ih x1 1 (x8 + 1) σ5
          · refine y_icmp_ne_t dX10_tells_228 (t := 235) rfl h7 ?_
            refine y_aload_n dX10_tells_235 rfl rfl ?_
            refine y_getJ fX10_395 hM.1 rfl dX10_tells_236 ?_
            refine yn_lstore dX10_tells_239 (Nat.le_of_ble_eq_true rfl) (L' := fun z8 => [some (aR 84), some (aI x1), none, none, none, none, some (aL z8), none, some (aI x8), some (aI z2)]) (fun _ => rfl) (fun z8 => ?_)
            refine yk_iinc dX10_tells_241 rfl (L' := [some (aR 84), some (aI x1), none, none, none, none, some (aL z8), none, some (aI (x8 + 1)), some (aI z2)]) rfl ?_
            refine y_goto dX10_tells_244 (t := 176) rfl ?_
            refine y_fg [true, true, false, false, false, false, true, false, true, false] (L' := [some (aR 84), some (aI x1), none, none, none, none, some (aL z8), none, some (aI (x8 + 1)), none]) rfl ?_
            exact ih x1 z8 (x8 + 1) σ5
      · refine y_icmp_ne_t dX10_tells_214 (t := 241) rfl h3 ?_
        refine yk_iinc dX10_tells_241 rfl (L' := [some (aR 84), some (aI x1), none, none, none, none, some (aL x6), none, some (aI (x8 + 1)), some (aI z2)]) rfl ?_
        refine y_goto dX10_tells_244 (t := 176) rfl ?_
        refine y_fg [true, true, false, false, false, false, true, false, true, false] (L' := [some (aR 84), some (aI x1), none, none, none, none, some (aL x6), none, some (aI (x8 + 1)), none]) rfl ?_
        exact ih x1 x6 (x8 + 1) σ
    · refine y_icmp_ge_t dX10_tells_189 (t := 247) rfl h1 ?_
      refine y_lload dX10_tells_247 rfl ?_
      exact y_lret rfl rfl dX10_tells_249
noncomputable def vX10_tells_142 (x1 x4 y1 y2 : Int) (σ : Sg) : Option (Int × Sg) := ck (0 ≤ y1 ∧ y1 < 13) (nm (up2 σ 102 y1.toNat y2) (fun σ1 => (vX10_term 0 σ1).bind (fun r2 => nm (up2 σ1 102 8 r2) (fun σ3 => (vX10_term 3 σ3).bind (fun r4 => nm (up2 σ3 102 9 r4) (fun σ5 => vX10_tells_176 FU x1 x4 0 σ5))))))
set_option maxRecDepth 100000 in
theorem tX10_tells_142 {Γ : Gx} {K : Kt} (hM : mLay K)  (x1 x4 y1 y2 : Int) (σ : Sg) : Y Γ MX10_tells K (emLS K) K 142 [some (aR 84), some (aI x1), none, none, some (aL x4), none, none, none, none, none] [aL y2, aI y1, aR 102] σ (vX10_tells_142 x1 x4 y1 y2 σ) := by
  unfold vX10_tells_142
  refine yk_lastore (lM_35 hM).2 (N := 13) rfl (j := y1.toNat) rfl dX10_tells_142 (fun σ1 => ?_)
  refine y_aload_n dX10_tells_143 rfl rfl ?_
  refine y_getR fX10_101 hM.1 rfl (lM_35 hM).1 dX10_tells_144 ?_
  refine y_bipush dX10_tells_147 (by decide) (by decide) ?_
  refine y_aload_n dX10_tells_149 rfl rfl ?_
  refine y_iconst dX10_tells_150 (by decide) ?_
  refine y_cvI (qX10_term hM 0 σ1) kX10_398 rfl hM.1 rfl (by decide) rfl (Nat.le_of_ble_eq_true rfl) dX10_tells_151 (fun r2 => ?_)
  refine y_i2l dX10_tells_154 ?_
  refine yl_lastore (lM_35 hM).2 (by decide) (j := 8) rfl dX10_tells_155 (fun σ3 => ?_)
  refine y_aload_n dX10_tells_156 rfl rfl ?_
  refine y_getR fX10_101 hM.1 rfl (lM_35 hM).1 dX10_tells_157 ?_
  refine y_bipush dX10_tells_160 (by decide) (by decide) ?_
  refine y_aload_n dX10_tells_162 rfl rfl ?_
  refine y_iconst dX10_tells_163 (by decide) ?_
  refine y_cvI (qX10_term hM 3 σ3) kX10_398 rfl hM.1 rfl (by decide) rfl (Nat.le_of_ble_eq_true rfl) dX10_tells_164 (fun r4 => ?_)
  refine y_i2l dX10_tells_167 ?_
  refine yl_lastore (lM_35 hM).2 (by decide) (j := 9) rfl dX10_tells_168 (fun σ5 => ?_)
  refine y_lload dX10_tells_169 rfl ?_
  refine y_lstore dX10_tells_171 (Nat.le_of_ble_eq_true rfl) (L' := [some (aR 84), some (aI x1), none, none, some (aL x4), none, some (aL x4), none, none, none]) rfl ?_
  refine y_iconst dX10_tells_173 (by decide) ?_
  refine y_istore dX10_tells_174 (Nat.le_of_ble_eq_true rfl) (L' := [some (aR 84), some (aI x1), none, none, some (aL x4), none, some (aL x4), none, some (aI 0), none]) rfl ?_
  refine y_fg [true, true, false, false, false, false, true, false, true, false] (L' := [some (aR 84), some (aI x1), none, none, none, none, some (aL x4), none, some (aI 0), none]) rfl ?_
  exact tX10_tells_176 hM FU x1 x4 0 σ5
noncomputable def vX10_tells (p1 : Int) (p2 : Int) (p3 : Int) (p4 : Int) (σ : Sg) : Option (Int × Sg) := if (σ 86 3) = (-1) then (some (p4, σ)) else (ck (in32 (900 * (σ 86 3))) (ck (in32 (105 + (900 * (σ 86 3)))) (nm (up2 σ 84 34 (105 + (900 * (σ 86 3)))) (fun σ2 => nm (up2 σ2 102 1 p2) (fun σ3 => ck (in32 (71 + p2)) (ck (0 ≤ (71 + p2) ∧ (71 + p2) < 5505) (nm (up2 σ3 102 2 (σ3 86 (71 + p2).toNat)) (fun σ4 => ck (in32 (9 + p2)) (ck (0 ≤ (9 + p2) ∧ (9 + p2) < 5505) (nm (up2 σ4 102 3 (σ4 86 (9 + p2).toNat)) (fun σ5 => nm (up2 σ5 102 4 p3) (fun σ6 => ck (in32 (17 + p3)) (ck (0 ≤ (17 + p3) ∧ (17 + p3) < 5505) (nm (up2 σ6 102 5 (σ6 86 (17 + p3).toNat)) (fun σ7 => ck (in32 (23 + p3)) (ck (0 ≤ (23 + p3) ∧ (23 + p3) < 5505) (nm (up2 σ7 102 6 (σ7 86 (23 + p3).toNat)) (fun σ8 => ck (in32 (29 + p3)) (ck (0 ≤ (29 + p3) ∧ (29 + p3) < 5505) (if (σ8 86 (29 + p3).toNat) = p2 then ((vX10_keptFor p3 σ8).bind (fun r10 => vX10_tells_142 p1 p4 7 r10 σ8)) else (vX10_tells_142 p1 p4 7 (-1) σ8)))))))))))))))))))))
set_option maxRecDepth 100000 in
theorem tX10_tells {Γ : Gx} {K : Kt} (hM : mLay K) (p1 : Int) (p2 : Int) (p3 : Int) (p4 : Int) (σ : Sg) : Y Γ MX10_tells K (emLS K) K 0 [some (aR 84), some (aI p1), some (aI p2), some (aI p3), some (aL p4), none, none, none, none, none] [] σ (vX10_tells p1 p2 p3 p4 σ) := by
  unfold vX10_tells
  refine y_aload_n dX10_tells_0 rfl rfl ?_
  refine y_getR fX10_13 hM.1 rfl (lM_3 hM).1 dX10_tells_1 ?_
  refine y_iconst dX10_tells_4 (by decide) ?_
  refine yl_iaload (lM_3 hM).2 (by decide) (j := 3) rfl dX10_tells_5 ?_
  refine y_iconst dX10_tells_6 (by decide) ?_
  refine y_ite (fun h1 => ?_) (fun h1 => ?_)
  · refine y_icmp_ne_f dX10_tells_7 (t := 13) rfl h1 ?_
    refine y_lload dX10_tells_10 rfl ?_
    exact y_lret rfl rfl dX10_tells_12
  · refine y_icmp_ne_t dX10_tells_7 (t := 13) rfl h1 ?_
    refine y_aload_n dX10_tells_13 rfl rfl ?_
    refine y_bipush dX10_tells_14 (by decide) (by decide) ?_
    refine y_sipush dX10_tells_16 (by decide) (by decide) ?_
    refine y_aload_n dX10_tells_19 rfl rfl ?_
    refine y_getR fX10_13 hM.1 rfl (lM_3 hM).1 dX10_tells_20 ?_
    refine y_iconst dX10_tells_23 (by decide) ?_
    refine yl_iaload (lM_3 hM).2 (by decide) (j := 3) rfl dX10_tells_24 ?_
    refine yk_imul dX10_tells_25 ?_
    refine yk_iadd dX10_tells_26 ?_
    refine yn_putI fX10_378 hM.1 rfl rfl dX10_tells_27 (fun σ2 => ?_)
    refine y_aload_n dX10_tells_30 rfl rfl ?_
    refine y_getR fX10_101 hM.1 rfl (lM_35 hM).1 dX10_tells_31 ?_
    refine y_iconst dX10_tells_34 (by decide) ?_
    refine y_iload_n dX10_tells_35 rfl rfl ?_
    refine y_i2l dX10_tells_36 ?_
    refine yl_lastore (lM_35 hM).2 (by decide) (j := 1) rfl dX10_tells_37 (fun σ3 => ?_)
    refine y_aload_n dX10_tells_38 rfl rfl ?_
    refine y_getR fX10_101 hM.1 rfl (lM_35 hM).1 dX10_tells_39 ?_
    refine y_iconst dX10_tells_42 (by decide) ?_
    refine y_aload_n dX10_tells_43 rfl rfl ?_
    refine y_getR fX10_13 hM.1 rfl (lM_3 hM).1 dX10_tells_44 ?_
    refine y_bipush dX10_tells_47 (by decide) (by decide) ?_
    refine y_iload_n dX10_tells_49 rfl rfl ?_
    refine yk_iadd dX10_tells_50 ?_
    refine yk_iaload (lM_3 hM).2 (N := 5505) rfl (j := (71 + p2).toNat) rfl dX10_tells_51 ?_
    refine y_i2l dX10_tells_52 ?_
    refine yl_lastore (lM_35 hM).2 (by decide) (j := 2) rfl dX10_tells_53 (fun σ4 => ?_)
    refine y_aload_n dX10_tells_54 rfl rfl ?_
    refine y_getR fX10_101 hM.1 rfl (lM_35 hM).1 dX10_tells_55 ?_
    refine y_iconst dX10_tells_58 (by decide) ?_
    refine y_aload_n dX10_tells_59 rfl rfl ?_
    refine y_getR fX10_13 hM.1 rfl (lM_3 hM).1 dX10_tells_60 ?_
    refine y_bipush dX10_tells_63 (by decide) (by decide) ?_
    refine y_iload_n dX10_tells_65 rfl rfl ?_
    refine yk_iadd dX10_tells_66 ?_
    refine yk_iaload (lM_3 hM).2 (N := 5505) rfl (j := (9 + p2).toNat) rfl dX10_tells_67 ?_
    refine y_i2l dX10_tells_68 ?_
    refine yl_lastore (lM_35 hM).2 (by decide) (j := 3) rfl dX10_tells_69 (fun σ5 => ?_)
    refine y_aload_n dX10_tells_70 rfl rfl ?_
    refine y_getR fX10_101 hM.1 rfl (lM_35 hM).1 dX10_tells_71 ?_
    refine y_iconst dX10_tells_74 (by decide) ?_
    refine y_iload_n dX10_tells_75 rfl rfl ?_
    refine y_i2l dX10_tells_76 ?_
    refine yl_lastore (lM_35 hM).2 (by decide) (j := 4) rfl dX10_tells_77 (fun σ6 => ?_)
    refine y_aload_n dX10_tells_78 rfl rfl ?_
    refine y_getR fX10_101 hM.1 rfl (lM_35 hM).1 dX10_tells_79 ?_
    refine y_iconst dX10_tells_82 (by decide) ?_
    refine y_aload_n dX10_tells_83 rfl rfl ?_
    refine y_getR fX10_13 hM.1 rfl (lM_3 hM).1 dX10_tells_84 ?_
    refine y_bipush dX10_tells_87 (by decide) (by decide) ?_
    refine y_iload_n dX10_tells_89 rfl rfl ?_
    refine yk_iadd dX10_tells_90 ?_
    refine yk_iaload (lM_3 hM).2 (N := 5505) rfl (j := (17 + p3).toNat) rfl dX10_tells_91 ?_
    refine y_i2l dX10_tells_92 ?_
    refine yl_lastore (lM_35 hM).2 (by decide) (j := 5) rfl dX10_tells_93 (fun σ7 => ?_)
    refine y_aload_n dX10_tells_94 rfl rfl ?_
    refine y_getR fX10_101 hM.1 rfl (lM_35 hM).1 dX10_tells_95 ?_
    refine y_bipush dX10_tells_98 (by decide) (by decide) ?_
    refine y_aload_n dX10_tells_100 rfl rfl ?_
    refine y_getR fX10_13 hM.1 rfl (lM_3 hM).1 dX10_tells_101 ?_
    refine y_bipush dX10_tells_104 (by decide) (by decide) ?_
    refine y_iload_n dX10_tells_106 rfl rfl ?_
    refine yk_iadd dX10_tells_107 ?_
    refine yk_iaload (lM_3 hM).2 (N := 5505) rfl (j := (23 + p3).toNat) rfl dX10_tells_108 ?_
    refine y_i2l dX10_tells_109 ?_
    refine yl_lastore (lM_35 hM).2 (by decide) (j := 6) rfl dX10_tells_110 (fun σ8 => ?_)
    refine y_aload_n dX10_tells_111 rfl rfl ?_
    refine y_getR fX10_101 hM.1 rfl (lM_35 hM).1 dX10_tells_112 ?_
    refine y_bipush dX10_tells_115 (by decide) (by decide) ?_
    refine y_aload_n dX10_tells_117 rfl rfl ?_
    refine y_getR fX10_13 hM.1 rfl (lM_3 hM).1 dX10_tells_118 ?_
    refine y_bipush dX10_tells_121 (by decide) (by decide) ?_
    refine y_iload_n dX10_tells_123 rfl rfl ?_
    refine yk_iadd dX10_tells_124 ?_
    refine yk_iaload (lM_3 hM).2 (N := 5505) rfl (j := (29 + p3).toNat) rfl dX10_tells_125 ?_
    refine y_iload_n dX10_tells_126 rfl rfl ?_
    refine y_ite (fun h9 => ?_) (fun h9 => ?_)
    · refine y_icmp_ne_f dX10_tells_127 (t := 139) rfl h9 ?_
      refine y_aload_n dX10_tells_130 rfl rfl ?_
      refine y_iload_n dX10_tells_131 rfl rfl ?_
      refine y_cvI (qX10_keptFor hM p3 σ8) kX10_401 rfl hM.1 rfl (by decide) rfl (Nat.le_of_ble_eq_true rfl) dX10_tells_132 (fun r10 => ?_)
      refine y_i2l dX10_tells_135 ?_
      refine y_goto dX10_tells_136 (t := 142) rfl ?_
      refine y_fg [true, true, false, false, true, false, false, false, false, false] (L' := [some (aR 84), some (aI p1), none, none, some (aL p4), none, none, none, none, none]) rfl ?_
      exact tX10_tells_142 hM p1 p4 7 r10 σ8
    · refine y_icmp_ne_t dX10_tells_127 (t := 139) rfl h9 ?_
      refine y_ldc2 (-1) wX10_c251 dX10_tells_139 (by decide) (by decide) ?_
      refine y_fg [true, true, false, false, true, false, false, false, false, false] (L' := [some (aR 84), some (aI p1), none, none, some (aL p4), none, none, none, none, none]) rfl ?_
      exact tX10_tells_142 hM p1 p4 7 (-1) σ8
theorem qX10_tells {K : Kt} (hM : mLay K) (p1 : Int) (p2 : Int) (p3 : Int) (p4 : Int) (σ : Sg) : Cc MX10_tells K [aR 84, aI p1, aI p2, aI p3, aL p4] σ (emLS K) (vX10_tells p1 p2 p3 p4 σ) := cc_of plX10 (Nat.le_of_ble_eq_true rfl) (fun o _ => ⟨Nat.le_refl _, Nat.le_refl _⟩) (fun Γ => tX10_tells hM p1 p2 p3 p4 σ)
noncomputable def vX10_finesOf (p1 : Int) (p2 : Int) (σ : Sg) : Option (Int × Sg) := bd2 (vX10_tells 0 p1 p2 2 σ) (fun r1 σ2 => (vX10_within r1 0 99 σ2).bind (fun r3 => some (r3, σ2)))
set_option maxRecDepth 100000 in
theorem tX10_finesOf {Γ : Gx} {K : Kt} (hM : mLay K) (p1 : Int) (p2 : Int) (σ : Sg) : Y Γ MX10_finesOf K (emIS K) K 0 [some (aR 84), some (aI p1), some (aI p2)] [] σ (vX10_finesOf p1 p2 σ) := by
  unfold vX10_finesOf
  refine y_aload_n dX10_finesOf_0 rfl rfl ?_
  refine y_iconst dX10_finesOf_1 (by decide) ?_
  refine y_iload_n dX10_finesOf_2 rfl rfl ?_
  refine y_iload_n dX10_finesOf_3 rfl rfl ?_
  refine y_ldc2 2 wX10_c407 dX10_finesOf_4 (by decide) (by decide) ?_
  refine y_cvLS (qX10_tells hM 0 p1 p2 2 σ) kX10_409 rfl hM.1 rfl (by decide) rfl (Nat.le_of_ble_eq_true rfl) dX10_finesOf_7 (fun r1 σ2 => ?_)
  refine y_iconst dX10_finesOf_10 (by decide) ?_
  refine y_bipush dX10_finesOf_11 (by decide) (by decide) ?_
  refine y_csI (qX10_within (K := K) r1 0 99 σ2) kX10_413 rfl (by decide) rfl (Nat.le_of_ble_eq_true rfl) dX10_finesOf_13 (fun r3 => ?_)
  exact y_iret rfl rfl dX10_finesOf_16
theorem qX10_finesOf {K : Kt} (hM : mLay K) (p1 : Int) (p2 : Int) (σ : Sg) : Cc MX10_finesOf K [aR 84, aI p1, aI p2] σ (emIS K) (vX10_finesOf p1 p2 σ) := cc_of plX10 (Nat.le_of_ble_eq_true rfl) (fun o _ => ⟨Nat.le_refl _, Nat.le_refl _⟩) (fun Γ => tX10_finesOf hM p1 p2 σ)
noncomputable def vX10_wearsOf (p1 : Int) (p2 : Int) (σ : Sg) : Option (Int × Sg) := bd2 (vX10_tells 1 p1 p2 1 σ) (fun r1 σ2 => (vX10_within r1 0 20 σ2).bind (fun r3 => some (r3, σ2)))
set_option maxRecDepth 100000 in
theorem tX10_wearsOf {Γ : Gx} {K : Kt} (hM : mLay K) (p1 : Int) (p2 : Int) (σ : Sg) : Y Γ MX10_wearsOf K (emIS K) K 0 [some (aR 84), some (aI p1), some (aI p2)] [] σ (vX10_wearsOf p1 p2 σ) := by
  unfold vX10_wearsOf
  refine y_aload_n dX10_wearsOf_0 rfl rfl ?_
  refine y_iconst dX10_wearsOf_1 (by decide) ?_
  refine y_iload_n dX10_wearsOf_2 rfl rfl ?_
  refine y_iload_n dX10_wearsOf_3 rfl rfl ?_
  refine y_lconst 1 dX10_wearsOf_4 (by decide) (by decide) ?_
  refine y_cvLS (qX10_tells hM 1 p1 p2 1 σ) kX10_409 rfl hM.1 rfl (by decide) rfl (Nat.le_of_ble_eq_true rfl) dX10_wearsOf_5 (fun r1 σ2 => ?_)
  refine y_iconst dX10_wearsOf_8 (by decide) ?_
  refine y_bipush dX10_wearsOf_9 (by decide) (by decide) ?_
  refine y_csI (qX10_within (K := K) r1 0 20 σ2) kX10_413 rfl (by decide) rfl (Nat.le_of_ble_eq_true rfl) dX10_wearsOf_11 (fun r3 => ?_)
  exact y_iret rfl rfl dX10_wearsOf_14
theorem qX10_wearsOf {K : Kt} (hM : mLay K) (p1 : Int) (p2 : Int) (σ : Sg) : Cc MX10_wearsOf K [aR 84, aI p1, aI p2] σ (emIS K) (vX10_wearsOf p1 p2 σ) := cc_of plX10 (Nat.le_of_ble_eq_true rfl) (fun o _ => ⟨Nat.le_refl _, Nat.le_refl _⟩) (fun Γ => tX10_wearsOf hM p1 p2 σ)
noncomputable def vX10_takesOf (p1 : Int) (p2 : Int) (σ : Sg) : Option (Int × Sg) := ck (in32 (71 + p1)) (ck (0 ≤ (71 + p1) ∧ (71 + p1) < 5505) (bd2 (vX10_tells 2 p1 p2 (σ 86 (71 + p1).toNat) σ) (fun r1 σ2 => (vX10_within r1 1 99 σ2).bind (fun r3 => some (r3, σ2)))))
set_option maxRecDepth 100000 in
theorem tX10_takesOf {Γ : Gx} {K : Kt} (hM : mLay K) (p1 : Int) (p2 : Int) (σ : Sg) : Y Γ MX10_takesOf K (emIS K) K 0 [some (aR 84), some (aI p1), some (aI p2)] [] σ (vX10_takesOf p1 p2 σ) := by
  unfold vX10_takesOf
  refine y_aload_n dX10_takesOf_0 rfl rfl ?_
  refine y_iconst dX10_takesOf_1 (by decide) ?_
  refine y_iload_n dX10_takesOf_2 rfl rfl ?_
  refine y_iload_n dX10_takesOf_3 rfl rfl ?_
  refine y_aload_n dX10_takesOf_4 rfl rfl ?_
  refine y_getR fX10_13 hM.1 rfl (lM_3 hM).1 dX10_takesOf_5 ?_
  refine y_bipush dX10_takesOf_8 (by decide) (by decide) ?_
  refine y_iload_n dX10_takesOf_10 rfl rfl ?_
  refine yk_iadd dX10_takesOf_11 ?_
  refine yk_iaload (lM_3 hM).2 (N := 5505) rfl (j := (71 + p1).toNat) rfl dX10_takesOf_12 ?_
  refine y_i2l dX10_takesOf_13 ?_
  refine y_cvLS (qX10_tells hM 2 p1 p2 (σ 86 (71 + p1).toNat) σ) kX10_409 rfl hM.1 rfl (by decide) rfl (Nat.le_of_ble_eq_true rfl) dX10_takesOf_14 (fun r1 σ2 => ?_)
  refine y_iconst dX10_takesOf_17 (by decide) ?_
  refine y_bipush dX10_takesOf_18 (by decide) (by decide) ?_
  refine y_csI (qX10_within (K := K) r1 1 99 σ2) kX10_413 rfl (by decide) rfl (Nat.le_of_ble_eq_true rfl) dX10_takesOf_20 (fun r3 => ?_)
  exact y_iret rfl rfl dX10_takesOf_23
theorem qX10_takesOf {K : Kt} (hM : mLay K) (p1 : Int) (p2 : Int) (σ : Sg) : Cc MX10_takesOf K [aR 84, aI p1, aI p2] σ (emIS K) (vX10_takesOf p1 p2 σ) := cc_of plX10 (Nat.le_of_ble_eq_true rfl) (fun o _ => ⟨Nat.le_refl _, Nat.le_refl _⟩) (fun Γ => tX10_takesOf hM p1 p2 σ)
noncomputable def vX10_isBarred (p1 : Int) (p2 : Int) (σ : Sg) : Option (Int × Sg) := bd2 (vX10_tells 3 p1 p2 0 σ) (fun r1 σ2 => if r1 = 1 then (some (1, σ2)) else (some (0, σ2)))
set_option maxRecDepth 100000 in
theorem tX10_isBarred {Γ : Gx} {K : Kt} (hM : mLay K) (p1 : Int) (p2 : Int) (σ : Sg) : Y Γ MX10_isBarred K (emIS K) K 0 [some (aR 84), some (aI p1), some (aI p2)] [] σ (vX10_isBarred p1 p2 σ) := by
  unfold vX10_isBarred
  refine y_aload_n dX10_isBarred_0 rfl rfl ?_
  refine y_iconst dX10_isBarred_1 (by decide) ?_
  refine y_iload_n dX10_isBarred_2 rfl rfl ?_
  refine y_iload_n dX10_isBarred_3 rfl rfl ?_
  refine y_lconst 0 dX10_isBarred_4 (by decide) (by decide) ?_
  refine y_cvLS (qX10_tells hM 3 p1 p2 0 σ) kX10_409 rfl hM.1 rfl (by decide) rfl (Nat.le_of_ble_eq_true rfl) dX10_isBarred_5 (fun r1 σ2 => ?_)
  refine y_lconst 1 dX10_isBarred_8 (by decide) (by decide) ?_
  refine y_lcmp dX10_isBarred_9 ?_
  refine y_ite (fun h3 => ?_) (fun h3 => ?_)
  · refine y_if_ne_f dX10_isBarred_10 (t := 17) rfl (cmp3_eq.mpr h3) ?_
    refine y_iconst dX10_isBarred_13 (by decide) ?_
    refine y_goto dX10_isBarred_14 (t := 18) rfl ?_
    exact y_zret (by decide) rfl rfl dX10_isBarred_18
  · refine y_if_ne_t dX10_isBarred_10 (t := 17) rfl (fun z => h3 (cmp3_eq.mp z)) ?_
    refine y_iconst dX10_isBarred_17 (by decide) ?_
    exact y_zret (by decide) rfl rfl dX10_isBarred_18
theorem qX10_isBarred {K : Kt} (hM : mLay K) (p1 : Int) (p2 : Int) (σ : Sg) : Cc MX10_isBarred K [aR 84, aI p1, aI p2] σ (emIS K) (vX10_isBarred p1 p2 σ) := cc_of plX10 (Nat.le_of_ble_eq_true rfl) (fun o _ => ⟨Nat.le_refl _, Nat.le_refl _⟩) (fun Γ => tX10_isBarred hM p1 p2 σ)
noncomputable def vX10_isFitting (p1 : Int) (p2 : Int) (σ : Sg) : Option (Int) := ck (in32 (79 + p1)) (ck (0 ≤ (79 + p1) ∧ (79 + p1) < 5505) (ck (in32 (17 + p2)) (ck (0 ≤ (17 + p2) ∧ (17 + p2) < 5505) ((vX10_isIn (σ 86 (79 + p1).toNat) (σ 86 (17 + p2).toNat) σ).bind (fun r1 => ck (r1 = 0 ∨ r1 = 1) (some r1))))))
set_option maxRecDepth 100000 in
theorem tX10_isFitting {Γ : Gx} {K : Kt} (hM : mLay K) (p1 : Int) (p2 : Int) (σ : Sg) : Y Γ MX10_isFitting K (emI K σ) K 0 [some (aR 84), some (aI p1), some (aI p2)] [] σ (vX10_isFitting p1 p2 σ) := by
  unfold vX10_isFitting
  refine y_aload_n dX10_isFitting_0 rfl rfl ?_
  refine y_getR fX10_13 hM.1 rfl (lM_3 hM).1 dX10_isFitting_1 ?_
  refine y_bipush dX10_isFitting_4 (by decide) (by decide) ?_
  refine y_iload_n dX10_isFitting_6 rfl rfl ?_
  refine yk_iadd dX10_isFitting_7 ?_
  refine yk_iaload (lM_3 hM).2 (N := 5505) rfl (j := (79 + p1).toNat) rfl dX10_isFitting_8 ?_
  refine y_aload_n dX10_isFitting_9 rfl rfl ?_
  refine y_getR fX10_13 hM.1 rfl (lM_3 hM).1 dX10_isFitting_10 ?_
  refine y_bipush dX10_isFitting_13 (by decide) (by decide) ?_
  refine y_iload_n dX10_isFitting_15 rfl rfl ?_
  refine yk_iadd dX10_isFitting_16 ?_
  refine yk_iaload (lM_3 hM).2 (N := 5505) rfl (j := (17 + p2).toNat) rfl dX10_isFitting_17 ?_
  refine y_csI (qX10_isIn (K := K) (σ 86 (79 + p1).toNat) (σ 86 (17 + p2).toNat) σ) kX10_417 rfl (by decide) rfl (Nat.le_of_ble_eq_true rfl) dX10_isFitting_18 (fun r1 => ?_)
  exact yk_zret rfl rfl dX10_isFitting_21
theorem qX10_isFitting {K : Kt} (hM : mLay K) (p1 : Int) (p2 : Int) (σ : Sg) : Cc MX10_isFitting K [aR 84, aI p1, aI p2] σ (emI K σ) (vX10_isFitting p1 p2 σ) := cc_of plX10 (Nat.le_of_ble_eq_true rfl) (fun o _ => ⟨Nat.le_refl _, Nat.le_refl _⟩) (fun Γ => tX10_isFitting hM p1 p2 σ)
