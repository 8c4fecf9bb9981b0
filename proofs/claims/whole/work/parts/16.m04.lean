noncomputable def vX10_layWeeks_83 (rec_3 : Int → Int → Sg → Option (Sg)) (rec_30 : Int → Int → Int → Sg → Option (Sg)) (x1 x2 x3 y1 y2 : Int) (σ : Sg) : Option (Sg) := ck (0 ≤ y1 ∧ y1 < 64) (nm (up2 σ 107 y1.toNat y2) (fun σ1 => ck (in32 (x3 + 1)) (rec_30 x1 x2 (x3 + 1) σ1)))
set_option maxRecDepth 100000 in
theorem tX10_layWeeks_83 {Γ : Gx} {K : Kt} (hM : mLay K)  (rec_3 : Int → Int → Sg → Option (Sg)) (hrec_3 : ∀ (x1 x2 : Int) (σ : Sg), Y Γ MX10_layWeeks K (emV K) K 3 [some (aR 84), some (aI x1), some (aI x2), none, none] [] σ (rec_3 x1 x2 σ)) (rec_30 : Int → Int → Int → Sg → Option (Sg)) (hrec_30 : ∀ (x1 x2 x3 : Int) (σ : Sg), Y Γ MX10_layWeeks K (emV K) K 30 [some (aR 84), some (aI x1), some (aI x2), some (aI x3), none] [] σ (rec_30 x1 x2 x3 σ)) (x1 x2 x3 y1 y2 : Int) (σ : Sg) : Y Γ MX10_layWeeks K (emV K) K 83 [some (aR 84), some (aI x1), some (aI x2), some (aI x3), none] [aI y2, aI y1, aR 107] σ (vX10_layWeeks_83 rec_3 rec_30 x1 x2 x3 y1 y2 σ) := by
  unfold vX10_layWeeks_83
  refine yk_iastore (lM_43 hM).2 (N := 64) rfl (j := y1.toNat) rfl dX10_layWeeks_83 (fun σ1 => ?_)
  refine yk_iinc dX10_layWeeks_84 rfl (L' := [some (aR 84), some (aI x1), some (aI x2), some (aI (x3 + 1)), none]) rfl ?_
  refine y_goto dX10_layWeeks_87 (t := 30) rfl ?_
  exact hrec_30 x1 x2 (x3 + 1) σ1
noncomputable def vX10_layWeeks_30 (rec_3 : Int → Int → Sg → Option (Sg)) : Nat → Int → Int → Int → Sg → Option (Sg)
  | 0, _, _, _, _ => none
  | f + 1, x1, x2, x3, σ => if x3 < (σ 86 0) then ((vX10_isIn x1 x2 σ).bind (fun r2 => if r2 = 0 then ((vX10_weeksBy x2 x3 σ).bind (fun r4 => ck (0 ≤ x2 ∧ x2 < 64) (if r4 < (σ 107 x2.toNat) then (vX10_layWeeks_83 rec_3 (vX10_layWeeks_30 rec_3 f) x1 x2 x3 x2 r4 σ) else (ck (0 ≤ x2 ∧ x2 < 64) (vX10_layWeeks_83 rec_3 (vX10_layWeeks_30 rec_3 f) x1 x2 x3 x2 (σ 107 x2.toNat) σ))))) else (ck (in32 (x2 + (-1))) (rec_3 x1 (x2 + (-1)) σ)))) else (ck (in32 (x2 + (-1))) (rec_3 x1 (x2 + (-1)) σ))
set_option maxRecDepth 100000 in
theorem tX10_layWeeks_30 {Γ : Gx} {K : Kt} (hM : mLay K)  (rec_3 : Int → Int → Sg → Option (Sg)) (hrec_3 : ∀ (x1 x2 : Int) (σ : Sg), Y Γ MX10_layWeeks K (emV K) K 3 [some (aR 84), some (aI x1), some (aI x2), none, none] [] σ (rec_3 x1 x2 σ)) : ∀ (f : Nat) (x1 x2 x3 : Int) (σ : Sg), Y Γ MX10_layWeeks K (emV K) K 30 [some (aR 84), some (aI x1), some (aI x2), some (aI x3), none] [] σ (vX10_layWeeks_30 rec_3 f x1 x2 x3 σ) := by
  intro f
  induction f with
  | zero => intro x1 x2 x3 σ; exact y_none
  | succ f ih =>
    intro x1 x2 x3 σ
    rw [vX10_layWeeks_30]
    refine y_iload_n dX10_layWeeks_30 rfl rfl ?_
    refine y_aload_n dX10_layWeeks_31 rfl rfl ?_
    refine y_getR fX10_13 hM.1 rfl (lM_3 hM).1 dX10_layWeeks_32 ?_
    refine y_iconst dX10_layWeeks_35 (by decide) ?_
    refine yl_iaload (lM_3 hM).2 (by decide) (j := 0) rfl dX10_layWeeks_36 ?_
    refine y_ite (fun h1 => ?_) (fun h1 => ?_)
    · refine y_icmp_ge_f dX10_layWeeks_37 (t := 90) rfl h1 ?_
      refine y_iload_n dX10_layWeeks_40 rfl rfl ?_
      refine y_iload_n dX10_layWeeks_41 rfl rfl ?_
      refine y_csI (qX10_isIn (K := K) x1 x2 σ) kX10_417 rfl (by decide) rfl (Nat.le_of_ble_eq_true rfl) dX10_layWeeks_42 (fun r2 => ?_)
      refine y_ite (fun h3 => ?_) (fun h3 => ?_)
      · refine y_if_ne_f dX10_layWeeks_45 (t := 90) rfl h3 ?_
        refine y_aload_n dX10_layWeeks_48 rfl rfl ?_
        refine y_iload_n dX10_layWeeks_49 rfl rfl ?_
        refine y_iload_n dX10_layWeeks_50 rfl rfl ?_
        refine y_cvI (qX10_weeksBy hM x2 x3 σ) kX10_479 rfl hM.1 rfl (by decide) rfl (Nat.le_of_ble_eq_true rfl) dX10_layWeeks_51 (fun r4 => ?_)
        refine y_istore dX10_layWeeks_54 (Nat.le_of_ble_eq_true rfl) (L' := [some (aR 84), some (aI x1), some (aI x2), some (aI x3), some (aI r4)]) rfl ?_
        refine y_aload_n dX10_layWeeks_56 rfl rfl ?_
        refine y_getR fX10_116 hM.1 rfl (lM_43 hM).1 dX10_layWeeks_57 ?_
        refine y_iload_n dX10_layWeeks_60 rfl rfl ?_
        refine y_iload dX10_layWeeks_61 rfl ?_
        refine y_aload_n dX10_layWeeks_63 rfl rfl ?_
        refine y_getR fX10_116 hM.1 rfl (lM_43 hM).1 dX10_layWeeks_64 ?_
        refine y_iload_n dX10_layWeeks_67 rfl rfl ?_
        refine yk_iaload (lM_43 hM).2 (N := 64) rfl (j := x2.toNat) rfl dX10_layWeeks_68 ?_
        refine y_ite (fun h5 => ?_) (fun h5 => ?_)
        · refine y_icmp_ge_f dX10_layWeeks_69 (t := 77) rfl h5 ?_
          refine y_iload dX10_layWeeks_72 rfl ?_
          refine y_goto dX10_layWeeks_74 (t := 83) rfl ?_
          refine y_fg [true, true, true, true, false] (L' := [some (aR 84), some (aI x1), some (aI x2), some (aI x3), none]) rfl ?_
          exact tX10_layWeeks_83 hM rec_3 hrec_3 (vX10_layWeeks_30 rec_3 f) ih x1 x2 x3 x2 r4 σ
        · refine y_icmp_ge_t dX10_layWeeks_69 (t := 77) rfl h5 ?_
          refine y_aload_n dX10_layWeeks_77 rfl rfl ?_
          refine y_getR fX10_116 hM.1 rfl (lM_43 hM).1 dX10_layWeeks_78 ?_
          refine y_iload_n dX10_layWeeks_81 rfl rfl ?_
          refine yk_iaload (lM_43 hM).2 (N := 64) rfl (j := x2.toNat) rfl dX10_layWeeks_82 ?_
          refine y_fg [true, true, true, true, false] (L' := [some (aR 84), some (aI x1), some (aI x2), some (aI x3), none]) rfl ?_
          exact tX10_layWeeks_83 hM rec_3 hrec_3 (vX10_layWeeks_30 rec_3 f) ih x1 x2 x3 x2 (σ 107 x2.toNat) σ
      · refine y_if_ne_t dX10_layWeeks_45 (t := 90) rfl h3 ?_
        refine yk_iinc dX10_layWeeks_90 rfl (L' := [some (aR 84), some (aI x1), some (aI (x2 + (-1))), some (aI x3), none]) rfl ?_
        refine y_goto dX10_layWeeks_93 (t := 3) rfl ?_
        refine y_fg [true, true, true, false, false] (L' := [some (aR 84), some (aI x1), some (aI (x2 + (-1))), none, none]) rfl ?_
        exact hrec_3 x1 (x2 + (-1)) σ
    · refine y_icmp_ge_t dX10_layWeeks_37 (t := 90) rfl h1 ?_
      refine yk_iinc dX10_layWeeks_90 rfl (L' := [some (aR 84), some (aI x1), some (aI (x2 + (-1))), some (aI x3), none]) rfl ?_
      refine y_goto dX10_layWeeks_93 (t := 3) rfl ?_
      refine y_fg [true, true, true, false, false] (L' := [some (aR 84), some (aI x1), some (aI (x2 + (-1))), none, none]) rfl ?_
      exact hrec_3 x1 (x2 + (-1)) σ
noncomputable def vX10_layWeeks_27 (rec_3 : Int → Int → Sg → Option (Sg)) (x1 x2 y1 y2 : Int) (σ : Sg) : Option (Sg) := ck (0 ≤ y1 ∧ y1 < 64) (nm (up2 σ 107 y1.toNat y2) (fun σ1 => vX10_layWeeks_30 rec_3 FU x1 x2 0 σ1))
set_option maxRecDepth 100000 in
theorem tX10_layWeeks_27 {Γ : Gx} {K : Kt} (hM : mLay K)  (rec_3 : Int → Int → Sg → Option (Sg)) (hrec_3 : ∀ (x1 x2 : Int) (σ : Sg), Y Γ MX10_layWeeks K (emV K) K 3 [some (aR 84), some (aI x1), some (aI x2), none, none] [] σ (rec_3 x1 x2 σ)) (x1 x2 y1 y2 : Int) (σ : Sg) : Y Γ MX10_layWeeks K (emV K) K 27 [some (aR 84), some (aI x1), some (aI x2), none, none] [aI y2, aI y1, aR 107] σ (vX10_layWeeks_27 rec_3 x1 x2 y1 y2 σ) := by
  unfold vX10_layWeeks_27
  refine yk_iastore (lM_43 hM).2 (N := 64) rfl (j := y1.toNat) rfl dX10_layWeeks_27 (fun σ1 => ?_)
  refine y_iconst dX10_layWeeks_28 (by decide) ?_
  refine y_istore_n dX10_layWeeks_29 rfl (Nat.le_of_ble_eq_true rfl) (L' := [some (aR 84), some (aI x1), some (aI x2), some (aI 0), none]) rfl ?_
  exact tX10_layWeeks_30 hM rec_3 hrec_3 FU x1 x2 0 σ1
noncomputable def vX10_layWeeks_3 : Nat → Int → Int → Sg → Option (Sg)
  | 0, _, _, _ => none
  | f + 1, x1, x2, σ => if x2 < 0 then (some σ) else ((vX10_isIn x1 x2 σ).bind (fun r2 => if r2 = 0 then (vX10_layWeeks_27 (vX10_layWeeks_3 f) x1 x2 x2 100000000 σ) else (vX10_layWeeks_27 (vX10_layWeeks_3 f) x1 x2 x2 0 σ)))
set_option maxRecDepth 100000 in
theorem tX10_layWeeks_3 {Γ : Gx} {K : Kt} (hM : mLay K)  : ∀ (f : Nat) (x1 x2 : Int) (σ : Sg), Y Γ MX10_layWeeks K (emV K) K 3 [some (aR 84), some (aI x1), some (aI x2), none, none] [] σ (vX10_layWeeks_3 f x1 x2 σ) := by
  intro f
  induction f with
  | zero => intro x1 x2 σ; exact y_none
  | succ f ih =>
    intro x1 x2 σ
    rw [vX10_layWeeks_3]
    refine y_iload_n dX10_layWeeks_3 rfl rfl ?_
    refine y_ite (fun h1 => ?_) (fun h1 => ?_)
    · refine y_if_lt_t dX10_layWeeks_4 (t := 96) rfl h1 ?_
      exact y_vret rfl rfl dX10_layWeeks_96
    · refine y_if_lt_f dX10_layWeeks_4 (t := 96) rfl h1 ?_
      refine y_aload_n dX10_layWeeks_7 rfl rfl ?_
      refine y_getR fX10_116 hM.1 rfl (lM_43 hM).1 dX10_layWeeks_8 ?_
      refine y_iload_n dX10_layWeeks_11 rfl rfl ?_
      refine y_iload_n dX10_layWeeks_12 rfl rfl ?_
      refine y_iload_n dX10_layWeeks_13 rfl rfl ?_
      refine y_csI (qX10_isIn (K := K) x1 x2 σ) kX10_417 rfl (by decide) rfl (Nat.le_of_ble_eq_true rfl) dX10_layWeeks_14 (fun r2 => ?_)
      refine y_ite (fun h3 => ?_) (fun h3 => ?_)
      · refine y_if_eq_t dX10_layWeeks_17 (t := 24) rfl h3 ?_
        refine y_ldcw 100000000 wX10_c478 dX10_layWeeks_24 (by decide) (by decide) ?_
        exact tX10_layWeeks_27 hM (vX10_layWeeks_3 f) ih x1 x2 x2 100000000 σ
      · refine y_if_eq_f dX10_layWeeks_17 (t := 24) rfl h3 ?_
        refine y_iconst dX10_layWeeks_20 (by decide) ?_
        refine y_goto dX10_layWeeks_21 (t := 27) rfl ?_
        exact tX10_layWeeks_27 hM (vX10_layWeeks_3 f) ih x1 x2 x2 0 σ
noncomputable def vX10_layWeeks (p1 : Int) (σ : Sg) : Option (Sg) := vX10_layWeeks_3 FU p1 63 σ
set_option maxRecDepth 100000 in
theorem tX10_layWeeks {Γ : Gx} {K : Kt} (hM : mLay K) (p1 : Int) (σ : Sg) : Y Γ MX10_layWeeks K (emV K) K 0 [some (aR 84), some (aI p1), none, none, none] [] σ (vX10_layWeeks p1 σ) := by
  unfold vX10_layWeeks
  refine y_bipush dX10_layWeeks_0 (by decide) (by decide) ?_
  refine y_istore_n dX10_layWeeks_2 rfl (Nat.le_of_ble_eq_true rfl) (L' := [some (aR 84), some (aI p1), some (aI 63), none, none]) rfl ?_
  exact tX10_layWeeks_3 hM FU p1 63 σ
theorem qX10_layWeeks {K : Kt} (hM : mLay K) (p1 : Int) (σ : Sg) : Cc MX10_layWeeks K [aR 84, aI p1] σ (emV K) (vX10_layWeeks p1 σ) := cc_of plX10 (Nat.le_of_ble_eq_true rfl) (fun o _ => ⟨Nat.le_refl _, Nat.le_refl _⟩) (fun Γ => tX10_layWeeks hM p1 σ)
noncomputable def vX10_way_58 (x1 : Int) (σ : Sg) : Option (Int × Sg) := ck (0 ≤ x1 ∧ x1 < 64) (if (σ 107 x1.toNat) = 100000000 then (some ((-1), σ)) else (ck (0 ≤ x1 ∧ x1 < 64) (ck (¬ (100 : Int) = 0 ∧ in32 (Int.tdiv (σ 107 x1.toNat) 100)) (some ((Int.tdiv (σ 107 x1.toNat) 100), σ)))))
set_option maxRecDepth 100000 in
theorem tX10_way_58 {Γ : Gx} {K : Kt} (hM : mLay K)  (x1 : Int) (σ : Sg) : Y Γ MX10_way K (emIS K) K 58 [some (aR 84), some (aI x1), none, none, none, none, none] [] σ (vX10_way_58 x1 σ) := by
  unfold vX10_way_58
  refine y_aload_n dX10_way_58 rfl rfl ?_
  refine y_getR fX10_116 hM.1 rfl (lM_43 hM).1 dX10_way_59 ?_
  refine y_iload_n dX10_way_62 rfl rfl ?_
  refine yk_iaload (lM_43 hM).2 (N := 64) rfl (j := x1.toNat) rfl dX10_way_63 ?_
  refine y_ldcw 100000000 wX10_c478 dX10_way_64 (by decide) (by decide) ?_
  refine y_ite (fun h1 => ?_) (fun h1 => ?_)
  · refine y_icmp_ne_f dX10_way_67 (t := 74) rfl h1 ?_
    refine y_iconst dX10_way_70 (by decide) ?_
    refine y_goto dX10_way_71 (t := 83) rfl ?_
    exact y_iret rfl rfl dX10_way_83
  · refine y_icmp_ne_t dX10_way_67 (t := 74) rfl h1 ?_
    refine y_aload_n dX10_way_74 rfl rfl ?_
    refine y_getR fX10_116 hM.1 rfl (lM_43 hM).1 dX10_way_75 ?_
    refine y_iload_n dX10_way_78 rfl rfl ?_
    refine yk_iaload (lM_43 hM).2 (N := 64) rfl (j := x1.toNat) rfl dX10_way_79 ?_
    refine y_bipush dX10_way_80 (by decide) (by decide) ?_
    refine yk_idiv dX10_way_82 ?_
    exact y_iret rfl rfl dX10_way_83
noncomputable def vX10_way_114 (rec_93 : Int → Int → Int → Int → Sg → Option (Int × Sg)) : Nat → Int → Int → Int → Int → Sg → Option (Int × Sg)
  | 0, _, _, _, _, _ => none
  | f + 1, x3, x4, x5, x6, σ => (vX10_weeksBy x4 x5 σ).bind (fun r1 => ck (0 ≤ x4 ∧ x4 < 64) (if r1 = (σ 107 x4.toNat) then (ck (in32 (87 + x5)) (ck (0 ≤ (87 + x5) ∧ (87 + x5) < 5505) (nm (bOr x4 (σ 86 (87 + x5).toNat)) (fun z3 => ck (in32 (x6 + 1)) (rec_93 x3 z3 x5 (x6 + 1) σ))))) else (ck (in32 (x5 + 1)) (vX10_way_114 rec_93 f x3 x4 (x5 + 1) x6 σ))))
set_option maxRecDepth 100000 in
theorem tX10_way_114 {Γ : Gx} {K : Kt} (hM : mLay K)  (rec_93 : Int → Int → Int → Int → Sg → Option (Int × Sg)) (hrec_93 : ∀ (x3 x4 x5 x6 : Int) (σ : Sg), Y Γ MX10_way K (emIS K) K 93 [some (aR 84), none, none, some (aI x3), some (aI x4), some (aI x5), some (aI x6)] [] σ (rec_93 x3 x4 x5 x6 σ)) : ∀ (f : Nat) (x3 x4 x5 x6 : Int) (σ : Sg), Y Γ MX10_way K (emIS K) K 114 [some (aR 84), none, none, some (aI x3), some (aI x4), some (aI x5), some (aI x6)] [] σ (vX10_way_114 rec_93 f x3 x4 x5 x6 σ) := by
  intro f
  induction f with
  | zero => intro x3 x4 x5 x6 σ; exact y_none
  | succ f ih =>
    intro x3 x4 x5 x6 σ
    rw [vX10_way_114]
    refine y_aload_n dX10_way_114 rfl rfl ?_
    refine y_iload dX10_way_115 rfl ?_
    refine y_iload dX10_way_117 rfl ?_
    refine y_cvI (qX10_weeksBy hM x4 x5 σ) kX10_479 rfl hM.1 rfl (by decide) rfl (Nat.le_of_ble_eq_true rfl) dX10_way_119 (fun r1 => ?_)
    refine y_aload_n dX10_way_122 rfl rfl ?_
    refine y_getR fX10_116 hM.1 rfl (lM_43 hM).1 dX10_way_123 ?_
    refine y_iload dX10_way_126 rfl ?_
    refine yk_iaload (lM_43 hM).2 (N := 64) rfl (j := x4.toNat) rfl dX10_way_128 ?_
    refine y_ite (fun h2 => ?_) (fun h2 => ?_)
    · refine y_icmp_eq_t dX10_way_129 (t := 138) rfl h2 ?_
      refine y_iload dX10_way_138 rfl ?_
      refine y_aload_n dX10_way_140 rfl rfl ?_
      refine y_getR fX10_13 hM.1 rfl (lM_3 hM).1 dX10_way_141 ?_
      refine y_bipush dX10_way_144 (by decide) (by decide) ?_
      refine y_iload dX10_way_146 rfl ?_
      refine yk_iadd dX10_way_148 ?_
      refine yk_iaload (lM_3 hM).2 (N := 5505) rfl (j := (87 + x5).toNat) rfl dX10_way_149 ?_
      refine y_ior dX10_way_150 ?_
      refine yn_istore dX10_way_151 (Nat.le_of_ble_eq_true rfl) (L' := fun z3 => [some (aR 84), none, none, some (aI x3), some (aI z3), some (aI x5), some (aI x6)]) (fun _ => rfl) (fun z3 => ?_)
      refine yk_iinc dX10_way_153 rfl (L' := [some (aR 84), none, none, some (aI x3), some (aI z3), some (aI x5), some (aI (x6 + 1))]) rfl ?_
      refine y_goto dX10_way_156 (t := 93) rfl ?_
      exact hrec_93 x3 z3 x5 (x6 + 1) σ
    · refine y_icmp_eq_f dX10_way_129 (t := 138) rfl h2 ?_
      refine yk_iinc dX10_way_132 rfl (L' := [some (aR 84), none, none, some (aI x3), some (aI x4), some (aI (x5 + 1)), some (aI x6)]) rfl ?_
      refine y_goto dX10_way_135 (t := 114) rfl ?_
      exact ih x3 x4 (x5 + 1) x6 σ
noncomputable def vX10_way_93 : Nat → Int → Int → Int → Int → Sg → Option (Int × Sg)
  | 0, _, _, _, _, _ => none
  | f + 1, x3, x4, x5, x6, σ => if x3 < x6 then (some (x5, σ)) else (ck (0 ≤ x4 ∧ x4 < 64) (if (σ 107 x4.toNat) = 0 then (some ((-1), σ)) else (vX10_way_114 (vX10_way_93 f) FU x3 x4 0 x6 σ)))
set_option maxRecDepth 100000 in
theorem tX10_way_93 {Γ : Gx} {K : Kt} (hM : mLay K)  : ∀ (f : Nat) (x3 x4 x5 x6 : Int) (σ : Sg), Y Γ MX10_way K (emIS K) K 93 [some (aR 84), none, none, some (aI x3), some (aI x4), some (aI x5), some (aI x6)] [] σ (vX10_way_93 f x3 x4 x5 x6 σ) := by
  intro f
  induction f with
  | zero => intro x3 x4 x5 x6 σ; exact y_none
  | succ f ih =>
    intro x3 x4 x5 x6 σ
    rw [vX10_way_93]
    refine y_iload dX10_way_93 rfl ?_
    refine y_iload_n dX10_way_95 rfl rfl ?_
    refine y_ite (fun h1 => ?_) (fun h1 => ?_)
    · refine y_icmp_gt_t dX10_way_96 (t := 159) rfl h1 ?_
      refine y_iload dX10_way_159 rfl ?_
      exact y_iret rfl rfl dX10_way_161
    · refine y_icmp_gt_f dX10_way_96 (t := 159) rfl h1 ?_
      refine y_aload_n dX10_way_99 rfl rfl ?_
      refine y_getR fX10_116 hM.1 rfl (lM_43 hM).1 dX10_way_100 ?_
      refine y_iload dX10_way_103 rfl ?_
      refine yk_iaload (lM_43 hM).2 (N := 64) rfl (j := x4.toNat) rfl dX10_way_105 ?_
      refine y_ite (fun h2 => ?_) (fun h2 => ?_)
      · refine y_if_ne_f dX10_way_106 (t := 111) rfl h2 ?_
        refine y_iconst dX10_way_109 (by decide) ?_
        exact y_iret rfl rfl dX10_way_110
      · refine y_if_ne_t dX10_way_106 (t := 111) rfl h2 ?_
        refine y_iconst dX10_way_111 (by decide) ?_
        refine y_istore dX10_way_112 (Nat.le_of_ble_eq_true rfl) (L' := [some (aR 84), none, none, some (aI x3), some (aI x4), some (aI 0), some (aI x6)]) rfl ?_
        exact tX10_way_114 hM (vX10_way_93 f) ih FU x3 x4 0 x6 σ
noncomputable def vX10_way (p1 : Int) (p2 : Int) (p3 : Int) (σ : Sg) : Option (Int × Sg) := nm (up2 σ 84 0 0) (fun σ1 => (vX10_in p1 0 63 σ1).bind (fun r2 => if r2 = 0 then (some ((-1), σ1)) else ((vX10_in p2 0 63 σ1).bind (fun r4 => if r4 = 0 then (some ((-1), σ1)) else (if p3 < (-1) then (some ((-1), σ1)) else ((vX10_layWeeks p2 σ1).bind (fun σ7 => ck (0 ≤ p1 ∧ p1 < 64) (if (σ7 107 p1.toNat) = 100000000 then (vX10_way_58 p1 σ7) else (if p3 = (-1) then (vX10_way_58 p1 σ7) else (vX10_way_93 FU p3 p1 (-1) 0 σ7))))))))))
set_option maxRecDepth 100000 in
theorem tX10_way {Γ : Gx} {K : Kt} (hM : mLay K) (p1 : Int) (p2 : Int) (p3 : Int) (σ : Sg) : Y Γ MX10_way K (emIS K) K 0 [some (aR 84), some (aI p1), some (aI p2), some (aI p3), none, none, none] [] σ (vX10_way p1 p2 p3 σ) := by
  unfold vX10_way
  refine y_aload_n dX10_way_0 rfl rfl ?_
  refine y_iconst dX10_way_1 (by decide) ?_
  refine yn_putI fX10_157 hM.1 rfl rfl dX10_way_2 (fun σ1 => ?_)
  refine y_iload_n dX10_way_5 rfl rfl ?_
  refine y_i2l dX10_way_6 ?_
  refine y_lconst 0 dX10_way_7 (by decide) (by decide) ?_
  refine y_ldc2 63 wX10_c186 dX10_way_8 (by decide) (by decide) ?_
  refine y_csI (qX10_in (K := K) p1 0 63 σ1) kX10_177 rfl (by decide) rfl (Nat.le_of_ble_eq_true rfl) dX10_way_11 (fun r2 => ?_)
  refine y_ite (fun h3 => ?_) (fun h3 => ?_)
  · refine y_if_eq_t dX10_way_14 (t := 34) rfl h3 ?_
    refine y_iconst dX10_way_34 (by decide) ?_
    exact y_iret rfl rfl dX10_way_35
  · refine y_if_eq_f dX10_way_14 (t := 34) rfl h3 ?_
    refine y_iload_n dX10_way_17 rfl rfl ?_
    refine y_i2l dX10_way_18 ?_
    refine y_lconst 0 dX10_way_19 (by decide) (by decide) ?_
    refine y_ldc2 63 wX10_c186 dX10_way_20 (by decide) (by decide) ?_
    refine y_csI (qX10_in (K := K) p2 0 63 σ1) kX10_177 rfl (by decide) rfl (Nat.le_of_ble_eq_true rfl) dX10_way_23 (fun r4 => ?_)
    refine y_ite (fun h5 => ?_) (fun h5 => ?_)
    · refine y_if_eq_t dX10_way_26 (t := 34) rfl h5 ?_
      refine y_iconst dX10_way_34 (by decide) ?_
      exact y_iret rfl rfl dX10_way_35
    · refine y_if_eq_f dX10_way_26 (t := 34) rfl h5 ?_
      refine y_iload_n dX10_way_29 rfl rfl ?_
      refine y_iconst dX10_way_30 (by decide) ?_
      refine y_ite (fun h6 => ?_) (fun h6 => ?_)
      · refine y_icmp_ge_f dX10_way_31 (t := 36) rfl h6 ?_
        refine y_iconst dX10_way_34 (by decide) ?_
        exact y_iret rfl rfl dX10_way_35
      · refine y_icmp_ge_t dX10_way_31 (t := 36) rfl h6 ?_
        refine y_aload_n dX10_way_36 rfl rfl ?_
        refine y_iload_n dX10_way_37 rfl rfl ?_
        refine y_cvV (qX10_layWeeks hM p2 σ1) kX10_482 rfl hM.1 rfl (by decide) rfl (Nat.le_of_ble_eq_true rfl) dX10_way_38 (fun σ7 => ?_)
        refine y_aload_n dX10_way_41 rfl rfl ?_
        refine y_getR fX10_116 hM.1 rfl (lM_43 hM).1 dX10_way_42 ?_
        refine y_iload_n dX10_way_45 rfl rfl ?_
        refine yk_iaload (lM_43 hM).2 (N := 64) rfl (j := p1.toNat) rfl dX10_way_46 ?_
        refine y_ldcw 100000000 wX10_c478 dX10_way_47 (by decide) (by decide) ?_
        refine y_ite (fun h8 => ?_) (fun h8 => ?_)
        · refine y_icmp_eq_t dX10_way_50 (t := 58) rfl h8 ?_
          refine y_fg [true, true, false, false, false, false, false] (L' := [some (aR 84), some (aI p1), none, none, none, none, none]) rfl ?_
          exact tX10_way_58 hM p1 σ7
        · refine y_icmp_eq_f dX10_way_50 (t := 58) rfl h8 ?_
          refine y_iload_n dX10_way_53 rfl rfl ?_
          refine y_iconst dX10_way_54 (by decide) ?_
          refine y_ite (fun h9 => ?_) (fun h9 => ?_)
          · refine y_icmp_ne_f dX10_way_55 (t := 84) rfl h9 ?_
            refine y_fg [true, true, false, false, false, false, false] (L' := [some (aR 84), some (aI p1), none, none, none, none, none]) rfl ?_
            exact tX10_way_58 hM p1 σ7
          · refine y_icmp_ne_t dX10_way_55 (t := 84) rfl h9 ?_
            refine y_iload_n dX10_way_84 rfl rfl ?_
            refine y_istore dX10_way_85 (Nat.le_of_ble_eq_true rfl) (L' := [some (aR 84), some (aI p1), some (aI p2), some (aI p3), some (aI p1), none, none]) rfl ?_
            refine y_iconst dX10_way_87 (by decide) ?_
            refine y_istore dX10_way_88 (Nat.le_of_ble_eq_true rfl) (L' := [some (aR 84), some (aI p1), some (aI p2), some (aI p3), some (aI p1), some (aI (-1)), none]) rfl ?_
            refine y_iconst dX10_way_90 (by decide) ?_
            refine y_istore dX10_way_91 (Nat.le_of_ble_eq_true rfl) (L' := [some (aR 84), some (aI p1), some (aI p2), some (aI p3), some (aI p1), some (aI (-1)), some (aI 0)]) rfl ?_
            refine y_fg [true, false, false, true, true, true, true] (L' := [some (aR 84), none, none, some (aI p3), some (aI p1), some (aI (-1)), some (aI 0)]) rfl ?_
            exact tX10_way_93 hM FU p3 p1 (-1) 0 σ7
theorem qX10_way {K : Kt} (hM : mLay K) (p1 : Int) (p2 : Int) (p3 : Int) (σ : Sg) : Cc MX10_way K [aR 84, aI p1, aI p2, aI p3] σ (emIS K) (vX10_way p1 p2 p3 σ) := cc_of plX10 (Nat.le_of_ble_eq_true rfl) (fun o _ => ⟨Nat.le_refl _, Nat.le_refl _⟩) (fun Γ => tX10_way hM p1 p2 p3 σ)
noncomputable def vX10_canBeLast (p1 : Int) (p2 : Int) (σ : Sg) : Option (Int) := ck (in32 (p1 - (bShl 1 p2))) (nm (p1 - (bShl 1 p2)) (fun z1 => ck (0 ≤ z1 ∧ z1 < 256) (if (σ 108 z1.toNat) = 0 then (some 0) else (ck (in32 (79 + p2)) (ck (0 ≤ (79 + p2) ∧ (79 + p2) < 5505) (ck (0 ≤ z1 ∧ z1 < 256) ((vX10_isIn (σ 86 (79 + p2).toNat) (σ 109 z1.toNat) σ).bind (fun r3 => if r3 = 0 then (some 0) else (some 1)))))))))
set_option maxRecDepth 100000 in
theorem tX10_canBeLast {Γ : Gx} {K : Kt} (hM : mLay K) (p1 : Int) (p2 : Int) (σ : Sg) : Y Γ MX10_canBeLast K (emI K σ) K 0 [some (aR 84), some (aI p1), some (aI p2), none] [] σ (vX10_canBeLast p1 p2 σ) := by
  unfold vX10_canBeLast
  refine y_iload_n dX10_canBeLast_0 rfl rfl ?_
  refine y_iconst dX10_canBeLast_1 (by decide) ?_
  refine y_iload_n dX10_canBeLast_2 rfl rfl ?_
  refine y_ishl dX10_canBeLast_3 ?_
  refine yk_isub dX10_canBeLast_4 ?_
  refine yn_istore_n dX10_canBeLast_5 rfl (Nat.le_of_ble_eq_true rfl) (L' := fun z1 => [some (aR 84), some (aI p1), some (aI p2), some (aI z1)]) (fun _ => rfl) (fun z1 => ?_)
  refine y_aload_n dX10_canBeLast_6 rfl rfl ?_
  refine y_getR fX10_119 hM.1 rfl (lM_44 hM).1 dX10_canBeLast_7 ?_
  refine y_iload_n dX10_canBeLast_10 rfl rfl ?_
  refine yk_baload (lM_44 hM).2 (N := 256) rfl (j := z1.toNat) rfl dX10_canBeLast_11 ?_
  refine y_ite (fun h2 => ?_) (fun h2 => ?_)
  · refine y_if_eq_t dX10_canBeLast_12 (t := 40) rfl h2 ?_
    refine y_iconst dX10_canBeLast_40 (by decide) ?_
    exact y_zret (by decide) rfl rfl dX10_canBeLast_41
  · refine y_if_eq_f dX10_canBeLast_12 (t := 40) rfl h2 ?_
    refine y_aload_n dX10_canBeLast_15 rfl rfl ?_
    refine y_getR fX10_13 hM.1 rfl (lM_3 hM).1 dX10_canBeLast_16 ?_
    refine y_bipush dX10_canBeLast_19 (by decide) (by decide) ?_
    refine y_iload_n dX10_canBeLast_21 rfl rfl ?_
    refine yk_iadd dX10_canBeLast_22 ?_
    refine yk_iaload (lM_3 hM).2 (N := 5505) rfl (j := (79 + p2).toNat) rfl dX10_canBeLast_23 ?_
    refine y_aload_n dX10_canBeLast_24 rfl rfl ?_
    refine y_getR fX10_122 hM.1 rfl (lM_45 hM).1 dX10_canBeLast_25 ?_
    refine y_iload_n dX10_canBeLast_28 rfl rfl ?_
    refine yk_iaload (lM_45 hM).2 (N := 256) rfl (j := z1.toNat) rfl dX10_canBeLast_29 ?_
    refine y_csI (qX10_isIn (K := K) (σ 86 (79 + p2).toNat) (σ 109 z1.toNat) σ) kX10_417 rfl (by decide) rfl (Nat.le_of_ble_eq_true rfl) dX10_canBeLast_30 (fun r3 => ?_)
    refine y_ite (fun h4 => ?_) (fun h4 => ?_)
    · refine y_if_eq_t dX10_canBeLast_33 (t := 40) rfl h4 ?_
      refine y_iconst dX10_canBeLast_40 (by decide) ?_
      exact y_zret (by decide) rfl rfl dX10_canBeLast_41
    · refine y_if_eq_f dX10_canBeLast_33 (t := 40) rfl h4 ?_
      refine y_iconst dX10_canBeLast_36 (by decide) ?_
      refine y_goto dX10_canBeLast_37 (t := 41) rfl ?_
      exact y_zret (by decide) rfl rfl dX10_canBeLast_41
theorem qX10_canBeLast {K : Kt} (hM : mLay K) (p1 : Int) (p2 : Int) (σ : Sg) : Cc MX10_canBeLast K [aR 84, aI p1, aI p2] σ (emI K σ) (vX10_canBeLast p1 p2 σ) := cc_of plX10 (Nat.le_of_ble_eq_true rfl) (fun o _ => ⟨Nat.le_refl _, Nat.le_refl _⟩) (fun Γ => tX10_canBeLast hM p1 p2 σ)
noncomputable def vX10_laySets_108 (rec_16 : Int → Int → Sg → Option (Sg)) (rec_44 : Int → Int → Int → Sg → Option (Sg)) (x1 x2 x3 y1 y2 : Int) (σ : Sg) : Option (Sg) := ck ((y2 = 0 ∨ y2 = 1) ∧ 0 ≤ y1 ∧ y1 < 256) (nm (up2 σ 108 y1.toNat y2) (fun σ1 => ck (in32 (x3 + 1)) (rec_44 x1 x2 (x3 + 1) σ1)))
set_option maxRecDepth 100000 in
theorem tX10_laySets_108 {Γ : Gx} {K : Kt} (hM : mLay K)  (rec_16 : Int → Int → Sg → Option (Sg)) (hrec_16 : ∀ (x1 x2 : Int) (σ : Sg), Y Γ MX10_laySets K (emV K) K 16 [some (aR 84), some (aI x1), some (aI x2), none] [] σ (rec_16 x1 x2 σ)) (rec_44 : Int → Int → Int → Sg → Option (Sg)) (hrec_44 : ∀ (x1 x2 x3 : Int) (σ : Sg), Y Γ MX10_laySets K (emV K) K 44 [some (aR 84), some (aI x1), some (aI x2), some (aI x3)] [] σ (rec_44 x1 x2 x3 σ)) (x1 x2 x3 y1 y2 : Int) (σ : Sg) : Y Γ MX10_laySets K (emV K) K 108 [some (aR 84), some (aI x1), some (aI x2), some (aI x3)] [aI y2, aI y1, aR 108] σ (vX10_laySets_108 rec_16 rec_44 x1 x2 x3 y1 y2 σ) := by
  unfold vX10_laySets_108
  refine yk_bastore (lM_44 hM).2 (N := 256) rfl (j := y1.toNat) rfl dX10_laySets_108 (fun σ1 => ?_)
  refine yk_iinc dX10_laySets_109 rfl (L' := [some (aR 84), some (aI x1), some (aI x2), some (aI (x3 + 1))]) rfl ?_
  refine y_goto dX10_laySets_112 (t := 44) rfl ?_
  exact hrec_44 x1 x2 (x3 + 1) σ1
noncomputable def vX10_laySets_103 (rec_16 : Int → Int → Sg → Option (Sg)) (rec_44 : Int → Int → Int → Sg → Option (Sg)) (x1 x2 x3 y1 : Int) (σ : Sg) : Option (Sg) := vX10_laySets_108 rec_16 rec_44 x1 x2 x3 y1 1 σ
set_option maxRecDepth 100000 in
theorem tX10_laySets_103 {Γ : Gx} {K : Kt} (hM : mLay K)  (rec_16 : Int → Int → Sg → Option (Sg)) (hrec_16 : ∀ (x1 x2 : Int) (σ : Sg), Y Γ MX10_laySets K (emV K) K 16 [some (aR 84), some (aI x1), some (aI x2), none] [] σ (rec_16 x1 x2 σ)) (rec_44 : Int → Int → Int → Sg → Option (Sg)) (hrec_44 : ∀ (x1 x2 x3 : Int) (σ : Sg), Y Γ MX10_laySets K (emV K) K 44 [some (aR 84), some (aI x1), some (aI x2), some (aI x3)] [] σ (rec_44 x1 x2 x3 σ)) (x1 x2 x3 y1 : Int) (σ : Sg) : Y Γ MX10_laySets K (emV K) K 103 [some (aR 84), some (aI x1), some (aI x2), some (aI x3)] [aI y1, aR 108] σ (vX10_laySets_103 rec_16 rec_44 x1 x2 x3 y1 σ) := by
  unfold vX10_laySets_103
  refine y_iconst dX10_laySets_103 (by decide) ?_
  refine y_goto dX10_laySets_104 (t := 108) rfl ?_
  exact tX10_laySets_108 hM rec_16 hrec_16 rec_44 hrec_44 x1 x2 x3 y1 1 σ
noncomputable def vX10_laySets_44 (rec_16 : Int → Int → Sg → Option (Sg)) : Nat → Int → Int → Int → Sg → Option (Sg)
  | 0, _, _, _, _ => none
  | f + 1, x1, x2, x3, σ => if x3 < (σ 86 0) then ((vX10_is x2 x3 σ).bind (fun r2 => if r2 = 0 then (ck (in32 (x3 + 1)) (vX10_laySets_44 rec_16 f x1 x2 (x3 + 1) σ)) else (ck (0 ≤ x2 ∧ x2 < 256) (ck (in32 (87 + x3)) (ck (0 ≤ (87 + x3) ∧ (87 + x3) < 5505) (ck (0 ≤ x2 ∧ x2 < 256) (nm (up2 σ 109 x2.toNat (bOr (σ 109 x2.toNat) (σ 86 (87 + x3).toNat))) (fun σ4 => ck (0 ≤ x2 ∧ x2 < 256) (if (σ4 108 x2.toNat) = 0 then ((vX10_canBeLast x2 x3 σ4).bind (fun r6 => if r6 = 0 then (vX10_laySets_108 rec_16 (vX10_laySets_44 rec_16 f) x1 x2 x3 x2 0 σ4) else (vX10_laySets_103 rec_16 (vX10_laySets_44 rec_16 f) x1 x2 x3 x2 σ4))) else (vX10_laySets_103 rec_16 (vX10_laySets_44 rec_16 f) x1 x2 x3 x2 σ4)))))))))) else (ck (in32 (x2 + 1)) (rec_16 x1 (x2 + 1) σ))
set_option maxRecDepth 100000 in
theorem tX10_laySets_44 {Γ : Gx} {K : Kt} (hM : mLay K)  (rec_16 : Int → Int → Sg → Option (Sg)) (hrec_16 : ∀ (x1 x2 : Int) (σ : Sg), Y Γ MX10_laySets K (emV K) K 16 [some (aR 84), some (aI x1), some (aI x2), none] [] σ (rec_16 x1 x2 σ)) : ∀ (f : Nat) (x1 x2 x3 : Int) (σ : Sg), Y Γ MX10_laySets K (emV K) K 44 [some (aR 84), some (aI x1), some (aI x2), some (aI x3)] [] σ (vX10_laySets_44 rec_16 f x1 x2 x3 σ) := by
  intro f
  induction f with
  | zero => intro x1 x2 x3 σ; exact y_none
  | succ f ih =>
    intro x1 x2 x3 σ
    rw [vX10_laySets_44]
    refine y_iload_n dX10_laySets_44 rfl rfl ?_
    refine y_aload_n dX10_laySets_45 rfl rfl ?_
    refine y_getR fX10_13 hM.1 rfl (lM_3 hM).1 dX10_laySets_46 ?_
    refine y_iconst dX10_laySets_49 (by decide) ?_
    refine yl_iaload (lM_3 hM).2 (by decide) (j := 0) rfl dX10_laySets_50 ?_
    refine y_ite (fun h1 => ?_) (fun h1 => ?_)
    · refine y_icmp_ge_f dX10_laySets_51 (t := 115) rfl h1 ?_
      refine y_iload_n dX10_laySets_54 rfl rfl ?_
      refine y_iload_n dX10_laySets_55 rfl rfl ?_
      refine y_csI (qX10_is (K := K) x2 x3 σ) kX10_485 rfl (by decide) rfl (Nat.le_of_ble_eq_true rfl) dX10_laySets_56 (fun r2 => ?_)
      refine y_ite (fun h3 => ?_) (fun h3 => ?_)
      · refine y_if_eq_t dX10_laySets_59 (t := 109) rfl h3 ?_
        refine yk_iinc dX10_laySets_109 rfl (L' := [some (aR 84), some (aI x1), some (aI x2), some (aI (x3 + 1))]) rfl ?_
        refine y_goto dX10_laySets_112 (t := 44) rfl ?_
        exact ih x1 x2 (x3 + 1) σ
      · refine y_if_eq_f dX10_laySets_59 (t := 109) rfl h3 ?_
        refine y_aload_n dX10_laySets_62 rfl rfl ?_
        refine y_getR fX10_122 hM.1 rfl (lM_45 hM).1 dX10_laySets_63 ?_
        refine y_iload_n dX10_laySets_66 rfl rfl ?_
        refine y_dup2 dX10_laySets_67 (fun _ => rfl) (fun _ => rfl) ?_
        refine yk_iaload (lM_45 hM).2 (N := 256) rfl (j := x2.toNat) rfl dX10_laySets_68 ?_
        refine y_aload_n dX10_laySets_69 rfl rfl ?_
        refine y_getR fX10_13 hM.1 rfl (lM_3 hM).1 dX10_laySets_70 ?_
        refine y_bipush dX10_laySets_73 (by decide) (by decide) ?_
        refine y_iload_n dX10_laySets_75 rfl rfl ?_
        refine yk_iadd dX10_laySets_76 ?_
        refine yk_iaload (lM_3 hM).2 (N := 5505) rfl (j := (87 + x3).toNat) rfl dX10_laySets_77 ?_
        refine y_ior dX10_laySets_78 ?_
        refine yk_iastore (lM_45 hM).2 (N := 256) rfl (j := x2.toNat) rfl dX10_laySets_79 (fun σ4 => ?_)
        refine y_aload_n dX10_laySets_80 rfl rfl ?_
        refine y_getR fX10_119 hM.1 rfl (lM_44 hM).1 dX10_laySets_81 ?_
        refine y_iload_n dX10_laySets_84 rfl rfl ?_
        refine y_aload_n dX10_laySets_85 rfl rfl ?_
        refine y_getR fX10_119 hM.1 rfl (lM_44 hM).1 dX10_laySets_86 ?_
        refine y_iload_n dX10_laySets_89 rfl rfl ?_
        refine yk_baload (lM_44 hM).2 (N := 256) rfl (j := x2.toNat) rfl dX10_laySets_90 ?_
        refine y_ite (fun h5 => ?_) (fun h5 => ?_)
        · refine y_if_ne_f dX10_laySets_91 (t := 103) rfl h5 ?_
          refine y_aload_n dX10_laySets_94 rfl rfl ?_
          refine y_iload_n dX10_laySets_95 rfl rfl ?_
          refine y_iload_n dX10_laySets_96 rfl rfl ?_
          refine y_cvI (qX10_canBeLast hM x2 x3 σ4) kX10_488 rfl hM.1 rfl (by decide) rfl (Nat.le_of_ble_eq_true rfl) dX10_laySets_97 (fun r6 => ?_)
          refine y_ite (fun h7 => ?_) (fun h7 => ?_)
          · refine y_if_eq_t dX10_laySets_100 (t := 107) rfl h7 ?_
            refine y_iconst dX10_laySets_107 (by decide) ?_
            exact tX10_laySets_108 hM rec_16 hrec_16 (vX10_laySets_44 rec_16 f) ih x1 x2 x3 x2 0 σ4
          · refine y_if_eq_f dX10_laySets_100 (t := 107) rfl h7 ?_
            exact tX10_laySets_103 hM rec_16 hrec_16 (vX10_laySets_44 rec_16 f) ih x1 x2 x3 x2 σ4
        · refine y_if_ne_t dX10_laySets_91 (t := 103) rfl h5 ?_
          exact tX10_laySets_103 hM rec_16 hrec_16 (vX10_laySets_44 rec_16 f) ih x1 x2 x3 x2 σ4
    · refine y_icmp_ge_t dX10_laySets_51 (t := 115) rfl h1 ?_
      refine yk_iinc dX10_laySets_115 rfl (L' := [some (aR 84), some (aI x1), some (aI (x2 + 1)), some (aI x3)]) rfl ?_
      refine y_goto dX10_laySets_118 (t := 16) rfl ?_
      refine y_fg [true, true, true, false] (L' := [some (aR 84), some (aI x1), some (aI (x2 + 1)), none]) rfl ?_
      exact hrec_16 x1 (x2 + 1) σ
noncomputable def vX10_laySets_16 : Nat → Int → Int → Sg → Option (Sg)
  | 0, _, _, _ => none
  | f + 1, x1, x2, σ => if x2 < (bShl 1 (σ 86 0)) then (ck (((0 : Int) = 0 ∨ (0 : Int) = 1) ∧ 0 ≤ x2 ∧ x2 < 256) (nm (up2 σ 108 x2.toNat 0) (fun σ2 => ck (0 ≤ x2 ∧ x2 < 256) (nm (up2 σ2 109 x2.toNat x1) (fun σ3 => vX10_laySets_44 (vX10_laySets_16 f) FU x1 x2 0 σ3))))) else (some σ)
set_option maxRecDepth 100000 in
theorem tX10_laySets_16 {Γ : Gx} {K : Kt} (hM : mLay K)  : ∀ (f : Nat) (x1 x2 : Int) (σ : Sg), Y Γ MX10_laySets K (emV K) K 16 [some (aR 84), some (aI x1), some (aI x2), none] [] σ (vX10_laySets_16 f x1 x2 σ) := by
  intro f
  induction f with
  | zero => intro x1 x2 σ; exact y_none
  | succ f ih =>
    intro x1 x2 σ
    rw [vX10_laySets_16]
    refine y_iload_n dX10_laySets_16 rfl rfl ?_
    refine y_iconst dX10_laySets_17 (by decide) ?_
    refine y_aload_n dX10_laySets_18 rfl rfl ?_
    refine y_getR fX10_13 hM.1 rfl (lM_3 hM).1 dX10_laySets_19 ?_
    refine y_iconst dX10_laySets_22 (by decide) ?_
    refine yl_iaload (lM_3 hM).2 (by decide) (j := 0) rfl dX10_laySets_23 ?_
    refine y_ishl dX10_laySets_24 ?_
    refine y_ite (fun h1 => ?_) (fun h1 => ?_)
    · refine y_icmp_ge_f dX10_laySets_25 (t := 121) rfl h1 ?_
      refine y_aload_n dX10_laySets_28 rfl rfl ?_
      refine y_getR fX10_119 hM.1 rfl (lM_44 hM).1 dX10_laySets_29 ?_
      refine y_iload_n dX10_laySets_32 rfl rfl ?_
      refine y_iconst dX10_laySets_33 (by decide) ?_
      refine yk_bastore (lM_44 hM).2 (N := 256) rfl (j := x2.toNat) rfl dX10_laySets_34 (fun σ2 => ?_)
      refine y_aload_n dX10_laySets_35 rfl rfl ?_
      refine y_getR fX10_122 hM.1 rfl (lM_45 hM).1 dX10_laySets_36 ?_
      refine y_iload_n dX10_laySets_39 rfl rfl ?_
      refine y_iload_n dX10_laySets_40 rfl rfl ?_
      refine yk_iastore (lM_45 hM).2 (N := 256) rfl (j := x2.toNat) rfl dX10_laySets_41 (fun σ3 => ?_)
      refine y_iconst dX10_laySets_42 (by decide) ?_
      refine y_istore_n dX10_laySets_43 rfl (Nat.le_of_ble_eq_true rfl) (L' := [some (aR 84), some (aI x1), some (aI x2), some (aI 0)]) rfl ?_
      exact tX10_laySets_44 hM (vX10_laySets_16 f) ih FU x1 x2 0 σ3
    · refine y_icmp_ge_t dX10_laySets_25 (t := 121) rfl h1 ?_
      exact y_vret rfl rfl dX10_laySets_121
noncomputable def vX10_laySets (p1 : Int) (σ : Sg) : Option (Sg) := ck (((1 : Int) = 0 ∨ (1 : Int) = 1) ∧ 0 ≤ (0 : Int) ∧ (0 : Int) < 256) (nm (up2 σ 108 0 1) (fun σ1 => nm (up2 σ1 109 0 p1) (fun σ2 => vX10_laySets_16 FU p1 1 σ2)))
set_option maxRecDepth 100000 in
theorem tX10_laySets {Γ : Gx} {K : Kt} (hM : mLay K) (p1 : Int) (σ : Sg) : Y Γ MX10_laySets K (emV K) K 0 [some (aR 84), some (aI p1), none, none] [] σ (vX10_laySets p1 σ) := by
  unfold vX10_laySets
  refine y_aload_n dX10_laySets_0 rfl rfl ?_
  refine y_getR fX10_119 hM.1 rfl (lM_44 hM).1 dX10_laySets_1 ?_
  refine y_iconst dX10_laySets_4 (by decide) ?_
  refine y_iconst dX10_laySets_5 (by decide) ?_
  refine yk_bastore (lM_44 hM).2 (N := 256) rfl (j := 0) rfl dX10_laySets_6 (fun σ1 => ?_)
  refine y_aload_n dX10_laySets_7 rfl rfl ?_
  refine y_getR fX10_122 hM.1 rfl (lM_45 hM).1 dX10_laySets_8 ?_
  refine y_iconst dX10_laySets_11 (by decide) ?_
  refine y_iload_n dX10_laySets_12 rfl rfl ?_
  refine yl_iastore (lM_45 hM).2 (by decide) (j := 0) rfl dX10_laySets_13 (fun σ2 => ?_)
  refine y_iconst dX10_laySets_14 (by decide) ?_
  refine y_istore_n dX10_laySets_15 rfl (Nat.le_of_ble_eq_true rfl) (L' := [some (aR 84), some (aI p1), some (aI 1), none]) rfl ?_
  exact tX10_laySets_16 hM FU p1 1 σ2
theorem qX10_laySets {K : Kt} (hM : mLay K) (p1 : Int) (σ : Sg) : Cc MX10_laySets K [aR 84, aI p1] σ (emV K) (vX10_laySets p1 σ) := cc_of plX10 (Nat.le_of_ble_eq_true rfl) (fun o _ => ⟨Nat.le_refl _, Nat.le_refl _⟩) (fun Γ => tX10_laySets hM p1 σ)
noncomputable def vX10_isOne (p1 : Int) (p2 : Int) (σ : Sg) : Option (Int) := ck (0 ≤ p1 ∧ p1 < 256) (if (σ 108 p1.toNat) = 0 then (some 0) else (ck (0 ≤ p1 ∧ p1 < 256) (ck (in32 (17 + p2)) (ck (0 ≤ (17 + p2) ∧ (17 + p2) < 5505) (if (σ 109 p1.toNat) = (σ 86 (17 + p2).toNat) then (some 1) else (some 0))))))
set_option maxRecDepth 100000 in
theorem tX10_isOne {Γ : Gx} {K : Kt} (hM : mLay K) (p1 : Int) (p2 : Int) (σ : Sg) : Y Γ MX10_isOne K (emI K σ) K 0 [some (aR 84), some (aI p1), some (aI p2)] [] σ (vX10_isOne p1 p2 σ) := by
  unfold vX10_isOne
  refine y_aload_n dX10_isOne_0 rfl rfl ?_
  refine y_getR fX10_119 hM.1 rfl (lM_44 hM).1 dX10_isOne_1 ?_
  refine y_iload_n dX10_isOne_4 rfl rfl ?_
  refine yk_baload (lM_44 hM).2 (N := 256) rfl (j := p1.toNat) rfl dX10_isOne_5 ?_
  refine y_ite (fun h1 => ?_) (fun h1 => ?_)
  · refine y_if_eq_t dX10_isOne_6 (t := 31) rfl h1 ?_
    refine y_iconst dX10_isOne_31 (by decide) ?_
    exact y_zret (by decide) rfl rfl dX10_isOne_32
  · refine y_if_eq_f dX10_isOne_6 (t := 31) rfl h1 ?_
    refine y_aload_n dX10_isOne_9 rfl rfl ?_
    refine y_getR fX10_122 hM.1 rfl (lM_45 hM).1 dX10_isOne_10 ?_
    refine y_iload_n dX10_isOne_13 rfl rfl ?_
    refine yk_iaload (lM_45 hM).2 (N := 256) rfl (j := p1.toNat) rfl dX10_isOne_14 ?_
    refine y_aload_n dX10_isOne_15 rfl rfl ?_
    refine y_getR fX10_13 hM.1 rfl (lM_3 hM).1 dX10_isOne_16 ?_
    refine y_bipush dX10_isOne_19 (by decide) (by decide) ?_
    refine y_iload_n dX10_isOne_21 rfl rfl ?_
    refine yk_iadd dX10_isOne_22 ?_
    refine yk_iaload (lM_3 hM).2 (N := 5505) rfl (j := (17 + p2).toNat) rfl dX10_isOne_23 ?_
    refine y_ite (fun h2 => ?_) (fun h2 => ?_)
    · refine y_icmp_ne_f dX10_isOne_24 (t := 31) rfl h2 ?_
      refine y_iconst dX10_isOne_27 (by decide) ?_
      refine y_goto dX10_isOne_28 (t := 32) rfl ?_
      exact y_zret (by decide) rfl rfl dX10_isOne_32
    · refine y_icmp_ne_t dX10_isOne_24 (t := 31) rfl h2 ?_
      refine y_iconst dX10_isOne_31 (by decide) ?_
      exact y_zret (by decide) rfl rfl dX10_isOne_32
theorem qX10_isOne {K : Kt} (hM : mLay K) (p1 : Int) (p2 : Int) (σ : Sg) : Cc MX10_isOne K [aR 84, aI p1, aI p2] σ (emI K σ) (vX10_isOne p1 p2 σ) := cc_of plX10 (Nat.le_of_ble_eq_true rfl) (fun o _ => ⟨Nat.le_refl _, Nat.le_refl _⟩) (fun Γ => tX10_isOne hM p1 p2 σ)
noncomputable def vX10_sets_41 : Nat → Int → Int → Int → Int → Int → Sg → Option (Int × Sg)
  | 0, _, _, _, _, _, _ => none
  | f + 1, x1, x3, x4, x5, x6, σ => if x6 < (bShl 1 (σ 86 0)) then ((vX10_isOne x6 x1 σ).bind (fun r2 => if r2 = 0 then (ck (in32 (x6 + 1)) (vX10_sets_41 f x1 x3 x4 x5 (x6 + 1) σ)) else (if x4 = x3 then (ck (in32 (x4 + 1)) (ck (in32 (x6 + 1)) (vX10_sets_41 f x1 x3 (x4 + 1) x6 (x6 + 1) σ))) else (ck (in32 (x4 + 1)) (ck (in32 (x6 + 1)) (vX10_sets_41 f x1 x3 (x4 + 1) x5 (x6 + 1) σ)))))) else (if x3 = (-1) then (some (x4, σ)) else (some (x5, σ)))
set_option maxRecDepth 100000 in
theorem tX10_sets_41 {Γ : Gx} {K : Kt} (hM : mLay K)  : ∀ (f : Nat) (x1 x3 x4 x5 x6 : Int) (σ : Sg), Y Γ MX10_sets K (emIS K) K 41 [some (aR 84), some (aI x1), none, some (aI x3), some (aI x4), some (aI x5), some (aI x6)] [] σ (vX10_sets_41 f x1 x3 x4 x5 x6 σ) := by
  intro f
  induction f with
  | zero => intro x1 x3 x4 x5 x6 σ; exact y_none
  | succ f ih =>
    intro x1 x3 x4 x5 x6 σ
    rw [vX10_sets_41]
    refine y_iload dX10_sets_41 rfl ?_
    refine y_iconst dX10_sets_43 (by decide) ?_
    refine y_aload_n dX10_sets_44 rfl rfl ?_
    refine y_getR fX10_13 hM.1 rfl (lM_3 hM).1 dX10_sets_45 ?_
    refine y_iconst dX10_sets_48 (by decide) ?_
    refine yl_iaload (lM_3 hM).2 (by decide) (j := 0) rfl dX10_sets_49 ?_
    refine y_ishl dX10_sets_50 ?_
    refine y_ite (fun h1 => ?_) (fun h1 => ?_)
    · refine y_icmp_ge_f dX10_sets_51 (t := 88) rfl h1 ?_
      refine y_aload_n dX10_sets_54 rfl rfl ?_
      refine y_iload dX10_sets_55 rfl ?_
      refine y_iload_n dX10_sets_57 rfl rfl ?_
      refine y_cvI (qX10_isOne hM x6 x1 σ) kX10_494 rfl hM.1 rfl (by decide) rfl (Nat.le_of_ble_eq_true rfl) dX10_sets_58 (fun r2 => ?_)
      refine y_ite (fun h3 => ?_) (fun h3 => ?_)
      · refine y_if_eq_t dX10_sets_61 (t := 82) rfl h3 ?_
        refine yk_iinc dX10_sets_82 rfl (L' := [some (aR 84), some (aI x1), none, some (aI x3), some (aI x4), some (aI x5), some (aI (x6 + 1))]) rfl ?_
        refine y_goto dX10_sets_85 (t := 41) rfl ?_
        exact ih x1 x3 x4 x5 (x6 + 1) σ
      · refine y_if_eq_f dX10_sets_61 (t := 82) rfl h3 ?_
        refine y_iload dX10_sets_64 rfl ?_
        refine y_iload_n dX10_sets_66 rfl rfl ?_
        refine y_ite (fun h4 => ?_) (fun h4 => ?_)
        · refine y_icmp_ne_f dX10_sets_67 (t := 75) rfl h4 ?_
          refine y_iload dX10_sets_70 rfl ?_
          refine y_goto dX10_sets_72 (t := 77) rfl ?_
          refine y_istore dX10_sets_77 (Nat.le_of_ble_eq_true rfl) (L' := [some (aR 84), some (aI x1), none, some (aI x3), some (aI x4), some (aI x6), some (aI x6)]) rfl ?_
          refine yk_iinc dX10_sets_79 rfl (L' := [some (aR 84), some (aI x1), none, some (aI x3), some (aI (x4 + 1)), some (aI x6), some (aI x6)]) rfl ?_
          refine yk_iinc dX10_sets_82 rfl (L' := [some (aR 84), some (aI x1), none, some (aI x3), some (aI (x4 + 1)), some (aI x6), some (aI (x6 + 1))]) rfl ?_
          refine y_goto dX10_sets_85 (t := 41) rfl ?_
          exact ih x1 x3 (x4 + 1) x6 (x6 + 1) σ
        · refine y_icmp_ne_t dX10_sets_67 (t := 75) rfl h4 ?_
          refine y_iload dX10_sets_75 rfl ?_
          refine y_istore dX10_sets_77 (Nat.le_of_ble_eq_true rfl) (L' := [some (aR 84), some (aI x1), none, some (aI x3), some (aI x4), some (aI x5), some (aI x6)]) rfl ?_
          refine yk_iinc dX10_sets_79 rfl (L' := [some (aR 84), some (aI x1), none, some (aI x3), some (aI (x4 + 1)), some (aI x5), some (aI x6)]) rfl ?_
          refine yk_iinc dX10_sets_82 rfl (L' := [some (aR 84), some (aI x1), none, some (aI x3), some (aI (x4 + 1)), some (aI x5), some (aI (x6 + 1))]) rfl ?_
          refine y_goto dX10_sets_85 (t := 41) rfl ?_
          exact ih x1 x3 (x4 + 1) x5 (x6 + 1) σ
    · refine y_icmp_ge_t dX10_sets_51 (t := 88) rfl h1 ?_
      refine y_iload_n dX10_sets_88 rfl rfl ?_
      refine y_iconst dX10_sets_89 (by decide) ?_
      refine y_ite (fun h5 => ?_) (fun h5 => ?_)
      · refine y_icmp_ne_f dX10_sets_90 (t := 98) rfl h5 ?_
        refine y_iload dX10_sets_93 rfl ?_
        refine y_goto dX10_sets_95 (t := 100) rfl ?_
        exact y_iret rfl rfl dX10_sets_100
      · refine y_icmp_ne_t dX10_sets_90 (t := 98) rfl h5 ?_
        refine y_iload dX10_sets_98 rfl ?_
        exact y_iret rfl rfl dX10_sets_100
noncomputable def vX10_sets (p1 : Int) (p2 : Int) (p3 : Int) (σ : Sg) : Option (Int × Sg) := nm (up2 σ 84 0 0) (fun σ1 => (vX10_isReader p1 σ1).bind (fun r2 => if r2 = 0 then (some ((-1), σ1)) else ((vX10_in p2 0 63 σ1).bind (fun r4 => if r4 = 0 then (some ((-1), σ1)) else ((vX10_laySets p2 σ1).bind (fun σ6 => vX10_sets_41 FU p1 p3 0 (-1) 0 σ6))))))
set_option maxRecDepth 100000 in
theorem tX10_sets {Γ : Gx} {K : Kt} (hM : mLay K) (p1 : Int) (p2 : Int) (p3 : Int) (σ : Sg) : Y Γ MX10_sets K (emIS K) K 0 [some (aR 84), some (aI p1), some (aI p2), some (aI p3), none, none, none] [] σ (vX10_sets p1 p2 p3 σ) := by
  unfold vX10_sets
  refine y_aload_n dX10_sets_0 rfl rfl ?_
  refine y_iconst dX10_sets_1 (by decide) ?_
  refine yn_putI fX10_157 hM.1 rfl rfl dX10_sets_2 (fun σ1 => ?_)
  refine y_aload_n dX10_sets_5 rfl rfl ?_
  refine y_iload_n dX10_sets_6 rfl rfl ?_
  refine y_cvI (qX10_isReader hM p1 σ1) kX10_201 rfl hM.1 rfl (by decide) rfl (Nat.le_of_ble_eq_true rfl) dX10_sets_7 (fun r2 => ?_)
  refine y_ite (fun h3 => ?_) (fun h3 => ?_)
  · refine y_if_eq_t dX10_sets_10 (t := 25) rfl h3 ?_
    refine y_iconst dX10_sets_25 (by decide) ?_
    exact y_iret rfl rfl dX10_sets_26
  · refine y_if_eq_f dX10_sets_10 (t := 25) rfl h3 ?_
    refine y_iload_n dX10_sets_13 rfl rfl ?_
    refine y_i2l dX10_sets_14 ?_
    refine y_lconst 0 dX10_sets_15 (by decide) (by decide) ?_
    refine y_ldc2 63 wX10_c186 dX10_sets_16 (by decide) (by decide) ?_
    refine y_csI (qX10_in (K := K) p2 0 63 σ1) kX10_177 rfl (by decide) rfl (Nat.le_of_ble_eq_true rfl) dX10_sets_19 (fun r4 => ?_)
    refine y_ite (fun h5 => ?_) (fun h5 => ?_)
    · refine y_if_ne_f dX10_sets_22 (t := 27) rfl h5 ?_
      refine y_iconst dX10_sets_25 (by decide) ?_
      exact y_iret rfl rfl dX10_sets_26
    · refine y_if_ne_t dX10_sets_22 (t := 27) rfl h5 ?_
      refine y_aload_n dX10_sets_27 rfl rfl ?_
      refine y_iload_n dX10_sets_28 rfl rfl ?_
      refine y_cvV (qX10_laySets hM p2 σ1) kX10_491 rfl hM.1 rfl (by decide) rfl (Nat.le_of_ble_eq_true rfl) dX10_sets_29 (fun σ6 => ?_)
      refine y_iconst dX10_sets_32 (by decide) ?_
      refine y_istore dX10_sets_33 (Nat.le_of_ble_eq_true rfl) (L' := [some (aR 84), some (aI p1), some (aI p2), some (aI p3), some (aI 0), none, none]) rfl ?_
      refine y_iconst dX10_sets_35 (by decide) ?_
      refine y_istore dX10_sets_36 (Nat.le_of_ble_eq_true rfl) (L' := [some (aR 84), some (aI p1), some (aI p2), some (aI p3), some (aI 0), some (aI (-1)), none]) rfl ?_
      refine y_iconst dX10_sets_38 (by decide) ?_
      refine y_istore dX10_sets_39 (Nat.le_of_ble_eq_true rfl) (L' := [some (aR 84), some (aI p1), some (aI p2), some (aI p3), some (aI 0), some (aI (-1)), some (aI 0)]) rfl ?_
      refine y_fg [true, true, false, true, true, true, true] (L' := [some (aR 84), some (aI p1), none, some (aI p3), some (aI 0), some (aI (-1)), some (aI 0)]) rfl ?_
      exact tX10_sets_41 hM FU p1 p3 0 (-1) 0 σ6
theorem qX10_sets {K : Kt} (hM : mLay K) (p1 : Int) (p2 : Int) (p3 : Int) (σ : Sg) : Cc MX10_sets K [aR 84, aI p1, aI p2, aI p3] σ (emIS K) (vX10_sets p1 p2 p3 σ) := cc_of plX10 (Nat.le_of_ble_eq_true rfl) (fun o _ => ⟨Nat.le_refl _, Nat.le_refl _⟩) (fun Γ => tX10_sets hM p1 p2 p3 σ)
noncomputable def vX10_ask_113 (rec_53 : Int → Int → Int → Int → Int → Sg → Option (Int × Sg)) (rec_73 : Int → Int → Int → Int → Int → Int → Int → Int → Sg → Option (Int × Sg)) (x1 x3 x4 x5 x6 x8 x9 y0 y1 : Int) (σ : Sg) : Option (Int × Sg) := ck (in32 (y0 + y1)) (nm (y0 + y1) (fun z1 => (vX10_isOne x9 x1 σ).bind (fun r2 => if r2 = 0 then (ck (in32 (x8 + 0)) (nm (x8 + 0) (fun z4 => ck (in32 (x9 + 1)) (rec_73 x1 x3 x4 x5 x6 z1 z4 (x9 + 1) σ)))) else ((vX10_is x9 x6 σ).bind (fun r5 => if r5 = 0 then (ck (in32 (x8 + 1)) (nm (x8 + 1) (fun z7 => ck (in32 (x9 + 1)) (rec_73 x1 x3 x4 x5 x6 z1 z7 (x9 + 1) σ)))) else (ck (in32 (x8 + 0)) (nm (x8 + 0) (fun z8 => ck (in32 (x9 + 1)) (rec_73 x1 x3 x4 x5 x6 z1 z8 (x9 + 1) σ)))))))))
set_option maxRecDepth 100000 in
theorem tX10_ask_113 {Γ : Gx} {K : Kt} (hM : mLay K)  (rec_53 : Int → Int → Int → Int → Int → Sg → Option (Int × Sg)) (hrec_53 : ∀ (x1 x3 x4 x5 x6 : Int) (σ : Sg), Y Γ MX10_ask K (emIS K) K 53 [some (aR 84), some (aI x1), none, some (aI x3), some (aI x4), some (aI x5), some (aI x6), none, none, none] [] σ (rec_53 x1 x3 x4 x5 x6 σ)) (rec_73 : Int → Int → Int → Int → Int → Int → Int → Int → Sg → Option (Int × Sg)) (hrec_73 : ∀ (x1 x3 x4 x5 x6 x7 x8 x9 : Int) (σ : Sg), Y Γ MX10_ask K (emIS K) K 73 [some (aR 84), some (aI x1), none, some (aI x3), some (aI x4), some (aI x5), some (aI x6), some (aI x7), some (aI x8), some (aI x9)] [] σ (rec_73 x1 x3 x4 x5 x6 x7 x8 x9 σ)) (x1 x3 x4 x5 x6 x8 x9 y0 y1 : Int) (σ : Sg) : Y Γ MX10_ask K (emIS K) K 113 [some (aR 84), some (aI x1), none, some (aI x3), some (aI x4), some (aI x5), some (aI x6), none, some (aI x8), some (aI x9)] [aI y1, aI y0] σ (vX10_ask_113 rec_53 rec_73 x1 x3 x4 x5 x6 x8 x9 y0 y1 σ) := by
  unfold vX10_ask_113
  refine yk_iadd dX10_ask_113 ?_
  refine yn_istore dX10_ask_114 (Nat.le_of_ble_eq_true rfl) (L' := fun z1 => [some (aR 84), some (aI x1), none, some (aI x3), some (aI x4), some (aI x5), some (aI x6), some (aI z1), some (aI x8), some (aI x9)]) (fun _ => rfl) (fun z1 => ?_)
  refine y_iload dX10_ask_116 rfl ?_
  refine y_aload_n dX10_ask_118 rfl rfl ?_
  refine y_iload dX10_ask_119 rfl ?_
  refine y_iload_n dX10_ask_121 rfl rfl ?_
  refine y_cvI (qX10_isOne hM x9 x1 σ) kX10_494 rfl hM.1 rfl (by decide) rfl (Nat.le_of_ble_eq_true rfl) dX10_ask_122 (fun r2 => ?_)
  refine y_ite (fun h3 => ?_) (fun h3 => ?_)
  · refine y_if_eq_t dX10_ask_125 (t := 142) rfl h3 ?_
    refine y_iconst dX10_ask_142 (by decide) ?_
    refine yk_iadd dX10_ask_143 ?_
    refine yn_istore dX10_ask_144 (Nat.le_of_ble_eq_true rfl) (L' := fun z4 => [some (aR 84), some (aI x1), none, some (aI x3), some (aI x4), some (aI x5), some (aI x6), some (aI z1), some (aI z4), some (aI x9)]) (fun _ => rfl) (fun z4 => ?_)
    refine yk_iinc dX10_ask_146 rfl (L' := [some (aR 84), some (aI x1), none, some (aI x3), some (aI x4), some (aI x5), some (aI x6), some (aI z1), some (aI z4), some (aI (x9 + 1))]) rfl ?_
    refine y_goto dX10_ask_149 (t := 73) rfl ?_
    exact hrec_73 x1 x3 x4 x5 x6 z1 z4 (x9 + 1) σ
  · refine y_if_eq_f dX10_ask_125 (t := 142) rfl h3 ?_
    refine y_iload dX10_ask_128 rfl ?_
    refine y_iload dX10_ask_130 rfl ?_
    refine y_csI (qX10_is (K := K) x9 x6 σ) kX10_485 rfl (by decide) rfl (Nat.le_of_ble_eq_true rfl) dX10_ask_132 (fun r5 => ?_)
    refine y_ite (fun h6 => ?_) (fun h6 => ?_)
    · refine y_if_ne_f dX10_ask_135 (t := 142) rfl h6 ?_
      refine y_iconst dX10_ask_138 (by decide) ?_
      refine y_goto dX10_ask_139 (t := 143) rfl ?_
      refine yk_iadd dX10_ask_143 ?_
      refine yn_istore dX10_ask_144 (Nat.le_of_ble_eq_true rfl) (L' := fun z7 => [some (aR 84), some (aI x1), none, some (aI x3), some (aI x4), some (aI x5), some (aI x6), some (aI z1), some (aI z7), some (aI x9)]) (fun _ => rfl) (fun z7 => ?_)
      refine yk_iinc dX10_ask_146 rfl (L' := [some (aR 84), some (aI x1), none, some (aI x3), some (aI x4), some (aI x5), some (aI x6), some (aI z1), some (aI z7), some (aI (x9 + 1))]) rfl ?_
      refine y_goto dX10_ask_149 (t := 73) rfl ?_
      exact hrec_73 x1 x3 x4 x5 x6 z1 z7 (x9 + 1) σ
    · refine y_if_ne_t dX10_ask_135 (t := 142) rfl h6 ?_
      refine y_iconst dX10_ask_142 (by decide) ?_
      refine yk_iadd dX10_ask_143 ?_
      refine yn_istore dX10_ask_144 (Nat.le_of_ble_eq_true rfl) (L' := fun z8 => [some (aR 84), some (aI x1), none, some (aI x3), some (aI x4), some (aI x5), some (aI x6), some (aI z1), some (aI z8), some (aI x9)]) (fun _ => rfl) (fun z8 => ?_)
      refine yk_iinc dX10_ask_146 rfl (L' := [some (aR 84), some (aI x1), none, some (aI x3), some (aI x4), some (aI x5), some (aI x6), some (aI z1), some (aI z8), some (aI (x9 + 1))]) rfl ?_
      refine y_goto dX10_ask_149 (t := 73) rfl ?_
      exact hrec_73 x1 x3 x4 x5 x6 z1 z8 (x9 + 1) σ
noncomputable def vX10_ask_112 (rec_53 : Int → Int → Int → Int → Int → Sg → Option (Int × Sg)) (rec_73 : Int → Int → Int → Int → Int → Int → Int → Int → Sg → Option (Int × Sg)) (x1 x3 x4 x5 x6 x8 x9 y0 : Int) (σ : Sg) : Option (Int × Sg) := vX10_ask_113 rec_53 rec_73 x1 x3 x4 x5 x6 x8 x9 y0 0 σ
set_option maxRecDepth 100000 in
theorem tX10_ask_112 {Γ : Gx} {K : Kt} (hM : mLay K)  (rec_53 : Int → Int → Int → Int → Int → Sg → Option (Int × Sg)) (hrec_53 : ∀ (x1 x3 x4 x5 x6 : Int) (σ : Sg), Y Γ MX10_ask K (emIS K) K 53 [some (aR 84), some (aI x1), none, some (aI x3), some (aI x4), some (aI x5), some (aI x6), none, none, none] [] σ (rec_53 x1 x3 x4 x5 x6 σ)) (rec_73 : Int → Int → Int → Int → Int → Int → Int → Int → Sg → Option (Int × Sg)) (hrec_73 : ∀ (x1 x3 x4 x5 x6 x7 x8 x9 : Int) (σ : Sg), Y Γ MX10_ask K (emIS K) K 73 [some (aR 84), some (aI x1), none, some (aI x3), some (aI x4), some (aI x5), some (aI x6), some (aI x7), some (aI x8), some (aI x9)] [] σ (rec_73 x1 x3 x4 x5 x6 x7 x8 x9 σ)) (x1 x3 x4 x5 x6 x8 x9 y0 : Int) (σ : Sg) : Y Γ MX10_ask K (emIS K) K 112 [some (aR 84), some (aI x1), none, some (aI x3), some (aI x4), some (aI x5), some (aI x6), none, some (aI x8), some (aI x9)] [aI y0] σ (vX10_ask_112 rec_53 rec_73 x1 x3 x4 x5 x6 x8 x9 y0 σ) := by
  unfold vX10_ask_112
  refine y_iconst dX10_ask_112 (by decide) ?_
  exact tX10_ask_113 hM rec_53 hrec_53 rec_73 hrec_73 x1 x3 x4 x5 x6 x8 x9 y0 0 σ
noncomputable def vX10_ask_187 (rec_53 : Int → Int → Int → Int → Int → Sg → Option (Int × Sg)) (x1 x3 x4 x6 x9 y0 : Int) (σ : Sg) : Option (Int × Sg) := if 0 < x9 then (if x9 < x4 then (ck (in32 (x6 + 1)) (rec_53 x1 x3 x9 y0 (x6 + 1) σ)) else (ck (in32 (x6 + 1)) (rec_53 x1 x3 x4 y0 (x6 + 1) σ))) else (ck (in32 (x6 + 1)) (rec_53 x1 x3 x4 y0 (x6 + 1) σ))
set_option maxRecDepth 100000 in
theorem tX10_ask_187 {Γ : Gx} {K : Kt} (hM : mLay K)  (rec_53 : Int → Int → Int → Int → Int → Sg → Option (Int × Sg)) (hrec_53 : ∀ (x1 x3 x4 x5 x6 : Int) (σ : Sg), Y Γ MX10_ask K (emIS K) K 53 [some (aR 84), some (aI x1), none, some (aI x3), some (aI x4), some (aI x5), some (aI x6), none, none, none] [] σ (rec_53 x1 x3 x4 x5 x6 σ)) (x1 x3 x4 x6 x9 y0 : Int) (σ : Sg) : Y Γ MX10_ask K (emIS K) K 187 [some (aR 84), some (aI x1), none, some (aI x3), some (aI x4), none, some (aI x6), none, none, some (aI x9)] [aI y0] σ (vX10_ask_187 rec_53 x1 x3 x4 x6 x9 y0 σ) := by
  unfold vX10_ask_187
  refine y_istore dX10_ask_187 (Nat.le_of_ble_eq_true rfl) (L' := [some (aR 84), some (aI x1), none, some (aI x3), some (aI x4), some (aI y0), some (aI x6), none, none, some (aI x9)]) rfl ?_
  refine y_iload dX10_ask_189 rfl ?_
  refine y_ite (fun h1 => ?_) (fun h1 => ?_)
  · refine y_if_le_f dX10_ask_191 (t := 206) rfl h1 ?_
    refine y_iload dX10_ask_194 rfl ?_
    refine y_iload dX10_ask_196 rfl ?_
    refine y_ite (fun h2 => ?_) (fun h2 => ?_)
    · refine y_icmp_ge_f dX10_ask_198 (t := 206) rfl h2 ?_
      refine y_iload dX10_ask_201 rfl ?_
      refine y_goto dX10_ask_203 (t := 208) rfl ?_
      refine y_istore dX10_ask_208 (Nat.le_of_ble_eq_true rfl) (L' := [some (aR 84), some (aI x1), none, some (aI x3), some (aI x9), some (aI y0), some (aI x6), none, none, some (aI x9)]) rfl ?_
      refine yk_iinc dX10_ask_210 rfl (L' := [some (aR 84), some (aI x1), none, some (aI x3), some (aI x9), some (aI y0), some (aI (x6 + 1)), none, none, some (aI x9)]) rfl ?_
      refine y_goto dX10_ask_213 (t := 53) rfl ?_
      refine y_fg [true, true, false, true, true, true, true, false, false, false] (L' := [some (aR 84), some (aI x1), none, some (aI x3), some (aI x9), some (aI y0), some (aI (x6 + 1)), none, none, none]) rfl ?_
      exact hrec_53 x1 x3 x9 y0 (x6 + 1) σ
    · refine y_icmp_ge_t dX10_ask_198 (t := 206) rfl h2 ?_
      refine y_iload dX10_ask_206 rfl ?_
      refine y_istore dX10_ask_208 (Nat.le_of_ble_eq_true rfl) (L' := [some (aR 84), some (aI x1), none, some (aI x3), some (aI x4), some (aI y0), some (aI x6), none, none, some (aI x9)]) rfl ?_
      refine yk_iinc dX10_ask_210 rfl (L' := [some (aR 84), some (aI x1), none, some (aI x3), some (aI x4), some (aI y0), some (aI (x6 + 1)), none, none, some (aI x9)]) rfl ?_
      refine y_goto dX10_ask_213 (t := 53) rfl ?_
      refine y_fg [true, true, false, true, true, true, true, false, false, false] (L' := [some (aR 84), some (aI x1), none, some (aI x3), some (aI x4), some (aI y0), some (aI (x6 + 1)), none, none, none]) rfl ?_
      exact hrec_53 x1 x3 x4 y0 (x6 + 1) σ
  · refine y_if_le_t dX10_ask_191 (t := 206) rfl h1 ?_
    refine y_iload dX10_ask_206 rfl ?_
    refine y_istore dX10_ask_208 (Nat.le_of_ble_eq_true rfl) (L' := [some (aR 84), some (aI x1), none, some (aI x3), some (aI x4), some (aI y0), some (aI x6), none, none, some (aI x9)]) rfl ?_
    refine yk_iinc dX10_ask_210 rfl (L' := [some (aR 84), some (aI x1), none, some (aI x3), some (aI x4), some (aI y0), some (aI (x6 + 1)), none, none, some (aI x9)]) rfl ?_
    refine y_goto dX10_ask_213 (t := 53) rfl ?_
    refine y_fg [true, true, false, true, true, true, true, false, false, false] (L' := [some (aR 84), some (aI x1), none, some (aI x3), some (aI x4), some (aI y0), some (aI (x6 + 1)), none, none, none]) rfl ?_
    exact hrec_53 x1 x3 x4 y0 (x6 + 1) σ
noncomputable def vX10_ask_185 (rec_53 : Int → Int → Int → Int → Int → Sg → Option (Int × Sg)) (x1 x3 x4 x5 x6 x9 : Int) (σ : Sg) : Option (Int × Sg) := vX10_ask_187 rec_53 x1 x3 x4 x6 x9 x5 σ
set_option maxRecDepth 100000 in
theorem tX10_ask_185 {Γ : Gx} {K : Kt} (hM : mLay K)  (rec_53 : Int → Int → Int → Int → Int → Sg → Option (Int × Sg)) (hrec_53 : ∀ (x1 x3 x4 x5 x6 : Int) (σ : Sg), Y Γ MX10_ask K (emIS K) K 53 [some (aR 84), some (aI x1), none, some (aI x3), some (aI x4), some (aI x5), some (aI x6), none, none, none] [] σ (rec_53 x1 x3 x4 x5 x6 σ)) (x1 x3 x4 x5 x6 x9 : Int) (σ : Sg) : Y Γ MX10_ask K (emIS K) K 185 [some (aR 84), some (aI x1), none, some (aI x3), some (aI x4), some (aI x5), some (aI x6), none, none, some (aI x9)] [] σ (vX10_ask_185 rec_53 x1 x3 x4 x5 x6 x9 σ) := by
  unfold vX10_ask_185
  refine y_iload dX10_ask_185 rfl ?_
  refine y_fg [true, true, false, true, true, false, true, false, false, true] (L' := [some (aR 84), some (aI x1), none, some (aI x3), some (aI x4), none, some (aI x6), none, none, some (aI x9)]) rfl ?_
  exact tX10_ask_187 hM rec_53 hrec_53 x1 x3 x4 x6 x9 x5 σ
noncomputable def vX10_ask_166 (rec_53 : Int → Int → Int → Int → Int → Sg → Option (Int × Sg)) (x1 x3 x4 x5 x6 y0 : Int) (σ : Sg) : Option (Int × Sg) := if 0 < y0 then (if y0 < x4 then (vX10_ask_187 rec_53 x1 x3 x4 x6 y0 x6 σ) else (vX10_ask_185 rec_53 x1 x3 x4 x5 x6 y0 σ)) else (vX10_ask_185 rec_53 x1 x3 x4 x5 x6 y0 σ)
set_option maxRecDepth 100000 in
theorem tX10_ask_166 {Γ : Gx} {K : Kt} (hM : mLay K)  (rec_53 : Int → Int → Int → Int → Int → Sg → Option (Int × Sg)) (hrec_53 : ∀ (x1 x3 x4 x5 x6 : Int) (σ : Sg), Y Γ MX10_ask K (emIS K) K 53 [some (aR 84), some (aI x1), none, some (aI x3), some (aI x4), some (aI x5), some (aI x6), none, none, none] [] σ (rec_53 x1 x3 x4 x5 x6 σ)) (x1 x3 x4 x5 x6 y0 : Int) (σ : Sg) : Y Γ MX10_ask K (emIS K) K 166 [some (aR 84), some (aI x1), none, some (aI x3), some (aI x4), some (aI x5), some (aI x6), none, none, none] [aI y0] σ (vX10_ask_166 rec_53 x1 x3 x4 x5 x6 y0 σ) := by
  unfold vX10_ask_166
  refine y_istore dX10_ask_166 (Nat.le_of_ble_eq_true rfl) (L' := [some (aR 84), some (aI x1), none, some (aI x3), some (aI x4), some (aI x5), some (aI x6), none, none, some (aI y0)]) rfl ?_
  refine y_iload dX10_ask_168 rfl ?_
  refine y_ite (fun h1 => ?_) (fun h1 => ?_)
  · refine y_if_le_f dX10_ask_170 (t := 185) rfl h1 ?_
    refine y_iload dX10_ask_173 rfl ?_
    refine y_iload dX10_ask_175 rfl ?_
    refine y_ite (fun h2 => ?_) (fun h2 => ?_)
    · refine y_icmp_ge_f dX10_ask_177 (t := 185) rfl h2 ?_
      refine y_iload dX10_ask_180 rfl ?_
      refine y_goto dX10_ask_182 (t := 187) rfl ?_
      refine y_fg [true, true, false, true, true, false, true, false, false, true] (L' := [some (aR 84), some (aI x1), none, some (aI x3), some (aI x4), none, some (aI x6), none, none, some (aI y0)]) rfl ?_
      exact tX10_ask_187 hM rec_53 hrec_53 x1 x3 x4 x6 y0 x6 σ
    · refine y_icmp_ge_t dX10_ask_177 (t := 185) rfl h2 ?_
      exact tX10_ask_185 hM rec_53 hrec_53 x1 x3 x4 x5 x6 y0 σ
  · refine y_if_le_t dX10_ask_170 (t := 185) rfl h1 ?_
    exact tX10_ask_185 hM rec_53 hrec_53 x1 x3 x4 x5 x6 y0 σ
noncomputable def vX10_ask_73 (rec_53 : Int → Int → Int → Int → Int → Sg → Option (Int × Sg)) : Nat → Int → Int → Int → Int → Int → Int → Int → Int → Sg → Option (Int × Sg)
  | 0, _, _, _, _, _, _, _, _, _ => none
  | f + 1, x1, x3, x4, x5, x6, x7, x8, x9, σ => if x9 < (bShl 1 (σ 86 0)) then ((vX10_isOne x9 x1 σ).bind (fun r2 => if r2 = 0 then (vX10_ask_112 rec_53 (vX10_ask_73 rec_53 f) x1 x3 x4 x5 x6 x8 x9 x7 σ) else ((vX10_is x9 x6 σ).bind (fun r4 => if r4 = 0 then (vX10_ask_112 rec_53 (vX10_ask_73 rec_53 f) x1 x3 x4 x5 x6 x8 x9 x7 σ) else (vX10_ask_113 rec_53 (vX10_ask_73 rec_53 f) x1 x3 x4 x5 x6 x8 x9 x7 1 σ))))) else (if x8 < x7 then (vX10_ask_166 rec_53 x1 x3 x4 x5 x6 x7 σ) else (vX10_ask_166 rec_53 x1 x3 x4 x5 x6 x8 σ))
set_option maxRecDepth 100000 in
theorem tX10_ask_73 {Γ : Gx} {K : Kt} (hM : mLay K)  (rec_53 : Int → Int → Int → Int → Int → Sg → Option (Int × Sg)) (hrec_53 : ∀ (x1 x3 x4 x5 x6 : Int) (σ : Sg), Y Γ MX10_ask K (emIS K) K 53 [some (aR 84), some (aI x1), none, some (aI x3), some (aI x4), some (aI x5), some (aI x6), none, none, none] [] σ (rec_53 x1 x3 x4 x5 x6 σ)) : ∀ (f : Nat) (x1 x3 x4 x5 x6 x7 x8 x9 : Int) (σ : Sg), Y Γ MX10_ask K (emIS K) K 73 [some (aR 84), some (aI x1), none, some (aI x3), some (aI x4), some (aI x5), some (aI x6), some (aI x7), some (aI x8), some (aI x9)] [] σ (vX10_ask_73 rec_53 f x1 x3 x4 x5 x6 x7 x8 x9 σ) := by
  intro f
  induction f with
  | zero => intro x1 x3 x4 x5 x6 x7 x8 x9 σ; exact y_none
  | succ f ih =>
    intro x1 x3 x4 x5 x6 x7 x8 x9 σ
    rw [vX10_ask_73]
    refine y_iload dX10_ask_73 rfl ?_
    refine y_iconst dX10_ask_75 (by decide) ?_
    refine y_aload_n dX10_ask_76 rfl rfl ?_
    refine y_getR fX10_13 hM.1 rfl (lM_3 hM).1 dX10_ask_77 ?_
    refine y_iconst dX10_ask_80 (by decide) ?_
    refine yl_iaload (lM_3 hM).2 (by decide) (j := 0) rfl dX10_ask_81 ?_
    refine y_ishl dX10_ask_82 ?_
    refine y_ite (fun h1 => ?_) (fun h1 => ?_)
    · refine y_icmp_ge_f dX10_ask_83 (t := 152) rfl h1 ?_
      refine y_iload dX10_ask_86 rfl ?_
      refine y_aload_n dX10_ask_88 rfl rfl ?_
      refine y_iload dX10_ask_89 rfl ?_
      refine y_iload_n dX10_ask_91 rfl rfl ?_
      refine y_cvI (qX10_isOne hM x9 x1 σ) kX10_494 rfl hM.1 rfl (by decide) rfl (Nat.le_of_ble_eq_true rfl) dX10_ask_92 (fun r2 => ?_)
      refine y_ite (fun h3 => ?_) (fun h3 => ?_)
      · refine y_if_eq_t dX10_ask_95 (t := 112) rfl h3 ?_
        refine y_fg [true, true, false, true, true, true, true, false, true, true] (L' := [some (aR 84), some (aI x1), none, some (aI x3), some (aI x4), some (aI x5), some (aI x6), none, some (aI x8), some (aI x9)]) rfl ?_
        exact tX10_ask_112 hM rec_53 hrec_53 (vX10_ask_73 rec_53 f) ih x1 x3 x4 x5 x6 x8 x9 x7 σ
      · refine y_if_eq_f dX10_ask_95 (t := 112) rfl h3 ?_
        refine y_iload dX10_ask_98 rfl ?_
        refine y_iload dX10_ask_100 rfl ?_
        refine y_csI (qX10_is (K := K) x9 x6 σ) kX10_485 rfl (by decide) rfl (Nat.le_of_ble_eq_true rfl) dX10_ask_102 (fun r4 => ?_)
        refine y_ite (fun h5 => ?_) (fun h5 => ?_)
        · refine y_if_eq_t dX10_ask_105 (t := 112) rfl h5 ?_
          refine y_fg [true, true, false, true, true, true, true, false, true, true] (L' := [some (aR 84), some (aI x1), none, some (aI x3), some (aI x4), some (aI x5), some (aI x6), none, some (aI x8), some (aI x9)]) rfl ?_
          exact tX10_ask_112 hM rec_53 hrec_53 (vX10_ask_73 rec_53 f) ih x1 x3 x4 x5 x6 x8 x9 x7 σ
        · refine y_if_eq_f dX10_ask_105 (t := 112) rfl h5 ?_
          refine y_iconst dX10_ask_108 (by decide) ?_
          refine y_goto dX10_ask_109 (t := 113) rfl ?_
          refine y_fg [true, true, false, true, true, true, true, false, true, true] (L' := [some (aR 84), some (aI x1), none, some (aI x3), some (aI x4), some (aI x5), some (aI x6), none, some (aI x8), some (aI x9)]) rfl ?_
          exact tX10_ask_113 hM rec_53 hrec_53 (vX10_ask_73 rec_53 f) ih x1 x3 x4 x5 x6 x8 x9 x7 1 σ
    · refine y_icmp_ge_t dX10_ask_83 (t := 152) rfl h1 ?_
      refine y_iload dX10_ask_152 rfl ?_
      refine y_iload dX10_ask_154 rfl ?_
      refine y_ite (fun h6 => ?_) (fun h6 => ?_)
      · refine y_icmp_le_f dX10_ask_156 (t := 164) rfl h6 ?_
        refine y_iload dX10_ask_159 rfl ?_
        refine y_goto dX10_ask_161 (t := 166) rfl ?_
        refine y_fg [true, true, false, true, true, true, true, false, false, false] (L' := [some (aR 84), some (aI x1), none, some (aI x3), some (aI x4), some (aI x5), some (aI x6), none, none, none]) rfl ?_
        exact tX10_ask_166 hM rec_53 hrec_53 x1 x3 x4 x5 x6 x7 σ
      · refine y_icmp_le_t dX10_ask_156 (t := 164) rfl h6 ?_
        refine y_iload dX10_ask_164 rfl ?_
        refine y_fg [true, true, false, true, true, true, true, false, false, false] (L' := [some (aR 84), some (aI x1), none, some (aI x3), some (aI x4), some (aI x5), some (aI x6), none, none, none]) rfl ?_
        exact tX10_ask_166 hM rec_53 hrec_53 x1 x3 x4 x5 x6 x8 σ
noncomputable def vX10_ask_53 : Nat → Int → Int → Int → Int → Int → Sg → Option (Int × Sg)
  | 0, _, _, _, _, _, _ => none
  | f + 1, x1, x3, x4, x5, x6, σ => if x6 < (σ 86 0) then (vX10_ask_73 (vX10_ask_53 f) FU x1 x3 x4 x5 x6 0 0 0 σ) else (if x5 = (-1) then (some (x5, σ)) else (if x3 = 0 then (some (x5, σ)) else (some (x4, σ))))
set_option maxRecDepth 100000 in
theorem tX10_ask_53 {Γ : Gx} {K : Kt} (hM : mLay K)  : ∀ (f : Nat) (x1 x3 x4 x5 x6 : Int) (σ : Sg), Y Γ MX10_ask K (emIS K) K 53 [some (aR 84), some (aI x1), none, some (aI x3), some (aI x4), some (aI x5), some (aI x6), none, none, none] [] σ (vX10_ask_53 f x1 x3 x4 x5 x6 σ) := by
  intro f
  induction f with
  | zero => intro x1 x3 x4 x5 x6 σ; exact y_none
  | succ f ih =>
    intro x1 x3 x4 x5 x6 σ
    rw [vX10_ask_53]
    refine y_iload dX10_ask_53 rfl ?_
    refine y_aload_n dX10_ask_55 rfl rfl ?_
    refine y_getR fX10_13 hM.1 rfl (lM_3 hM).1 dX10_ask_56 ?_
    refine y_iconst dX10_ask_59 (by decide) ?_
    refine yl_iaload (lM_3 hM).2 (by decide) (j := 0) rfl dX10_ask_60 ?_
    refine y_ite (fun h1 => ?_) (fun h1 => ?_)
    · refine y_icmp_ge_f dX10_ask_61 (t := 216) rfl h1 ?_
      refine y_iconst dX10_ask_64 (by decide) ?_
      refine y_istore dX10_ask_65 (Nat.le_of_ble_eq_true rfl) (L' := [some (aR 84), some (aI x1), none, some (aI x3), some (aI x4), some (aI x5), some (aI x6), some (aI 0), none, none]) rfl ?_
      refine y_iconst dX10_ask_67 (by decide) ?_
      refine y_istore dX10_ask_68 (Nat.le_of_ble_eq_true rfl) (L' := [some (aR 84), some (aI x1), none, some (aI x3), some (aI x4), some (aI x5), some (aI x6), some (aI 0), some (aI 0), none]) rfl ?_
      refine y_iconst dX10_ask_70 (by decide) ?_
      refine y_istore dX10_ask_71 (Nat.le_of_ble_eq_true rfl) (L' := [some (aR 84), some (aI x1), none, some (aI x3), some (aI x4), some (aI x5), some (aI x6), some (aI 0), some (aI 0), some (aI 0)]) rfl ?_
      exact tX10_ask_73 hM (vX10_ask_53 f) ih FU x1 x3 x4 x5 x6 0 0 0 σ
    · refine y_icmp_ge_t dX10_ask_61 (t := 216) rfl h1 ?_
      refine y_iload dX10_ask_216 rfl ?_
      refine y_iconst dX10_ask_218 (by decide) ?_
      refine y_ite (fun h2 => ?_) (fun h2 => ?_)
      · refine y_icmp_eq_t dX10_ask_219 (t := 226) rfl h2 ?_
        refine y_iload dX10_ask_226 rfl ?_
        refine y_goto dX10_ask_228 (t := 233) rfl ?_
        exact y_iret rfl rfl dX10_ask_233
      · refine y_icmp_eq_f dX10_ask_219 (t := 226) rfl h2 ?_
        refine y_iload_n dX10_ask_222 rfl rfl ?_
        refine y_ite (fun h3 => ?_) (fun h3 => ?_)
        · refine y_if_ne_f dX10_ask_223 (t := 231) rfl h3 ?_
          refine y_iload dX10_ask_226 rfl ?_
          refine y_goto dX10_ask_228 (t := 233) rfl ?_
          exact y_iret rfl rfl dX10_ask_233
        · refine y_if_ne_t dX10_ask_223 (t := 231) rfl h3 ?_
          refine y_iload dX10_ask_231 rfl ?_
          exact y_iret rfl rfl dX10_ask_233
noncomputable def vX10_ask (p1 : Int) (p2 : Int) (p3 : Int) (σ : Sg) : Option (Int × Sg) := nm (up2 σ 84 0 0) (fun σ1 => (vX10_isReader p1 σ1).bind (fun r2 => if r2 = 0 then (some ((-1), σ1)) else ((vX10_in p2 0 63 σ1).bind (fun r4 => if r4 = 0 then (some ((-1), σ1)) else ((vX10_in p3 0 1 σ1).bind (fun r6 => if r6 = 0 then (some ((-1), σ1)) else ((vX10_laySets p2 σ1).bind (fun σ8 => vX10_ask_53 FU p1 p3 100000000 (-1) 0 σ8))))))))
set_option maxRecDepth 100000 in
theorem tX10_ask {Γ : Gx} {K : Kt} (hM : mLay K) (p1 : Int) (p2 : Int) (p3 : Int) (σ : Sg) : Y Γ MX10_ask K (emIS K) K 0 [some (aR 84), some (aI p1), some (aI p2), some (aI p3), none, none, none, none, none, none] [] σ (vX10_ask p1 p2 p3 σ) := by
  unfold vX10_ask
  refine y_aload_n dX10_ask_0 rfl rfl ?_
  refine y_iconst dX10_ask_1 (by decide) ?_
  refine yn_putI fX10_157 hM.1 rfl rfl dX10_ask_2 (fun σ1 => ?_)
  refine y_aload_n dX10_ask_5 rfl rfl ?_
  refine y_iload_n dX10_ask_6 rfl rfl ?_
  refine y_cvI (qX10_isReader hM p1 σ1) kX10_201 rfl hM.1 rfl (by decide) rfl (Nat.le_of_ble_eq_true rfl) dX10_ask_7 (fun r2 => ?_)
  refine y_ite (fun h3 => ?_) (fun h3 => ?_)
  · refine y_if_eq_t dX10_ask_10 (t := 35) rfl h3 ?_
    refine y_iconst dX10_ask_35 (by decide) ?_
    exact y_iret rfl rfl dX10_ask_36
  · refine y_if_eq_f dX10_ask_10 (t := 35) rfl h3 ?_
    refine y_iload_n dX10_ask_13 rfl rfl ?_
    refine y_i2l dX10_ask_14 ?_
    refine y_lconst 0 dX10_ask_15 (by decide) (by decide) ?_
    refine y_ldc2 63 wX10_c186 dX10_ask_16 (by decide) (by decide) ?_
    refine y_csI (qX10_in (K := K) p2 0 63 σ1) kX10_177 rfl (by decide) rfl (Nat.le_of_ble_eq_true rfl) dX10_ask_19 (fun r4 => ?_)
    refine y_ite (fun h5 => ?_) (fun h5 => ?_)
    · refine y_if_eq_t dX10_ask_22 (t := 35) rfl h5 ?_
      refine y_iconst dX10_ask_35 (by decide) ?_
      exact y_iret rfl rfl dX10_ask_36
    · refine y_if_eq_f dX10_ask_22 (t := 35) rfl h5 ?_
      refine y_iload_n dX10_ask_25 rfl rfl ?_
      refine y_i2l dX10_ask_26 ?_
      refine y_lconst 0 dX10_ask_27 (by decide) (by decide) ?_
      refine y_lconst 1 dX10_ask_28 (by decide) (by decide) ?_
      refine y_csI (qX10_in (K := K) p3 0 1 σ1) kX10_177 rfl (by decide) rfl (Nat.le_of_ble_eq_true rfl) dX10_ask_29 (fun r6 => ?_)
      refine y_ite (fun h7 => ?_) (fun h7 => ?_)
      · refine y_if_ne_f dX10_ask_32 (t := 37) rfl h7 ?_
        refine y_iconst dX10_ask_35 (by decide) ?_
        exact y_iret rfl rfl dX10_ask_36
      · refine y_if_ne_t dX10_ask_32 (t := 37) rfl h7 ?_
        refine y_aload_n dX10_ask_37 rfl rfl ?_
        refine y_iload_n dX10_ask_38 rfl rfl ?_
        refine y_cvV (qX10_laySets hM p2 σ1) kX10_491 rfl hM.1 rfl (by decide) rfl (Nat.le_of_ble_eq_true rfl) dX10_ask_39 (fun σ8 => ?_)
        refine y_ldcw 100000000 wX10_c478 dX10_ask_42 (by decide) (by decide) ?_
        refine y_istore dX10_ask_45 (Nat.le_of_ble_eq_true rfl) (L' := [some (aR 84), some (aI p1), some (aI p2), some (aI p3), some (aI 100000000), none, none, none, none, none]) rfl ?_
        refine y_iconst dX10_ask_47 (by decide) ?_
        refine y_istore dX10_ask_48 (Nat.le_of_ble_eq_true rfl) (L' := [some (aR 84), some (aI p1), some (aI p2), some (aI p3), some (aI 100000000), some (aI (-1)), none, none, none, none]) rfl ?_
        refine y_iconst dX10_ask_50 (by decide) ?_
        refine y_istore dX10_ask_51 (Nat.le_of_ble_eq_true rfl) (L' := [some (aR 84), some (aI p1), some (aI p2), some (aI p3), some (aI 100000000), some (aI (-1)), some (aI 0), none, none, none]) rfl ?_
        refine y_fg [true, true, false, true, true, true, true, false, false, false] (L' := [some (aR 84), some (aI p1), none, some (aI p3), some (aI 100000000), some (aI (-1)), some (aI 0), none, none, none]) rfl ?_
        exact tX10_ask_53 hM FU p1 p3 100000000 (-1) 0 σ8
theorem qX10_ask {K : Kt} (hM : mLay K) (p1 : Int) (p2 : Int) (p3 : Int) (σ : Sg) : Cc MX10_ask K [aR 84, aI p1, aI p2, aI p3] σ (emIS K) (vX10_ask p1 p2 p3 σ) := cc_of plX10 (Nat.le_of_ble_eq_true rfl) (fun o _ => ⟨Nat.le_refl _, Nat.le_refl _⟩) (fun Γ => tX10_ask hM p1 p2 p3 σ)
noncomputable def vX10_last_53 (rec_37 : Int → Int → Int → Sg → Option (Int × Sg)) : Nat → Int → Int → Int → Int → Sg → Option (Int × Sg)
  | 0, _, _, _, _, _ => none
  | f + 1, x1, x3, x4, x5, σ => if x5 < (σ 86 0) then ((vX10_is x4 x5 σ).bind (fun r2 => if r2 = 0 then (nm (bOr x3 0) (fun z4 => ck (in32 (x5 + 1)) (vX10_last_53 rec_37 f x1 z4 x4 (x5 + 1) σ))) else ((vX10_isOne x4 x1 σ).bind (fun r5 => if r5 = 0 then (nm (bOr x3 0) (fun z7 => ck (in32 (x5 + 1)) (vX10_last_53 rec_37 f x1 z7 x4 (x5 + 1) σ))) else ((vX10_canBeLast x4 x5 σ).bind (fun r8 => if r8 = 0 then (nm (bOr x3 0) (fun z10 => ck (in32 (x5 + 1)) (vX10_last_53 rec_37 f x1 z10 x4 (x5 + 1) σ))) else (nm (bOr x3 (bShl 1 x5)) (fun z11 => ck (in32 (x5 + 1)) (vX10_last_53 rec_37 f x1 z11 x4 (x5 + 1) σ))))))))) else (ck (in32 (x4 + 1)) (rec_37 x1 x3 (x4 + 1) σ))
set_option maxRecDepth 100000 in
theorem tX10_last_53 {Γ : Gx} {K : Kt} (hM : mLay K)  (rec_37 : Int → Int → Int → Sg → Option (Int × Sg)) (hrec_37 : ∀ (x1 x3 x4 : Int) (σ : Sg), Y Γ MX10_last K (emIS K) K 37 [some (aR 84), some (aI x1), none, some (aI x3), some (aI x4), none] [] σ (rec_37 x1 x3 x4 σ)) : ∀ (f : Nat) (x1 x3 x4 x5 : Int) (σ : Sg), Y Γ MX10_last K (emIS K) K 53 [some (aR 84), some (aI x1), none, some (aI x3), some (aI x4), some (aI x5)] [] σ (vX10_last_53 rec_37 f x1 x3 x4 x5 σ) := by
  intro f
  induction f with
  | zero => intro x1 x3 x4 x5 σ; exact y_none
  | succ f ih =>
    intro x1 x3 x4 x5 σ
    rw [vX10_last_53]
    refine y_iload dX10_last_53 rfl ?_
    refine y_aload_n dX10_last_55 rfl rfl ?_
    refine y_getR fX10_13 hM.1 rfl (lM_3 hM).1 dX10_last_56 ?_
    refine y_iconst dX10_last_59 (by decide) ?_
    refine yl_iaload (lM_3 hM).2 (by decide) (j := 0) rfl dX10_last_60 ?_
    refine y_ite (fun h1 => ?_) (fun h1 => ?_)
    · refine y_icmp_ge_f dX10_last_61 (t := 112) rfl h1 ?_
      refine y_iload_n dX10_last_64 rfl rfl ?_
      refine y_iload dX10_last_65 rfl ?_
      refine y_iload dX10_last_67 rfl ?_
      refine y_csI (qX10_is (K := K) x4 x5 σ) kX10_485 rfl (by decide) rfl (Nat.le_of_ble_eq_true rfl) dX10_last_69 (fun r2 => ?_)
      refine y_ite (fun h3 => ?_) (fun h3 => ?_)
      · refine y_if_eq_t dX10_last_72 (t := 103) rfl h3 ?_
        refine y_iconst dX10_last_103 (by decide) ?_
        refine y_ior dX10_last_104 ?_
        refine yn_istore_n dX10_last_105 rfl (Nat.le_of_ble_eq_true rfl) (L' := fun z4 => [some (aR 84), some (aI x1), none, some (aI z4), some (aI x4), some (aI x5)]) (fun _ => rfl) (fun z4 => ?_)
        refine yk_iinc dX10_last_106 rfl (L' := [some (aR 84), some (aI x1), none, some (aI z4), some (aI x4), some (aI (x5 + 1))]) rfl ?_
        refine y_goto dX10_last_109 (t := 53) rfl ?_
        exact ih x1 z4 x4 (x5 + 1) σ
      · refine y_if_eq_f dX10_last_72 (t := 103) rfl h3 ?_
        refine y_aload_n dX10_last_75 rfl rfl ?_
        refine y_iload dX10_last_76 rfl ?_
        refine y_iload_n dX10_last_78 rfl rfl ?_
        refine y_cvI (qX10_isOne hM x4 x1 σ) kX10_494 rfl hM.1 rfl (by decide) rfl (Nat.le_of_ble_eq_true rfl) dX10_last_79 (fun r5 => ?_)
        refine y_ite (fun h6 => ?_) (fun h6 => ?_)
        · refine y_if_eq_t dX10_last_82 (t := 103) rfl h6 ?_
          refine y_iconst dX10_last_103 (by decide) ?_
          refine y_ior dX10_last_104 ?_
          refine yn_istore_n dX10_last_105 rfl (Nat.le_of_ble_eq_true rfl) (L' := fun z7 => [some (aR 84), some (aI x1), none, some (aI z7), some (aI x4), some (aI x5)]) (fun _ => rfl) (fun z7 => ?_)
          refine yk_iinc dX10_last_106 rfl (L' := [some (aR 84), some (aI x1), none, some (aI z7), some (aI x4), some (aI (x5 + 1))]) rfl ?_
          refine y_goto dX10_last_109 (t := 53) rfl ?_
          exact ih x1 z7 x4 (x5 + 1) σ
        · refine y_if_eq_f dX10_last_82 (t := 103) rfl h6 ?_
          refine y_aload_n dX10_last_85 rfl rfl ?_
          refine y_iload dX10_last_86 rfl ?_
          refine y_iload dX10_last_88 rfl ?_
          refine y_cvI (qX10_canBeLast hM x4 x5 σ) kX10_488 rfl hM.1 rfl (by decide) rfl (Nat.le_of_ble_eq_true rfl) dX10_last_90 (fun r8 => ?_)
          refine y_ite (fun h9 => ?_) (fun h9 => ?_)
          · refine y_if_eq_t dX10_last_93 (t := 103) rfl h9 ?_
            refine y_iconst dX10_last_103 (by decide) ?_
            refine y_ior dX10_last_104 ?_
            refine yn_istore_n dX10_last_105 rfl (Nat.le_of_ble_eq_true rfl) (L' := fun z10 => [some (aR 84), some (aI x1), none, some (aI z10), some (aI x4), some (aI x5)]) (fun _ => rfl) (fun z10 => ?_)
            refine yk_iinc dX10_last_106 rfl (L' := [some (aR 84), some (aI x1), none, some (aI z10), some (aI x4), some (aI (x5 + 1))]) rfl ?_
            refine y_goto dX10_last_109 (t := 53) rfl ?_
            exact ih x1 z10 x4 (x5 + 1) σ
          · refine y_if_eq_f dX10_last_93 (t := 103) rfl h9 ?_
            refine y_iconst dX10_last_96 (by decide) ?_
            refine y_iload dX10_last_97 rfl ?_
            refine y_ishl dX10_last_99 ?_
            refine y_goto dX10_last_100 (t := 104) rfl ?_
            refine y_ior dX10_last_104 ?_
            refine yn_istore_n dX10_last_105 rfl (Nat.le_of_ble_eq_true rfl) (L' := fun z11 => [some (aR 84), some (aI x1), none, some (aI z11), some (aI x4), some (aI x5)]) (fun _ => rfl) (fun z11 => ?_)
            refine yk_iinc dX10_last_106 rfl (L' := [some (aR 84), some (aI x1), none, some (aI z11), some (aI x4), some (aI (x5 + 1))]) rfl ?_
            refine y_goto dX10_last_109 (t := 53) rfl ?_
            exact ih x1 z11 x4 (x5 + 1) σ
    · refine y_icmp_ge_t dX10_last_61 (t := 112) rfl h1 ?_
      refine yk_iinc dX10_last_112 rfl (L' := [some (aR 84), some (aI x1), none, some (aI x3), some (aI (x4 + 1)), some (aI x5)]) rfl ?_
      refine y_goto dX10_last_115 (t := 37) rfl ?_
      refine y_fg [true, true, false, true, true, false] (L' := [some (aR 84), some (aI x1), none, some (aI x3), some (aI (x4 + 1)), none]) rfl ?_
      exact hrec_37 x1 x3 (x4 + 1) σ
noncomputable def vX10_last_37 : Nat → Int → Int → Int → Sg → Option (Int × Sg)
  | 0, _, _, _, _ => none
  | f + 1, x1, x3, x4, σ => if x4 < (bShl 1 (σ 86 0)) then (vX10_last_53 (vX10_last_37 f) FU x1 x3 x4 0 σ) else (some (x3, σ))
set_option maxRecDepth 100000 in
theorem tX10_last_37 {Γ : Gx} {K : Kt} (hM : mLay K)  : ∀ (f : Nat) (x1 x3 x4 : Int) (σ : Sg), Y Γ MX10_last K (emIS K) K 37 [some (aR 84), some (aI x1), none, some (aI x3), some (aI x4), none] [] σ (vX10_last_37 f x1 x3 x4 σ) := by
  intro f
  induction f with
  | zero => intro x1 x3 x4 σ; exact y_none
  | succ f ih =>
    intro x1 x3 x4 σ
    rw [vX10_last_37]
    refine y_iload dX10_last_37 rfl ?_
    refine y_iconst dX10_last_39 (by decide) ?_
    refine y_aload_n dX10_last_40 rfl rfl ?_
    refine y_getR fX10_13 hM.1 rfl (lM_3 hM).1 dX10_last_41 ?_
    refine y_iconst dX10_last_44 (by decide) ?_
    refine yl_iaload (lM_3 hM).2 (by decide) (j := 0) rfl dX10_last_45 ?_
    refine y_ishl dX10_last_46 ?_
    refine y_ite (fun h1 => ?_) (fun h1 => ?_)
    · refine y_icmp_ge_f dX10_last_47 (t := 118) rfl h1 ?_
      refine y_iconst dX10_last_50 (by decide) ?_
      refine y_istore dX10_last_51 (Nat.le_of_ble_eq_true rfl) (L' := [some (aR 84), some (aI x1), none, some (aI x3), some (aI x4), some (aI 0)]) rfl ?_
      exact tX10_last_53 hM (vX10_last_37 f) ih FU x1 x3 x4 0 σ
    · refine y_icmp_ge_t dX10_last_47 (t := 118) rfl h1 ?_
      refine y_iload_n dX10_last_118 rfl rfl ?_
      exact y_iret rfl rfl dX10_last_119
noncomputable def vX10_last (p1 : Int) (p2 : Int) (σ : Sg) : Option (Int × Sg) := nm (up2 σ 84 0 0) (fun σ1 => (vX10_isReader p1 σ1).bind (fun r2 => if r2 = 0 then (some ((-1), σ1)) else ((vX10_in p2 0 63 σ1).bind (fun r4 => if r4 = 0 then (some ((-1), σ1)) else ((vX10_laySets p2 σ1).bind (fun σ6 => vX10_last_37 FU p1 0 0 σ6))))))
set_option maxRecDepth 100000 in
theorem tX10_last {Γ : Gx} {K : Kt} (hM : mLay K) (p1 : Int) (p2 : Int) (σ : Sg) : Y Γ MX10_last K (emIS K) K 0 [some (aR 84), some (aI p1), some (aI p2), none, none, none] [] σ (vX10_last p1 p2 σ) := by
  unfold vX10_last
  refine y_aload_n dX10_last_0 rfl rfl ?_
  refine y_iconst dX10_last_1 (by decide) ?_
  refine yn_putI fX10_157 hM.1 rfl rfl dX10_last_2 (fun σ1 => ?_)
  refine y_aload_n dX10_last_5 rfl rfl ?_
  refine y_iload_n dX10_last_6 rfl rfl ?_
  refine y_cvI (qX10_isReader hM p1 σ1) kX10_201 rfl hM.1 rfl (by decide) rfl (Nat.le_of_ble_eq_true rfl) dX10_last_7 (fun r2 => ?_)
  refine y_ite (fun h3 => ?_) (fun h3 => ?_)
  · refine y_if_eq_t dX10_last_10 (t := 25) rfl h3 ?_
    refine y_iconst dX10_last_25 (by decide) ?_
    exact y_iret rfl rfl dX10_last_26
  · refine y_if_eq_f dX10_last_10 (t := 25) rfl h3 ?_
    refine y_iload_n dX10_last_13 rfl rfl ?_
    refine y_i2l dX10_last_14 ?_
    refine y_lconst 0 dX10_last_15 (by decide) (by decide) ?_
    refine y_ldc2 63 wX10_c186 dX10_last_16 (by decide) (by decide) ?_
    refine y_csI (qX10_in (K := K) p2 0 63 σ1) kX10_177 rfl (by decide) rfl (Nat.le_of_ble_eq_true rfl) dX10_last_19 (fun r4 => ?_)
    refine y_ite (fun h5 => ?_) (fun h5 => ?_)
    · refine y_if_ne_f dX10_last_22 (t := 27) rfl h5 ?_
      refine y_iconst dX10_last_25 (by decide) ?_
      exact y_iret rfl rfl dX10_last_26
    · refine y_if_ne_t dX10_last_22 (t := 27) rfl h5 ?_
      refine y_aload_n dX10_last_27 rfl rfl ?_
      refine y_iload_n dX10_last_28 rfl rfl ?_
      refine y_cvV (qX10_laySets hM p2 σ1) kX10_491 rfl hM.1 rfl (by decide) rfl (Nat.le_of_ble_eq_true rfl) dX10_last_29 (fun σ6 => ?_)
      refine y_iconst dX10_last_32 (by decide) ?_
      refine y_istore_n dX10_last_33 rfl (Nat.le_of_ble_eq_true rfl) (L' := [some (aR 84), some (aI p1), some (aI p2), some (aI 0), none, none]) rfl ?_
      refine y_iconst dX10_last_34 (by decide) ?_
      refine y_istore dX10_last_35 (Nat.le_of_ble_eq_true rfl) (L' := [some (aR 84), some (aI p1), some (aI p2), some (aI 0), some (aI 0), none]) rfl ?_
      refine y_fg [true, true, false, true, true, false] (L' := [some (aR 84), some (aI p1), none, some (aI 0), some (aI 0), none]) rfl ?_
      exact tX10_last_37 hM FU p1 0 0 σ6
theorem qX10_last {K : Kt} (hM : mLay K) (p1 : Int) (p2 : Int) (σ : Sg) : Cc MX10_last K [aR 84, aI p1, aI p2] σ (emIS K) (vX10_last p1 p2 σ) := cc_of plX10 (Nat.le_of_ble_eq_true rfl) (fun o _ => ⟨Nat.le_refl _, Nat.le_refl _⟩) (fun Γ => tX10_last hM p1 p2 σ)
noncomputable def vX10_isInside (p1 : Int) (p2 : Int) (σ : Sg) : Option (Int) := ck (in32 (79 + p1)) (ck (0 ≤ (79 + p1) ∧ (79 + p1) < 5505) (ck (in32 (79 + p2)) (ck (0 ≤ (79 + p2) ∧ (79 + p2) < 5505) (if (σ 86 (79 + p1).toNat) = (σ 86 (79 + p2).toNat) then (some 0) else (ck (in32 (79 + p1)) (ck (0 ≤ (79 + p1) ∧ (79 + p1) < 5505) (ck (in32 (79 + p2)) (ck (0 ≤ (79 + p2) ∧ (79 + p2) < 5505) ((vX10_isIn (σ 86 (79 + p1).toNat) (σ 86 (79 + p2).toNat) σ).bind (fun r2 => if r2 = 0 then (some 0) else (some 1)))))))))))
set_option maxRecDepth 100000 in
theorem tX10_isInside {Γ : Gx} {K : Kt} (hM : mLay K) (p1 : Int) (p2 : Int) (σ : Sg) : Y Γ MX10_isInside K (emI K σ) K 0 [some (aR 84), some (aI p1), some (aI p2)] [] σ (vX10_isInside p1 p2 σ) := by
  unfold vX10_isInside
  refine y_aload_n dX10_isInside_0 rfl rfl ?_
  refine y_getR fX10_13 hM.1 rfl (lM_3 hM).1 dX10_isInside_1 ?_
  refine y_bipush dX10_isInside_4 (by decide) (by decide) ?_
  refine y_iload_n dX10_isInside_6 rfl rfl ?_
  refine yk_iadd dX10_isInside_7 ?_
  refine yk_iaload (lM_3 hM).2 (N := 5505) rfl (j := (79 + p1).toNat) rfl dX10_isInside_8 ?_
  refine y_aload_n dX10_isInside_9 rfl rfl ?_
  refine y_getR fX10_13 hM.1 rfl (lM_3 hM).1 dX10_isInside_10 ?_
  refine y_bipush dX10_isInside_13 (by decide) (by decide) ?_
  refine y_iload_n dX10_isInside_15 rfl rfl ?_
  refine yk_iadd dX10_isInside_16 ?_
  refine yk_iaload (lM_3 hM).2 (N := 5505) rfl (j := (79 + p2).toNat) rfl dX10_isInside_17 ?_
  refine y_ite (fun h1 => ?_) (fun h1 => ?_)
  · refine y_icmp_eq_t dX10_isInside_18 (t := 49) rfl h1 ?_
    refine y_iconst dX10_isInside_49 (by decide) ?_
    exact y_zret (by decide) rfl rfl dX10_isInside_50
  · refine y_icmp_eq_f dX10_isInside_18 (t := 49) rfl h1 ?_
    refine y_aload_n dX10_isInside_21 rfl rfl ?_
    refine y_getR fX10_13 hM.1 rfl (lM_3 hM).1 dX10_isInside_22 ?_
    refine y_bipush dX10_isInside_25 (by decide) (by decide) ?_
    refine y_iload_n dX10_isInside_27 rfl rfl ?_
    refine yk_iadd dX10_isInside_28 ?_
    refine yk_iaload (lM_3 hM).2 (N := 5505) rfl (j := (79 + p1).toNat) rfl dX10_isInside_29 ?_
    refine y_aload_n dX10_isInside_30 rfl rfl ?_
    refine y_getR fX10_13 hM.1 rfl (lM_3 hM).1 dX10_isInside_31 ?_
    refine y_bipush dX10_isInside_34 (by decide) (by decide) ?_
    refine y_iload_n dX10_isInside_36 rfl rfl ?_
    refine yk_iadd dX10_isInside_37 ?_
    refine yk_iaload (lM_3 hM).2 (N := 5505) rfl (j := (79 + p2).toNat) rfl dX10_isInside_38 ?_
    refine y_csI (qX10_isIn (K := K) (σ 86 (79 + p1).toNat) (σ 86 (79 + p2).toNat) σ) kX10_417 rfl (by decide) rfl (Nat.le_of_ble_eq_true rfl) dX10_isInside_39 (fun r2 => ?_)
    refine y_ite (fun h3 => ?_) (fun h3 => ?_)
    · refine y_if_eq_t dX10_isInside_42 (t := 49) rfl h3 ?_
      refine y_iconst dX10_isInside_49 (by decide) ?_
      exact y_zret (by decide) rfl rfl dX10_isInside_50
    · refine y_if_eq_f dX10_isInside_42 (t := 49) rfl h3 ?_
      refine y_iconst dX10_isInside_45 (by decide) ?_
      refine y_goto dX10_isInside_46 (t := 50) rfl ?_
      exact y_zret (by decide) rfl rfl dX10_isInside_50
theorem qX10_isInside {K : Kt} (hM : mLay K) (p1 : Int) (p2 : Int) (σ : Sg) : Cc MX10_isInside K [aR 84, aI p1, aI p2] σ (emI K σ) (vX10_isInside p1 p2 σ) := cc_of plX10 (Nat.le_of_ble_eq_true rfl) (fun o _ => ⟨Nat.le_refl _, Nat.le_refl _⟩) (fun Γ => tX10_isInside hM p1 p2 σ)
noncomputable def vX10_layNests_101 (rec_29 : Int → Int → Sg → Option (Sg)) (rec_36 : Int → Int → Int → Sg → Option (Sg)) (rec_44 : Int → Int → Int → Int → Sg → Option (Sg)) (x1 x2 x3 x4 y1 y2 : Int) (σ : Sg) : Option (Sg) := ck (0 ≤ y1 ∧ y1 < 8) (nm (up2 σ 110 y1.toNat y2) (fun σ1 => ck (in32 (x4 + 1)) (rec_44 x1 x2 x3 (x4 + 1) σ1)))
set_option maxRecDepth 100000 in
theorem tX10_layNests_101 {Γ : Gx} {K : Kt} (hM : mLay K)  (rec_29 : Int → Int → Sg → Option (Sg)) (hrec_29 : ∀ (x1 x2 : Int) (σ : Sg), Y Γ MX10_layNests K (emV K) K 29 [some (aR 84), some (aI x1), some (aI x2), none, none] [] σ (rec_29 x1 x2 σ)) (rec_36 : Int → Int → Int → Sg → Option (Sg)) (hrec_36 : ∀ (x1 x2 x3 : Int) (σ : Sg), Y Γ MX10_layNests K (emV K) K 36 [some (aR 84), some (aI x1), some (aI x2), some (aI x3), none] [] σ (rec_36 x1 x2 x3 σ)) (rec_44 : Int → Int → Int → Int → Sg → Option (Sg)) (hrec_44 : ∀ (x1 x2 x3 x4 : Int) (σ : Sg), Y Γ MX10_layNests K (emV K) K 44 [some (aR 84), some (aI x1), some (aI x2), some (aI x3), some (aI x4)] [] σ (rec_44 x1 x2 x3 x4 σ)) (x1 x2 x3 x4 y1 y2 : Int) (σ : Sg) : Y Γ MX10_layNests K (emV K) K 101 [some (aR 84), some (aI x1), some (aI x2), some (aI x3), some (aI x4)] [aI y2, aI y1, aR 110] σ (vX10_layNests_101 rec_29 rec_36 rec_44 x1 x2 x3 x4 y1 y2 σ) := by
  unfold vX10_layNests_101
  refine yk_iastore (lM_46 hM).2 (N := 8) rfl (j := y1.toNat) rfl dX10_layNests_101 (fun σ1 => ?_)
  refine yk_iinc dX10_layNests_102 rfl (L' := [some (aR 84), some (aI x1), some (aI x2), some (aI x3), some (aI (x4 + 1))]) rfl ?_
  refine y_goto dX10_layNests_105 (t := 44) rfl ?_
  exact hrec_44 x1 x2 x3 (x4 + 1) σ1
noncomputable def vX10_layNests_95 (rec_29 : Int → Int → Sg → Option (Sg)) (rec_36 : Int → Int → Int → Sg → Option (Sg)) (rec_44 : Int → Int → Int → Int → Sg → Option (Sg)) (x1 x2 x3 x4 y1 : Int) (σ : Sg) : Option (Sg) := ck (0 ≤ x3 ∧ x3 < 8) (vX10_layNests_101 rec_29 rec_36 rec_44 x1 x2 x3 x4 y1 (σ 110 x3.toNat) σ)
set_option maxRecDepth 100000 in
theorem tX10_layNests_95 {Γ : Gx} {K : Kt} (hM : mLay K)  (rec_29 : Int → Int → Sg → Option (Sg)) (hrec_29 : ∀ (x1 x2 : Int) (σ : Sg), Y Γ MX10_layNests K (emV K) K 29 [some (aR 84), some (aI x1), some (aI x2), none, none] [] σ (rec_29 x1 x2 σ)) (rec_36 : Int → Int → Int → Sg → Option (Sg)) (hrec_36 : ∀ (x1 x2 x3 : Int) (σ : Sg), Y Γ MX10_layNests K (emV K) K 36 [some (aR 84), some (aI x1), some (aI x2), some (aI x3), none] [] σ (rec_36 x1 x2 x3 σ)) (rec_44 : Int → Int → Int → Int → Sg → Option (Sg)) (hrec_44 : ∀ (x1 x2 x3 x4 : Int) (σ : Sg), Y Γ MX10_layNests K (emV K) K 44 [some (aR 84), some (aI x1), some (aI x2), some (aI x3), some (aI x4)] [] σ (rec_44 x1 x2 x3 x4 σ)) (x1 x2 x3 x4 y1 : Int) (σ : Sg) : Y Γ MX10_layNests K (emV K) K 95 [some (aR 84), some (aI x1), some (aI x2), some (aI x3), some (aI x4)] [aI y1, aR 110] σ (vX10_layNests_95 rec_29 rec_36 rec_44 x1 x2 x3 x4 y1 σ) := by
  unfold vX10_layNests_95
  refine y_aload_n dX10_layNests_95 rfl rfl ?_
  refine y_getR fX10_125 hM.1 rfl (lM_46 hM).1 dX10_layNests_96 ?_
  refine y_iload_n dX10_layNests_99 rfl rfl ?_
  refine yk_iaload (lM_46 hM).2 (N := 8) rfl (j := x3.toNat) rfl dX10_layNests_100 ?_
  exact tX10_layNests_101 hM rec_29 hrec_29 rec_36 hrec_36 rec_44 hrec_44 x1 x2 x3 x4 y1 (σ 110 x3.toNat) σ
noncomputable def vX10_layNests_44 (rec_29 : Int → Int → Sg → Option (Sg)) (rec_36 : Int → Int → Int → Sg → Option (Sg)) : Nat → Int → Int → Int → Int → Sg → Option (Sg)
  | 0, _, _, _, _, _ => none
  | f + 1, x1, x2, x3, x4, σ => if x4 < x1 then ((vX10_isInside x3 x4 σ).bind (fun r2 => if r2 = 0 then (vX10_layNests_95 rec_29 rec_36 (vX10_layNests_44 rec_29 rec_36 f) x1 x2 x3 x4 x3 σ) else (ck (0 ≤ x4 ∧ x4 < 8) (ck (in32 ((σ 110 x4.toNat) + 1)) (ck (0 ≤ x3 ∧ x3 < 8) (if (σ 110 x3.toNat) < ((σ 110 x4.toNat) + 1) then (ck (0 ≤ x4 ∧ x4 < 8) (ck (in32 ((σ 110 x4.toNat) + 1)) (vX10_layNests_101 rec_29 rec_36 (vX10_layNests_44 rec_29 rec_36 f) x1 x2 x3 x4 x3 ((σ 110 x4.toNat) + 1) σ))) else (vX10_layNests_95 rec_29 rec_36 (vX10_layNests_44 rec_29 rec_36 f) x1 x2 x3 x4 x3 σ))))))) else (ck (in32 (x3 + 1)) (rec_36 x1 x2 (x3 + 1) σ))
set_option maxRecDepth 100000 in
theorem tX10_layNests_44 {Γ : Gx} {K : Kt} (hM : mLay K)  (rec_29 : Int → Int → Sg → Option (Sg)) (hrec_29 : ∀ (x1 x2 : Int) (σ : Sg), Y Γ MX10_layNests K (emV K) K 29 [some (aR 84), some (aI x1), some (aI x2), none, none] [] σ (rec_29 x1 x2 σ)) (rec_36 : Int → Int → Int → Sg → Option (Sg)) (hrec_36 : ∀ (x1 x2 x3 : Int) (σ : Sg), Y Γ MX10_layNests K (emV K) K 36 [some (aR 84), some (aI x1), some (aI x2), some (aI x3), none] [] σ (rec_36 x1 x2 x3 σ)) : ∀ (f : Nat) (x1 x2 x3 x4 : Int) (σ : Sg), Y Γ MX10_layNests K (emV K) K 44 [some (aR 84), some (aI x1), some (aI x2), some (aI x3), some (aI x4)] [] σ (vX10_layNests_44 rec_29 rec_36 f x1 x2 x3 x4 σ) := by
  intro f
  induction f with
  | zero => intro x1 x2 x3 x4 σ; exact y_none
  | succ f ih =>
    intro x1 x2 x3 x4 σ
    rw [vX10_layNests_44]
    refine y_iload dX10_layNests_44 rfl ?_
    refine y_iload_n dX10_layNests_46 rfl rfl ?_
    refine y_ite (fun h1 => ?_) (fun h1 => ?_)
    · refine y_icmp_ge_f dX10_layNests_47 (t := 108) rfl h1 ?_
      refine y_aload_n dX10_layNests_50 rfl rfl ?_
      refine y_getR fX10_125 hM.1 rfl (lM_46 hM).1 dX10_layNests_51 ?_
      refine y_iload_n dX10_layNests_54 rfl rfl ?_
      refine y_aload_n dX10_layNests_55 rfl rfl ?_
      refine y_iload_n dX10_layNests_56 rfl rfl ?_
      refine y_iload dX10_layNests_57 rfl ?_
      refine y_cvI (qX10_isInside hM x3 x4 σ) kX10_497 rfl hM.1 rfl (by decide) rfl (Nat.le_of_ble_eq_true rfl) dX10_layNests_59 (fun r2 => ?_)
      refine y_ite (fun h3 => ?_) (fun h3 => ?_)
      · refine y_if_eq_t dX10_layNests_62 (t := 95) rfl h3 ?_
        exact tX10_layNests_95 hM rec_29 hrec_29 rec_36 hrec_36 (vX10_layNests_44 rec_29 rec_36 f) ih x1 x2 x3 x4 x3 σ
      · refine y_if_eq_f dX10_layNests_62 (t := 95) rfl h3 ?_
        refine y_aload_n dX10_layNests_65 rfl rfl ?_
        refine y_getR fX10_125 hM.1 rfl (lM_46 hM).1 dX10_layNests_66 ?_
        refine y_iload dX10_layNests_69 rfl ?_
        refine yk_iaload (lM_46 hM).2 (N := 8) rfl (j := x4.toNat) rfl dX10_layNests_71 ?_
        refine y_iconst dX10_layNests_72 (by decide) ?_
        refine yk_iadd dX10_layNests_73 ?_
        refine y_aload_n dX10_layNests_74 rfl rfl ?_
        refine y_getR fX10_125 hM.1 rfl (lM_46 hM).1 dX10_layNests_75 ?_
        refine y_iload_n dX10_layNests_78 rfl rfl ?_
        refine yk_iaload (lM_46 hM).2 (N := 8) rfl (j := x3.toNat) rfl dX10_layNests_79 ?_
        refine y_ite (fun h4 => ?_) (fun h4 => ?_)
        · refine y_icmp_le_f dX10_layNests_80 (t := 95) rfl h4 ?_
          refine y_aload_n dX10_layNests_83 rfl rfl ?_
          refine y_getR fX10_125 hM.1 rfl (lM_46 hM).1 dX10_layNests_84 ?_
          refine y_iload dX10_layNests_87 rfl ?_
          refine yk_iaload (lM_46 hM).2 (N := 8) rfl (j := x4.toNat) rfl dX10_layNests_89 ?_
          refine y_iconst dX10_layNests_90 (by decide) ?_
          refine yk_iadd dX10_layNests_91 ?_
          refine y_goto dX10_layNests_92 (t := 101) rfl ?_
          exact tX10_layNests_101 hM rec_29 hrec_29 rec_36 hrec_36 (vX10_layNests_44 rec_29 rec_36 f) ih x1 x2 x3 x4 x3 ((σ 110 x4.toNat) + 1) σ
        · refine y_icmp_le_t dX10_layNests_80 (t := 95) rfl h4 ?_
          exact tX10_layNests_95 hM rec_29 hrec_29 rec_36 hrec_36 (vX10_layNests_44 rec_29 rec_36 f) ih x1 x2 x3 x4 x3 σ
    · refine y_icmp_ge_t dX10_layNests_47 (t := 108) rfl h1 ?_
      refine yk_iinc dX10_layNests_108 rfl (L' := [some (aR 84), some (aI x1), some (aI x2), some (aI (x3 + 1)), some (aI x4)]) rfl ?_
      refine y_goto dX10_layNests_111 (t := 36) rfl ?_
      refine y_fg [true, true, true, true, false] (L' := [some (aR 84), some (aI x1), some (aI x2), some (aI (x3 + 1)), none]) rfl ?_
      exact hrec_36 x1 x2 (x3 + 1) σ
noncomputable def vX10_layNests_36 (rec_29 : Int → Int → Sg → Option (Sg)) : Nat → Int → Int → Int → Sg → Option (Sg)
  | 0, _, _, _, _ => none
  | f + 1, x1, x2, x3, σ => if x3 < x1 then (vX10_layNests_44 rec_29 (vX10_layNests_36 rec_29 f) FU x1 x2 x3 0 σ) else (ck (in32 (x2 + 1)) (rec_29 x1 (x2 + 1) σ))
set_option maxRecDepth 100000 in
theorem tX10_layNests_36 {Γ : Gx} {K : Kt} (hM : mLay K)  (rec_29 : Int → Int → Sg → Option (Sg)) (hrec_29 : ∀ (x1 x2 : Int) (σ : Sg), Y Γ MX10_layNests K (emV K) K 29 [some (aR 84), some (aI x1), some (aI x2), none, none] [] σ (rec_29 x1 x2 σ)) : ∀ (f : Nat) (x1 x2 x3 : Int) (σ : Sg), Y Γ MX10_layNests K (emV K) K 36 [some (aR 84), some (aI x1), some (aI x2), some (aI x3), none] [] σ (vX10_layNests_36 rec_29 f x1 x2 x3 σ) := by
  intro f
  induction f with
  | zero => intro x1 x2 x3 σ; exact y_none
  | succ f ih =>
    intro x1 x2 x3 σ
    rw [vX10_layNests_36]
    refine y_iload_n dX10_layNests_36 rfl rfl ?_
    refine y_iload_n dX10_layNests_37 rfl rfl ?_
    refine y_ite (fun h1 => ?_) (fun h1 => ?_)
    · refine y_icmp_ge_f dX10_layNests_38 (t := 114) rfl h1 ?_
      refine y_iconst dX10_layNests_41 (by decide) ?_
      refine y_istore dX10_layNests_42 (Nat.le_of_ble_eq_true rfl) (L' := [some (aR 84), some (aI x1), some (aI x2), some (aI x3), some (aI 0)]) rfl ?_
      exact tX10_layNests_44 hM rec_29 hrec_29 (vX10_layNests_36 rec_29 f) ih FU x1 x2 x3 0 σ
    · refine y_icmp_ge_t dX10_layNests_38 (t := 114) rfl h1 ?_
      refine yk_iinc dX10_layNests_114 rfl (L' := [some (aR 84), some (aI x1), some (aI (x2 + 1)), some (aI x3), none]) rfl ?_
      refine y_goto dX10_layNests_117 (t := 29) rfl ?_
      refine y_fg [true, true, true, false, false] (L' := [some (aR 84), some (aI x1), some (aI (x2 + 1)), none, none]) rfl ?_
      exact hrec_29 x1 (x2 + 1) σ
noncomputable def vX10_layNests_29 : Nat → Int → Int → Sg → Option (Sg)
  | 0, _, _, _ => none
  | f + 1, x1, x2, σ => if x2 < x1 then (vX10_layNests_36 (vX10_layNests_29 f) FU x1 x2 0 σ) else (some σ)
set_option maxRecDepth 100000 in
theorem tX10_layNests_29 {Γ : Gx} {K : Kt} (hM : mLay K)  : ∀ (f : Nat) (x1 x2 : Int) (σ : Sg), Y Γ MX10_layNests K (emV K) K 29 [some (aR 84), some (aI x1), some (aI x2), none, none] [] σ (vX10_layNests_29 f x1 x2 σ) := by
  intro f
  induction f with
  | zero => intro x1 x2 σ; exact y_none
  | succ f ih =>
    intro x1 x2 σ
    rw [vX10_layNests_29]
    refine y_iload_n dX10_layNests_29 rfl rfl ?_
    refine y_iload_n dX10_layNests_30 rfl rfl ?_
    refine y_ite (fun h1 => ?_) (fun h1 => ?_)
    · refine y_icmp_ge_f dX10_layNests_31 (t := 120) rfl h1 ?_
      refine y_iconst dX10_layNests_34 (by decide) ?_
      refine y_istore_n dX10_layNests_35 rfl (Nat.le_of_ble_eq_true rfl) (L' := [some (aR 84), some (aI x1), some (aI x2), some (aI 0), none]) rfl ?_
      exact tX10_layNests_36 hM (vX10_layNests_29 f) ih FU x1 x2 0 σ
    · refine y_icmp_ge_t dX10_layNests_31 (t := 120) rfl h1 ?_
      exact y_vret rfl rfl dX10_layNests_120
noncomputable def vX10_layNests_9 : Nat → Int → Int → Sg → Option (Sg)
  | 0, _, _, _ => none
  | f + 1, x1, x2, σ => if x2 < x1 then (ck (0 ≤ x2 ∧ x2 < 8) (nm (up2 σ 110 x2.toNat 1) (fun σ2 => ck (in32 (x2 + 1)) (vX10_layNests_9 f x1 (x2 + 1) σ2)))) else (vX10_layNests_29 FU x1 0 σ)
set_option maxRecDepth 100000 in
theorem tX10_layNests_9 {Γ : Gx} {K : Kt} (hM : mLay K)  : ∀ (f : Nat) (x1 x2 : Int) (σ : Sg), Y Γ MX10_layNests K (emV K) K 9 [some (aR 84), some (aI x1), some (aI x2), none, none] [] σ (vX10_layNests_9 f x1 x2 σ) := by
  intro f
  induction f with
  | zero => intro x1 x2 σ; exact y_none
  | succ f ih =>
    intro x1 x2 σ
    rw [vX10_layNests_9]
    refine y_iload_n dX10_layNests_9 rfl rfl ?_
    refine y_iload_n dX10_layNests_10 rfl rfl ?_
    refine y_ite (fun h1 => ?_) (fun h1 => ?_)
    · refine y_icmp_ge_f dX10_layNests_11 (t := 27) rfl h1 ?_
      refine y_aload_n dX10_layNests_14 rfl rfl ?_
      refine y_getR fX10_125 hM.1 rfl (lM_46 hM).1 dX10_layNests_15 ?_
      refine y_iload_n dX10_layNests_18 rfl rfl ?_
      refine y_iconst dX10_layNests_19 (by decide) ?_
      refine yk_iastore (lM_46 hM).2 (N := 8) rfl (j := x2.toNat) rfl dX10_layNests_20 (fun σ2 => ?_)
      refine yk_iinc dX10_layNests_21 rfl (L' := [some (aR 84), some (aI x1), some (aI (x2 + 1)), none, none]) rfl ?_
      refine y_goto dX10_layNests_24 (t := 9) rfl ?_
      exact ih x1 (x2 + 1) σ2
    · refine y_icmp_ge_t dX10_layNests_11 (t := 27) rfl h1 ?_
      refine y_iconst dX10_layNests_27 (by decide) ?_
      refine y_istore_n dX10_layNests_28 rfl (Nat.le_of_ble_eq_true rfl) (L' := [some (aR 84), some (aI x1), some (aI 0), none, none]) rfl ?_
      exact tX10_layNests_29 hM FU x1 0 σ
noncomputable def vX10_layNests (σ : Sg) : Option (Sg) := nm (σ 86 0) (fun z1 => vX10_layNests_9 FU z1 0 σ)
set_option maxRecDepth 100000 in
theorem tX10_layNests {Γ : Gx} {K : Kt} (hM : mLay K) (σ : Sg) : Y Γ MX10_layNests K (emV K) K 0 [some (aR 84), none, none, none, none] [] σ (vX10_layNests σ) := by
  unfold vX10_layNests
  refine y_aload_n dX10_layNests_0 rfl rfl ?_
  refine y_getR fX10_13 hM.1 rfl (lM_3 hM).1 dX10_layNests_1 ?_
  refine y_iconst dX10_layNests_4 (by decide) ?_
  refine yl_iaload (lM_3 hM).2 (by decide) (j := 0) rfl dX10_layNests_5 ?_
  refine yn_istore_n dX10_layNests_6 rfl (Nat.le_of_ble_eq_true rfl) (L' := fun z1 => [some (aR 84), some (aI z1), none, none, none]) (fun _ => rfl) (fun z1 => ?_)
  refine y_iconst dX10_layNests_7 (by decide) ?_
  refine y_istore_n dX10_layNests_8 rfl (Nat.le_of_ble_eq_true rfl) (L' := [some (aR 84), some (aI z1), some (aI 0), none, none]) rfl ?_
  exact tX10_layNests_9 hM FU z1 0 σ
theorem qX10_layNests {K : Kt} (hM : mLay K) (σ : Sg) : Cc MX10_layNests K [aR 84] σ (emV K) (vX10_layNests σ) := cc_of plX10 (Nat.le_of_ble_eq_true rfl) (fun o _ => ⟨Nat.le_refl _, Nat.le_refl _⟩) (fun Γ => tX10_layNests hM σ)
noncomputable def vX10_nest_44 (rec_16 : Int → Int → Int → Int → Sg → Option (Int × Sg)) (x1 x2 x4 y0 : Int) (σ : Sg) : Option (Int × Sg) := ck (0 ≤ x4 ∧ x4 < 8) (if x2 < (σ 110 x4.toNat) then (ck (0 ≤ x4 ∧ x4 < 8) (nm (σ 110 x4.toNat) (fun z2 => ck (in32 (x4 + 1)) (rec_16 x1 z2 y0 (x4 + 1) σ)))) else (ck (in32 (x4 + 1)) (rec_16 x1 x2 y0 (x4 + 1) σ)))
set_option maxRecDepth 100000 in
theorem tX10_nest_44 {Γ : Gx} {K : Kt} (hM : mLay K)  (rec_16 : Int → Int → Int → Int → Sg → Option (Int × Sg)) (hrec_16 : ∀ (x1 x2 x3 x4 : Int) (σ : Sg), Y Γ MX10_nest K (emIS K) K 16 [some (aR 84), some (aI x1), some (aI x2), some (aI x3), some (aI x4), none] [] σ (rec_16 x1 x2 x3 x4 σ)) (x1 x2 x4 y0 : Int) (σ : Sg) : Y Γ MX10_nest K (emIS K) K 44 [some (aR 84), some (aI x1), some (aI x2), none, some (aI x4), none] [aI y0] σ (vX10_nest_44 rec_16 x1 x2 x4 y0 σ) := by
  unfold vX10_nest_44
  refine y_istore_n dX10_nest_44 rfl (Nat.le_of_ble_eq_true rfl) (L' := [some (aR 84), some (aI x1), some (aI x2), some (aI y0), some (aI x4), none]) rfl ?_
  refine y_aload_n dX10_nest_45 rfl rfl ?_
  refine y_getR fX10_125 hM.1 rfl (lM_46 hM).1 dX10_nest_46 ?_
  refine y_iload dX10_nest_49 rfl ?_
  refine yk_iaload (lM_46 hM).2 (N := 8) rfl (j := x4.toNat) rfl dX10_nest_51 ?_
  refine y_iload_n dX10_nest_52 rfl rfl ?_
  refine y_ite (fun h1 => ?_) (fun h1 => ?_)
  · refine y_icmp_le_f dX10_nest_53 (t := 66) rfl h1 ?_
    refine y_aload_n dX10_nest_56 rfl rfl ?_
    refine y_getR fX10_125 hM.1 rfl (lM_46 hM).1 dX10_nest_57 ?_
    refine y_iload dX10_nest_60 rfl ?_
    refine yk_iaload (lM_46 hM).2 (N := 8) rfl (j := x4.toNat) rfl dX10_nest_62 ?_
    refine y_goto dX10_nest_63 (t := 67) rfl ?_
    refine yn_istore_n dX10_nest_67 rfl (Nat.le_of_ble_eq_true rfl) (L' := fun z2 => [some (aR 84), some (aI x1), some (aI z2), some (aI y0), some (aI x4), none]) (fun _ => rfl) (fun z2 => ?_)
    refine yk_iinc dX10_nest_68 rfl (L' := [some (aR 84), some (aI x1), some (aI z2), some (aI y0), some (aI (x4 + 1)), none]) rfl ?_
    refine y_goto dX10_nest_71 (t := 16) rfl ?_
    exact hrec_16 x1 z2 y0 (x4 + 1) σ
  · refine y_icmp_le_t dX10_nest_53 (t := 66) rfl h1 ?_
    refine y_iload_n dX10_nest_66 rfl rfl ?_
    refine y_istore_n dX10_nest_67 rfl (Nat.le_of_ble_eq_true rfl) (L' := [some (aR 84), some (aI x1), some (aI x2), some (aI y0), some (aI x4), none]) rfl ?_
    refine yk_iinc dX10_nest_68 rfl (L' := [some (aR 84), some (aI x1), some (aI x2), some (aI y0), some (aI (x4 + 1)), none]) rfl ?_
    refine y_goto dX10_nest_71 (t := 16) rfl ?_
    exact hrec_16 x1 x2 y0 (x4 + 1) σ
noncomputable def vX10_nest_92 (x1 x2 : Int) (σ : Sg) : Option (Int × Sg) := if x1 = (-1) then (some (x2, σ)) else (some ((-1), σ))
set_option maxRecDepth 100000 in
theorem tX10_nest_92 {Γ : Gx} {K : Kt} (hM : mLay K)  (x1 x2 : Int) (σ : Sg) : Y Γ MX10_nest K (emIS K) K 92 [none, some (aI x1), some (aI x2), none, none, none] [] σ (vX10_nest_92 x1 x2 σ) := by
  unfold vX10_nest_92
  refine y_iload_n dX10_nest_92 rfl rfl ?_
  refine y_iconst dX10_nest_93 (by decide) ?_
  refine y_ite (fun h1 => ?_) (fun h1 => ?_)
  · refine y_icmp_ne_f dX10_nest_94 (t := 101) rfl h1 ?_
    refine y_iload_n dX10_nest_97 rfl rfl ?_
    refine y_goto dX10_nest_98 (t := 102) rfl ?_
    exact y_iret rfl rfl dX10_nest_102
  · refine y_icmp_ne_t dX10_nest_94 (t := 101) rfl h1 ?_
    refine y_iconst dX10_nest_101 (by decide) ?_
    exact y_iret rfl rfl dX10_nest_102
noncomputable def vX10_nest_115 (rec_106 : Int → Int → Int → Sg → Option (Int × Sg)) : Nat → Int → Int → Int → Int → Sg → Option (Int × Sg)
  | 0, _, _, _, _, _ => none
  | f + 1, x1, x3, x4, x5, σ => (vX10_isInside x3 x5 σ).bind (fun r1 => if r1 = 0 then (ck (in32 (x5 + 1)) (vX10_nest_115 rec_106 f x1 x3 x4 (x5 + 1) σ)) else (ck (0 ≤ x5 ∧ x5 < 8) (ck (0 ≤ x3 ∧ x3 < 8) (ck (in32 ((σ 110 x3.toNat) - 1)) (if (σ 110 x5.toNat) = ((σ 110 x3.toNat) - 1) then (ck (in32 (x4 + 1)) (rec_106 x1 x5 (x4 + 1) σ)) else (ck (in32 (x5 + 1)) (vX10_nest_115 rec_106 f x1 x3 x4 (x5 + 1) σ)))))))
set_option maxRecDepth 100000 in
theorem tX10_nest_115 {Γ : Gx} {K : Kt} (hM : mLay K)  (rec_106 : Int → Int → Int → Sg → Option (Int × Sg)) (hrec_106 : ∀ (x1 x3 x4 : Int) (σ : Sg), Y Γ MX10_nest K (emIS K) K 106 [some (aR 84), some (aI x1), none, some (aI x3), some (aI x4), none] [] σ (rec_106 x1 x3 x4 σ)) : ∀ (f : Nat) (x1 x3 x4 x5 : Int) (σ : Sg), Y Γ MX10_nest K (emIS K) K 115 [some (aR 84), some (aI x1), none, some (aI x3), some (aI x4), some (aI x5)] [] σ (vX10_nest_115 rec_106 f x1 x3 x4 x5 σ) := by
  intro f
  induction f with
  | zero => intro x1 x3 x4 x5 σ; exact y_none
  | succ f ih =>
    intro x1 x3 x4 x5 σ
    rw [vX10_nest_115]
    refine y_aload_n dX10_nest_115 rfl rfl ?_
    refine y_iload_n dX10_nest_116 rfl rfl ?_
    refine y_iload dX10_nest_117 rfl ?_
    refine y_cvI (qX10_isInside hM x3 x5 σ) kX10_497 rfl hM.1 rfl (by decide) rfl (Nat.le_of_ble_eq_true rfl) dX10_nest_119 (fun r1 => ?_)
    refine y_ite (fun h2 => ?_) (fun h2 => ?_)
    · refine y_if_eq_t dX10_nest_122 (t := 143) rfl h2 ?_
      refine yk_iinc dX10_nest_143 rfl (L' := [some (aR 84), some (aI x1), none, some (aI x3), some (aI x4), some (aI (x5 + 1))]) rfl ?_
      refine y_goto dX10_nest_146 (t := 115) rfl ?_
      exact ih x1 x3 x4 (x5 + 1) σ
    · refine y_if_eq_f dX10_nest_122 (t := 143) rfl h2 ?_
      refine y_aload_n dX10_nest_125 rfl rfl ?_
      refine y_getR fX10_125 hM.1 rfl (lM_46 hM).1 dX10_nest_126 ?_
      refine y_iload dX10_nest_129 rfl ?_
      refine yk_iaload (lM_46 hM).2 (N := 8) rfl (j := x5.toNat) rfl dX10_nest_131 ?_
      refine y_aload_n dX10_nest_132 rfl rfl ?_
      refine y_getR fX10_125 hM.1 rfl (lM_46 hM).1 dX10_nest_133 ?_
      refine y_iload_n dX10_nest_136 rfl rfl ?_
      refine yk_iaload (lM_46 hM).2 (N := 8) rfl (j := x3.toNat) rfl dX10_nest_137 ?_
      refine y_iconst dX10_nest_138 (by decide) ?_
      refine yk_isub dX10_nest_139 ?_
      refine y_ite (fun h3 => ?_) (fun h3 => ?_)
      · refine y_icmp_eq_t dX10_nest_140 (t := 149) rfl h3 ?_
        refine y_iload dX10_nest_149 rfl ?_
        refine y_istore_n dX10_nest_151 rfl (Nat.le_of_ble_eq_true rfl) (L' := [some (aR 84), some (aI x1), none, some (aI x5), some (aI x4), some (aI x5)]) rfl ?_
        refine yk_iinc dX10_nest_152 rfl (L' := [some (aR 84), some (aI x1), none, some (aI x5), some (aI (x4 + 1)), some (aI x5)]) rfl ?_
        refine y_goto dX10_nest_155 (t := 106) rfl ?_
        refine y_fg [true, true, false, true, true, false] (L' := [some (aR 84), some (aI x1), none, some (aI x5), some (aI (x4 + 1)), none]) rfl ?_
        exact hrec_106 x1 x5 (x4 + 1) σ
      · refine y_icmp_eq_f dX10_nest_140 (t := 149) rfl h3 ?_
        refine yk_iinc dX10_nest_143 rfl (L' := [some (aR 84), some (aI x1), none, some (aI x3), some (aI x4), some (aI (x5 + 1))]) rfl ?_
        refine y_goto dX10_nest_146 (t := 115) rfl ?_
        exact ih x1 x3 x4 (x5 + 1) σ
noncomputable def vX10_nest_106 : Nat → Int → Int → Int → Sg → Option (Int × Sg)
  | 0, _, _, _, _ => none
  | f + 1, x1, x3, x4, σ => if x4 < x1 then (vX10_nest_115 (vX10_nest_106 f) FU x1 x3 x4 0 σ) else (some (x3, σ))
set_option maxRecDepth 100000 in
theorem tX10_nest_106 {Γ : Gx} {K : Kt} (hM : mLay K)  : ∀ (f : Nat) (x1 x3 x4 : Int) (σ : Sg), Y Γ MX10_nest K (emIS K) K 106 [some (aR 84), some (aI x1), none, some (aI x3), some (aI x4), none] [] σ (vX10_nest_106 f x1 x3 x4 σ) := by
  intro f
  induction f with
  | zero => intro x1 x3 x4 σ; exact y_none
  | succ f ih =>
    intro x1 x3 x4 σ
    rw [vX10_nest_106]
    refine y_iload dX10_nest_106 rfl ?_
    refine y_iload_n dX10_nest_108 rfl rfl ?_
    refine y_ite (fun h1 => ?_) (fun h1 => ?_)
    · refine y_icmp_ge_f dX10_nest_109 (t := 158) rfl h1 ?_
      refine y_iconst dX10_nest_112 (by decide) ?_
      refine y_istore dX10_nest_113 (Nat.le_of_ble_eq_true rfl) (L' := [some (aR 84), some (aI x1), none, some (aI x3), some (aI x4), some (aI 0)]) rfl ?_
      exact tX10_nest_115 hM (vX10_nest_106 f) ih FU x1 x3 x4 0 σ
    · refine y_icmp_ge_t dX10_nest_109 (t := 158) rfl h1 ?_
      refine y_iload_n dX10_nest_158 rfl rfl ?_
      exact y_iret rfl rfl dX10_nest_159
noncomputable def vX10_nest_16 : Nat → Int → Int → Int → Int → Sg → Option (Int × Sg)
  | 0, _, _, _, _, _ => none
  | f + 1, x1, x2, x3, x4, σ => if x4 < (σ 86 0) then (ck (0 ≤ x4 ∧ x4 < 8) (if x2 < (σ 110 x4.toNat) then (vX10_nest_44 (vX10_nest_16 f) x1 x2 x4 x4 σ) else (vX10_nest_44 (vX10_nest_16 f) x1 x2 x4 x3 σ))) else (if x1 = (-1) then (vX10_nest_92 x1 x2 σ) else (ck (in64 (x2 - 1)) ((vX10_in x1 0 (x2 - 1) σ).bind (fun r4 => if r4 = 0 then (vX10_nest_92 x1 x2 σ) else (vX10_nest_106 FU x1 x3 0 σ)))))
set_option maxRecDepth 100000 in
theorem tX10_nest_16 {Γ : Gx} {K : Kt} (hM : mLay K)  : ∀ (f : Nat) (x1 x2 x3 x4 : Int) (σ : Sg), Y Γ MX10_nest K (emIS K) K 16 [some (aR 84), some (aI x1), some (aI x2), some (aI x3), some (aI x4), none] [] σ (vX10_nest_16 f x1 x2 x3 x4 σ) := by
  intro f
  induction f with
  | zero => intro x1 x2 x3 x4 σ; exact y_none
  | succ f ih =>
    intro x1 x2 x3 x4 σ
    rw [vX10_nest_16]
    refine y_iload dX10_nest_16 rfl ?_
    refine y_aload_n dX10_nest_18 rfl rfl ?_
    refine y_getR fX10_13 hM.1 rfl (lM_3 hM).1 dX10_nest_19 ?_
    refine y_iconst dX10_nest_22 (by decide) ?_
    refine yl_iaload (lM_3 hM).2 (by decide) (j := 0) rfl dX10_nest_23 ?_
    refine y_ite (fun h1 => ?_) (fun h1 => ?_)
    · refine y_icmp_ge_f dX10_nest_24 (t := 74) rfl h1 ?_
      refine y_aload_n dX10_nest_27 rfl rfl ?_
      refine y_getR fX10_125 hM.1 rfl (lM_46 hM).1 dX10_nest_28 ?_
      refine y_iload dX10_nest_31 rfl ?_
      refine yk_iaload (lM_46 hM).2 (N := 8) rfl (j := x4.toNat) rfl dX10_nest_33 ?_
      refine y_iload_n dX10_nest_34 rfl rfl ?_
      refine y_ite (fun h2 => ?_) (fun h2 => ?_)
      · refine y_icmp_le_f dX10_nest_35 (t := 43) rfl h2 ?_
        refine y_iload dX10_nest_38 rfl ?_
        refine y_goto dX10_nest_40 (t := 44) rfl ?_
        refine y_fg [true, true, true, false, true, false] (L' := [some (aR 84), some (aI x1), some (aI x2), none, some (aI x4), none]) rfl ?_
        exact tX10_nest_44 hM (vX10_nest_16 f) ih x1 x2 x4 x4 σ
      · refine y_icmp_le_t dX10_nest_35 (t := 43) rfl h2 ?_
        refine y_iload_n dX10_nest_43 rfl rfl ?_
        refine y_fg [true, true, true, false, true, false] (L' := [some (aR 84), some (aI x1), some (aI x2), none, some (aI x4), none]) rfl ?_
        exact tX10_nest_44 hM (vX10_nest_16 f) ih x1 x2 x4 x3 σ
    · refine y_icmp_ge_t dX10_nest_24 (t := 74) rfl h1 ?_
      refine y_iload_n dX10_nest_74 rfl rfl ?_
      refine y_iconst dX10_nest_75 (by decide) ?_
      refine y_ite (fun h3 => ?_) (fun h3 => ?_)
      · refine y_icmp_eq_t dX10_nest_76 (t := 92) rfl h3 ?_
        refine y_fg [false, true, true, false, false, false] (L' := [none, some (aI x1), some (aI x2), none, none, none]) rfl ?_
        exact tX10_nest_92 hM x1 x2 σ
      · refine y_icmp_eq_f dX10_nest_76 (t := 92) rfl h3 ?_
        refine y_iload_n dX10_nest_79 rfl rfl ?_
        refine y_i2l dX10_nest_80 ?_
        refine y_lconst 0 dX10_nest_81 (by decide) (by decide) ?_
        refine y_iload_n dX10_nest_82 rfl rfl ?_
        refine y_i2l dX10_nest_83 ?_
        refine y_lconst 1 dX10_nest_84 (by decide) (by decide) ?_
        refine yk_lsub dX10_nest_85 ?_
        refine y_csI (qX10_in (K := K) x1 0 (x2 - 1) σ) kX10_177 rfl (by decide) rfl (Nat.le_of_ble_eq_true rfl) dX10_nest_86 (fun r4 => ?_)
        refine y_ite (fun h5 => ?_) (fun h5 => ?_)
        · refine y_if_ne_f dX10_nest_89 (t := 103) rfl h5 ?_
          refine y_fg [false, true, true, false, false, false] (L' := [none, some (aI x1), some (aI x2), none, none, none]) rfl ?_
          exact tX10_nest_92 hM x1 x2 σ
        · refine y_if_ne_t dX10_nest_89 (t := 103) rfl h5 ?_
          refine y_iconst dX10_nest_103 (by decide) ?_
          refine y_istore dX10_nest_104 (Nat.le_of_ble_eq_true rfl) (L' := [some (aR 84), some (aI x1), some (aI x2), some (aI x3), some (aI 0), none]) rfl ?_
          refine y_fg [true, true, false, true, true, false] (L' := [some (aR 84), some (aI x1), none, some (aI x3), some (aI 0), none]) rfl ?_
          exact tX10_nest_106 hM FU x1 x3 0 σ
noncomputable def vX10_nest (p1 : Int) (σ : Sg) : Option (Int × Sg) := nm (up2 σ 84 0 0) (fun σ1 => (vX10_layNests σ1).bind (fun σ2 => vX10_nest_16 FU p1 0 (-1) 0 σ2))
set_option maxRecDepth 100000 in
theorem tX10_nest {Γ : Gx} {K : Kt} (hM : mLay K) (p1 : Int) (σ : Sg) : Y Γ MX10_nest K (emIS K) K 0 [some (aR 84), some (aI p1), none, none, none, none] [] σ (vX10_nest p1 σ) := by
  unfold vX10_nest
  refine y_aload_n dX10_nest_0 rfl rfl ?_
  refine y_iconst dX10_nest_1 (by decide) ?_
  refine yn_putI fX10_157 hM.1 rfl rfl dX10_nest_2 (fun σ1 => ?_)
  refine y_aload_n dX10_nest_5 rfl rfl ?_
  refine y_cvV (qX10_layNests hM σ1) kX10_500 rfl hM.1 rfl (by decide) rfl (Nat.le_of_ble_eq_true rfl) dX10_nest_6 (fun σ2 => ?_)
  refine y_iconst dX10_nest_9 (by decide) ?_
  refine y_istore_n dX10_nest_10 rfl (Nat.le_of_ble_eq_true rfl) (L' := [some (aR 84), some (aI p1), some (aI 0), none, none, none]) rfl ?_
  refine y_iconst dX10_nest_11 (by decide) ?_
  refine y_istore_n dX10_nest_12 rfl (Nat.le_of_ble_eq_true rfl) (L' := [some (aR 84), some (aI p1), some (aI 0), some (aI (-1)), none, none]) rfl ?_
  refine y_iconst dX10_nest_13 (by decide) ?_
  refine y_istore dX10_nest_14 (Nat.le_of_ble_eq_true rfl) (L' := [some (aR 84), some (aI p1), some (aI 0), some (aI (-1)), some (aI 0), none]) rfl ?_
  exact tX10_nest_16 hM FU p1 0 (-1) 0 σ2
theorem qX10_nest {K : Kt} (hM : mLay K) (p1 : Int) (σ : Sg) : Cc MX10_nest K [aR 84, aI p1] σ (emIS K) (vX10_nest p1 σ) := cc_of plX10 (Nat.le_of_ble_eq_true rfl) (fun o _ => ⟨Nat.le_refl _, Nat.le_refl _⟩) (fun Γ => tX10_nest hM p1 σ)
noncomputable def vX10_fittedBy_17 (σ : Sg) (rec_4 : Int → Int → Int → Option (Int)) : Nat → Int → Int → Int → Int → Option (Int)
  | 0, _, _, _, _ => none
  | f + 1, x1, x2, x3, x4 => if x4 < (σ 86 0) then ((vX10_is x1 x3 σ).bind (fun r2 => if r2 = 0 then (nm (bOr x2 0) (fun z4 => ck (in32 (x4 + 1)) (vX10_fittedBy_17 σ rec_4 f x1 z4 x3 (x4 + 1)))) else ((vX10_isFitting x4 x3 σ).bind (fun r5 => if r5 = 0 then (nm (bOr x2 0) (fun z7 => ck (in32 (x4 + 1)) (vX10_fittedBy_17 σ rec_4 f x1 z7 x3 (x4 + 1)))) else (nm (bOr x2 (bShl 1 x4)) (fun z8 => ck (in32 (x4 + 1)) (vX10_fittedBy_17 σ rec_4 f x1 z8 x3 (x4 + 1)))))))) else (ck (in32 (x3 + 1)) (rec_4 x1 x2 (x3 + 1)))
set_option maxRecDepth 100000 in
theorem tX10_fittedBy_17 {Γ : Gx} {K : Kt} (hM : mLay K) (σ : Sg)  (rec_4 : Int → Int → Int → Option (Int)) (hrec_4 : ∀ (x1 x2 x3 : Int), Y Γ MX10_fittedBy K (emI K σ) K 4 [some (aR 84), some (aI x1), some (aI x2), some (aI x3), none] [] σ (rec_4 x1 x2 x3)) : ∀ (f : Nat) (x1 x2 x3 x4 : Int), Y Γ MX10_fittedBy K (emI K σ) K 17 [some (aR 84), some (aI x1), some (aI x2), some (aI x3), some (aI x4)] [] σ (vX10_fittedBy_17 σ rec_4 f x1 x2 x3 x4) := by
  intro f
  induction f with
  | zero => intro x1 x2 x3 x4; exact y_none
  | succ f ih =>
    intro x1 x2 x3 x4
    rw [vX10_fittedBy_17]
    refine y_iload dX10_fittedBy_17 rfl ?_
    refine y_aload_n dX10_fittedBy_19 rfl rfl ?_
    refine y_getR fX10_13 hM.1 rfl (lM_3 hM).1 dX10_fittedBy_20 ?_
    refine y_iconst dX10_fittedBy_23 (by decide) ?_
    refine yl_iaload (lM_3 hM).2 (by decide) (j := 0) rfl dX10_fittedBy_24 ?_
    refine y_ite (fun h1 => ?_) (fun h1 => ?_)
    · refine y_icmp_ge_f dX10_fittedBy_25 (t := 63) rfl h1 ?_
      refine y_iload_n dX10_fittedBy_28 rfl rfl ?_
      refine y_iload_n dX10_fittedBy_29 rfl rfl ?_
      refine y_iload_n dX10_fittedBy_30 rfl rfl ?_
      refine y_csI (qX10_is (K := K) x1 x3 σ) kX10_485 rfl (by decide) rfl (Nat.le_of_ble_eq_true rfl) dX10_fittedBy_31 (fun r2 => ?_)
      refine y_ite (fun h3 => ?_) (fun h3 => ?_)
      · refine y_if_eq_t dX10_fittedBy_34 (t := 54) rfl h3 ?_
        refine y_iconst dX10_fittedBy_54 (by decide) ?_
        refine y_ior dX10_fittedBy_55 ?_
        refine yn_istore_n dX10_fittedBy_56 rfl (Nat.le_of_ble_eq_true rfl) (L' := fun z4 => [some (aR 84), some (aI x1), some (aI z4), some (aI x3), some (aI x4)]) (fun _ => rfl) (fun z4 => ?_)
        refine yk_iinc dX10_fittedBy_57 rfl (L' := [some (aR 84), some (aI x1), some (aI z4), some (aI x3), some (aI (x4 + 1))]) rfl ?_
        refine y_goto dX10_fittedBy_60 (t := 17) rfl ?_
        exact ih x1 z4 x3 (x4 + 1)
      · refine y_if_eq_f dX10_fittedBy_34 (t := 54) rfl h3 ?_
        refine y_aload_n dX10_fittedBy_37 rfl rfl ?_
        refine y_iload dX10_fittedBy_38 rfl ?_
        refine y_iload_n dX10_fittedBy_40 rfl rfl ?_
        refine y_cvI (qX10_isFitting hM x4 x3 σ) kX10_421 rfl hM.1 rfl (by decide) rfl (Nat.le_of_ble_eq_true rfl) dX10_fittedBy_41 (fun r5 => ?_)
        refine y_ite (fun h6 => ?_) (fun h6 => ?_)
        · refine y_if_eq_t dX10_fittedBy_44 (t := 54) rfl h6 ?_
          refine y_iconst dX10_fittedBy_54 (by decide) ?_
          refine y_ior dX10_fittedBy_55 ?_
          refine yn_istore_n dX10_fittedBy_56 rfl (Nat.le_of_ble_eq_true rfl) (L' := fun z7 => [some (aR 84), some (aI x1), some (aI z7), some (aI x3), some (aI x4)]) (fun _ => rfl) (fun z7 => ?_)
          refine yk_iinc dX10_fittedBy_57 rfl (L' := [some (aR 84), some (aI x1), some (aI z7), some (aI x3), some (aI (x4 + 1))]) rfl ?_
          refine y_goto dX10_fittedBy_60 (t := 17) rfl ?_
          exact ih x1 z7 x3 (x4 + 1)
        · refine y_if_eq_f dX10_fittedBy_44 (t := 54) rfl h6 ?_
          refine y_iconst dX10_fittedBy_47 (by decide) ?_
          refine y_iload dX10_fittedBy_48 rfl ?_
          refine y_ishl dX10_fittedBy_50 ?_
          refine y_goto dX10_fittedBy_51 (t := 55) rfl ?_
          refine y_ior dX10_fittedBy_55 ?_
          refine yn_istore_n dX10_fittedBy_56 rfl (Nat.le_of_ble_eq_true rfl) (L' := fun z8 => [some (aR 84), some (aI x1), some (aI z8), some (aI x3), some (aI x4)]) (fun _ => rfl) (fun z8 => ?_)
          refine yk_iinc dX10_fittedBy_57 rfl (L' := [some (aR 84), some (aI x1), some (aI z8), some (aI x3), some (aI (x4 + 1))]) rfl ?_
          refine y_goto dX10_fittedBy_60 (t := 17) rfl ?_
          exact ih x1 z8 x3 (x4 + 1)
    · refine y_icmp_ge_t dX10_fittedBy_25 (t := 63) rfl h1 ?_
      refine yk_iinc dX10_fittedBy_63 rfl (L' := [some (aR 84), some (aI x1), some (aI x2), some (aI (x3 + 1)), some (aI x4)]) rfl ?_
      refine y_goto dX10_fittedBy_66 (t := 4) rfl ?_
      refine y_fg [true, true, true, true, false] (L' := [some (aR 84), some (aI x1), some (aI x2), some (aI (x3 + 1)), none]) rfl ?_
      exact hrec_4 x1 x2 (x3 + 1)
noncomputable def vX10_fittedBy_4 (σ : Sg) : Nat → Int → Int → Int → Option (Int)
  | 0, _, _, _ => none
  | f + 1, x1, x2, x3 => if x3 < (σ 86 1) then (vX10_fittedBy_17 σ (vX10_fittedBy_4 σ f) FU x1 x2 x3 0) else (some x2)
set_option maxRecDepth 100000 in
theorem tX10_fittedBy_4 {Γ : Gx} {K : Kt} (hM : mLay K) (σ : Sg)  : ∀ (f : Nat) (x1 x2 x3 : Int), Y Γ MX10_fittedBy K (emI K σ) K 4 [some (aR 84), some (aI x1), some (aI x2), some (aI x3), none] [] σ (vX10_fittedBy_4 σ f x1 x2 x3) := by
  intro f
  induction f with
  | zero => intro x1 x2 x3; exact y_none
  | succ f ih =>
    intro x1 x2 x3
    rw [vX10_fittedBy_4]
    refine y_iload_n dX10_fittedBy_4 rfl rfl ?_
    refine y_aload_n dX10_fittedBy_5 rfl rfl ?_
    refine y_getR fX10_13 hM.1 rfl (lM_3 hM).1 dX10_fittedBy_6 ?_
    refine y_iconst dX10_fittedBy_9 (by decide) ?_
    refine yl_iaload (lM_3 hM).2 (by decide) (j := 1) rfl dX10_fittedBy_10 ?_
    refine y_ite (fun h1 => ?_) (fun h1 => ?_)
    · refine y_icmp_ge_f dX10_fittedBy_11 (t := 69) rfl h1 ?_
      refine y_iconst dX10_fittedBy_14 (by decide) ?_
      refine y_istore dX10_fittedBy_15 (Nat.le_of_ble_eq_true rfl) (L' := [some (aR 84), some (aI x1), some (aI x2), some (aI x3), some (aI 0)]) rfl ?_
      exact tX10_fittedBy_17 hM σ (vX10_fittedBy_4 σ f) ih FU x1 x2 x3 0
    · refine y_icmp_ge_t dX10_fittedBy_11 (t := 69) rfl h1 ?_
      refine y_iload_n dX10_fittedBy_69 rfl rfl ?_
      exact y_iret rfl rfl dX10_fittedBy_70
noncomputable def vX10_fittedBy (p1 : Int) (σ : Sg) : Option (Int) := vX10_fittedBy_4 σ FU p1 0 0
set_option maxRecDepth 100000 in
theorem tX10_fittedBy {Γ : Gx} {K : Kt} (hM : mLay K) (p1 : Int) (σ : Sg) : Y Γ MX10_fittedBy K (emI K σ) K 0 [some (aR 84), some (aI p1), none, none, none] [] σ (vX10_fittedBy p1 σ) := by
  unfold vX10_fittedBy
  refine y_iconst dX10_fittedBy_0 (by decide) ?_
  refine y_istore_n dX10_fittedBy_1 rfl (Nat.le_of_ble_eq_true rfl) (L' := [some (aR 84), some (aI p1), some (aI 0), none, none]) rfl ?_
  refine y_iconst dX10_fittedBy_2 (by decide) ?_
  refine y_istore_n dX10_fittedBy_3 rfl (Nat.le_of_ble_eq_true rfl) (L' := [some (aR 84), some (aI p1), some (aI 0), some (aI 0), none]) rfl ?_
  exact tX10_fittedBy_4 hM σ FU p1 0 0
theorem qX10_fittedBy {K : Kt} (hM : mLay K) (p1 : Int) (σ : Sg) : Cc MX10_fittedBy K [aR 84, aI p1] σ (emI K σ) (vX10_fittedBy p1 σ) := cc_of plX10 (Nat.le_of_ble_eq_true rfl) (fun o _ => ⟨Nat.le_refl _, Nat.le_refl _⟩) (fun Γ => tX10_fittedBy hM p1 σ)
noncomputable def vX10_all_86 (rec_38 : Int → Int → Int → Int → Int → Sg → Option (Int × Sg)) (x1 x2 x3 x5 x6 y0 : Int) (σ : Sg) : Option (Int × Sg) := if x6 = 0 then (ck (in32 (x5 + 1)) (rec_38 x1 x2 x3 y0 (x5 + 1) σ)) else ((vX10_ones x5 σ).bind (fun r2 => ck (in32 (x5 + 1)) (rec_38 x1 x2 r2 y0 (x5 + 1) σ)))
set_option maxRecDepth 100000 in
theorem tX10_all_86 {Γ : Gx} {K : Kt} (hM : mLay K)  (rec_38 : Int → Int → Int → Int → Int → Sg → Option (Int × Sg)) (hrec_38 : ∀ (x1 x2 x3 x4 x5 : Int) (σ : Sg), Y Γ MX10_all K (emIS K) K 38 [some (aR 84), some (aI x1), some (aI x2), some (aI x3), some (aI x4), some (aI x5), none] [] σ (rec_38 x1 x2 x3 x4 x5 σ)) (x1 x2 x3 x5 x6 y0 : Int) (σ : Sg) : Y Γ MX10_all K (emIS K) K 86 [some (aR 84), some (aI x1), some (aI x2), some (aI x3), none, some (aI x5), some (aI x6)] [aI y0] σ (vX10_all_86 rec_38 x1 x2 x3 x5 x6 y0 σ) := by
  unfold vX10_all_86
  refine y_istore dX10_all_86 (Nat.le_of_ble_eq_true rfl) (L' := [some (aR 84), some (aI x1), some (aI x2), some (aI x3), some (aI y0), some (aI x5), some (aI x6)]) rfl ?_
  refine y_iload dX10_all_88 rfl ?_
  refine y_ite (fun h1 => ?_) (fun h1 => ?_)
  · refine y_if_eq_t dX10_all_90 (t := 101) rfl h1 ?_
    refine y_iload_n dX10_all_101 rfl rfl ?_
    refine y_istore_n dX10_all_102 rfl (Nat.le_of_ble_eq_true rfl) (L' := [some (aR 84), some (aI x1), some (aI x2), some (aI x3), some (aI y0), some (aI x5), some (aI x6)]) rfl ?_
    refine yk_iinc dX10_all_103 rfl (L' := [some (aR 84), some (aI x1), some (aI x2), some (aI x3), some (aI y0), some (aI (x5 + 1)), some (aI x6)]) rfl ?_
    refine y_goto dX10_all_106 (t := 38) rfl ?_
    refine y_fg [true, true, true, true, true, true, false] (L' := [some (aR 84), some (aI x1), some (aI x2), some (aI x3), some (aI y0), some (aI (x5 + 1)), none]) rfl ?_
    exact hrec_38 x1 x2 x3 y0 (x5 + 1) σ
  · refine y_if_eq_f dX10_all_90 (t := 101) rfl h1 ?_
    refine y_iload dX10_all_93 rfl ?_
    refine y_csI (qX10_ones (K := K) x5 σ) kX10_503 rfl (by decide) rfl (Nat.le_of_ble_eq_true rfl) dX10_all_95 (fun r2 => ?_)
    refine y_goto dX10_all_98 (t := 102) rfl ?_
    refine y_istore_n dX10_all_102 rfl (Nat.le_of_ble_eq_true rfl) (L' := [some (aR 84), some (aI x1), some (aI x2), some (aI r2), some (aI y0), some (aI x5), some (aI x6)]) rfl ?_
    refine yk_iinc dX10_all_103 rfl (L' := [some (aR 84), some (aI x1), some (aI x2), some (aI r2), some (aI y0), some (aI (x5 + 1)), some (aI x6)]) rfl ?_
    refine y_goto dX10_all_106 (t := 38) rfl ?_
    refine y_fg [true, true, true, true, true, true, false] (L' := [some (aR 84), some (aI x1), some (aI x2), some (aI r2), some (aI y0), some (aI (x5 + 1)), none]) rfl ?_
    exact hrec_38 x1 x2 r2 y0 (x5 + 1) σ
noncomputable def vX10_all_72 (rec_38 : Int → Int → Int → Int → Int → Sg → Option (Int × Sg)) (x1 x2 x3 x4 x5 y0 : Int) (σ : Sg) : Option (Int × Sg) := if y0 = 0 then (vX10_all_86 rec_38 x1 x2 x3 x5 y0 x4 σ) else (vX10_all_86 rec_38 x1 x2 x3 x5 y0 x5 σ)
set_option maxRecDepth 100000 in
theorem tX10_all_72 {Γ : Gx} {K : Kt} (hM : mLay K)  (rec_38 : Int → Int → Int → Int → Int → Sg → Option (Int × Sg)) (hrec_38 : ∀ (x1 x2 x3 x4 x5 : Int) (σ : Sg), Y Γ MX10_all K (emIS K) K 38 [some (aR 84), some (aI x1), some (aI x2), some (aI x3), some (aI x4), some (aI x5), none] [] σ (rec_38 x1 x2 x3 x4 x5 σ)) (x1 x2 x3 x4 x5 y0 : Int) (σ : Sg) : Y Γ MX10_all K (emIS K) K 72 [some (aR 84), some (aI x1), some (aI x2), some (aI x3), some (aI x4), some (aI x5), none] [aI y0] σ (vX10_all_72 rec_38 x1 x2 x3 x4 x5 y0 σ) := by
  unfold vX10_all_72
  refine y_istore dX10_all_72 (Nat.le_of_ble_eq_true rfl) (L' := [some (aR 84), some (aI x1), some (aI x2), some (aI x3), some (aI x4), some (aI x5), some (aI y0)]) rfl ?_
  refine y_iload dX10_all_74 rfl ?_
  refine y_ite (fun h1 => ?_) (fun h1 => ?_)
  · refine y_if_eq_t dX10_all_76 (t := 84) rfl h1 ?_
    refine y_iload dX10_all_84 rfl ?_
    refine y_fg [true, true, true, true, false, true, true] (L' := [some (aR 84), some (aI x1), some (aI x2), some (aI x3), none, some (aI x5), some (aI y0)]) rfl ?_
    exact tX10_all_86 hM rec_38 hrec_38 x1 x2 x3 x5 y0 x4 σ
  · refine y_if_eq_f dX10_all_76 (t := 84) rfl h1 ?_
    refine y_iload dX10_all_79 rfl ?_
    refine y_goto dX10_all_81 (t := 86) rfl ?_
    refine y_fg [true, true, true, true, false, true, true] (L' := [some (aR 84), some (aI x1), some (aI x2), some (aI x3), none, some (aI x5), some (aI y0)]) rfl ?_
    exact tX10_all_86 hM rec_38 hrec_38 x1 x2 x3 x5 y0 x5 σ
noncomputable def vX10_all_71 (rec_38 : Int → Int → Int → Int → Int → Sg → Option (Int × Sg)) (x1 x2 x3 x4 x5 : Int) (σ : Sg) : Option (Int × Sg) := vX10_all_72 rec_38 x1 x2 x3 x4 x5 0 σ
set_option maxRecDepth 100000 in
theorem tX10_all_71 {Γ : Gx} {K : Kt} (hM : mLay K)  (rec_38 : Int → Int → Int → Int → Int → Sg → Option (Int × Sg)) (hrec_38 : ∀ (x1 x2 x3 x4 x5 : Int) (σ : Sg), Y Γ MX10_all K (emIS K) K 38 [some (aR 84), some (aI x1), some (aI x2), some (aI x3), some (aI x4), some (aI x5), none] [] σ (rec_38 x1 x2 x3 x4 x5 σ)) (x1 x2 x3 x4 x5 : Int) (σ : Sg) : Y Γ MX10_all K (emIS K) K 71 [some (aR 84), some (aI x1), some (aI x2), some (aI x3), some (aI x4), some (aI x5), none] [] σ (vX10_all_71 rec_38 x1 x2 x3 x4 x5 σ) := by
  unfold vX10_all_71
  refine y_iconst dX10_all_71 (by decide) ?_
  exact tX10_all_72 hM rec_38 hrec_38 x1 x2 x3 x4 x5 0 σ
noncomputable def vX10_all_38 : Nat → Int → Int → Int → Int → Int → Sg → Option (Int × Sg)
  | 0, _, _, _, _, _, _ => none
  | f + 1, x1, x2, x3, x4, x5, σ => if x2 < x5 then (if x1 = 0 then (some (x3, σ)) else (some (x4, σ))) else ((vX10_ones x5 σ).bind (fun r3 => if r3 < x3 then ((vX10_fittedBy x5 σ).bind (fun r5 => (vX10_fittedBy x2 σ).bind (fun r6 => if r5 = r6 then (vX10_all_72 (vX10_all_38 f) x1 x2 x3 x4 x5 1 σ) else (vX10_all_71 (vX10_all_38 f) x1 x2 x3 x4 x5 σ)))) else (vX10_all_71 (vX10_all_38 f) x1 x2 x3 x4 x5 σ)))
set_option maxRecDepth 100000 in
theorem tX10_all_38 {Γ : Gx} {K : Kt} (hM : mLay K)  : ∀ (f : Nat) (x1 x2 x3 x4 x5 : Int) (σ : Sg), Y Γ MX10_all K (emIS K) K 38 [some (aR 84), some (aI x1), some (aI x2), some (aI x3), some (aI x4), some (aI x5), none] [] σ (vX10_all_38 f x1 x2 x3 x4 x5 σ) := by
  intro f
  induction f with
  | zero => intro x1 x2 x3 x4 x5 σ; exact y_none
  | succ f ih =>
    intro x1 x2 x3 x4 x5 σ
    rw [vX10_all_38]
    refine y_iload dX10_all_38 rfl ?_
    refine y_iload_n dX10_all_40 rfl rfl ?_
    refine y_ite (fun h1 => ?_) (fun h1 => ?_)
    · refine y_icmp_gt_t dX10_all_41 (t := 109) rfl h1 ?_
      refine y_iload_n dX10_all_109 rfl rfl ?_
      refine y_ite (fun h2 => ?_) (fun h2 => ?_)
      · refine y_if_ne_f dX10_all_110 (t := 117) rfl h2 ?_
        refine y_iload_n dX10_all_113 rfl rfl ?_
        refine y_goto dX10_all_114 (t := 119) rfl ?_
        exact y_iret rfl rfl dX10_all_119
      · refine y_if_ne_t dX10_all_110 (t := 117) rfl h2 ?_
        refine y_iload dX10_all_117 rfl ?_
        exact y_iret rfl rfl dX10_all_119
    · refine y_icmp_gt_f dX10_all_41 (t := 109) rfl h1 ?_
      refine y_iload dX10_all_44 rfl ?_
      refine y_csI (qX10_ones (K := K) x5 σ) kX10_503 rfl (by decide) rfl (Nat.le_of_ble_eq_true rfl) dX10_all_46 (fun r3 => ?_)
      refine y_iload_n dX10_all_49 rfl rfl ?_
      refine y_ite (fun h4 => ?_) (fun h4 => ?_)
      · refine y_icmp_ge_f dX10_all_50 (t := 71) rfl h4 ?_
        refine y_aload_n dX10_all_53 rfl rfl ?_
        refine y_iload dX10_all_54 rfl ?_
        refine y_cvI (qX10_fittedBy hM x5 σ) kX10_506 rfl hM.1 rfl (by decide) rfl (Nat.le_of_ble_eq_true rfl) dX10_all_56 (fun r5 => ?_)
        refine y_aload_n dX10_all_59 rfl rfl ?_
        refine y_iload_n dX10_all_60 rfl rfl ?_
        refine y_cvI (qX10_fittedBy hM x2 σ) kX10_506 rfl hM.1 rfl (by decide) rfl (Nat.le_of_ble_eq_true rfl) dX10_all_61 (fun r6 => ?_)
        refine y_ite (fun h7 => ?_) (fun h7 => ?_)
        · refine y_icmp_ne_f dX10_all_64 (t := 71) rfl h7 ?_
          refine y_iconst dX10_all_67 (by decide) ?_
          refine y_goto dX10_all_68 (t := 72) rfl ?_
          exact tX10_all_72 hM (vX10_all_38 f) ih x1 x2 x3 x4 x5 1 σ
        · refine y_icmp_ne_t dX10_all_64 (t := 71) rfl h7 ?_
          exact tX10_all_71 hM (vX10_all_38 f) ih x1 x2 x3 x4 x5 σ
      · refine y_icmp_ge_t dX10_all_50 (t := 71) rfl h4 ?_
        exact tX10_all_71 hM (vX10_all_38 f) ih x1 x2 x3 x4 x5 σ
noncomputable def vX10_all (p1 : Int) (σ : Sg) : Option (Int × Sg) := nm (up2 σ 84 0 0) (fun σ1 => (vX10_in p1 0 1 σ1).bind (fun r2 => if r2 = 0 then (some ((-1), σ1)) else (ck (in32 ((bShl 1 (σ1 86 1)) - 1)) (nm ((bShl 1 (σ1 86 1)) - 1) (fun z4 => vX10_all_38 FU p1 z4 100000000 (-1) 0 σ1)))))
set_option maxRecDepth 100000 in
theorem tX10_all {Γ : Gx} {K : Kt} (hM : mLay K) (p1 : Int) (σ : Sg) : Y Γ MX10_all K (emIS K) K 0 [some (aR 84), some (aI p1), none, none, none, none, none] [] σ (vX10_all p1 σ) := by
  unfold vX10_all
  refine y_aload_n dX10_all_0 rfl rfl ?_
  refine y_iconst dX10_all_1 (by decide) ?_
  refine yn_putI fX10_157 hM.1 rfl rfl dX10_all_2 (fun σ1 => ?_)
  refine y_iload_n dX10_all_5 rfl rfl ?_
  refine y_i2l dX10_all_6 ?_
  refine y_lconst 0 dX10_all_7 (by decide) (by decide) ?_
  refine y_lconst 1 dX10_all_8 (by decide) (by decide) ?_
  refine y_csI (qX10_in (K := K) p1 0 1 σ1) kX10_177 rfl (by decide) rfl (Nat.le_of_ble_eq_true rfl) dX10_all_9 (fun r2 => ?_)
  refine y_ite (fun h3 => ?_) (fun h3 => ?_)
  · refine y_if_ne_f dX10_all_12 (t := 17) rfl h3 ?_
    refine y_iconst dX10_all_15 (by decide) ?_
    exact y_iret rfl rfl dX10_all_16
  · refine y_if_ne_t dX10_all_12 (t := 17) rfl h3 ?_
    refine y_iconst dX10_all_17 (by decide) ?_
    refine y_aload_n dX10_all_18 rfl rfl ?_
    refine y_getR fX10_13 hM.1 rfl (lM_3 hM).1 dX10_all_19 ?_
    refine y_iconst dX10_all_22 (by decide) ?_
    refine yl_iaload (lM_3 hM).2 (by decide) (j := 1) rfl dX10_all_23 ?_
    refine y_ishl dX10_all_24 ?_
    refine y_iconst dX10_all_25 (by decide) ?_
    refine yk_isub dX10_all_26 ?_
    refine yn_istore_n dX10_all_27 rfl (Nat.le_of_ble_eq_true rfl) (L' := fun z4 => [some (aR 84), some (aI p1), some (aI z4), none, none, none, none]) (fun _ => rfl) (fun z4 => ?_)
    refine y_ldcw 100000000 wX10_c478 dX10_all_28 (by decide) (by decide) ?_
    refine y_istore_n dX10_all_31 rfl (Nat.le_of_ble_eq_true rfl) (L' := [some (aR 84), some (aI p1), some (aI z4), some (aI 100000000), none, none, none]) rfl ?_
    refine y_iconst dX10_all_32 (by decide) ?_
    refine y_istore dX10_all_33 (Nat.le_of_ble_eq_true rfl) (L' := [some (aR 84), some (aI p1), some (aI z4), some (aI 100000000), some (aI (-1)), none, none]) rfl ?_
    refine y_iconst dX10_all_35 (by decide) ?_
    refine y_istore dX10_all_36 (Nat.le_of_ble_eq_true rfl) (L' := [some (aR 84), some (aI p1), some (aI z4), some (aI 100000000), some (aI (-1)), some (aI 0), none]) rfl ?_
    exact tX10_all_38 hM FU p1 z4 100000000 (-1) 0 σ1
theorem qX10_all {K : Kt} (hM : mLay K) (p1 : Int) (σ : Sg) : Cc MX10_all K [aR 84, aI p1] σ (emIS K) (vX10_all p1 σ) := cc_of plX10 (Nat.le_of_ble_eq_true rfl) (fun o _ => ⟨Nat.le_refl _, Nat.le_refl _⟩) (fun Γ => tX10_all hM p1 σ)
noncomputable def vX10_owed_34 : Nat → Int → Int → Int → Sg → Option (Int × Sg)
  | 0, _, _, _, _ => none
  | f + 1, x2, x3, x4, σ => if x4 < (σ 86 1) then (ck (in32 (29 + x4)) (ck (0 ≤ (29 + x4) ∧ (29 + x4) < 5505) (if (σ 86 (29 + x4).toNat) = (-1) then (ck (in32 (x3 + 0)) (nm (x3 + 0) (fun z3 => ck (in32 (x4 + 1)) (vX10_owed_34 f x2 z3 (x4 + 1) σ)))) else (bd2 (vX10_dueOf x4 σ) (fun r4 σ5 => ck (in32 (x3 + r4)) (nm (x3 + r4) (fun z6 => ck (in32 (x4 + 1)) (vX10_owed_34 f x2 z6 (x4 + 1) σ5)))))))) else (nm (up2 σ 86 3 x2) (fun σ7 => some (x3, σ7)))
set_option maxRecDepth 100000 in
theorem tX10_owed_34 {Γ : Gx} {K : Kt} (hM : mLay K)  : ∀ (f : Nat) (x2 x3 x4 : Int) (σ : Sg), Y Γ MX10_owed K (emIS K) K 34 [some (aR 84), none, some (aI x2), some (aI x3), some (aI x4)] [] σ (vX10_owed_34 f x2 x3 x4 σ) := by
  intro f
  induction f with
  | zero => intro x2 x3 x4 σ; exact y_none
  | succ f ih =>
    intro x2 x3 x4 σ
    rw [vX10_owed_34]
    refine y_iload dX10_owed_34 rfl ?_
    refine y_aload_n dX10_owed_36 rfl rfl ?_
    refine y_getR fX10_13 hM.1 rfl (lM_3 hM).1 dX10_owed_37 ?_
    refine y_iconst dX10_owed_40 (by decide) ?_
    refine yl_iaload (lM_3 hM).2 (by decide) (j := 1) rfl dX10_owed_41 ?_
    refine y_ite (fun h1 => ?_) (fun h1 => ?_)
    · refine y_icmp_ge_f dX10_owed_42 (t := 78) rfl h1 ?_
      refine y_iload_n dX10_owed_45 rfl rfl ?_
      refine y_aload_n dX10_owed_46 rfl rfl ?_
      refine y_getR fX10_13 hM.1 rfl (lM_3 hM).1 dX10_owed_47 ?_
      refine y_bipush dX10_owed_50 (by decide) (by decide) ?_
      refine y_iload dX10_owed_52 rfl ?_
      refine yk_iadd dX10_owed_54 ?_
      refine yk_iaload (lM_3 hM).2 (N := 5505) rfl (j := (29 + x4).toNat) rfl dX10_owed_55 ?_
      refine y_iconst dX10_owed_56 (by decide) ?_
      refine y_ite (fun h2 => ?_) (fun h2 => ?_)
      · refine y_icmp_ne_f dX10_owed_57 (t := 64) rfl h2 ?_
        refine y_iconst dX10_owed_60 (by decide) ?_
        refine y_goto dX10_owed_61 (t := 70) rfl ?_
        refine yk_iadd dX10_owed_70 ?_
        refine yn_istore_n dX10_owed_71 rfl (Nat.le_of_ble_eq_true rfl) (L' := fun z3 => [some (aR 84), none, some (aI x2), some (aI z3), some (aI x4)]) (fun _ => rfl) (fun z3 => ?_)
        refine yk_iinc dX10_owed_72 rfl (L' := [some (aR 84), none, some (aI x2), some (aI z3), some (aI (x4 + 1))]) rfl ?_
        refine y_goto dX10_owed_75 (t := 34) rfl ?_
        exact ih x2 z3 (x4 + 1) σ
      · refine y_icmp_ne_t dX10_owed_57 (t := 64) rfl h2 ?_
        refine y_aload_n dX10_owed_64 rfl rfl ?_
        refine y_iload dX10_owed_65 rfl ?_
        refine y_cvIS (qX10_dueOf hM x4 σ) kX10_439 rfl hM.1 rfl (by decide) rfl (Nat.le_of_ble_eq_true rfl) dX10_owed_67 (fun r4 σ5 => ?_)
        refine yk_iadd dX10_owed_70 ?_
        refine yn_istore_n dX10_owed_71 rfl (Nat.le_of_ble_eq_true rfl) (L' := fun z6 => [some (aR 84), none, some (aI x2), some (aI z6), some (aI x4)]) (fun _ => rfl) (fun z6 => ?_)
        refine yk_iinc dX10_owed_72 rfl (L' := [some (aR 84), none, some (aI x2), some (aI z6), some (aI (x4 + 1))]) rfl ?_
        refine y_goto dX10_owed_75 (t := 34) rfl ?_
        exact ih x2 z6 (x4 + 1) σ5
    · refine y_icmp_ge_t dX10_owed_42 (t := 78) rfl h1 ?_
      refine y_aload_n dX10_owed_78 rfl rfl ?_
      refine y_getR fX10_13 hM.1 rfl (lM_3 hM).1 dX10_owed_79 ?_
      refine y_iconst dX10_owed_82 (by decide) ?_
      refine y_iload_n dX10_owed_83 rfl rfl ?_
      refine yl_iastore (lM_3 hM).2 (by decide) (j := 3) rfl dX10_owed_84 (fun σ7 => ?_)
      refine y_iload_n dX10_owed_85 rfl rfl ?_
      exact y_iret rfl rfl dX10_owed_86
noncomputable def vX10_owed (p1 : Int) (σ : Sg) : Option (Int × Sg) := nm (up2 σ 84 0 0) (fun σ1 => (vX10_isLaw p1 σ1).bind (fun r2 => if r2 = 0 then (some ((-1), σ1)) else (nm (σ1 86 3) (fun z4 => nm (up2 σ1 86 3 p1) (fun σ5 => vX10_owed_34 FU z4 0 0 σ5)))))
set_option maxRecDepth 100000 in
theorem tX10_owed {Γ : Gx} {K : Kt} (hM : mLay K) (p1 : Int) (σ : Sg) : Y Γ MX10_owed K (emIS K) K 0 [some (aR 84), some (aI p1), none, none, none] [] σ (vX10_owed p1 σ) := by
  unfold vX10_owed
  refine y_aload_n dX10_owed_0 rfl rfl ?_
  refine y_iconst dX10_owed_1 (by decide) ?_
  refine yn_putI fX10_157 hM.1 rfl rfl dX10_owed_2 (fun σ1 => ?_)
  refine y_aload_n dX10_owed_5 rfl rfl ?_
  refine y_iload_n dX10_owed_6 rfl rfl ?_
  refine y_cvI (qX10_isLaw hM p1 σ1) kX10_372 rfl hM.1 rfl (by decide) rfl (Nat.le_of_ble_eq_true rfl) dX10_owed_7 (fun r2 => ?_)
  refine y_ite (fun h3 => ?_) (fun h3 => ?_)
  · refine y_if_ne_f dX10_owed_10 (t := 15) rfl h3 ?_
    refine y_iconst dX10_owed_13 (by decide) ?_
    exact y_iret rfl rfl dX10_owed_14
  · refine y_if_ne_t dX10_owed_10 (t := 15) rfl h3 ?_
    refine y_aload_n dX10_owed_15 rfl rfl ?_
    refine y_getR fX10_13 hM.1 rfl (lM_3 hM).1 dX10_owed_16 ?_
    refine y_iconst dX10_owed_19 (by decide) ?_
    refine yl_iaload (lM_3 hM).2 (by decide) (j := 3) rfl dX10_owed_20 ?_
    refine yn_istore_n dX10_owed_21 rfl (Nat.le_of_ble_eq_true rfl) (L' := fun z4 => [some (aR 84), some (aI p1), some (aI z4), none, none]) (fun _ => rfl) (fun z4 => ?_)
    refine y_aload_n dX10_owed_22 rfl rfl ?_
    refine y_getR fX10_13 hM.1 rfl (lM_3 hM).1 dX10_owed_23 ?_
    refine y_iconst dX10_owed_26 (by decide) ?_
    refine y_iload_n dX10_owed_27 rfl rfl ?_
    refine yl_iastore (lM_3 hM).2 (by decide) (j := 3) rfl dX10_owed_28 (fun σ5 => ?_)
    refine y_iconst dX10_owed_29 (by decide) ?_
    refine y_istore_n dX10_owed_30 rfl (Nat.le_of_ble_eq_true rfl) (L' := [some (aR 84), some (aI p1), some (aI z4), some (aI 0), none]) rfl ?_
    refine y_iconst dX10_owed_31 (by decide) ?_
    refine y_istore dX10_owed_32 (Nat.le_of_ble_eq_true rfl) (L' := [some (aR 84), some (aI p1), some (aI z4), some (aI 0), some (aI 0)]) rfl ?_
    refine y_fg [true, false, true, true, true] (L' := [some (aR 84), none, some (aI z4), some (aI 0), some (aI 0)]) rfl ?_
    exact tX10_owed_34 hM FU z4 0 0 σ5
theorem qX10_owed {K : Kt} (hM : mLay K) (p1 : Int) (σ : Sg) : Cc MX10_owed K [aR 84, aI p1] σ (emIS K) (vX10_owed p1 σ) := cc_of plX10 (Nat.le_of_ble_eq_true rfl) (fun o _ => ⟨Nat.le_refl _, Nat.le_refl _⟩) (fun Γ => tX10_owed hM p1 σ)
