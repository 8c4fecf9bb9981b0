noncomputable def vX4_orderClause_23 (K : Kt) (σ : Sg) : Option (Int × Sg) := bd2 (vX4_fails K σ) (fun r1 σ2 => ck (r1 = 0 ∨ r1 = 1) (some (r1, σ2)))
set_option maxRecDepth 100000 in
set_option maxHeartbeats 4000000 in
theorem tX4_orderClause_23 {Γ : Gx} {K : Kt} (hC : cLay K) (σ : Sg) : Y Γ MX4_orderClause K (emIS K) K 23 [some (aR 63), none, none] [] σ (vX4_orderClause_23 K σ) := by
  unfold vX4_orderClause_23
  refine y_aload_n dX4_orderClause_23 rfl rfl ?_
  refine y_cvIS (qX4_fails hC σ) kX4_61 rfl (lcO_63 hC) rfl (by decide) rfl (Nat.le_of_ble_eq_true rfl) dX4_orderClause_24 (fun r1 σ2 => ?_)
  exact yk_zret rfl rfl dX4_orderClause_27
noncomputable def vX4_orderClause_134 (K : Kt) (x1 : Int) (σ : Sg) : Option (Int × Sg) := bd2 (vX4_repeats K x1 σ) (fun r1 σ2 => ck (r1 = 0 ∨ r1 = 1) (some (r1, σ2)))
set_option maxRecDepth 100000 in
set_option maxHeartbeats 4000000 in
theorem tX4_orderClause_134 {Γ : Gx} {K : Kt} (hC : cLay K) (x1 : Int) (σ : Sg) : Y Γ MX4_orderClause K (emIS K) K 134 [some (aR 63), some (aI x1), none] [] σ (vX4_orderClause_134 K x1 σ) := by
  unfold vX4_orderClause_134
  refine y_aload_n dX4_orderClause_134 rfl rfl ?_
  refine y_iload_n dX4_orderClause_135 rfl rfl ?_
  refine y_cvIS (qX4_repeats hC x1 σ) kX4_124 rfl (lcO_63 hC) rfl (by decide) rfl (Nat.le_of_ble_eq_true rfl) dX4_orderClause_136 (fun r1 σ2 => ?_)
  exact yk_zret rfl rfl dX4_orderClause_139
noncomputable def vX4_orderClause_99 (K : Kt) (x1 : Int) (y0 : Int) (y1 : Int) (σ : Sg) : Option (Int × Sg) := if y0 = y1 then (ck (in32 ((σ 63 6) + 1)) (nm (up2 σ 63 6 ((σ 63 6) + 1)) (fun σ2 => bd2 (vX4_wholeSum K 67 x1 σ2) (fun r3 σ4 => if r3 = 0 then (some (0, σ4)) else (vX4_orderClause_134 K x1 σ4))))) else (bd2 (vX4_fails K σ) (fun r6 σ7 => ck (r6 = 0 ∨ r6 = 1) (some (r6, σ7))))
set_option maxRecDepth 100000 in
set_option maxHeartbeats 4000000 in
theorem tX4_orderClause_99 {Γ : Gx} {K : Kt} (hC : cLay K) (x1 : Int) (y0 : Int) (y1 : Int) (σ : Sg) : Y Γ MX4_orderClause K (emIS K) K 99 [some (aR 63), some (aI x1), none] [aI y1, aI y0] σ (vX4_orderClause_99 K x1 y0 y1 σ) := by
  unfold vX4_orderClause_99
  refine y_ite (fun h1 => ?_) (fun h1 => ?_)
  · refine y_icmp_eq_t dX4_orderClause_99 (t := 107) rfl h1 ?_
    refine y_aload_n dX4_orderClause_107 rfl rfl ?_
    refine y_dup dX4_orderClause_108 (fun _ => rfl) ?_
    refine y_getI fX4_35 (lcO_63 hC) rfl dX4_orderClause_109 ?_
    refine y_iconst dX4_orderClause_112 (by decide) ?_
    refine yk_iadd dX4_orderClause_113 ?_
    refine yn_putI fX4_35 (lcO_63 hC) rfl rfl dX4_orderClause_114 (fun σ2 => ?_)
    refine y_aload_n dX4_orderClause_117 rfl rfl ?_
    refine y_aload_n dX4_orderClause_118 rfl rfl ?_
    refine y_getR fX4_16 (lcO_63 hC) rfl (lcR_63_1 hC) dX4_orderClause_119 ?_
    refine y_getR fX4_121 (lcO_64 hC) rfl (lcR_64_2 hC) dX4_orderClause_122 ?_
    refine y_iload_n dX4_orderClause_125 rfl rfl ?_
    refine y_cvIS (qX4_wholeSum hC 67 x1 σ2) kX4_110 rfl (lcO_63 hC) rfl (by decide) rfl (Nat.le_of_ble_eq_true rfl) dX4_orderClause_126 (fun r3 σ4 => ?_)
    refine y_ite (fun h5 => ?_) (fun h5 => ?_)
    · refine y_if_ne_f dX4_orderClause_129 (t := 134) rfl h5 ?_
      refine y_iconst dX4_orderClause_132 (by decide) ?_
      exact y_zret (by decide) rfl rfl dX4_orderClause_133
    · refine y_if_ne_t dX4_orderClause_129 (t := 134) rfl h5 ?_
      exact tX4_orderClause_134 hC x1 σ4
  · refine y_icmp_eq_f dX4_orderClause_99 (t := 107) rfl h1 ?_
    refine y_aload_n dX4_orderClause_102 rfl rfl ?_
    refine y_cvIS (qX4_fails hC σ) kX4_61 rfl (lcO_63 hC) rfl (by decide) rfl (Nat.le_of_ble_eq_true rfl) dX4_orderClause_103 (fun r6 σ7 => ?_)
    exact yk_zret rfl rfl dX4_orderClause_106
noncomputable def vX4_orderClause_77 (K : Kt) (x1 : Int) (x2 : Int) (σ : Sg) : Option (Int × Sg) := ck (0 ≤ (σ 63 6) ∧ (σ 63 6) < 401) (if x2 = 0 then (vX4_orderClause_99 K x1 (σ 71 (σ 63 6).toNat) 326 σ) else (vX4_orderClause_99 K x1 (σ 71 (σ 63 6).toNat) 327 σ))
set_option maxRecDepth 100000 in
set_option maxHeartbeats 4000000 in
theorem tX4_orderClause_77 {Γ : Gx} {K : Kt} (hC : cLay K) (x1 : Int) (x2 : Int) (σ : Sg) : Y Γ MX4_orderClause K (emIS K) K 77 [some (aR 63), some (aI x1), some (aI x2)] [] σ (vX4_orderClause_77 K x1 x2 σ) := by
  unfold vX4_orderClause_77
  refine y_aload_n dX4_orderClause_77 rfl rfl ?_
  refine y_getR fX4_24 (lcO_63 hC) rfl (lcR_63_3 hC) dX4_orderClause_78 ?_
  refine y_aload_n dX4_orderClause_81 rfl rfl ?_
  refine y_getI fX4_35 (lcO_63 hC) rfl dX4_orderClause_82 ?_
  refine yk_iaload (lcA_71 hC) (N := 401) rfl (j := (σ 63 6).toNat) rfl dX4_orderClause_85 ?_
  refine y_iload_n dX4_orderClause_86 rfl rfl ?_
  refine y_ite (fun h1 => ?_) (fun h1 => ?_)
  · refine y_if_ne_f dX4_orderClause_87 (t := 96) rfl h1 ?_
    refine y_sipush dX4_orderClause_90 (by decide) (by decide) ?_
    refine y_goto dX4_orderClause_93 (t := 99) rfl ?_
    refine y_fg [true, true, false] (L' := [some (aR 63), some (aI x1), none]) rfl ?_
    exact tX4_orderClause_99 hC x1 (σ 71 (σ 63 6).toNat) 326 σ
  · refine y_if_ne_t dX4_orderClause_87 (t := 96) rfl h1 ?_
    refine y_sipush dX4_orderClause_96 (by decide) (by decide) ?_
    refine y_fg [true, true, false] (L' := [some (aR 63), some (aI x1), none]) rfl ?_
    exact tX4_orderClause_99 hC x1 (σ 71 (σ 63 6).toNat) 327 σ
noncomputable def vX4_orderClause_68 (K : Kt) (x1 : Int) (x2 : Int) (σ : Sg) : Option (Int × Sg) := if x2 = 0 then (vX4_orderClause_77 K x1 x2 σ) else (if x2 = 2 then (vX4_orderClause_77 K x1 x2 σ) else (vX4_orderClause_134 K x1 σ))
set_option maxRecDepth 100000 in
set_option maxHeartbeats 4000000 in
theorem tX4_orderClause_68 {Γ : Gx} {K : Kt} (hC : cLay K) (x1 : Int) (x2 : Int) (σ : Sg) : Y Γ MX4_orderClause K (emIS K) K 68 [some (aR 63), some (aI x1), some (aI x2)] [] σ (vX4_orderClause_68 K x1 x2 σ) := by
  unfold vX4_orderClause_68
  refine y_iload_n dX4_orderClause_68 rfl rfl ?_
  refine y_ite (fun h1 => ?_) (fun h1 => ?_)
  · refine y_if_eq_t dX4_orderClause_69 (t := 77) rfl h1 ?_
    exact tX4_orderClause_77 hC x1 x2 σ
  · refine y_if_eq_f dX4_orderClause_69 (t := 77) rfl h1 ?_
    refine y_iload_n dX4_orderClause_72 rfl rfl ?_
    refine y_iconst dX4_orderClause_73 (by decide) ?_
    refine y_ite (fun h2 => ?_) (fun h2 => ?_)
    · refine y_icmp_ne_f dX4_orderClause_74 (t := 134) rfl h2 ?_
      exact tX4_orderClause_77 hC x1 x2 σ
    · refine y_icmp_ne_t dX4_orderClause_74 (t := 134) rfl h2 ?_
      refine y_fg [true, true, false] (L' := [some (aR 63), some (aI x1), none]) rfl ?_
      exact tX4_orderClause_134 hC x1 σ
noncomputable def vX4_orderClause (K : Kt) (p1 : Int) (σ : Sg) : Option (Int × Sg) := ck (0 ≤ (σ 63 6) ∧ (σ 63 6) < 401) (ck (in32 ((σ 71 (σ 63 6).toNat) - 304)) (nm ((σ 71 (σ 63 6).toNat) - 304) (fun z1 => if z1 < 0 then (vX4_orderClause_23 K σ) else (if 3 < z1 then (vX4_orderClause_23 K σ) else (ck (in32 ((σ 63 6) + 1)) (nm (up2 σ 63 6 ((σ 63 6) + 1)) (fun σ4 => (vX7_open K z1 σ4).bind (fun σ5 => if z1 = 3 then (vX4_orderClause_68 K p1 z1 σ5) else (bd2 (vX4_wholeSum K 66 p1 σ5) (fun r7 σ8 => if r7 = 0 then (some (0, σ8)) else (vX4_orderClause_68 K p1 z1 σ8)))))))))))
set_option maxRecDepth 100000 in
set_option maxHeartbeats 4000000 in
theorem tX4_orderClause {Γ : Gx} {K : Kt} (hC : cLay K) (p1 : Int) (σ : Sg) : Y Γ MX4_orderClause K (emIS K) K 0 [some (aR 63), some (aI p1), none] [] σ (vX4_orderClause K p1 σ) := by
  unfold vX4_orderClause
  refine y_aload_n dX4_orderClause_0 rfl rfl ?_
  refine y_getR fX4_24 (lcO_63 hC) rfl (lcR_63_3 hC) dX4_orderClause_1 ?_
  refine y_aload_n dX4_orderClause_4 rfl rfl ?_
  refine y_getI fX4_35 (lcO_63 hC) rfl dX4_orderClause_5 ?_
  refine yk_iaload (lcA_71 hC) (N := 401) rfl (j := (σ 63 6).toNat) rfl dX4_orderClause_8 ?_
  refine y_sipush dX4_orderClause_9 (by decide) (by decide) ?_
  refine yk_isub dX4_orderClause_12 ?_
  refine yn_istore_n dX4_orderClause_13 rfl (Nat.le_of_ble_eq_true rfl) (L' := fun z1 => [some (aR 63), some (aI p1), some (aI z1)]) (fun _ => rfl) (fun z1 => ?_)
  refine y_iload_n dX4_orderClause_14 rfl rfl ?_
  refine y_ite (fun h2 => ?_) (fun h2 => ?_)
  · refine y_if_lt_t dX4_orderClause_15 (t := 23) rfl h2 ?_
    refine y_fg [true, false, false] (L' := [some (aR 63), none, none]) rfl ?_
    exact tX4_orderClause_23 hC σ
  · refine y_if_lt_f dX4_orderClause_15 (t := 23) rfl h2 ?_
    refine y_iload_n dX4_orderClause_18 rfl rfl ?_
    refine y_iconst dX4_orderClause_19 (by decide) ?_
    refine y_ite (fun h3 => ?_) (fun h3 => ?_)
    · refine y_icmp_le_f dX4_orderClause_20 (t := 28) rfl h3 ?_
      refine y_fg [true, false, false] (L' := [some (aR 63), none, none]) rfl ?_
      exact tX4_orderClause_23 hC σ
    · refine y_icmp_le_t dX4_orderClause_20 (t := 28) rfl h3 ?_
      refine y_aload_n dX4_orderClause_28 rfl rfl ?_
      refine y_dup dX4_orderClause_29 (fun _ => rfl) ?_
      refine y_getI fX4_35 (lcO_63 hC) rfl dX4_orderClause_30 ?_
      refine y_iconst dX4_orderClause_33 (by decide) ?_
      refine yk_iadd dX4_orderClause_34 ?_
      refine yn_putI fX4_35 (lcO_63 hC) rfl rfl dX4_orderClause_35 (fun σ4 => ?_)
      refine y_aload_n dX4_orderClause_38 rfl rfl ?_
      refine y_getR fX4_16 (lcO_63 hC) rfl (lcR_63_1 hC) dX4_orderClause_39 ?_
      refine y_iload_n dX4_orderClause_42 rfl rfl ?_
      refine y_cvV (qX7_open hC z1 σ4) kX4_103 rfl (lcO_64 hC) rfl (by decide) rfl (Nat.le_of_ble_eq_true rfl) dX4_orderClause_43 (fun σ5 => ?_)
      refine y_iload_n dX4_orderClause_46 rfl rfl ?_
      refine y_iconst dX4_orderClause_47 (by decide) ?_
      refine y_ite (fun h6 => ?_) (fun h6 => ?_)
      · refine y_icmp_eq_t dX4_orderClause_48 (t := 68) rfl h6 ?_
        exact tX4_orderClause_68 hC p1 z1 σ5
      · refine y_icmp_eq_f dX4_orderClause_48 (t := 68) rfl h6 ?_
        refine y_aload_n dX4_orderClause_51 rfl rfl ?_
        refine y_aload_n dX4_orderClause_52 rfl rfl ?_
        refine y_getR fX4_16 (lcO_63 hC) rfl (lcR_63_1 hC) dX4_orderClause_53 ?_
        refine y_getR fX4_107 (lcO_64 hC) rfl (lcR_64_1 hC) dX4_orderClause_56 ?_
        refine y_iload_n dX4_orderClause_59 rfl rfl ?_
        refine y_cvIS (qX4_wholeSum hC 66 p1 σ5) kX4_110 rfl (lcO_63 hC) rfl (by decide) rfl (Nat.le_of_ble_eq_true rfl) dX4_orderClause_60 (fun r7 σ8 => ?_)
        refine y_ite (fun h9 => ?_) (fun h9 => ?_)
        · refine y_if_ne_f dX4_orderClause_63 (t := 68) rfl h9 ?_
          refine y_iconst dX4_orderClause_66 (by decide) ?_
          exact y_zret (by decide) rfl rfl dX4_orderClause_67
        · refine y_if_ne_t dX4_orderClause_63 (t := 68) rfl h9 ?_
          exact tX4_orderClause_68 hC p1 z1 σ8
theorem qX4_orderClause {K : Kt} (hC : cLay K) (p1 : Int) (σ : Sg) : Cc MX4_orderClause K [aR 63, aI p1] σ (emIS K) (vX4_orderClause K p1 σ) := cc_of plX4 (Nat.le_of_ble_eq_true rfl) (fun o _ => ⟨Nat.le_refl _, Nat.le_refl _⟩) (fun Γ => tX4_orderClause hC p1 σ)
noncomputable def vX4_reads_59 (K : Kt) (rec_33 : Int → Sg → Option (Int × Sg)) (x2 : Int) (y0 : Int) (σ : Sg) : Option (Int × Sg) := if y0 = 0 then (some (0, σ)) else (bd2 (vX4_condition K x2 σ) (fun r2 σ3 => if r2 = 0 then (some (0, σ3)) else (ck (0 ≤ (σ3 63 6) ∧ (σ3 63 6) < 401) (if (σ3 71 (σ3 63 6).toNat) = 256 then (some (1, σ3)) else (ck (0 ≤ (σ3 63 6) ∧ (σ3 63 6) < 401) (if (σ3 71 (σ3 63 6).toNat) = 59 then (ck (in32 ((σ3 63 6) + 1)) (nm (up2 σ3 63 6 ((σ3 63 6) + 1)) (fun σ7 => ck (in32 (x2 + 1)) (rec_33 (x2 + 1) σ7)))) else (bd2 (vX4_fails K σ3) (fun r8 σ9 => ck (r8 = 0 ∨ r8 = 1) (some (r8, σ9))))))))))
set_option maxRecDepth 100000 in
set_option maxHeartbeats 4000000 in
theorem tX4_reads_59 {Γ : Gx} {K : Kt} (hC : cLay K) (rec_33 : Int → Sg → Option (Int × Sg)) (hrec_33 : ∀ (x2 : Int) (σ : Sg), Y Γ MX4_reads K (emIS K) K 33 [some (aR 63), none, some (aI x2), none] [] σ (rec_33 x2 σ)) (x2 : Int) (y0 : Int) (σ : Sg) : Y Γ MX4_reads K (emIS K) K 59 [some (aR 63), none, some (aI x2), none] [aI y0] σ (vX4_reads_59 K rec_33 x2 y0 σ) := by
  unfold vX4_reads_59
  refine y_istore_n dX4_reads_59 rfl (Nat.le_of_ble_eq_true rfl) (L' := [some (aR 63), none, some (aI x2), some (aI y0)]) rfl ?_
  refine y_iload_n dX4_reads_60 rfl rfl ?_
  refine y_ite (fun h1 => ?_) (fun h1 => ?_)
  · refine y_if_eq_t dX4_reads_61 (t := 72) rfl h1 ?_
    refine y_iconst dX4_reads_72 (by decide) ?_
    exact y_zret (by decide) rfl rfl dX4_reads_73
  · refine y_if_eq_f dX4_reads_61 (t := 72) rfl h1 ?_
    refine y_aload_n dX4_reads_64 rfl rfl ?_
    refine y_iload_n dX4_reads_65 rfl rfl ?_
    refine y_cvIS (qX4_condition hC x2 σ) kX4_58 rfl (lcO_63 hC) rfl (by decide) rfl (Nat.le_of_ble_eq_true rfl) dX4_reads_66 (fun r2 σ3 => ?_)
    refine y_ite (fun h4 => ?_) (fun h4 => ?_)
    · refine y_if_ne_f dX4_reads_69 (t := 74) rfl h4 ?_
      refine y_iconst dX4_reads_72 (by decide) ?_
      exact y_zret (by decide) rfl rfl dX4_reads_73
    · refine y_if_ne_t dX4_reads_69 (t := 74) rfl h4 ?_
      refine y_aload_n dX4_reads_74 rfl rfl ?_
      refine y_getR fX4_24 (lcO_63 hC) rfl (lcR_63_3 hC) dX4_reads_75 ?_
      refine y_aload_n dX4_reads_78 rfl rfl ?_
      refine y_getI fX4_35 (lcO_63 hC) rfl dX4_reads_79 ?_
      refine yk_iaload (lcA_71 hC) (N := 401) rfl (j := (σ3 63 6).toNat) rfl dX4_reads_82 ?_
      refine y_sipush dX4_reads_83 (by decide) (by decide) ?_
      refine y_ite (fun h5 => ?_) (fun h5 => ?_)
      · refine y_icmp_ne_f dX4_reads_86 (t := 91) rfl h5 ?_
        refine y_iconst dX4_reads_89 (by decide) ?_
        exact y_zret (by decide) rfl rfl dX4_reads_90
      · refine y_icmp_ne_t dX4_reads_86 (t := 91) rfl h5 ?_
        refine y_aload_n dX4_reads_91 rfl rfl ?_
        refine y_getR fX4_24 (lcO_63 hC) rfl (lcR_63_3 hC) dX4_reads_92 ?_
        refine y_aload_n dX4_reads_95 rfl rfl ?_
        refine y_getI fX4_35 (lcO_63 hC) rfl dX4_reads_96 ?_
        refine yk_iaload (lcA_71 hC) (N := 401) rfl (j := (σ3 63 6).toNat) rfl dX4_reads_99 ?_
        refine y_bipush dX4_reads_100 (by decide) (by decide) ?_
        refine y_ite (fun h6 => ?_) (fun h6 => ?_)
        · refine y_icmp_eq_t dX4_reads_102 (t := 110) rfl h6 ?_
          refine y_aload_n dX4_reads_110 rfl rfl ?_
          refine y_dup dX4_reads_111 (fun _ => rfl) ?_
          refine y_getI fX4_35 (lcO_63 hC) rfl dX4_reads_112 ?_
          refine y_iconst dX4_reads_115 (by decide) ?_
          refine yk_iadd dX4_reads_116 ?_
          refine yn_putI fX4_35 (lcO_63 hC) rfl rfl dX4_reads_117 (fun σ7 => ?_)
          refine yk_iinc dX4_reads_120 rfl (L' := [some (aR 63), none, some (aI (x2 + 1)), some (aI y0)]) rfl ?_
          refine y_goto dX4_reads_123 (t := 33) rfl ?_
          refine y_fg [true, false, true, false] (L' := [some (aR 63), none, some (aI (x2 + 1)), none]) rfl ?_
          exact hrec_33 (x2 + 1) σ7
        · refine y_icmp_eq_f dX4_reads_102 (t := 110) rfl h6 ?_
          refine y_aload_n dX4_reads_105 rfl rfl ?_
          refine y_cvIS (qX4_fails hC σ3) kX4_61 rfl (lcO_63 hC) rfl (by decide) rfl (Nat.le_of_ble_eq_true rfl) dX4_reads_106 (fun r8 σ9 => ?_)
          exact yk_zret rfl rfl dX4_reads_109
noncomputable def vX4_reads_33 (K : Kt) : Nat → Int → Sg → Option (Int × Sg)
  | 0, _, _ => none
  | f + 1, x2, σ => if x2 < 12 then (if (σ 63 5) = 0 then (bd2 (vX4_orderClause K x2 σ) (fun r3 σ4 => vX4_reads_59 K (vX4_reads_33 K f) x2 r3 σ4)) else (bd2 (vX4_lawClause K x2 σ) (fun r5 σ6 => vX4_reads_59 K (vX4_reads_33 K f) x2 r5 σ6))) else (bd2 (vX4_fails K σ) (fun r7 σ8 => ck (r7 = 0 ∨ r7 = 1) (some (r7, σ8))))
set_option maxRecDepth 100000 in
set_option maxHeartbeats 4000000 in
theorem tX4_reads_33 {Γ : Gx} {K : Kt} (hC : cLay K) : ∀ (f : Nat) (x2 : Int) (σ : Sg), Y Γ MX4_reads K (emIS K) K 33 [some (aR 63), none, some (aI x2), none] [] σ (vX4_reads_33 K f x2 σ) := by
  intro f
  induction f with
  | zero => intro x2 σ; exact y_none
  | succ f ih =>
    intro x2 σ
    rw [vX4_reads_33]
    refine y_iload_n dX4_reads_33 rfl rfl ?_
    refine y_bipush dX4_reads_34 (by decide) (by decide) ?_
    refine y_ite (fun h1 => ?_) (fun h1 => ?_)
    · refine y_icmp_ge_f dX4_reads_36 (t := 126) rfl h1 ?_
      refine y_aload_n dX4_reads_39 rfl rfl ?_
      refine y_getI fX4_31 (lcO_63 hC) rfl dX4_reads_40 ?_
      refine y_ite (fun h2 => ?_) (fun h2 => ?_)
      · refine y_if_eq_t dX4_reads_43 (t := 54) rfl h2 ?_
        refine y_aload_n dX4_reads_54 rfl rfl ?_
        refine y_iload_n dX4_reads_55 rfl rfl ?_
        refine y_cvIS (qX4_orderClause hC x2 σ) kX4_55 rfl (lcO_63 hC) rfl (by decide) rfl (Nat.le_of_ble_eq_true rfl) dX4_reads_56 (fun r3 σ4 => ?_)
        exact tX4_reads_59 hC (vX4_reads_33 K f) ih x2 r3 σ4
      · refine y_if_eq_f dX4_reads_43 (t := 54) rfl h2 ?_
        refine y_aload_n dX4_reads_46 rfl rfl ?_
        refine y_iload_n dX4_reads_47 rfl rfl ?_
        refine y_cvIS (qX4_lawClause hC x2 σ) kX4_51 rfl (lcO_63 hC) rfl (by decide) rfl (Nat.le_of_ble_eq_true rfl) dX4_reads_48 (fun r5 σ6 => ?_)
        refine y_goto dX4_reads_51 (t := 59) rfl ?_
        exact tX4_reads_59 hC (vX4_reads_33 K f) ih x2 r5 σ6
    · refine y_icmp_ge_t dX4_reads_36 (t := 126) rfl h1 ?_
      refine y_aload_n dX4_reads_126 rfl rfl ?_
      refine y_cvIS (qX4_fails hC σ) kX4_61 rfl (lcO_63 hC) rfl (by decide) rfl (Nat.le_of_ble_eq_true rfl) dX4_reads_127 (fun r7 σ8 => ?_)
      exact yk_zret rfl rfl dX4_reads_130
noncomputable def vX4_reads (K : Kt) (p1 : Int) (σ : Sg) : Option (Int × Sg) := (vX4_split K σ).bind (fun σ1 => (vX7_clear K σ1).bind (fun σ2 => ck (p1 = 0 ∨ p1 = 1) (nm (up2 σ2 63 5 p1) (fun σ3 => nm (up2 σ3 63 2 (-1)) (fun σ4 => nm (up2 σ4 63 6 0) (fun σ5 => nm (up2 σ5 63 7 0) (fun σ6 => vX4_reads_33 K FU 0 σ6)))))))
set_option maxRecDepth 100000 in
set_option maxHeartbeats 4000000 in
theorem tX4_reads {Γ : Gx} {K : Kt} (hC : cLay K) (p1 : Int) (σ : Sg) : Y Γ MX4_reads K (emIS K) K 0 [some (aR 63), some (aI p1), none, none] [] σ (vX4_reads K p1 σ) := by
  unfold vX4_reads
  refine y_aload_n dX4_reads_0 rfl rfl ?_
  refine y_cvV (qX4_split hC σ) kX4_45 rfl (lcO_63 hC) rfl (by decide) rfl (Nat.le_of_ble_eq_true rfl) dX4_reads_1 (fun σ1 => ?_)
  refine y_aload_n dX4_reads_4 rfl rfl ?_
  refine y_getR fX4_16 (lcO_63 hC) rfl (lcR_63_1 hC) dX4_reads_5 ?_
  refine y_cvV (qX7_clear hC σ1) kX4_48 rfl (lcO_64 hC) rfl (by decide) rfl (Nat.le_of_ble_eq_true rfl) dX4_reads_8 (fun σ2 => ?_)
  refine y_aload_n dX4_reads_11 rfl rfl ?_
  refine y_iload_n dX4_reads_12 rfl rfl ?_
  refine yk_putZ fX4_31 (lcO_63 hC) rfl rfl dX4_reads_13 (fun σ3 => ?_)
  refine y_aload_n dX4_reads_16 rfl rfl ?_
  refine y_iconst dX4_reads_17 (by decide) ?_
  refine yn_putI fX4_20 (lcO_63 hC) rfl rfl dX4_reads_18 (fun σ4 => ?_)
  refine y_aload_n dX4_reads_21 rfl rfl ?_
  refine y_iconst dX4_reads_22 (by decide) ?_
  refine yn_putI fX4_35 (lcO_63 hC) rfl rfl dX4_reads_23 (fun σ5 => ?_)
  refine y_aload_n dX4_reads_26 rfl rfl ?_
  refine y_iconst dX4_reads_27 (by decide) ?_
  refine yn_putI fX4_38 (lcO_63 hC) rfl rfl dX4_reads_28 (fun σ6 => ?_)
  refine y_iconst dX4_reads_31 (by decide) ?_
  refine y_istore_n dX4_reads_32 rfl (Nat.le_of_ble_eq_true rfl) (L' := [some (aR 63), some (aI p1), some (aI 0), none]) rfl ?_
  refine y_fg [true, false, true, false] (L' := [some (aR 63), none, some (aI 0), none]) rfl ?_
  exact tX4_reads_33 hC FU 0 σ6
theorem qX4_reads {K : Kt} (hC : cLay K) (p1 : Int) (σ : Sg) : Cc MX4_reads K [aR 63, aI p1] σ (emIS K) (vX4_reads K p1 σ) := cc_of plX4 (Nat.le_of_ble_eq_true rfl) (fun o _ => ⟨Nat.le_refl _, Nat.le_refl _⟩) (fun Γ => tX4_reads hC p1 σ)
noncomputable def vX9_refuse (K : Kt) (p1 : Int) (σ : Sg) : Option (Int × Sg) := nm (up2 σ 0 14 p1) (fun σ1 => if p1 < 0 then (if p1 < (-6) then (some (p1, σ1)) else (ck (in32 (-p1)) (ck (0 ≤ (-p1) ∧ (-p1) < 7) (ck (in32 ((σ1 83 (-p1).toNat) + 1)) (ck (0 ≤ (-p1) ∧ (-p1) < 7) (nm (up2 σ1 83 (-p1).toNat ((σ1 83 (-p1).toNat) + 1)) (fun σ4 => some (p1, σ4)))))))) else (some (p1, σ1)))
set_option maxRecDepth 100000 in
set_option maxHeartbeats 4000000 in
theorem tX9_refuse {Γ : Gx} {K : Kt} (hC : cLay K) (p1 : Int) (σ : Sg) : Y Γ MX9_refuse K (emIS K) K 0 [some (aR 0), some (aI p1)] [] σ (vX9_refuse K p1 σ) := by
  unfold vX9_refuse
  refine y_aload_n dX9_refuse_0 rfl rfl ?_
  refine y_iload_n dX9_refuse_1 rfl rfl ?_
  refine yn_putI fX9_86 (lcO_0 hC) rfl rfl dX9_refuse_2 (fun σ1 => ?_)
  refine y_iload_n dX9_refuse_5 rfl rfl ?_
  refine y_ite (fun h2 => ?_) (fun h2 => ?_)
  · refine y_if_ge_f dX9_refuse_6 (t := 26) rfl h2 ?_
    refine y_iload_n dX9_refuse_9 rfl rfl ?_
    refine y_bipush dX9_refuse_10 (by decide) (by decide) ?_
    refine y_ite (fun h3 => ?_) (fun h3 => ?_)
    · refine y_icmp_lt_t dX9_refuse_12 (t := 26) rfl h3 ?_
      refine y_iload_n dX9_refuse_26 rfl rfl ?_
      exact y_iret rfl rfl dX9_refuse_27
    · refine y_icmp_lt_f dX9_refuse_12 (t := 26) rfl h3 ?_
      refine y_aload_n dX9_refuse_15 rfl rfl ?_
      refine y_getR fX9_76 (lcO_0 hC) rfl (lcR_0_11 hC) dX9_refuse_16 ?_
      refine y_iload_n dX9_refuse_19 rfl rfl ?_
      refine yk_ineg dX9_refuse_20 ?_
      refine y_dup2 dX9_refuse_21 (fun _ => rfl) (fun _ => rfl) ?_
      refine yk_iaload (lcA_83 hC) (N := 7) rfl (j := (-p1).toNat) rfl dX9_refuse_22 ?_
      refine y_iconst dX9_refuse_23 (by decide) ?_
      refine yk_iadd dX9_refuse_24 ?_
      refine yk_iastore (lcA_83 hC) (N := 7) rfl (j := (-p1).toNat) rfl dX9_refuse_25 (fun σ4 => ?_)
      refine y_iload_n dX9_refuse_26 rfl rfl ?_
      exact y_iret rfl rfl dX9_refuse_27
  · refine y_if_ge_t dX9_refuse_6 (t := 26) rfl h2 ?_
    refine y_iload_n dX9_refuse_26 rfl rfl ?_
    exact y_iret rfl rfl dX9_refuse_27
theorem qX9_refuse {K : Kt} (hC : cLay K) (p1 : Int) (σ : Sg) : Cc MX9_refuse K [aR 0, aI p1] σ (emIS K) (vX9_refuse K p1 σ) := cc_of plX9 (Nat.le_of_ble_eq_true rfl) (fun o _ => ⟨Nat.le_refl _, Nat.le_refl _⟩) (fun Γ => tX9_refuse hC p1 σ)
noncomputable def vX9_grant (K : Kt) (p1 : Int) (σ : Sg) : Option (Int × Sg) := nm (up2 σ 0 14 0) (fun σ1 => some (p1, σ1))
set_option maxRecDepth 100000 in
set_option maxHeartbeats 4000000 in
theorem tX9_grant {Γ : Gx} {K : Kt} (hC : cLay K) (p1 : Int) (σ : Sg) : Y Γ MX9_grant K (emIS K) K 0 [some (aR 0), some (aI p1)] [] σ (vX9_grant K p1 σ) := by
  unfold vX9_grant
  refine y_aload_n dX9_grant_0 rfl rfl ?_
  refine y_iconst dX9_grant_1 (by decide) ?_
  refine yn_putI fX9_86 (lcO_0 hC) rfl rfl dX9_grant_2 (fun σ1 => ?_)
  refine y_iload_n dX9_grant_5 rfl rfl ?_
  exact y_iret rfl rfl dX9_grant_6
theorem qX9_grant {K : Kt} (hC : cLay K) (p1 : Int) (σ : Sg) : Cc MX9_grant K [aR 0, aI p1] σ (emIS K) (vX9_grant K p1 σ) := cc_of plX9 (Nat.le_of_ble_eq_true rfl) (fun o _ => ⟨Nat.le_refl _, Nat.le_refl _⟩) (fun Γ => tX9_grant hC p1 σ)
noncomputable def vX9_answered (K : Kt) (p1 : Int) (σ : Sg) : Option (Int × Sg) := if p1 < 0 then (bd2 (vX9_refuse K p1 σ) (fun r2 σ3 => some (r2, σ3))) else (bd2 (vX9_grant K p1 σ) (fun r4 σ5 => some (r4, σ5)))
set_option maxRecDepth 100000 in
set_option maxHeartbeats 4000000 in
theorem tX9_answered {Γ : Gx} {K : Kt} (hC : cLay K) (p1 : Int) (σ : Sg) : Y Γ MX9_answered K (emIS K) K 0 [some (aR 0), some (aI p1)] [] σ (vX9_answered K p1 σ) := by
  unfold vX9_answered
  refine y_iload_n dX9_answered_0 rfl rfl ?_
  refine y_ite (fun h1 => ?_) (fun h1 => ?_)
  · refine y_if_ge_f dX9_answered_1 (t := 12) rfl h1 ?_
    refine y_aload_n dX9_answered_4 rfl rfl ?_
    refine y_iload_n dX9_answered_5 rfl rfl ?_
    refine y_cvIS (qX9_refuse hC p1 σ) kX9_89 rfl (lcO_0 hC) rfl (by decide) rfl (Nat.le_of_ble_eq_true rfl) dX9_answered_6 (fun r2 σ3 => ?_)
    refine y_goto dX9_answered_9 (t := 17) rfl ?_
    exact y_iret rfl rfl dX9_answered_17
  · refine y_if_ge_t dX9_answered_1 (t := 12) rfl h1 ?_
    refine y_aload_n dX9_answered_12 rfl rfl ?_
    refine y_iload_n dX9_answered_13 rfl rfl ?_
    refine y_cvIS (qX9_grant hC p1 σ) kX9_93 rfl (lcO_0 hC) rfl (by decide) rfl (Nat.le_of_ble_eq_true rfl) dX9_answered_14 (fun r4 σ5 => ?_)
    exact y_iret rfl rfl dX9_answered_17
theorem qX9_answered {K : Kt} (hC : cLay K) (p1 : Int) (σ : Sg) : Cc MX9_answered K [aR 0, aI p1] σ (emIS K) (vX9_answered K p1 σ) := cc_of plX9 (Nat.le_of_ble_eq_true rfl) (fun o _ => ⟨Nat.le_refl _, Nat.le_refl _⟩) (fun Γ => tX9_answered hC p1 σ)
noncomputable def vX9_within (p1 : Int) (p2 : Int) (p3 : Int) (σ : Sg) : Option (Int) := if p1 < p2 then (some 0) else (if p3 < p1 then (some 0) else (some 1))
set_option maxRecDepth 100000 in
set_option maxHeartbeats 4000000 in
theorem tX9_within {Γ : Gx} {K : Kt} (p1 : Int) (p2 : Int) (p3 : Int) (σ : Sg) : Y Γ MX9_within K (emI K σ) K 0 [some (aI p1), some (aI p2), some (aI p3)] [] σ (vX9_within p1 p2 p3 σ) := by
  unfold vX9_within
  refine y_iload_n dX9_within_0 rfl rfl ?_
  refine y_iload_n dX9_within_1 rfl rfl ?_
  refine y_ite (fun h1 => ?_) (fun h1 => ?_)
  · refine y_icmp_lt_t dX9_within_2 (t := 14) rfl h1 ?_
    refine y_iconst dX9_within_14 (by decide) ?_
    exact y_zret (by decide) rfl rfl dX9_within_15
  · refine y_icmp_lt_f dX9_within_2 (t := 14) rfl h1 ?_
    refine y_iload_n dX9_within_5 rfl rfl ?_
    refine y_iload_n dX9_within_6 rfl rfl ?_
    refine y_ite (fun h2 => ?_) (fun h2 => ?_)
    · refine y_icmp_gt_t dX9_within_7 (t := 14) rfl h2 ?_
      refine y_iconst dX9_within_14 (by decide) ?_
      exact y_zret (by decide) rfl rfl dX9_within_15
    · refine y_icmp_gt_f dX9_within_7 (t := 14) rfl h2 ?_
      refine y_iconst dX9_within_10 (by decide) ?_
      refine y_goto dX9_within_11 (t := 15) rfl ?_
      exact y_zret (by decide) rfl rfl dX9_within_15
theorem qX9_within {K : Kt} (p1 : Int) (p2 : Int) (p3 : Int) (σ : Sg) : Cc MX9_within K [aI p1, aI p2, aI p3] σ (emI K σ) (vX9_within p1 p2 p3 σ) := cc_of plX9 (Nat.le_of_ble_eq_true rfl) (fun o _ => ⟨Nat.le_refl _, Nat.le_refl _⟩) (fun Γ => tX9_within p1 p2 p3 σ)
noncomputable def vX9_bookCanBe (p1 : Int) (p2 : Int) (p3 : Int) (p4 : Int) (σ : Sg) : Option (Int) := (vX9_within p1 1 9 σ).bind (fun r1 => if r1 = 0 then (some 0) else ((vX9_within p2 0 63 σ).bind (fun r3 => if r3 = 0 then (some 0) else ((vX9_within p3 0 63 σ).bind (fun r5 => if r5 = 0 then (some 0) else ((vX9_within p4 0 999 σ).bind (fun r7 => if r7 = 0 then (some 0) else (some 1))))))))
set_option maxRecDepth 100000 in
set_option maxHeartbeats 4000000 in
theorem tX9_bookCanBe {Γ : Gx} {K : Kt} (p1 : Int) (p2 : Int) (p3 : Int) (p4 : Int) (σ : Sg) : Y Γ MX9_bookCanBe K (emI K σ) K 0 [some (aI p1), some (aI p2), some (aI p3), some (aI p4)] [] σ (vX9_bookCanBe p1 p2 p3 p4 σ) := by
  unfold vX9_bookCanBe
  refine y_iload_n dX9_bookCanBe_0 rfl rfl ?_
  refine y_iconst dX9_bookCanBe_1 (by decide) ?_
  refine y_bipush dX9_bookCanBe_2 (by decide) (by decide) ?_
  refine y_csI (qX9_within (K := K) p1 1 9 σ) kX9_96 rfl (by decide) rfl (Nat.le_of_ble_eq_true rfl) dX9_bookCanBe_4 (fun r1 => ?_)
  refine y_ite (fun h2 => ?_) (fun h2 => ?_)
  · refine y_if_eq_t dX9_bookCanBe_7 (t := 45) rfl h2 ?_
    refine y_iconst dX9_bookCanBe_45 (by decide) ?_
    exact y_zret (by decide) rfl rfl dX9_bookCanBe_46
  · refine y_if_eq_f dX9_bookCanBe_7 (t := 45) rfl h2 ?_
    refine y_iload_n dX9_bookCanBe_10 rfl rfl ?_
    refine y_iconst dX9_bookCanBe_11 (by decide) ?_
    refine y_bipush dX9_bookCanBe_12 (by decide) (by decide) ?_
    refine y_csI (qX9_within (K := K) p2 0 63 σ) kX9_96 rfl (by decide) rfl (Nat.le_of_ble_eq_true rfl) dX9_bookCanBe_14 (fun r3 => ?_)
    refine y_ite (fun h4 => ?_) (fun h4 => ?_)
    · refine y_if_eq_t dX9_bookCanBe_17 (t := 45) rfl h4 ?_
      refine y_iconst dX9_bookCanBe_45 (by decide) ?_
      exact y_zret (by decide) rfl rfl dX9_bookCanBe_46
    · refine y_if_eq_f dX9_bookCanBe_17 (t := 45) rfl h4 ?_
      refine y_iload_n dX9_bookCanBe_20 rfl rfl ?_
      refine y_iconst dX9_bookCanBe_21 (by decide) ?_
      refine y_bipush dX9_bookCanBe_22 (by decide) (by decide) ?_
      refine y_csI (qX9_within (K := K) p3 0 63 σ) kX9_96 rfl (by decide) rfl (Nat.le_of_ble_eq_true rfl) dX9_bookCanBe_24 (fun r5 => ?_)
      refine y_ite (fun h6 => ?_) (fun h6 => ?_)
      · refine y_if_eq_t dX9_bookCanBe_27 (t := 45) rfl h6 ?_
        refine y_iconst dX9_bookCanBe_45 (by decide) ?_
        exact y_zret (by decide) rfl rfl dX9_bookCanBe_46
      · refine y_if_eq_f dX9_bookCanBe_27 (t := 45) rfl h6 ?_
        refine y_iload_n dX9_bookCanBe_30 rfl rfl ?_
        refine y_iconst dX9_bookCanBe_31 (by decide) ?_
        refine y_sipush dX9_bookCanBe_32 (by decide) (by decide) ?_
        refine y_csI (qX9_within (K := K) p4 0 999 σ) kX9_96 rfl (by decide) rfl (Nat.le_of_ble_eq_true rfl) dX9_bookCanBe_35 (fun r7 => ?_)
        refine y_ite (fun h8 => ?_) (fun h8 => ?_)
        · refine y_if_eq_t dX9_bookCanBe_38 (t := 45) rfl h8 ?_
          refine y_iconst dX9_bookCanBe_45 (by decide) ?_
          exact y_zret (by decide) rfl rfl dX9_bookCanBe_46
        · refine y_if_eq_f dX9_bookCanBe_38 (t := 45) rfl h8 ?_
          refine y_iconst dX9_bookCanBe_41 (by decide) ?_
          refine y_goto dX9_bookCanBe_42 (t := 46) rfl ?_
          exact y_zret (by decide) rfl rfl dX9_bookCanBe_46
theorem qX9_bookCanBe {K : Kt} (p1 : Int) (p2 : Int) (p3 : Int) (p4 : Int) (σ : Sg) : Cc MX9_bookCanBe K [aI p1, aI p2, aI p3, aI p4] σ (emI K σ) (vX9_bookCanBe p1 p2 p3 p4 σ) := cc_of plX9 (Nat.le_of_ble_eq_true rfl) (fun o _ => ⟨Nat.le_refl _, Nat.le_refl _⟩) (fun Γ => tX9_bookCanBe p1 p2 p3 p4 σ)
noncomputable def vX9_book (K : Kt) (p1 : Int) (p2 : Int) (p3 : Int) (p4 : Int) (σ : Sg) : Option (Int × Sg) := (vX9_bookCanBe p1 p2 p3 p4 σ).bind (fun r1 => if r1 = 0 then (bd2 (vX9_refuse K (-1) σ) (fun r3 σ4 => some (r3, σ4))) else (if (σ 13 1) < 8 then ((vX8_forget K 27 σ).bind (fun σ6 => bd2 (vX1_addBook K 13 p1 p2 p3 p4 σ6) (fun r7 σ8 => bd2 (vX9_grant K r7 σ8) (fun r9 σ10 => some (r9, σ10))))) else (bd2 (vX9_refuse K (-5) σ) (fun r11 σ12 => some (r11, σ12)))))
set_option maxRecDepth 100000 in
set_option maxHeartbeats 4000000 in
theorem tX9_book {Γ : Gx} {K : Kt} (hC : cLay K) (p1 : Int) (p2 : Int) (p3 : Int) (p4 : Int) (σ : Sg) : Y Γ MX9_book K (emIS K) K 0 [some (aR 0), some (aI p1), some (aI p2), some (aI p3), some (aI p4)] [] σ (vX9_book K p1 p2 p3 p4 σ) := by
  unfold vX9_book
  refine y_iload_n dX9_book_0 rfl rfl ?_
  refine y_iload_n dX9_book_1 rfl rfl ?_
  refine y_iload_n dX9_book_2 rfl rfl ?_
  refine y_iload dX9_book_3 rfl ?_
  refine y_csI (qX9_bookCanBe (K := K) p1 p2 p3 p4 σ) kX9_100 rfl (by decide) rfl (Nat.le_of_ble_eq_true rfl) dX9_book_5 (fun r1 => ?_)
  refine y_ite (fun h2 => ?_) (fun h2 => ?_)
  · refine y_if_ne_f dX9_book_8 (t := 17) rfl h2 ?_
    refine y_aload_n dX9_book_11 rfl rfl ?_
    refine y_iconst dX9_book_12 (by decide) ?_
    refine y_cvIS (qX9_refuse hC (-1) σ) kX9_89 rfl (lcO_0 hC) rfl (by decide) rfl (Nat.le_of_ble_eq_true rfl) dX9_book_13 (fun r3 σ4 => ?_)
    exact y_iret rfl rfl dX9_book_16
  · refine y_if_ne_t dX9_book_8 (t := 17) rfl h2 ?_
    refine y_aload_n dX9_book_17 rfl rfl ?_
    refine y_getR fX9_21 (lcO_0 hC) rfl (lcR_0_1 hC) dX9_book_18 ?_
    refine y_getI fX9_104 (lcO_13 hC) rfl dX9_book_21 ?_
    refine y_bipush dX9_book_24 (by decide) (by decide) ?_
    refine y_ite (fun h5 => ?_) (fun h5 => ?_)
    · refine y_icmp_lt_t dX9_book_26 (t := 36) rfl h5 ?_
      refine y_aload_n dX9_book_36 rfl rfl ?_
      refine y_getR fX9_28 (lcO_0 hC) rfl (lcR_0_2 hC) dX9_book_37 ?_
      refine y_cvV (qX8_forget (uAt_27 hC) σ) kX9_107 rfl (lcO_27 hC) rfl (by decide) rfl (Nat.le_of_ble_eq_true rfl) dX9_book_40 (fun σ6 => ?_)
      refine y_aload_n dX9_book_43 rfl rfl ?_
      refine y_aload_n dX9_book_44 rfl rfl ?_
      refine y_getR fX9_21 (lcO_0 hC) rfl (lcR_0_1 hC) dX9_book_45 ?_
      refine y_iload_n dX9_book_48 rfl rfl ?_
      refine y_iload_n dX9_book_49 rfl rfl ?_
      refine y_iload_n dX9_book_50 rfl rfl ?_
      refine y_iload dX9_book_51 rfl ?_
      refine y_cvIS (qX1_addBook (hPre_13 hC) p1 p2 p3 p4 σ6) kX9_110 rfl (lcO_13 hC) rfl (by decide) rfl (Nat.le_of_ble_eq_true rfl) dX9_book_53 (fun r7 σ8 => ?_)
      refine y_cvIS (qX9_grant hC r7 σ8) kX9_93 rfl (lcO_0 hC) rfl (by decide) rfl (Nat.le_of_ble_eq_true rfl) dX9_book_56 (fun r9 σ10 => ?_)
      exact y_iret rfl rfl dX9_book_59
    · refine y_icmp_lt_f dX9_book_26 (t := 36) rfl h5 ?_
      refine y_aload_n dX9_book_29 rfl rfl ?_
      refine y_bipush dX9_book_30 (by decide) (by decide) ?_
      refine y_cvIS (qX9_refuse hC (-5) σ) kX9_89 rfl (lcO_0 hC) rfl (by decide) rfl (Nat.le_of_ble_eq_true rfl) dX9_book_32 (fun r11 σ12 => ?_)
      exact y_iret rfl rfl dX9_book_35
theorem qX9_book {K : Kt} (hC : cLay K) (p1 : Int) (p2 : Int) (p3 : Int) (p4 : Int) (σ : Sg) : Cc MX9_book K [aR 0, aI p1, aI p2, aI p3, aI p4] σ (emIS K) (vX9_book K p1 p2 p3 p4 σ) := cc_of plX9 (Nat.le_of_ble_eq_true rfl) (fun o _ => ⟨Nat.le_refl _, Nat.le_refl _⟩) (fun Γ => tX9_book hC p1 p2 p3 p4 σ)
noncomputable def vX9_of (K : Kt) (p1 : Int) (p2 : Int) (σ : Sg) : Option (Int) := (vX1_hasBook K 13 p1 σ).bind (fun r1 => if r1 = 0 then (some (-1)) else (if p2 = 0 then (ck (0 ≤ p1 ∧ p1 < 8) (some (σ 14 p1.toNat))) else (if p2 = 1 then (ck (0 ≤ p1 ∧ p1 < 8) (some (σ 15 p1.toNat))) else (if p2 = 2 then (ck (0 ≤ p1 ∧ p1 < 8) (some (σ 16 p1.toNat))) else (if p2 = 3 then (ck (0 ≤ p1 ∧ p1 < 8) (some (σ 17 p1.toNat))) else (if p2 = 4 then ((vX1_readerWith K 13 p1 σ).bind (fun r3 => some r3)) else (some (-1))))))))
set_option maxRecDepth 100000 in
set_option maxHeartbeats 4000000 in
theorem tX9_of {Γ : Gx} {K : Kt} (hC : cLay K) (p1 : Int) (p2 : Int) (σ : Sg) : Y Γ MX9_of K (emI K σ) K 0 [some (aR 0), some (aI p1), some (aI p2)] [] σ (vX9_of K p1 p2 σ) := by
  unfold vX9_of
  refine y_aload_n dX9_of_0 rfl rfl ?_
  refine y_getR fX9_21 (lcO_0 hC) rfl (lcR_0_1 hC) dX9_of_1 ?_
  refine y_iload_n dX9_of_4 rfl rfl ?_
  refine y_cvI (qX1_hasBook (hPre_13 hC) p1 σ) kX9_114 rfl (lcO_13 hC) rfl (by decide) rfl (Nat.le_of_ble_eq_true rfl) dX9_of_5 (fun r1 => ?_)
  refine y_ite (fun h2 => ?_) (fun h2 => ?_)
  · refine y_if_ne_f dX9_of_8 (t := 13) rfl h2 ?_
    refine y_iconst dX9_of_11 (by decide) ?_
    exact y_iret rfl rfl dX9_of_12
  · refine y_if_ne_t dX9_of_8 (t := 13) rfl h2 ?_
    refine y_iload_n dX9_of_13 rfl rfl ?_
    refine y_ite (fun h8 => ?_) (fun h8 => ?_)
    · refine y_tab_in dX9_of_14 (t := 48) (off := 34) (by omega) (by rw [h8]; rfl) rfl ?_
      refine y_aload_n dX9_of_48 rfl rfl ?_
      refine y_getR fX9_21 (lcO_0 hC) rfl (lcR_0_1 hC) dX9_of_49 ?_
      refine y_getR fX9_118 (lcO_13 hC) rfl (lcR_13_4 hC) dX9_of_52 ?_
      refine y_iload_n dX9_of_55 rfl rfl ?_
      refine yk_iaload (lcA_14 hC) (N := 8) rfl (j := p1.toNat) rfl dX9_of_56 ?_
      exact y_iret rfl rfl dX9_of_57
    · refine y_ite (fun h7 => ?_) (fun h7 => ?_)
      · refine y_tab_in dX9_of_14 (t := 58) (off := 44) (by omega) (by rw [h7]; rfl) rfl ?_
        refine y_aload_n dX9_of_58 rfl rfl ?_
        refine y_getR fX9_21 (lcO_0 hC) rfl (lcR_0_1 hC) dX9_of_59 ?_
        refine y_getR fX9_121 (lcO_13 hC) rfl (lcR_13_5 hC) dX9_of_62 ?_
        refine y_iload_n dX9_of_65 rfl rfl ?_
        refine yk_iaload (lcA_15 hC) (N := 8) rfl (j := p1.toNat) rfl dX9_of_66 ?_
        exact y_iret rfl rfl dX9_of_67
      · refine y_ite (fun h6 => ?_) (fun h6 => ?_)
        · refine y_tab_in dX9_of_14 (t := 68) (off := 54) (by omega) (by rw [h6]; rfl) rfl ?_
          refine y_aload_n dX9_of_68 rfl rfl ?_
          refine y_getR fX9_21 (lcO_0 hC) rfl (lcR_0_1 hC) dX9_of_69 ?_
          refine y_getR fX9_124 (lcO_13 hC) rfl (lcR_13_6 hC) dX9_of_72 ?_
          refine y_iload_n dX9_of_75 rfl rfl ?_
          refine yk_iaload (lcA_16 hC) (N := 8) rfl (j := p1.toNat) rfl dX9_of_76 ?_
          exact y_iret rfl rfl dX9_of_77
        · refine y_ite (fun h5 => ?_) (fun h5 => ?_)
          · refine y_tab_in dX9_of_14 (t := 78) (off := 64) (by omega) (by rw [h5]; rfl) rfl ?_
            refine y_aload_n dX9_of_78 rfl rfl ?_
            refine y_getR fX9_21 (lcO_0 hC) rfl (lcR_0_1 hC) dX9_of_79 ?_
            refine y_getR fX9_127 (lcO_13 hC) rfl (lcR_13_7 hC) dX9_of_82 ?_
            refine y_iload_n dX9_of_85 rfl rfl ?_
            refine yk_iaload (lcA_17 hC) (N := 8) rfl (j := p1.toNat) rfl dX9_of_86 ?_
            exact y_iret rfl rfl dX9_of_87
          · refine y_ite (fun h4 => ?_) (fun h4 => ?_)
            · refine y_tab_in dX9_of_14 (t := 88) (off := 74) (by omega) (by rw [h4]; rfl) rfl ?_
              refine y_aload_n dX9_of_88 rfl rfl ?_
              refine y_getR fX9_21 (lcO_0 hC) rfl (lcR_0_1 hC) dX9_of_89 ?_
              refine y_iload_n dX9_of_92 rfl rfl ?_
              refine y_cvI (qX1_readerWith (hPre_13 hC) p1 σ) kX9_130 rfl (lcO_13 hC) rfl (by decide) rfl (Nat.le_of_ble_eq_true rfl) dX9_of_93 (fun r3 => ?_)
              exact y_iret rfl rfl dX9_of_96
            · refine y_tab_out dX9_of_14 (t := 97) (by omega) rfl ?_
              refine y_iconst dX9_of_97 (by decide) ?_
              exact y_iret rfl rfl dX9_of_98
theorem qX9_of {K : Kt} (hC : cLay K) (p1 : Int) (p2 : Int) (σ : Sg) : Cc MX9_of K [aR 0, aI p1, aI p2] σ (emI K σ) (vX9_of K p1 p2 σ) := cc_of plX9 (Nat.le_of_ble_eq_true rfl) (fun o _ => ⟨Nat.le_refl _, Nat.le_refl _⟩) (fun Γ => tX9_of hC p1 p2 σ)
noncomputable def vX9_reader_19 (K : Kt) (σ : Sg) : Option (Int × Sg) := bd2 (vX9_refuse K (-1) σ) (fun r1 σ2 => some (r1, σ2))
set_option maxRecDepth 100000 in
set_option maxHeartbeats 4000000 in
theorem tX9_reader_19 {Γ : Gx} {K : Kt} (hC : cLay K) (σ : Sg) : Y Γ MX9_reader K (emIS K) K 19 [some (aR 0), none, none] [] σ (vX9_reader_19 K σ) := by
  unfold vX9_reader_19
  refine y_aload_n dX9_reader_19 rfl rfl ?_
  refine y_iconst dX9_reader_20 (by decide) ?_
  refine y_cvIS (qX9_refuse hC (-1) σ) kX9_89 rfl (lcO_0 hC) rfl (by decide) rfl (Nat.le_of_ble_eq_true rfl) dX9_reader_21 (fun r1 σ2 => ?_)
  exact y_iret rfl rfl dX9_reader_24
noncomputable def vX9_reader (K : Kt) (p1 : Int) (p2 : Int) (σ : Sg) : Option (Int × Sg) := (vX9_within p1 0 63 σ).bind (fun r1 => if r1 = 0 then (vX9_reader_19 K σ) else ((vX9_within p2 0 1 σ).bind (fun r3 => if r3 = 0 then (vX9_reader_19 K σ) else (if (σ 13 2) < 6 then ((vX8_forget K 27 σ).bind (fun σ6 => bd2 (vX1_addReader K 13 p1 p2 σ6) (fun r7 σ8 => bd2 (vX9_grant K r7 σ8) (fun r9 σ10 => some (r9, σ10))))) else (bd2 (vX9_refuse K (-5) σ) (fun r11 σ12 => some (r11, σ12)))))))
set_option maxRecDepth 100000 in
set_option maxHeartbeats 4000000 in
theorem tX9_reader {Γ : Gx} {K : Kt} (hC : cLay K) (p1 : Int) (p2 : Int) (σ : Sg) : Y Γ MX9_reader K (emIS K) K 0 [some (aR 0), some (aI p1), some (aI p2)] [] σ (vX9_reader K p1 p2 σ) := by
  unfold vX9_reader
  refine y_iload_n dX9_reader_0 rfl rfl ?_
  refine y_iconst dX9_reader_1 (by decide) ?_
  refine y_bipush dX9_reader_2 (by decide) (by decide) ?_
  refine y_csI (qX9_within (K := K) p1 0 63 σ) kX9_96 rfl (by decide) rfl (Nat.le_of_ble_eq_true rfl) dX9_reader_4 (fun r1 => ?_)
  refine y_ite (fun h2 => ?_) (fun h2 => ?_)
  · refine y_if_eq_t dX9_reader_7 (t := 19) rfl h2 ?_
    refine y_fg [true, false, false] (L' := [some (aR 0), none, none]) rfl ?_
    exact tX9_reader_19 hC σ
  · refine y_if_eq_f dX9_reader_7 (t := 19) rfl h2 ?_
    refine y_iload_n dX9_reader_10 rfl rfl ?_
    refine y_iconst dX9_reader_11 (by decide) ?_
    refine y_iconst dX9_reader_12 (by decide) ?_
    refine y_csI (qX9_within (K := K) p2 0 1 σ) kX9_96 rfl (by decide) rfl (Nat.le_of_ble_eq_true rfl) dX9_reader_13 (fun r3 => ?_)
    refine y_ite (fun h4 => ?_) (fun h4 => ?_)
    · refine y_if_ne_f dX9_reader_16 (t := 25) rfl h4 ?_
      refine y_fg [true, false, false] (L' := [some (aR 0), none, none]) rfl ?_
      exact tX9_reader_19 hC σ
    · refine y_if_ne_t dX9_reader_16 (t := 25) rfl h4 ?_
      refine y_aload_n dX9_reader_25 rfl rfl ?_
      refine y_getR fX9_21 (lcO_0 hC) rfl (lcR_0_1 hC) dX9_reader_26 ?_
      refine y_getI fX9_133 (lcO_13 hC) rfl dX9_reader_29 ?_
      refine y_bipush dX9_reader_32 (by decide) (by decide) ?_
      refine y_ite (fun h5 => ?_) (fun h5 => ?_)
      · refine y_icmp_lt_t dX9_reader_34 (t := 44) rfl h5 ?_
        refine y_aload_n dX9_reader_44 rfl rfl ?_
        refine y_getR fX9_28 (lcO_0 hC) rfl (lcR_0_2 hC) dX9_reader_45 ?_
        refine y_cvV (qX8_forget (uAt_27 hC) σ) kX9_107 rfl (lcO_27 hC) rfl (by decide) rfl (Nat.le_of_ble_eq_true rfl) dX9_reader_48 (fun σ6 => ?_)
        refine y_aload_n dX9_reader_51 rfl rfl ?_
        refine y_aload_n dX9_reader_52 rfl rfl ?_
        refine y_getR fX9_21 (lcO_0 hC) rfl (lcR_0_1 hC) dX9_reader_53 ?_
        refine y_iload_n dX9_reader_56 rfl rfl ?_
        refine y_iload_n dX9_reader_57 rfl rfl ?_
        refine y_cvIS (qX1_addReader (hPre_13 hC) p1 p2 σ6) kX9_136 rfl (lcO_13 hC) rfl (by decide) rfl (Nat.le_of_ble_eq_true rfl) dX9_reader_58 (fun r7 σ8 => ?_)
        refine y_cvIS (qX9_grant hC r7 σ8) kX9_93 rfl (lcO_0 hC) rfl (by decide) rfl (Nat.le_of_ble_eq_true rfl) dX9_reader_61 (fun r9 σ10 => ?_)
        exact y_iret rfl rfl dX9_reader_64
      · refine y_icmp_lt_f dX9_reader_34 (t := 44) rfl h5 ?_
        refine y_aload_n dX9_reader_37 rfl rfl ?_
        refine y_bipush dX9_reader_38 (by decide) (by decide) ?_
        refine y_cvIS (qX9_refuse hC (-5) σ) kX9_89 rfl (lcO_0 hC) rfl (by decide) rfl (Nat.le_of_ble_eq_true rfl) dX9_reader_40 (fun r11 σ12 => ?_)
        exact y_iret rfl rfl dX9_reader_43
theorem qX9_reader {K : Kt} (hC : cLay K) (p1 : Int) (p2 : Int) (σ : Sg) : Cc MX9_reader K [aR 0, aI p1, aI p2] σ (emIS K) (vX9_reader K p1 p2 σ) := cc_of plX9 (Nat.le_of_ble_eq_true rfl) (fun o _ => ⟨Nat.le_refl _, Nat.le_refl _⟩) (fun Γ => tX9_reader hC p1 p2 σ)
noncomputable def vX9_at (K : Kt) (p1 : Int) (p2 : Int) (σ : Sg) : Option (Int) := (vX1_hasReader K 13 p1 σ).bind (fun r1 => if r1 = 0 then (some (-1)) else (if p2 = 0 then (ck (0 ≤ p1 ∧ p1 < 6) (some (σ 18 p1.toNat))) else (if p2 = 1 then (ck (0 ≤ p1 ∧ p1 < 6) (some (σ 19 p1.toNat))) else (if p2 = 2 then (ck (0 ≤ p1 ∧ p1 < 6) (some (σ 20 p1.toNat))) else (if p2 = 3 then (ck (0 ≤ p1 ∧ p1 < 6) (some (σ 21 p1.toNat))) else (if p2 = 4 then (ck (0 ≤ p1 ∧ p1 < 6) (if (σ 21 p1.toNat) = (-1) then (some (-1)) else (ck (0 ≤ p1 ∧ p1 < 6) (some (σ 22 p1.toNat))))) else (if p2 = 5 then (ck (0 ≤ p1 ∧ p1 < 6) (some (σ 23 p1.toNat))) else (some (-1)))))))))
set_option maxRecDepth 100000 in
set_option maxHeartbeats 4000000 in
theorem tX9_at {Γ : Gx} {K : Kt} (hC : cLay K) (p1 : Int) (p2 : Int) (σ : Sg) : Y Γ MX9_at K (emI K σ) K 0 [some (aR 0), some (aI p1), some (aI p2)] [] σ (vX9_at K p1 p2 σ) := by
  unfold vX9_at
  refine y_aload_n dX9_at_0 rfl rfl ?_
  refine y_getR fX9_21 (lcO_0 hC) rfl (lcR_0_1 hC) dX9_at_1 ?_
  refine y_iload_n dX9_at_4 rfl rfl ?_
  refine y_cvI (qX1_hasReader (hPre_13 hC) p1 σ) kX9_140 rfl (lcO_13 hC) rfl (by decide) rfl (Nat.le_of_ble_eq_true rfl) dX9_at_5 (fun r1 => ?_)
  refine y_ite (fun h2 => ?_) (fun h2 => ?_)
  · refine y_if_ne_f dX9_at_8 (t := 13) rfl h2 ?_
    refine y_iconst dX9_at_11 (by decide) ?_
    exact y_iret rfl rfl dX9_at_12
  · refine y_if_ne_t dX9_at_8 (t := 13) rfl h2 ?_
    refine y_iload_n dX9_at_13 rfl rfl ?_
    refine y_ite (fun h9 => ?_) (fun h9 => ?_)
    · refine y_tab_in dX9_at_14 (t := 52) (off := 38) (by omega) (by rw [h9]; rfl) rfl ?_
      refine y_aload_n dX9_at_52 rfl rfl ?_
      refine y_getR fX9_21 (lcO_0 hC) rfl (lcR_0_1 hC) dX9_at_53 ?_
      refine y_getR fX9_143 (lcO_13 hC) rfl (lcR_13_8 hC) dX9_at_56 ?_
      refine y_iload_n dX9_at_59 rfl rfl ?_
      refine yk_iaload (lcA_18 hC) (N := 6) rfl (j := p1.toNat) rfl dX9_at_60 ?_
      exact y_iret rfl rfl dX9_at_61
    · refine y_ite (fun h8 => ?_) (fun h8 => ?_)
      · refine y_tab_in dX9_at_14 (t := 62) (off := 48) (by omega) (by rw [h8]; rfl) rfl ?_
        refine y_aload_n dX9_at_62 rfl rfl ?_
        refine y_getR fX9_21 (lcO_0 hC) rfl (lcR_0_1 hC) dX9_at_63 ?_
        refine y_getR fX9_146 (lcO_13 hC) rfl (lcR_13_9 hC) dX9_at_66 ?_
        refine y_iload_n dX9_at_69 rfl rfl ?_
        refine yk_iaload (lcA_19 hC) (N := 6) rfl (j := p1.toNat) rfl dX9_at_70 ?_
        exact y_iret rfl rfl dX9_at_71
      · refine y_ite (fun h7 => ?_) (fun h7 => ?_)
        · refine y_tab_in dX9_at_14 (t := 72) (off := 58) (by omega) (by rw [h7]; rfl) rfl ?_
          refine y_aload_n dX9_at_72 rfl rfl ?_
          refine y_getR fX9_21 (lcO_0 hC) rfl (lcR_0_1 hC) dX9_at_73 ?_
          refine y_getR fX9_149 (lcO_13 hC) rfl (lcR_13_10 hC) dX9_at_76 ?_
          refine y_iload_n dX9_at_79 rfl rfl ?_
          refine yk_iaload (lcA_20 hC) (N := 6) rfl (j := p1.toNat) rfl dX9_at_80 ?_
          exact y_iret rfl rfl dX9_at_81
        · refine y_ite (fun h6 => ?_) (fun h6 => ?_)
          · refine y_tab_in dX9_at_14 (t := 82) (off := 68) (by omega) (by rw [h6]; rfl) rfl ?_
            refine y_aload_n dX9_at_82 rfl rfl ?_
            refine y_getR fX9_21 (lcO_0 hC) rfl (lcR_0_1 hC) dX9_at_83 ?_
            refine y_getR fX9_152 (lcO_13 hC) rfl (lcR_13_11 hC) dX9_at_86 ?_
            refine y_iload_n dX9_at_89 rfl rfl ?_
            refine yk_iaload (lcA_21 hC) (N := 6) rfl (j := p1.toNat) rfl dX9_at_90 ?_
            exact y_iret rfl rfl dX9_at_91
          · refine y_ite (fun h5 => ?_) (fun h5 => ?_)
            · refine y_tab_in dX9_at_14 (t := 92) (off := 78) (by omega) (by rw [h5]; rfl) rfl ?_
              refine y_aload_n dX9_at_92 rfl rfl ?_
              refine y_getR fX9_21 (lcO_0 hC) rfl (lcR_0_1 hC) dX9_at_93 ?_
              refine y_getR fX9_152 (lcO_13 hC) rfl (lcR_13_11 hC) dX9_at_96 ?_
              refine y_iload_n dX9_at_99 rfl rfl ?_
              refine yk_iaload (lcA_21 hC) (N := 6) rfl (j := p1.toNat) rfl dX9_at_100 ?_
              refine y_iconst dX9_at_101 (by decide) ?_
              refine y_ite (fun h3 => ?_) (fun h3 => ?_)
              · refine y_icmp_ne_f dX9_at_102 (t := 109) rfl h3 ?_
                refine y_iconst dX9_at_105 (by decide) ?_
                refine y_goto dX9_at_106 (t := 118) rfl ?_
                exact y_iret rfl rfl dX9_at_118
              · refine y_icmp_ne_t dX9_at_102 (t := 109) rfl h3 ?_
                refine y_aload_n dX9_at_109 rfl rfl ?_
                refine y_getR fX9_21 (lcO_0 hC) rfl (lcR_0_1 hC) dX9_at_110 ?_
                refine y_getR fX9_155 (lcO_13 hC) rfl (lcR_13_12 hC) dX9_at_113 ?_
                refine y_iload_n dX9_at_116 rfl rfl ?_
                refine yk_iaload (lcA_22 hC) (N := 6) rfl (j := p1.toNat) rfl dX9_at_117 ?_
                exact y_iret rfl rfl dX9_at_118
            · refine y_ite (fun h4 => ?_) (fun h4 => ?_)
              · refine y_tab_in dX9_at_14 (t := 119) (off := 105) (by omega) (by rw [h4]; rfl) rfl ?_
                refine y_aload_n dX9_at_119 rfl rfl ?_
                refine y_getR fX9_21 (lcO_0 hC) rfl (lcR_0_1 hC) dX9_at_120 ?_
                refine y_getR fX9_158 (lcO_13 hC) rfl (lcR_13_13 hC) dX9_at_123 ?_
                refine y_iload_n dX9_at_126 rfl rfl ?_
                refine yk_iaload (lcA_23 hC) (N := 6) rfl (j := p1.toNat) rfl dX9_at_127 ?_
                exact y_iret rfl rfl dX9_at_128
              · refine y_tab_out dX9_at_14 (t := 129) (by omega) rfl ?_
                refine y_iconst dX9_at_129 (by decide) ?_
                exact y_iret rfl rfl dX9_at_130
theorem qX9_at {K : Kt} (hC : cLay K) (p1 : Int) (p2 : Int) (σ : Sg) : Cc MX9_at K [aR 0, aI p1, aI p2] σ (emI K σ) (vX9_at K p1 p2 σ) := cc_of plX9 (Nat.le_of_ble_eq_true rfl) (fun o _ => ⟨Nat.le_refl _, Nat.le_refl _⟩) (fun Γ => tX9_at hC p1 p2 σ)
noncomputable def vX9_asks_76 (K : Kt) (x1 : Int) (x2 : Int) (x3 : Int) (x4 : Int) (σ : Sg) : Option (Int × Sg) := bd2 (vX1_asked K 13 x3 (σ 1 5) x1 x2 x4 σ) (fun r1 σ2 => some (r1, σ2))
set_option maxRecDepth 100000 in
set_option maxHeartbeats 4000000 in
theorem tX9_asks_76 {Γ : Gx} {K : Kt} (hC : cLay K) (x1 : Int) (x2 : Int) (x3 : Int) (x4 : Int) (σ : Sg) : Y Γ MX9_asks K (emIS K) K 76 [some (aR 0), some (aI x1), some (aI x2), some (aI x3), some (aI x4)] [] σ (vX9_asks_76 K x1 x2 x3 x4 σ) := by
  unfold vX9_asks_76
  refine y_aload_n dX9_asks_76 rfl rfl ?_
  refine y_getR fX9_21 (lcO_0 hC) rfl (lcR_0_1 hC) dX9_asks_77 ?_
  refine y_iload_n dX9_asks_80 rfl rfl ?_
  refine y_aload_n dX9_asks_81 rfl rfl ?_
  refine y_getR fX9_12 (lcO_0 hC) rfl (lcR_0_0 hC) dX9_asks_82 ?_
  refine y_getI fX9_161 (lcO_1 hC) rfl dX9_asks_85 ?_
  refine y_iload_n dX9_asks_88 rfl rfl ?_
  refine y_iload_n dX9_asks_89 rfl rfl ?_
  refine y_iload dX9_asks_90 rfl ?_
  refine y_cvIS (qX1_asked (hPre_13 hC) x3 (σ 1 5) x1 x2 x4 σ) kX9_164 rfl (lcO_13 hC) rfl (by decide) rfl (Nat.le_of_ble_eq_true rfl) dX9_asks_92 (fun r1 σ2 => ?_)
  exact y_iret rfl rfl dX9_asks_95
noncomputable def vX9_asks (K : Kt) (p1 : Int) (p2 : Int) (p3 : Int) (σ : Sg) : Option (Int × Sg) := (vX1_hasBook K 13 p1 σ).bind (fun r1 => if r1 = 0 then (some ((-1), σ)) else ((vX1_hasReader K 13 p2 σ).bind (fun r3 => if r3 = 0 then (some ((-1), σ)) else (ck (0 ≤ p2 ∧ p2 < 6) (nm (σ 18 p2.toNat) (fun z5 => if p3 = 0 then (vX9_asks_76 K p1 p2 p3 z5 σ) else (if p3 = 1 then (vX9_asks_76 K p1 p2 p3 z5 σ) else (if p3 = 2 then (vX9_asks_76 K p1 p2 p3 z5 σ) else (if p3 = 3 then (vX9_asks_76 K p1 p2 p3 z5 σ) else (if p3 = 4 then ((vX1_fits K 13 z5 p1 σ).bind (fun r6 => if r6 = 0 then (some (0, σ)) else (some (1, σ)))) else (if p3 = 5 then (bd2 (vX1_canHave K 13 p1 p2 σ) (fun r8 σ9 => if r8 = 0 then (some (0, σ9)) else (some (1, σ9)))) else (some ((-1), σ)))))))))))))
set_option maxRecDepth 100000 in
set_option maxHeartbeats 4000000 in
theorem tX9_asks {Γ : Gx} {K : Kt} (hC : cLay K) (p1 : Int) (p2 : Int) (p3 : Int) (σ : Sg) : Y Γ MX9_asks K (emIS K) K 0 [some (aR 0), some (aI p1), some (aI p2), some (aI p3), none] [] σ (vX9_asks K p1 p2 p3 σ) := by
  unfold vX9_asks
  refine y_aload_n dX9_asks_0 rfl rfl ?_
  refine y_getR fX9_21 (lcO_0 hC) rfl (lcR_0_1 hC) dX9_asks_1 ?_
  refine y_iload_n dX9_asks_4 rfl rfl ?_
  refine y_cvI (qX1_hasBook (hPre_13 hC) p1 σ) kX9_114 rfl (lcO_13 hC) rfl (by decide) rfl (Nat.le_of_ble_eq_true rfl) dX9_asks_5 (fun r1 => ?_)
  refine y_ite (fun h2 => ?_) (fun h2 => ?_)
  · refine y_if_eq_t dX9_asks_8 (t := 22) rfl h2 ?_
    refine y_iconst dX9_asks_22 (by decide) ?_
    exact y_iret rfl rfl dX9_asks_23
  · refine y_if_eq_f dX9_asks_8 (t := 22) rfl h2 ?_
    refine y_aload_n dX9_asks_11 rfl rfl ?_
    refine y_getR fX9_21 (lcO_0 hC) rfl (lcR_0_1 hC) dX9_asks_12 ?_
    refine y_iload_n dX9_asks_15 rfl rfl ?_
    refine y_cvI (qX1_hasReader (hPre_13 hC) p2 σ) kX9_140 rfl (lcO_13 hC) rfl (by decide) rfl (Nat.le_of_ble_eq_true rfl) dX9_asks_16 (fun r3 => ?_)
    refine y_ite (fun h4 => ?_) (fun h4 => ?_)
    · refine y_if_ne_f dX9_asks_19 (t := 24) rfl h4 ?_
      refine y_iconst dX9_asks_22 (by decide) ?_
      exact y_iret rfl rfl dX9_asks_23
    · refine y_if_ne_t dX9_asks_19 (t := 24) rfl h4 ?_
      refine y_aload_n dX9_asks_24 rfl rfl ?_
      refine y_getR fX9_21 (lcO_0 hC) rfl (lcR_0_1 hC) dX9_asks_25 ?_
      refine y_getR fX9_143 (lcO_13 hC) rfl (lcR_13_8 hC) dX9_asks_28 ?_
      refine y_iload_n dX9_asks_31 rfl rfl ?_
      refine yk_iaload (lcA_18 hC) (N := 6) rfl (j := p2.toNat) rfl dX9_asks_32 ?_
      refine yn_istore dX9_asks_33 (Nat.le_of_ble_eq_true rfl) (L' := fun z5 => [some (aR 0), some (aI p1), some (aI p2), some (aI p3), some (aI z5)]) (fun _ => rfl) (fun z5 => ?_)
      refine y_iload_n dX9_asks_35 rfl rfl ?_
      refine y_ite (fun h16 => ?_) (fun h16 => ?_)
      · refine y_tab_in dX9_asks_36 (t := 76) (off := 40) (by omega) (by rw [h16]; rfl) rfl ?_
        exact tX9_asks_76 hC p1 p2 p3 z5 σ
      · refine y_ite (fun h15 => ?_) (fun h15 => ?_)
        · refine y_tab_in dX9_asks_36 (t := 76) (off := 40) (by omega) (by rw [h15]; rfl) rfl ?_
          exact tX9_asks_76 hC p1 p2 p3 z5 σ
        · refine y_ite (fun h14 => ?_) (fun h14 => ?_)
          · refine y_tab_in dX9_asks_36 (t := 76) (off := 40) (by omega) (by rw [h14]; rfl) rfl ?_
            exact tX9_asks_76 hC p1 p2 p3 z5 σ
          · refine y_ite (fun h13 => ?_) (fun h13 => ?_)
            · refine y_tab_in dX9_asks_36 (t := 76) (off := 40) (by omega) (by rw [h13]; rfl) rfl ?_
              exact tX9_asks_76 hC p1 p2 p3 z5 σ
            · refine y_ite (fun h12 => ?_) (fun h12 => ?_)
              · refine y_tab_in dX9_asks_36 (t := 96) (off := 60) (by omega) (by rw [h12]; rfl) rfl ?_
                refine y_aload_n dX9_asks_96 rfl rfl ?_
                refine y_getR fX9_21 (lcO_0 hC) rfl (lcR_0_1 hC) dX9_asks_97 ?_
                refine y_iload dX9_asks_100 rfl ?_
                refine y_iload_n dX9_asks_102 rfl rfl ?_
                refine y_cvI (qX1_fits (hPre_13 hC) z5 p1 σ) kX9_168 rfl (lcO_13 hC) rfl (by decide) rfl (Nat.le_of_ble_eq_true rfl) dX9_asks_103 (fun r6 => ?_)
                refine y_ite (fun h7 => ?_) (fun h7 => ?_)
                · refine y_if_eq_t dX9_asks_106 (t := 113) rfl h7 ?_
                  refine y_iconst dX9_asks_113 (by decide) ?_
                  exact y_iret rfl rfl dX9_asks_114
                · refine y_if_eq_f dX9_asks_106 (t := 113) rfl h7 ?_
                  refine y_iconst dX9_asks_109 (by decide) ?_
                  refine y_goto dX9_asks_110 (t := 114) rfl ?_
                  exact y_iret rfl rfl dX9_asks_114
              · refine y_ite (fun h11 => ?_) (fun h11 => ?_)
                · refine y_tab_in dX9_asks_36 (t := 115) (off := 79) (by omega) (by rw [h11]; rfl) rfl ?_
                  refine y_aload_n dX9_asks_115 rfl rfl ?_
                  refine y_getR fX9_21 (lcO_0 hC) rfl (lcR_0_1 hC) dX9_asks_116 ?_
                  refine y_iload_n dX9_asks_119 rfl rfl ?_
                  refine y_iload_n dX9_asks_120 rfl rfl ?_
                  refine y_cvIS (qX1_canHave (hPre_13 hC) p1 p2 σ) kX9_172 rfl (lcO_13 hC) rfl (by decide) rfl (Nat.le_of_ble_eq_true rfl) dX9_asks_121 (fun r8 σ9 => ?_)
                  refine y_ite (fun h10 => ?_) (fun h10 => ?_)
                  · refine y_if_eq_t dX9_asks_124 (t := 131) rfl h10 ?_
                    refine y_iconst dX9_asks_131 (by decide) ?_
                    exact y_iret rfl rfl dX9_asks_132
                  · refine y_if_eq_f dX9_asks_124 (t := 131) rfl h10 ?_
                    refine y_iconst dX9_asks_127 (by decide) ?_
                    refine y_goto dX9_asks_128 (t := 132) rfl ?_
                    exact y_iret rfl rfl dX9_asks_132
                · refine y_tab_out dX9_asks_36 (t := 133) (by omega) rfl ?_
                  refine y_iconst dX9_asks_133 (by decide) ?_
                  exact y_iret rfl rfl dX9_asks_134
theorem qX9_asks {K : Kt} (hC : cLay K) (p1 : Int) (p2 : Int) (p3 : Int) (σ : Sg) : Cc MX9_asks K [aR 0, aI p1, aI p2, aI p3] σ (emIS K) (vX9_asks K p1 p2 p3 σ) := cc_of plX9 (Nat.le_of_ble_eq_true rfl) (fun o _ => ⟨Nat.le_refl _, Nat.le_refl _⟩) (fun Γ => tX9_asks hC p1 p2 p3 σ)
noncomputable def vX9_terms_26 (K : Kt) (σ : Sg) : Option (Int × Sg) := bd2 (vX9_refuse K (-1) σ) (fun r1 σ2 => some (r1, σ2))
set_option maxRecDepth 100000 in
set_option maxHeartbeats 4000000 in
theorem tX9_terms_26 {Γ : Gx} {K : Kt} (hC : cLay K) (σ : Sg) : Y Γ MX9_terms K (emIS K) K 26 [some (aR 0), none, none, none] [] σ (vX9_terms_26 K σ) := by
  unfold vX9_terms_26
  refine y_aload_n dX9_terms_26 rfl rfl ?_
  refine y_iconst dX9_terms_27 (by decide) ?_
  refine y_cvIS (qX9_refuse hC (-1) σ) kX9_89 rfl (lcO_0 hC) rfl (by decide) rfl (Nat.le_of_ble_eq_true rfl) dX9_terms_28 (fun r1 σ2 => ?_)
  exact y_iret rfl rfl dX9_terms_31
noncomputable def vX9_terms (K : Kt) (p1 : Int) (p2 : Int) (σ : Sg) : Option (Int × Sg) := (vX9_within p1 0 3 σ).bind (fun r1 => if r1 = 0 then (vX9_terms_26 K σ) else (ck (0 ≤ p1 ∧ p1 < 4) (ck (0 ≤ p1 ∧ p1 < 4) ((vX9_within p2 (stV 0 p1.toNat) (stV 1 p1.toNat) σ).bind (fun r3 => if r3 = 0 then (vX9_terms_26 K σ) else (ck (0 ≤ p1 ∧ p1 < 4) (nm (σ 26 p1.toNat) (fun z5 => (vX8_forget K 27 σ).bind (fun σ6 => ck (0 ≤ p1 ∧ p1 < 4) (nm (up2 σ6 26 p1.toNat p2) (fun σ7 => bd2 (vX9_grant K z5 σ7) (fun r8 σ9 => some (r8, σ9)))))))))))))
set_option maxRecDepth 100000 in
set_option maxHeartbeats 4000000 in
theorem tX9_terms {Γ : Gx} {K : Kt} (hC : cLay K) (p1 : Int) (p2 : Int) (σ : Sg) : Y Γ MX9_terms K (emIS K) K 0 [some (aR 0), some (aI p1), some (aI p2), none] [] σ (vX9_terms K p1 p2 σ) := by
  unfold vX9_terms
  refine y_iload_n dX9_terms_0 rfl rfl ?_
  refine y_iconst dX9_terms_1 (by decide) ?_
  refine y_iconst dX9_terms_2 (by decide) ?_
  refine y_csI (qX9_within (K := K) p1 0 3 σ) kX9_96 rfl (by decide) rfl (Nat.le_of_ble_eq_true rfl) dX9_terms_3 (fun r1 => ?_)
  refine y_ite (fun h2 => ?_) (fun h2 => ?_)
  · refine y_if_eq_t dX9_terms_6 (t := 26) rfl h2 ?_
    refine y_fg [true, false, false, false] (L' := [some (aR 0), none, none, none]) rfl ?_
    exact tX9_terms_26 hC σ
  · refine y_if_eq_f dX9_terms_6 (t := 26) rfl h2 ?_
    refine y_iload_n dX9_terms_9 rfl rfl ?_
    refine y_gets (i := 0) (by decide) sX9_175 dX9_terms_10 ?_
    refine y_iload_n dX9_terms_13 rfl rfl ?_
    refine y_ck (fun hc => ?_)
    refine y_taload (by decide) hc dX9_terms_14 ?_
    refine y_gets (i := 1) (by decide) sX9_178 dX9_terms_15 ?_
    refine y_iload_n dX9_terms_18 rfl rfl ?_
    refine y_ck (fun hc => ?_)
    refine y_taload (by decide) hc dX9_terms_19 ?_
    refine y_csI (qX9_within (K := K) p2 (stV 0 p1.toNat) (stV 1 p1.toNat) σ) kX9_96 rfl (by decide) rfl (Nat.le_of_ble_eq_true rfl) dX9_terms_20 (fun r3 => ?_)
    refine y_ite (fun h4 => ?_) (fun h4 => ?_)
    · refine y_if_ne_f dX9_terms_23 (t := 32) rfl h4 ?_
      refine y_fg [true, false, false, false] (L' := [some (aR 0), none, none, none]) rfl ?_
      exact tX9_terms_26 hC σ
    · refine y_if_ne_t dX9_terms_23 (t := 32) rfl h4 ?_
      refine y_aload_n dX9_terms_32 rfl rfl ?_
      refine y_getR fX9_21 (lcO_0 hC) rfl (lcR_0_1 hC) dX9_terms_33 ?_
      refine y_getR fX9_181 (lcO_13 hC) rfl (lcR_13_16 hC) dX9_terms_36 ?_
      refine y_iload_n dX9_terms_39 rfl rfl ?_
      refine yk_iaload (lcA_26 hC) (N := 4) rfl (j := p1.toNat) rfl dX9_terms_40 ?_
      refine yn_istore_n dX9_terms_41 rfl (Nat.le_of_ble_eq_true rfl) (L' := fun z5 => [some (aR 0), some (aI p1), some (aI p2), some (aI z5)]) (fun _ => rfl) (fun z5 => ?_)
      refine y_aload_n dX9_terms_42 rfl rfl ?_
      refine y_getR fX9_28 (lcO_0 hC) rfl (lcR_0_2 hC) dX9_terms_43 ?_
      refine y_cvV (qX8_forget (uAt_27 hC) σ) kX9_107 rfl (lcO_27 hC) rfl (by decide) rfl (Nat.le_of_ble_eq_true rfl) dX9_terms_46 (fun σ6 => ?_)
      refine y_aload_n dX9_terms_49 rfl rfl ?_
      refine y_getR fX9_21 (lcO_0 hC) rfl (lcR_0_1 hC) dX9_terms_50 ?_
      refine y_getR fX9_181 (lcO_13 hC) rfl (lcR_13_16 hC) dX9_terms_53 ?_
      refine y_iload_n dX9_terms_56 rfl rfl ?_
      refine y_iload_n dX9_terms_57 rfl rfl ?_
      refine yk_iastore (lcA_26 hC) (N := 4) rfl (j := p1.toNat) rfl dX9_terms_58 (fun σ7 => ?_)
      refine y_aload_n dX9_terms_59 rfl rfl ?_
      refine y_iload_n dX9_terms_60 rfl rfl ?_
      refine y_cvIS (qX9_grant hC z5 σ7) kX9_93 rfl (lcO_0 hC) rfl (by decide) rfl (Nat.le_of_ble_eq_true rfl) dX9_terms_61 (fun r8 σ9 => ?_)
      exact y_iret rfl rfl dX9_terms_64
theorem qX9_terms {K : Kt} (hC : cLay K) (p1 : Int) (p2 : Int) (σ : Sg) : Cc MX9_terms K [aR 0, aI p1, aI p2] σ (emIS K) (vX9_terms K p1 p2 σ) := cc_of plX9 (Nat.le_of_ble_eq_true rfl) (fun o _ => ⟨Nat.le_refl _, Nat.le_refl _⟩) (fun Γ => tX9_terms hC p1 p2 σ)
noncomputable def vX9_feed (K : Kt) (p1 : Int) (p2 : Int) (p3 : Int) (p4 : Int) (p5 : Int) (σ : Sg) : Option (Int × Sg) := ck (in32 ((σ 61 1) + 20)) (if 400 < ((σ 61 1) + 20) then (some ((-1), σ)) else ((vX6_add K p1 σ).bind (fun σ2 => (vX6_add K p2 σ2).bind (fun σ3 => (vX6_add K p3 σ3).bind (fun σ4 => (vX6_add K p4 σ4).bind (fun σ5 => (vX6_add K p5 σ5).bind (fun σ6 => some ((σ6 61 1), σ6))))))))
set_option maxRecDepth 100000 in
set_option maxHeartbeats 4000000 in
theorem tX9_feed {Γ : Gx} {K : Kt} (hC : cLay K) (p1 : Int) (p2 : Int) (p3 : Int) (p4 : Int) (p5 : Int) (σ : Sg) : Y Γ MX9_feed K (emIS K) K 0 [some (aR 0), some (aI p1), some (aI p2), some (aI p3), some (aI p4), some (aI p5)] [] σ (vX9_feed K p1 p2 p3 p4 p5 σ) := by
  unfold vX9_feed
  refine y_aload_n dX9_feed_0 rfl rfl ?_
  refine y_getR fX9_44 (lcO_0 hC) rfl (lcR_0_6 hC) dX9_feed_1 ?_
  refine y_getI fX9_184 (lcO_61 hC) rfl dX9_feed_4 ?_
  refine y_bipush dX9_feed_7 (by decide) (by decide) ?_
  refine yk_iadd dX9_feed_9 ?_
  refine y_sipush dX9_feed_10 (by decide) (by decide) ?_
  refine y_ite (fun h1 => ?_) (fun h1 => ?_)
  · refine y_icmp_le_f dX9_feed_13 (t := 18) rfl h1 ?_
    refine y_iconst dX9_feed_16 (by decide) ?_
    exact y_iret rfl rfl dX9_feed_17
  · refine y_icmp_le_t dX9_feed_13 (t := 18) rfl h1 ?_
    refine y_aload_n dX9_feed_18 rfl rfl ?_
    refine y_getR fX9_44 (lcO_0 hC) rfl (lcR_0_6 hC) dX9_feed_19 ?_
    refine y_iload_n dX9_feed_22 rfl rfl ?_
    refine y_cvV (qX6_add hC p1 σ) kX9_187 rfl (lcO_61 hC) rfl (by decide) rfl (Nat.le_of_ble_eq_true rfl) dX9_feed_23 (fun σ2 => ?_)
    refine y_aload_n dX9_feed_26 rfl rfl ?_
    refine y_getR fX9_44 (lcO_0 hC) rfl (lcR_0_6 hC) dX9_feed_27 ?_
    refine y_iload_n dX9_feed_30 rfl rfl ?_
    refine y_cvV (qX6_add hC p2 σ2) kX9_187 rfl (lcO_61 hC) rfl (by decide) rfl (Nat.le_of_ble_eq_true rfl) dX9_feed_31 (fun σ3 => ?_)
    refine y_aload_n dX9_feed_34 rfl rfl ?_
    refine y_getR fX9_44 (lcO_0 hC) rfl (lcR_0_6 hC) dX9_feed_35 ?_
    refine y_iload_n dX9_feed_38 rfl rfl ?_
    refine y_cvV (qX6_add hC p3 σ3) kX9_187 rfl (lcO_61 hC) rfl (by decide) rfl (Nat.le_of_ble_eq_true rfl) dX9_feed_39 (fun σ4 => ?_)
    refine y_aload_n dX9_feed_42 rfl rfl ?_
    refine y_getR fX9_44 (lcO_0 hC) rfl (lcR_0_6 hC) dX9_feed_43 ?_
    refine y_iload dX9_feed_46 rfl ?_
    refine y_cvV (qX6_add hC p4 σ4) kX9_187 rfl (lcO_61 hC) rfl (by decide) rfl (Nat.le_of_ble_eq_true rfl) dX9_feed_48 (fun σ5 => ?_)
    refine y_aload_n dX9_feed_51 rfl rfl ?_
    refine y_getR fX9_44 (lcO_0 hC) rfl (lcR_0_6 hC) dX9_feed_52 ?_
    refine y_iload dX9_feed_55 rfl ?_
    refine y_cvV (qX6_add hC p5 σ5) kX9_187 rfl (lcO_61 hC) rfl (by decide) rfl (Nat.le_of_ble_eq_true rfl) dX9_feed_57 (fun σ6 => ?_)
    refine y_aload_n dX9_feed_60 rfl rfl ?_
    refine y_getR fX9_44 (lcO_0 hC) rfl (lcR_0_6 hC) dX9_feed_61 ?_
    refine y_getI fX9_184 (lcO_61 hC) rfl dX9_feed_64 ?_
    exact y_iret rfl rfl dX9_feed_67
theorem qX9_feed {K : Kt} (hC : cLay K) (p1 : Int) (p2 : Int) (p3 : Int) (p4 : Int) (p5 : Int) (σ : Sg) : Cc MX9_feed K [aR 0, aI p1, aI p2, aI p3, aI p4, aI p5] σ (emIS K) (vX9_feed K p1 p2 p3 p4 p5 σ) := cc_of plX9 (Nat.le_of_ble_eq_true rfl) (fun o _ => ⟨Nat.le_refl _, Nat.le_refl _⟩) (fun Γ => tX9_feed hC p1 p2 p3 p4 p5 σ)
noncomputable def vX9_end (K : Kt) (p1 : Int) (σ : Sg) : Option (Int × Sg) := (vX9_within p1 0 (σ 61 1) σ).bind (fun r1 => if r1 = 0 then (some ((-1), σ)) else (nm (up2 σ 61 1 p1) (fun σ3 => some (p1, σ3))))
set_option maxRecDepth 100000 in
set_option maxHeartbeats 4000000 in
theorem tX9_end {Γ : Gx} {K : Kt} (hC : cLay K) (p1 : Int) (σ : Sg) : Y Γ MX9_end K (emIS K) K 0 [some (aR 0), some (aI p1)] [] σ (vX9_end K p1 σ) := by
  unfold vX9_end
  refine y_iload_n dX9_end_0 rfl rfl ?_
  refine y_iconst dX9_end_1 (by decide) ?_
  refine y_aload_n dX9_end_2 rfl rfl ?_
  refine y_getR fX9_44 (lcO_0 hC) rfl (lcR_0_6 hC) dX9_end_3 ?_
  refine y_getI fX9_184 (lcO_61 hC) rfl dX9_end_6 ?_
  refine y_csI (qX9_within (K := K) p1 0 (σ 61 1) σ) kX9_96 rfl (by decide) rfl (Nat.le_of_ble_eq_true rfl) dX9_end_9 (fun r1 => ?_)
  refine y_ite (fun h2 => ?_) (fun h2 => ?_)
  · refine y_if_ne_f dX9_end_12 (t := 17) rfl h2 ?_
    refine y_iconst dX9_end_15 (by decide) ?_
    exact y_iret rfl rfl dX9_end_16
  · refine y_if_ne_t dX9_end_12 (t := 17) rfl h2 ?_
    refine y_aload_n dX9_end_17 rfl rfl ?_
    refine y_getR fX9_44 (lcO_0 hC) rfl (lcR_0_6 hC) dX9_end_18 ?_
    refine y_iload_n dX9_end_21 rfl rfl ?_
    refine yn_putI fX9_184 (lcO_61 hC) rfl rfl dX9_end_22 (fun σ3 => ?_)
    refine y_iload_n dX9_end_25 rfl rfl ?_
    exact y_iret rfl rfl dX9_end_26
theorem qX9_end {K : Kt} (hC : cLay K) (p1 : Int) (σ : Sg) : Cc MX9_end K [aR 0, aI p1] σ (emIS K) (vX9_end K p1 σ) := cc_of plX9 (Nat.le_of_ble_eq_true rfl) (fun o _ => ⟨Nat.le_refl _, Nat.le_refl _⟩) (fun Γ => tX9_end hC p1 σ)
noncomputable def vX9_bookFromTape (K : Kt) (p1 : Int) (σ : Sg) : Option (Int × Sg) := ck (in32 (p1 + 4)) (if (σ 61 1) < (p1 + 4) then (some (0, σ)) else (if (σ 13 1) < 8 then (ck (0 ≤ p1 ∧ p1 < 400) (nm (σ 62 p1.toNat) (fun z3 => ck (in32 (p1 + 1)) (ck (0 ≤ (p1 + 1) ∧ (p1 + 1) < 400) (nm (σ 62 (p1 + 1).toNat) (fun z4 => ck (in32 (p1 + 2)) (ck (0 ≤ (p1 + 2) ∧ (p1 + 2) < 400) (nm (σ 62 (p1 + 2).toNat) (fun z5 => ck (in32 (p1 + 3)) (ck (0 ≤ (p1 + 3) ∧ (p1 + 3) < 400) (ck (in32 ((σ 62 (p1 + 3).toNat) * 10)) (nm ((σ 62 (p1 + 3).toNat) * 10) (fun z6 => (vX9_bookCanBe z3 z4 z5 z6 σ).bind (fun r7 => if r7 = 0 then (some (0, σ)) else (bd2 (vX1_addBook K 13 z3 z4 z5 z6 σ) (fun r9 σ10 => some (1, σ10))))))))))))))))) else (some (0, σ))))
set_option maxRecDepth 100000 in
set_option maxHeartbeats 4000000 in
theorem tX9_bookFromTape {Γ : Gx} {K : Kt} (hC : cLay K) (p1 : Int) (σ : Sg) : Y Γ MX9_bookFromTape K (emIS K) K 0 [some (aR 0), some (aI p1), none, none, none, none] [] σ (vX9_bookFromTape K p1 σ) := by
  unfold vX9_bookFromTape
  refine y_iload_n dX9_bookFromTape_0 rfl rfl ?_
  refine y_iconst dX9_bookFromTape_1 (by decide) ?_
  refine yk_iadd dX9_bookFromTape_2 ?_
  refine y_aload_n dX9_bookFromTape_3 rfl rfl ?_
  refine y_getR fX9_44 (lcO_0 hC) rfl (lcR_0_6 hC) dX9_bookFromTape_4 ?_
  refine y_getI fX9_184 (lcO_61 hC) rfl dX9_bookFromTape_7 ?_
  refine y_ite (fun h1 => ?_) (fun h1 => ?_)
  · refine y_icmp_gt_t dX9_bookFromTape_10 (t := 25) rfl h1 ?_
    refine y_iconst dX9_bookFromTape_25 (by decide) ?_
    exact y_zret (by decide) rfl rfl dX9_bookFromTape_26
  · refine y_icmp_gt_f dX9_bookFromTape_10 (t := 25) rfl h1 ?_
    refine y_aload_n dX9_bookFromTape_13 rfl rfl ?_
    refine y_getR fX9_21 (lcO_0 hC) rfl (lcR_0_1 hC) dX9_bookFromTape_14 ?_
    refine y_getI fX9_104 (lcO_13 hC) rfl dX9_bookFromTape_17 ?_
    refine y_bipush dX9_bookFromTape_20 (by decide) (by decide) ?_
    refine y_ite (fun h2 => ?_) (fun h2 => ?_)
    · refine y_icmp_lt_t dX9_bookFromTape_22 (t := 27) rfl h2 ?_
      refine y_aload_n dX9_bookFromTape_27 rfl rfl ?_
      refine y_getR fX9_44 (lcO_0 hC) rfl (lcR_0_6 hC) dX9_bookFromTape_28 ?_
      refine y_getR fX9_194 (lcO_61 hC) rfl (lcR_61_0 hC) dX9_bookFromTape_31 ?_
      refine y_iload_n dX9_bookFromTape_34 rfl rfl ?_
      refine yk_iaload (lcA_62 hC) (N := 400) rfl (j := p1.toNat) rfl dX9_bookFromTape_35 ?_
      refine yn_istore_n dX9_bookFromTape_36 rfl (Nat.le_of_ble_eq_true rfl) (L' := fun z3 => [some (aR 0), some (aI p1), some (aI z3), none, none, none]) (fun _ => rfl) (fun z3 => ?_)
      refine y_aload_n dX9_bookFromTape_37 rfl rfl ?_
      refine y_getR fX9_44 (lcO_0 hC) rfl (lcR_0_6 hC) dX9_bookFromTape_38 ?_
      refine y_getR fX9_194 (lcO_61 hC) rfl (lcR_61_0 hC) dX9_bookFromTape_41 ?_
      refine y_iload_n dX9_bookFromTape_44 rfl rfl ?_
      refine y_iconst dX9_bookFromTape_45 (by decide) ?_
      refine yk_iadd dX9_bookFromTape_46 ?_
      refine yk_iaload (lcA_62 hC) (N := 400) rfl (j := (p1 + 1).toNat) rfl dX9_bookFromTape_47 ?_
      refine yn_istore_n dX9_bookFromTape_48 rfl (Nat.le_of_ble_eq_true rfl) (L' := fun z4 => [some (aR 0), some (aI p1), some (aI z3), some (aI z4), none, none]) (fun _ => rfl) (fun z4 => ?_)
      refine y_aload_n dX9_bookFromTape_49 rfl rfl ?_
      refine y_getR fX9_44 (lcO_0 hC) rfl (lcR_0_6 hC) dX9_bookFromTape_50 ?_
      refine y_getR fX9_194 (lcO_61 hC) rfl (lcR_61_0 hC) dX9_bookFromTape_53 ?_
      refine y_iload_n dX9_bookFromTape_56 rfl rfl ?_
      refine y_iconst dX9_bookFromTape_57 (by decide) ?_
      refine yk_iadd dX9_bookFromTape_58 ?_
      refine yk_iaload (lcA_62 hC) (N := 400) rfl (j := (p1 + 2).toNat) rfl dX9_bookFromTape_59 ?_
      refine yn_istore dX9_bookFromTape_60 (Nat.le_of_ble_eq_true rfl) (L' := fun z5 => [some (aR 0), some (aI p1), some (aI z3), some (aI z4), some (aI z5), none]) (fun _ => rfl) (fun z5 => ?_)
      refine y_aload_n dX9_bookFromTape_62 rfl rfl ?_
      refine y_getR fX9_44 (lcO_0 hC) rfl (lcR_0_6 hC) dX9_bookFromTape_63 ?_
      refine y_getR fX9_194 (lcO_61 hC) rfl (lcR_61_0 hC) dX9_bookFromTape_66 ?_
      refine y_iload_n dX9_bookFromTape_69 rfl rfl ?_
      refine y_iconst dX9_bookFromTape_70 (by decide) ?_
      refine yk_iadd dX9_bookFromTape_71 ?_
      refine yk_iaload (lcA_62 hC) (N := 400) rfl (j := (p1 + 3).toNat) rfl dX9_bookFromTape_72 ?_
      refine y_bipush dX9_bookFromTape_73 (by decide) (by decide) ?_
      refine yk_imul dX9_bookFromTape_75 ?_
      refine yn_istore dX9_bookFromTape_76 (Nat.le_of_ble_eq_true rfl) (L' := fun z6 => [some (aR 0), some (aI p1), some (aI z3), some (aI z4), some (aI z5), some (aI z6)]) (fun _ => rfl) (fun z6 => ?_)
      refine y_iload_n dX9_bookFromTape_78 rfl rfl ?_
      refine y_iload_n dX9_bookFromTape_79 rfl rfl ?_
      refine y_iload dX9_bookFromTape_80 rfl ?_
      refine y_iload dX9_bookFromTape_82 rfl ?_
      refine y_csI (qX9_bookCanBe (K := K) z3 z4 z5 z6 σ) kX9_100 rfl (by decide) rfl (Nat.le_of_ble_eq_true rfl) dX9_bookFromTape_84 (fun r7 => ?_)
      refine y_ite (fun h8 => ?_) (fun h8 => ?_)
      · refine y_if_ne_f dX9_bookFromTape_87 (t := 92) rfl h8 ?_
        refine y_iconst dX9_bookFromTape_90 (by decide) ?_
        exact y_zret (by decide) rfl rfl dX9_bookFromTape_91
      · refine y_if_ne_t dX9_bookFromTape_87 (t := 92) rfl h8 ?_
        refine y_aload_n dX9_bookFromTape_92 rfl rfl ?_
        refine y_getR fX9_21 (lcO_0 hC) rfl (lcR_0_1 hC) dX9_bookFromTape_93 ?_
        refine y_iload_n dX9_bookFromTape_96 rfl rfl ?_
        refine y_iload_n dX9_bookFromTape_97 rfl rfl ?_
        refine y_iload dX9_bookFromTape_98 rfl ?_
        refine y_iload dX9_bookFromTape_100 rfl ?_
        refine y_cvIS (qX1_addBook (hPre_13 hC) z3 z4 z5 z6 σ) kX9_110 rfl (lcO_13 hC) rfl (by decide) rfl (Nat.le_of_ble_eq_true rfl) dX9_bookFromTape_102 (fun r9 σ10 => ?_)
        refine y_pop dX9_bookFromTape_105 (fun _ => rfl) ?_
        refine y_iconst dX9_bookFromTape_106 (by decide) ?_
        exact y_zret (by decide) rfl rfl dX9_bookFromTape_107
    · refine y_icmp_lt_f dX9_bookFromTape_22 (t := 27) rfl h2 ?_
      refine y_iconst dX9_bookFromTape_25 (by decide) ?_
      exact y_zret (by decide) rfl rfl dX9_bookFromTape_26
theorem qX9_bookFromTape {K : Kt} (hC : cLay K) (p1 : Int) (σ : Sg) : Cc MX9_bookFromTape K [aR 0, aI p1] σ (emIS K) (vX9_bookFromTape K p1 σ) := cc_of plX9 (Nat.le_of_ble_eq_true rfl) (fun o _ => ⟨Nat.le_refl _, Nat.le_refl _⟩) (fun Γ => tX9_bookFromTape hC p1 σ)
noncomputable def vX9_row_33 (K : Kt) : Nat → Int → Int → Sg → Option (Int × Sg)
  | 0, _, _, _ => none
  | f + 1, x1, x2, σ => if x2 < (σ 61 1) then (bd2 (vX9_bookFromTape K x2 σ) (fun r2 σ3 => if r2 = 0 then (ck (in32 ((σ3 0 12) + 1)) (nm (up2 σ3 0 12 ((σ3 0 12) + 1)) (fun σ5 => ck (in32 (x2 + 4)) (vX9_row_33 K f x1 (x2 + 4) σ5)))) else (ck (in32 (x1 + 1)) (ck (in32 (x2 + 4)) (vX9_row_33 K f (x1 + 1) (x2 + 4) σ3))))) else (nm (up2 σ 61 1 0) (fun σ6 => bd2 (vX9_grant K x1 σ6) (fun r7 σ8 => some (r7, σ8))))
set_option maxRecDepth 100000 in
set_option maxHeartbeats 4000000 in
theorem tX9_row_33 {Γ : Gx} {K : Kt} (hC : cLay K) : ∀ (f : Nat) (x1 : Int) (x2 : Int) (σ : Sg), Y Γ MX9_row K (emIS K) K 33 [some (aR 0), some (aI x1), some (aI x2)] [] σ (vX9_row_33 K f x1 x2 σ) := by
  intro f
  induction f with
  | zero => intro x1 x2 σ; exact y_none
  | succ f ih =>
    intro x1 x2 σ
    rw [vX9_row_33]
    refine y_iload_n dX9_row_33 rfl rfl ?_
    refine y_aload_n dX9_row_34 rfl rfl ?_
    refine y_getR fX9_44 (lcO_0 hC) rfl (lcR_0_6 hC) dX9_row_35 ?_
    refine y_getI fX9_184 (lcO_61 hC) rfl dX9_row_38 ?_
    refine y_ite (fun h1 => ?_) (fun h1 => ?_)
    · refine y_icmp_ge_f dX9_row_41 (t := 74) rfl h1 ?_
      refine y_aload_n dX9_row_44 rfl rfl ?_
      refine y_iload_n dX9_row_45 rfl rfl ?_
      refine y_cvIS (qX9_bookFromTape hC x2 σ) kX9_191 rfl (lcO_0 hC) rfl (by decide) rfl (Nat.le_of_ble_eq_true rfl) dX9_row_46 (fun r2 σ3 => ?_)
      refine y_ite (fun h4 => ?_) (fun h4 => ?_)
      · refine y_if_eq_t dX9_row_49 (t := 58) rfl h4 ?_
        refine y_aload_n dX9_row_58 rfl rfl ?_
        refine y_dup dX9_row_59 (fun _ => rfl) ?_
        refine y_getI fX9_79 (lcO_0 hC) rfl dX9_row_60 ?_
        refine y_iconst dX9_row_63 (by decide) ?_
        refine yk_iadd dX9_row_64 ?_
        refine yn_putI fX9_79 (lcO_0 hC) rfl rfl dX9_row_65 (fun σ5 => ?_)
        refine yk_iinc dX9_row_68 rfl (L' := [some (aR 0), some (aI x1), some (aI (x2 + 4))]) rfl ?_
        refine y_goto dX9_row_71 (t := 33) rfl ?_
        exact ih x1 (x2 + 4) σ5
      · refine y_if_eq_f dX9_row_49 (t := 58) rfl h4 ?_
        refine yk_iinc dX9_row_52 rfl (L' := [some (aR 0), some (aI (x1 + 1)), some (aI x2)]) rfl ?_
        refine y_goto dX9_row_55 (t := 68) rfl ?_
        refine yk_iinc dX9_row_68 rfl (L' := [some (aR 0), some (aI (x1 + 1)), some (aI (x2 + 4))]) rfl ?_
        refine y_goto dX9_row_71 (t := 33) rfl ?_
        exact ih (x1 + 1) (x2 + 4) σ3
    · refine y_icmp_ge_t dX9_row_41 (t := 74) rfl h1 ?_
      refine y_aload_n dX9_row_74 rfl rfl ?_
      refine y_getR fX9_44 (lcO_0 hC) rfl (lcR_0_6 hC) dX9_row_75 ?_
      refine y_iconst dX9_row_78 (by decide) ?_
      refine yn_putI fX9_184 (lcO_61 hC) rfl rfl dX9_row_79 (fun σ6 => ?_)
      refine y_aload_n dX9_row_82 rfl rfl ?_
      refine y_iload_n dX9_row_83 rfl rfl ?_
      refine y_cvIS (qX9_grant hC x1 σ6) kX9_93 rfl (lcO_0 hC) rfl (by decide) rfl (Nat.le_of_ble_eq_true rfl) dX9_row_84 (fun r7 σ8 => ?_)
      exact y_iret rfl rfl dX9_row_87
noncomputable def vX9_row (K : Kt) (σ : Sg) : Option (Int × Sg) := if (σ 61 1) = 0 then (bd2 (vX9_refuse K (-6) σ) (fun r2 σ3 => some (r2, σ3))) else ((vX8_forget K 27 σ).bind (fun σ4 => nm (up2 σ4 0 12 0) (fun σ5 => vX9_row_33 K FU 0 0 σ5)))
set_option maxRecDepth 100000 in
set_option maxHeartbeats 4000000 in
theorem tX9_row {Γ : Gx} {K : Kt} (hC : cLay K) (σ : Sg) : Y Γ MX9_row K (emIS K) K 0 [some (aR 0), none, none] [] σ (vX9_row K σ) := by
  unfold vX9_row
  refine y_aload_n dX9_row_0 rfl rfl ?_
  refine y_getR fX9_44 (lcO_0 hC) rfl (lcR_0_6 hC) dX9_row_1 ?_
  refine y_getI fX9_184 (lcO_61 hC) rfl dX9_row_4 ?_
  refine y_ite (fun h1 => ?_) (fun h1 => ?_)
  · refine y_if_ne_f dX9_row_7 (t := 17) rfl h1 ?_
    refine y_aload_n dX9_row_10 rfl rfl ?_
    refine y_bipush dX9_row_11 (by decide) (by decide) ?_
    refine y_cvIS (qX9_refuse hC (-6) σ) kX9_89 rfl (lcO_0 hC) rfl (by decide) rfl (Nat.le_of_ble_eq_true rfl) dX9_row_13 (fun r2 σ3 => ?_)
    exact y_iret rfl rfl dX9_row_16
  · refine y_if_ne_t dX9_row_7 (t := 17) rfl h1 ?_
    refine y_aload_n dX9_row_17 rfl rfl ?_
    refine y_getR fX9_28 (lcO_0 hC) rfl (lcR_0_2 hC) dX9_row_18 ?_
    refine y_cvV (qX8_forget (uAt_27 hC) σ) kX9_107 rfl (lcO_27 hC) rfl (by decide) rfl (Nat.le_of_ble_eq_true rfl) dX9_row_21 (fun σ4 => ?_)
    refine y_iconst dX9_row_24 (by decide) ?_
    refine y_istore_n dX9_row_25 rfl (Nat.le_of_ble_eq_true rfl) (L' := [some (aR 0), some (aI 0), none]) rfl ?_
    refine y_aload_n dX9_row_26 rfl rfl ?_
    refine y_iconst dX9_row_27 (by decide) ?_
    refine yn_putI fX9_79 (lcO_0 hC) rfl rfl dX9_row_28 (fun σ5 => ?_)
    refine y_iconst dX9_row_31 (by decide) ?_
    refine y_istore_n dX9_row_32 rfl (Nat.le_of_ble_eq_true rfl) (L' := [some (aR 0), some (aI 0), some (aI 0)]) rfl ?_
    exact tX9_row_33 hC FU 0 0 σ5
theorem qX9_row {K : Kt} (hC : cLay K) (σ : Sg) : Cc MX9_row K [aR 0] σ (emIS K) (vX9_row K σ) := cc_of plX9 (Nat.le_of_ble_eq_true rfl) (fun o _ => ⟨Nat.le_refl _, Nat.le_refl _⟩) (fun Γ => tX9_row hC σ)
noncomputable def vX9_slips (K : Kt) (σ : Sg) : Option (Int) := some (σ 0 12)
set_option maxRecDepth 100000 in
set_option maxHeartbeats 4000000 in
theorem tX9_slips {Γ : Gx} {K : Kt} (hC : cLay K) (σ : Sg) : Y Γ MX9_slips K (emI K σ) K 0 [some (aR 0)] [] σ (vX9_slips K σ) := by
  unfold vX9_slips
  refine y_aload_n dX9_slips_0 rfl rfl ?_
  refine y_getI fX9_79 (lcO_0 hC) rfl dX9_slips_1 ?_
  exact y_iret rfl rfl dX9_slips_4
theorem qX9_slips {K : Kt} (hC : cLay K) (σ : Sg) : Cc MX9_slips K [aR 0] σ (emI K σ) (vX9_slips K σ) := cc_of plX9 (Nat.le_of_ble_eq_true rfl) (fun o _ => ⟨Nat.le_refl _, Nat.le_refl _⟩) (fun Γ => tX9_slips hC σ)
noncomputable def vX9_valueOf (K : Kt) (p1 : Nat) (p2 : Int) (σ : Sg) : Option (Int × Sg) := bd2 (vX5_value K p1 p2 82 σ) (fun r1 σ2 => some (r1, σ2))
set_option maxRecDepth 100000 in
set_option maxHeartbeats 4000000 in
theorem tX9_valueOf {Γ : Gx} {K : Kt} (hC : cLay K) (p1 : Nat) (p2 : Int) (σ : Sg) : Y Γ MX9_valueOf K (emIS K) K 0 [some (aR 0), some (aR p1), some (aI p2)] [] σ (vX9_valueOf K p1 p2 σ) := by
  unfold vX9_valueOf
  refine y_aload_n dX9_valueOf_0 rfl rfl ?_
  refine y_getR fX9_12 (lcO_0 hC) rfl (lcR_0_0 hC) dX9_valueOf_1 ?_
  refine y_getR fX9_256 (lcO_1 hC) rfl (lcR_1_2 hC) dX9_valueOf_4 ?_
  refine y_aload_n dX9_valueOf_7 rfl rfl ?_
  refine y_iload_n dX9_valueOf_8 rfl rfl ?_
  refine y_aload_n dX9_valueOf_9 rfl rfl ?_
  refine y_getR fX9_72 (lcO_0 hC) rfl (lcR_0_10 hC) dX9_valueOf_10 ?_
  refine y_cvIS (qX5_value hC p1 p2 82 σ) kX9_260 rfl (lcO_10 hC) rfl (by decide) rfl (Nat.le_of_ble_eq_true rfl) dX9_valueOf_13 (fun r1 σ2 => ?_)
  exact y_iret rfl rfl dX9_valueOf_16
theorem qX9_valueOf {K : Kt} (hC : cLay K) (p1 : Nat) (p2 : Int) (σ : Sg) : Cc MX9_valueOf K [aR 0, aR p1, aI p2] σ (emIS K) (vX9_valueOf K p1 p2 σ) := cc_of plX9 (Nat.le_of_ble_eq_true rfl) (fun o _ => ⟨Nat.le_refl _, Nat.le_refl _⟩) (fun Γ => tX9_valueOf hC p1 p2 σ)
noncomputable def vX9_tellOrderWords_100 (K : Kt) (rec_30 : Int → Sg → Option (Sg)) (x1 : Int) (y1 : Int) (y2 : Int) (σ : Sg) : Option (Sg) := ck (0 ≤ y1 ∧ y1 < 24) (nm (up2 σ 82 y1.toNat y2) (fun σ1 => ck (in32 (x1 + 1)) (rec_30 (x1 + 1) σ1)))
set_option maxRecDepth 100000 in
set_option maxHeartbeats 4000000 in
theorem tX9_tellOrderWords_100 {Γ : Gx} {K : Kt} (hC : cLay K) (rec_30 : Int → Sg → Option (Sg)) (hrec_30 : ∀ (x1 : Int) (σ : Sg), Y Γ MX9_tellOrderWords K (emV K) K 30 [some (aR 0), some (aI x1)] [] σ (rec_30 x1 σ)) (x1 : Int) (y1 : Int) (y2 : Int) (σ : Sg) : Y Γ MX9_tellOrderWords K (emV K) K 100 [some (aR 0), some (aI x1)] [aI y2, aI y1, aR 82] σ (vX9_tellOrderWords_100 K rec_30 x1 y1 y2 σ) := by
  unfold vX9_tellOrderWords_100
  refine yk_iastore (lcA_82 hC) (N := 24) rfl (j := y1.toNat) rfl dX9_tellOrderWords_100 (fun σ1 => ?_)
  refine yk_iinc dX9_tellOrderWords_101 rfl (L' := [some (aR 0), some (aI (x1 + 1))]) rfl ?_
  refine y_goto dX9_tellOrderWords_104 (t := 30) rfl ?_
  exact hrec_30 (x1 + 1) σ1
noncomputable def vX9_tellOrderWords_67 (K : Kt) (rec_30 : Int → Sg → Option (Sg)) (x1 : Int) (y1 : Int) (y2 : Int) (σ : Sg) : Option (Sg) := ck (0 ≤ y1 ∧ y1 < 24) (nm (up2 σ 82 y1.toNat y2) (fun σ1 => ck (in32 (10 + x1)) ((vX1_hasReader K 13 x1 σ1).bind (fun r2 => if r2 = 0 then (vX9_tellOrderWords_100 K rec_30 x1 (10 + x1) (-1) σ1) else (ck (0 ≤ x1 ∧ x1 < 6) (vX9_tellOrderWords_100 K rec_30 x1 (10 + x1) (σ1 20 x1.toNat) σ1))))))
set_option maxRecDepth 100000 in
set_option maxHeartbeats 4000000 in
theorem tX9_tellOrderWords_67 {Γ : Gx} {K : Kt} (hC : cLay K) (rec_30 : Int → Sg → Option (Sg)) (hrec_30 : ∀ (x1 : Int) (σ : Sg), Y Γ MX9_tellOrderWords K (emV K) K 30 [some (aR 0), some (aI x1)] [] σ (rec_30 x1 σ)) (x1 : Int) (y1 : Int) (y2 : Int) (σ : Sg) : Y Γ MX9_tellOrderWords K (emV K) K 67 [some (aR 0), some (aI x1)] [aI y2, aI y1, aR 82] σ (vX9_tellOrderWords_67 K rec_30 x1 y1 y2 σ) := by
  unfold vX9_tellOrderWords_67
  refine yk_iastore (lcA_82 hC) (N := 24) rfl (j := y1.toNat) rfl dX9_tellOrderWords_67 (fun σ1 => ?_)
  refine y_aload_n dX9_tellOrderWords_68 rfl rfl ?_
  refine y_getR fX9_72 (lcO_0 hC) rfl (lcR_0_10 hC) dX9_tellOrderWords_69 ?_
  refine y_bipush dX9_tellOrderWords_72 (by decide) (by decide) ?_
  refine y_iload_n dX9_tellOrderWords_74 rfl rfl ?_
  refine yk_iadd dX9_tellOrderWords_75 ?_
  refine y_aload_n dX9_tellOrderWords_76 rfl rfl ?_
  refine y_getR fX9_21 (lcO_0 hC) rfl (lcR_0_1 hC) dX9_tellOrderWords_77 ?_
  refine y_iload_n dX9_tellOrderWords_80 rfl rfl ?_
  refine y_cvI (qX1_hasReader (hPre_13 hC) x1 σ1) kX9_140 rfl (lcO_13 hC) rfl (by decide) rfl (Nat.le_of_ble_eq_true rfl) dX9_tellOrderWords_81 (fun r2 => ?_)
  refine y_ite (fun h3 => ?_) (fun h3 => ?_)
  · refine y_if_eq_t dX9_tellOrderWords_84 (t := 99) rfl h3 ?_
    refine y_iconst dX9_tellOrderWords_99 (by decide) ?_
    exact tX9_tellOrderWords_100 hC rec_30 hrec_30 x1 (10 + x1) (-1) σ1
  · refine y_if_eq_f dX9_tellOrderWords_84 (t := 99) rfl h3 ?_
    refine y_aload_n dX9_tellOrderWords_87 rfl rfl ?_
    refine y_getR fX9_21 (lcO_0 hC) rfl (lcR_0_1 hC) dX9_tellOrderWords_88 ?_
    refine y_getR fX9_149 (lcO_13 hC) rfl (lcR_13_10 hC) dX9_tellOrderWords_91 ?_
    refine y_iload_n dX9_tellOrderWords_94 rfl rfl ?_
    refine yk_iaload (lcA_20 hC) (N := 6) rfl (j := x1.toNat) rfl dX9_tellOrderWords_95 ?_
    refine y_goto dX9_tellOrderWords_96 (t := 100) rfl ?_
    exact tX9_tellOrderWords_100 hC rec_30 hrec_30 x1 (10 + x1) (σ1 20 x1.toNat) σ1
noncomputable def vX9_tellOrderWords_147 (K : Kt) (rec_109 : Int → Sg → Option (Sg)) (x1 : Int) (y1 : Int) (y2 : Int) (σ : Sg) : Option (Sg) := ck (0 ≤ y1 ∧ y1 < 24) (nm (up2 σ 82 y1.toNat y2) (fun σ1 => ck (in32 (x1 + 1)) (rec_109 (x1 + 1) σ1)))
set_option maxRecDepth 100000 in
set_option maxHeartbeats 4000000 in
theorem tX9_tellOrderWords_147 {Γ : Gx} {K : Kt} (hC : cLay K) (rec_109 : Int → Sg → Option (Sg)) (hrec_109 : ∀ (x1 : Int) (σ : Sg), Y Γ MX9_tellOrderWords K (emV K) K 109 [some (aR 0), some (aI x1)] [] σ (rec_109 x1 σ)) (x1 : Int) (y1 : Int) (y2 : Int) (σ : Sg) : Y Γ MX9_tellOrderWords K (emV K) K 147 [some (aR 0), some (aI x1)] [aI y2, aI y1, aR 82] σ (vX9_tellOrderWords_147 K rec_109 x1 y1 y2 σ) := by
  unfold vX9_tellOrderWords_147
  refine yk_iastore (lcA_82 hC) (N := 24) rfl (j := y1.toNat) rfl dX9_tellOrderWords_147 (fun σ1 => ?_)
  refine yk_iinc dX9_tellOrderWords_148 rfl (L' := [some (aR 0), some (aI (x1 + 1))]) rfl ?_
  refine y_goto dX9_tellOrderWords_151 (t := 109) rfl ?_
  exact hrec_109 (x1 + 1) σ1
noncomputable def vX9_tellOrderWords_109 (K : Kt) : Nat → Int → Sg → Option (Sg)
  | 0, _, _ => none
  | f + 1, x1, σ => if x1 < 8 then (ck (in32 (16 + x1)) ((vX1_hasBook K 13 x1 σ).bind (fun r2 => if r2 = 0 then (vX9_tellOrderWords_147 K (vX9_tellOrderWords_109 K f) x1 (16 + x1) (-1) σ) else (ck (0 ≤ x1 ∧ x1 < 8) (vX9_tellOrderWords_147 K (vX9_tellOrderWords_109 K f) x1 (16 + x1) (σ 17 x1.toNat) σ))))) else (some σ)
set_option maxRecDepth 100000 in
set_option maxHeartbeats 4000000 in
theorem tX9_tellOrderWords_109 {Γ : Gx} {K : Kt} (hC : cLay K) : ∀ (f : Nat) (x1 : Int) (σ : Sg), Y Γ MX9_tellOrderWords K (emV K) K 109 [some (aR 0), some (aI x1)] [] σ (vX9_tellOrderWords_109 K f x1 σ) := by
  intro f
  induction f with
  | zero => intro x1 σ; exact y_none
  | succ f ih =>
    intro x1 σ
    rw [vX9_tellOrderWords_109]
    refine y_iload_n dX9_tellOrderWords_109 rfl rfl ?_
    refine y_bipush dX9_tellOrderWords_110 (by decide) (by decide) ?_
    refine y_ite (fun h1 => ?_) (fun h1 => ?_)
    · refine y_icmp_ge_f dX9_tellOrderWords_112 (t := 154) rfl h1 ?_
      refine y_aload_n dX9_tellOrderWords_115 rfl rfl ?_
      refine y_getR fX9_72 (lcO_0 hC) rfl (lcR_0_10 hC) dX9_tellOrderWords_116 ?_
      refine y_bipush dX9_tellOrderWords_119 (by decide) (by decide) ?_
      refine y_iload_n dX9_tellOrderWords_121 rfl rfl ?_
      refine yk_iadd dX9_tellOrderWords_122 ?_
      refine y_aload_n dX9_tellOrderWords_123 rfl rfl ?_
      refine y_getR fX9_21 (lcO_0 hC) rfl (lcR_0_1 hC) dX9_tellOrderWords_124 ?_
      refine y_iload_n dX9_tellOrderWords_127 rfl rfl ?_
      refine y_cvI (qX1_hasBook (hPre_13 hC) x1 σ) kX9_114 rfl (lcO_13 hC) rfl (by decide) rfl (Nat.le_of_ble_eq_true rfl) dX9_tellOrderWords_128 (fun r2 => ?_)
      refine y_ite (fun h3 => ?_) (fun h3 => ?_)
      · refine y_if_eq_t dX9_tellOrderWords_131 (t := 146) rfl h3 ?_
        refine y_iconst dX9_tellOrderWords_146 (by decide) ?_
        exact tX9_tellOrderWords_147 hC (vX9_tellOrderWords_109 K f) ih x1 (16 + x1) (-1) σ
      · refine y_if_eq_f dX9_tellOrderWords_131 (t := 146) rfl h3 ?_
        refine y_aload_n dX9_tellOrderWords_134 rfl rfl ?_
        refine y_getR fX9_21 (lcO_0 hC) rfl (lcR_0_1 hC) dX9_tellOrderWords_135 ?_
        refine y_getR fX9_127 (lcO_13 hC) rfl (lcR_13_7 hC) dX9_tellOrderWords_138 ?_
        refine y_iload_n dX9_tellOrderWords_141 rfl rfl ?_
        refine yk_iaload (lcA_17 hC) (N := 8) rfl (j := x1.toNat) rfl dX9_tellOrderWords_142 ?_
        refine y_goto dX9_tellOrderWords_143 (t := 147) rfl ?_
        exact tX9_tellOrderWords_147 hC (vX9_tellOrderWords_109 K f) ih x1 (16 + x1) (σ 17 x1.toNat) σ
    · refine y_icmp_ge_t dX9_tellOrderWords_112 (t := 154) rfl h1 ?_
      exact y_vret rfl rfl dX9_tellOrderWords_154
noncomputable def vX9_tellOrderWords_30 (K : Kt) : Nat → Int → Sg → Option (Sg)
  | 0, _, _ => none
  | f + 1, x1, σ => if x1 < 6 then (ck (in32 (4 + x1)) ((vX1_hasReader K 13 x1 σ).bind (fun r2 => if r2 = 0 then (vX9_tellOrderWords_67 K (vX9_tellOrderWords_30 K f) x1 (4 + x1) (-1) σ) else (ck (0 ≤ x1 ∧ x1 < 6) (vX9_tellOrderWords_67 K (vX9_tellOrderWords_30 K f) x1 (4 + x1) (σ 21 x1.toNat) σ))))) else (vX9_tellOrderWords_109 K FU 0 σ)
set_option maxRecDepth 100000 in
set_option maxHeartbeats 4000000 in
theorem tX9_tellOrderWords_30 {Γ : Gx} {K : Kt} (hC : cLay K) : ∀ (f : Nat) (x1 : Int) (σ : Sg), Y Γ MX9_tellOrderWords K (emV K) K 30 [some (aR 0), some (aI x1)] [] σ (vX9_tellOrderWords_30 K f x1 σ) := by
  intro f
  induction f with
  | zero => intro x1 σ; exact y_none
  | succ f ih =>
    intro x1 σ
    rw [vX9_tellOrderWords_30]
    refine y_iload_n dX9_tellOrderWords_30 rfl rfl ?_
    refine y_bipush dX9_tellOrderWords_31 (by decide) (by decide) ?_
    refine y_ite (fun h1 => ?_) (fun h1 => ?_)
    · refine y_icmp_ge_f dX9_tellOrderWords_33 (t := 107) rfl h1 ?_
      refine y_aload_n dX9_tellOrderWords_36 rfl rfl ?_
      refine y_getR fX9_72 (lcO_0 hC) rfl (lcR_0_10 hC) dX9_tellOrderWords_37 ?_
      refine y_iconst dX9_tellOrderWords_40 (by decide) ?_
      refine y_iload_n dX9_tellOrderWords_41 rfl rfl ?_
      refine yk_iadd dX9_tellOrderWords_42 ?_
      refine y_aload_n dX9_tellOrderWords_43 rfl rfl ?_
      refine y_getR fX9_21 (lcO_0 hC) rfl (lcR_0_1 hC) dX9_tellOrderWords_44 ?_
      refine y_iload_n dX9_tellOrderWords_47 rfl rfl ?_
      refine y_cvI (qX1_hasReader (hPre_13 hC) x1 σ) kX9_140 rfl (lcO_13 hC) rfl (by decide) rfl (Nat.le_of_ble_eq_true rfl) dX9_tellOrderWords_48 (fun r2 => ?_)
      refine y_ite (fun h3 => ?_) (fun h3 => ?_)
      · refine y_if_eq_t dX9_tellOrderWords_51 (t := 66) rfl h3 ?_
        refine y_iconst dX9_tellOrderWords_66 (by decide) ?_
        exact tX9_tellOrderWords_67 hC (vX9_tellOrderWords_30 K f) ih x1 (4 + x1) (-1) σ
      · refine y_if_eq_f dX9_tellOrderWords_51 (t := 66) rfl h3 ?_
        refine y_aload_n dX9_tellOrderWords_54 rfl rfl ?_
        refine y_getR fX9_21 (lcO_0 hC) rfl (lcR_0_1 hC) dX9_tellOrderWords_55 ?_
        refine y_getR fX9_152 (lcO_13 hC) rfl (lcR_13_11 hC) dX9_tellOrderWords_58 ?_
        refine y_iload_n dX9_tellOrderWords_61 rfl rfl ?_
        refine yk_iaload (lcA_21 hC) (N := 6) rfl (j := x1.toNat) rfl dX9_tellOrderWords_62 ?_
        refine y_goto dX9_tellOrderWords_63 (t := 67) rfl ?_
        exact tX9_tellOrderWords_67 hC (vX9_tellOrderWords_30 K f) ih x1 (4 + x1) (σ 21 x1.toNat) σ
    · refine y_icmp_ge_t dX9_tellOrderWords_33 (t := 107) rfl h1 ?_
      refine y_iconst dX9_tellOrderWords_107 (by decide) ?_
      refine y_istore_n dX9_tellOrderWords_108 rfl (Nat.le_of_ble_eq_true rfl) (L' := [some (aR 0), some (aI 0)]) rfl ?_
      exact tX9_tellOrderWords_109 hC FU 0 σ
noncomputable def vX9_tellOrderWords (K : Kt) (σ : Sg) : Option (Sg) := nm (up2 σ 82 0 (σ 26 0)) (fun σ1 => nm (up2 σ1 82 3 (σ1 13 3)) (fun σ2 => vX9_tellOrderWords_30 K FU 0 σ2))
set_option maxRecDepth 100000 in
set_option maxHeartbeats 4000000 in
theorem tX9_tellOrderWords {Γ : Gx} {K : Kt} (hC : cLay K) (σ : Sg) : Y Γ MX9_tellOrderWords K (emV K) K 0 [some (aR 0), none] [] σ (vX9_tellOrderWords K σ) := by
  unfold vX9_tellOrderWords
  refine y_aload_n dX9_tellOrderWords_0 rfl rfl ?_
  refine y_getR fX9_72 (lcO_0 hC) rfl (lcR_0_10 hC) dX9_tellOrderWords_1 ?_
  refine y_iconst dX9_tellOrderWords_4 (by decide) ?_
  refine y_aload_n dX9_tellOrderWords_5 rfl rfl ?_
  refine y_getR fX9_21 (lcO_0 hC) rfl (lcR_0_1 hC) dX9_tellOrderWords_6 ?_
  refine y_getR fX9_181 (lcO_13 hC) rfl (lcR_13_16 hC) dX9_tellOrderWords_9 ?_
  refine y_iconst dX9_tellOrderWords_12 (by decide) ?_
  refine yl_iaload (lcA_26 hC) (by decide) (j := 0) rfl dX9_tellOrderWords_13 ?_
  refine yl_iastore (lcA_82 hC) (by decide) (j := 0) rfl dX9_tellOrderWords_14 (fun σ1 => ?_)
  refine y_aload_n dX9_tellOrderWords_15 rfl rfl ?_
  refine y_getR fX9_72 (lcO_0 hC) rfl (lcR_0_10 hC) dX9_tellOrderWords_16 ?_
  refine y_iconst dX9_tellOrderWords_19 (by decide) ?_
  refine y_aload_n dX9_tellOrderWords_20 rfl rfl ?_
  refine y_getR fX9_21 (lcO_0 hC) rfl (lcR_0_1 hC) dX9_tellOrderWords_21 ?_
  refine y_getI fX9_266 (lcO_13 hC) rfl dX9_tellOrderWords_24 ?_
  refine yl_iastore (lcA_82 hC) (by decide) (j := 3) rfl dX9_tellOrderWords_27 (fun σ2 => ?_)
  refine y_iconst dX9_tellOrderWords_28 (by decide) ?_
  refine y_istore_n dX9_tellOrderWords_29 rfl (Nat.le_of_ble_eq_true rfl) (L' := [some (aR 0), some (aI 0)]) rfl ?_
  exact tX9_tellOrderWords_30 hC FU 0 σ2
theorem qX9_tellOrderWords {K : Kt} (hC : cLay K) (σ : Sg) : Cc MX9_tellOrderWords K [aR 0] σ (emV K) (vX9_tellOrderWords K σ) := cc_of plX9 (Nat.le_of_ble_eq_true rfl) (fun o _ => ⟨Nat.le_refl _, Nat.le_refl _⟩) (fun Γ => tX9_tellOrderWords hC σ)
noncomputable def vX9_fault (K : Kt) (σ : Sg) : Option (Int) := some (σ 63 2)
set_option maxRecDepth 100000 in
set_option maxHeartbeats 4000000 in
theorem tX9_fault {Γ : Gx} {K : Kt} (hC : cLay K) (σ : Sg) : Y Γ MX9_fault K (emI K σ) K 0 [some (aR 0)] [] σ (vX9_fault K σ) := by
  unfold vX9_fault
  refine y_aload_n dX9_fault_0 rfl rfl ?_
  refine y_getR fX9_53 (lcO_0 hC) rfl (lcR_0_7 hC) dX9_fault_1 ?_
  refine y_getI fX9_298 (lcO_63 hC) rfl dX9_fault_4 ?_
  exact y_iret rfl rfl dX9_fault_7
theorem qX9_fault {K : Kt} (hC : cLay K) (σ : Sg) : Cc MX9_fault K [aR 0] σ (emI K σ) (vX9_fault K σ) := cc_of plX9 (Nat.le_of_ble_eq_true rfl) (fun o _ => ⟨Nat.le_refl _, Nat.le_refl _⟩) (fun Γ => tX9_fault hC σ)
noncomputable def vX9_stopped (K : Kt) (σ : Sg) : Option (Int) := some (σ 0 13)
set_option maxRecDepth 100000 in
set_option maxHeartbeats 4000000 in
theorem tX9_stopped {Γ : Gx} {K : Kt} (hC : cLay K) (σ : Sg) : Y Γ MX9_stopped K (emI K σ) K 0 [some (aR 0)] [] σ (vX9_stopped K σ) := by
  unfold vX9_stopped
  refine y_aload_n dX9_stopped_0 rfl rfl ?_
  refine y_getI fX9_83 (lcO_0 hC) rfl dX9_stopped_1 ?_
  exact y_iret rfl rfl dX9_stopped_4
theorem qX9_stopped {K : Kt} (hC : cLay K) (σ : Sg) : Cc MX9_stopped K [aR 0] σ (emI K σ) (vX9_stopped K σ) := cc_of plX9 (Nat.le_of_ble_eq_true rfl) (fun o _ => ⟨Nat.le_refl _, Nat.le_refl _⟩) (fun Γ => tX9_stopped hC σ)
noncomputable def vX9_force_23 (K : Kt) (x1 : Int) (σ : Sg) : Option (Int × Sg) := nm (σ 1 5) (fun z1 => nm (up2 σ 1 5 x1) (fun σ2 => bd2 (vX9_grant K z1 σ2) (fun r3 σ4 => some (r3, σ4))))
set_option maxRecDepth 100000 in
set_option maxHeartbeats 4000000 in
theorem tX9_force_23 {Γ : Gx} {K : Kt} (hC : cLay K) (x1 : Int) (σ : Sg) : Y Γ MX9_force K (emIS K) K 23 [some (aR 0), some (aI x1), none] [] σ (vX9_force_23 K x1 σ) := by
  unfold vX9_force_23
  refine y_aload_n dX9_force_23 rfl rfl ?_
  refine y_getR fX9_12 (lcO_0 hC) rfl (lcR_0_0 hC) dX9_force_24 ?_
  refine y_getI fX9_161 (lcO_1 hC) rfl dX9_force_27 ?_
  refine yn_istore_n dX9_force_30 rfl (Nat.le_of_ble_eq_true rfl) (L' := fun z1 => [some (aR 0), some (aI x1), some (aI z1)]) (fun _ => rfl) (fun z1 => ?_)
  refine y_aload_n dX9_force_31 rfl rfl ?_
  refine y_getR fX9_12 (lcO_0 hC) rfl (lcR_0_0 hC) dX9_force_32 ?_
  refine y_iload_n dX9_force_35 rfl rfl ?_
  refine yn_putI fX9_161 (lcO_1 hC) rfl rfl dX9_force_36 (fun σ2 => ?_)
  refine y_aload_n dX9_force_39 rfl rfl ?_
  refine y_iload_n dX9_force_40 rfl rfl ?_
  refine y_cvIS (qX9_grant hC z1 σ2) kX9_93 rfl (lcO_0 hC) rfl (by decide) rfl (Nat.le_of_ble_eq_true rfl) dX9_force_41 (fun r3 σ4 => ?_)
  exact y_iret rfl rfl dX9_force_44
noncomputable def vX9_force (K : Kt) (p1 : Int) (σ : Sg) : Option (Int × Sg) := if p1 = (-1) then (vX9_force_23 K p1 σ) else ((vX3_has K p1 σ).bind (fun r2 => if r2 = 0 then (bd2 (vX9_refuse K (-2) σ) (fun r4 σ5 => some (r4, σ5))) else (vX9_force_23 K p1 σ)))
set_option maxRecDepth 100000 in
set_option maxHeartbeats 4000000 in
theorem tX9_force {Γ : Gx} {K : Kt} (hC : cLay K) (p1 : Int) (σ : Sg) : Y Γ MX9_force K (emIS K) K 0 [some (aR 0), some (aI p1), none] [] σ (vX9_force K p1 σ) := by
  unfold vX9_force
  refine y_iload_n dX9_force_0 rfl rfl ?_
  refine y_iconst dX9_force_1 (by decide) ?_
  refine y_ite (fun h1 => ?_) (fun h1 => ?_)
  · refine y_icmp_eq_t dX9_force_2 (t := 23) rfl h1 ?_
    exact tX9_force_23 hC p1 σ
  · refine y_icmp_eq_f dX9_force_2 (t := 23) rfl h1 ?_
    refine y_aload_n dX9_force_5 rfl rfl ?_
    refine y_getR fX9_12 (lcO_0 hC) rfl (lcR_0_0 hC) dX9_force_6 ?_
    refine y_iload_n dX9_force_9 rfl rfl ?_
    refine y_cvI (qX3_has hC p1 σ) kX9_301 rfl (lcO_1 hC) rfl (by decide) rfl (Nat.le_of_ble_eq_true rfl) dX9_force_10 (fun r2 => ?_)
    refine y_ite (fun h3 => ?_) (fun h3 => ?_)
    · refine y_if_ne_f dX9_force_13 (t := 23) rfl h3 ?_
      refine y_aload_n dX9_force_16 rfl rfl ?_
      refine y_bipush dX9_force_17 (by decide) (by decide) ?_
      refine y_cvIS (qX9_refuse hC (-2) σ) kX9_89 rfl (lcO_0 hC) rfl (by decide) rfl (Nat.le_of_ble_eq_true rfl) dX9_force_19 (fun r4 σ5 => ?_)
      exact y_iret rfl rfl dX9_force_22
    · refine y_if_ne_t dX9_force_13 (t := 23) rfl h3 ?_
      exact tX9_force_23 hC p1 σ
theorem qX9_force {K : Kt} (hC : cLay K) (p1 : Int) (σ : Sg) : Cc MX9_force K [aR 0, aI p1] σ (emIS K) (vX9_force K p1 σ) := cc_of plX9 (Nat.le_of_ble_eq_true rfl) (fun o _ => ⟨Nat.le_refl _, Nat.le_refl _⟩) (fun Γ => tX9_force hC p1 σ)
noncomputable def vX9_undo (K : Kt) (σ : Sg) : Option (Int × Sg) := if (σ 27 3) = 0 then (bd2 (vX9_refuse K (-3) σ) (fun r2 σ3 => some (r2, σ3))) else (bd2 (vX8_takeBack K 27 13 σ) (fun r4 σ5 => bd2 (vX9_grant K r4 σ5) (fun r6 σ7 => some (r6, σ7))))
set_option maxRecDepth 100000 in
set_option maxHeartbeats 4000000 in
theorem tX9_undo {Γ : Gx} {K : Kt} (hC : cLay K) (σ : Sg) : Y Γ MX9_undo K (emIS K) K 0 [some (aR 0)] [] σ (vX9_undo K σ) := by
  unfold vX9_undo
  refine y_aload_n dX9_undo_0 rfl rfl ?_
  refine y_getR fX9_28 (lcO_0 hC) rfl (lcR_0_2 hC) dX9_undo_1 ?_
  refine y_getI fX9_307 (lcO_27 hC) rfl dX9_undo_4 ?_
  refine y_ite (fun h1 => ?_) (fun h1 => ?_)
  · refine y_if_ne_f dX9_undo_7 (t := 17) rfl h1 ?_
    refine y_aload_n dX9_undo_10 rfl rfl ?_
    refine y_bipush dX9_undo_11 (by decide) (by decide) ?_
    refine y_cvIS (qX9_refuse hC (-3) σ) kX9_89 rfl (lcO_0 hC) rfl (by decide) rfl (Nat.le_of_ble_eq_true rfl) dX9_undo_13 (fun r2 σ3 => ?_)
    exact y_iret rfl rfl dX9_undo_16
  · refine y_if_ne_t dX9_undo_7 (t := 17) rfl h1 ?_
    refine y_aload_n dX9_undo_17 rfl rfl ?_
    refine y_aload_n dX9_undo_18 rfl rfl ?_
    refine y_getR fX9_28 (lcO_0 hC) rfl (lcR_0_2 hC) dX9_undo_19 ?_
    refine y_aload_n dX9_undo_22 rfl rfl ?_
    refine y_getR fX9_21 (lcO_0 hC) rfl (lcR_0_1 hC) dX9_undo_23 ?_
    refine y_cvIS (qX8_takeBack (K := K) 27 13 σ) kX9_308 rfl (lcO_27 hC) rfl (by decide) rfl (Nat.le_of_ble_eq_true rfl) dX9_undo_26 (fun r4 σ5 => ?_)
    refine y_cvIS (qX9_grant hC r4 σ5) kX9_93 rfl (lcO_0 hC) rfl (by decide) rfl (Nat.le_of_ble_eq_true rfl) dX9_undo_29 (fun r6 σ7 => ?_)
    exact y_iret rfl rfl dX9_undo_32
theorem qX9_undo {K : Kt} (hC : cLay K) (σ : Sg) : Cc MX9_undo K [aR 0] σ (emIS K) (vX9_undo K σ) := cc_of plX9 (Nat.le_of_ble_eq_true rfl) (fun o _ => ⟨Nat.le_refl _, Nat.le_refl _⟩) (fun Γ => tX9_undo hC σ)
noncomputable def vX9_served (K : Kt) (p1 : Int) (σ : Sg) : Option (Int × Sg) := (vX9_within p1 0 (σ 13 2) σ).bind (fun r1 => if r1 = 0 then (some ((-1), σ)) else ((vX0_fillNear K σ).bind (fun σ3 => (vX0_mostServed K p1 σ3).bind (fun r4 => some (r4, σ3)))))
set_option maxRecDepth 100000 in
set_option maxHeartbeats 4000000 in
theorem tX9_served {Γ : Gx} {K : Kt} (hC : cLay K) (p1 : Int) (σ : Sg) : Y Γ MX9_served K (emIS K) K 0 [some (aR 0), some (aI p1)] [] σ (vX9_served K p1 σ) := by
  unfold vX9_served
  refine y_iload_n dX9_served_0 rfl rfl ?_
  refine y_iconst dX9_served_1 (by decide) ?_
  refine y_aload_n dX9_served_2 rfl rfl ?_
  refine y_getR fX9_21 (lcO_0 hC) rfl (lcR_0_1 hC) dX9_served_3 ?_
  refine y_getI fX9_133 (lcO_13 hC) rfl dX9_served_6 ?_
  refine y_csI (qX9_within (K := K) p1 0 (σ 13 2) σ) kX9_96 rfl (by decide) rfl (Nat.le_of_ble_eq_true rfl) dX9_served_9 (fun r1 => ?_)
  refine y_ite (fun h2 => ?_) (fun h2 => ?_)
  · refine y_if_ne_f dX9_served_12 (t := 17) rfl h2 ?_
    refine y_iconst dX9_served_15 (by decide) ?_
    exact y_iret rfl rfl dX9_served_16
  · refine y_if_ne_t dX9_served_12 (t := 17) rfl h2 ?_
    refine y_aload_n dX9_served_17 rfl rfl ?_
    refine y_getR fX9_62 (lcO_0 hC) rfl (lcR_0_8 hC) dX9_served_18 ?_
    refine y_cvV (qX0_fillNear hC σ) kX9_312 rfl (lcO_73 hC) rfl (by decide) rfl (Nat.le_of_ble_eq_true rfl) dX9_served_21 (fun σ3 => ?_)
    refine y_aload_n dX9_served_24 rfl rfl ?_
    refine y_getR fX9_62 (lcO_0 hC) rfl (lcR_0_8 hC) dX9_served_25 ?_
    refine y_iload_n dX9_served_28 rfl rfl ?_
    refine y_cvI (qX0_mostServed hC p1 σ3) kX9_315 rfl (lcO_73 hC) rfl (by decide) rfl (Nat.le_of_ble_eq_true rfl) dX9_served_29 (fun r4 => ?_)
    exact y_iret rfl rfl dX9_served_32
theorem qX9_served {K : Kt} (hC : cLay K) (p1 : Int) (σ : Sg) : Cc MX9_served K [aR 0, aI p1] σ (emIS K) (vX9_served K p1 σ) := cc_of plX9 (Nat.le_of_ble_eq_true rfl) (fun o _ => ⟨Nat.le_refl _, Nat.le_refl _⟩) (fun Γ => tX9_served hC p1 σ)
noncomputable def vX9_turn (K : Kt) (p1 : Int) (σ : Sg) : Option (Int × Sg) := (vX1_hasReader K 13 p1 σ).bind (fun r1 => if r1 = 0 then (some ((-1), σ)) else (bd2 (vX1_firstWaiting K 13 p1 σ) (fun r3 σ4 => some (r3, σ4))))
set_option maxRecDepth 100000 in
set_option maxHeartbeats 4000000 in
theorem tX9_turn {Γ : Gx} {K : Kt} (hC : cLay K) (p1 : Int) (σ : Sg) : Y Γ MX9_turn K (emIS K) K 0 [some (aR 0), some (aI p1)] [] σ (vX9_turn K p1 σ) := by
  unfold vX9_turn
  refine y_aload_n dX9_turn_0 rfl rfl ?_
  refine y_getR fX9_21 (lcO_0 hC) rfl (lcR_0_1 hC) dX9_turn_1 ?_
  refine y_iload_n dX9_turn_4 rfl rfl ?_
  refine y_cvI (qX1_hasReader (hPre_13 hC) p1 σ) kX9_140 rfl (lcO_13 hC) rfl (by decide) rfl (Nat.le_of_ble_eq_true rfl) dX9_turn_5 (fun r1 => ?_)
  refine y_ite (fun h2 => ?_) (fun h2 => ?_)
  · refine y_if_eq_t dX9_turn_8 (t := 22) rfl h2 ?_
    refine y_iconst dX9_turn_22 (by decide) ?_
    exact y_iret rfl rfl dX9_turn_23
  · refine y_if_eq_f dX9_turn_8 (t := 22) rfl h2 ?_
    refine y_aload_n dX9_turn_11 rfl rfl ?_
    refine y_getR fX9_21 (lcO_0 hC) rfl (lcR_0_1 hC) dX9_turn_12 ?_
    refine y_iload_n dX9_turn_15 rfl rfl ?_
    refine y_cvIS (qX1_firstWaiting (hPre_13 hC) p1 σ) kX9_318 rfl (lcO_13 hC) rfl (by decide) rfl (Nat.le_of_ble_eq_true rfl) dX9_turn_16 (fun r3 σ4 => ?_)
    refine y_goto dX9_turn_19 (t := 23) rfl ?_
    exact y_iret rfl rfl dX9_turn_23
theorem qX9_turn {K : Kt} (hC : cLay K) (p1 : Int) (σ : Sg) : Cc MX9_turn K [aR 0, aI p1] σ (emIS K) (vX9_turn K p1 σ) := cc_of plX9 (Nat.le_of_ble_eq_true rfl) (fun o _ => ⟨Nat.le_refl _, Nat.le_refl _⟩) (fun Γ => tX9_turn hC p1 σ)
noncomputable def vX9_way (K : Kt) (p1 : Int) (p2 : Int) (p3 : Int) (σ : Sg) : Option (Int × Sg) := (vX9_within p1 0 63 σ).bind (fun r1 => if r1 = 0 then (some ((-1), σ)) else ((vX9_within p2 0 63 σ).bind (fun r3 => if r3 = 0 then (some ((-1), σ)) else (bd2 (vX0_quickest K p1 p2 p3 σ) (fun r5 σ6 => some (r5, σ6))))))
set_option maxRecDepth 100000 in
set_option maxHeartbeats 4000000 in
theorem tX9_way {Γ : Gx} {K : Kt} (hC : cLay K) (p1 : Int) (p2 : Int) (p3 : Int) (σ : Sg) : Y Γ MX9_way K (emIS K) K 0 [some (aR 0), some (aI p1), some (aI p2), some (aI p3)] [] σ (vX9_way K p1 p2 p3 σ) := by
  unfold vX9_way
  refine y_iload_n dX9_way_0 rfl rfl ?_
  refine y_iconst dX9_way_1 (by decide) ?_
  refine y_bipush dX9_way_2 (by decide) (by decide) ?_
  refine y_csI (qX9_within (K := K) p1 0 63 σ) kX9_96 rfl (by decide) rfl (Nat.le_of_ble_eq_true rfl) dX9_way_4 (fun r1 => ?_)
  refine y_ite (fun h2 => ?_) (fun h2 => ?_)
  · refine y_if_eq_t dX9_way_7 (t := 20) rfl h2 ?_
    refine y_iconst dX9_way_20 (by decide) ?_
    exact y_iret rfl rfl dX9_way_21
  · refine y_if_eq_f dX9_way_7 (t := 20) rfl h2 ?_
    refine y_iload_n dX9_way_10 rfl rfl ?_
    refine y_iconst dX9_way_11 (by decide) ?_
    refine y_bipush dX9_way_12 (by decide) (by decide) ?_
    refine y_csI (qX9_within (K := K) p2 0 63 σ) kX9_96 rfl (by decide) rfl (Nat.le_of_ble_eq_true rfl) dX9_way_14 (fun r3 => ?_)
    refine y_ite (fun h4 => ?_) (fun h4 => ?_)
    · refine y_if_ne_f dX9_way_17 (t := 22) rfl h4 ?_
      refine y_iconst dX9_way_20 (by decide) ?_
      exact y_iret rfl rfl dX9_way_21
    · refine y_if_ne_t dX9_way_17 (t := 22) rfl h4 ?_
      refine y_aload_n dX9_way_22 rfl rfl ?_
      refine y_getR fX9_62 (lcO_0 hC) rfl (lcR_0_8 hC) dX9_way_23 ?_
      refine y_iload_n dX9_way_26 rfl rfl ?_
      refine y_iload_n dX9_way_27 rfl rfl ?_
      refine y_iload_n dX9_way_28 rfl rfl ?_
      refine y_cvIS (qX0_quickest hC p1 p2 p3 σ) kX9_321 rfl (lcO_73 hC) rfl (by decide) rfl (Nat.le_of_ble_eq_true rfl) dX9_way_29 (fun r5 σ6 => ?_)
      exact y_iret rfl rfl dX9_way_32
theorem qX9_way {K : Kt} (hC : cLay K) (p1 : Int) (p2 : Int) (p3 : Int) (σ : Sg) : Cc MX9_way K [aR 0, aI p1, aI p2, aI p3] σ (emIS K) (vX9_way K p1 p2 p3 σ) := cc_of plX9 (Nat.le_of_ble_eq_true rfl) (fun o _ => ⟨Nat.le_refl _, Nat.le_refl _⟩) (fun Γ => tX9_way hC p1 p2 p3 σ)
noncomputable def vX9_sets (K : Kt) (p1 : Int) (p2 : Int) (p3 : Int) (σ : Sg) : Option (Int × Sg) := (vX1_hasReader K 13 p1 σ).bind (fun r1 => if r1 = 0 then (some ((-1), σ)) else ((vX9_within p2 0 63 σ).bind (fun r3 => if r3 = 0 then (some ((-1), σ)) else (ck (0 ≤ p1 ∧ p1 < 6) (bd2 (vX0_findSets K p2 (σ 18 p1.toNat) σ) (fun r5 σ6 => if p3 = (-1) then (some (r5, σ6)) else ((vX0_setNumbered K p3 σ6).bind (fun r8 => some (r8, σ6)))))))))
set_option maxRecDepth 100000 in
set_option maxHeartbeats 4000000 in
theorem tX9_sets {Γ : Gx} {K : Kt} (hC : cLay K) (p1 : Int) (p2 : Int) (p3 : Int) (σ : Sg) : Y Γ MX9_sets K (emIS K) K 0 [some (aR 0), some (aI p1), some (aI p2), some (aI p3), none] [] σ (vX9_sets K p1 p2 p3 σ) := by
  unfold vX9_sets
  refine y_aload_n dX9_sets_0 rfl rfl ?_
  refine y_getR fX9_21 (lcO_0 hC) rfl (lcR_0_1 hC) dX9_sets_1 ?_
  refine y_iload_n dX9_sets_4 rfl rfl ?_
  refine y_cvI (qX1_hasReader (hPre_13 hC) p1 σ) kX9_140 rfl (lcO_13 hC) rfl (by decide) rfl (Nat.le_of_ble_eq_true rfl) dX9_sets_5 (fun r1 => ?_)
  refine y_ite (fun h2 => ?_) (fun h2 => ?_)
  · refine y_if_eq_t dX9_sets_8 (t := 21) rfl h2 ?_
    refine y_iconst dX9_sets_21 (by decide) ?_
    exact y_iret rfl rfl dX9_sets_22
  · refine y_if_eq_f dX9_sets_8 (t := 21) rfl h2 ?_
    refine y_iload_n dX9_sets_11 rfl rfl ?_
    refine y_iconst dX9_sets_12 (by decide) ?_
    refine y_bipush dX9_sets_13 (by decide) (by decide) ?_
    refine y_csI (qX9_within (K := K) p2 0 63 σ) kX9_96 rfl (by decide) rfl (Nat.le_of_ble_eq_true rfl) dX9_sets_15 (fun r3 => ?_)
    refine y_ite (fun h4 => ?_) (fun h4 => ?_)
    · refine y_if_ne_f dX9_sets_18 (t := 23) rfl h4 ?_
      refine y_iconst dX9_sets_21 (by decide) ?_
      exact y_iret rfl rfl dX9_sets_22
    · refine y_if_ne_t dX9_sets_18 (t := 23) rfl h4 ?_
      refine y_aload_n dX9_sets_23 rfl rfl ?_
      refine y_getR fX9_62 (lcO_0 hC) rfl (lcR_0_8 hC) dX9_sets_24 ?_
      refine y_iload_n dX9_sets_27 rfl rfl ?_
      refine y_aload_n dX9_sets_28 rfl rfl ?_
      refine y_getR fX9_21 (lcO_0 hC) rfl (lcR_0_1 hC) dX9_sets_29 ?_
      refine y_getR fX9_143 (lcO_13 hC) rfl (lcR_13_8 hC) dX9_sets_32 ?_
      refine y_iload_n dX9_sets_35 rfl rfl ?_
      refine yk_iaload (lcA_18 hC) (N := 6) rfl (j := p1.toNat) rfl dX9_sets_36 ?_
      refine y_cvIS (qX0_findSets hC p2 (σ 18 p1.toNat) σ) kX9_325 rfl (lcO_73 hC) rfl (by decide) rfl (Nat.le_of_ble_eq_true rfl) dX9_sets_37 (fun r5 σ6 => ?_)
      refine y_istore dX9_sets_40 (Nat.le_of_ble_eq_true rfl) (L' := [some (aR 0), some (aI p1), some (aI p2), some (aI p3), some (aI r5)]) rfl ?_
      refine y_iload_n dX9_sets_42 rfl rfl ?_
      refine y_iconst dX9_sets_43 (by decide) ?_
      refine y_ite (fun h7 => ?_) (fun h7 => ?_)
      · refine y_icmp_ne_f dX9_sets_44 (t := 52) rfl h7 ?_
        refine y_iload dX9_sets_47 rfl ?_
        refine y_goto dX9_sets_49 (t := 60) rfl ?_
        exact y_iret rfl rfl dX9_sets_60
      · refine y_icmp_ne_t dX9_sets_44 (t := 52) rfl h7 ?_
        refine y_aload_n dX9_sets_52 rfl rfl ?_
        refine y_getR fX9_62 (lcO_0 hC) rfl (lcR_0_8 hC) dX9_sets_53 ?_
        refine y_iload_n dX9_sets_56 rfl rfl ?_
        refine y_cvI (qX0_setNumbered hC p3 σ6) kX9_328 rfl (lcO_73 hC) rfl (by decide) rfl (Nat.le_of_ble_eq_true rfl) dX9_sets_57 (fun r8 => ?_)
        exact y_iret rfl rfl dX9_sets_60
theorem qX9_sets {K : Kt} (hC : cLay K) (p1 : Int) (p2 : Int) (p3 : Int) (σ : Sg) : Cc MX9_sets K [aR 0, aI p1, aI p2, aI p3] σ (emIS K) (vX9_sets K p1 p2 p3 σ) := cc_of plX9 (Nat.le_of_ble_eq_true rfl) (fun o _ => ⟨Nat.le_refl _, Nat.le_refl _⟩) (fun Γ => tX9_sets hC p1 p2 p3 σ)
noncomputable def vX9_ask (K : Kt) (p1 : Int) (p2 : Int) (p3 : Int) (σ : Sg) : Option (Int × Sg) := (vX1_hasReader K 13 p1 σ).bind (fun r1 => if r1 = 0 then (some ((-1), σ)) else ((vX9_within p2 0 63 σ).bind (fun r3 => if r3 = 0 then (some ((-1), σ)) else ((vX9_within p3 0 1 σ).bind (fun r5 => if r5 = 0 then (some ((-1), σ)) else (ck (0 ≤ p1 ∧ p1 < 6) (bd2 (vX0_findSets K p2 (σ 18 p1.toNat) σ) (fun r7 σ8 => if r7 = 0 then (some ((-1), σ8)) else ((vX0_bestToAsk K r7 p3 σ8).bind (fun r10 => some (r10, σ8)))))))))))
set_option maxRecDepth 100000 in
set_option maxHeartbeats 4000000 in
theorem tX9_ask {Γ : Gx} {K : Kt} (hC : cLay K) (p1 : Int) (p2 : Int) (p3 : Int) (σ : Sg) : Y Γ MX9_ask K (emIS K) K 0 [some (aR 0), some (aI p1), some (aI p2), some (aI p3), none] [] σ (vX9_ask K p1 p2 p3 σ) := by
  unfold vX9_ask
  refine y_aload_n dX9_ask_0 rfl rfl ?_
  refine y_getR fX9_21 (lcO_0 hC) rfl (lcR_0_1 hC) dX9_ask_1 ?_
  refine y_iload_n dX9_ask_4 rfl rfl ?_
  refine y_cvI (qX1_hasReader (hPre_13 hC) p1 σ) kX9_140 rfl (lcO_13 hC) rfl (by decide) rfl (Nat.le_of_ble_eq_true rfl) dX9_ask_5 (fun r1 => ?_)
  refine y_ite (fun h2 => ?_) (fun h2 => ?_)
  · refine y_if_eq_t dX9_ask_8 (t := 30) rfl h2 ?_
    refine y_iconst dX9_ask_30 (by decide) ?_
    exact y_iret rfl rfl dX9_ask_31
  · refine y_if_eq_f dX9_ask_8 (t := 30) rfl h2 ?_
    refine y_iload_n dX9_ask_11 rfl rfl ?_
    refine y_iconst dX9_ask_12 (by decide) ?_
    refine y_bipush dX9_ask_13 (by decide) (by decide) ?_
    refine y_csI (qX9_within (K := K) p2 0 63 σ) kX9_96 rfl (by decide) rfl (Nat.le_of_ble_eq_true rfl) dX9_ask_15 (fun r3 => ?_)
    refine y_ite (fun h4 => ?_) (fun h4 => ?_)
    · refine y_if_eq_t dX9_ask_18 (t := 30) rfl h4 ?_
      refine y_iconst dX9_ask_30 (by decide) ?_
      exact y_iret rfl rfl dX9_ask_31
    · refine y_if_eq_f dX9_ask_18 (t := 30) rfl h4 ?_
      refine y_iload_n dX9_ask_21 rfl rfl ?_
      refine y_iconst dX9_ask_22 (by decide) ?_
      refine y_iconst dX9_ask_23 (by decide) ?_
      refine y_csI (qX9_within (K := K) p3 0 1 σ) kX9_96 rfl (by decide) rfl (Nat.le_of_ble_eq_true rfl) dX9_ask_24 (fun r5 => ?_)
      refine y_ite (fun h6 => ?_) (fun h6 => ?_)
      · refine y_if_ne_f dX9_ask_27 (t := 32) rfl h6 ?_
        refine y_iconst dX9_ask_30 (by decide) ?_
        exact y_iret rfl rfl dX9_ask_31
      · refine y_if_ne_t dX9_ask_27 (t := 32) rfl h6 ?_
        refine y_aload_n dX9_ask_32 rfl rfl ?_
        refine y_getR fX9_62 (lcO_0 hC) rfl (lcR_0_8 hC) dX9_ask_33 ?_
        refine y_iload_n dX9_ask_36 rfl rfl ?_
        refine y_aload_n dX9_ask_37 rfl rfl ?_
        refine y_getR fX9_21 (lcO_0 hC) rfl (lcR_0_1 hC) dX9_ask_38 ?_
        refine y_getR fX9_143 (lcO_13 hC) rfl (lcR_13_8 hC) dX9_ask_41 ?_
        refine y_iload_n dX9_ask_44 rfl rfl ?_
        refine yk_iaload (lcA_18 hC) (N := 6) rfl (j := p1.toNat) rfl dX9_ask_45 ?_
        refine y_cvIS (qX0_findSets hC p2 (σ 18 p1.toNat) σ) kX9_325 rfl (lcO_73 hC) rfl (by decide) rfl (Nat.le_of_ble_eq_true rfl) dX9_ask_46 (fun r7 σ8 => ?_)
        refine y_istore dX9_ask_49 (Nat.le_of_ble_eq_true rfl) (L' := [some (aR 0), some (aI p1), some (aI p2), some (aI p3), some (aI r7)]) rfl ?_
        refine y_iload dX9_ask_51 rfl ?_
        refine y_ite (fun h9 => ?_) (fun h9 => ?_)
        · refine y_if_ne_f dX9_ask_53 (t := 60) rfl h9 ?_
          refine y_iconst dX9_ask_56 (by decide) ?_
          refine y_goto dX9_ask_57 (t := 70) rfl ?_
          exact y_iret rfl rfl dX9_ask_70
        · refine y_if_ne_t dX9_ask_53 (t := 60) rfl h9 ?_
          refine y_aload_n dX9_ask_60 rfl rfl ?_
          refine y_getR fX9_62 (lcO_0 hC) rfl (lcR_0_8 hC) dX9_ask_61 ?_
          refine y_iload dX9_ask_64 rfl ?_
          refine y_iload_n dX9_ask_66 rfl rfl ?_
          refine y_cvI (qX0_bestToAsk hC r7 p3 σ8) kX9_331 rfl (lcO_73 hC) rfl (by decide) rfl (Nat.le_of_ble_eq_true rfl) dX9_ask_67 (fun r10 => ?_)
          exact y_iret rfl rfl dX9_ask_70
theorem qX9_ask {K : Kt} (hC : cLay K) (p1 : Int) (p2 : Int) (p3 : Int) (σ : Sg) : Cc MX9_ask K [aR 0, aI p1, aI p2, aI p3] σ (emIS K) (vX9_ask K p1 p2 p3 σ) := cc_of plX9 (Nat.le_of_ble_eq_true rfl) (fun o _ => ⟨Nat.le_refl _, Nat.le_refl _⟩) (fun Γ => tX9_ask hC p1 p2 p3 σ)
