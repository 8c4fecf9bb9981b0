noncomputable def vX10_count (p1 : Int) (σ : Sg) : Option (Int × Sg) := nm (up2 σ 84 0 0) (fun σ1 => if p1 = 0 then (some ((σ1 86 0), σ1)) else (if p1 = 1 then (some ((σ1 86 1), σ1)) else (if p1 = 2 then ((vX10_lentOnes σ1).bind (fun r2 => some (r2, σ1))) else (if p1 = 3 then (some ((σ1 86 8), σ1)) else (if p1 = 4 then (some ((σ1 86 2), σ1)) else (if p1 = 5 then (some ((σ1 84 8), σ1)) else (if p1 = 6 then (some ((σ1 84 13), σ1)) else (if p1 = 7 then (some ((σ1 85 1), σ1)) else (if p1 = 8 then (some ((σ1 85 2), σ1)) else (if p1 = 9 then (some ((σ1 85 3), σ1)) else (if p1 = 10 then (some ((σ1 85 5), σ1)) else (if p1 = 11 then (some ((σ1 85 6), σ1)) else (if p1 = 12 then (some ((σ1 86 3), σ1)) else ((vX10_in p1 13 16 σ1).bind (fun r3 => if r3 = 0 then (some ((-1), σ1)) else (ck (in32 (4 + p1)) (ck (in32 ((4 + p1) - 13)) (ck (0 ≤ ((4 + p1) - 13) ∧ ((4 + p1) - 13) < 5505) (some ((σ1 86 ((4 + p1) - 13).toNat), σ1))))))))))))))))))))
set_option maxRecDepth 100000 in
theorem tX10_count {Γ : Gx} {K : Kt} (hM : mLay K) (p1 : Int) (σ : Sg) : Y Γ MX10_count K (emIS K) K 0 [some (aR 84), some (aI p1)] [] σ (vX10_count p1 σ) := by
  unfold vX10_count
  refine y_aload_n dX10_count_0 rfl rfl ?_
  refine y_iconst dX10_count_1 (by decide) ?_
  refine yn_putI fX10_157 hM.1 rfl rfl dX10_count_2 (fun σ1 => ?_)
  refine y_iload_n dX10_count_5 rfl rfl ?_
  refine y_ite (fun h17 => ?_) (fun h17 => ?_)
  · refine y_tab_in dX10_count_6 (t := 72) (off := 66) (by omega) (by rw [h17]; rfl) rfl ?_
    refine y_aload_n dX10_count_72 rfl rfl ?_
    refine y_getR fX10_13 hM.1 rfl (lM_3 hM).1 dX10_count_73 ?_
    refine y_iconst dX10_count_76 (by decide) ?_
    refine yl_iaload (lM_3 hM).2 (by decide) (j := 0) rfl dX10_count_77 ?_
    exact y_iret rfl rfl dX10_count_78
  · refine y_ite (fun h16 => ?_) (fun h16 => ?_)
    · refine y_tab_in dX10_count_6 (t := 79) (off := 73) (by omega) (by rw [h16]; rfl) rfl ?_
      refine y_aload_n dX10_count_79 rfl rfl ?_
      refine y_getR fX10_13 hM.1 rfl (lM_3 hM).1 dX10_count_80 ?_
      refine y_iconst dX10_count_83 (by decide) ?_
      refine yl_iaload (lM_3 hM).2 (by decide) (j := 1) rfl dX10_count_84 ?_
      exact y_iret rfl rfl dX10_count_85
    · refine y_ite (fun h15 => ?_) (fun h15 => ?_)
      · refine y_tab_in dX10_count_6 (t := 86) (off := 80) (by omega) (by rw [h15]; rfl) rfl ?_
        refine y_aload_n dX10_count_86 rfl rfl ?_
        refine y_cvI (qX10_lentOnes hM σ1) kX10_563 rfl hM.1 rfl (by decide) rfl (Nat.le_of_ble_eq_true rfl) dX10_count_87 (fun r2 => ?_)
        exact y_iret rfl rfl dX10_count_90
      · refine y_ite (fun h14 => ?_) (fun h14 => ?_)
        · refine y_tab_in dX10_count_6 (t := 91) (off := 85) (by omega) (by rw [h14]; rfl) rfl ?_
          refine y_aload_n dX10_count_91 rfl rfl ?_
          refine y_getR fX10_13 hM.1 rfl (lM_3 hM).1 dX10_count_92 ?_
          refine y_bipush dX10_count_95 (by decide) (by decide) ?_
          refine yl_iaload (lM_3 hM).2 (by decide) (j := 8) rfl dX10_count_97 ?_
          exact y_iret rfl rfl dX10_count_98
        · refine y_ite (fun h13 => ?_) (fun h13 => ?_)
          · refine y_tab_in dX10_count_6 (t := 99) (off := 93) (by omega) (by rw [h13]; rfl) rfl ?_
            refine y_aload_n dX10_count_99 rfl rfl ?_
            refine y_getR fX10_13 hM.1 rfl (lM_3 hM).1 dX10_count_100 ?_
            refine y_iconst dX10_count_103 (by decide) ?_
            refine yl_iaload (lM_3 hM).2 (by decide) (j := 2) rfl dX10_count_104 ?_
            exact y_iret rfl rfl dX10_count_105
          · refine y_ite (fun h12 => ?_) (fun h12 => ?_)
            · refine y_tab_in dX10_count_6 (t := 106) (off := 100) (by omega) (by rw [h12]; rfl) rfl ?_
              refine y_aload_n dX10_count_106 rfl rfl ?_
              refine y_getI fX10_163 hM.1 rfl dX10_count_107 ?_
              exact y_iret rfl rfl dX10_count_110
            · refine y_ite (fun h11 => ?_) (fun h11 => ?_)
              · refine y_tab_in dX10_count_6 (t := 111) (off := 105) (by omega) (by rw [h11]; rfl) rfl ?_
                refine y_aload_n dX10_count_111 rfl rfl ?_
                refine y_getI fX10_212 hM.1 rfl dX10_count_112 ?_
                exact y_iret rfl rfl dX10_count_115
              · refine y_ite (fun h10 => ?_) (fun h10 => ?_)
                · refine y_tab_in dX10_count_6 (t := 116) (off := 110) (by omega) (by rw [h10]; rfl) rfl ?_
                  refine y_aload_n dX10_count_116 rfl rfl ?_
                  refine y_getR fX10_7 hM.1 rfl (lM_2 hM).1 dX10_count_117 ?_
                  refine y_iconst dX10_count_120 (by decide) ?_
                  refine yl_iaload (lM_2 hM).2 (by decide) (j := 1) rfl dX10_count_121 ?_
                  exact y_iret rfl rfl dX10_count_122
                · refine y_ite (fun h9 => ?_) (fun h9 => ?_)
                  · refine y_tab_in dX10_count_6 (t := 123) (off := 117) (by omega) (by rw [h9]; rfl) rfl ?_
                    refine y_aload_n dX10_count_123 rfl rfl ?_
                    refine y_getR fX10_7 hM.1 rfl (lM_2 hM).1 dX10_count_124 ?_
                    refine y_iconst dX10_count_127 (by decide) ?_
                    refine yl_iaload (lM_2 hM).2 (by decide) (j := 2) rfl dX10_count_128 ?_
                    exact y_iret rfl rfl dX10_count_129
                  · refine y_ite (fun h8 => ?_) (fun h8 => ?_)
                    · refine y_tab_in dX10_count_6 (t := 130) (off := 124) (by omega) (by rw [h8]; rfl) rfl ?_
                      refine y_aload_n dX10_count_130 rfl rfl ?_
                      refine y_getR fX10_7 hM.1 rfl (lM_2 hM).1 dX10_count_131 ?_
                      refine y_iconst dX10_count_134 (by decide) ?_
                      refine yl_iaload (lM_2 hM).2 (by decide) (j := 3) rfl dX10_count_135 ?_
                      exact y_iret rfl rfl dX10_count_136
                    · refine y_ite (fun h7 => ?_) (fun h7 => ?_)
                      · refine y_tab_in dX10_count_6 (t := 137) (off := 131) (by omega) (by rw [h7]; rfl) rfl ?_
                        refine y_aload_n dX10_count_137 rfl rfl ?_
                        refine y_getR fX10_7 hM.1 rfl (lM_2 hM).1 dX10_count_138 ?_
                        refine y_iconst dX10_count_141 (by decide) ?_
                        refine yl_iaload (lM_2 hM).2 (by decide) (j := 5) rfl dX10_count_142 ?_
                        exact y_iret rfl rfl dX10_count_143
                      · refine y_ite (fun h6 => ?_) (fun h6 => ?_)
                        · refine y_tab_in dX10_count_6 (t := 144) (off := 138) (by omega) (by rw [h6]; rfl) rfl ?_
                          refine y_aload_n dX10_count_144 rfl rfl ?_
                          refine y_getR fX10_7 hM.1 rfl (lM_2 hM).1 dX10_count_145 ?_
                          refine y_bipush dX10_count_148 (by decide) (by decide) ?_
                          refine yl_iaload (lM_2 hM).2 (by decide) (j := 6) rfl dX10_count_150 ?_
                          exact y_iret rfl rfl dX10_count_151
                        · refine y_ite (fun h5 => ?_) (fun h5 => ?_)
                          · refine y_tab_in dX10_count_6 (t := 152) (off := 146) (by omega) (by rw [h5]; rfl) rfl ?_
                            refine y_aload_n dX10_count_152 rfl rfl ?_
                            refine y_getR fX10_13 hM.1 rfl (lM_3 hM).1 dX10_count_153 ?_
                            refine y_iconst dX10_count_156 (by decide) ?_
                            refine yl_iaload (lM_3 hM).2 (by decide) (j := 3) rfl dX10_count_157 ?_
                            exact y_iret rfl rfl dX10_count_158
                          · refine y_tab_out dX10_count_6 (t := 159) (by omega) rfl ?_
                            refine y_iload_n dX10_count_159 rfl rfl ?_
                            refine y_i2l dX10_count_160 ?_
                            refine y_ldc2 13 wX10_c566 dX10_count_161 (by decide) (by decide) ?_
                            refine y_ldc2 16 wX10_c568 dX10_count_164 (by decide) (by decide) ?_
                            refine y_csI (qX10_in (K := K) p1 13 16 σ1) kX10_177 rfl (by decide) rfl (Nat.le_of_ble_eq_true rfl) dX10_count_167 (fun r3 => ?_)
                            refine y_ite (fun h4 => ?_) (fun h4 => ?_)
                            · refine y_if_eq_t dX10_count_170 (t := 187) rfl h4 ?_
                              refine y_iconst dX10_count_187 (by decide) ?_
                              exact y_iret rfl rfl dX10_count_188
                            · refine y_if_eq_f dX10_count_170 (t := 187) rfl h4 ?_
                              refine y_aload_n dX10_count_173 rfl rfl ?_
                              refine y_getR fX10_13 hM.1 rfl (lM_3 hM).1 dX10_count_174 ?_
                              refine y_iconst dX10_count_177 (by decide) ?_
                              refine y_iload_n dX10_count_178 rfl rfl ?_
                              refine yk_iadd dX10_count_179 ?_
                              refine y_bipush dX10_count_180 (by decide) (by decide) ?_
                              refine yk_isub dX10_count_182 ?_
                              refine yk_iaload (lM_3 hM).2 (N := 5505) rfl (j := ((4 + p1) - 13).toNat) rfl dX10_count_183 ?_
                              refine y_goto dX10_count_184 (t := 188) rfl ?_
                              exact y_iret rfl rfl dX10_count_188
theorem qX10_count {K : Kt} (hM : mLay K) (p1 : Int) (σ : Sg) : Cc MX10_count K [aR 84, aI p1] σ (emIS K) (vX10_count p1 σ) := cc_of plX10 (Nat.le_of_ble_eq_true rfl) (fun o _ => ⟨Nat.le_refl _, Nat.le_refl _⟩) (fun Γ => tX10_count hM p1 σ)
noncomputable def vX10_status (σ : Sg) : Option (Int × Sg) := nm (up2 σ 84 0 0) (fun σ1 => some ((σ1 84 1), σ1))
set_option maxRecDepth 100000 in
theorem tX10_status {Γ : Gx} {K : Kt} (hM : mLay K) (σ : Sg) : Y Γ MX10_status K (emIS K) K 0 [some (aR 84)] [] σ (vX10_status σ) := by
  unfold vX10_status
  refine y_aload_n dX10_status_0 rfl rfl ?_
  refine y_iconst dX10_status_1 (by decide) ?_
  refine yn_putI fX10_157 hM.1 rfl rfl dX10_status_2 (fun σ1 => ?_)
  refine y_aload_n dX10_status_5 rfl rfl ?_
  refine y_getI fX10_160 hM.1 rfl dX10_status_6 ?_
  exact y_iret rfl rfl dX10_status_9
theorem qX10_status {K : Kt} (hM : mLay K) (σ : Sg) : Cc MX10_status K [aR 84] σ (emIS K) (vX10_status σ) := cc_of plX10 (Nat.le_of_ble_eq_true rfl) (fun o _ => ⟨Nat.le_refl _, Nat.le_refl _⟩) (fun Γ => tX10_status hM σ)
