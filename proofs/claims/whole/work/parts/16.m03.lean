noncomputable def vX10_canHave (p1 : Int) (p2 : Int) (σ : Sg) : Option (Int × Sg) := (vX10_readerWith p1 σ).bind (fun r1 => if r1 = (-1) then (ck (in32 (29 + p2)) (ck (0 ≤ (29 + p2) ∧ (29 + p2) < 5505) (if (σ 86 (29 + p2).toNat) = (-1) then (ck (in32 (95 + p2)) (ck (0 ≤ (95 + p2) ∧ (95 + p2) < 5505) (if (σ 86 (95 + p2).toNat) = 0 then (ck (in32 (23 + p2)) (ck (0 ≤ (23 + p2) ∧ (23 + p2) < 5505) (if (σ 86 (23 + p2).toNat) < 99 then ((vX10_isFitting p1 p2 σ).bind (fun r6 => if r6 = 0 then (some (0, σ)) else (bd2 (vX10_isBarred p1 p2 σ) (fun r8 σ9 => if r8 = 0 then (some (1, σ9)) else (some (0, σ9)))))) else (some (0, σ))))) else (some (0, σ))))) else (some (0, σ))))) else (some (0, σ)))
set_option maxRecDepth 100000 in
theorem tX10_canHave {Γ : Gx} {K : Kt} (hM : mLay K) (p1 : Int) (p2 : Int) (σ : Sg) : Y Γ MX10_canHave K (emIS K) K 0 [some (aR 84), some (aI p1), some (aI p2)] [] σ (vX10_canHave p1 p2 σ) := by
  unfold vX10_canHave
  refine y_aload_n dX10_canHave_0 rfl rfl ?_
  refine y_iload_n dX10_canHave_1 rfl rfl ?_
  refine y_cvI (qX10_readerWith hM p1 σ) kX10_198 rfl hM.1 rfl (by decide) rfl (Nat.le_of_ble_eq_true rfl) dX10_canHave_2 (fun r1 => ?_)
  refine y_iconst dX10_canHave_5 (by decide) ?_
  refine y_ite (fun h2 => ?_) (fun h2 => ?_)
  · refine y_icmp_ne_f dX10_canHave_6 (t := 70) rfl h2 ?_
    refine y_aload_n dX10_canHave_9 rfl rfl ?_
    refine y_getR fX10_13 hM.1 rfl (lM_3 hM).1 dX10_canHave_10 ?_
    refine y_bipush dX10_canHave_13 (by decide) (by decide) ?_
    refine y_iload_n dX10_canHave_15 rfl rfl ?_
    refine yk_iadd dX10_canHave_16 ?_
    refine yk_iaload (lM_3 hM).2 (N := 5505) rfl (j := (29 + p2).toNat) rfl dX10_canHave_17 ?_
    refine y_iconst dX10_canHave_18 (by decide) ?_
    refine y_ite (fun h3 => ?_) (fun h3 => ?_)
    · refine y_icmp_ne_f dX10_canHave_19 (t := 70) rfl h3 ?_
      refine y_aload_n dX10_canHave_22 rfl rfl ?_
      refine y_getR fX10_13 hM.1 rfl (lM_3 hM).1 dX10_canHave_23 ?_
      refine y_bipush dX10_canHave_26 (by decide) (by decide) ?_
      refine y_iload_n dX10_canHave_28 rfl rfl ?_
      refine yk_iadd dX10_canHave_29 ?_
      refine yk_iaload (lM_3 hM).2 (N := 5505) rfl (j := (95 + p2).toNat) rfl dX10_canHave_30 ?_
      refine y_ite (fun h4 => ?_) (fun h4 => ?_)
      · refine y_if_ne_f dX10_canHave_31 (t := 70) rfl h4 ?_
        refine y_aload_n dX10_canHave_34 rfl rfl ?_
        refine y_getR fX10_13 hM.1 rfl (lM_3 hM).1 dX10_canHave_35 ?_
        refine y_bipush dX10_canHave_38 (by decide) (by decide) ?_
        refine y_iload_n dX10_canHave_40 rfl rfl ?_
        refine yk_iadd dX10_canHave_41 ?_
        refine yk_iaload (lM_3 hM).2 (N := 5505) rfl (j := (23 + p2).toNat) rfl dX10_canHave_42 ?_
        refine y_bipush dX10_canHave_43 (by decide) (by decide) ?_
        refine y_ite (fun h5 => ?_) (fun h5 => ?_)
        · refine y_icmp_ge_f dX10_canHave_45 (t := 70) rfl h5 ?_
          refine y_aload_n dX10_canHave_48 rfl rfl ?_
          refine y_iload_n dX10_canHave_49 rfl rfl ?_
          refine y_iload_n dX10_canHave_50 rfl rfl ?_
          refine y_cvI (qX10_isFitting hM p1 p2 σ) kX10_421 rfl hM.1 rfl (by decide) rfl (Nat.le_of_ble_eq_true rfl) dX10_canHave_51 (fun r6 => ?_)
          refine y_ite (fun h7 => ?_) (fun h7 => ?_)
          · refine y_if_eq_t dX10_canHave_54 (t := 70) rfl h7 ?_
            refine y_iconst dX10_canHave_70 (by decide) ?_
            exact y_zret (by decide) rfl rfl dX10_canHave_71
          · refine y_if_eq_f dX10_canHave_54 (t := 70) rfl h7 ?_
            refine y_aload_n dX10_canHave_57 rfl rfl ?_
            refine y_iload_n dX10_canHave_58 rfl rfl ?_
            refine y_iload_n dX10_canHave_59 rfl rfl ?_
            refine y_cvIS (qX10_isBarred hM p1 p2 σ) kX10_424 rfl hM.1 rfl (by decide) rfl (Nat.le_of_ble_eq_true rfl) dX10_canHave_60 (fun r8 σ9 => ?_)
            refine y_ite (fun h10 => ?_) (fun h10 => ?_)
            · refine y_if_ne_f dX10_canHave_63 (t := 70) rfl h10 ?_
              refine y_iconst dX10_canHave_66 (by decide) ?_
              refine y_goto dX10_canHave_67 (t := 71) rfl ?_
              exact y_zret (by decide) rfl rfl dX10_canHave_71
            · refine y_if_ne_t dX10_canHave_63 (t := 70) rfl h10 ?_
              refine y_iconst dX10_canHave_70 (by decide) ?_
              exact y_zret (by decide) rfl rfl dX10_canHave_71
        · refine y_icmp_ge_t dX10_canHave_45 (t := 70) rfl h5 ?_
          refine y_iconst dX10_canHave_70 (by decide) ?_
          exact y_zret (by decide) rfl rfl dX10_canHave_71
      · refine y_if_ne_t dX10_canHave_31 (t := 70) rfl h4 ?_
        refine y_iconst dX10_canHave_70 (by decide) ?_
        exact y_zret (by decide) rfl rfl dX10_canHave_71
    · refine y_icmp_ne_t dX10_canHave_19 (t := 70) rfl h3 ?_
      refine y_iconst dX10_canHave_70 (by decide) ?_
      exact y_zret (by decide) rfl rfl dX10_canHave_71
  · refine y_icmp_ne_t dX10_canHave_6 (t := 70) rfl h2 ?_
    refine y_iconst dX10_canHave_70 (by decide) ?_
    exact y_zret (by decide) rfl rfl dX10_canHave_71
theorem qX10_canHave {K : Kt} (hM : mLay K) (p1 : Int) (p2 : Int) (σ : Sg) : Cc MX10_canHave K [aR 84, aI p1, aI p2] σ (emIS K) (vX10_canHave p1 p2 σ) := cc_of plX10 (Nat.le_of_ble_eq_true rfl) (fun o _ => ⟨Nat.le_refl _, Nat.le_refl _⟩) (fun Γ => tX10_canHave hM p1 p2 σ)
noncomputable def vX10_asks (p1 : Int) (p2 : Int) (p3 : Int) (σ : Sg) : Option (Int × Sg) := nm (up2 σ 84 0 0) (fun σ1 => (vX10_isBook p1 σ1).bind (fun r2 => if r2 = 0 then (some ((-1), σ1)) else ((vX10_isReader p2 σ1).bind (fun r4 => if r4 = 0 then (some ((-1), σ1)) else (if p3 = 0 then (bd2 (vX10_finesOf p1 p2 σ1) (fun r6 σ7 => some (r6, σ7))) else (if p3 = 1 then (bd2 (vX10_wearsOf p1 p2 σ1) (fun r8 σ9 => some (r8, σ9))) else (if p3 = 2 then (bd2 (vX10_takesOf p1 p2 σ1) (fun r10 σ11 => some (r10, σ11))) else (if p3 = 3 then (bd2 (vX10_isBarred p1 p2 σ1) (fun r12 σ13 => if r12 = 0 then (some (0, σ13)) else (some (1, σ13)))) else (if p3 = 4 then ((vX10_isFitting p1 p2 σ1).bind (fun r15 => if r15 = 0 then (some (0, σ1)) else (some (1, σ1)))) else (if p3 = 5 then (bd2 (vX10_canHave p1 p2 σ1) (fun r17 σ18 => if r17 = 0 then (some (0, σ18)) else (some (1, σ18)))) else (some ((-1), σ1))))))))))))
set_option maxRecDepth 100000 in
theorem tX10_asks {Γ : Gx} {K : Kt} (hM : mLay K) (p1 : Int) (p2 : Int) (p3 : Int) (σ : Sg) : Y Γ MX10_asks K (emIS K) K 0 [some (aR 84), some (aI p1), some (aI p2), some (aI p3)] [] σ (vX10_asks p1 p2 p3 σ) := by
  unfold vX10_asks
  refine y_aload_n dX10_asks_0 rfl rfl ?_
  refine y_iconst dX10_asks_1 (by decide) ?_
  refine yn_putI fX10_157 hM.1 rfl rfl dX10_asks_2 (fun σ1 => ?_)
  refine y_aload_n dX10_asks_5 rfl rfl ?_
  refine y_iload_n dX10_asks_6 rfl rfl ?_
  refine y_cvI (qX10_isBook hM p1 σ1) kX10_194 rfl hM.1 rfl (by decide) rfl (Nat.le_of_ble_eq_true rfl) dX10_asks_7 (fun r2 => ?_)
  refine y_ite (fun h3 => ?_) (fun h3 => ?_)
  · refine y_if_eq_t dX10_asks_10 (t := 21) rfl h3 ?_
    refine y_iconst dX10_asks_21 (by decide) ?_
    exact y_iret rfl rfl dX10_asks_22
  · refine y_if_eq_f dX10_asks_10 (t := 21) rfl h3 ?_
    refine y_aload_n dX10_asks_13 rfl rfl ?_
    refine y_iload_n dX10_asks_14 rfl rfl ?_
    refine y_cvI (qX10_isReader hM p2 σ1) kX10_201 rfl hM.1 rfl (by decide) rfl (Nat.le_of_ble_eq_true rfl) dX10_asks_15 (fun r4 => ?_)
    refine y_ite (fun h5 => ?_) (fun h5 => ?_)
    · refine y_if_ne_f dX10_asks_18 (t := 23) rfl h5 ?_
      refine y_iconst dX10_asks_21 (by decide) ?_
      exact y_iret rfl rfl dX10_asks_22
    · refine y_if_ne_t dX10_asks_18 (t := 23) rfl h5 ?_
      refine y_iload_n dX10_asks_23 rfl rfl ?_
      refine y_ite (fun h25 => ?_) (fun h25 => ?_)
      · refine y_tab_in dX10_asks_24 (t := 64) (off := 40) (by omega) (by rw [h25]; rfl) rfl ?_
        refine y_aload_n dX10_asks_64 rfl rfl ?_
        refine y_iload_n dX10_asks_65 rfl rfl ?_
        refine y_iload_n dX10_asks_66 rfl rfl ?_
        refine y_cvIS (qX10_finesOf hM p1 p2 σ1) kX10_427 rfl hM.1 rfl (by decide) rfl (Nat.le_of_ble_eq_true rfl) dX10_asks_67 (fun r6 σ7 => ?_)
        exact y_iret rfl rfl dX10_asks_70
      · refine y_ite (fun h24 => ?_) (fun h24 => ?_)
        · refine y_tab_in dX10_asks_24 (t := 71) (off := 47) (by omega) (by rw [h24]; rfl) rfl ?_
          refine y_aload_n dX10_asks_71 rfl rfl ?_
          refine y_iload_n dX10_asks_72 rfl rfl ?_
          refine y_iload_n dX10_asks_73 rfl rfl ?_
          refine y_cvIS (qX10_wearsOf hM p1 p2 σ1) kX10_430 rfl hM.1 rfl (by decide) rfl (Nat.le_of_ble_eq_true rfl) dX10_asks_74 (fun r8 σ9 => ?_)
          exact y_iret rfl rfl dX10_asks_77
        · refine y_ite (fun h23 => ?_) (fun h23 => ?_)
          · refine y_tab_in dX10_asks_24 (t := 78) (off := 54) (by omega) (by rw [h23]; rfl) rfl ?_
            refine y_aload_n dX10_asks_78 rfl rfl ?_
            refine y_iload_n dX10_asks_79 rfl rfl ?_
            refine y_iload_n dX10_asks_80 rfl rfl ?_
            refine y_cvIS (qX10_takesOf hM p1 p2 σ1) kX10_433 rfl hM.1 rfl (by decide) rfl (Nat.le_of_ble_eq_true rfl) dX10_asks_81 (fun r10 σ11 => ?_)
            exact y_iret rfl rfl dX10_asks_84
          · refine y_ite (fun h22 => ?_) (fun h22 => ?_)
            · refine y_tab_in dX10_asks_24 (t := 85) (off := 61) (by omega) (by rw [h22]; rfl) rfl ?_
              refine y_aload_n dX10_asks_85 rfl rfl ?_
              refine y_iload_n dX10_asks_86 rfl rfl ?_
              refine y_iload_n dX10_asks_87 rfl rfl ?_
              refine y_cvIS (qX10_isBarred hM p1 p2 σ1) kX10_424 rfl hM.1 rfl (by decide) rfl (Nat.le_of_ble_eq_true rfl) dX10_asks_88 (fun r12 σ13 => ?_)
              refine y_ite (fun h14 => ?_) (fun h14 => ?_)
              · refine y_if_eq_t dX10_asks_91 (t := 98) rfl h14 ?_
                refine y_iconst dX10_asks_98 (by decide) ?_
                exact y_iret rfl rfl dX10_asks_99
              · refine y_if_eq_f dX10_asks_91 (t := 98) rfl h14 ?_
                refine y_iconst dX10_asks_94 (by decide) ?_
                refine y_goto dX10_asks_95 (t := 99) rfl ?_
                exact y_iret rfl rfl dX10_asks_99
            · refine y_ite (fun h21 => ?_) (fun h21 => ?_)
              · refine y_tab_in dX10_asks_24 (t := 100) (off := 76) (by omega) (by rw [h21]; rfl) rfl ?_
                refine y_aload_n dX10_asks_100 rfl rfl ?_
                refine y_iload_n dX10_asks_101 rfl rfl ?_
                refine y_iload_n dX10_asks_102 rfl rfl ?_
                refine y_cvI (qX10_isFitting hM p1 p2 σ1) kX10_421 rfl hM.1 rfl (by decide) rfl (Nat.le_of_ble_eq_true rfl) dX10_asks_103 (fun r15 => ?_)
                refine y_ite (fun h16 => ?_) (fun h16 => ?_)
                · refine y_if_eq_t dX10_asks_106 (t := 113) rfl h16 ?_
                  refine y_iconst dX10_asks_113 (by decide) ?_
                  exact y_iret rfl rfl dX10_asks_114
                · refine y_if_eq_f dX10_asks_106 (t := 113) rfl h16 ?_
                  refine y_iconst dX10_asks_109 (by decide) ?_
                  refine y_goto dX10_asks_110 (t := 114) rfl ?_
                  exact y_iret rfl rfl dX10_asks_114
              · refine y_ite (fun h20 => ?_) (fun h20 => ?_)
                · refine y_tab_in dX10_asks_24 (t := 115) (off := 91) (by omega) (by rw [h20]; rfl) rfl ?_
                  refine y_aload_n dX10_asks_115 rfl rfl ?_
                  refine y_iload_n dX10_asks_116 rfl rfl ?_
                  refine y_iload_n dX10_asks_117 rfl rfl ?_
                  refine y_cvIS (qX10_canHave hM p1 p2 σ1) kX10_436 rfl hM.1 rfl (by decide) rfl (Nat.le_of_ble_eq_true rfl) dX10_asks_118 (fun r17 σ18 => ?_)
                  refine y_ite (fun h19 => ?_) (fun h19 => ?_)
                  · refine y_if_eq_t dX10_asks_121 (t := 128) rfl h19 ?_
                    refine y_iconst dX10_asks_128 (by decide) ?_
                    exact y_iret rfl rfl dX10_asks_129
                  · refine y_if_eq_f dX10_asks_121 (t := 128) rfl h19 ?_
                    refine y_iconst dX10_asks_124 (by decide) ?_
                    refine y_goto dX10_asks_125 (t := 129) rfl ?_
                    exact y_iret rfl rfl dX10_asks_129
                · refine y_tab_out dX10_asks_24 (t := 130) (by omega) rfl ?_
                  refine y_iconst dX10_asks_130 (by decide) ?_
                  exact y_iret rfl rfl dX10_asks_131
theorem qX10_asks {K : Kt} (hM : mLay K) (p1 : Int) (p2 : Int) (p3 : Int) (σ : Sg) : Cc MX10_asks K [aR 84, aI p1, aI p2, aI p3] σ (emIS K) (vX10_asks p1 p2 p3 σ) := cc_of plX10 (Nat.le_of_ble_eq_true rfl) (fun o _ => ⟨Nat.le_refl _, Nat.le_refl _⟩) (fun Γ => tX10_asks hM p1 p2 p3 σ)
noncomputable def vX10_dueOf (p1 : Int) (σ : Sg) : Option (Int × Sg) := ck (in32 (29 + p1)) (ck (0 ≤ (29 + p1) ∧ (29 + p1) < 5505) (nm (σ 86 (29 + p1).toNat) (fun z1 => (vX10_keptFor p1 σ).bind (fun r2 => (vX10_term 1 σ).bind (fun r3 => ck (in32 (r2 - r3)) (bd2 (vX10_finesOf z1 p1 σ) (fun r4 σ5 => ck (in64 ((r2 - r3) * r4)) (nm ((r2 - r3) * r4) (fun z6 => ck (in32 (9 + z1)) (ck (0 ≤ (9 + z1) ∧ (9 + z1) < 5505) ((vX10_within z6 0 (σ5 86 (9 + z1).toNat) σ5).bind (fun r7 => some (r7, σ5)))))))))))))
set_option maxRecDepth 100000 in
theorem tX10_dueOf {Γ : Gx} {K : Kt} (hM : mLay K) (p1 : Int) (σ : Sg) : Y Γ MX10_dueOf K (emIS K) K 0 [some (aR 84), some (aI p1), none, none, none] [] σ (vX10_dueOf p1 σ) := by
  unfold vX10_dueOf
  refine y_aload_n dX10_dueOf_0 rfl rfl ?_
  refine y_getR fX10_13 hM.1 rfl (lM_3 hM).1 dX10_dueOf_1 ?_
  refine y_bipush dX10_dueOf_4 (by decide) (by decide) ?_
  refine y_iload_n dX10_dueOf_6 rfl rfl ?_
  refine yk_iadd dX10_dueOf_7 ?_
  refine yk_iaload (lM_3 hM).2 (N := 5505) rfl (j := (29 + p1).toNat) rfl dX10_dueOf_8 ?_
  refine yn_istore_n dX10_dueOf_9 rfl (Nat.le_of_ble_eq_true rfl) (L' := fun z1 => [some (aR 84), some (aI p1), some (aI z1), none, none]) (fun _ => rfl) (fun z1 => ?_)
  refine y_aload_n dX10_dueOf_10 rfl rfl ?_
  refine y_iload_n dX10_dueOf_11 rfl rfl ?_
  refine y_cvI (qX10_keptFor hM p1 σ) kX10_401 rfl hM.1 rfl (by decide) rfl (Nat.le_of_ble_eq_true rfl) dX10_dueOf_12 (fun r2 => ?_)
  refine y_aload_n dX10_dueOf_15 rfl rfl ?_
  refine y_iconst dX10_dueOf_16 (by decide) ?_
  refine y_cvI (qX10_term hM 1 σ) kX10_398 rfl hM.1 rfl (by decide) rfl (Nat.le_of_ble_eq_true rfl) dX10_dueOf_17 (fun r3 => ?_)
  refine yk_isub dX10_dueOf_20 ?_
  refine y_i2l dX10_dueOf_21 ?_
  refine y_aload_n dX10_dueOf_22 rfl rfl ?_
  refine y_iload_n dX10_dueOf_23 rfl rfl ?_
  refine y_iload_n dX10_dueOf_24 rfl rfl ?_
  refine y_cvIS (qX10_finesOf hM z1 p1 σ) kX10_427 rfl hM.1 rfl (by decide) rfl (Nat.le_of_ble_eq_true rfl) dX10_dueOf_25 (fun r4 σ5 => ?_)
  refine y_i2l dX10_dueOf_28 ?_
  refine yk_lmul dX10_dueOf_29 ?_
  refine yn_lstore_n dX10_dueOf_30 rfl (Nat.le_of_ble_eq_true rfl) (L' := fun z6 => [some (aR 84), some (aI p1), some (aI z1), some (aL z6), none]) (fun _ => rfl) (fun z6 => ?_)
  refine y_lload_n dX10_dueOf_31 rfl rfl ?_
  refine y_iconst dX10_dueOf_32 (by decide) ?_
  refine y_aload_n dX10_dueOf_33 rfl rfl ?_
  refine y_getR fX10_13 hM.1 rfl (lM_3 hM).1 dX10_dueOf_34 ?_
  refine y_bipush dX10_dueOf_37 (by decide) (by decide) ?_
  refine y_iload_n dX10_dueOf_39 rfl rfl ?_
  refine yk_iadd dX10_dueOf_40 ?_
  refine yk_iaload (lM_3 hM).2 (N := 5505) rfl (j := (9 + z1).toNat) rfl dX10_dueOf_41 ?_
  refine y_csI (qX10_within (K := K) z6 0 (σ5 86 (9 + z1).toNat) σ5) kX10_413 rfl (by decide) rfl (Nat.le_of_ble_eq_true rfl) dX10_dueOf_42 (fun r7 => ?_)
  exact y_iret rfl rfl dX10_dueOf_45
theorem qX10_dueOf {K : Kt} (hM : mLay K) (p1 : Int) (σ : Sg) : Cc MX10_dueOf K [aR 84, aI p1] σ (emIS K) (vX10_dueOf p1 σ) := cc_of plX10 (Nat.le_of_ble_eq_true rfl) (fun o _ => ⟨Nat.le_refl _, Nat.le_refl _⟩) (fun Γ => tX10_dueOf hM p1 σ)
noncomputable def vX10_leaveIt_96 (x1 x2 x3 y1 y2 y3 : Int) (σ : Sg) : Option (Int × Sg) := ck (0 ≤ y1 ∧ y1 < 5505) (nm (up2 σ 86 y1.toNat (bOr y2 y3)) (fun σ1 => ck (in32 (9 + x2)) (ck (0 ≤ (9 + x2) ∧ (9 + x2) < 5505) (ck (in32 ((σ1 86 (9 + x2).toNat) - x3)) (ck (0 ≤ (9 + x2) ∧ (9 + x2) < 5505) (nm (up2 σ1 86 (9 + x2).toNat ((σ1 86 (9 + x2).toNat) - x3)) (fun σ2 => ck (in32 (29 + x1)) (ck (0 ≤ (29 + x1) ∧ (29 + x1) < 5505) (nm (up2 σ2 86 (29 + x1).toNat (-1)) (fun σ3 => ck (in32 (35 + x1)) (ck (0 ≤ (35 + x1) ∧ (35 + x1) < 5505) (nm (up2 σ3 86 (35 + x1).toNat (-1)) (fun σ4 => some (x3, σ4))))))))))))))
set_option maxRecDepth 100000 in
theorem tX10_leaveIt_96 {Γ : Gx} {K : Kt} (hM : mLay K)  (x1 x2 x3 y1 y2 y3 : Int) (σ : Sg) : Y Γ MX10_leaveIt K (emIS K) K 96 [some (aR 84), some (aI x1), some (aI x2), some (aI x3), none] [aI y3, aI y2, aI y1, aR 86] σ (vX10_leaveIt_96 x1 x2 x3 y1 y2 y3 σ) := by
  unfold vX10_leaveIt_96
  refine y_ior dX10_leaveIt_96 ?_
  refine yk_iastore (lM_3 hM).2 (N := 5505) rfl (j := y1.toNat) rfl dX10_leaveIt_97 (fun σ1 => ?_)
  refine y_aload_n dX10_leaveIt_98 rfl rfl ?_
  refine y_getR fX10_13 hM.1 rfl (lM_3 hM).1 dX10_leaveIt_99 ?_
  refine y_bipush dX10_leaveIt_102 (by decide) (by decide) ?_
  refine y_iload_n dX10_leaveIt_104 rfl rfl ?_
  refine yk_iadd dX10_leaveIt_105 ?_
  refine y_dup2 dX10_leaveIt_106 (fun _ => rfl) (fun _ => rfl) ?_
  refine yk_iaload (lM_3 hM).2 (N := 5505) rfl (j := (9 + x2).toNat) rfl dX10_leaveIt_107 ?_
  refine y_iload_n dX10_leaveIt_108 rfl rfl ?_
  refine yk_isub dX10_leaveIt_109 ?_
  refine yk_iastore (lM_3 hM).2 (N := 5505) rfl (j := (9 + x2).toNat) rfl dX10_leaveIt_110 (fun σ2 => ?_)
  refine y_aload_n dX10_leaveIt_111 rfl rfl ?_
  refine y_getR fX10_13 hM.1 rfl (lM_3 hM).1 dX10_leaveIt_112 ?_
  refine y_bipush dX10_leaveIt_115 (by decide) (by decide) ?_
  refine y_iload_n dX10_leaveIt_117 rfl rfl ?_
  refine yk_iadd dX10_leaveIt_118 ?_
  refine y_iconst dX10_leaveIt_119 (by decide) ?_
  refine yk_iastore (lM_3 hM).2 (N := 5505) rfl (j := (29 + x1).toNat) rfl dX10_leaveIt_120 (fun σ3 => ?_)
  refine y_aload_n dX10_leaveIt_121 rfl rfl ?_
  refine y_getR fX10_13 hM.1 rfl (lM_3 hM).1 dX10_leaveIt_122 ?_
  refine y_bipush dX10_leaveIt_125 (by decide) (by decide) ?_
  refine y_iload_n dX10_leaveIt_127 rfl rfl ?_
  refine yk_iadd dX10_leaveIt_128 ?_
  refine y_iconst dX10_leaveIt_129 (by decide) ?_
  refine yk_iastore (lM_3 hM).2 (N := 5505) rfl (j := (35 + x1).toNat) rfl dX10_leaveIt_130 (fun σ4 => ?_)
  refine y_iload_n dX10_leaveIt_131 rfl rfl ?_
  exact y_iret rfl rfl dX10_leaveIt_132
noncomputable def vX10_leaveIt_66 (x1 x2 x3 x4 y1 y2 y3 : Int) (σ : Sg) : Option (Int × Sg) := ck (0 ≤ y1 ∧ y1 < 5505) (nm (up2 σ 86 y1.toNat (bOr y2 y3)) (fun σ1 => ck (in32 (17 + x1)) (ck (0 ≤ (17 + x1) ∧ (17 + x1) < 5505) (if x4 = 0 then (vX10_leaveIt_96 x1 x2 x3 (17 + x1) (σ1 86 (17 + x1).toNat) 0 σ1) else (ck (in32 (87 + x2)) (ck (0 ≤ (87 + x2) ∧ (87 + x2) < 5505) (vX10_leaveIt_96 x1 x2 x3 (17 + x1) (σ1 86 (17 + x1).toNat) (σ1 86 (87 + x2).toNat) σ1)))))))
set_option maxRecDepth 100000 in
theorem tX10_leaveIt_66 {Γ : Gx} {K : Kt} (hM : mLay K)  (x1 x2 x3 x4 y1 y2 y3 : Int) (σ : Sg) : Y Γ MX10_leaveIt K (emIS K) K 66 [some (aR 84), some (aI x1), some (aI x2), some (aI x3), some (aI x4)] [aI y3, aI y2, aI y1, aR 86] σ (vX10_leaveIt_66 x1 x2 x3 x4 y1 y2 y3 σ) := by
  unfold vX10_leaveIt_66
  refine y_ior dX10_leaveIt_66 ?_
  refine yk_iastore (lM_3 hM).2 (N := 5505) rfl (j := y1.toNat) rfl dX10_leaveIt_67 (fun σ1 => ?_)
  refine y_aload_n dX10_leaveIt_68 rfl rfl ?_
  refine y_getR fX10_13 hM.1 rfl (lM_3 hM).1 dX10_leaveIt_69 ?_
  refine y_bipush dX10_leaveIt_72 (by decide) (by decide) ?_
  refine y_iload_n dX10_leaveIt_74 rfl rfl ?_
  refine yk_iadd dX10_leaveIt_75 ?_
  refine y_dup2 dX10_leaveIt_76 (fun _ => rfl) (fun _ => rfl) ?_
  refine yk_iaload (lM_3 hM).2 (N := 5505) rfl (j := (17 + x1).toNat) rfl dX10_leaveIt_77 ?_
  refine y_iload dX10_leaveIt_78 rfl ?_
  refine y_ite (fun h2 => ?_) (fun h2 => ?_)
  · refine y_if_eq_t dX10_leaveIt_80 (t := 95) rfl h2 ?_
    refine y_iconst dX10_leaveIt_95 (by decide) ?_
    refine y_fg [true, true, true, true, false] (L' := [some (aR 84), some (aI x1), some (aI x2), some (aI x3), none]) rfl ?_
    exact tX10_leaveIt_96 hM x1 x2 x3 (17 + x1) (σ1 86 (17 + x1).toNat) 0 σ1
  · refine y_if_eq_f dX10_leaveIt_80 (t := 95) rfl h2 ?_
    refine y_aload_n dX10_leaveIt_83 rfl rfl ?_
    refine y_getR fX10_13 hM.1 rfl (lM_3 hM).1 dX10_leaveIt_84 ?_
    refine y_bipush dX10_leaveIt_87 (by decide) (by decide) ?_
    refine y_iload_n dX10_leaveIt_89 rfl rfl ?_
    refine yk_iadd dX10_leaveIt_90 ?_
    refine yk_iaload (lM_3 hM).2 (N := 5505) rfl (j := (87 + x2).toNat) rfl dX10_leaveIt_91 ?_
    refine y_goto dX10_leaveIt_92 (t := 96) rfl ?_
    refine y_fg [true, true, true, true, false] (L' := [some (aR 84), some (aI x1), some (aI x2), some (aI x3), none]) rfl ?_
    exact tX10_leaveIt_96 hM x1 x2 x3 (17 + x1) (σ1 86 (17 + x1).toNat) (σ1 86 (87 + x2).toNat) σ1
noncomputable def vX10_leaveIt_42 (x1 x2 x3 y0 : Int) (σ : Sg) : Option (Int × Sg) := ck (in32 (41 + x1)) (ck (0 ≤ (41 + x1) ∧ (41 + x1) < 5505) (if y0 = 0 then (vX10_leaveIt_66 x1 x2 x3 y0 (41 + x1) (σ 86 (41 + x1).toNat) 0 σ) else (vX10_leaveIt_66 x1 x2 x3 y0 (41 + x1) (σ 86 (41 + x1).toNat) (bShl 1 x2) σ)))
set_option maxRecDepth 100000 in
theorem tX10_leaveIt_42 {Γ : Gx} {K : Kt} (hM : mLay K)  (x1 x2 x3 y0 : Int) (σ : Sg) : Y Γ MX10_leaveIt K (emIS K) K 42 [some (aR 84), some (aI x1), some (aI x2), some (aI x3), none] [aI y0] σ (vX10_leaveIt_42 x1 x2 x3 y0 σ) := by
  unfold vX10_leaveIt_42
  refine y_istore dX10_leaveIt_42 (Nat.le_of_ble_eq_true rfl) (L' := [some (aR 84), some (aI x1), some (aI x2), some (aI x3), some (aI y0)]) rfl ?_
  refine y_aload_n dX10_leaveIt_44 rfl rfl ?_
  refine y_getR fX10_13 hM.1 rfl (lM_3 hM).1 dX10_leaveIt_45 ?_
  refine y_bipush dX10_leaveIt_48 (by decide) (by decide) ?_
  refine y_iload_n dX10_leaveIt_50 rfl rfl ?_
  refine yk_iadd dX10_leaveIt_51 ?_
  refine y_dup2 dX10_leaveIt_52 (fun _ => rfl) (fun _ => rfl) ?_
  refine yk_iaload (lM_3 hM).2 (N := 5505) rfl (j := (41 + x1).toNat) rfl dX10_leaveIt_53 ?_
  refine y_iload dX10_leaveIt_54 rfl ?_
  refine y_ite (fun h1 => ?_) (fun h1 => ?_)
  · refine y_if_eq_t dX10_leaveIt_56 (t := 65) rfl h1 ?_
    refine y_iconst dX10_leaveIt_65 (by decide) ?_
    exact tX10_leaveIt_66 hM x1 x2 x3 y0 (41 + x1) (σ 86 (41 + x1).toNat) 0 σ
  · refine y_if_eq_f dX10_leaveIt_56 (t := 65) rfl h1 ?_
    refine y_iconst dX10_leaveIt_59 (by decide) ?_
    refine y_iload_n dX10_leaveIt_60 rfl rfl ?_
    refine y_ishl dX10_leaveIt_61 ?_
    refine y_goto dX10_leaveIt_62 (t := 66) rfl ?_
    exact tX10_leaveIt_66 hM x1 x2 x3 y0 (41 + x1) (σ 86 (41 + x1).toNat) (bShl 1 x2) σ
noncomputable def vX10_leaveIt (p1 : Int) (σ : Sg) : Option (Int × Sg) := ck (in32 (29 + p1)) (ck (0 ≤ (29 + p1) ∧ (29 + p1) < 5505) (nm (σ 86 (29 + p1).toNat) (fun z1 => if z1 = (-1) then (some (0, σ)) else (bd2 (vX10_dueOf p1 σ) (fun r3 σ4 => (vX10_keptFor p1 σ4).bind (fun r5 => bd2 (vX10_takesOf z1 p1 σ4) (fun r6 σ7 => if r5 < r6 then (vX10_leaveIt_42 p1 z1 r3 0 σ7) else (vX10_leaveIt_42 p1 z1 r3 1 σ7))))))))
set_option maxRecDepth 100000 in
theorem tX10_leaveIt {Γ : Gx} {K : Kt} (hM : mLay K) (p1 : Int) (σ : Sg) : Y Γ MX10_leaveIt K (emIS K) K 0 [some (aR 84), some (aI p1), none, none, none] [] σ (vX10_leaveIt p1 σ) := by
  unfold vX10_leaveIt
  refine y_aload_n dX10_leaveIt_0 rfl rfl ?_
  refine y_getR fX10_13 hM.1 rfl (lM_3 hM).1 dX10_leaveIt_1 ?_
  refine y_bipush dX10_leaveIt_4 (by decide) (by decide) ?_
  refine y_iload_n dX10_leaveIt_6 rfl rfl ?_
  refine yk_iadd dX10_leaveIt_7 ?_
  refine yk_iaload (lM_3 hM).2 (N := 5505) rfl (j := (29 + p1).toNat) rfl dX10_leaveIt_8 ?_
  refine yn_istore_n dX10_leaveIt_9 rfl (Nat.le_of_ble_eq_true rfl) (L' := fun z1 => [some (aR 84), some (aI p1), some (aI z1), none, none]) (fun _ => rfl) (fun z1 => ?_)
  refine y_iload_n dX10_leaveIt_10 rfl rfl ?_
  refine y_iconst dX10_leaveIt_11 (by decide) ?_
  refine y_ite (fun h2 => ?_) (fun h2 => ?_)
  · refine y_icmp_ne_f dX10_leaveIt_12 (t := 17) rfl h2 ?_
    refine y_iconst dX10_leaveIt_15 (by decide) ?_
    exact y_iret rfl rfl dX10_leaveIt_16
  · refine y_icmp_ne_t dX10_leaveIt_12 (t := 17) rfl h2 ?_
    refine y_aload_n dX10_leaveIt_17 rfl rfl ?_
    refine y_iload_n dX10_leaveIt_18 rfl rfl ?_
    refine y_cvIS (qX10_dueOf hM p1 σ) kX10_439 rfl hM.1 rfl (by decide) rfl (Nat.le_of_ble_eq_true rfl) dX10_leaveIt_19 (fun r3 σ4 => ?_)
    refine y_istore_n dX10_leaveIt_22 rfl (Nat.le_of_ble_eq_true rfl) (L' := [some (aR 84), some (aI p1), some (aI z1), some (aI r3), none]) rfl ?_
    refine y_aload_n dX10_leaveIt_23 rfl rfl ?_
    refine y_iload_n dX10_leaveIt_24 rfl rfl ?_
    refine y_cvI (qX10_keptFor hM p1 σ4) kX10_401 rfl hM.1 rfl (by decide) rfl (Nat.le_of_ble_eq_true rfl) dX10_leaveIt_25 (fun r5 => ?_)
    refine y_aload_n dX10_leaveIt_28 rfl rfl ?_
    refine y_iload_n dX10_leaveIt_29 rfl rfl ?_
    refine y_iload_n dX10_leaveIt_30 rfl rfl ?_
    refine y_cvIS (qX10_takesOf hM z1 p1 σ4) kX10_433 rfl hM.1 rfl (by decide) rfl (Nat.le_of_ble_eq_true rfl) dX10_leaveIt_31 (fun r6 σ7 => ?_)
    refine y_ite (fun h8 => ?_) (fun h8 => ?_)
    · refine y_icmp_lt_t dX10_leaveIt_34 (t := 41) rfl h8 ?_
      refine y_iconst dX10_leaveIt_41 (by decide) ?_
      exact tX10_leaveIt_42 hM p1 z1 r3 0 σ7
    · refine y_icmp_lt_f dX10_leaveIt_34 (t := 41) rfl h8 ?_
      refine y_iconst dX10_leaveIt_37 (by decide) ?_
      refine y_goto dX10_leaveIt_38 (t := 42) rfl ?_
      exact tX10_leaveIt_42 hM p1 z1 r3 1 σ7
theorem qX10_leaveIt {K : Kt} (hM : mLay K) (p1 : Int) (σ : Sg) : Cc MX10_leaveIt K [aR 84, aI p1] σ (emIS K) (vX10_leaveIt p1 σ) := cc_of plX10 (Nat.le_of_ble_eq_true rfl) (fun o _ => ⟨Nat.le_refl _, Nat.le_refl _⟩) (fun Γ => tX10_leaveIt hM p1 σ)
noncomputable def vX10_canLend_45 (y0 : Int) (σ : Sg) : Option (Int × Sg) := (vX10_putBack 18 σ).bind (fun σ1 => ck (y0 = 0 ∨ y0 = 1) (some (y0, σ1)))
set_option maxRecDepth 100000 in
theorem tX10_canLend_45 {Γ : Gx} {K : Kt} (hM : mLay K)  (y0 : Int) (σ : Sg) : Y Γ MX10_canLend K (emIS K) K 45 [some (aR 84), none, none, none] [aI y0] σ (vX10_canLend_45 y0 σ) := by
  unfold vX10_canLend_45
  refine y_istore_n dX10_canLend_45 rfl (Nat.le_of_ble_eq_true rfl) (L' := [some (aR 84), none, none, some (aI y0)]) rfl ?_
  refine y_aload_n dX10_canLend_46 rfl rfl ?_
  refine y_bipush dX10_canLend_47 (by decide) (by decide) ?_
  refine y_cvV (qX10_putBack hM 18 σ) kX10_174 rfl hM.1 rfl (by decide) rfl (Nat.le_of_ble_eq_true rfl) dX10_canLend_49 (fun σ1 => ?_)
  refine y_iload_n dX10_canLend_52 rfl rfl ?_
  exact yk_zret rfl rfl dX10_canLend_53
noncomputable def vX10_canLend_44 (σ : Sg) : Option (Int × Sg) := vX10_canLend_45 0 σ
set_option maxRecDepth 100000 in
theorem tX10_canLend_44 {Γ : Gx} {K : Kt} (hM : mLay K)  (σ : Sg) : Y Γ MX10_canLend K (emIS K) K 44 [some (aR 84), none, none, none] [] σ (vX10_canLend_44  σ) := by
  unfold vX10_canLend_44
  refine y_iconst dX10_canLend_44 (by decide) ?_
  exact tX10_canLend_45 hM 0 σ
noncomputable def vX10_canLend_20 (x1 x2 y0 : Int) (σ : Sg) : Option (Int × Sg) := bd2 (vX10_leaveIt x1 σ) (fun r1 σ2 => if y0 = 0 then (vX10_canLend_44 σ2) else (bd2 (vX10_canHave x2 x1 σ2) (fun r4 σ5 => if r4 = 0 then (vX10_canLend_44 σ5) else (vX10_canLend_45 1 σ5))))
set_option maxRecDepth 100000 in
theorem tX10_canLend_20 {Γ : Gx} {K : Kt} (hM : mLay K)  (x1 x2 y0 : Int) (σ : Sg) : Y Γ MX10_canLend K (emIS K) K 20 [some (aR 84), some (aI x1), some (aI x2), none] [aI y0] σ (vX10_canLend_20 x1 x2 y0 σ) := by
  unfold vX10_canLend_20
  refine y_istore_n dX10_canLend_20 rfl (Nat.le_of_ble_eq_true rfl) (L' := [some (aR 84), some (aI x1), some (aI x2), some (aI y0)]) rfl ?_
  refine y_aload_n dX10_canLend_21 rfl rfl ?_
  refine y_iload_n dX10_canLend_22 rfl rfl ?_
  refine y_cvIS (qX10_leaveIt hM x1 σ) kX10_442 rfl hM.1 rfl (by decide) rfl (Nat.le_of_ble_eq_true rfl) dX10_canLend_23 (fun r1 σ2 => ?_)
  refine y_pop dX10_canLend_26 (fun _ => rfl) ?_
  refine y_iload_n dX10_canLend_27 rfl rfl ?_
  refine y_ite (fun h3 => ?_) (fun h3 => ?_)
  · refine y_if_eq_t dX10_canLend_28 (t := 44) rfl h3 ?_
    refine y_fg [true, false, false, false] (L' := [some (aR 84), none, none, none]) rfl ?_
    exact tX10_canLend_44 hM σ2
  · refine y_if_eq_f dX10_canLend_28 (t := 44) rfl h3 ?_
    refine y_aload_n dX10_canLend_31 rfl rfl ?_
    refine y_iload_n dX10_canLend_32 rfl rfl ?_
    refine y_iload_n dX10_canLend_33 rfl rfl ?_
    refine y_cvIS (qX10_canHave hM x2 x1 σ2) kX10_436 rfl hM.1 rfl (by decide) rfl (Nat.le_of_ble_eq_true rfl) dX10_canLend_34 (fun r4 σ5 => ?_)
    refine y_ite (fun h6 => ?_) (fun h6 => ?_)
    · refine y_if_eq_t dX10_canLend_37 (t := 44) rfl h6 ?_
      refine y_fg [true, false, false, false] (L' := [some (aR 84), none, none, none]) rfl ?_
      exact tX10_canLend_44 hM σ5
    · refine y_if_eq_f dX10_canLend_37 (t := 44) rfl h6 ?_
      refine y_iconst dX10_canLend_40 (by decide) ?_
      refine y_goto dX10_canLend_41 (t := 45) rfl ?_
      refine y_fg [true, false, false, false] (L' := [some (aR 84), none, none, none]) rfl ?_
      exact tX10_canLend_45 hM 1 σ5
noncomputable def vX10_canLend (p1 : Int) (p2 : Int) (σ : Sg) : Option (Int × Sg) := (vX10_keepAll 18 σ).bind (fun σ1 => (vX10_readerWith p2 σ1).bind (fun r2 => if r2 = (-1) then (vX10_canLend_20 p1 p2 1 σ1) else (vX10_canLend_20 p1 p2 0 σ1)))
set_option maxRecDepth 100000 in
theorem tX10_canLend {Γ : Gx} {K : Kt} (hM : mLay K) (p1 : Int) (p2 : Int) (σ : Sg) : Y Γ MX10_canLend K (emIS K) K 0 [some (aR 84), some (aI p1), some (aI p2), none] [] σ (vX10_canLend p1 p2 σ) := by
  unfold vX10_canLend
  refine y_aload_n dX10_canLend_0 rfl rfl ?_
  refine y_bipush dX10_canLend_1 (by decide) (by decide) ?_
  refine y_cvV (qX10_keepAll hM 18 σ) kX10_170 rfl hM.1 rfl (by decide) rfl (Nat.le_of_ble_eq_true rfl) dX10_canLend_3 (fun σ1 => ?_)
  refine y_aload_n dX10_canLend_6 rfl rfl ?_
  refine y_iload_n dX10_canLend_7 rfl rfl ?_
  refine y_cvI (qX10_readerWith hM p2 σ1) kX10_198 rfl hM.1 rfl (by decide) rfl (Nat.le_of_ble_eq_true rfl) dX10_canLend_8 (fun r2 => ?_)
  refine y_iconst dX10_canLend_11 (by decide) ?_
  refine y_ite (fun h3 => ?_) (fun h3 => ?_)
  · refine y_icmp_ne_f dX10_canLend_12 (t := 19) rfl h3 ?_
    refine y_iconst dX10_canLend_15 (by decide) ?_
    refine y_goto dX10_canLend_16 (t := 20) rfl ?_
    exact tX10_canLend_20 hM p1 p2 1 σ1
  · refine y_icmp_ne_t dX10_canLend_12 (t := 19) rfl h3 ?_
    refine y_iconst dX10_canLend_19 (by decide) ?_
    exact tX10_canLend_20 hM p1 p2 0 σ1
theorem qX10_canLend {K : Kt} (hM : mLay K) (p1 : Int) (p2 : Int) (σ : Sg) : Cc MX10_canLend K [aR 84, aI p1, aI p2] σ (emIS K) (vX10_canLend p1 p2 σ) := cc_of plX10 (Nat.le_of_ble_eq_true rfl) (fun o _ => ⟨Nat.le_refl _, Nat.le_refl _⟩) (fun Γ => tX10_canLend hM p1 p2 σ)
noncomputable def vX10_waitAt_5 (σ : Sg) : Nat → Int → Int → Int → Int → Option (Int)
  | 0, _, _, _, _ => none
  | f + 1, x1, x2, x3, x4 => if x4 < (σ 86 8) then (ck (in32 (2 * x4)) (ck (in32 (47 + (2 * x4))) (ck (0 ≤ (47 + (2 * x4)) ∧ (47 + (2 * x4)) < 5505) (if (σ 86 (47 + (2 * x4)).toNat) = x1 then (ck (in32 (2 * x4)) (ck (in32 (47 + (2 * x4))) (ck (in32 ((47 + (2 * x4)) + 1)) (ck (0 ≤ ((47 + (2 * x4)) + 1) ∧ ((47 + (2 * x4)) + 1) < 5505) (if (σ 86 ((47 + (2 * x4)) + 1).toNat) = x2 then (ck (in32 (x4 + 1)) (vX10_waitAt_5 σ f x1 x2 x4 (x4 + 1))) else (ck (in32 (x4 + 1)) (vX10_waitAt_5 σ f x1 x2 x3 (x4 + 1)))))))) else (ck (in32 (x4 + 1)) (vX10_waitAt_5 σ f x1 x2 x3 (x4 + 1))))))) else (some x3)
set_option maxRecDepth 100000 in
theorem tX10_waitAt_5 {Γ : Gx} {K : Kt} (hM : mLay K) (σ : Sg)  : ∀ (f : Nat) (x1 x2 x3 x4 : Int), Y Γ MX10_waitAt K (emI K σ) K 5 [some (aR 84), some (aI x1), some (aI x2), some (aI x3), some (aI x4)] [] σ (vX10_waitAt_5 σ f x1 x2 x3 x4) := by
  intro f
  induction f with
  | zero => intro x1 x2 x3 x4; exact y_none
  | succ f ih =>
    intro x1 x2 x3 x4
    rw [vX10_waitAt_5]
    refine y_iload dX10_waitAt_5 rfl ?_
    refine y_aload_n dX10_waitAt_7 rfl rfl ?_
    refine y_getR fX10_13 hM.1 rfl (lM_3 hM).1 dX10_waitAt_8 ?_
    refine y_bipush dX10_waitAt_11 (by decide) (by decide) ?_
    refine yl_iaload (lM_3 hM).2 (by decide) (j := 8) rfl dX10_waitAt_13 ?_
    refine y_ite (fun h1 => ?_) (fun h1 => ?_)
    · refine y_icmp_ge_f dX10_waitAt_14 (t := 64) rfl h1 ?_
      refine y_aload_n dX10_waitAt_17 rfl rfl ?_
      refine y_getR fX10_13 hM.1 rfl (lM_3 hM).1 dX10_waitAt_18 ?_
      refine y_bipush dX10_waitAt_21 (by decide) (by decide) ?_
      refine y_iconst dX10_waitAt_23 (by decide) ?_
      refine y_iload dX10_waitAt_24 rfl ?_
      refine yk_imul dX10_waitAt_26 ?_
      refine yk_iadd dX10_waitAt_27 ?_
      refine yk_iaload (lM_3 hM).2 (N := 5505) rfl (j := (47 + (2 * x4)).toNat) rfl dX10_waitAt_28 ?_
      refine y_iload_n dX10_waitAt_29 rfl rfl ?_
      refine y_ite (fun h2 => ?_) (fun h2 => ?_)
      · refine y_icmp_ne_f dX10_waitAt_30 (t := 56) rfl h2 ?_
        refine y_aload_n dX10_waitAt_33 rfl rfl ?_
        refine y_getR fX10_13 hM.1 rfl (lM_3 hM).1 dX10_waitAt_34 ?_
        refine y_bipush dX10_waitAt_37 (by decide) (by decide) ?_
        refine y_iconst dX10_waitAt_39 (by decide) ?_
        refine y_iload dX10_waitAt_40 rfl ?_
        refine yk_imul dX10_waitAt_42 ?_
        refine yk_iadd dX10_waitAt_43 ?_
        refine y_iconst dX10_waitAt_44 (by decide) ?_
        refine yk_iadd dX10_waitAt_45 ?_
        refine yk_iaload (lM_3 hM).2 (N := 5505) rfl (j := ((47 + (2 * x4)) + 1).toNat) rfl dX10_waitAt_46 ?_
        refine y_iload_n dX10_waitAt_47 rfl rfl ?_
        refine y_ite (fun h3 => ?_) (fun h3 => ?_)
        · refine y_icmp_ne_f dX10_waitAt_48 (t := 56) rfl h3 ?_
          refine y_iload dX10_waitAt_51 rfl ?_
          refine y_goto dX10_waitAt_53 (t := 57) rfl ?_
          refine y_istore_n dX10_waitAt_57 rfl (Nat.le_of_ble_eq_true rfl) (L' := [some (aR 84), some (aI x1), some (aI x2), some (aI x4), some (aI x4)]) rfl ?_
          refine yk_iinc dX10_waitAt_58 rfl (L' := [some (aR 84), some (aI x1), some (aI x2), some (aI x4), some (aI (x4 + 1))]) rfl ?_
          refine y_goto dX10_waitAt_61 (t := 5) rfl ?_
          exact ih x1 x2 x4 (x4 + 1)
        · refine y_icmp_ne_t dX10_waitAt_48 (t := 56) rfl h3 ?_
          refine y_iload_n dX10_waitAt_56 rfl rfl ?_
          refine y_istore_n dX10_waitAt_57 rfl (Nat.le_of_ble_eq_true rfl) (L' := [some (aR 84), some (aI x1), some (aI x2), some (aI x3), some (aI x4)]) rfl ?_
          refine yk_iinc dX10_waitAt_58 rfl (L' := [some (aR 84), some (aI x1), some (aI x2), some (aI x3), some (aI (x4 + 1))]) rfl ?_
          refine y_goto dX10_waitAt_61 (t := 5) rfl ?_
          exact ih x1 x2 x3 (x4 + 1)
      · refine y_icmp_ne_t dX10_waitAt_30 (t := 56) rfl h2 ?_
        refine y_iload_n dX10_waitAt_56 rfl rfl ?_
        refine y_istore_n dX10_waitAt_57 rfl (Nat.le_of_ble_eq_true rfl) (L' := [some (aR 84), some (aI x1), some (aI x2), some (aI x3), some (aI x4)]) rfl ?_
        refine yk_iinc dX10_waitAt_58 rfl (L' := [some (aR 84), some (aI x1), some (aI x2), some (aI x3), some (aI (x4 + 1))]) rfl ?_
        refine y_goto dX10_waitAt_61 (t := 5) rfl ?_
        exact ih x1 x2 x3 (x4 + 1)
    · refine y_icmp_ge_t dX10_waitAt_14 (t := 64) rfl h1 ?_
      refine y_iload_n dX10_waitAt_64 rfl rfl ?_
      exact y_iret rfl rfl dX10_waitAt_65
noncomputable def vX10_waitAt (p1 : Int) (p2 : Int) (σ : Sg) : Option (Int) := vX10_waitAt_5 σ FU p1 p2 (-1) 0
set_option maxRecDepth 100000 in
theorem tX10_waitAt {Γ : Gx} {K : Kt} (hM : mLay K) (p1 : Int) (p2 : Int) (σ : Sg) : Y Γ MX10_waitAt K (emI K σ) K 0 [some (aR 84), some (aI p1), some (aI p2), none, none] [] σ (vX10_waitAt p1 p2 σ) := by
  unfold vX10_waitAt
  refine y_iconst dX10_waitAt_0 (by decide) ?_
  refine y_istore_n dX10_waitAt_1 rfl (Nat.le_of_ble_eq_true rfl) (L' := [some (aR 84), some (aI p1), some (aI p2), some (aI (-1)), none]) rfl ?_
  refine y_iconst dX10_waitAt_2 (by decide) ?_
  refine y_istore dX10_waitAt_3 (Nat.le_of_ble_eq_true rfl) (L' := [some (aR 84), some (aI p1), some (aI p2), some (aI (-1)), some (aI 0)]) rfl ?_
  exact tX10_waitAt_5 hM σ FU p1 p2 (-1) 0
theorem qX10_waitAt {K : Kt} (hM : mLay K) (p1 : Int) (p2 : Int) (σ : Sg) : Cc MX10_waitAt K [aR 84, aI p1, aI p2] σ (emI K σ) (vX10_waitAt p1 p2 σ) := cc_of plX10 (Nat.le_of_ble_eq_true rfl) (fun o _ => ⟨Nat.le_refl _, Nat.le_refl _⟩) (fun Γ => tX10_waitAt hM p1 p2 σ)
noncomputable def vX10_lendIt_61 : Nat → Int → Int → Sg → Option (Int × Sg)
  | 0, _, _, _ => none
  | f + 1, x3, x5, σ => ck (in32 (2 * (σ 86 8))) (if x5 < (2 * (σ 86 8)) then (ck (in32 (47 + x5)) (ck (in32 (47 + x5)) (ck (in32 ((47 + x5) + 2)) (ck (0 ≤ ((47 + x5) + 2) ∧ ((47 + x5) + 2) < 5505) (ck (0 ≤ (47 + x5) ∧ (47 + x5) < 5505) (nm (up2 σ 86 (47 + x5).toNat (σ 86 ((47 + x5) + 2).toNat)) (fun σ2 => ck (in32 (x5 + 1)) (vX10_lendIt_61 f x3 (x5 + 1) σ2)))))))) else (some (x3, σ)))
set_option maxRecDepth 100000 in
theorem tX10_lendIt_61 {Γ : Gx} {K : Kt} (hM : mLay K)  : ∀ (f : Nat) (x3 x5 : Int) (σ : Sg), Y Γ MX10_lendIt K (emIS K) K 61 [some (aR 84), none, none, some (aI x3), none, some (aI x5)] [] σ (vX10_lendIt_61 f x3 x5 σ) := by
  intro f
  induction f with
  | zero => intro x3 x5 σ; exact y_none
  | succ f ih =>
    intro x3 x5 σ
    rw [vX10_lendIt_61]
    refine y_iload dX10_lendIt_61 rfl ?_
    refine y_iconst dX10_lendIt_63 (by decide) ?_
    refine y_aload_n dX10_lendIt_64 rfl rfl ?_
    refine y_getR fX10_13 hM.1 rfl (lM_3 hM).1 dX10_lendIt_65 ?_
    refine y_bipush dX10_lendIt_68 (by decide) (by decide) ?_
    refine yl_iaload (lM_3 hM).2 (by decide) (j := 8) rfl dX10_lendIt_70 ?_
    refine yk_imul dX10_lendIt_71 ?_
    refine y_ite (fun h1 => ?_) (fun h1 => ?_)
    · refine y_icmp_ge_f dX10_lendIt_72 (t := 103) rfl h1 ?_
      refine y_aload_n dX10_lendIt_75 rfl rfl ?_
      refine y_getR fX10_13 hM.1 rfl (lM_3 hM).1 dX10_lendIt_76 ?_
      refine y_bipush dX10_lendIt_79 (by decide) (by decide) ?_
      refine y_iload dX10_lendIt_81 rfl ?_
      refine yk_iadd dX10_lendIt_83 ?_
      refine y_aload_n dX10_lendIt_84 rfl rfl ?_
      refine y_getR fX10_13 hM.1 rfl (lM_3 hM).1 dX10_lendIt_85 ?_
      refine y_bipush dX10_lendIt_88 (by decide) (by decide) ?_
      refine y_iload dX10_lendIt_90 rfl ?_
      refine yk_iadd dX10_lendIt_92 ?_
      refine y_iconst dX10_lendIt_93 (by decide) ?_
      refine yk_iadd dX10_lendIt_94 ?_
      refine yk_iaload (lM_3 hM).2 (N := 5505) rfl (j := ((47 + x5) + 2).toNat) rfl dX10_lendIt_95 ?_
      refine yk_iastore (lM_3 hM).2 (N := 5505) rfl (j := (47 + x5).toNat) rfl dX10_lendIt_96 (fun σ2 => ?_)
      refine yk_iinc dX10_lendIt_97 rfl (L' := [some (aR 84), none, none, some (aI x3), none, some (aI (x5 + 1))]) rfl ?_
      refine y_goto dX10_lendIt_100 (t := 61) rfl ?_
      exact ih x3 (x5 + 1) σ2
    · refine y_icmp_ge_t dX10_lendIt_72 (t := 103) rfl h1 ?_
      refine y_iload_n dX10_lendIt_103 rfl rfl ?_
      exact y_iret rfl rfl dX10_lendIt_104
noncomputable def vX10_lendIt (p1 : Int) (p2 : Int) (σ : Sg) : Option (Int × Sg) := bd2 (vX10_leaveIt p1 σ) (fun r1 σ2 => ck (in32 (29 + p1)) (ck (0 ≤ (29 + p1) ∧ (29 + p1) < 5505) (nm (up2 σ2 86 (29 + p1).toNat p2) (fun σ3 => ck (in32 (35 + p1)) ((vX10_term 0 σ3).bind (fun r4 => ck (0 ≤ (35 + p1) ∧ (35 + p1) < 5505) (nm (up2 σ3 86 (35 + p1).toNat r4) (fun σ5 => (vX10_waitAt p2 p1 σ5).bind (fun r6 => if r6 = (-1) then (some (r1, σ5)) else (ck (in32 ((σ5 86 8) - 1)) (nm (up2 σ5 86 8 ((σ5 86 8) - 1)) (fun σ8 => ck (in32 (2 * r6)) (nm (2 * r6) (fun z9 => vX10_lendIt_61 FU r1 z9 σ8))))))))))))))
set_option maxRecDepth 100000 in
theorem tX10_lendIt {Γ : Gx} {K : Kt} (hM : mLay K) (p1 : Int) (p2 : Int) (σ : Sg) : Y Γ MX10_lendIt K (emIS K) K 0 [some (aR 84), some (aI p1), some (aI p2), none, none, none] [] σ (vX10_lendIt p1 p2 σ) := by
  unfold vX10_lendIt
  refine y_aload_n dX10_lendIt_0 rfl rfl ?_
  refine y_iload_n dX10_lendIt_1 rfl rfl ?_
  refine y_cvIS (qX10_leaveIt hM p1 σ) kX10_442 rfl hM.1 rfl (by decide) rfl (Nat.le_of_ble_eq_true rfl) dX10_lendIt_2 (fun r1 σ2 => ?_)
  refine y_istore_n dX10_lendIt_5 rfl (Nat.le_of_ble_eq_true rfl) (L' := [some (aR 84), some (aI p1), some (aI p2), some (aI r1), none, none]) rfl ?_
  refine y_aload_n dX10_lendIt_6 rfl rfl ?_
  refine y_getR fX10_13 hM.1 rfl (lM_3 hM).1 dX10_lendIt_7 ?_
  refine y_bipush dX10_lendIt_10 (by decide) (by decide) ?_
  refine y_iload_n dX10_lendIt_12 rfl rfl ?_
  refine yk_iadd dX10_lendIt_13 ?_
  refine y_iload_n dX10_lendIt_14 rfl rfl ?_
  refine yk_iastore (lM_3 hM).2 (N := 5505) rfl (j := (29 + p1).toNat) rfl dX10_lendIt_15 (fun σ3 => ?_)
  refine y_aload_n dX10_lendIt_16 rfl rfl ?_
  refine y_getR fX10_13 hM.1 rfl (lM_3 hM).1 dX10_lendIt_17 ?_
  refine y_bipush dX10_lendIt_20 (by decide) (by decide) ?_
  refine y_iload_n dX10_lendIt_22 rfl rfl ?_
  refine yk_iadd dX10_lendIt_23 ?_
  refine y_aload_n dX10_lendIt_24 rfl rfl ?_
  refine y_iconst dX10_lendIt_25 (by decide) ?_
  refine y_cvI (qX10_term hM 0 σ3) kX10_398 rfl hM.1 rfl (by decide) rfl (Nat.le_of_ble_eq_true rfl) dX10_lendIt_26 (fun r4 => ?_)
  refine yk_iastore (lM_3 hM).2 (N := 5505) rfl (j := (35 + p1).toNat) rfl dX10_lendIt_29 (fun σ5 => ?_)
  refine y_aload_n dX10_lendIt_30 rfl rfl ?_
  refine y_iload_n dX10_lendIt_31 rfl rfl ?_
  refine y_iload_n dX10_lendIt_32 rfl rfl ?_
  refine y_cvI (qX10_waitAt hM p2 p1 σ5) kX10_445 rfl hM.1 rfl (by decide) rfl (Nat.le_of_ble_eq_true rfl) dX10_lendIt_33 (fun r6 => ?_)
  refine y_istore dX10_lendIt_36 (Nat.le_of_ble_eq_true rfl) (L' := [some (aR 84), some (aI p1), some (aI p2), some (aI r1), some (aI r6), none]) rfl ?_
  refine y_iload dX10_lendIt_38 rfl ?_
  refine y_iconst dX10_lendIt_40 (by decide) ?_
  refine y_ite (fun h7 => ?_) (fun h7 => ?_)
  · refine y_icmp_eq_t dX10_lendIt_41 (t := 103) rfl h7 ?_
    refine y_iload_n dX10_lendIt_103 rfl rfl ?_
    exact y_iret rfl rfl dX10_lendIt_104
  · refine y_icmp_eq_f dX10_lendIt_41 (t := 103) rfl h7 ?_
    refine y_aload_n dX10_lendIt_44 rfl rfl ?_
    refine y_getR fX10_13 hM.1 rfl (lM_3 hM).1 dX10_lendIt_45 ?_
    refine y_bipush dX10_lendIt_48 (by decide) (by decide) ?_
    refine y_dup2 dX10_lendIt_50 (fun _ => rfl) (fun _ => rfl) ?_
    refine yl_iaload (lM_3 hM).2 (by decide) (j := 8) rfl dX10_lendIt_51 ?_
    refine y_iconst dX10_lendIt_52 (by decide) ?_
    refine yk_isub dX10_lendIt_53 ?_
    refine yl_iastore (lM_3 hM).2 (by decide) (j := 8) rfl dX10_lendIt_54 (fun σ8 => ?_)
    refine y_iconst dX10_lendIt_55 (by decide) ?_
    refine y_iload dX10_lendIt_56 rfl ?_
    refine yk_imul dX10_lendIt_58 ?_
    refine yn_istore dX10_lendIt_59 (Nat.le_of_ble_eq_true rfl) (L' := fun z9 => [some (aR 84), some (aI p1), some (aI p2), some (aI r1), some (aI r6), some (aI z9)]) (fun _ => rfl) (fun z9 => ?_)
    refine y_fg [true, false, false, true, false, true] (L' := [some (aR 84), none, none, some (aI r1), none, some (aI z9)]) rfl ?_
    exact tX10_lendIt_61 hM FU r1 z9 σ8
theorem qX10_lendIt {K : Kt} (hM : mLay K) (p1 : Int) (p2 : Int) (σ : Sg) : Cc MX10_lendIt K [aR 84, aI p1, aI p2] σ (emIS K) (vX10_lendIt p1 p2 σ) := cc_of plX10 (Nat.le_of_ble_eq_true rfl) (fun o _ => ⟨Nat.le_refl _, Nat.le_refl _⟩) (fun Γ => tX10_lendIt hM p1 p2 σ)
noncomputable def vX10_lendNow (p1 : Int) (p2 : Int) (σ : Sg) : Option (Int × Sg) := (vX10_isReader p1 σ).bind (fun r1 => if r1 = 0 then (some ((-2), σ)) else ((vX10_isBook p2 σ).bind (fun r3 => if r3 = 0 then (some ((-2), σ)) else (bd2 (vX10_canLend p1 p2 σ) (fun r5 σ6 => if r5 = 0 then (some ((-3), σ6)) else ((vX10_remember 0 σ6).bind (fun σ8 => bd2 (vX10_lendIt p1 p2 σ8) (fun r9 σ10 => some (r9, σ10)))))))))
set_option maxRecDepth 100000 in
theorem tX10_lendNow {Γ : Gx} {K : Kt} (hM : mLay K) (p1 : Int) (p2 : Int) (σ : Sg) : Y Γ MX10_lendNow K (emIS K) K 0 [some (aR 84), some (aI p1), some (aI p2)] [] σ (vX10_lendNow p1 p2 σ) := by
  unfold vX10_lendNow
  refine y_aload_n dX10_lendNow_0 rfl rfl ?_
  refine y_iload_n dX10_lendNow_1 rfl rfl ?_
  refine y_cvI (qX10_isReader hM p1 σ) kX10_201 rfl hM.1 rfl (by decide) rfl (Nat.le_of_ble_eq_true rfl) dX10_lendNow_2 (fun r1 => ?_)
  refine y_ite (fun h2 => ?_) (fun h2 => ?_)
  · refine y_if_eq_t dX10_lendNow_5 (t := 16) rfl h2 ?_
    refine y_bipush dX10_lendNow_16 (by decide) (by decide) ?_
    exact y_iret rfl rfl dX10_lendNow_18
  · refine y_if_eq_f dX10_lendNow_5 (t := 16) rfl h2 ?_
    refine y_aload_n dX10_lendNow_8 rfl rfl ?_
    refine y_iload_n dX10_lendNow_9 rfl rfl ?_
    refine y_cvI (qX10_isBook hM p2 σ) kX10_194 rfl hM.1 rfl (by decide) rfl (Nat.le_of_ble_eq_true rfl) dX10_lendNow_10 (fun r3 => ?_)
    refine y_ite (fun h4 => ?_) (fun h4 => ?_)
    · refine y_if_ne_f dX10_lendNow_13 (t := 19) rfl h4 ?_
      refine y_bipush dX10_lendNow_16 (by decide) (by decide) ?_
      exact y_iret rfl rfl dX10_lendNow_18
    · refine y_if_ne_t dX10_lendNow_13 (t := 19) rfl h4 ?_
      refine y_aload_n dX10_lendNow_19 rfl rfl ?_
      refine y_iload_n dX10_lendNow_20 rfl rfl ?_
      refine y_iload_n dX10_lendNow_21 rfl rfl ?_
      refine y_cvIS (qX10_canLend hM p1 p2 σ) kX10_448 rfl hM.1 rfl (by decide) rfl (Nat.le_of_ble_eq_true rfl) dX10_lendNow_22 (fun r5 σ6 => ?_)
      refine y_ite (fun h7 => ?_) (fun h7 => ?_)
      · refine y_if_ne_f dX10_lendNow_25 (t := 31) rfl h7 ?_
        refine y_bipush dX10_lendNow_28 (by decide) (by decide) ?_
        exact y_iret rfl rfl dX10_lendNow_30
      · refine y_if_ne_t dX10_lendNow_25 (t := 31) rfl h7 ?_
        refine y_aload_n dX10_lendNow_31 rfl rfl ?_
        refine y_iconst dX10_lendNow_32 (by decide) ?_
        refine y_cvV (qX10_remember hM 0 σ6) kX10_451 rfl hM.1 rfl (by decide) rfl (Nat.le_of_ble_eq_true rfl) dX10_lendNow_33 (fun σ8 => ?_)
        refine y_aload_n dX10_lendNow_36 rfl rfl ?_
        refine y_iload_n dX10_lendNow_37 rfl rfl ?_
        refine y_iload_n dX10_lendNow_38 rfl rfl ?_
        refine y_cvIS (qX10_lendIt hM p1 p2 σ8) kX10_454 rfl hM.1 rfl (by decide) rfl (Nat.le_of_ble_eq_true rfl) dX10_lendNow_39 (fun r9 σ10 => ?_)
        exact y_iret rfl rfl dX10_lendNow_42
theorem qX10_lendNow {K : Kt} (hM : mLay K) (p1 : Int) (p2 : Int) (σ : Sg) : Cc MX10_lendNow K [aR 84, aI p1, aI p2] σ (emIS K) (vX10_lendNow p1 p2 σ) := cc_of plX10 (Nat.le_of_ble_eq_true rfl) (fun o _ => ⟨Nat.le_refl _, Nat.le_refl _⟩) (fun Γ => tX10_lendNow hM p1 p2 σ)
noncomputable def vX10_lend (p1 : Int) (p2 : Int) (σ : Sg) : Option (Int × Sg) := nm (up2 σ 84 0 0) (fun σ1 => bd2 (vX10_lendNow p1 p2 σ1) (fun r2 σ3 => bd2 (vX10_tell r2 σ3) (fun r4 σ5 => some (r4, σ5))))
set_option maxRecDepth 100000 in
theorem tX10_lend {Γ : Gx} {K : Kt} (hM : mLay K) (p1 : Int) (p2 : Int) (σ : Sg) : Y Γ MX10_lend K (emIS K) K 0 [some (aR 84), some (aI p1), some (aI p2)] [] σ (vX10_lend p1 p2 σ) := by
  unfold vX10_lend
  refine y_aload_n dX10_lend_0 rfl rfl ?_
  refine y_iconst dX10_lend_1 (by decide) ?_
  refine yn_putI fX10_157 hM.1 rfl rfl dX10_lend_2 (fun σ1 => ?_)
  refine y_aload_n dX10_lend_5 rfl rfl ?_
  refine y_aload_n dX10_lend_6 rfl rfl ?_
  refine y_iload_n dX10_lend_7 rfl rfl ?_
  refine y_iload_n dX10_lend_8 rfl rfl ?_
  refine y_cvIS (qX10_lendNow hM p1 p2 σ1) kX10_457 rfl hM.1 rfl (by decide) rfl (Nat.le_of_ble_eq_true rfl) dX10_lend_9 (fun r2 σ3 => ?_)
  refine y_cvIS (qX10_tell hM r2 σ3) kX10_166 rfl hM.1 rfl (by decide) rfl (Nat.le_of_ble_eq_true rfl) dX10_lend_12 (fun r4 σ5 => ?_)
  exact y_iret rfl rfl dX10_lend_15
theorem qX10_lend {K : Kt} (hM : mLay K) (p1 : Int) (p2 : Int) (σ : Sg) : Cc MX10_lend K [aR 84, aI p1, aI p2] σ (emIS K) (vX10_lend p1 p2 σ) := cc_of plX10 (Nat.le_of_ble_eq_true rfl) (fun o _ => ⟨Nat.le_refl _, Nat.le_refl _⟩) (fun Γ => tX10_lend hM p1 p2 σ)
noncomputable def vX10_bringNow (p1 : Int) (σ : Sg) : Option (Int × Sg) := (vX10_isReader p1 σ).bind (fun r1 => if r1 = 0 then (some ((-2), σ)) else (ck (in32 (29 + p1)) (ck (0 ≤ (29 + p1) ∧ (29 + p1) < 5505) (if (σ 86 (29 + p1).toNat) = (-1) then (some ((-3), σ)) else ((vX10_remember 1 σ).bind (fun σ4 => bd2 (vX10_leaveIt p1 σ4) (fun r5 σ6 => some (r5, σ6))))))))
set_option maxRecDepth 100000 in
theorem tX10_bringNow {Γ : Gx} {K : Kt} (hM : mLay K) (p1 : Int) (σ : Sg) : Y Γ MX10_bringNow K (emIS K) K 0 [some (aR 84), some (aI p1)] [] σ (vX10_bringNow p1 σ) := by
  unfold vX10_bringNow
  refine y_aload_n dX10_bringNow_0 rfl rfl ?_
  refine y_iload_n dX10_bringNow_1 rfl rfl ?_
  refine y_cvI (qX10_isReader hM p1 σ) kX10_201 rfl hM.1 rfl (by decide) rfl (Nat.le_of_ble_eq_true rfl) dX10_bringNow_2 (fun r1 => ?_)
  refine y_ite (fun h2 => ?_) (fun h2 => ?_)
  · refine y_if_ne_f dX10_bringNow_5 (t := 11) rfl h2 ?_
    refine y_bipush dX10_bringNow_8 (by decide) (by decide) ?_
    exact y_iret rfl rfl dX10_bringNow_10
  · refine y_if_ne_t dX10_bringNow_5 (t := 11) rfl h2 ?_
    refine y_aload_n dX10_bringNow_11 rfl rfl ?_
    refine y_getR fX10_13 hM.1 rfl (lM_3 hM).1 dX10_bringNow_12 ?_
    refine y_bipush dX10_bringNow_15 (by decide) (by decide) ?_
    refine y_iload_n dX10_bringNow_17 rfl rfl ?_
    refine yk_iadd dX10_bringNow_18 ?_
    refine yk_iaload (lM_3 hM).2 (N := 5505) rfl (j := (29 + p1).toNat) rfl dX10_bringNow_19 ?_
    refine y_iconst dX10_bringNow_20 (by decide) ?_
    refine y_ite (fun h3 => ?_) (fun h3 => ?_)
    · refine y_icmp_ne_f dX10_bringNow_21 (t := 27) rfl h3 ?_
      refine y_bipush dX10_bringNow_24 (by decide) (by decide) ?_
      exact y_iret rfl rfl dX10_bringNow_26
    · refine y_icmp_ne_t dX10_bringNow_21 (t := 27) rfl h3 ?_
      refine y_aload_n dX10_bringNow_27 rfl rfl ?_
      refine y_iconst dX10_bringNow_28 (by decide) ?_
      refine y_cvV (qX10_remember hM 1 σ) kX10_451 rfl hM.1 rfl (by decide) rfl (Nat.le_of_ble_eq_true rfl) dX10_bringNow_29 (fun σ4 => ?_)
      refine y_aload_n dX10_bringNow_32 rfl rfl ?_
      refine y_iload_n dX10_bringNow_33 rfl rfl ?_
      refine y_cvIS (qX10_leaveIt hM p1 σ4) kX10_442 rfl hM.1 rfl (by decide) rfl (Nat.le_of_ble_eq_true rfl) dX10_bringNow_34 (fun r5 σ6 => ?_)
      exact y_iret rfl rfl dX10_bringNow_37
theorem qX10_bringNow {K : Kt} (hM : mLay K) (p1 : Int) (σ : Sg) : Cc MX10_bringNow K [aR 84, aI p1] σ (emIS K) (vX10_bringNow p1 σ) := cc_of plX10 (Nat.le_of_ble_eq_true rfl) (fun o _ => ⟨Nat.le_refl _, Nat.le_refl _⟩) (fun Γ => tX10_bringNow hM p1 σ)
noncomputable def vX10_bring (p1 : Int) (σ : Sg) : Option (Int × Sg) := nm (up2 σ 84 0 0) (fun σ1 => bd2 (vX10_bringNow p1 σ1) (fun r2 σ3 => bd2 (vX10_tell r2 σ3) (fun r4 σ5 => some (r4, σ5))))
set_option maxRecDepth 100000 in
theorem tX10_bring {Γ : Gx} {K : Kt} (hM : mLay K) (p1 : Int) (σ : Sg) : Y Γ MX10_bring K (emIS K) K 0 [some (aR 84), some (aI p1)] [] σ (vX10_bring p1 σ) := by
  unfold vX10_bring
  refine y_aload_n dX10_bring_0 rfl rfl ?_
  refine y_iconst dX10_bring_1 (by decide) ?_
  refine yn_putI fX10_157 hM.1 rfl rfl dX10_bring_2 (fun σ1 => ?_)
  refine y_aload_n dX10_bring_5 rfl rfl ?_
  refine y_aload_n dX10_bring_6 rfl rfl ?_
  refine y_iload_n dX10_bring_7 rfl rfl ?_
  refine y_cvIS (qX10_bringNow hM p1 σ1) kX10_460 rfl hM.1 rfl (by decide) rfl (Nat.le_of_ble_eq_true rfl) dX10_bring_8 (fun r2 σ3 => ?_)
  refine y_cvIS (qX10_tell hM r2 σ3) kX10_166 rfl hM.1 rfl (by decide) rfl (Nat.le_of_ble_eq_true rfl) dX10_bring_11 (fun r4 σ5 => ?_)
  exact y_iret rfl rfl dX10_bring_14
theorem qX10_bring {K : Kt} (hM : mLay K) (p1 : Int) (σ : Sg) : Cc MX10_bring K [aR 84, aI p1] σ (emIS K) (vX10_bring p1 σ) := cc_of plX10 (Nat.le_of_ble_eq_true rfl) (fun o _ => ⟨Nat.le_refl _, Nat.le_refl _⟩) (fun Γ => tX10_bring hM p1 σ)
noncomputable def vX10_waitsNow (p1 : Int) (p2 : Int) (σ : Sg) : Option (Int × Sg) := (vX10_isBook p1 σ).bind (fun r1 => if r1 = 0 then (some ((-2), σ)) else ((vX10_isReader p2 σ).bind (fun r3 => if r3 = 0 then (some ((-2), σ)) else ((vX10_waitAt p1 p2 σ).bind (fun r5 => if r5 = (-1) then (ck (in32 (29 + p2)) (ck (0 ≤ (29 + p2) ∧ (29 + p2) < 5505) (if (σ 86 (29 + p2).toNat) = p1 then (some ((-3), σ)) else (if (σ 86 8) = 12 then (some ((-5), σ)) else ((vX10_remember 2 σ).bind (fun σ9 => ck (in32 (2 * (σ9 86 8))) (ck (in32 (47 + (2 * (σ9 86 8)))) (ck (0 ≤ (47 + (2 * (σ9 86 8))) ∧ (47 + (2 * (σ9 86 8))) < 5505) (nm (up2 σ9 86 (47 + (2 * (σ9 86 8))).toNat p1) (fun σ10 => ck (in32 (2 * (σ10 86 8))) (ck (in32 (47 + (2 * (σ10 86 8)))) (ck (in32 ((47 + (2 * (σ10 86 8))) + 1)) (ck (0 ≤ ((47 + (2 * (σ10 86 8))) + 1) ∧ ((47 + (2 * (σ10 86 8))) + 1) < 5505) (nm (up2 σ10 86 ((47 + (2 * (σ10 86 8))) + 1).toNat p2) (fun σ11 => ck (in32 ((σ11 86 8) + 1)) (nm (up2 σ11 86 8 ((σ11 86 8) + 1)) (fun σ12 => some ((σ12 86 8), σ12)))))))))))))))))) else (some ((-3), σ)))))))
set_option maxRecDepth 100000 in
theorem tX10_waitsNow {Γ : Gx} {K : Kt} (hM : mLay K) (p1 : Int) (p2 : Int) (σ : Sg) : Y Γ MX10_waitsNow K (emIS K) K 0 [some (aR 84), some (aI p1), some (aI p2)] [] σ (vX10_waitsNow p1 p2 σ) := by
  unfold vX10_waitsNow
  refine y_aload_n dX10_waitsNow_0 rfl rfl ?_
  refine y_iload_n dX10_waitsNow_1 rfl rfl ?_
  refine y_cvI (qX10_isBook hM p1 σ) kX10_194 rfl hM.1 rfl (by decide) rfl (Nat.le_of_ble_eq_true rfl) dX10_waitsNow_2 (fun r1 => ?_)
  refine y_ite (fun h2 => ?_) (fun h2 => ?_)
  · refine y_if_eq_t dX10_waitsNow_5 (t := 16) rfl h2 ?_
    refine y_bipush dX10_waitsNow_16 (by decide) (by decide) ?_
    exact y_iret rfl rfl dX10_waitsNow_18
  · refine y_if_eq_f dX10_waitsNow_5 (t := 16) rfl h2 ?_
    refine y_aload_n dX10_waitsNow_8 rfl rfl ?_
    refine y_iload_n dX10_waitsNow_9 rfl rfl ?_
    refine y_cvI (qX10_isReader hM p2 σ) kX10_201 rfl hM.1 rfl (by decide) rfl (Nat.le_of_ble_eq_true rfl) dX10_waitsNow_10 (fun r3 => ?_)
    refine y_ite (fun h4 => ?_) (fun h4 => ?_)
    · refine y_if_ne_f dX10_waitsNow_13 (t := 19) rfl h4 ?_
      refine y_bipush dX10_waitsNow_16 (by decide) (by decide) ?_
      exact y_iret rfl rfl dX10_waitsNow_18
    · refine y_if_ne_t dX10_waitsNow_13 (t := 19) rfl h4 ?_
      refine y_aload_n dX10_waitsNow_19 rfl rfl ?_
      refine y_iload_n dX10_waitsNow_20 rfl rfl ?_
      refine y_iload_n dX10_waitsNow_21 rfl rfl ?_
      refine y_cvI (qX10_waitAt hM p1 p2 σ) kX10_445 rfl hM.1 rfl (by decide) rfl (Nat.le_of_ble_eq_true rfl) dX10_waitsNow_22 (fun r5 => ?_)
      refine y_iconst dX10_waitsNow_25 (by decide) ?_
      refine y_ite (fun h6 => ?_) (fun h6 => ?_)
      · refine y_icmp_ne_f dX10_waitsNow_26 (t := 42) rfl h6 ?_
        refine y_aload_n dX10_waitsNow_29 rfl rfl ?_
        refine y_getR fX10_13 hM.1 rfl (lM_3 hM).1 dX10_waitsNow_30 ?_
        refine y_bipush dX10_waitsNow_33 (by decide) (by decide) ?_
        refine y_iload_n dX10_waitsNow_35 rfl rfl ?_
        refine yk_iadd dX10_waitsNow_36 ?_
        refine yk_iaload (lM_3 hM).2 (N := 5505) rfl (j := (29 + p2).toNat) rfl dX10_waitsNow_37 ?_
        refine y_iload_n dX10_waitsNow_38 rfl rfl ?_
        refine y_ite (fun h7 => ?_) (fun h7 => ?_)
        · refine y_icmp_ne_f dX10_waitsNow_39 (t := 45) rfl h7 ?_
          refine y_bipush dX10_waitsNow_42 (by decide) (by decide) ?_
          exact y_iret rfl rfl dX10_waitsNow_44
        · refine y_icmp_ne_t dX10_waitsNow_39 (t := 45) rfl h7 ?_
          refine y_aload_n dX10_waitsNow_45 rfl rfl ?_
          refine y_getR fX10_13 hM.1 rfl (lM_3 hM).1 dX10_waitsNow_46 ?_
          refine y_bipush dX10_waitsNow_49 (by decide) (by decide) ?_
          refine yl_iaload (lM_3 hM).2 (by decide) (j := 8) rfl dX10_waitsNow_51 ?_
          refine y_bipush dX10_waitsNow_52 (by decide) (by decide) ?_
          refine y_ite (fun h8 => ?_) (fun h8 => ?_)
          · refine y_icmp_ne_f dX10_waitsNow_54 (t := 60) rfl h8 ?_
            refine y_bipush dX10_waitsNow_57 (by decide) (by decide) ?_
            exact y_iret rfl rfl dX10_waitsNow_59
          · refine y_icmp_ne_t dX10_waitsNow_54 (t := 60) rfl h8 ?_
            refine y_aload_n dX10_waitsNow_60 rfl rfl ?_
            refine y_iconst dX10_waitsNow_61 (by decide) ?_
            refine y_cvV (qX10_remember hM 2 σ) kX10_451 rfl hM.1 rfl (by decide) rfl (Nat.le_of_ble_eq_true rfl) dX10_waitsNow_62 (fun σ9 => ?_)
            refine y_aload_n dX10_waitsNow_65 rfl rfl ?_
            refine y_getR fX10_13 hM.1 rfl (lM_3 hM).1 dX10_waitsNow_66 ?_
            refine y_bipush dX10_waitsNow_69 (by decide) (by decide) ?_
            refine y_iconst dX10_waitsNow_71 (by decide) ?_
            refine y_aload_n dX10_waitsNow_72 rfl rfl ?_
            refine y_getR fX10_13 hM.1 rfl (lM_3 hM).1 dX10_waitsNow_73 ?_
            refine y_bipush dX10_waitsNow_76 (by decide) (by decide) ?_
            refine yl_iaload (lM_3 hM).2 (by decide) (j := 8) rfl dX10_waitsNow_78 ?_
            refine yk_imul dX10_waitsNow_79 ?_
            refine yk_iadd dX10_waitsNow_80 ?_
            refine y_iload_n dX10_waitsNow_81 rfl rfl ?_
            refine yk_iastore (lM_3 hM).2 (N := 5505) rfl (j := (47 + (2 * (σ9 86 8))).toNat) rfl dX10_waitsNow_82 (fun σ10 => ?_)
            refine y_aload_n dX10_waitsNow_83 rfl rfl ?_
            refine y_getR fX10_13 hM.1 rfl (lM_3 hM).1 dX10_waitsNow_84 ?_
            refine y_bipush dX10_waitsNow_87 (by decide) (by decide) ?_
            refine y_iconst dX10_waitsNow_89 (by decide) ?_
            refine y_aload_n dX10_waitsNow_90 rfl rfl ?_
            refine y_getR fX10_13 hM.1 rfl (lM_3 hM).1 dX10_waitsNow_91 ?_
            refine y_bipush dX10_waitsNow_94 (by decide) (by decide) ?_
            refine yl_iaload (lM_3 hM).2 (by decide) (j := 8) rfl dX10_waitsNow_96 ?_
            refine yk_imul dX10_waitsNow_97 ?_
            refine yk_iadd dX10_waitsNow_98 ?_
            refine y_iconst dX10_waitsNow_99 (by decide) ?_
            refine yk_iadd dX10_waitsNow_100 ?_
            refine y_iload_n dX10_waitsNow_101 rfl rfl ?_
            refine yk_iastore (lM_3 hM).2 (N := 5505) rfl (j := ((47 + (2 * (σ10 86 8))) + 1).toNat) rfl dX10_waitsNow_102 (fun σ11 => ?_)
            refine y_aload_n dX10_waitsNow_103 rfl rfl ?_
            refine y_getR fX10_13 hM.1 rfl (lM_3 hM).1 dX10_waitsNow_104 ?_
            refine y_bipush dX10_waitsNow_107 (by decide) (by decide) ?_
            refine y_dup2 dX10_waitsNow_109 (fun _ => rfl) (fun _ => rfl) ?_
            refine yl_iaload (lM_3 hM).2 (by decide) (j := 8) rfl dX10_waitsNow_110 ?_
            refine y_iconst dX10_waitsNow_111 (by decide) ?_
            refine yk_iadd dX10_waitsNow_112 ?_
            refine yl_iastore (lM_3 hM).2 (by decide) (j := 8) rfl dX10_waitsNow_113 (fun σ12 => ?_)
            refine y_aload_n dX10_waitsNow_114 rfl rfl ?_
            refine y_getR fX10_13 hM.1 rfl (lM_3 hM).1 dX10_waitsNow_115 ?_
            refine y_bipush dX10_waitsNow_118 (by decide) (by decide) ?_
            refine yl_iaload (lM_3 hM).2 (by decide) (j := 8) rfl dX10_waitsNow_120 ?_
            exact y_iret rfl rfl dX10_waitsNow_121
      · refine y_icmp_ne_t dX10_waitsNow_26 (t := 42) rfl h6 ?_
        refine y_bipush dX10_waitsNow_42 (by decide) (by decide) ?_
        exact y_iret rfl rfl dX10_waitsNow_44
theorem qX10_waitsNow {K : Kt} (hM : mLay K) (p1 : Int) (p2 : Int) (σ : Sg) : Cc MX10_waitsNow K [aR 84, aI p1, aI p2] σ (emIS K) (vX10_waitsNow p1 p2 σ) := cc_of plX10 (Nat.le_of_ble_eq_true rfl) (fun o _ => ⟨Nat.le_refl _, Nat.le_refl _⟩) (fun Γ => tX10_waitsNow hM p1 p2 σ)
noncomputable def vX10_waits (p1 : Int) (p2 : Int) (σ : Sg) : Option (Int × Sg) := nm (up2 σ 84 0 0) (fun σ1 => bd2 (vX10_waitsNow p1 p2 σ1) (fun r2 σ3 => bd2 (vX10_tell r2 σ3) (fun r4 σ5 => some (r4, σ5))))
set_option maxRecDepth 100000 in
theorem tX10_waits {Γ : Gx} {K : Kt} (hM : mLay K) (p1 : Int) (p2 : Int) (σ : Sg) : Y Γ MX10_waits K (emIS K) K 0 [some (aR 84), some (aI p1), some (aI p2)] [] σ (vX10_waits p1 p2 σ) := by
  unfold vX10_waits
  refine y_aload_n dX10_waits_0 rfl rfl ?_
  refine y_iconst dX10_waits_1 (by decide) ?_
  refine yn_putI fX10_157 hM.1 rfl rfl dX10_waits_2 (fun σ1 => ?_)
  refine y_aload_n dX10_waits_5 rfl rfl ?_
  refine y_aload_n dX10_waits_6 rfl rfl ?_
  refine y_iload_n dX10_waits_7 rfl rfl ?_
  refine y_iload_n dX10_waits_8 rfl rfl ?_
  refine y_cvIS (qX10_waitsNow hM p1 p2 σ1) kX10_463 rfl hM.1 rfl (by decide) rfl (Nat.le_of_ble_eq_true rfl) dX10_waits_9 (fun r2 σ3 => ?_)
  refine y_cvIS (qX10_tell hM r2 σ3) kX10_166 rfl hM.1 rfl (by decide) rfl (Nat.le_of_ble_eq_true rfl) dX10_waits_12 (fun r4 σ5 => ?_)
  exact y_iret rfl rfl dX10_waits_15
theorem qX10_waits {K : Kt} (hM : mLay K) (p1 : Int) (p2 : Int) (σ : Sg) : Cc MX10_waits K [aR 84, aI p1, aI p2] σ (emIS K) (vX10_waits p1 p2 σ) := cc_of plX10 (Nat.le_of_ble_eq_true rfl) (fun o _ => ⟨Nat.le_refl _, Nat.le_refl _⟩) (fun Γ => tX10_waits hM p1 p2 σ)
noncomputable def vX10_passIt_2 : Nat → Int → Sg → Option (Sg)
  | 0, _, _ => none
  | f + 1, x1, σ => if x1 < (σ 86 1) then (ck (in32 (29 + x1)) (ck (0 ≤ (29 + x1) ∧ (29 + x1) < 5505) (if (σ 86 (29 + x1).toNat) = (-1) then (ck (in32 (x1 + 1)) (vX10_passIt_2 f (x1 + 1) σ)) else (ck (in32 (23 + x1)) (ck (in32 (23 + x1)) (ck (0 ≤ (23 + x1) ∧ (23 + x1) < 5505) (ck (in32 (29 + x1)) (ck (0 ≤ (29 + x1) ∧ (29 + x1) < 5505) (bd2 (vX10_wearsOf (σ 86 (29 + x1).toNat) x1 σ) (fun r3 σ4 => ck (in32 ((σ 86 (23 + x1).toNat) + r3)) ((vX10_within ((σ 86 (23 + x1).toNat) + r3) 0 99 σ4).bind (fun r5 => ck (0 ≤ (23 + x1) ∧ (23 + x1) < 5505) (nm (up2 σ4 86 (23 + x1).toNat r5) (fun σ6 => ck (in32 (x1 + 1)) (vX10_passIt_2 f (x1 + 1) σ6))))))))))))))) else (ck (in32 ((σ 86 4) + 1)) (nm (up2 σ 86 4 ((σ 86 4) + 1)) (fun σ7 => some σ7)))
set_option maxRecDepth 100000 in
theorem tX10_passIt_2 {Γ : Gx} {K : Kt} (hM : mLay K)  : ∀ (f : Nat) (x1 : Int) (σ : Sg), Y Γ MX10_passIt K (emV K) K 2 [some (aR 84), some (aI x1)] [] σ (vX10_passIt_2 f x1 σ) := by
  intro f
  induction f with
  | zero => intro x1 σ; exact y_none
  | succ f ih =>
    intro x1 σ
    rw [vX10_passIt_2]
    refine y_iload_n dX10_passIt_2 rfl rfl ?_
    refine y_aload_n dX10_passIt_3 rfl rfl ?_
    refine y_getR fX10_13 hM.1 rfl (lM_3 hM).1 dX10_passIt_4 ?_
    refine y_iconst dX10_passIt_7 (by decide) ?_
    refine yl_iaload (lM_3 hM).2 (by decide) (j := 1) rfl dX10_passIt_8 ?_
    refine y_ite (fun h1 => ?_) (fun h1 => ?_)
    · refine y_icmp_ge_f dX10_passIt_9 (t := 71) rfl h1 ?_
      refine y_aload_n dX10_passIt_12 rfl rfl ?_
      refine y_getR fX10_13 hM.1 rfl (lM_3 hM).1 dX10_passIt_13 ?_
      refine y_bipush dX10_passIt_16 (by decide) (by decide) ?_
      refine y_iload_n dX10_passIt_18 rfl rfl ?_
      refine yk_iadd dX10_passIt_19 ?_
      refine yk_iaload (lM_3 hM).2 (N := 5505) rfl (j := (29 + x1).toNat) rfl dX10_passIt_20 ?_
      refine y_iconst dX10_passIt_21 (by decide) ?_
      refine y_ite (fun h2 => ?_) (fun h2 => ?_)
      · refine y_icmp_eq_t dX10_passIt_22 (t := 65) rfl h2 ?_
        refine yk_iinc dX10_passIt_65 rfl (L' := [some (aR 84), some (aI (x1 + 1))]) rfl ?_
        refine y_goto dX10_passIt_68 (t := 2) rfl ?_
        exact ih (x1 + 1) σ
      · refine y_icmp_eq_f dX10_passIt_22 (t := 65) rfl h2 ?_
        refine y_aload_n dX10_passIt_25 rfl rfl ?_
        refine y_getR fX10_13 hM.1 rfl (lM_3 hM).1 dX10_passIt_26 ?_
        refine y_bipush dX10_passIt_29 (by decide) (by decide) ?_
        refine y_iload_n dX10_passIt_31 rfl rfl ?_
        refine yk_iadd dX10_passIt_32 ?_
        refine y_aload_n dX10_passIt_33 rfl rfl ?_
        refine y_getR fX10_13 hM.1 rfl (lM_3 hM).1 dX10_passIt_34 ?_
        refine y_bipush dX10_passIt_37 (by decide) (by decide) ?_
        refine y_iload_n dX10_passIt_39 rfl rfl ?_
        refine yk_iadd dX10_passIt_40 ?_
        refine yk_iaload (lM_3 hM).2 (N := 5505) rfl (j := (23 + x1).toNat) rfl dX10_passIt_41 ?_
        refine y_aload_n dX10_passIt_42 rfl rfl ?_
        refine y_aload_n dX10_passIt_43 rfl rfl ?_
        refine y_getR fX10_13 hM.1 rfl (lM_3 hM).1 dX10_passIt_44 ?_
        refine y_bipush dX10_passIt_47 (by decide) (by decide) ?_
        refine y_iload_n dX10_passIt_49 rfl rfl ?_
        refine yk_iadd dX10_passIt_50 ?_
        refine yk_iaload (lM_3 hM).2 (N := 5505) rfl (j := (29 + x1).toNat) rfl dX10_passIt_51 ?_
        refine y_iload_n dX10_passIt_52 rfl rfl ?_
        refine y_cvIS (qX10_wearsOf hM (σ 86 (29 + x1).toNat) x1 σ) kX10_430 rfl hM.1 rfl (by decide) rfl (Nat.le_of_ble_eq_true rfl) dX10_passIt_53 (fun r3 σ4 => ?_)
        refine yk_iadd dX10_passIt_56 ?_
        refine y_i2l dX10_passIt_57 ?_
        refine y_iconst dX10_passIt_58 (by decide) ?_
        refine y_bipush dX10_passIt_59 (by decide) (by decide) ?_
        refine y_csI (qX10_within (K := K) ((σ 86 (23 + x1).toNat) + r3) 0 99 σ4) kX10_413 rfl (by decide) rfl (Nat.le_of_ble_eq_true rfl) dX10_passIt_61 (fun r5 => ?_)
        refine yk_iastore (lM_3 hM).2 (N := 5505) rfl (j := (23 + x1).toNat) rfl dX10_passIt_64 (fun σ6 => ?_)
        refine yk_iinc dX10_passIt_65 rfl (L' := [some (aR 84), some (aI (x1 + 1))]) rfl ?_
        refine y_goto dX10_passIt_68 (t := 2) rfl ?_
        exact ih (x1 + 1) σ6
    · refine y_icmp_ge_t dX10_passIt_9 (t := 71) rfl h1 ?_
      refine y_aload_n dX10_passIt_71 rfl rfl ?_
      refine y_getR fX10_13 hM.1 rfl (lM_3 hM).1 dX10_passIt_72 ?_
      refine y_iconst dX10_passIt_75 (by decide) ?_
      refine y_dup2 dX10_passIt_76 (fun _ => rfl) (fun _ => rfl) ?_
      refine yl_iaload (lM_3 hM).2 (by decide) (j := 4) rfl dX10_passIt_77 ?_
      refine y_iconst dX10_passIt_78 (by decide) ?_
      refine yk_iadd dX10_passIt_79 ?_
      refine yl_iastore (lM_3 hM).2 (by decide) (j := 4) rfl dX10_passIt_80 (fun σ7 => ?_)
      exact y_vret rfl rfl dX10_passIt_81
noncomputable def vX10_passIt (σ : Sg) : Option (Sg) := vX10_passIt_2 FU 0 σ
set_option maxRecDepth 100000 in
theorem tX10_passIt {Γ : Gx} {K : Kt} (hM : mLay K) (σ : Sg) : Y Γ MX10_passIt K (emV K) K 0 [some (aR 84), none] [] σ (vX10_passIt σ) := by
  unfold vX10_passIt
  refine y_iconst dX10_passIt_0 (by decide) ?_
  refine y_istore_n dX10_passIt_1 rfl (Nat.le_of_ble_eq_true rfl) (L' := [some (aR 84), some (aI 0)]) rfl ?_
  exact tX10_passIt_2 hM FU 0 σ
theorem qX10_passIt {K : Kt} (hM : mLay K) (σ : Sg) : Cc MX10_passIt K [aR 84] σ (emV K) (vX10_passIt σ) := cc_of plX10 (Nat.le_of_ble_eq_true rfl) (fun o _ => ⟨Nat.le_refl _, Nat.le_refl _⟩) (fun Γ => tX10_passIt hM σ)
noncomputable def vX10_passNow (σ : Sg) : Option (Int × Sg) := (vX10_term 0 σ).bind (fun r1 => if r1 = 999 then (some ((-3), σ)) else ((vX10_remember 3 σ).bind (fun σ3 => (vX10_passIt σ3).bind (fun σ4 => (vX10_term 0 σ4).bind (fun r5 => some (r5, σ4))))))
set_option maxRecDepth 100000 in
theorem tX10_passNow {Γ : Gx} {K : Kt} (hM : mLay K) (σ : Sg) : Y Γ MX10_passNow K (emIS K) K 0 [some (aR 84)] [] σ (vX10_passNow σ) := by
  unfold vX10_passNow
  refine y_aload_n dX10_passNow_0 rfl rfl ?_
  refine y_iconst dX10_passNow_1 (by decide) ?_
  refine y_cvI (qX10_term hM 0 σ) kX10_398 rfl hM.1 rfl (by decide) rfl (Nat.le_of_ble_eq_true rfl) dX10_passNow_2 (fun r1 => ?_)
  refine y_sipush dX10_passNow_5 (by decide) (by decide) ?_
  refine y_ite (fun h2 => ?_) (fun h2 => ?_)
  · refine y_icmp_ne_f dX10_passNow_8 (t := 14) rfl h2 ?_
    refine y_bipush dX10_passNow_11 (by decide) (by decide) ?_
    exact y_iret rfl rfl dX10_passNow_13
  · refine y_icmp_ne_t dX10_passNow_8 (t := 14) rfl h2 ?_
    refine y_aload_n dX10_passNow_14 rfl rfl ?_
    refine y_iconst dX10_passNow_15 (by decide) ?_
    refine y_cvV (qX10_remember hM 3 σ) kX10_451 rfl hM.1 rfl (by decide) rfl (Nat.le_of_ble_eq_true rfl) dX10_passNow_16 (fun σ3 => ?_)
    refine y_aload_n dX10_passNow_19 rfl rfl ?_
    refine y_cvV (qX10_passIt hM σ3) kX10_466 rfl hM.1 rfl (by decide) rfl (Nat.le_of_ble_eq_true rfl) dX10_passNow_20 (fun σ4 => ?_)
    refine y_aload_n dX10_passNow_23 rfl rfl ?_
    refine y_iconst dX10_passNow_24 (by decide) ?_
    refine y_cvI (qX10_term hM 0 σ4) kX10_398 rfl hM.1 rfl (by decide) rfl (Nat.le_of_ble_eq_true rfl) dX10_passNow_25 (fun r5 => ?_)
    exact y_iret rfl rfl dX10_passNow_28
theorem qX10_passNow {K : Kt} (hM : mLay K) (σ : Sg) : Cc MX10_passNow K [aR 84] σ (emIS K) (vX10_passNow σ) := cc_of plX10 (Nat.le_of_ble_eq_true rfl) (fun o _ => ⟨Nat.le_refl _, Nat.le_refl _⟩) (fun Γ => tX10_passNow hM σ)
noncomputable def vX10_pass (σ : Sg) : Option (Int × Sg) := nm (up2 σ 84 0 0) (fun σ1 => bd2 (vX10_passNow σ1) (fun r2 σ3 => bd2 (vX10_tell r2 σ3) (fun r4 σ5 => some (r4, σ5))))
set_option maxRecDepth 100000 in
theorem tX10_pass {Γ : Gx} {K : Kt} (hM : mLay K) (σ : Sg) : Y Γ MX10_pass K (emIS K) K 0 [some (aR 84)] [] σ (vX10_pass σ) := by
  unfold vX10_pass
  refine y_aload_n dX10_pass_0 rfl rfl ?_
  refine y_iconst dX10_pass_1 (by decide) ?_
  refine yn_putI fX10_157 hM.1 rfl rfl dX10_pass_2 (fun σ1 => ?_)
  refine y_aload_n dX10_pass_5 rfl rfl ?_
  refine y_aload_n dX10_pass_6 rfl rfl ?_
  refine y_cvIS (qX10_passNow hM σ1) kX10_469 rfl hM.1 rfl (by decide) rfl (Nat.le_of_ble_eq_true rfl) dX10_pass_7 (fun r2 σ3 => ?_)
  refine y_cvIS (qX10_tell hM r2 σ3) kX10_166 rfl hM.1 rfl (by decide) rfl (Nat.le_of_ble_eq_true rfl) dX10_pass_10 (fun r4 σ5 => ?_)
  exact y_iret rfl rfl dX10_pass_13
theorem qX10_pass {K : Kt} (hM : mLay K) (σ : Sg) : Cc MX10_pass K [aR 84] σ (emIS K) (vX10_pass σ) := cc_of plX10 (Nat.le_of_ble_eq_true rfl) (fun o _ => ⟨Nat.le_refl _, Nat.le_refl _⟩) (fun Γ => tX10_pass hM σ)
noncomputable def vX10_isFree_14 : Nat → Int → Int → Int → Sg → Option (Int × Sg)
  | 0, _, _, _, _ => none
  | f + 1, x1, x2, x3, σ => if x3 < x1 then (if x2 = 0 then (ck (in32 (x3 + 1)) (vX10_isFree_14 f x1 0 (x3 + 1) σ)) else (ck (0 ≤ x3 ∧ x3 < 7) (ck (0 ≤ x1 ∧ x1 < 7) (if (σ 105 x3.toNat) = (σ 105 x1.toNat) then (ck (in32 (x3 + 1)) (vX10_isFree_14 f x1 0 (x3 + 1) σ)) else (ck (in32 (x3 + 1)) (vX10_isFree_14 f x1 1 (x3 + 1) σ)))))) else (ck (x2 = 0 ∨ x2 = 1) (some (x2, σ)))
set_option maxRecDepth 100000 in
theorem tX10_isFree_14 {Γ : Gx} {K : Kt} (hM : mLay K)  : ∀ (f : Nat) (x1 x2 x3 : Int) (σ : Sg), Y Γ MX10_isFree K (emIS K) K 14 [some (aR 84), some (aI x1), some (aI x2), some (aI x3)] [] σ (vX10_isFree_14 f x1 x2 x3 σ) := by
  intro f
  induction f with
  | zero => intro x1 x2 x3 σ; exact y_none
  | succ f ih =>
    intro x1 x2 x3 σ
    rw [vX10_isFree_14]
    refine y_iload_n dX10_isFree_14 rfl rfl ?_
    refine y_iload_n dX10_isFree_15 rfl rfl ?_
    refine y_ite (fun h1 => ?_) (fun h1 => ?_)
    · refine y_icmp_ge_f dX10_isFree_16 (t := 50) rfl h1 ?_
      refine y_iload_n dX10_isFree_19 rfl rfl ?_
      refine y_ite (fun h2 => ?_) (fun h2 => ?_)
      · refine y_if_eq_t dX10_isFree_20 (t := 42) rfl h2 ?_
        refine y_iconst dX10_isFree_42 (by decide) ?_
        refine y_istore_n dX10_isFree_43 rfl (Nat.le_of_ble_eq_true rfl) (L' := [some (aR 84), some (aI x1), some (aI 0), some (aI x3)]) rfl ?_
        refine yk_iinc dX10_isFree_44 rfl (L' := [some (aR 84), some (aI x1), some (aI 0), some (aI (x3 + 1))]) rfl ?_
        refine y_goto dX10_isFree_47 (t := 14) rfl ?_
        exact ih x1 0 (x3 + 1) σ
      · refine y_if_eq_f dX10_isFree_20 (t := 42) rfl h2 ?_
        refine y_aload_n dX10_isFree_23 rfl rfl ?_
        refine y_getR fX10_110 hM.1 rfl (lM_41 hM).1 dX10_isFree_24 ?_
        refine y_iload_n dX10_isFree_27 rfl rfl ?_
        refine yk_iaload (lM_41 hM).2 (N := 7) rfl (j := x3.toNat) rfl dX10_isFree_28 ?_
        refine y_aload_n dX10_isFree_29 rfl rfl ?_
        refine y_getR fX10_110 hM.1 rfl (lM_41 hM).1 dX10_isFree_30 ?_
        refine y_iload_n dX10_isFree_33 rfl rfl ?_
        refine yk_iaload (lM_41 hM).2 (N := 7) rfl (j := x1.toNat) rfl dX10_isFree_34 ?_
        refine y_ite (fun h3 => ?_) (fun h3 => ?_)
        · refine y_icmp_eq_t dX10_isFree_35 (t := 42) rfl h3 ?_
          refine y_iconst dX10_isFree_42 (by decide) ?_
          refine y_istore_n dX10_isFree_43 rfl (Nat.le_of_ble_eq_true rfl) (L' := [some (aR 84), some (aI x1), some (aI 0), some (aI x3)]) rfl ?_
          refine yk_iinc dX10_isFree_44 rfl (L' := [some (aR 84), some (aI x1), some (aI 0), some (aI (x3 + 1))]) rfl ?_
          refine y_goto dX10_isFree_47 (t := 14) rfl ?_
          exact ih x1 0 (x3 + 1) σ
        · refine y_icmp_eq_f dX10_isFree_35 (t := 42) rfl h3 ?_
          refine y_iconst dX10_isFree_38 (by decide) ?_
          refine y_goto dX10_isFree_39 (t := 43) rfl ?_
          refine y_istore_n dX10_isFree_43 rfl (Nat.le_of_ble_eq_true rfl) (L' := [some (aR 84), some (aI x1), some (aI 1), some (aI x3)]) rfl ?_
          refine yk_iinc dX10_isFree_44 rfl (L' := [some (aR 84), some (aI x1), some (aI 1), some (aI (x3 + 1))]) rfl ?_
          refine y_goto dX10_isFree_47 (t := 14) rfl ?_
          exact ih x1 1 (x3 + 1) σ
    · refine y_icmp_ge_t dX10_isFree_16 (t := 50) rfl h1 ?_
      refine y_iload_n dX10_isFree_50 rfl rfl ?_
      exact yk_zret rfl rfl dX10_isFree_51
noncomputable def vX10_isFree (p1 : Int) (σ : Sg) : Option (Int × Sg) := ck (0 ≤ p1 ∧ p1 < 7) (bd2 (vX10_canHave (σ 105 p1.toNat) p1 σ) (fun r1 σ2 => vX10_isFree_14 FU p1 r1 0 σ2))
set_option maxRecDepth 100000 in
theorem tX10_isFree {Γ : Gx} {K : Kt} (hM : mLay K) (p1 : Int) (σ : Sg) : Y Γ MX10_isFree K (emIS K) K 0 [some (aR 84), some (aI p1), none, none] [] σ (vX10_isFree p1 σ) := by
  unfold vX10_isFree
  refine y_aload_n dX10_isFree_0 rfl rfl ?_
  refine y_aload_n dX10_isFree_1 rfl rfl ?_
  refine y_getR fX10_110 hM.1 rfl (lM_41 hM).1 dX10_isFree_2 ?_
  refine y_iload_n dX10_isFree_5 rfl rfl ?_
  refine yk_iaload (lM_41 hM).2 (N := 7) rfl (j := p1.toNat) rfl dX10_isFree_6 ?_
  refine y_iload_n dX10_isFree_7 rfl rfl ?_
  refine y_cvIS (qX10_canHave hM (σ 105 p1.toNat) p1 σ) kX10_436 rfl hM.1 rfl (by decide) rfl (Nat.le_of_ble_eq_true rfl) dX10_isFree_8 (fun r1 σ2 => ?_)
  refine y_istore_n dX10_isFree_11 rfl (Nat.le_of_ble_eq_true rfl) (L' := [some (aR 84), some (aI p1), some (aI r1), none]) rfl ?_
  refine y_iconst dX10_isFree_12 (by decide) ?_
  refine y_istore_n dX10_isFree_13 rfl (Nat.le_of_ble_eq_true rfl) (L' := [some (aR 84), some (aI p1), some (aI r1), some (aI 0)]) rfl ?_
  exact tX10_isFree_14 hM FU p1 r1 0 σ2
theorem qX10_isFree {K : Kt} (hM : mLay K) (p1 : Int) (σ : Sg) : Cc MX10_isFree K [aR 84, aI p1] σ (emIS K) (vX10_isFree p1 σ) := cc_of plX10 (Nat.le_of_ble_eq_true rfl) (fun o _ => ⟨Nat.le_refl _, Nat.le_refl _⟩) (fun Γ => tX10_isFree hM p1 σ)
noncomputable def vX10_findServed_120 (rec_26 : Int → Int → Int → Int → Sg → Option (Int × Sg)) (rec_79 : Int → Int → Int → Int → Int → Int → Sg → Option (Int × Sg)) (x1 x2 x3 x4 x5 x6 y1 y2 : Int) (σ : Sg) : Option (Int × Sg) := ck (0 ≤ y1 ∧ y1 < 6) (nm (up2 σ 106 y1.toNat y2) (fun σ1 => ck (in32 (x6 + 1)) (rec_79 x1 x2 x3 x4 x5 (x6 + 1) σ1)))
set_option maxRecDepth 100000 in
theorem tX10_findServed_120 {Γ : Gx} {K : Kt} (hM : mLay K)  (rec_26 : Int → Int → Int → Int → Sg → Option (Int × Sg)) (hrec_26 : ∀ (x1 x2 x3 x4 : Int) (σ : Sg), Y Γ MX10_findServed K (emIS K) K 26 [some (aR 84), some (aI x1), some (aI x2), some (aI x3), some (aI x4), none, none] [] σ (rec_26 x1 x2 x3 x4 σ)) (rec_79 : Int → Int → Int → Int → Int → Int → Sg → Option (Int × Sg)) (hrec_79 : ∀ (x1 x2 x3 x4 x5 x6 : Int) (σ : Sg), Y Γ MX10_findServed K (emIS K) K 79 [some (aR 84), some (aI x1), some (aI x2), some (aI x3), some (aI x4), some (aI x5), some (aI x6)] [] σ (rec_79 x1 x2 x3 x4 x5 x6 σ)) (x1 x2 x3 x4 x5 x6 y1 y2 : Int) (σ : Sg) : Y Γ MX10_findServed K (emIS K) K 120 [some (aR 84), some (aI x1), some (aI x2), some (aI x3), some (aI x4), some (aI x5), some (aI x6)] [aI y2, aI y1, aR 106] σ (vX10_findServed_120 rec_26 rec_79 x1 x2 x3 x4 x5 x6 y1 y2 σ) := by
  unfold vX10_findServed_120
  refine yk_iastore (lM_42 hM).2 (N := 6) rfl (j := y1.toNat) rfl dX10_findServed_120 (fun σ1 => ?_)
  refine yk_iinc dX10_findServed_121 rfl (L' := [some (aR 84), some (aI x1), some (aI x2), some (aI x3), some (aI x4), some (aI x5), some (aI (x6 + 1))]) rfl ?_
  refine y_goto dX10_findServed_124 (t := 79) rfl ?_
  exact hrec_79 x1 x2 x3 x4 x5 (x6 + 1) σ1
noncomputable def vX10_findServed_127 (rec_26 : Int → Int → Int → Int → Sg → Option (Int × Sg)) (x1 x2 x3 x4 x5 : Int) (σ : Sg) : Option (Int × Sg) := if x3 < x5 then (ck (in32 (x4 + (-1))) (rec_26 x1 x2 x5 (x4 + (-1)) σ)) else (ck (in32 (x4 + (-1))) (rec_26 x1 x2 x3 (x4 + (-1)) σ))
set_option maxRecDepth 100000 in
theorem tX10_findServed_127 {Γ : Gx} {K : Kt} (hM : mLay K)  (rec_26 : Int → Int → Int → Int → Sg → Option (Int × Sg)) (hrec_26 : ∀ (x1 x2 x3 x4 : Int) (σ : Sg), Y Γ MX10_findServed K (emIS K) K 26 [some (aR 84), some (aI x1), some (aI x2), some (aI x3), some (aI x4), none, none] [] σ (rec_26 x1 x2 x3 x4 σ)) (x1 x2 x3 x4 x5 : Int) (σ : Sg) : Y Γ MX10_findServed K (emIS K) K 127 [some (aR 84), some (aI x1), some (aI x2), some (aI x3), some (aI x4), some (aI x5), none] [] σ (vX10_findServed_127 rec_26 x1 x2 x3 x4 x5 σ) := by
  unfold vX10_findServed_127
  refine y_iload dX10_findServed_127 rfl ?_
  refine y_iload_n dX10_findServed_129 rfl rfl ?_
  refine y_ite (fun h1 => ?_) (fun h1 => ?_)
  · refine y_icmp_le_f dX10_findServed_130 (t := 138) rfl h1 ?_
    refine y_iload dX10_findServed_133 rfl ?_
    refine y_goto dX10_findServed_135 (t := 139) rfl ?_
    refine y_istore_n dX10_findServed_139 rfl (Nat.le_of_ble_eq_true rfl) (L' := [some (aR 84), some (aI x1), some (aI x2), some (aI x5), some (aI x4), some (aI x5), none]) rfl ?_
    refine yk_iinc dX10_findServed_140 rfl (L' := [some (aR 84), some (aI x1), some (aI x2), some (aI x5), some (aI (x4 + (-1))), some (aI x5), none]) rfl ?_
    refine y_goto dX10_findServed_143 (t := 26) rfl ?_
    refine y_fg [true, true, true, true, true, false, false] (L' := [some (aR 84), some (aI x1), some (aI x2), some (aI x5), some (aI (x4 + (-1))), none, none]) rfl ?_
    exact hrec_26 x1 x2 x5 (x4 + (-1)) σ
  · refine y_icmp_le_t dX10_findServed_130 (t := 138) rfl h1 ?_
    refine y_iload_n dX10_findServed_138 rfl rfl ?_
    refine y_istore_n dX10_findServed_139 rfl (Nat.le_of_ble_eq_true rfl) (L' := [some (aR 84), some (aI x1), some (aI x2), some (aI x3), some (aI x4), some (aI x5), none]) rfl ?_
    refine yk_iinc dX10_findServed_140 rfl (L' := [some (aR 84), some (aI x1), some (aI x2), some (aI x3), some (aI (x4 + (-1))), some (aI x5), none]) rfl ?_
    refine y_goto dX10_findServed_143 (t := 26) rfl ?_
    refine y_fg [true, true, true, true, true, false, false] (L' := [some (aR 84), some (aI x1), some (aI x2), some (aI x3), some (aI (x4 + (-1))), none, none]) rfl ?_
    exact hrec_26 x1 x2 x3 (x4 + (-1)) σ
noncomputable def vX10_findServed_79 (rec_26 : Int → Int → Int → Int → Sg → Option (Int × Sg)) : Nat → Int → Int → Int → Int → Int → Int → Sg → Option (Int × Sg)
  | 0, _, _, _, _, _, _, _ => none
  | f + 1, x1, x2, x3, x4, x5, x6, σ => if x6 < x1 then (if x3 < x5 then (ck (0 ≤ x6 ∧ x6 < 7) (if (σ 105 x6.toNat) = x2 then (vX10_findServed_120 rec_26 (vX10_findServed_79 rec_26 f) x1 x2 x3 x4 x5 x6 x6 100 σ) else (ck (0 ≤ x6 ∧ x6 < 7) (vX10_findServed_120 rec_26 (vX10_findServed_79 rec_26 f) x1 x2 x3 x4 x5 x6 x6 (σ 105 x6.toNat) σ)))) else (vX10_findServed_127 rec_26 x1 x2 x3 x4 x5 σ)) else (vX10_findServed_127 rec_26 x1 x2 x3 x4 x5 σ)
set_option maxRecDepth 100000 in
theorem tX10_findServed_79 {Γ : Gx} {K : Kt} (hM : mLay K)  (rec_26 : Int → Int → Int → Int → Sg → Option (Int × Sg)) (hrec_26 : ∀ (x1 x2 x3 x4 : Int) (σ : Sg), Y Γ MX10_findServed K (emIS K) K 26 [some (aR 84), some (aI x1), some (aI x2), some (aI x3), some (aI x4), none, none] [] σ (rec_26 x1 x2 x3 x4 σ)) : ∀ (f : Nat) (x1 x2 x3 x4 x5 x6 : Int) (σ : Sg), Y Γ MX10_findServed K (emIS K) K 79 [some (aR 84), some (aI x1), some (aI x2), some (aI x3), some (aI x4), some (aI x5), some (aI x6)] [] σ (vX10_findServed_79 rec_26 f x1 x2 x3 x4 x5 x6 σ) := by
  intro f
  induction f with
  | zero => intro x1 x2 x3 x4 x5 x6 σ; exact y_none
  | succ f ih =>
    intro x1 x2 x3 x4 x5 x6 σ
    rw [vX10_findServed_79]
    refine y_iload dX10_findServed_79 rfl ?_
    refine y_iload_n dX10_findServed_81 rfl rfl ?_
    refine y_ite (fun h1 => ?_) (fun h1 => ?_)
    · refine y_icmp_ge_f dX10_findServed_82 (t := 127) rfl h1 ?_
      refine y_iload dX10_findServed_85 rfl ?_
      refine y_iload_n dX10_findServed_87 rfl rfl ?_
      refine y_ite (fun h2 => ?_) (fun h2 => ?_)
      · refine y_icmp_le_f dX10_findServed_88 (t := 127) rfl h2 ?_
        refine y_aload_n dX10_findServed_91 rfl rfl ?_
        refine y_getR fX10_113 hM.1 rfl (lM_42 hM).1 dX10_findServed_92 ?_
        refine y_iload dX10_findServed_95 rfl ?_
        refine y_aload_n dX10_findServed_97 rfl rfl ?_
        refine y_getR fX10_110 hM.1 rfl (lM_41 hM).1 dX10_findServed_98 ?_
        refine y_iload dX10_findServed_101 rfl ?_
        refine yk_iaload (lM_41 hM).2 (N := 7) rfl (j := x6.toNat) rfl dX10_findServed_103 ?_
        refine y_iload_n dX10_findServed_104 rfl rfl ?_
        refine y_ite (fun h3 => ?_) (fun h3 => ?_)
        · refine y_icmp_ne_f dX10_findServed_105 (t := 113) rfl h3 ?_
          refine y_bipush dX10_findServed_108 (by decide) (by decide) ?_
          refine y_goto dX10_findServed_110 (t := 120) rfl ?_
          exact tX10_findServed_120 hM rec_26 hrec_26 (vX10_findServed_79 rec_26 f) ih x1 x2 x3 x4 x5 x6 x6 100 σ
        · refine y_icmp_ne_t dX10_findServed_105 (t := 113) rfl h3 ?_
          refine y_aload_n dX10_findServed_113 rfl rfl ?_
          refine y_getR fX10_110 hM.1 rfl (lM_41 hM).1 dX10_findServed_114 ?_
          refine y_iload dX10_findServed_117 rfl ?_
          refine yk_iaload (lM_41 hM).2 (N := 7) rfl (j := x6.toNat) rfl dX10_findServed_119 ?_
          exact tX10_findServed_120 hM rec_26 hrec_26 (vX10_findServed_79 rec_26 f) ih x1 x2 x3 x4 x5 x6 x6 (σ 105 x6.toNat) σ
      · refine y_icmp_le_t dX10_findServed_88 (t := 127) rfl h2 ?_
        refine y_fg [true, true, true, true, true, true, false] (L' := [some (aR 84), some (aI x1), some (aI x2), some (aI x3), some (aI x4), some (aI x5), none]) rfl ?_
        exact tX10_findServed_127 hM rec_26 hrec_26 x1 x2 x3 x4 x5 σ
    · refine y_icmp_ge_t dX10_findServed_82 (t := 127) rfl h1 ?_
      refine y_fg [true, true, true, true, true, true, false] (L' := [some (aR 84), some (aI x1), some (aI x2), some (aI x3), some (aI x4), some (aI x5), none]) rfl ?_
      exact tX10_findServed_127 hM rec_26 hrec_26 x1 x2 x3 x4 x5 σ
noncomputable def vX10_findServed_43 (rec_26 : Int → Int → Int → Int → Sg → Option (Int × Sg)) : Nat → Int → Int → Int → Int → Int → Int → Sg → Option (Int × Sg)
  | 0, _, _, _, _, _, _, _ => none
  | f + 1, x1, x2, x3, x4, x5, x6, σ => if x6 < x1 then (ck (0 ≤ x6 ∧ x6 < 7) (if (σ 105 x6.toNat) = x2 then (ck (in32 (x5 + 0)) (nm (x5 + 0) (fun z3 => ck (in32 (x6 + 1)) (vX10_findServed_43 rec_26 f x1 x2 x3 x4 z3 (x6 + 1) σ)))) else (ck (in32 (x5 + 1)) (nm (x5 + 1) (fun z4 => ck (in32 (x6 + 1)) (vX10_findServed_43 rec_26 f x1 x2 x3 x4 z4 (x6 + 1) σ)))))) else (vX10_findServed_79 rec_26 FU x1 x2 x3 x4 x5 0 σ)
set_option maxRecDepth 100000 in
theorem tX10_findServed_43 {Γ : Gx} {K : Kt} (hM : mLay K)  (rec_26 : Int → Int → Int → Int → Sg → Option (Int × Sg)) (hrec_26 : ∀ (x1 x2 x3 x4 : Int) (σ : Sg), Y Γ MX10_findServed K (emIS K) K 26 [some (aR 84), some (aI x1), some (aI x2), some (aI x3), some (aI x4), none, none] [] σ (rec_26 x1 x2 x3 x4 σ)) : ∀ (f : Nat) (x1 x2 x3 x4 x5 x6 : Int) (σ : Sg), Y Γ MX10_findServed K (emIS K) K 43 [some (aR 84), some (aI x1), some (aI x2), some (aI x3), some (aI x4), some (aI x5), some (aI x6)] [] σ (vX10_findServed_43 rec_26 f x1 x2 x3 x4 x5 x6 σ) := by
  intro f
  induction f with
  | zero => intro x1 x2 x3 x4 x5 x6 σ; exact y_none
  | succ f ih =>
    intro x1 x2 x3 x4 x5 x6 σ
    rw [vX10_findServed_43]
    refine y_iload dX10_findServed_43 rfl ?_
    refine y_iload_n dX10_findServed_45 rfl rfl ?_
    refine y_ite (fun h1 => ?_) (fun h1 => ?_)
    · refine y_icmp_ge_f dX10_findServed_46 (t := 76) rfl h1 ?_
      refine y_iload dX10_findServed_49 rfl ?_
      refine y_aload_n dX10_findServed_51 rfl rfl ?_
      refine y_getR fX10_110 hM.1 rfl (lM_41 hM).1 dX10_findServed_52 ?_
      refine y_iload dX10_findServed_55 rfl ?_
      refine yk_iaload (lM_41 hM).2 (N := 7) rfl (j := x6.toNat) rfl dX10_findServed_57 ?_
      refine y_iload_n dX10_findServed_58 rfl rfl ?_
      refine y_ite (fun h2 => ?_) (fun h2 => ?_)
      · refine y_icmp_ne_f dX10_findServed_59 (t := 66) rfl h2 ?_
        refine y_iconst dX10_findServed_62 (by decide) ?_
        refine y_goto dX10_findServed_63 (t := 67) rfl ?_
        refine yk_iadd dX10_findServed_67 ?_
        refine yn_istore dX10_findServed_68 (Nat.le_of_ble_eq_true rfl) (L' := fun z3 => [some (aR 84), some (aI x1), some (aI x2), some (aI x3), some (aI x4), some (aI z3), some (aI x6)]) (fun _ => rfl) (fun z3 => ?_)
        refine yk_iinc dX10_findServed_70 rfl (L' := [some (aR 84), some (aI x1), some (aI x2), some (aI x3), some (aI x4), some (aI z3), some (aI (x6 + 1))]) rfl ?_
        refine y_goto dX10_findServed_73 (t := 43) rfl ?_
        exact ih x1 x2 x3 x4 z3 (x6 + 1) σ
      · refine y_icmp_ne_t dX10_findServed_59 (t := 66) rfl h2 ?_
        refine y_iconst dX10_findServed_66 (by decide) ?_
        refine yk_iadd dX10_findServed_67 ?_
        refine yn_istore dX10_findServed_68 (Nat.le_of_ble_eq_true rfl) (L' := fun z4 => [some (aR 84), some (aI x1), some (aI x2), some (aI x3), some (aI x4), some (aI z4), some (aI x6)]) (fun _ => rfl) (fun z4 => ?_)
        refine yk_iinc dX10_findServed_70 rfl (L' := [some (aR 84), some (aI x1), some (aI x2), some (aI x3), some (aI x4), some (aI z4), some (aI (x6 + 1))]) rfl ?_
        refine y_goto dX10_findServed_73 (t := 43) rfl ?_
        exact ih x1 x2 x3 x4 z4 (x6 + 1) σ
    · refine y_icmp_ge_t dX10_findServed_46 (t := 76) rfl h1 ?_
      refine y_iconst dX10_findServed_76 (by decide) ?_
      refine y_istore dX10_findServed_77 (Nat.le_of_ble_eq_true rfl) (L' := [some (aR 84), some (aI x1), some (aI x2), some (aI x3), some (aI x4), some (aI x5), some (aI 0)]) rfl ?_
      exact tX10_findServed_79 hM rec_26 hrec_26 FU x1 x2 x3 x4 x5 0 σ
noncomputable def vX10_findServed_194 (rec_26 : Int → Int → Int → Int → Sg → Option (Int × Sg)) (x1 x2 x3 x4 : Int) (σ : Sg) : Option (Int × Sg) := ck (in32 (x4 + 1)) (ck (0 ≤ (x4 + 1) ∧ (x4 + 1) < 7) (nm (up2 σ 105 (x4 + 1).toNat (-1)) (fun σ1 => rec_26 x1 x2 x3 (x4 + 1) σ1)))
set_option maxRecDepth 100000 in
theorem tX10_findServed_194 {Γ : Gx} {K : Kt} (hM : mLay K)  (rec_26 : Int → Int → Int → Int → Sg → Option (Int × Sg)) (hrec_26 : ∀ (x1 x2 x3 x4 : Int) (σ : Sg), Y Γ MX10_findServed K (emIS K) K 26 [some (aR 84), some (aI x1), some (aI x2), some (aI x3), some (aI x4), none, none] [] σ (rec_26 x1 x2 x3 x4 σ)) (x1 x2 x3 x4 : Int) (σ : Sg) : Y Γ MX10_findServed K (emIS K) K 194 [some (aR 84), some (aI x1), some (aI x2), some (aI x3), some (aI x4), none, none] [] σ (vX10_findServed_194 rec_26 x1 x2 x3 x4 σ) := by
  unfold vX10_findServed_194
  refine yk_iinc dX10_findServed_194 rfl (L' := [some (aR 84), some (aI x1), some (aI x2), some (aI x3), some (aI (x4 + 1)), none, none]) rfl ?_
  refine y_aload_n dX10_findServed_197 rfl rfl ?_
  refine y_getR fX10_110 hM.1 rfl (lM_41 hM).1 dX10_findServed_198 ?_
  refine y_iload dX10_findServed_201 rfl ?_
  refine y_iconst dX10_findServed_203 (by decide) ?_
  refine yk_iastore (lM_41 hM).2 (N := 7) rfl (j := (x4 + 1).toNat) rfl dX10_findServed_204 (fun σ1 => ?_)
  refine y_goto dX10_findServed_205 (t := 26) rfl ?_
  exact hrec_26 x1 x2 x3 (x4 + 1) σ1
noncomputable def vX10_findServed_26 : Nat → Int → Int → Int → Int → Sg → Option (Int × Sg)
  | 0, _, _, _, _, _ => none
  | f + 1, x1, x2, x3, x4, σ => if x4 < 0 then (some (x3, σ)) else (if x4 = x1 then (vX10_findServed_43 (vX10_findServed_26 f) FU x1 x2 x3 x4 0 0 σ) else (ck (0 ≤ x4 ∧ x4 < 7) (ck (in32 ((σ 105 x4.toNat) + 1)) (ck (0 ≤ x4 ∧ x4 < 7) (nm (up2 σ 105 x4.toNat ((σ 105 x4.toNat) + 1)) (fun σ3 => ck (0 ≤ x4 ∧ x4 < 7) (if x2 < (σ3 105 x4.toNat) then (ck (in32 (x4 + (-1))) (vX10_findServed_26 f x1 x2 x3 (x4 + (-1)) σ3)) else (ck (0 ≤ x4 ∧ x4 < 7) (if (σ3 105 x4.toNat) = x2 then (vX10_findServed_194 (vX10_findServed_26 f) x1 x2 x3 x4 σ3) else (bd2 (vX10_isFree x4 σ3) (fun r6 σ7 => if r6 = 0 then (vX10_findServed_26 f x1 x2 x3 x4 σ7) else (vX10_findServed_194 (vX10_findServed_26 f) x1 x2 x3 x4 σ7))))))))))))
set_option maxRecDepth 100000 in
theorem tX10_findServed_26 {Γ : Gx} {K : Kt} (hM : mLay K)  : ∀ (f : Nat) (x1 x2 x3 x4 : Int) (σ : Sg), Y Γ MX10_findServed K (emIS K) K 26 [some (aR 84), some (aI x1), some (aI x2), some (aI x3), some (aI x4), none, none] [] σ (vX10_findServed_26 f x1 x2 x3 x4 σ) := by
  intro f
  induction f with
  | zero => intro x1 x2 x3 x4 σ; exact y_none
  | succ f ih =>
    intro x1 x2 x3 x4 σ
    rw [vX10_findServed_26]
    refine y_iload dX10_findServed_26 rfl ?_
    refine y_ite (fun h1 => ?_) (fun h1 => ?_)
    · refine y_if_lt_t dX10_findServed_28 (t := 208) rfl h1 ?_
      refine y_iload_n dX10_findServed_208 rfl rfl ?_
      exact y_iret rfl rfl dX10_findServed_209
    · refine y_if_lt_f dX10_findServed_28 (t := 208) rfl h1 ?_
      refine y_iload dX10_findServed_31 rfl ?_
      refine y_iload_n dX10_findServed_33 rfl rfl ?_
      refine y_ite (fun h2 => ?_) (fun h2 => ?_)
      · refine y_icmp_ne_f dX10_findServed_34 (t := 146) rfl h2 ?_
        refine y_iconst dX10_findServed_37 (by decide) ?_
        refine y_istore dX10_findServed_38 (Nat.le_of_ble_eq_true rfl) (L' := [some (aR 84), some (aI x1), some (aI x2), some (aI x3), some (aI x4), some (aI 0), none]) rfl ?_
        refine y_iconst dX10_findServed_40 (by decide) ?_
        refine y_istore dX10_findServed_41 (Nat.le_of_ble_eq_true rfl) (L' := [some (aR 84), some (aI x1), some (aI x2), some (aI x3), some (aI x4), some (aI 0), some (aI 0)]) rfl ?_
        exact tX10_findServed_43 hM (vX10_findServed_26 f) ih FU x1 x2 x3 x4 0 0 σ
      · refine y_icmp_ne_t dX10_findServed_34 (t := 146) rfl h2 ?_
        refine y_aload_n dX10_findServed_146 rfl rfl ?_
        refine y_getR fX10_110 hM.1 rfl (lM_41 hM).1 dX10_findServed_147 ?_
        refine y_iload dX10_findServed_150 rfl ?_
        refine y_dup2 dX10_findServed_152 (fun _ => rfl) (fun _ => rfl) ?_
        refine yk_iaload (lM_41 hM).2 (N := 7) rfl (j := x4.toNat) rfl dX10_findServed_153 ?_
        refine y_iconst dX10_findServed_154 (by decide) ?_
        refine yk_iadd dX10_findServed_155 ?_
        refine yk_iastore (lM_41 hM).2 (N := 7) rfl (j := x4.toNat) rfl dX10_findServed_156 (fun σ3 => ?_)
        refine y_aload_n dX10_findServed_157 rfl rfl ?_
        refine y_getR fX10_110 hM.1 rfl (lM_41 hM).1 dX10_findServed_158 ?_
        refine y_iload dX10_findServed_161 rfl ?_
        refine yk_iaload (lM_41 hM).2 (N := 7) rfl (j := x4.toNat) rfl dX10_findServed_163 ?_
        refine y_iload_n dX10_findServed_164 rfl rfl ?_
        refine y_ite (fun h4 => ?_) (fun h4 => ?_)
        · refine y_icmp_le_f dX10_findServed_165 (t := 174) rfl h4 ?_
          refine yk_iinc dX10_findServed_168 rfl (L' := [some (aR 84), some (aI x1), some (aI x2), some (aI x3), some (aI (x4 + (-1))), none, none]) rfl ?_
          refine y_goto dX10_findServed_171 (t := 26) rfl ?_
          exact ih x1 x2 x3 (x4 + (-1)) σ3
        · refine y_icmp_le_t dX10_findServed_165 (t := 174) rfl h4 ?_
          refine y_aload_n dX10_findServed_174 rfl rfl ?_
          refine y_getR fX10_110 hM.1 rfl (lM_41 hM).1 dX10_findServed_175 ?_
          refine y_iload dX10_findServed_178 rfl ?_
          refine yk_iaload (lM_41 hM).2 (N := 7) rfl (j := x4.toNat) rfl dX10_findServed_180 ?_
          refine y_iload_n dX10_findServed_181 rfl rfl ?_
          refine y_ite (fun h5 => ?_) (fun h5 => ?_)
          · refine y_icmp_eq_t dX10_findServed_182 (t := 194) rfl h5 ?_
            exact tX10_findServed_194 hM (vX10_findServed_26 f) ih x1 x2 x3 x4 σ3
          · refine y_icmp_eq_f dX10_findServed_182 (t := 194) rfl h5 ?_
            refine y_aload_n dX10_findServed_185 rfl rfl ?_
            refine y_iload dX10_findServed_186 rfl ?_
            refine y_cvIS (qX10_isFree hM x4 σ3) kX10_472 rfl hM.1 rfl (by decide) rfl (Nat.le_of_ble_eq_true rfl) dX10_findServed_188 (fun r6 σ7 => ?_)
            refine y_ite (fun h8 => ?_) (fun h8 => ?_)
            · refine y_if_eq_t dX10_findServed_191 (t := 26) rfl h8 ?_
              exact ih x1 x2 x3 x4 σ7
            · refine y_if_eq_f dX10_findServed_191 (t := 26) rfl h8 ?_
              exact tX10_findServed_194 hM (vX10_findServed_26 f) ih x1 x2 x3 x4 σ7
noncomputable def vX10_findServed (σ : Sg) : Option (Int × Sg) := nm (σ 86 1) (fun z1 => nm (σ 86 0) (fun z2 => nm (up2 σ 105 0 (-1)) (fun σ3 => vX10_findServed_26 FU z1 z2 (-1) 0 σ3)))
set_option maxRecDepth 100000 in
theorem tX10_findServed {Γ : Gx} {K : Kt} (hM : mLay K) (σ : Sg) : Y Γ MX10_findServed K (emIS K) K 0 [some (aR 84), none, none, none, none, none, none] [] σ (vX10_findServed σ) := by
  unfold vX10_findServed
  refine y_aload_n dX10_findServed_0 rfl rfl ?_
  refine y_getR fX10_13 hM.1 rfl (lM_3 hM).1 dX10_findServed_1 ?_
  refine y_iconst dX10_findServed_4 (by decide) ?_
  refine yl_iaload (lM_3 hM).2 (by decide) (j := 1) rfl dX10_findServed_5 ?_
  refine yn_istore_n dX10_findServed_6 rfl (Nat.le_of_ble_eq_true rfl) (L' := fun z1 => [some (aR 84), some (aI z1), none, none, none, none, none]) (fun _ => rfl) (fun z1 => ?_)
  refine y_aload_n dX10_findServed_7 rfl rfl ?_
  refine y_getR fX10_13 hM.1 rfl (lM_3 hM).1 dX10_findServed_8 ?_
  refine y_iconst dX10_findServed_11 (by decide) ?_
  refine yl_iaload (lM_3 hM).2 (by decide) (j := 0) rfl dX10_findServed_12 ?_
  refine yn_istore_n dX10_findServed_13 rfl (Nat.le_of_ble_eq_true rfl) (L' := fun z2 => [some (aR 84), some (aI z1), some (aI z2), none, none, none, none]) (fun _ => rfl) (fun z2 => ?_)
  refine y_iconst dX10_findServed_14 (by decide) ?_
  refine y_istore_n dX10_findServed_15 rfl (Nat.le_of_ble_eq_true rfl) (L' := [some (aR 84), some (aI z1), some (aI z2), some (aI (-1)), none, none, none]) rfl ?_
  refine y_iconst dX10_findServed_16 (by decide) ?_
  refine y_istore dX10_findServed_17 (Nat.le_of_ble_eq_true rfl) (L' := [some (aR 84), some (aI z1), some (aI z2), some (aI (-1)), some (aI 0), none, none]) rfl ?_
  refine y_aload_n dX10_findServed_19 rfl rfl ?_
  refine y_getR fX10_110 hM.1 rfl (lM_41 hM).1 dX10_findServed_20 ?_
  refine y_iconst dX10_findServed_23 (by decide) ?_
  refine y_iconst dX10_findServed_24 (by decide) ?_
  refine yl_iastore (lM_41 hM).2 (by decide) (j := 0) rfl dX10_findServed_25 (fun σ3 => ?_)
  exact tX10_findServed_26 hM FU z1 z2 (-1) 0 σ3
theorem qX10_findServed {K : Kt} (hM : mLay K) (σ : Sg) : Cc MX10_findServed K [aR 84] σ (emIS K) (vX10_findServed σ) := cc_of plX10 (Nat.le_of_ble_eq_true rfl) (fun o _ => ⟨Nat.le_refl _, Nat.le_refl _⟩) (fun Γ => tX10_findServed hM σ)
noncomputable def vX10_served (p1 : Int) (σ : Sg) : Option (Int × Sg) := nm (up2 σ 84 0 0) (fun σ1 => (vX10_in p1 0 (σ1 86 1) σ1).bind (fun r2 => if r2 = 0 then (some ((-1), σ1)) else (bd2 (vX10_findServed σ1) (fun r4 σ5 => if p1 = 0 then (some (r4, σ5)) else (ck (in32 (p1 - 1)) (ck (0 ≤ (p1 - 1) ∧ (p1 - 1) < 6) (some ((σ5 106 (p1 - 1).toNat), σ5))))))))
set_option maxRecDepth 100000 in
theorem tX10_served {Γ : Gx} {K : Kt} (hM : mLay K) (p1 : Int) (σ : Sg) : Y Γ MX10_served K (emIS K) K 0 [some (aR 84), some (aI p1), none] [] σ (vX10_served p1 σ) := by
  unfold vX10_served
  refine y_aload_n dX10_served_0 rfl rfl ?_
  refine y_iconst dX10_served_1 (by decide) ?_
  refine yn_putI fX10_157 hM.1 rfl rfl dX10_served_2 (fun σ1 => ?_)
  refine y_iload_n dX10_served_5 rfl rfl ?_
  refine y_i2l dX10_served_6 ?_
  refine y_lconst 0 dX10_served_7 (by decide) (by decide) ?_
  refine y_aload_n dX10_served_8 rfl rfl ?_
  refine y_getR fX10_13 hM.1 rfl (lM_3 hM).1 dX10_served_9 ?_
  refine y_iconst dX10_served_12 (by decide) ?_
  refine yl_iaload (lM_3 hM).2 (by decide) (j := 1) rfl dX10_served_13 ?_
  refine y_i2l dX10_served_14 ?_
  refine y_csI (qX10_in (K := K) p1 0 (σ1 86 1) σ1) kX10_177 rfl (by decide) rfl (Nat.le_of_ble_eq_true rfl) dX10_served_15 (fun r2 => ?_)
  refine y_ite (fun h3 => ?_) (fun h3 => ?_)
  · refine y_if_ne_f dX10_served_18 (t := 23) rfl h3 ?_
    refine y_iconst dX10_served_21 (by decide) ?_
    exact y_iret rfl rfl dX10_served_22
  · refine y_if_ne_t dX10_served_18 (t := 23) rfl h3 ?_
    refine y_aload_n dX10_served_23 rfl rfl ?_
    refine y_cvIS (qX10_findServed hM σ1) kX10_475 rfl hM.1 rfl (by decide) rfl (Nat.le_of_ble_eq_true rfl) dX10_served_24 (fun r4 σ5 => ?_)
    refine y_istore_n dX10_served_27 rfl (Nat.le_of_ble_eq_true rfl) (L' := [some (aR 84), some (aI p1), some (aI r4)]) rfl ?_
    refine y_iload_n dX10_served_28 rfl rfl ?_
    refine y_ite (fun h6 => ?_) (fun h6 => ?_)
    · refine y_if_ne_f dX10_served_29 (t := 36) rfl h6 ?_
      refine y_iload_n dX10_served_32 rfl rfl ?_
      refine y_goto dX10_served_33 (t := 44) rfl ?_
      exact y_iret rfl rfl dX10_served_44
    · refine y_if_ne_t dX10_served_29 (t := 36) rfl h6 ?_
      refine y_aload_n dX10_served_36 rfl rfl ?_
      refine y_getR fX10_113 hM.1 rfl (lM_42 hM).1 dX10_served_37 ?_
      refine y_iload_n dX10_served_40 rfl rfl ?_
      refine y_iconst dX10_served_41 (by decide) ?_
      refine yk_isub dX10_served_42 ?_
      refine yk_iaload (lM_42 hM).2 (N := 6) rfl (j := (p1 - 1).toNat) rfl dX10_served_43 ?_
      exact y_iret rfl rfl dX10_served_44
theorem qX10_served {K : Kt} (hM : mLay K) (p1 : Int) (σ : Sg) : Cc MX10_served K [aR 84, aI p1] σ (emIS K) (vX10_served p1 σ) := cc_of plX10 (Nat.le_of_ble_eq_true rfl) (fun o _ => ⟨Nat.le_refl _, Nat.le_refl _⟩) (fun Γ => tX10_served hM p1 σ)
noncomputable def vX10_turn_9 : Nat → Int → Int → Int → Sg → Option (Int × Sg)
  | 0, _, _, _, _ => none
  | f + 1, x1, x2, x3, σ => (vX10_isReader x1 σ).bind (fun r1 => if r1 = 0 then (some (x2, σ)) else (if x2 = (-1) then (if x3 < (σ 86 8) then (ck (in32 (2 * x3)) (ck (in32 (47 + (2 * x3))) (ck (in32 ((47 + (2 * x3)) + 1)) (ck (0 ≤ ((47 + (2 * x3)) + 1) ∧ ((47 + (2 * x3)) + 1) < 5505) (if (σ 86 ((47 + (2 * x3)) + 1).toNat) = x1 then (ck (in32 (2 * x3)) (ck (in32 (47 + (2 * x3))) (ck (0 ≤ (47 + (2 * x3)) ∧ (47 + (2 * x3)) < 5505) (bd2 (vX10_canHave (σ 86 (47 + (2 * x3)).toNat) x1 σ) (fun r6 σ7 => if r6 = 0 then (ck (in32 (x3 + 1)) (vX10_turn_9 f x1 (-1) (x3 + 1) σ7)) else (ck (in32 (2 * x3)) (ck (in32 (47 + (2 * x3))) (ck (0 ≤ (47 + (2 * x3)) ∧ (47 + (2 * x3)) < 5505) (nm (σ7 86 (47 + (2 * x3)).toNat) (fun z9 => ck (in32 (x3 + 1)) (vX10_turn_9 f x1 z9 (x3 + 1) σ7))))))))))) else (ck (in32 (x3 + 1)) (vX10_turn_9 f x1 (-1) (x3 + 1) σ))))))) else (some (x2, σ))) else (some (x2, σ))))
set_option maxRecDepth 100000 in
theorem tX10_turn_9 {Γ : Gx} {K : Kt} (hM : mLay K)  : ∀ (f : Nat) (x1 x2 x3 : Int) (σ : Sg), Y Γ MX10_turn K (emIS K) K 9 [some (aR 84), some (aI x1), some (aI x2), some (aI x3)] [] σ (vX10_turn_9 f x1 x2 x3 σ) := by
  intro f
  induction f with
  | zero => intro x1 x2 x3 σ; exact y_none
  | succ f ih =>
    intro x1 x2 x3 σ
    rw [vX10_turn_9]
    refine y_aload_n dX10_turn_9 rfl rfl ?_
    refine y_iload_n dX10_turn_10 rfl rfl ?_
    refine y_cvI (qX10_isReader hM x1 σ) kX10_201 rfl hM.1 rfl (by decide) rfl (Nat.le_of_ble_eq_true rfl) dX10_turn_11 (fun r1 => ?_)
    refine y_ite (fun h2 => ?_) (fun h2 => ?_)
    · refine y_if_eq_t dX10_turn_14 (t := 91) rfl h2 ?_
      refine y_iload_n dX10_turn_91 rfl rfl ?_
      exact y_iret rfl rfl dX10_turn_92
    · refine y_if_eq_f dX10_turn_14 (t := 91) rfl h2 ?_
      refine y_iload_n dX10_turn_17 rfl rfl ?_
      refine y_iconst dX10_turn_18 (by decide) ?_
      refine y_ite (fun h3 => ?_) (fun h3 => ?_)
      · refine y_icmp_ne_f dX10_turn_19 (t := 91) rfl h3 ?_
        refine y_iload_n dX10_turn_22 rfl rfl ?_
        refine y_aload_n dX10_turn_23 rfl rfl ?_
        refine y_getR fX10_13 hM.1 rfl (lM_3 hM).1 dX10_turn_24 ?_
        refine y_bipush dX10_turn_27 (by decide) (by decide) ?_
        refine yl_iaload (lM_3 hM).2 (by decide) (j := 8) rfl dX10_turn_29 ?_
        refine y_ite (fun h4 => ?_) (fun h4 => ?_)
        · refine y_icmp_ge_f dX10_turn_30 (t := 91) rfl h4 ?_
          refine y_aload_n dX10_turn_33 rfl rfl ?_
          refine y_getR fX10_13 hM.1 rfl (lM_3 hM).1 dX10_turn_34 ?_
          refine y_bipush dX10_turn_37 (by decide) (by decide) ?_
          refine y_iconst dX10_turn_39 (by decide) ?_
          refine y_iload_n dX10_turn_40 rfl rfl ?_
          refine yk_imul dX10_turn_41 ?_
          refine yk_iadd dX10_turn_42 ?_
          refine y_iconst dX10_turn_43 (by decide) ?_
          refine yk_iadd dX10_turn_44 ?_
          refine yk_iaload (lM_3 hM).2 (N := 5505) rfl (j := ((47 + (2 * x3)) + 1).toNat) rfl dX10_turn_45 ?_
          refine y_iload_n dX10_turn_46 rfl rfl ?_
          refine y_ite (fun h5 => ?_) (fun h5 => ?_)
          · refine y_icmp_ne_f dX10_turn_47 (t := 83) rfl h5 ?_
            refine y_aload_n dX10_turn_50 rfl rfl ?_
            refine y_aload_n dX10_turn_51 rfl rfl ?_
            refine y_getR fX10_13 hM.1 rfl (lM_3 hM).1 dX10_turn_52 ?_
            refine y_bipush dX10_turn_55 (by decide) (by decide) ?_
            refine y_iconst dX10_turn_57 (by decide) ?_
            refine y_iload_n dX10_turn_58 rfl rfl ?_
            refine yk_imul dX10_turn_59 ?_
            refine yk_iadd dX10_turn_60 ?_
            refine yk_iaload (lM_3 hM).2 (N := 5505) rfl (j := (47 + (2 * x3)).toNat) rfl dX10_turn_61 ?_
            refine y_iload_n dX10_turn_62 rfl rfl ?_
            refine y_cvIS (qX10_canHave hM (σ 86 (47 + (2 * x3)).toNat) x1 σ) kX10_436 rfl hM.1 rfl (by decide) rfl (Nat.le_of_ble_eq_true rfl) dX10_turn_63 (fun r6 σ7 => ?_)
            refine y_ite (fun h8 => ?_) (fun h8 => ?_)
            · refine y_if_eq_t dX10_turn_66 (t := 83) rfl h8 ?_
              refine y_iconst dX10_turn_83 (by decide) ?_
              refine y_istore_n dX10_turn_84 rfl (Nat.le_of_ble_eq_true rfl) (L' := [some (aR 84), some (aI x1), some (aI (-1)), some (aI x3)]) rfl ?_
              refine yk_iinc dX10_turn_85 rfl (L' := [some (aR 84), some (aI x1), some (aI (-1)), some (aI (x3 + 1))]) rfl ?_
              refine y_goto dX10_turn_88 (t := 9) rfl ?_
              exact ih x1 (-1) (x3 + 1) σ7
            · refine y_if_eq_f dX10_turn_66 (t := 83) rfl h8 ?_
              refine y_aload_n dX10_turn_69 rfl rfl ?_
              refine y_getR fX10_13 hM.1 rfl (lM_3 hM).1 dX10_turn_70 ?_
              refine y_bipush dX10_turn_73 (by decide) (by decide) ?_
              refine y_iconst dX10_turn_75 (by decide) ?_
              refine y_iload_n dX10_turn_76 rfl rfl ?_
              refine yk_imul dX10_turn_77 ?_
              refine yk_iadd dX10_turn_78 ?_
              refine yk_iaload (lM_3 hM).2 (N := 5505) rfl (j := (47 + (2 * x3)).toNat) rfl dX10_turn_79 ?_
              refine y_goto dX10_turn_80 (t := 84) rfl ?_
              refine yn_istore_n dX10_turn_84 rfl (Nat.le_of_ble_eq_true rfl) (L' := fun z9 => [some (aR 84), some (aI x1), some (aI z9), some (aI x3)]) (fun _ => rfl) (fun z9 => ?_)
              refine yk_iinc dX10_turn_85 rfl (L' := [some (aR 84), some (aI x1), some (aI z9), some (aI (x3 + 1))]) rfl ?_
              refine y_goto dX10_turn_88 (t := 9) rfl ?_
              exact ih x1 z9 (x3 + 1) σ7
          · refine y_icmp_ne_t dX10_turn_47 (t := 83) rfl h5 ?_
            refine y_iconst dX10_turn_83 (by decide) ?_
            refine y_istore_n dX10_turn_84 rfl (Nat.le_of_ble_eq_true rfl) (L' := [some (aR 84), some (aI x1), some (aI (-1)), some (aI x3)]) rfl ?_
            refine yk_iinc dX10_turn_85 rfl (L' := [some (aR 84), some (aI x1), some (aI (-1)), some (aI (x3 + 1))]) rfl ?_
            refine y_goto dX10_turn_88 (t := 9) rfl ?_
            exact ih x1 (-1) (x3 + 1) σ
        · refine y_icmp_ge_t dX10_turn_30 (t := 91) rfl h4 ?_
          refine y_iload_n dX10_turn_91 rfl rfl ?_
          exact y_iret rfl rfl dX10_turn_92
      · refine y_icmp_ne_t dX10_turn_19 (t := 91) rfl h3 ?_
        refine y_iload_n dX10_turn_91 rfl rfl ?_
        exact y_iret rfl rfl dX10_turn_92
noncomputable def vX10_turn (p1 : Int) (σ : Sg) : Option (Int × Sg) := nm (up2 σ 84 0 0) (fun σ1 => vX10_turn_9 FU p1 (-1) 0 σ1)
set_option maxRecDepth 100000 in
theorem tX10_turn {Γ : Gx} {K : Kt} (hM : mLay K) (p1 : Int) (σ : Sg) : Y Γ MX10_turn K (emIS K) K 0 [some (aR 84), some (aI p1), none, none] [] σ (vX10_turn p1 σ) := by
  unfold vX10_turn
  refine y_aload_n dX10_turn_0 rfl rfl ?_
  refine y_iconst dX10_turn_1 (by decide) ?_
  refine yn_putI fX10_157 hM.1 rfl rfl dX10_turn_2 (fun σ1 => ?_)
  refine y_iconst dX10_turn_5 (by decide) ?_
  refine y_istore_n dX10_turn_6 rfl (Nat.le_of_ble_eq_true rfl) (L' := [some (aR 84), some (aI p1), some (aI (-1)), none]) rfl ?_
  refine y_iconst dX10_turn_7 (by decide) ?_
  refine y_istore_n dX10_turn_8 rfl (Nat.le_of_ble_eq_true rfl) (L' := [some (aR 84), some (aI p1), some (aI (-1)), some (aI 0)]) rfl ?_
  exact tX10_turn_9 hM FU p1 (-1) 0 σ1
theorem qX10_turn {K : Kt} (hM : mLay K) (p1 : Int) (σ : Sg) : Cc MX10_turn K [aR 84, aI p1] σ (emIS K) (vX10_turn p1 σ) := cc_of plX10 (Nat.le_of_ble_eq_true rfl) (fun o _ => ⟨Nat.le_refl _, Nat.le_refl _⟩) (fun Γ => tX10_turn hM p1 σ)
noncomputable def vX10_weeksBy (p1 : Int) (p2 : Int) (σ : Sg) : Option (Int) := ck (in32 (87 + p2)) (ck (0 ≤ (87 + p2) ∧ (87 + p2) < 5505) (nm (bOr p1 (σ 86 (87 + p2).toNat)) (fun z1 => ck (in32 (79 + p2)) (ck (0 ≤ (79 + p2) ∧ (79 + p2) < 5505) ((vX10_isIn (σ 86 (79 + p2).toNat) p1 σ).bind (fun r2 => if r2 = 0 then (some 100000000) else (if z1 = p1 then (some 100000000) else (ck (0 ≤ z1 ∧ z1 < 64) (if (σ 107 z1.toNat) = 100000000 then (some 100000000) else (ck (in32 (71 + p2)) (ck (0 ≤ (71 + p2) ∧ (71 + p2) < 5505) (ck (in32 (100 * (σ 86 (71 + p2).toNat))) (ck (in32 ((100 * (σ 86 (71 + p2).toNat)) + 1)) (ck (0 ≤ z1 ∧ z1 < 64) (ck (in32 (((100 * (σ 86 (71 + p2).toNat)) + 1) + (σ 107 z1.toNat))) (some (((100 * (σ 86 (71 + p2).toNat)) + 1) + (σ 107 z1.toNat))))))))))))))))))
set_option maxRecDepth 100000 in
theorem tX10_weeksBy {Γ : Gx} {K : Kt} (hM : mLay K) (p1 : Int) (p2 : Int) (σ : Sg) : Y Γ MX10_weeksBy K (emI K σ) K 0 [some (aR 84), some (aI p1), some (aI p2), none] [] σ (vX10_weeksBy p1 p2 σ) := by
  unfold vX10_weeksBy
  refine y_iload_n dX10_weeksBy_0 rfl rfl ?_
  refine y_aload_n dX10_weeksBy_1 rfl rfl ?_
  refine y_getR fX10_13 hM.1 rfl (lM_3 hM).1 dX10_weeksBy_2 ?_
  refine y_bipush dX10_weeksBy_5 (by decide) (by decide) ?_
  refine y_iload_n dX10_weeksBy_7 rfl rfl ?_
  refine yk_iadd dX10_weeksBy_8 ?_
  refine yk_iaload (lM_3 hM).2 (N := 5505) rfl (j := (87 + p2).toNat) rfl dX10_weeksBy_9 ?_
  refine y_ior dX10_weeksBy_10 ?_
  refine yn_istore_n dX10_weeksBy_11 rfl (Nat.le_of_ble_eq_true rfl) (L' := fun z1 => [some (aR 84), some (aI p1), some (aI p2), some (aI z1)]) (fun _ => rfl) (fun z1 => ?_)
  refine y_aload_n dX10_weeksBy_12 rfl rfl ?_
  refine y_getR fX10_13 hM.1 rfl (lM_3 hM).1 dX10_weeksBy_13 ?_
  refine y_bipush dX10_weeksBy_16 (by decide) (by decide) ?_
  refine y_iload_n dX10_weeksBy_18 rfl rfl ?_
  refine yk_iadd dX10_weeksBy_19 ?_
  refine yk_iaload (lM_3 hM).2 (N := 5505) rfl (j := (79 + p2).toNat) rfl dX10_weeksBy_20 ?_
  refine y_iload_n dX10_weeksBy_21 rfl rfl ?_
  refine y_csI (qX10_isIn (K := K) (σ 86 (79 + p2).toNat) p1 σ) kX10_417 rfl (by decide) rfl (Nat.le_of_ble_eq_true rfl) dX10_weeksBy_22 (fun r2 => ?_)
  refine y_ite (fun h3 => ?_) (fun h3 => ?_)
  · refine y_if_eq_t dX10_weeksBy_25 (t := 45) rfl h3 ?_
    refine y_ldcw 100000000 wX10_c478 dX10_weeksBy_45 (by decide) (by decide) ?_
    refine y_goto dX10_weeksBy_48 (t := 72) rfl ?_
    exact y_iret rfl rfl dX10_weeksBy_72
  · refine y_if_eq_f dX10_weeksBy_25 (t := 45) rfl h3 ?_
    refine y_iload_n dX10_weeksBy_28 rfl rfl ?_
    refine y_iload_n dX10_weeksBy_29 rfl rfl ?_
    refine y_ite (fun h4 => ?_) (fun h4 => ?_)
    · refine y_icmp_eq_t dX10_weeksBy_30 (t := 45) rfl h4 ?_
      refine y_ldcw 100000000 wX10_c478 dX10_weeksBy_45 (by decide) (by decide) ?_
      refine y_goto dX10_weeksBy_48 (t := 72) rfl ?_
      exact y_iret rfl rfl dX10_weeksBy_72
    · refine y_icmp_eq_f dX10_weeksBy_30 (t := 45) rfl h4 ?_
      refine y_aload_n dX10_weeksBy_33 rfl rfl ?_
      refine y_getR fX10_116 hM.1 rfl (lM_43 hM).1 dX10_weeksBy_34 ?_
      refine y_iload_n dX10_weeksBy_37 rfl rfl ?_
      refine yk_iaload (lM_43 hM).2 (N := 64) rfl (j := z1.toNat) rfl dX10_weeksBy_38 ?_
      refine y_ldcw 100000000 wX10_c478 dX10_weeksBy_39 (by decide) (by decide) ?_
      refine y_ite (fun h5 => ?_) (fun h5 => ?_)
      · refine y_icmp_ne_f dX10_weeksBy_42 (t := 51) rfl h5 ?_
        refine y_ldcw 100000000 wX10_c478 dX10_weeksBy_45 (by decide) (by decide) ?_
        refine y_goto dX10_weeksBy_48 (t := 72) rfl ?_
        exact y_iret rfl rfl dX10_weeksBy_72
      · refine y_icmp_ne_t dX10_weeksBy_42 (t := 51) rfl h5 ?_
        refine y_bipush dX10_weeksBy_51 (by decide) (by decide) ?_
        refine y_aload_n dX10_weeksBy_53 rfl rfl ?_
        refine y_getR fX10_13 hM.1 rfl (lM_3 hM).1 dX10_weeksBy_54 ?_
        refine y_bipush dX10_weeksBy_57 (by decide) (by decide) ?_
        refine y_iload_n dX10_weeksBy_59 rfl rfl ?_
        refine yk_iadd dX10_weeksBy_60 ?_
        refine yk_iaload (lM_3 hM).2 (N := 5505) rfl (j := (71 + p2).toNat) rfl dX10_weeksBy_61 ?_
        refine yk_imul dX10_weeksBy_62 ?_
        refine y_iconst dX10_weeksBy_63 (by decide) ?_
        refine yk_iadd dX10_weeksBy_64 ?_
        refine y_aload_n dX10_weeksBy_65 rfl rfl ?_
        refine y_getR fX10_116 hM.1 rfl (lM_43 hM).1 dX10_weeksBy_66 ?_
        refine y_iload_n dX10_weeksBy_69 rfl rfl ?_
        refine yk_iaload (lM_43 hM).2 (N := 64) rfl (j := z1.toNat) rfl dX10_weeksBy_70 ?_
        refine yk_iadd dX10_weeksBy_71 ?_
        exact y_iret rfl rfl dX10_weeksBy_72
theorem qX10_weeksBy {K : Kt} (hM : mLay K) (p1 : Int) (p2 : Int) (σ : Sg) : Cc MX10_weeksBy K [aR 84, aI p1, aI p2] σ (emI K σ) (vX10_weeksBy p1 p2 σ) := cc_of plX10 (Nat.le_of_ble_eq_true rfl) (fun o _ => ⟨Nat.le_refl _, Nat.le_refl _⟩) (fun Γ => tX10_weeksBy hM p1 p2 σ)
