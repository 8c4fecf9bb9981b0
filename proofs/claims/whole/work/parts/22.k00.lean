noncomputable def vX4_isLetter (p1 : Int) (σ : Sg) : Option (Int) := if p1 < 97 then (some 0) else (if 122 < p1 then (some 0) else (some 1))
set_option maxRecDepth 100000 in
set_option maxHeartbeats 4000000 in
theorem tX4_isLetter {Γ : Gx} {K : Kt} (p1 : Int) (σ : Sg) : Y Γ MX4_isLetter K (emI K σ) K 0 [some (aI p1)] [] σ (vX4_isLetter p1 σ) := by
  unfold vX4_isLetter
  refine y_iload_n dX4_isLetter_0 rfl rfl ?_
  refine y_bipush dX4_isLetter_1 (by decide) (by decide) ?_
  refine y_ite (fun h1 => ?_) (fun h1 => ?_)
  · refine y_icmp_lt_t dX4_isLetter_3 (t := 16) rfl h1 ?_
    refine y_iconst dX4_isLetter_16 (by decide) ?_
    exact y_zret (by decide) rfl rfl dX4_isLetter_17
  · refine y_icmp_lt_f dX4_isLetter_3 (t := 16) rfl h1 ?_
    refine y_iload_n dX4_isLetter_6 rfl rfl ?_
    refine y_bipush dX4_isLetter_7 (by decide) (by decide) ?_
    refine y_ite (fun h2 => ?_) (fun h2 => ?_)
    · refine y_icmp_gt_t dX4_isLetter_9 (t := 16) rfl h2 ?_
      refine y_iconst dX4_isLetter_16 (by decide) ?_
      exact y_zret (by decide) rfl rfl dX4_isLetter_17
    · refine y_icmp_gt_f dX4_isLetter_9 (t := 16) rfl h2 ?_
      refine y_iconst dX4_isLetter_12 (by decide) ?_
      refine y_goto dX4_isLetter_13 (t := 17) rfl ?_
      exact y_zret (by decide) rfl rfl dX4_isLetter_17
theorem qX4_isLetter {K : Kt} (p1 : Int) (σ : Sg) : Cc MX4_isLetter K [aI p1] σ (emI K σ) (vX4_isLetter p1 σ) := cc_of plX4 (Nat.le_of_ble_eq_true rfl) (fun o _ => ⟨Nat.le_refl _, Nat.le_refl _⟩) (fun Γ => tX4_isLetter p1 σ)
noncomputable def vX4_isDigit (p1 : Int) (σ : Sg) : Option (Int) := if p1 < 48 then (some 0) else (if 57 < p1 then (some 0) else (some 1))
set_option maxRecDepth 100000 in
set_option maxHeartbeats 4000000 in
theorem tX4_isDigit {Γ : Gx} {K : Kt} (p1 : Int) (σ : Sg) : Y Γ MX4_isDigit K (emI K σ) K 0 [some (aI p1)] [] σ (vX4_isDigit p1 σ) := by
  unfold vX4_isDigit
  refine y_iload_n dX4_isDigit_0 rfl rfl ?_
  refine y_bipush dX4_isDigit_1 (by decide) (by decide) ?_
  refine y_ite (fun h1 => ?_) (fun h1 => ?_)
  · refine y_icmp_lt_t dX4_isDigit_3 (t := 16) rfl h1 ?_
    refine y_iconst dX4_isDigit_16 (by decide) ?_
    exact y_zret (by decide) rfl rfl dX4_isDigit_17
  · refine y_icmp_lt_f dX4_isDigit_3 (t := 16) rfl h1 ?_
    refine y_iload_n dX4_isDigit_6 rfl rfl ?_
    refine y_bipush dX4_isDigit_7 (by decide) (by decide) ?_
    refine y_ite (fun h2 => ?_) (fun h2 => ?_)
    · refine y_icmp_gt_t dX4_isDigit_9 (t := 16) rfl h2 ?_
      refine y_iconst dX4_isDigit_16 (by decide) ?_
      exact y_zret (by decide) rfl rfl dX4_isDigit_17
    · refine y_icmp_gt_f dX4_isDigit_9 (t := 16) rfl h2 ?_
      refine y_iconst dX4_isDigit_12 (by decide) ?_
      refine y_goto dX4_isDigit_13 (t := 17) rfl ?_
      exact y_zret (by decide) rfl rfl dX4_isDigit_17
theorem qX4_isDigit {K : Kt} (p1 : Int) (σ : Sg) : Cc MX4_isDigit K [aI p1] σ (emI K σ) (vX4_isDigit p1 σ) := cc_of plX4 (Nat.le_of_ble_eq_true rfl) (fun o _ => ⟨Nat.le_refl _, Nat.le_refl _⟩) (fun Γ => tX4_isDigit p1 σ)
noncomputable def vX4_wordToken_8 (K : Kt) (σ : Sg) : Nat → Int → Int → Int → Int → Int → Option (Int)
  | 0, _, _, _, _, _ => none
  | f + 1, x1, x2, x3, x4, x5 => (vJ0_length).bind (fun r1 => if x5 < r1 then ((vJ0_charAt x5 σ).bind (fun r3 => if r3 = 32 then (ck (in32 (x2 - x1)) (if x4 = (x2 - x1) then (ck (in32 (300 + x3)) (some (300 + x3))) else (ck (in32 (x3 + 1)) (ck (in32 (x5 + 1)) (vX4_wordToken_8 K σ f x1 x2 (x3 + 1) 0 (x5 + 1)))))) else (if x4 = (-1) then (ck (in32 (x5 + 1)) (vX4_wordToken_8 K σ f x1 x2 x3 x4 (x5 + 1))) else (ck (in32 (x1 + x4)) (if (x1 + x4) < x2 then (ck (in32 (x1 + x4)) (ck (0 ≤ (x1 + x4) ∧ (x1 + x4) < 400) (if (σ 62 (x1 + x4).toNat) = r3 then (ck (in32 (x4 + 1)) (nm (x4 + 1) (fun z9 => ck (in32 (x5 + 1)) (vX4_wordToken_8 K σ f x1 x2 x3 z9 (x5 + 1))))) else (ck (in32 (x5 + 1)) (vX4_wordToken_8 K σ f x1 x2 x3 (-1) (x5 + 1)))))) else (ck (in32 (x5 + 1)) (vX4_wordToken_8 K σ f x1 x2 x3 (-1) (x5 + 1)))))))) else (some 257))
set_option maxRecDepth 100000 in
set_option maxHeartbeats 4000000 in
theorem tX4_wordToken_8 {Γ : Gx} {K : Kt} (hC : cLay K) (σ : Sg) : ∀ (f : Nat) (x1 : Int) (x2 : Int) (x3 : Int) (x4 : Int) (x5 : Int), Y Γ MX4_wordToken K (emI K σ) K 8 [some (aR 63), some (aI x1), some (aI x2), some (aI x3), some (aI x4), some (aI x5), none] [] σ (vX4_wordToken_8 K σ f x1 x2 x3 x4 x5) := by
  intro f
  induction f with
  | zero => intro x1 x2 x3 x4 x5; exact y_none
  | succ f ih =>
    intro x1 x2 x3 x4 x5
    rw [vX4_wordToken_8]
    refine y_iload dX4_wordToken_8 rfl ?_
    refine y_ldcS rfl dX4_wordToken_10 ?_
    refine y_cTI (qJ0_length σ) ctX4_88 rfl rfl (by decide) rfl (Nat.le_of_ble_eq_true rfl) dX4_wordToken_12 (fun r1 => ?_)
    refine y_ite (fun h2 => ?_) (fun h2 => ?_)
    · refine y_icmp_ge_f dX4_wordToken_15 (t := 104) rfl h2 ?_
      refine y_ldcS rfl dX4_wordToken_18 ?_
      refine y_iload dX4_wordToken_20 rfl ?_
      refine y_cTI (qJ0_charAt x5 σ) ctX4_94 rfl rfl (by decide) rfl (Nat.le_of_ble_eq_true rfl) dX4_wordToken_22 (fun r3 => ?_)
      refine y_istore dX4_wordToken_25 (Nat.le_of_ble_eq_true rfl) (L' := [some (aR 63), some (aI x1), some (aI x2), some (aI x3), some (aI x4), some (aI x5), some (aI r3)]) rfl ?_
      refine y_iload dX4_wordToken_27 rfl ?_
      refine y_bipush dX4_wordToken_29 (by decide) (by decide) ?_
      refine y_ite (fun h4 => ?_) (fun h4 => ?_)
      · refine y_icmp_ne_f dX4_wordToken_31 (t := 57) rfl h4 ?_
        refine y_iload dX4_wordToken_34 rfl ?_
        refine y_iload_n dX4_wordToken_36 rfl rfl ?_
        refine y_iload_n dX4_wordToken_37 rfl rfl ?_
        refine yk_isub dX4_wordToken_38 ?_
        refine y_ite (fun h5 => ?_) (fun h5 => ?_)
        · refine y_icmp_ne_f dX4_wordToken_39 (t := 48) rfl h5 ?_
          refine y_sipush dX4_wordToken_42 (by decide) (by decide) ?_
          refine y_iload_n dX4_wordToken_45 rfl rfl ?_
          refine yk_iadd dX4_wordToken_46 ?_
          exact y_iret rfl rfl dX4_wordToken_47
        · refine y_icmp_ne_t dX4_wordToken_39 (t := 48) rfl h5 ?_
          refine yk_iinc dX4_wordToken_48 rfl (L' := [some (aR 63), some (aI x1), some (aI x2), some (aI (x3 + 1)), some (aI x4), some (aI x5), some (aI r3)]) rfl ?_
          refine y_iconst dX4_wordToken_51 (by decide) ?_
          refine y_istore dX4_wordToken_52 (Nat.le_of_ble_eq_true rfl) (L' := [some (aR 63), some (aI x1), some (aI x2), some (aI (x3 + 1)), some (aI 0), some (aI x5), some (aI r3)]) rfl ?_
          refine y_goto dX4_wordToken_54 (t := 98) rfl ?_
          refine yk_iinc dX4_wordToken_98 rfl (L' := [some (aR 63), some (aI x1), some (aI x2), some (aI (x3 + 1)), some (aI 0), some (aI (x5 + 1)), some (aI r3)]) rfl ?_
          refine y_goto dX4_wordToken_101 (t := 8) rfl ?_
          refine y_fg [true, true, true, true, true, true, false] (L' := [some (aR 63), some (aI x1), some (aI x2), some (aI (x3 + 1)), some (aI 0), some (aI (x5 + 1)), none]) rfl ?_
          exact ih x1 x2 (x3 + 1) 0 (x5 + 1)
      · refine y_icmp_ne_t dX4_wordToken_31 (t := 57) rfl h4 ?_
        refine y_iload dX4_wordToken_57 rfl ?_
        refine y_iconst dX4_wordToken_59 (by decide) ?_
        refine y_ite (fun h6 => ?_) (fun h6 => ?_)
        · refine y_icmp_eq_t dX4_wordToken_60 (t := 98) rfl h6 ?_
          refine yk_iinc dX4_wordToken_98 rfl (L' := [some (aR 63), some (aI x1), some (aI x2), some (aI x3), some (aI x4), some (aI (x5 + 1)), some (aI r3)]) rfl ?_
          refine y_goto dX4_wordToken_101 (t := 8) rfl ?_
          refine y_fg [true, true, true, true, true, true, false] (L' := [some (aR 63), some (aI x1), some (aI x2), some (aI x3), some (aI x4), some (aI (x5 + 1)), none]) rfl ?_
          exact ih x1 x2 x3 x4 (x5 + 1)
        · refine y_icmp_eq_f dX4_wordToken_60 (t := 98) rfl h6 ?_
          refine y_iload_n dX4_wordToken_63 rfl rfl ?_
          refine y_iload dX4_wordToken_64 rfl ?_
          refine yk_iadd dX4_wordToken_66 ?_
          refine y_iload_n dX4_wordToken_67 rfl rfl ?_
          refine y_ite (fun h7 => ?_) (fun h7 => ?_)
          · refine y_icmp_ge_f dX4_wordToken_68 (t := 95) rfl h7 ?_
            refine y_aload_n dX4_wordToken_71 rfl rfl ?_
            refine y_getR fX4_41 (lcO_63 hC) rfl (lcR_63_0 hC) dX4_wordToken_72 ?_
            refine y_getR fX4_70 (lcO_61 hC) rfl (lcR_61_0 hC) dX4_wordToken_75 ?_
            refine y_iload_n dX4_wordToken_78 rfl rfl ?_
            refine y_iload dX4_wordToken_79 rfl ?_
            refine yk_iadd dX4_wordToken_81 ?_
            refine yk_iaload (lcA_62 hC) (N := 400) rfl (j := (x1 + x4).toNat) rfl dX4_wordToken_82 ?_
            refine y_iload dX4_wordToken_83 rfl ?_
            refine y_ite (fun h8 => ?_) (fun h8 => ?_)
            · refine y_icmp_ne_f dX4_wordToken_85 (t := 95) rfl h8 ?_
              refine y_iload dX4_wordToken_88 rfl ?_
              refine y_iconst dX4_wordToken_90 (by decide) ?_
              refine yk_iadd dX4_wordToken_91 ?_
              refine y_goto dX4_wordToken_92 (t := 96) rfl ?_
              refine yn_istore dX4_wordToken_96 (Nat.le_of_ble_eq_true rfl) (L' := fun z9 => [some (aR 63), some (aI x1), some (aI x2), some (aI x3), some (aI z9), some (aI x5), some (aI r3)]) (fun _ => rfl) (fun z9 => ?_)
              refine yk_iinc dX4_wordToken_98 rfl (L' := [some (aR 63), some (aI x1), some (aI x2), some (aI x3), some (aI z9), some (aI (x5 + 1)), some (aI r3)]) rfl ?_
              refine y_goto dX4_wordToken_101 (t := 8) rfl ?_
              refine y_fg [true, true, true, true, true, true, false] (L' := [some (aR 63), some (aI x1), some (aI x2), some (aI x3), some (aI z9), some (aI (x5 + 1)), none]) rfl ?_
              exact ih x1 x2 x3 z9 (x5 + 1)
            · refine y_icmp_ne_t dX4_wordToken_85 (t := 95) rfl h8 ?_
              refine y_iconst dX4_wordToken_95 (by decide) ?_
              refine y_istore dX4_wordToken_96 (Nat.le_of_ble_eq_true rfl) (L' := [some (aR 63), some (aI x1), some (aI x2), some (aI x3), some (aI (-1)), some (aI x5), some (aI r3)]) rfl ?_
              refine yk_iinc dX4_wordToken_98 rfl (L' := [some (aR 63), some (aI x1), some (aI x2), some (aI x3), some (aI (-1)), some (aI (x5 + 1)), some (aI r3)]) rfl ?_
              refine y_goto dX4_wordToken_101 (t := 8) rfl ?_
              refine y_fg [true, true, true, true, true, true, false] (L' := [some (aR 63), some (aI x1), some (aI x2), some (aI x3), some (aI (-1)), some (aI (x5 + 1)), none]) rfl ?_
              exact ih x1 x2 x3 (-1) (x5 + 1)
          · refine y_icmp_ge_t dX4_wordToken_68 (t := 95) rfl h7 ?_
            refine y_iconst dX4_wordToken_95 (by decide) ?_
            refine y_istore dX4_wordToken_96 (Nat.le_of_ble_eq_true rfl) (L' := [some (aR 63), some (aI x1), some (aI x2), some (aI x3), some (aI (-1)), some (aI x5), some (aI r3)]) rfl ?_
            refine yk_iinc dX4_wordToken_98 rfl (L' := [some (aR 63), some (aI x1), some (aI x2), some (aI x3), some (aI (-1)), some (aI (x5 + 1)), some (aI r3)]) rfl ?_
            refine y_goto dX4_wordToken_101 (t := 8) rfl ?_
            refine y_fg [true, true, true, true, true, true, false] (L' := [some (aR 63), some (aI x1), some (aI x2), some (aI x3), some (aI (-1)), some (aI (x5 + 1)), none]) rfl ?_
            exact ih x1 x2 x3 (-1) (x5 + 1)
    · refine y_icmp_ge_t dX4_wordToken_15 (t := 104) rfl h2 ?_
      refine y_sipush dX4_wordToken_104 (by decide) (by decide) ?_
      exact y_iret rfl rfl dX4_wordToken_107
noncomputable def vX4_wordToken (K : Kt) (p1 : Int) (p2 : Int) (σ : Sg) : Option (Int) := vX4_wordToken_8 K σ FU p1 p2 0 0 0
set_option maxRecDepth 100000 in
set_option maxHeartbeats 4000000 in
theorem tX4_wordToken {Γ : Gx} {K : Kt} (hC : cLay K) (p1 : Int) (p2 : Int) (σ : Sg) : Y Γ MX4_wordToken K (emI K σ) K 0 [some (aR 63), some (aI p1), some (aI p2), none, none, none, none] [] σ (vX4_wordToken K p1 p2 σ) := by
  unfold vX4_wordToken
  refine y_iconst dX4_wordToken_0 (by decide) ?_
  refine y_istore_n dX4_wordToken_1 rfl (Nat.le_of_ble_eq_true rfl) (L' := [some (aR 63), some (aI p1), some (aI p2), some (aI 0), none, none, none]) rfl ?_
  refine y_iconst dX4_wordToken_2 (by decide) ?_
  refine y_istore dX4_wordToken_3 (Nat.le_of_ble_eq_true rfl) (L' := [some (aR 63), some (aI p1), some (aI p2), some (aI 0), some (aI 0), none, none]) rfl ?_
  refine y_iconst dX4_wordToken_5 (by decide) ?_
  refine y_istore dX4_wordToken_6 (Nat.le_of_ble_eq_true rfl) (L' := [some (aR 63), some (aI p1), some (aI p2), some (aI 0), some (aI 0), some (aI 0), none]) rfl ?_
  exact tX4_wordToken_8 hC σ FU p1 p2 0 0 0
theorem qX4_wordToken {K : Kt} (hC : cLay K) (p1 : Int) (p2 : Int) (σ : Sg) : Cc MX4_wordToken K [aR 63, aI p1, aI p2] σ (emI K σ) (vX4_wordToken K p1 p2 σ) := cc_of plX4 (Nat.le_of_ble_eq_true rfl) (fun o _ => ⟨Nat.le_refl _, Nat.le_refl _⟩) (fun Γ => tX4_wordToken hC p1 p2 σ)
noncomputable def vX4_numberToken_5 (K : Kt) (σ : Sg) : Nat → Int → Int → Int → Option (Int)
  | 0, _, _, _ => none
  | f + 1, x2, x3, x4 => if x4 < x2 then (ck (in32 (x3 * 10)) (ck (0 ≤ x4 ∧ x4 < 400) (ck (in32 ((x3 * 10) + (σ 62 x4.toNat))) (ck (in32 (((x3 * 10) + (σ 62 x4.toNat)) - 48)) (nm (imin 1001 (((x3 * 10) + (σ 62 x4.toNat)) - 48)) (fun z2 => ck (in32 (x4 + 1)) (vX4_numberToken_5 K σ f x2 z2 (x4 + 1)))))))) else (ck (in32 (1000 + x3)) (some (1000 + x3)))
set_option maxRecDepth 100000 in
set_option maxHeartbeats 4000000 in
theorem tX4_numberToken_5 {Γ : Gx} {K : Kt} (hC : cLay K) (σ : Sg) : ∀ (f : Nat) (x2 : Int) (x3 : Int) (x4 : Int), Y Γ MX4_numberToken K (emI K σ) K 5 [some (aR 63), none, some (aI x2), some (aI x3), some (aI x4)] [] σ (vX4_numberToken_5 K σ f x2 x3 x4) := by
  intro f
  induction f with
  | zero => intro x2 x3 x4; exact y_none
  | succ f ih =>
    intro x2 x3 x4
    rw [vX4_numberToken_5]
    refine y_iload dX4_numberToken_5 rfl ?_
    refine y_iload_n dX4_numberToken_7 rfl rfl ?_
    refine y_ite (fun h1 => ?_) (fun h1 => ?_)
    · refine y_icmp_ge_f dX4_numberToken_8 (t := 42) rfl h1 ?_
      refine y_sipush dX4_numberToken_11 (by decide) (by decide) ?_
      refine y_iload_n dX4_numberToken_14 rfl rfl ?_
      refine y_bipush dX4_numberToken_15 (by decide) (by decide) ?_
      refine yk_imul dX4_numberToken_17 ?_
      refine y_aload_n dX4_numberToken_18 rfl rfl ?_
      refine y_getR fX4_41 (lcO_63 hC) rfl (lcR_63_0 hC) dX4_numberToken_19 ?_
      refine y_getR fX4_70 (lcO_61 hC) rfl (lcR_61_0 hC) dX4_numberToken_22 ?_
      refine y_iload dX4_numberToken_25 rfl ?_
      refine yk_iaload (lcA_62 hC) (N := 400) rfl (j := x4.toNat) rfl dX4_numberToken_27 ?_
      refine yk_iadd dX4_numberToken_28 ?_
      refine y_bipush dX4_numberToken_29 (by decide) (by decide) ?_
      refine yk_isub dX4_numberToken_31 ?_
      refine y_imin mX4_98 (by decide) (Nat.le_of_ble_eq_true rfl) dX4_numberToken_32 ?_
      refine yn_istore_n dX4_numberToken_35 rfl (Nat.le_of_ble_eq_true rfl) (L' := fun z2 => [some (aR 63), none, some (aI x2), some (aI z2), some (aI x4)]) (fun _ => rfl) (fun z2 => ?_)
      refine yk_iinc dX4_numberToken_36 rfl (L' := [some (aR 63), none, some (aI x2), some (aI z2), some (aI (x4 + 1))]) rfl ?_
      refine y_goto dX4_numberToken_39 (t := 5) rfl ?_
      exact ih x2 z2 (x4 + 1)
    · refine y_icmp_ge_t dX4_numberToken_8 (t := 42) rfl h1 ?_
      refine y_sipush dX4_numberToken_42 (by decide) (by decide) ?_
      refine y_iload_n dX4_numberToken_45 rfl rfl ?_
      refine yk_iadd dX4_numberToken_46 ?_
      exact y_iret rfl rfl dX4_numberToken_47
noncomputable def vX4_numberToken (K : Kt) (p1 : Int) (p2 : Int) (σ : Sg) : Option (Int) := vX4_numberToken_5 K σ FU p2 0 p1
set_option maxRecDepth 100000 in
set_option maxHeartbeats 4000000 in
theorem tX4_numberToken {Γ : Gx} {K : Kt} (hC : cLay K) (p1 : Int) (p2 : Int) (σ : Sg) : Y Γ MX4_numberToken K (emI K σ) K 0 [some (aR 63), some (aI p1), some (aI p2), none, none] [] σ (vX4_numberToken K p1 p2 σ) := by
  unfold vX4_numberToken
  refine y_iconst dX4_numberToken_0 (by decide) ?_
  refine y_istore_n dX4_numberToken_1 rfl (Nat.le_of_ble_eq_true rfl) (L' := [some (aR 63), some (aI p1), some (aI p2), some (aI 0), none]) rfl ?_
  refine y_iload_n dX4_numberToken_2 rfl rfl ?_
  refine y_istore dX4_numberToken_3 (Nat.le_of_ble_eq_true rfl) (L' := [some (aR 63), some (aI p1), some (aI p2), some (aI 0), some (aI p1)]) rfl ?_
  refine y_fg [true, false, true, true, true] (L' := [some (aR 63), none, some (aI p2), some (aI 0), some (aI p1)]) rfl ?_
  exact tX4_numberToken_5 hC σ FU p2 0 p1
theorem qX4_numberToken {K : Kt} (hC : cLay K) (p1 : Int) (p2 : Int) (σ : Sg) : Cc MX4_numberToken K [aR 63, aI p1, aI p2] σ (emI K σ) (vX4_numberToken K p1 p2 σ) := cc_of plX4 (Nat.le_of_ble_eq_true rfl) (fun o _ => ⟨Nat.le_refl _, Nat.le_refl _⟩) (fun Γ => tX4_numberToken hC p1 p2 σ)
noncomputable def vX4_split_84 (K : Kt) (rec_4 : Int → Int → Sg → Option (Sg)) (x1 : Int) (x2 : Int) (x3 : Int) (σ : Sg) : Option (Sg) := (vX4_wordToken K x2 x3 σ).bind (fun r1 => ck (0 ≤ x1 ∧ x1 < 401) (nm (up2 σ 71 x1.toNat r1) (fun σ2 => ck (in32 (x1 + 1)) (rec_4 (x1 + 1) x3 σ2))))
set_option maxRecDepth 100000 in
set_option maxHeartbeats 4000000 in
theorem tX4_split_84 {Γ : Gx} {K : Kt} (hC : cLay K) (rec_4 : Int → Int → Sg → Option (Sg)) (hrec_4 : ∀ (x1 : Int) (x2 : Int) (σ : Sg), Y Γ MX4_split K (emV K) K 4 [some (aR 63), some (aI x1), some (aI x2), none, none] [] σ (rec_4 x1 x2 σ)) (x1 : Int) (x2 : Int) (x3 : Int) (σ : Sg) : Y Γ MX4_split K (emV K) K 84 [some (aR 63), some (aI x1), some (aI x2), some (aI x3), none] [] σ (vX4_split_84 K rec_4 x1 x2 x3 σ) := by
  unfold vX4_split_84
  refine y_aload_n dX4_split_84 rfl rfl ?_
  refine y_getR fX4_24 (lcO_63 hC) rfl (lcR_63_3 hC) dX4_split_85 ?_
  refine y_iload_n dX4_split_88 rfl rfl ?_
  refine y_aload_n dX4_split_89 rfl rfl ?_
  refine y_iload_n dX4_split_90 rfl rfl ?_
  refine y_iload_n dX4_split_91 rfl rfl ?_
  refine y_cvI (qX4_wordToken hC x2 x3 σ) kX4_76 rfl (lcO_63 hC) rfl (by decide) rfl (Nat.le_of_ble_eq_true rfl) dX4_split_92 (fun r1 => ?_)
  refine yk_iastore (lcA_71 hC) (N := 401) rfl (j := x1.toNat) rfl dX4_split_95 (fun σ2 => ?_)
  refine y_goto dX4_split_96 (t := 162) rfl ?_
  refine yk_iinc dX4_split_162 rfl (L' := [some (aR 63), some (aI (x1 + 1)), some (aI x2), some (aI x3), none]) rfl ?_
  refine y_iload_n dX4_split_165 rfl rfl ?_
  refine y_istore_n dX4_split_166 rfl (Nat.le_of_ble_eq_true rfl) (L' := [some (aR 63), some (aI (x1 + 1)), some (aI x3), some (aI x3), none]) rfl ?_
  refine y_goto dX4_split_167 (t := 4) rfl ?_
  refine y_fg [true, true, true, false, false] (L' := [some (aR 63), some (aI (x1 + 1)), some (aI x3), none, none]) rfl ?_
  exact hrec_4 (x1 + 1) x3 σ2
noncomputable def vX4_split_52 (K : Kt) (rec_4 : Int → Int → Sg → Option (Sg)) : Nat → Int → Int → Int → Sg → Option (Sg)
  | 0, _, _, _, _ => none
  | f + 1, x1, x2, x3, σ => if x3 < (σ 61 1) then (ck (0 ≤ x3 ∧ x3 < 400) ((vX4_isLetter (σ 62 x3.toNat) σ).bind (fun r2 => if r2 = 0 then (vX4_split_84 K rec_4 x1 x2 x3 σ) else (ck (in32 (x3 + 1)) (vX4_split_52 K rec_4 f x1 x2 (x3 + 1) σ))))) else (vX4_split_84 K rec_4 x1 x2 x3 σ)
set_option maxRecDepth 100000 in
set_option maxHeartbeats 4000000 in
theorem tX4_split_52 {Γ : Gx} {K : Kt} (hC : cLay K) (rec_4 : Int → Int → Sg → Option (Sg)) (hrec_4 : ∀ (x1 : Int) (x2 : Int) (σ : Sg), Y Γ MX4_split K (emV K) K 4 [some (aR 63), some (aI x1), some (aI x2), none, none] [] σ (rec_4 x1 x2 σ)) : ∀ (f : Nat) (x1 : Int) (x2 : Int) (x3 : Int) (σ : Sg), Y Γ MX4_split K (emV K) K 52 [some (aR 63), some (aI x1), some (aI x2), some (aI x3), none] [] σ (vX4_split_52 K rec_4 f x1 x2 x3 σ) := by
  intro f
  induction f with
  | zero => intro x1 x2 x3 σ; exact y_none
  | succ f ih =>
    intro x1 x2 x3 σ
    rw [vX4_split_52]
    refine y_iload_n dX4_split_52 rfl rfl ?_
    refine y_aload_n dX4_split_53 rfl rfl ?_
    refine y_getR fX4_41 (lcO_63 hC) rfl (lcR_63_0 hC) dX4_split_54 ?_
    refine y_getI fX4_65 (lcO_61 hC) rfl dX4_split_57 ?_
    refine y_ite (fun h1 => ?_) (fun h1 => ?_)
    · refine y_icmp_ge_f dX4_split_60 (t := 84) rfl h1 ?_
      refine y_aload_n dX4_split_63 rfl rfl ?_
      refine y_getR fX4_41 (lcO_63 hC) rfl (lcR_63_0 hC) dX4_split_64 ?_
      refine y_getR fX4_70 (lcO_61 hC) rfl (lcR_61_0 hC) dX4_split_67 ?_
      refine y_iload_n dX4_split_70 rfl rfl ?_
      refine yk_iaload (lcA_62 hC) (N := 400) rfl (j := x3.toNat) rfl dX4_split_71 ?_
      refine y_csI (qX4_isLetter (K := K) (σ 62 x3.toNat) σ) kX4_73 rfl (by decide) rfl (Nat.le_of_ble_eq_true rfl) dX4_split_72 (fun r2 => ?_)
      refine y_ite (fun h3 => ?_) (fun h3 => ?_)
      · refine y_if_eq_t dX4_split_75 (t := 84) rfl h3 ?_
        exact tX4_split_84 hC rec_4 hrec_4 x1 x2 x3 σ
      · refine y_if_eq_f dX4_split_75 (t := 84) rfl h3 ?_
        refine yk_iinc dX4_split_78 rfl (L' := [some (aR 63), some (aI x1), some (aI x2), some (aI (x3 + 1)), none]) rfl ?_
        refine y_goto dX4_split_81 (t := 52) rfl ?_
        exact ih x1 x2 (x3 + 1) σ
    · refine y_icmp_ge_t dX4_split_60 (t := 84) rfl h1 ?_
      exact tX4_split_84 hC rec_4 hrec_4 x1 x2 x3 σ
noncomputable def vX4_split_139 (K : Kt) (rec_4 : Int → Int → Sg → Option (Sg)) (x1 : Int) (x2 : Int) (x3 : Int) (σ : Sg) : Option (Sg) := (vX4_numberToken K x2 x3 σ).bind (fun r1 => ck (0 ≤ x1 ∧ x1 < 401) (nm (up2 σ 71 x1.toNat r1) (fun σ2 => ck (in32 (x1 + 1)) (rec_4 (x1 + 1) x3 σ2))))
set_option maxRecDepth 100000 in
set_option maxHeartbeats 4000000 in
theorem tX4_split_139 {Γ : Gx} {K : Kt} (hC : cLay K) (rec_4 : Int → Int → Sg → Option (Sg)) (hrec_4 : ∀ (x1 : Int) (x2 : Int) (σ : Sg), Y Γ MX4_split K (emV K) K 4 [some (aR 63), some (aI x1), some (aI x2), none, none] [] σ (rec_4 x1 x2 σ)) (x1 : Int) (x2 : Int) (x3 : Int) (σ : Sg) : Y Γ MX4_split K (emV K) K 139 [some (aR 63), some (aI x1), some (aI x2), some (aI x3), none] [] σ (vX4_split_139 K rec_4 x1 x2 x3 σ) := by
  unfold vX4_split_139
  refine y_aload_n dX4_split_139 rfl rfl ?_
  refine y_getR fX4_24 (lcO_63 hC) rfl (lcR_63_3 hC) dX4_split_140 ?_
  refine y_iload_n dX4_split_143 rfl rfl ?_
  refine y_aload_n dX4_split_144 rfl rfl ?_
  refine y_iload_n dX4_split_145 rfl rfl ?_
  refine y_iload_n dX4_split_146 rfl rfl ?_
  refine y_cvI (qX4_numberToken hC x2 x3 σ) kX4_83 rfl (lcO_63 hC) rfl (by decide) rfl (Nat.le_of_ble_eq_true rfl) dX4_split_147 (fun r1 => ?_)
  refine yk_iastore (lcA_71 hC) (N := 401) rfl (j := x1.toNat) rfl dX4_split_150 (fun σ2 => ?_)
  refine y_goto dX4_split_151 (t := 162) rfl ?_
  refine yk_iinc dX4_split_162 rfl (L' := [some (aR 63), some (aI (x1 + 1)), some (aI x2), some (aI x3), none]) rfl ?_
  refine y_iload_n dX4_split_165 rfl rfl ?_
  refine y_istore_n dX4_split_166 rfl (Nat.le_of_ble_eq_true rfl) (L' := [some (aR 63), some (aI (x1 + 1)), some (aI x3), some (aI x3), none]) rfl ?_
  refine y_goto dX4_split_167 (t := 4) rfl ?_
  refine y_fg [true, true, true, false, false] (L' := [some (aR 63), some (aI (x1 + 1)), some (aI x3), none, none]) rfl ?_
  exact hrec_4 (x1 + 1) x3 σ2
noncomputable def vX4_split_107 (K : Kt) (rec_4 : Int → Int → Sg → Option (Sg)) : Nat → Int → Int → Int → Sg → Option (Sg)
  | 0, _, _, _, _ => none
  | f + 1, x1, x2, x3, σ => if x3 < (σ 61 1) then (ck (0 ≤ x3 ∧ x3 < 400) ((vX4_isDigit (σ 62 x3.toNat) σ).bind (fun r2 => if r2 = 0 then (vX4_split_139 K rec_4 x1 x2 x3 σ) else (ck (in32 (x3 + 1)) (vX4_split_107 K rec_4 f x1 x2 (x3 + 1) σ))))) else (vX4_split_139 K rec_4 x1 x2 x3 σ)
set_option maxRecDepth 100000 in
set_option maxHeartbeats 4000000 in
theorem tX4_split_107 {Γ : Gx} {K : Kt} (hC : cLay K) (rec_4 : Int → Int → Sg → Option (Sg)) (hrec_4 : ∀ (x1 : Int) (x2 : Int) (σ : Sg), Y Γ MX4_split K (emV K) K 4 [some (aR 63), some (aI x1), some (aI x2), none, none] [] σ (rec_4 x1 x2 σ)) : ∀ (f : Nat) (x1 : Int) (x2 : Int) (x3 : Int) (σ : Sg), Y Γ MX4_split K (emV K) K 107 [some (aR 63), some (aI x1), some (aI x2), some (aI x3), none] [] σ (vX4_split_107 K rec_4 f x1 x2 x3 σ) := by
  intro f
  induction f with
  | zero => intro x1 x2 x3 σ; exact y_none
  | succ f ih =>
    intro x1 x2 x3 σ
    rw [vX4_split_107]
    refine y_iload_n dX4_split_107 rfl rfl ?_
    refine y_aload_n dX4_split_108 rfl rfl ?_
    refine y_getR fX4_41 (lcO_63 hC) rfl (lcR_63_0 hC) dX4_split_109 ?_
    refine y_getI fX4_65 (lcO_61 hC) rfl dX4_split_112 ?_
    refine y_ite (fun h1 => ?_) (fun h1 => ?_)
    · refine y_icmp_ge_f dX4_split_115 (t := 139) rfl h1 ?_
      refine y_aload_n dX4_split_118 rfl rfl ?_
      refine y_getR fX4_41 (lcO_63 hC) rfl (lcR_63_0 hC) dX4_split_119 ?_
      refine y_getR fX4_70 (lcO_61 hC) rfl (lcR_61_0 hC) dX4_split_122 ?_
      refine y_iload_n dX4_split_125 rfl rfl ?_
      refine yk_iaload (lcA_62 hC) (N := 400) rfl (j := x3.toNat) rfl dX4_split_126 ?_
      refine y_csI (qX4_isDigit (K := K) (σ 62 x3.toNat) σ) kX4_80 rfl (by decide) rfl (Nat.le_of_ble_eq_true rfl) dX4_split_127 (fun r2 => ?_)
      refine y_ite (fun h3 => ?_) (fun h3 => ?_)
      · refine y_if_eq_t dX4_split_130 (t := 139) rfl h3 ?_
        exact tX4_split_139 hC rec_4 hrec_4 x1 x2 x3 σ
      · refine y_if_eq_f dX4_split_130 (t := 139) rfl h3 ?_
        refine yk_iinc dX4_split_133 rfl (L' := [some (aR 63), some (aI x1), some (aI x2), some (aI (x3 + 1)), none]) rfl ?_
        refine y_goto dX4_split_136 (t := 107) rfl ?_
        exact ih x1 x2 (x3 + 1) σ
    · refine y_icmp_ge_t dX4_split_115 (t := 139) rfl h1 ?_
      exact tX4_split_139 hC rec_4 hrec_4 x1 x2 x3 σ
noncomputable def vX4_split_4 (K : Kt) : Nat → Int → Int → Sg → Option (Sg)
  | 0, _, _, _ => none
  | f + 1, x1, x2, σ => if x2 < (σ 61 1) then (ck (in32 (x2 + 1)) (nm (x2 + 1) (fun z2 => ck (0 ≤ x2 ∧ x2 < 400) (nm (σ 62 x2.toNat) (fun z3 => if z3 = 32 then (vX4_split_4 K f x1 z2 σ) else (ck (0 ≤ x1 ∧ x1 < 401) (nm (up2 σ 72 x1.toNat x2) (fun σ5 => (vX4_isLetter z3 σ5).bind (fun r6 => if r6 = 0 then ((vX4_isDigit z3 σ5).bind (fun r8 => if r8 = 0 then (ck (0 ≤ x1 ∧ x1 < 401) (nm (up2 σ5 71 x1.toNat z3) (fun σ10 => ck (in32 (x1 + 1)) (vX4_split_4 K f (x1 + 1) z2 σ10)))) else (vX4_split_107 K (vX4_split_4 K f) FU x1 x2 z2 σ5))) else (vX4_split_52 K (vX4_split_4 K f) FU x1 x2 z2 σ5)))))))))) else (ck (0 ≤ x1 ∧ x1 < 401) (nm (up2 σ 72 x1.toNat (σ 61 1)) (fun σ11 => ck (0 ≤ x1 ∧ x1 < 401) (nm (up2 σ11 71 x1.toNat 256) (fun σ12 => some σ12)))))
set_option maxRecDepth 100000 in
set_option maxHeartbeats 4000000 in
theorem tX4_split_4 {Γ : Gx} {K : Kt} (hC : cLay K) : ∀ (f : Nat) (x1 : Int) (x2 : Int) (σ : Sg), Y Γ MX4_split K (emV K) K 4 [some (aR 63), some (aI x1), some (aI x2), none, none] [] σ (vX4_split_4 K f x1 x2 σ) := by
  intro f
  induction f with
  | zero => intro x1 x2 σ; exact y_none
  | succ f ih =>
    intro x1 x2 σ
    rw [vX4_split_4]
    refine y_iload_n dX4_split_4 rfl rfl ?_
    refine y_aload_n dX4_split_5 rfl rfl ?_
    refine y_getR fX4_41 (lcO_63 hC) rfl (lcR_63_0 hC) dX4_split_6 ?_
    refine y_getI fX4_65 (lcO_61 hC) rfl dX4_split_9 ?_
    refine y_ite (fun h1 => ?_) (fun h1 => ?_)
    · refine y_icmp_ge_f dX4_split_12 (t := 170) rfl h1 ?_
      refine y_iload_n dX4_split_15 rfl rfl ?_
      refine y_iconst dX4_split_16 (by decide) ?_
      refine yk_iadd dX4_split_17 ?_
      refine yn_istore_n dX4_split_18 rfl (Nat.le_of_ble_eq_true rfl) (L' := fun z2 => [some (aR 63), some (aI x1), some (aI x2), some (aI z2), none]) (fun _ => rfl) (fun z2 => ?_)
      refine y_aload_n dX4_split_19 rfl rfl ?_
      refine y_getR fX4_41 (lcO_63 hC) rfl (lcR_63_0 hC) dX4_split_20 ?_
      refine y_getR fX4_70 (lcO_61 hC) rfl (lcR_61_0 hC) dX4_split_23 ?_
      refine y_iload_n dX4_split_26 rfl rfl ?_
      refine yk_iaload (lcA_62 hC) (N := 400) rfl (j := x2.toNat) rfl dX4_split_27 ?_
      refine yn_istore dX4_split_28 (Nat.le_of_ble_eq_true rfl) (L' := fun z3 => [some (aR 63), some (aI x1), some (aI x2), some (aI z2), some (aI z3)]) (fun _ => rfl) (fun z3 => ?_)
      refine y_iload dX4_split_30 rfl ?_
      refine y_bipush dX4_split_32 (by decide) (by decide) ?_
      refine y_ite (fun h4 => ?_) (fun h4 => ?_)
      · refine y_icmp_eq_t dX4_split_34 (t := 165) rfl h4 ?_
        refine y_iload_n dX4_split_165 rfl rfl ?_
        refine y_istore_n dX4_split_166 rfl (Nat.le_of_ble_eq_true rfl) (L' := [some (aR 63), some (aI x1), some (aI z2), some (aI z2), some (aI z3)]) rfl ?_
        refine y_goto dX4_split_167 (t := 4) rfl ?_
        refine y_fg [true, true, true, false, false] (L' := [some (aR 63), some (aI x1), some (aI z2), none, none]) rfl ?_
        exact ih x1 z2 σ
      · refine y_icmp_eq_f dX4_split_34 (t := 165) rfl h4 ?_
        refine y_aload_n dX4_split_37 rfl rfl ?_
        refine y_getR fX4_28 (lcO_63 hC) rfl (lcR_63_4 hC) dX4_split_38 ?_
        refine y_iload_n dX4_split_41 rfl rfl ?_
        refine y_iload_n dX4_split_42 rfl rfl ?_
        refine yk_iastore (lcA_72 hC) (N := 401) rfl (j := x1.toNat) rfl dX4_split_43 (fun σ5 => ?_)
        refine y_iload dX4_split_44 rfl ?_
        refine y_csI (qX4_isLetter (K := K) z3 σ5) kX4_73 rfl (by decide) rfl (Nat.le_of_ble_eq_true rfl) dX4_split_46 (fun r6 => ?_)
        refine y_ite (fun h7 => ?_) (fun h7 => ?_)
        · refine y_if_eq_t dX4_split_49 (t := 99) rfl h7 ?_
          refine y_iload dX4_split_99 rfl ?_
          refine y_csI (qX4_isDigit (K := K) z3 σ5) kX4_80 rfl (by decide) rfl (Nat.le_of_ble_eq_true rfl) dX4_split_101 (fun r8 => ?_)
          refine y_ite (fun h9 => ?_) (fun h9 => ?_)
          · refine y_if_eq_t dX4_split_104 (t := 154) rfl h9 ?_
            refine y_aload_n dX4_split_154 rfl rfl ?_
            refine y_getR fX4_24 (lcO_63 hC) rfl (lcR_63_3 hC) dX4_split_155 ?_
            refine y_iload_n dX4_split_158 rfl rfl ?_
            refine y_iload dX4_split_159 rfl ?_
            refine yk_iastore (lcA_71 hC) (N := 401) rfl (j := x1.toNat) rfl dX4_split_161 (fun σ10 => ?_)
            refine yk_iinc dX4_split_162 rfl (L' := [some (aR 63), some (aI (x1 + 1)), some (aI x2), some (aI z2), some (aI z3)]) rfl ?_
            refine y_iload_n dX4_split_165 rfl rfl ?_
            refine y_istore_n dX4_split_166 rfl (Nat.le_of_ble_eq_true rfl) (L' := [some (aR 63), some (aI (x1 + 1)), some (aI z2), some (aI z2), some (aI z3)]) rfl ?_
            refine y_goto dX4_split_167 (t := 4) rfl ?_
            refine y_fg [true, true, true, false, false] (L' := [some (aR 63), some (aI (x1 + 1)), some (aI z2), none, none]) rfl ?_
            exact ih (x1 + 1) z2 σ10
          · refine y_if_eq_f dX4_split_104 (t := 154) rfl h9 ?_
            refine y_fg [true, true, true, true, false] (L' := [some (aR 63), some (aI x1), some (aI x2), some (aI z2), none]) rfl ?_
            exact tX4_split_107 hC (vX4_split_4 K f) ih FU x1 x2 z2 σ5
        · refine y_if_eq_f dX4_split_49 (t := 99) rfl h7 ?_
          refine y_fg [true, true, true, true, false] (L' := [some (aR 63), some (aI x1), some (aI x2), some (aI z2), none]) rfl ?_
          exact tX4_split_52 hC (vX4_split_4 K f) ih FU x1 x2 z2 σ5
    · refine y_icmp_ge_t dX4_split_12 (t := 170) rfl h1 ?_
      refine y_aload_n dX4_split_170 rfl rfl ?_
      refine y_getR fX4_28 (lcO_63 hC) rfl (lcR_63_4 hC) dX4_split_171 ?_
      refine y_iload_n dX4_split_174 rfl rfl ?_
      refine y_aload_n dX4_split_175 rfl rfl ?_
      refine y_getR fX4_41 (lcO_63 hC) rfl (lcR_63_0 hC) dX4_split_176 ?_
      refine y_getI fX4_65 (lcO_61 hC) rfl dX4_split_179 ?_
      refine yk_iastore (lcA_72 hC) (N := 401) rfl (j := x1.toNat) rfl dX4_split_182 (fun σ11 => ?_)
      refine y_aload_n dX4_split_183 rfl rfl ?_
      refine y_getR fX4_24 (lcO_63 hC) rfl (lcR_63_3 hC) dX4_split_184 ?_
      refine y_iload_n dX4_split_187 rfl rfl ?_
      refine y_sipush dX4_split_188 (by decide) (by decide) ?_
      refine yk_iastore (lcA_71 hC) (N := 401) rfl (j := x1.toNat) rfl dX4_split_191 (fun σ12 => ?_)
      exact y_vret rfl rfl dX4_split_192
noncomputable def vX4_split (K : Kt) (σ : Sg) : Option (Sg) := vX4_split_4 K FU 0 0 σ
set_option maxRecDepth 100000 in
set_option maxHeartbeats 4000000 in
theorem tX4_split {Γ : Gx} {K : Kt} (hC : cLay K) (σ : Sg) : Y Γ MX4_split K (emV K) K 0 [some (aR 63), none, none, none, none] [] σ (vX4_split K σ) := by
  unfold vX4_split
  refine y_iconst dX4_split_0 (by decide) ?_
  refine y_istore_n dX4_split_1 rfl (Nat.le_of_ble_eq_true rfl) (L' := [some (aR 63), some (aI 0), none, none, none]) rfl ?_
  refine y_iconst dX4_split_2 (by decide) ?_
  refine y_istore_n dX4_split_3 rfl (Nat.le_of_ble_eq_true rfl) (L' := [some (aR 63), some (aI 0), some (aI 0), none, none]) rfl ?_
  exact tX4_split_4 hC FU 0 0 σ
theorem qX4_split {K : Kt} (hC : cLay K) (σ : Sg) : Cc MX4_split K [aR 63] σ (emV K) (vX4_split K σ) := cc_of plX4 (Nat.le_of_ble_eq_true rfl) (fun o _ => ⟨Nat.le_refl _, Nat.le_refl _⟩) (fun Γ => tX4_split hC σ)
noncomputable def vX4_numberHere (K : Kt) (p1 : Int) (p2 : Int) (σ : Sg) : Option (Int) := ck (0 ≤ (σ 63 6) ∧ (σ 63 6) < 401) (ck (in32 ((σ 71 (σ 63 6).toNat) - 1000)) (nm ((σ 71 (σ 63 6).toNat) - 1000) (fun z1 => if z1 < p1 then (some (-1)) else (if p2 < z1 then (some (-1)) else (some z1)))))
set_option maxRecDepth 100000 in
set_option maxHeartbeats 4000000 in
theorem tX4_numberHere {Γ : Gx} {K : Kt} (hC : cLay K) (p1 : Int) (p2 : Int) (σ : Sg) : Y Γ MX4_numberHere K (emI K σ) K 0 [some (aR 63), some (aI p1), some (aI p2), none] [] σ (vX4_numberHere K p1 p2 σ) := by
  unfold vX4_numberHere
  refine y_aload_n dX4_numberHere_0 rfl rfl ?_
  refine y_getR fX4_24 (lcO_63 hC) rfl (lcR_63_3 hC) dX4_numberHere_1 ?_
  refine y_aload_n dX4_numberHere_4 rfl rfl ?_
  refine y_getI fX4_35 (lcO_63 hC) rfl dX4_numberHere_5 ?_
  refine yk_iaload (lcA_71 hC) (N := 401) rfl (j := (σ 63 6).toNat) rfl dX4_numberHere_8 ?_
  refine y_sipush dX4_numberHere_9 (by decide) (by decide) ?_
  refine yk_isub dX4_numberHere_12 ?_
  refine yn_istore_n dX4_numberHere_13 rfl (Nat.le_of_ble_eq_true rfl) (L' := fun z1 => [some (aR 63), some (aI p1), some (aI p2), some (aI z1)]) (fun _ => rfl) (fun z1 => ?_)
  refine y_iload_n dX4_numberHere_14 rfl rfl ?_
  refine y_iload_n dX4_numberHere_15 rfl rfl ?_
  refine y_ite (fun h2 => ?_) (fun h2 => ?_)
  · refine y_icmp_lt_t dX4_numberHere_16 (t := 28) rfl h2 ?_
    refine y_iconst dX4_numberHere_28 (by decide) ?_
    exact y_iret rfl rfl dX4_numberHere_29
  · refine y_icmp_lt_f dX4_numberHere_16 (t := 28) rfl h2 ?_
    refine y_iload_n dX4_numberHere_19 rfl rfl ?_
    refine y_iload_n dX4_numberHere_20 rfl rfl ?_
    refine y_ite (fun h3 => ?_) (fun h3 => ?_)
    · refine y_icmp_gt_t dX4_numberHere_21 (t := 28) rfl h3 ?_
      refine y_iconst dX4_numberHere_28 (by decide) ?_
      exact y_iret rfl rfl dX4_numberHere_29
    · refine y_icmp_gt_f dX4_numberHere_21 (t := 28) rfl h3 ?_
      refine y_iload_n dX4_numberHere_24 rfl rfl ?_
      refine y_goto dX4_numberHere_25 (t := 29) rfl ?_
      exact y_iret rfl rfl dX4_numberHere_29
theorem qX4_numberHere {K : Kt} (hC : cLay K) (p1 : Int) (p2 : Int) (σ : Sg) : Cc MX4_numberHere K [aR 63, aI p1, aI p2] σ (emI K σ) (vX4_numberHere K p1 p2 σ) := cc_of plX4 (Nat.le_of_ble_eq_true rfl) (fun o _ => ⟨Nat.le_refl _, Nat.le_refl _⟩) (fun Γ => tX4_numberHere hC p1 p2 σ)
noncomputable def vX4_lawWord (K : Kt) (σ : Sg) : Option (Int) := ck (0 ≤ (σ 63 6) ∧ (σ 63 6) < 401) (ck (in32 ((σ 71 (σ 63 6).toNat) - 308)) (nm ((σ 71 (σ 63 6).toNat) - 308) (fun z1 => if z1 < 0 then (some (-1)) else (if z1 < 9 then (ck (in32 (2000 + z1)) (some (2000 + z1))) else (some (-1))))))
set_option maxRecDepth 100000 in
set_option maxHeartbeats 4000000 in
theorem tX4_lawWord {Γ : Gx} {K : Kt} (hC : cLay K) (σ : Sg) : Y Γ MX4_lawWord K (emI K σ) K 0 [some (aR 63), none] [] σ (vX4_lawWord K σ) := by
  unfold vX4_lawWord
  refine y_aload_n dX4_lawWord_0 rfl rfl ?_
  refine y_getR fX4_24 (lcO_63 hC) rfl (lcR_63_3 hC) dX4_lawWord_1 ?_
  refine y_aload_n dX4_lawWord_4 rfl rfl ?_
  refine y_getI fX4_35 (lcO_63 hC) rfl dX4_lawWord_5 ?_
  refine yk_iaload (lcA_71 hC) (N := 401) rfl (j := (σ 63 6).toNat) rfl dX4_lawWord_8 ?_
  refine y_sipush dX4_lawWord_9 (by decide) (by decide) ?_
  refine yk_isub dX4_lawWord_12 ?_
  refine yn_istore_n dX4_lawWord_13 rfl (Nat.le_of_ble_eq_true rfl) (L' := fun z1 => [some (aR 63), some (aI z1)]) (fun _ => rfl) (fun z1 => ?_)
  refine y_iload_n dX4_lawWord_14 rfl rfl ?_
  refine y_ite (fun h2 => ?_) (fun h2 => ?_)
  · refine y_if_lt_t dX4_lawWord_15 (t := 32) rfl h2 ?_
    refine y_iconst dX4_lawWord_32 (by decide) ?_
    exact y_iret rfl rfl dX4_lawWord_33
  · refine y_if_lt_f dX4_lawWord_15 (t := 32) rfl h2 ?_
    refine y_iload_n dX4_lawWord_18 rfl rfl ?_
    refine y_bipush dX4_lawWord_19 (by decide) (by decide) ?_
    refine y_ite (fun h3 => ?_) (fun h3 => ?_)
    · refine y_icmp_ge_f dX4_lawWord_21 (t := 32) rfl h3 ?_
      refine y_sipush dX4_lawWord_24 (by decide) (by decide) ?_
      refine y_iload_n dX4_lawWord_27 rfl rfl ?_
      refine yk_iadd dX4_lawWord_28 ?_
      refine y_goto dX4_lawWord_29 (t := 33) rfl ?_
      exact y_iret rfl rfl dX4_lawWord_33
    · refine y_icmp_ge_t dX4_lawWord_21 (t := 32) rfl h3 ?_
      refine y_iconst dX4_lawWord_32 (by decide) ?_
      exact y_iret rfl rfl dX4_lawWord_33
theorem qX4_lawWord {K : Kt} (hC : cLay K) (σ : Sg) : Cc MX4_lawWord K [aR 63] σ (emI K σ) (vX4_lawWord K σ) := cc_of plX4 (Nat.le_of_ble_eq_true rfl) (fun o _ => ⟨Nat.le_refl _, Nat.le_refl _⟩) (fun Γ => tX4_lawWord hC σ)
noncomputable def vX4_wordOfOne (K : Kt) (p1 : Int) (p2 : Int) (σ : Sg) : Option (Int × Sg) := ck (in32 ((σ 63 6) + 1)) (nm (up2 σ 63 6 ((σ 63 6) + 1)) (fun σ1 => ck (0 ≤ (σ1 63 6) ∧ (σ1 63 6) < 401) (ck (in32 ((σ1 71 (σ1 63 6).toNat) - 1000)) (nm ((σ1 71 (σ1 63 6).toNat) - 1000) (fun z2 => if z2 < 0 then (some ((-1), σ1)) else (if z2 < p2 then (ck (in32 (2000 + p1)) (ck (in32 ((2000 + p1) + z2)) (some (((2000 + p1) + z2), σ1)))) else (some ((-1), σ1))))))))
set_option maxRecDepth 100000 in
set_option maxHeartbeats 4000000 in
theorem tX4_wordOfOne {Γ : Gx} {K : Kt} (hC : cLay K) (p1 : Int) (p2 : Int) (σ : Sg) : Y Γ MX4_wordOfOne K (emIS K) K 0 [some (aR 63), some (aI p1), some (aI p2), none] [] σ (vX4_wordOfOne K p1 p2 σ) := by
  unfold vX4_wordOfOne
  refine y_aload_n dX4_wordOfOne_0 rfl rfl ?_
  refine y_dup dX4_wordOfOne_1 (fun _ => rfl) ?_
  refine y_getI fX4_35 (lcO_63 hC) rfl dX4_wordOfOne_2 ?_
  refine y_iconst dX4_wordOfOne_5 (by decide) ?_
  refine yk_iadd dX4_wordOfOne_6 ?_
  refine yn_putI fX4_35 (lcO_63 hC) rfl rfl dX4_wordOfOne_7 (fun σ1 => ?_)
  refine y_aload_n dX4_wordOfOne_10 rfl rfl ?_
  refine y_getR fX4_24 (lcO_63 hC) rfl (lcR_63_3 hC) dX4_wordOfOne_11 ?_
  refine y_aload_n dX4_wordOfOne_14 rfl rfl ?_
  refine y_getI fX4_35 (lcO_63 hC) rfl dX4_wordOfOne_15 ?_
  refine yk_iaload (lcA_71 hC) (N := 401) rfl (j := (σ1 63 6).toNat) rfl dX4_wordOfOne_18 ?_
  refine y_sipush dX4_wordOfOne_19 (by decide) (by decide) ?_
  refine yk_isub dX4_wordOfOne_22 ?_
  refine yn_istore_n dX4_wordOfOne_23 rfl (Nat.le_of_ble_eq_true rfl) (L' := fun z2 => [some (aR 63), some (aI p1), some (aI p2), some (aI z2)]) (fun _ => rfl) (fun z2 => ?_)
  refine y_iload_n dX4_wordOfOne_24 rfl rfl ?_
  refine y_ite (fun h3 => ?_) (fun h3 => ?_)
  · refine y_if_lt_t dX4_wordOfOne_25 (t := 43) rfl h3 ?_
    refine y_iconst dX4_wordOfOne_43 (by decide) ?_
    exact y_iret rfl rfl dX4_wordOfOne_44
  · refine y_if_lt_f dX4_wordOfOne_25 (t := 43) rfl h3 ?_
    refine y_iload_n dX4_wordOfOne_28 rfl rfl ?_
    refine y_iload_n dX4_wordOfOne_29 rfl rfl ?_
    refine y_ite (fun h4 => ?_) (fun h4 => ?_)
    · refine y_icmp_ge_f dX4_wordOfOne_30 (t := 43) rfl h4 ?_
      refine y_sipush dX4_wordOfOne_33 (by decide) (by decide) ?_
      refine y_iload_n dX4_wordOfOne_36 rfl rfl ?_
      refine yk_iadd dX4_wordOfOne_37 ?_
      refine y_iload_n dX4_wordOfOne_38 rfl rfl ?_
      refine yk_iadd dX4_wordOfOne_39 ?_
      refine y_goto dX4_wordOfOne_40 (t := 44) rfl ?_
      exact y_iret rfl rfl dX4_wordOfOne_44
    · refine y_icmp_ge_t dX4_wordOfOne_30 (t := 43) rfl h4 ?_
      refine y_iconst dX4_wordOfOne_43 (by decide) ?_
      exact y_iret rfl rfl dX4_wordOfOne_44
theorem qX4_wordOfOne {K : Kt} (hC : cLay K) (p1 : Int) (p2 : Int) (σ : Sg) : Cc MX4_wordOfOne K [aR 63, aI p1, aI p2] σ (emIS K) (vX4_wordOfOne K p1 p2 σ) := cc_of plX4 (Nat.le_of_ble_eq_true rfl) (fun o _ => ⟨Nat.le_refl _, Nat.le_refl _⟩) (fun Γ => tX4_wordOfOne hC p1 p2 σ)
noncomputable def vX4_orderWord (K : Kt) (σ : Sg) : Option (Int × Sg) := ck (0 ≤ (σ 63 6) ∧ (σ 63 6) < 401) (if (σ 71 (σ 63 6).toNat) = 310 then (bd2 (vX4_wordOfOne K 16 8 σ) (fun r1 σ2 => some (r1, σ2))) else (if (σ 71 (σ 63 6).toNat) = 311 then (some ((-1), σ)) else (if (σ 71 (σ 63 6).toNat) = 312 then (some ((-1), σ)) else (if (σ 71 (σ 63 6).toNat) = 313 then (bd2 (vX4_wordOfOne K 10 6 σ) (fun r3 σ4 => some (r3, σ4))) else (if (σ 71 (σ 63 6).toNat) = 314 then (some ((-1), σ)) else (if (σ 71 (σ 63 6).toNat) = 315 then (some (2000, σ)) else (if (σ 71 (σ 63 6).toNat) = 316 then (some ((-1), σ)) else (if (σ 71 (σ 63 6).toNat) = 317 then (some (2001, σ)) else (if (σ 71 (σ 63 6).toNat) = 318 then (some (2002, σ)) else (if (σ 71 (σ 63 6).toNat) = 319 then (some (2003, σ)) else (if (σ 71 (σ 63 6).toNat) = 320 then (bd2 (vX4_wordOfOne K 4 6 σ) (fun r5 σ6 => some (r5, σ6))) else (some ((-1), σ)))))))))))))
set_option maxRecDepth 100000 in
set_option maxHeartbeats 4000000 in
theorem tX4_orderWord {Γ : Gx} {K : Kt} (hC : cLay K) (σ : Sg) : Y Γ MX4_orderWord K (emIS K) K 0 [some (aR 63)] [] σ (vX4_orderWord K σ) := by
  unfold vX4_orderWord
  refine y_aload_n dX4_orderWord_0 rfl rfl ?_
  refine y_getR fX4_24 (lcO_63 hC) rfl (lcR_63_3 hC) dX4_orderWord_1 ?_
  refine y_aload_n dX4_orderWord_4 rfl rfl ?_
  refine y_getI fX4_35 (lcO_63 hC) rfl dX4_orderWord_5 ?_
  refine yk_iaload (lcA_71 hC) (N := 401) rfl (j := (σ 63 6).toNat) rfl dX4_orderWord_8 ?_
  refine y_ite (fun h17 => ?_) (fun h17 => ?_)
  · refine y_tab_in dX4_orderWord_9 (t := 101) (off := 92) (by omega) (by rw [h17]; rfl) rfl ?_
    refine y_aload_n dX4_orderWord_101 rfl rfl ?_
    refine y_bipush dX4_orderWord_102 (by decide) (by decide) ?_
    refine y_bipush dX4_orderWord_104 (by decide) (by decide) ?_
    refine y_cvIS (qX4_wordOfOne hC 16 8 σ) kX4_165 rfl (lcO_63 hC) rfl (by decide) rfl (Nat.le_of_ble_eq_true rfl) dX4_orderWord_106 (fun r1 σ2 => ?_)
    exact y_iret rfl rfl dX4_orderWord_109
  · refine y_ite (fun h16 => ?_) (fun h16 => ?_)
    · refine y_tab_in dX4_orderWord_9 (t := 110) (off := 101) (by omega) (by rw [h16]; rfl) rfl ?_
      refine y_iconst dX4_orderWord_110 (by decide) ?_
      exact y_iret rfl rfl dX4_orderWord_111
    · refine y_ite (fun h15 => ?_) (fun h15 => ?_)
      · refine y_tab_in dX4_orderWord_9 (t := 110) (off := 101) (by omega) (by rw [h15]; rfl) rfl ?_
        refine y_iconst dX4_orderWord_110 (by decide) ?_
        exact y_iret rfl rfl dX4_orderWord_111
      · refine y_ite (fun h14 => ?_) (fun h14 => ?_)
        · refine y_tab_in dX4_orderWord_9 (t := 92) (off := 83) (by omega) (by rw [h14]; rfl) rfl ?_
          refine y_aload_n dX4_orderWord_92 rfl rfl ?_
          refine y_bipush dX4_orderWord_93 (by decide) (by decide) ?_
          refine y_bipush dX4_orderWord_95 (by decide) (by decide) ?_
          refine y_cvIS (qX4_wordOfOne hC 10 6 σ) kX4_165 rfl (lcO_63 hC) rfl (by decide) rfl (Nat.le_of_ble_eq_true rfl) dX4_orderWord_97 (fun r3 σ4 => ?_)
          exact y_iret rfl rfl dX4_orderWord_100
        · refine y_ite (fun h13 => ?_) (fun h13 => ?_)
          · refine y_tab_in dX4_orderWord_9 (t := 110) (off := 101) (by omega) (by rw [h13]; rfl) rfl ?_
            refine y_iconst dX4_orderWord_110 (by decide) ?_
            exact y_iret rfl rfl dX4_orderWord_111
          · refine y_ite (fun h12 => ?_) (fun h12 => ?_)
            · refine y_tab_in dX4_orderWord_9 (t := 68) (off := 59) (by omega) (by rw [h12]; rfl) rfl ?_
              refine y_sipush dX4_orderWord_68 (by decide) (by decide) ?_
              exact y_iret rfl rfl dX4_orderWord_71
            · refine y_ite (fun h11 => ?_) (fun h11 => ?_)
              · refine y_tab_in dX4_orderWord_9 (t := 110) (off := 101) (by omega) (by rw [h11]; rfl) rfl ?_
                refine y_iconst dX4_orderWord_110 (by decide) ?_
                exact y_iret rfl rfl dX4_orderWord_111
              · refine y_ite (fun h10 => ?_) (fun h10 => ?_)
                · refine y_tab_in dX4_orderWord_9 (t := 72) (off := 63) (by omega) (by rw [h10]; rfl) rfl ?_
                  refine y_sipush dX4_orderWord_72 (by decide) (by decide) ?_
                  exact y_iret rfl rfl dX4_orderWord_75
                · refine y_ite (fun h9 => ?_) (fun h9 => ?_)
                  · refine y_tab_in dX4_orderWord_9 (t := 76) (off := 67) (by omega) (by rw [h9]; rfl) rfl ?_
                    refine y_sipush dX4_orderWord_76 (by decide) (by decide) ?_
                    exact y_iret rfl rfl dX4_orderWord_79
                  · refine y_ite (fun h8 => ?_) (fun h8 => ?_)
                    · refine y_tab_in dX4_orderWord_9 (t := 80) (off := 71) (by omega) (by rw [h8]; rfl) rfl ?_
                      refine y_sipush dX4_orderWord_80 (by decide) (by decide) ?_
                      exact y_iret rfl rfl dX4_orderWord_83
                    · refine y_ite (fun h7 => ?_) (fun h7 => ?_)
                      · refine y_tab_in dX4_orderWord_9 (t := 84) (off := 75) (by omega) (by rw [h7]; rfl) rfl ?_
                        refine y_aload_n dX4_orderWord_84 rfl rfl ?_
                        refine y_iconst dX4_orderWord_85 (by decide) ?_
                        refine y_bipush dX4_orderWord_86 (by decide) (by decide) ?_
                        refine y_cvIS (qX4_wordOfOne hC 4 6 σ) kX4_165 rfl (lcO_63 hC) rfl (by decide) rfl (Nat.le_of_ble_eq_true rfl) dX4_orderWord_88 (fun r5 σ6 => ?_)
                        exact y_iret rfl rfl dX4_orderWord_91
                      · refine y_tab_out dX4_orderWord_9 (t := 110) (by omega) rfl ?_
                        refine y_iconst dX4_orderWord_110 (by decide) ?_
                        exact y_iret rfl rfl dX4_orderWord_111
theorem qX4_orderWord {K : Kt} (hC : cLay K) (σ : Sg) : Cc MX4_orderWord K [aR 63] σ (emIS K) (vX4_orderWord K σ) := cc_of plX4 (Nat.le_of_ble_eq_true rfl) (fun o _ => ⟨Nat.le_refl _, Nat.le_refl _⟩) (fun Γ => tX4_orderWord hC σ)
noncomputable def vX4_fails (K : Kt) (σ : Sg) : Option (Int × Sg) := ck (0 ≤ (σ 63 6) ∧ (σ 63 6) < 401) (nm (up2 σ 63 2 (σ 72 (σ 63 6).toNat)) (fun σ1 => some (0, σ1)))
set_option maxRecDepth 100000 in
set_option maxHeartbeats 4000000 in
theorem tX4_fails {Γ : Gx} {K : Kt} (hC : cLay K) (σ : Sg) : Y Γ MX4_fails K (emIS K) K 0 [some (aR 63)] [] σ (vX4_fails K σ) := by
  unfold vX4_fails
  refine y_aload_n dX4_fails_0 rfl rfl ?_
  refine y_aload_n dX4_fails_1 rfl rfl ?_
  refine y_getR fX4_28 (lcO_63 hC) rfl (lcR_63_4 hC) dX4_fails_2 ?_
  refine y_aload_n dX4_fails_5 rfl rfl ?_
  refine y_getI fX4_35 (lcO_63 hC) rfl dX4_fails_6 ?_
  refine yk_iaload (lcA_72 hC) (N := 401) rfl (j := (σ 63 6).toNat) rfl dX4_fails_9 ?_
  refine yn_putI fX4_20 (lcO_63 hC) rfl rfl dX4_fails_10 (fun σ1 => ?_)
  refine y_iconst dX4_fails_13 (by decide) ?_
  exact y_zret (by decide) rfl rfl dX4_fails_14
theorem qX4_fails {K : Kt} (hC : cLay K) (σ : Sg) : Cc MX4_fails K [aR 63] σ (emIS K) (vX4_fails K σ) := cc_of plX4 (Nat.le_of_ble_eq_true rfl) (fun o _ => ⟨Nat.le_refl _, Nat.le_refl _⟩) (fun Γ => tX4_fails hC σ)
noncomputable def vX4_inner (K : Kt) (recS : Int → Sg → Option (Int × Sg)) (p1 : Int) (σ : Sg) : Option (Int × Sg) := if p1 < 8 then (ck (in32 ((σ 63 6) + 1)) (nm (up2 σ 63 6 ((σ 63 6) + 1)) (fun σ2 => ck (in32 (p1 + 1)) (bd2 (recS (p1 + 1) σ2) (fun r3 σ4 => if r3 = 0 then (some (0, σ4)) else (ck (0 ≤ (σ4 63 6) ∧ (σ4 63 6) < 401) (if (σ4 71 (σ4 63 6).toNat) = 93 then (ck (in32 ((σ4 63 6) + 1)) (nm (up2 σ4 63 6 ((σ4 63 6) + 1)) (fun σ7 => some (1, σ7)))) else (bd2 (vX4_fails K σ4) (fun r8 σ9 => ck (r8 = 0 ∨ r8 = 1) (some (r8, σ9))))))))))) else (bd2 (vX4_fails K σ) (fun r10 σ11 => ck (r10 = 0 ∨ r10 = 1) (some (r10, σ11))))
set_option maxRecDepth 100000 in
set_option maxHeartbeats 4000000 in
theorem tX4_inner {Γ : Gx} {K : Kt} (hC : cLay K) (dp : Nat) (hdp : 5 ≤ dp) (recS : Int → Sg → Option (Int × Sg)) (hrecS : ∀ (d : Int) (σ : Sg), Cc (MX4_sum dp) K [aR 63, aI d] σ (emIS K) (recS d σ)) (p1 : Int) (σ : Sg) : Y Γ (MX4_inner (dp + 1)) K (emIS K) K 0 [some (aR 63), some (aI p1)] [] σ (vX4_inner K recS p1 σ) := by
  unfold vX4_inner
  refine y_iload_n dX4_inner_0 rfl rfl ?_
  refine y_bipush dX4_inner_1 (by decide) (by decide) ?_
  refine y_ite (fun h1 => ?_) (fun h1 => ?_)
  · refine y_icmp_lt_t dX4_inner_3 (t := 11) rfl h1 ?_
    refine y_aload_n dX4_inner_11 rfl rfl ?_
    refine y_dup dX4_inner_12 (fun _ => rfl) ?_
    refine y_getI fX4_35 (lcO_63 hC) rfl dX4_inner_13 ?_
    refine y_iconst dX4_inner_16 (by decide) ?_
    refine yk_iadd dX4_inner_17 ?_
    refine yn_putI fX4_35 (lcO_63 hC) rfl rfl dX4_inner_18 (fun σ2 => ?_)
    refine y_aload_n dX4_inner_21 rfl rfl ?_
    refine y_iload_n dX4_inner_22 rfl rfl ?_
    refine y_iconst dX4_inner_23 (by decide) ?_
    refine yk_iadd dX4_inner_24 ?_
    refine y_cvIS (hrecS (p1 + 1) σ2) kX4_115 rfl (lcO_63 hC) rfl (show dp + 1 ≤ dp + 1 by omega) rfl (Nat.le_of_ble_eq_true rfl) dX4_inner_25 (fun r3 σ4 => ?_)
    refine y_ite (fun h5 => ?_) (fun h5 => ?_)
    · refine y_if_ne_f dX4_inner_28 (t := 33) rfl h5 ?_
      refine y_iconst dX4_inner_31 (by decide) ?_
      exact y_zret (by decide) rfl rfl dX4_inner_32
    · refine y_if_ne_t dX4_inner_28 (t := 33) rfl h5 ?_
      refine y_aload_n dX4_inner_33 rfl rfl ?_
      refine y_getR fX4_24 (lcO_63 hC) rfl (lcR_63_3 hC) dX4_inner_34 ?_
      refine y_aload_n dX4_inner_37 rfl rfl ?_
      refine y_getI fX4_35 (lcO_63 hC) rfl dX4_inner_38 ?_
      refine yk_iaload (lcA_71 hC) (N := 401) rfl (j := (σ4 63 6).toNat) rfl dX4_inner_41 ?_
      refine y_bipush dX4_inner_42 (by decide) (by decide) ?_
      refine y_ite (fun h6 => ?_) (fun h6 => ?_)
      · refine y_icmp_eq_t dX4_inner_44 (t := 52) rfl h6 ?_
        refine y_aload_n dX4_inner_52 rfl rfl ?_
        refine y_dup dX4_inner_53 (fun _ => rfl) ?_
        refine y_getI fX4_35 (lcO_63 hC) rfl dX4_inner_54 ?_
        refine y_iconst dX4_inner_57 (by decide) ?_
        refine yk_iadd dX4_inner_58 ?_
        refine yn_putI fX4_35 (lcO_63 hC) rfl rfl dX4_inner_59 (fun σ7 => ?_)
        refine y_iconst dX4_inner_62 (by decide) ?_
        exact y_zret (by decide) rfl rfl dX4_inner_63
      · refine y_icmp_eq_f dX4_inner_44 (t := 52) rfl h6 ?_
        refine y_aload_n dX4_inner_47 rfl rfl ?_
        refine y_cvIS (qX4_fails hC σ4) kX4_61 rfl (lcO_63 hC) rfl (show 1 + 1 ≤ dp + 1 by omega) rfl (Nat.le_of_ble_eq_true rfl) dX4_inner_48 (fun r8 σ9 => ?_)
        exact yk_zret rfl rfl dX4_inner_51
  · refine y_icmp_lt_f dX4_inner_3 (t := 11) rfl h1 ?_
    refine y_aload_n dX4_inner_6 rfl rfl ?_
    refine y_cvIS (qX4_fails hC σ) kX4_61 rfl (lcO_63 hC) rfl (show 1 + 1 ≤ dp + 1 by omega) rfl (Nat.le_of_ble_eq_true rfl) dX4_inner_7 (fun r10 σ11 => ?_)
    exact yk_zret rfl rfl dX4_inner_10
theorem qX4_inner {K : Kt} (hC : cLay K) (dp : Nat) (hdp : 5 ≤ dp) (recS : Int → Sg → Option (Int × Sg)) (hrecS : ∀ (d : Int) (σ : Sg), Cc (MX4_sum dp) K [aR 63, aI d] σ (emIS K) (recS d σ)) (p1 : Int) (σ : Sg) : Cc (MX4_inner (dp + 1)) K [aR 63, aI p1] σ (emIS K) (vX4_inner K recS p1 σ) := cc_of plX4 (Nat.le_of_ble_eq_true rfl) (fun o _ => ⟨Nat.le_refl _, Nat.le_refl _⟩) (fun Γ => tX4_inner hC dp hdp recS hrecS p1 σ)
noncomputable def vX4_part_77 (K : Kt) (recS : Int → Sg → Option (Int × Sg)) (x2 : Int) (σ : Sg) : Option (Int × Sg) := if x2 = (-1) then (bd2 (vX4_fails K σ) (fun r2 σ3 => ck (r2 = 0 ∨ r2 = 1) (some (r2, σ3)))) else (ck (in32 ((σ 63 6) + 1)) (nm (up2 σ 63 6 ((σ 63 6) + 1)) (fun σ4 => (vX7_add K x2 σ4).bind (fun σ5 => some (1, σ5)))))
set_option maxRecDepth 100000 in
set_option maxHeartbeats 4000000 in
theorem tX4_part_77 {Γ : Gx} {K : Kt} (hC : cLay K) (dp : Nat) (hdp : 5 ≤ dp) (recS : Int → Sg → Option (Int × Sg)) (hrecS : ∀ (d : Int) (σ : Sg), Cc (MX4_sum dp) K [aR 63, aI d] σ (emIS K) (recS d σ)) (x2 : Int) (σ : Sg) : Y Γ (MX4_part (dp + 2)) K (emIS K) K 77 [some (aR 63), none, some (aI x2)] [] σ (vX4_part_77 K recS x2 σ) := by
  unfold vX4_part_77
  refine y_iload_n dX4_part_77 rfl rfl ?_
  refine y_iconst dX4_part_78 (by decide) ?_
  refine y_ite (fun h1 => ?_) (fun h1 => ?_)
  · refine y_icmp_ne_f dX4_part_79 (t := 87) rfl h1 ?_
    refine y_aload_n dX4_part_82 rfl rfl ?_
    refine y_cvIS (qX4_fails hC σ) kX4_61 rfl (lcO_63 hC) rfl (show 1 + 1 ≤ dp + 2 by omega) rfl (Nat.le_of_ble_eq_true rfl) dX4_part_83 (fun r2 σ3 => ?_)
    exact yk_zret rfl rfl dX4_part_86
  · refine y_icmp_ne_t dX4_part_79 (t := 87) rfl h1 ?_
    refine y_aload_n dX4_part_87 rfl rfl ?_
    refine y_dup dX4_part_88 (fun _ => rfl) ?_
    refine y_getI fX4_35 (lcO_63 hC) rfl dX4_part_89 ?_
    refine y_iconst dX4_part_92 (by decide) ?_
    refine yk_iadd dX4_part_93 ?_
    refine yn_putI fX4_35 (lcO_63 hC) rfl rfl dX4_part_94 (fun σ4 => ?_)
    refine y_aload_n dX4_part_97 rfl rfl ?_
    refine y_getR fX4_16 (lcO_63 hC) rfl (lcR_63_1 hC) dX4_part_98 ?_
    refine y_iload_n dX4_part_101 rfl rfl ?_
    refine y_cvV (qX7_add hC x2 σ4) kX4_118 rfl (lcO_64 hC) rfl (show 1 + 1 ≤ dp + 2 by omega) rfl (Nat.le_of_ble_eq_true rfl) dX4_part_102 (fun σ5 => ?_)
    refine y_iconst dX4_part_105 (by decide) ?_
    exact y_zret (by decide) rfl rfl dX4_part_106
noncomputable def vX4_part_76 (K : Kt) (recS : Int → Sg → Option (Int × Sg)) (y0 : Int) (σ : Sg) : Option (Int × Sg) := vX4_part_77 K recS y0 σ
set_option maxRecDepth 100000 in
set_option maxHeartbeats 4000000 in
theorem tX4_part_76 {Γ : Gx} {K : Kt} (hC : cLay K) (dp : Nat) (hdp : 5 ≤ dp) (recS : Int → Sg → Option (Int × Sg)) (hrecS : ∀ (d : Int) (σ : Sg), Cc (MX4_sum dp) K [aR 63, aI d] σ (emIS K) (recS d σ)) (y0 : Int) (σ : Sg) : Y Γ (MX4_part (dp + 2)) K (emIS K) K 76 [some (aR 63), none, none] [aI y0] σ (vX4_part_76 K recS y0 σ) := by
  unfold vX4_part_76
  refine y_istore_n dX4_part_76 rfl (Nat.le_of_ble_eq_true rfl) (L' := [some (aR 63), none, some (aI y0)]) rfl ?_
  exact tX4_part_77 hC dp hdp recS hrecS y0 σ
noncomputable def vX4_part (K : Kt) (recS : Int → Sg → Option (Int × Sg)) (p1 : Int) (σ : Sg) : Option (Int × Sg) := ck (0 ≤ (σ 63 6) ∧ (σ 63 6) < 401) (if (σ 71 (σ 63 6).toNat) = 91 then (bd2 (vX4_inner K recS p1 σ) (fun r2 σ3 => ck (r2 = 0 ∨ r2 = 1) (some (r2, σ3)))) else (if (σ 63 7) < 50 then (ck (in32 ((σ 63 7) + 1)) (nm (up2 σ 63 7 ((σ 63 7) + 1)) (fun σ5 => (vX4_numberHere K 0 1000 σ5).bind (fun r6 => if r6 = (-1) then (if (σ5 63 5) = 0 then (bd2 (vX4_orderWord K σ5) (fun r9 σ10 => vX4_part_76 K recS r9 σ10)) else ((vX4_lawWord K σ5).bind (fun r11 => vX4_part_76 K recS r11 σ5))) else (vX4_part_77 K recS r6 σ5))))) else (bd2 (vX4_fails K σ) (fun r12 σ13 => ck (r12 = 0 ∨ r12 = 1) (some (r12, σ13))))))
set_option maxRecDepth 100000 in
set_option maxHeartbeats 4000000 in
theorem tX4_part {Γ : Gx} {K : Kt} (hC : cLay K) (dp : Nat) (hdp : 5 ≤ dp) (recS : Int → Sg → Option (Int × Sg)) (hrecS : ∀ (d : Int) (σ : Sg), Cc (MX4_sum dp) K [aR 63, aI d] σ (emIS K) (recS d σ)) (p1 : Int) (σ : Sg) : Y Γ (MX4_part (dp + 2)) K (emIS K) K 0 [some (aR 63), some (aI p1), none] [] σ (vX4_part K recS p1 σ) := by
  unfold vX4_part
  refine y_aload_n dX4_part_0 rfl rfl ?_
  refine y_getR fX4_24 (lcO_63 hC) rfl (lcR_63_3 hC) dX4_part_1 ?_
  refine y_aload_n dX4_part_4 rfl rfl ?_
  refine y_getI fX4_35 (lcO_63 hC) rfl dX4_part_5 ?_
  refine yk_iaload (lcA_71 hC) (N := 401) rfl (j := (σ 63 6).toNat) rfl dX4_part_8 ?_
  refine y_bipush dX4_part_9 (by decide) (by decide) ?_
  refine y_ite (fun h1 => ?_) (fun h1 => ?_)
  · refine y_icmp_ne_f dX4_part_11 (t := 20) rfl h1 ?_
    refine y_aload_n dX4_part_14 rfl rfl ?_
    refine y_iload_n dX4_part_15 rfl rfl ?_
    refine y_cvIS (qX4_inner hC dp hdp recS hrecS p1 σ) kX4_156 rfl (lcO_63 hC) rfl (show dp + 1 + 1 ≤ dp + 2 by omega) rfl (Nat.le_of_ble_eq_true rfl) dX4_part_16 (fun r2 σ3 => ?_)
    exact yk_zret rfl rfl dX4_part_19
  · refine y_icmp_ne_t dX4_part_11 (t := 20) rfl h1 ?_
    refine y_aload_n dX4_part_20 rfl rfl ?_
    refine y_getI fX4_38 (lcO_63 hC) rfl dX4_part_21 ?_
    refine y_bipush dX4_part_24 (by decide) (by decide) ?_
    refine y_ite (fun h4 => ?_) (fun h4 => ?_)
    · refine y_icmp_lt_t dX4_part_26 (t := 34) rfl h4 ?_
      refine y_aload_n dX4_part_34 rfl rfl ?_
      refine y_dup dX4_part_35 (fun _ => rfl) ?_
      refine y_getI fX4_38 (lcO_63 hC) rfl dX4_part_36 ?_
      refine y_iconst dX4_part_39 (by decide) ?_
      refine yk_iadd dX4_part_40 ?_
      refine yn_putI fX4_38 (lcO_63 hC) rfl rfl dX4_part_41 (fun σ5 => ?_)
      refine y_aload_n dX4_part_44 rfl rfl ?_
      refine y_iconst dX4_part_45 (by decide) ?_
      refine y_sipush dX4_part_46 (by decide) (by decide) ?_
      refine y_cvI (qX4_numberHere hC 0 1000 σ5) kX4_127 rfl (lcO_63 hC) rfl (show 1 + 1 ≤ dp + 2 by omega) rfl (Nat.le_of_ble_eq_true rfl) dX4_part_49 (fun r6 => ?_)
      refine y_istore_n dX4_part_52 rfl (Nat.le_of_ble_eq_true rfl) (L' := [some (aR 63), some (aI p1), some (aI r6)]) rfl ?_
      refine y_iload_n dX4_part_53 rfl rfl ?_
      refine y_iconst dX4_part_54 (by decide) ?_
      refine y_ite (fun h7 => ?_) (fun h7 => ?_)
      · refine y_icmp_ne_f dX4_part_55 (t := 77) rfl h7 ?_
        refine y_aload_n dX4_part_58 rfl rfl ?_
        refine y_getI fX4_31 (lcO_63 hC) rfl dX4_part_59 ?_
        refine y_ite (fun h8 => ?_) (fun h8 => ?_)
        · refine y_if_eq_t dX4_part_62 (t := 72) rfl h8 ?_
          refine y_aload_n dX4_part_72 rfl rfl ?_
          refine y_cvIS (qX4_orderWord hC σ5) kX4_162 rfl (lcO_63 hC) rfl (show 2 + 1 ≤ dp + 2 by omega) rfl (Nat.le_of_ble_eq_true rfl) dX4_part_73 (fun r9 σ10 => ?_)
          refine y_fg [true, false, false] (L' := [some (aR 63), none, none]) rfl ?_
          exact tX4_part_76 hC dp hdp recS hrecS r9 σ10
        · refine y_if_eq_f dX4_part_62 (t := 72) rfl h8 ?_
          refine y_aload_n dX4_part_65 rfl rfl ?_
          refine y_cvI (qX4_lawWord hC σ5) kX4_159 rfl (lcO_63 hC) rfl (show 1 + 1 ≤ dp + 2 by omega) rfl (Nat.le_of_ble_eq_true rfl) dX4_part_66 (fun r11 => ?_)
          refine y_goto dX4_part_69 (t := 76) rfl ?_
          refine y_fg [true, false, false] (L' := [some (aR 63), none, none]) rfl ?_
          exact tX4_part_76 hC dp hdp recS hrecS r11 σ5
      · refine y_icmp_ne_t dX4_part_55 (t := 77) rfl h7 ?_
        refine y_fg [true, false, true] (L' := [some (aR 63), none, some (aI r6)]) rfl ?_
        exact tX4_part_77 hC dp hdp recS hrecS r6 σ5
    · refine y_icmp_lt_f dX4_part_26 (t := 34) rfl h4 ?_
      refine y_aload_n dX4_part_29 rfl rfl ?_
      refine y_cvIS (qX4_fails hC σ) kX4_61 rfl (lcO_63 hC) rfl (show 1 + 1 ≤ dp + 2 by omega) rfl (Nat.le_of_ble_eq_true rfl) dX4_part_30 (fun r12 σ13 => ?_)
      exact yk_zret rfl rfl dX4_part_33
theorem qX4_part {K : Kt} (hC : cLay K) (dp : Nat) (hdp : 5 ≤ dp) (recS : Int → Sg → Option (Int × Sg)) (hrecS : ∀ (d : Int) (σ : Sg), Cc (MX4_sum dp) K [aR 63, aI d] σ (emIS K) (recS d σ)) (p1 : Int) (σ : Sg) : Cc (MX4_part (dp + 2)) K [aR 63, aI p1] σ (emIS K) (vX4_part K recS p1 σ) := cc_of plX4 (Nat.le_of_ble_eq_true rfl) (fun o _ => ⟨Nat.le_refl _, Nat.le_refl _⟩) (fun Γ => tX4_part hC dp hdp recS hrecS p1 σ)
noncomputable def vX4_term_61 (K : Kt) (recS : Int → Sg → Option (Int × Sg)) (rec_12 : Int → Int → Sg → Option (Int × Sg)) (x1 : Int) (x2 : Int) (σ : Sg) : Option (Int × Sg) := ck (0 ≤ (σ 63 6) ∧ (σ 63 6) < 401) (nm (σ 71 (σ 63 6).toNat) (fun z1 => ck (in32 ((σ 63 6) + 1)) (nm (up2 σ 63 6 ((σ 63 6) + 1)) (fun σ2 => bd2 (vX4_part K recS x1 σ2) (fun r3 σ4 => if r3 = 0 then (some (0, σ4)) else (ck (in32 (-z1)) ((vX7_add K (-z1) σ4).bind (fun σ6 => ck (in32 (x2 + 1)) (rec_12 x1 (x2 + 1) σ6)))))))))
set_option maxRecDepth 100000 in
set_option maxHeartbeats 4000000 in
theorem tX4_term_61 {Γ : Gx} {K : Kt} (hC : cLay K) (dp : Nat) (hdp : 5 ≤ dp) (recS : Int → Sg → Option (Int × Sg)) (hrecS : ∀ (d : Int) (σ : Sg), Cc (MX4_sum dp) K [aR 63, aI d] σ (emIS K) (recS d σ)) (rec_12 : Int → Int → Sg → Option (Int × Sg)) (hrec_12 : ∀ (x1 : Int) (x2 : Int) (σ : Sg), Y Γ (MX4_term (dp + 3)) K (emIS K) K 12 [some (aR 63), some (aI x1), some (aI x2), none] [] σ (rec_12 x1 x2 σ)) (x1 : Int) (x2 : Int) (σ : Sg) : Y Γ (MX4_term (dp + 3)) K (emIS K) K 61 [some (aR 63), some (aI x1), some (aI x2), none] [] σ (vX4_term_61 K recS rec_12 x1 x2 σ) := by
  unfold vX4_term_61
  refine y_aload_n dX4_term_61 rfl rfl ?_
  refine y_getR fX4_24 (lcO_63 hC) rfl (lcR_63_3 hC) dX4_term_62 ?_
  refine y_aload_n dX4_term_65 rfl rfl ?_
  refine y_getI fX4_35 (lcO_63 hC) rfl dX4_term_66 ?_
  refine yk_iaload (lcA_71 hC) (N := 401) rfl (j := (σ 63 6).toNat) rfl dX4_term_69 ?_
  refine yn_istore_n dX4_term_70 rfl (Nat.le_of_ble_eq_true rfl) (L' := fun z1 => [some (aR 63), some (aI x1), some (aI x2), some (aI z1)]) (fun _ => rfl) (fun z1 => ?_)
  refine y_aload_n dX4_term_71 rfl rfl ?_
  refine y_dup dX4_term_72 (fun _ => rfl) ?_
  refine y_getI fX4_35 (lcO_63 hC) rfl dX4_term_73 ?_
  refine y_iconst dX4_term_76 (by decide) ?_
  refine yk_iadd dX4_term_77 ?_
  refine yn_putI fX4_35 (lcO_63 hC) rfl rfl dX4_term_78 (fun σ2 => ?_)
  refine y_aload_n dX4_term_81 rfl rfl ?_
  refine y_iload_n dX4_term_82 rfl rfl ?_
  refine y_cvIS (qX4_part hC dp hdp recS hrecS x1 σ2) kX4_153 rfl (lcO_63 hC) rfl (show dp + 2 + 1 ≤ dp + 3 by omega) rfl (Nat.le_of_ble_eq_true rfl) dX4_term_83 (fun r3 σ4 => ?_)
  refine y_ite (fun h5 => ?_) (fun h5 => ?_)
  · refine y_if_ne_f dX4_term_86 (t := 91) rfl h5 ?_
    refine y_iconst dX4_term_89 (by decide) ?_
    exact y_zret (by decide) rfl rfl dX4_term_90
  · refine y_if_ne_t dX4_term_86 (t := 91) rfl h5 ?_
    refine y_aload_n dX4_term_91 rfl rfl ?_
    refine y_getR fX4_16 (lcO_63 hC) rfl (lcR_63_1 hC) dX4_term_92 ?_
    refine y_iload_n dX4_term_95 rfl rfl ?_
    refine yk_ineg dX4_term_96 ?_
    refine y_cvV (qX7_add hC (-z1) σ4) kX4_118 rfl (lcO_64 hC) rfl (show 1 + 1 ≤ dp + 3 by omega) rfl (Nat.le_of_ble_eq_true rfl) dX4_term_97 (fun σ6 => ?_)
    refine yk_iinc dX4_term_100 rfl (L' := [some (aR 63), some (aI x1), some (aI (x2 + 1)), some (aI z1)]) rfl ?_
    refine y_goto dX4_term_103 (t := 12) rfl ?_
    refine y_fg [true, true, true, false] (L' := [some (aR 63), some (aI x1), some (aI (x2 + 1)), none]) rfl ?_
    exact hrec_12 x1 (x2 + 1) σ6
noncomputable def vX4_term_12 (K : Kt) (recS : Int → Sg → Option (Int × Sg)) : Nat → Int → Int → Sg → Option (Int × Sg)
  | 0, _, _, _ => none
  | f + 1, x1, x2, σ => if x2 < 400 then (ck (0 ≤ (σ 63 6) ∧ (σ 63 6) < 401) (if (σ 71 (σ 63 6).toNat) = 42 then (vX4_term_61 K recS (vX4_term_12 K recS f) x1 x2 σ) else (ck (0 ≤ (σ 63 6) ∧ (σ 63 6) < 401) (if (σ 71 (σ 63 6).toNat) = 47 then (vX4_term_61 K recS (vX4_term_12 K recS f) x1 x2 σ) else (ck (0 ≤ (σ 63 6) ∧ (σ 63 6) < 401) (if (σ 71 (σ 63 6).toNat) = 37 then (vX4_term_61 K recS (vX4_term_12 K recS f) x1 x2 σ) else (some (1, σ)))))))) else (some (1, σ))
set_option maxRecDepth 100000 in
set_option maxHeartbeats 4000000 in
theorem tX4_term_12 {Γ : Gx} {K : Kt} (hC : cLay K) (dp : Nat) (hdp : 5 ≤ dp) (recS : Int → Sg → Option (Int × Sg)) (hrecS : ∀ (d : Int) (σ : Sg), Cc (MX4_sum dp) K [aR 63, aI d] σ (emIS K) (recS d σ)) : ∀ (f : Nat) (x1 : Int) (x2 : Int) (σ : Sg), Y Γ (MX4_term (dp + 3)) K (emIS K) K 12 [some (aR 63), some (aI x1), some (aI x2), none] [] σ (vX4_term_12 K recS f x1 x2 σ) := by
  intro f
  induction f with
  | zero => intro x1 x2 σ; exact y_none
  | succ f ih =>
    intro x1 x2 σ
    rw [vX4_term_12]
    refine y_iload_n dX4_term_12 rfl rfl ?_
    refine y_sipush dX4_term_13 (by decide) (by decide) ?_
    refine y_ite (fun h1 => ?_) (fun h1 => ?_)
    · refine y_icmp_ge_f dX4_term_16 (t := 106) rfl h1 ?_
      refine y_aload_n dX4_term_19 rfl rfl ?_
      refine y_getR fX4_24 (lcO_63 hC) rfl (lcR_63_3 hC) dX4_term_20 ?_
      refine y_aload_n dX4_term_23 rfl rfl ?_
      refine y_getI fX4_35 (lcO_63 hC) rfl dX4_term_24 ?_
      refine yk_iaload (lcA_71 hC) (N := 401) rfl (j := (σ 63 6).toNat) rfl dX4_term_27 ?_
      refine y_bipush dX4_term_28 (by decide) (by decide) ?_
      refine y_ite (fun h2 => ?_) (fun h2 => ?_)
      · refine y_icmp_eq_t dX4_term_30 (t := 61) rfl h2 ?_
        exact tX4_term_61 hC dp hdp recS hrecS (vX4_term_12 K recS f) ih x1 x2 σ
      · refine y_icmp_eq_f dX4_term_30 (t := 61) rfl h2 ?_
        refine y_aload_n dX4_term_33 rfl rfl ?_
        refine y_getR fX4_24 (lcO_63 hC) rfl (lcR_63_3 hC) dX4_term_34 ?_
        refine y_aload_n dX4_term_37 rfl rfl ?_
        refine y_getI fX4_35 (lcO_63 hC) rfl dX4_term_38 ?_
        refine yk_iaload (lcA_71 hC) (N := 401) rfl (j := (σ 63 6).toNat) rfl dX4_term_41 ?_
        refine y_bipush dX4_term_42 (by decide) (by decide) ?_
        refine y_ite (fun h3 => ?_) (fun h3 => ?_)
        · refine y_icmp_eq_t dX4_term_44 (t := 61) rfl h3 ?_
          exact tX4_term_61 hC dp hdp recS hrecS (vX4_term_12 K recS f) ih x1 x2 σ
        · refine y_icmp_eq_f dX4_term_44 (t := 61) rfl h3 ?_
          refine y_aload_n dX4_term_47 rfl rfl ?_
          refine y_getR fX4_24 (lcO_63 hC) rfl (lcR_63_3 hC) dX4_term_48 ?_
          refine y_aload_n dX4_term_51 rfl rfl ?_
          refine y_getI fX4_35 (lcO_63 hC) rfl dX4_term_52 ?_
          refine yk_iaload (lcA_71 hC) (N := 401) rfl (j := (σ 63 6).toNat) rfl dX4_term_55 ?_
          refine y_bipush dX4_term_56 (by decide) (by decide) ?_
          refine y_ite (fun h4 => ?_) (fun h4 => ?_)
          · refine y_icmp_ne_f dX4_term_58 (t := 106) rfl h4 ?_
            exact tX4_term_61 hC dp hdp recS hrecS (vX4_term_12 K recS f) ih x1 x2 σ
          · refine y_icmp_ne_t dX4_term_58 (t := 106) rfl h4 ?_
            refine y_iconst dX4_term_106 (by decide) ?_
            exact y_zret (by decide) rfl rfl dX4_term_107
    · refine y_icmp_ge_t dX4_term_16 (t := 106) rfl h1 ?_
      refine y_iconst dX4_term_106 (by decide) ?_
      exact y_zret (by decide) rfl rfl dX4_term_107
noncomputable def vX4_term (K : Kt) (recS : Int → Sg → Option (Int × Sg)) (p1 : Int) (σ : Sg) : Option (Int × Sg) := bd2 (vX4_part K recS p1 σ) (fun r1 σ2 => if r1 = 0 then (some (0, σ2)) else (vX4_term_12 K recS FU p1 0 σ2))
set_option maxRecDepth 100000 in
set_option maxHeartbeats 4000000 in
theorem tX4_term {Γ : Gx} {K : Kt} (hC : cLay K) (dp : Nat) (hdp : 5 ≤ dp) (recS : Int → Sg → Option (Int × Sg)) (hrecS : ∀ (d : Int) (σ : Sg), Cc (MX4_sum dp) K [aR 63, aI d] σ (emIS K) (recS d σ)) (p1 : Int) (σ : Sg) : Y Γ (MX4_term (dp + 3)) K (emIS K) K 0 [some (aR 63), some (aI p1), none, none] [] σ (vX4_term K recS p1 σ) := by
  unfold vX4_term
  refine y_aload_n dX4_term_0 rfl rfl ?_
  refine y_iload_n dX4_term_1 rfl rfl ?_
  refine y_cvIS (qX4_part hC dp hdp recS hrecS p1 σ) kX4_153 rfl (lcO_63 hC) rfl (show dp + 2 + 1 ≤ dp + 3 by omega) rfl (Nat.le_of_ble_eq_true rfl) dX4_term_2 (fun r1 σ2 => ?_)
  refine y_ite (fun h3 => ?_) (fun h3 => ?_)
  · refine y_if_ne_f dX4_term_5 (t := 10) rfl h3 ?_
    refine y_iconst dX4_term_8 (by decide) ?_
    exact y_zret (by decide) rfl rfl dX4_term_9
  · refine y_if_ne_t dX4_term_5 (t := 10) rfl h3 ?_
    refine y_iconst dX4_term_10 (by decide) ?_
    refine y_istore_n dX4_term_11 rfl (Nat.le_of_ble_eq_true rfl) (L' := [some (aR 63), some (aI p1), some (aI 0), none]) rfl ?_
    exact tX4_term_12 hC dp hdp recS hrecS FU p1 0 σ2
theorem qX4_term {K : Kt} (hC : cLay K) (dp : Nat) (hdp : 5 ≤ dp) (recS : Int → Sg → Option (Int × Sg)) (hrecS : ∀ (d : Int) (σ : Sg), Cc (MX4_sum dp) K [aR 63, aI d] σ (emIS K) (recS d σ)) (p1 : Int) (σ : Sg) : Cc (MX4_term (dp + 3)) K [aR 63, aI p1] σ (emIS K) (vX4_term K recS p1 σ) := cc_of plX4 (Nat.le_of_ble_eq_true rfl) (fun o _ => ⟨Nat.le_refl _, Nat.le_refl _⟩) (fun Γ => tX4_term hC dp hdp recS hrecS p1 σ)
noncomputable def vX4_sum_47 (K : Kt) (recS : Int → Sg → Option (Int × Sg)) (rec_12 : Int → Int → Sg → Option (Int × Sg)) (x1 : Int) (x2 : Int) (σ : Sg) : Option (Int × Sg) := ck (0 ≤ (σ 63 6) ∧ (σ 63 6) < 401) (nm (σ 71 (σ 63 6).toNat) (fun z1 => ck (in32 ((σ 63 6) + 1)) (nm (up2 σ 63 6 ((σ 63 6) + 1)) (fun σ2 => bd2 (vX4_term K recS x1 σ2) (fun r3 σ4 => if r3 = 0 then (some (0, σ4)) else (ck (in32 (-z1)) ((vX7_add K (-z1) σ4).bind (fun σ6 => ck (in32 (x2 + 1)) (rec_12 x1 (x2 + 1) σ6)))))))))
set_option maxRecDepth 100000 in
set_option maxHeartbeats 4000000 in
theorem tX4_sum_47 {Γ : Gx} {K : Kt} (hC : cLay K) (dp : Nat) (hdp : 5 ≤ dp) (recS : Int → Sg → Option (Int × Sg)) (hrecS : ∀ (d : Int) (σ : Sg), Cc (MX4_sum dp) K [aR 63, aI d] σ (emIS K) (recS d σ)) (rec_12 : Int → Int → Sg → Option (Int × Sg)) (hrec_12 : ∀ (x1 : Int) (x2 : Int) (σ : Sg), Y Γ (MX4_sum (dp + 4)) K (emIS K) K 12 [some (aR 63), some (aI x1), some (aI x2), none] [] σ (rec_12 x1 x2 σ)) (x1 : Int) (x2 : Int) (σ : Sg) : Y Γ (MX4_sum (dp + 4)) K (emIS K) K 47 [some (aR 63), some (aI x1), some (aI x2), none] [] σ (vX4_sum_47 K recS rec_12 x1 x2 σ) := by
  unfold vX4_sum_47
  refine y_aload_n dX4_sum_47 rfl rfl ?_
  refine y_getR fX4_24 (lcO_63 hC) rfl (lcR_63_3 hC) dX4_sum_48 ?_
  refine y_aload_n dX4_sum_51 rfl rfl ?_
  refine y_getI fX4_35 (lcO_63 hC) rfl dX4_sum_52 ?_
  refine yk_iaload (lcA_71 hC) (N := 401) rfl (j := (σ 63 6).toNat) rfl dX4_sum_55 ?_
  refine yn_istore_n dX4_sum_56 rfl (Nat.le_of_ble_eq_true rfl) (L' := fun z1 => [some (aR 63), some (aI x1), some (aI x2), some (aI z1)]) (fun _ => rfl) (fun z1 => ?_)
  refine y_aload_n dX4_sum_57 rfl rfl ?_
  refine y_dup dX4_sum_58 (fun _ => rfl) ?_
  refine y_getI fX4_35 (lcO_63 hC) rfl dX4_sum_59 ?_
  refine y_iconst dX4_sum_62 (by decide) ?_
  refine yk_iadd dX4_sum_63 ?_
  refine yn_putI fX4_35 (lcO_63 hC) rfl rfl dX4_sum_64 (fun σ2 => ?_)
  refine y_aload_n dX4_sum_67 rfl rfl ?_
  refine y_iload_n dX4_sum_68 rfl rfl ?_
  refine y_cvIS (qX4_term hC dp hdp recS hrecS x1 σ2) kX4_150 rfl (lcO_63 hC) rfl (show dp + 3 + 1 ≤ dp + 4 by omega) rfl (Nat.le_of_ble_eq_true rfl) dX4_sum_69 (fun r3 σ4 => ?_)
  refine y_ite (fun h5 => ?_) (fun h5 => ?_)
  · refine y_if_ne_f dX4_sum_72 (t := 77) rfl h5 ?_
    refine y_iconst dX4_sum_75 (by decide) ?_
    exact y_zret (by decide) rfl rfl dX4_sum_76
  · refine y_if_ne_t dX4_sum_72 (t := 77) rfl h5 ?_
    refine y_aload_n dX4_sum_77 rfl rfl ?_
    refine y_getR fX4_16 (lcO_63 hC) rfl (lcR_63_1 hC) dX4_sum_78 ?_
    refine y_iload_n dX4_sum_81 rfl rfl ?_
    refine yk_ineg dX4_sum_82 ?_
    refine y_cvV (qX7_add hC (-z1) σ4) kX4_118 rfl (lcO_64 hC) rfl (show 1 + 1 ≤ dp + 4 by omega) rfl (Nat.le_of_ble_eq_true rfl) dX4_sum_83 (fun σ6 => ?_)
    refine yk_iinc dX4_sum_86 rfl (L' := [some (aR 63), some (aI x1), some (aI (x2 + 1)), some (aI z1)]) rfl ?_
    refine y_goto dX4_sum_89 (t := 12) rfl ?_
    refine y_fg [true, true, true, false] (L' := [some (aR 63), some (aI x1), some (aI (x2 + 1)), none]) rfl ?_
    exact hrec_12 x1 (x2 + 1) σ6
noncomputable def vX4_sum_12 (K : Kt) (recS : Int → Sg → Option (Int × Sg)) : Nat → Int → Int → Sg → Option (Int × Sg)
  | 0, _, _, _ => none
  | f + 1, x1, x2, σ => if x2 < 400 then (ck (0 ≤ (σ 63 6) ∧ (σ 63 6) < 401) (if (σ 71 (σ 63 6).toNat) = 43 then (vX4_sum_47 K recS (vX4_sum_12 K recS f) x1 x2 σ) else (ck (0 ≤ (σ 63 6) ∧ (σ 63 6) < 401) (if (σ 71 (σ 63 6).toNat) = 45 then (vX4_sum_47 K recS (vX4_sum_12 K recS f) x1 x2 σ) else (some (1, σ)))))) else (some (1, σ))
set_option maxRecDepth 100000 in
set_option maxHeartbeats 4000000 in
theorem tX4_sum_12 {Γ : Gx} {K : Kt} (hC : cLay K) (dp : Nat) (hdp : 5 ≤ dp) (recS : Int → Sg → Option (Int × Sg)) (hrecS : ∀ (d : Int) (σ : Sg), Cc (MX4_sum dp) K [aR 63, aI d] σ (emIS K) (recS d σ)) : ∀ (f : Nat) (x1 : Int) (x2 : Int) (σ : Sg), Y Γ (MX4_sum (dp + 4)) K (emIS K) K 12 [some (aR 63), some (aI x1), some (aI x2), none] [] σ (vX4_sum_12 K recS f x1 x2 σ) := by
  intro f
  induction f with
  | zero => intro x1 x2 σ; exact y_none
  | succ f ih =>
    intro x1 x2 σ
    rw [vX4_sum_12]
    refine y_iload_n dX4_sum_12 rfl rfl ?_
    refine y_sipush dX4_sum_13 (by decide) (by decide) ?_
    refine y_ite (fun h1 => ?_) (fun h1 => ?_)
    · refine y_icmp_ge_f dX4_sum_16 (t := 92) rfl h1 ?_
      refine y_aload_n dX4_sum_19 rfl rfl ?_
      refine y_getR fX4_24 (lcO_63 hC) rfl (lcR_63_3 hC) dX4_sum_20 ?_
      refine y_aload_n dX4_sum_23 rfl rfl ?_
      refine y_getI fX4_35 (lcO_63 hC) rfl dX4_sum_24 ?_
      refine yk_iaload (lcA_71 hC) (N := 401) rfl (j := (σ 63 6).toNat) rfl dX4_sum_27 ?_
      refine y_bipush dX4_sum_28 (by decide) (by decide) ?_
      refine y_ite (fun h2 => ?_) (fun h2 => ?_)
      · refine y_icmp_eq_t dX4_sum_30 (t := 47) rfl h2 ?_
        exact tX4_sum_47 hC dp hdp recS hrecS (vX4_sum_12 K recS f) ih x1 x2 σ
      · refine y_icmp_eq_f dX4_sum_30 (t := 47) rfl h2 ?_
        refine y_aload_n dX4_sum_33 rfl rfl ?_
        refine y_getR fX4_24 (lcO_63 hC) rfl (lcR_63_3 hC) dX4_sum_34 ?_
        refine y_aload_n dX4_sum_37 rfl rfl ?_
        refine y_getI fX4_35 (lcO_63 hC) rfl dX4_sum_38 ?_
        refine yk_iaload (lcA_71 hC) (N := 401) rfl (j := (σ 63 6).toNat) rfl dX4_sum_41 ?_
        refine y_bipush dX4_sum_42 (by decide) (by decide) ?_
        refine y_ite (fun h3 => ?_) (fun h3 => ?_)
        · refine y_icmp_ne_f dX4_sum_44 (t := 92) rfl h3 ?_
          exact tX4_sum_47 hC dp hdp recS hrecS (vX4_sum_12 K recS f) ih x1 x2 σ
        · refine y_icmp_ne_t dX4_sum_44 (t := 92) rfl h3 ?_
          refine y_iconst dX4_sum_92 (by decide) ?_
          exact y_zret (by decide) rfl rfl dX4_sum_93
    · refine y_icmp_ge_t dX4_sum_16 (t := 92) rfl h1 ?_
      refine y_iconst dX4_sum_92 (by decide) ?_
      exact y_zret (by decide) rfl rfl dX4_sum_93
noncomputable def vX4_sum (K : Kt) (recS : Int → Sg → Option (Int × Sg)) (p1 : Int) (σ : Sg) : Option (Int × Sg) := bd2 (vX4_term K recS p1 σ) (fun r1 σ2 => if r1 = 0 then (some (0, σ2)) else (vX4_sum_12 K recS FU p1 0 σ2))
set_option maxRecDepth 100000 in
set_option maxHeartbeats 4000000 in
theorem tX4_sum {Γ : Gx} {K : Kt} (hC : cLay K) (dp : Nat) (hdp : 5 ≤ dp) (recS : Int → Sg → Option (Int × Sg)) (hrecS : ∀ (d : Int) (σ : Sg), Cc (MX4_sum dp) K [aR 63, aI d] σ (emIS K) (recS d σ)) (p1 : Int) (σ : Sg) : Y Γ (MX4_sum (dp + 4)) K (emIS K) K 0 [some (aR 63), some (aI p1), none, none] [] σ (vX4_sum K recS p1 σ) := by
  unfold vX4_sum
  refine y_aload_n dX4_sum_0 rfl rfl ?_
  refine y_iload_n dX4_sum_1 rfl rfl ?_
  refine y_cvIS (qX4_term hC dp hdp recS hrecS p1 σ) kX4_150 rfl (lcO_63 hC) rfl (show dp + 3 + 1 ≤ dp + 4 by omega) rfl (Nat.le_of_ble_eq_true rfl) dX4_sum_2 (fun r1 σ2 => ?_)
  refine y_ite (fun h3 => ?_) (fun h3 => ?_)
  · refine y_if_ne_f dX4_sum_5 (t := 10) rfl h3 ?_
    refine y_iconst dX4_sum_8 (by decide) ?_
    exact y_zret (by decide) rfl rfl dX4_sum_9
  · refine y_if_ne_t dX4_sum_5 (t := 10) rfl h3 ?_
    refine y_iconst dX4_sum_10 (by decide) ?_
    refine y_istore_n dX4_sum_11 rfl (Nat.le_of_ble_eq_true rfl) (L' := [some (aR 63), some (aI p1), some (aI 0), none]) rfl ?_
    exact tX4_sum_12 hC dp hdp recS hrecS FU p1 0 σ2
theorem qX4_sum {K : Kt} (hC : cLay K) (dp : Nat) (hdp : 5 ≤ dp) (recS : Int → Sg → Option (Int × Sg)) (hrecS : ∀ (d : Int) (σ : Sg), Cc (MX4_sum dp) K [aR 63, aI d] σ (emIS K) (recS d σ)) (p1 : Int) (σ : Sg) : Cc (MX4_sum (dp + 4)) K [aR 63, aI p1] σ (emIS K) (vX4_sum K recS p1 σ) := cc_of plX4 (Nat.le_of_ble_eq_true rfl) (fun o _ => ⟨Nat.le_refl _, Nat.le_refl _⟩) (fun Γ => tX4_sum hC dp hdp recS hrecS p1 σ)
noncomputable def vX4_sumF (K : Kt) : Nat → Int → Sg → Option (Int × Sg)
  | 0, _, _ => none
  | f + 1, d, σ => vX4_sum K (vX4_sumF K f) d σ
theorem qX4_sumF {K : Kt} (hC : cLay K) : ∀ (f : Nat) (d : Int) (σ : Sg), Cc (MX4_sum (5 + 4 * f)) K [aR 63, aI d] σ (emIS K) (vX4_sumF K f d σ)
  | 0, d, σ => fun o h => by cases h
  | f + 1, d, σ => by
    rw [vX4_sumF]
    exact qX4_sum hC (5 + 4 * f) (by omega) _ (qX4_sumF hC f) d σ
noncomputable def vX4_comparison_43 (K : Kt) (x1 : Int) (x2 : Int) (σ : Sg) : Option (Int × Sg) := ck (in32 ((σ 63 6) + 1)) (nm (up2 σ 63 6 ((σ 63 6) + 1)) (fun σ1 => bd2 (vX4_sumF K 12 x1 σ1) (fun r2 σ3 => if r2 = 0 then (some (0, σ3)) else (ck (in32 (-x2)) ((vX7_add K (-x2) σ3).bind (fun σ5 => some (1, σ5)))))))
set_option maxRecDepth 100000 in
set_option maxHeartbeats 4000000 in
theorem tX4_comparison_43 {Γ : Gx} {K : Kt} (hC : cLay K) (x1 : Int) (x2 : Int) (σ : Sg) : Y Γ MX4_comparison K (emIS K) K 43 [some (aR 63), some (aI x1), some (aI x2)] [] σ (vX4_comparison_43 K x1 x2 σ) := by
  unfold vX4_comparison_43
  refine y_aload_n dX4_comparison_43 rfl rfl ?_
  refine y_dup dX4_comparison_44 (fun _ => rfl) ?_
  refine y_getI fX4_35 (lcO_63 hC) rfl dX4_comparison_45 ?_
  refine y_iconst dX4_comparison_48 (by decide) ?_
  refine yk_iadd dX4_comparison_49 ?_
  refine yn_putI fX4_35 (lcO_63 hC) rfl rfl dX4_comparison_50 (fun σ1 => ?_)
  refine y_aload_n dX4_comparison_53 rfl rfl ?_
  refine y_iload_n dX4_comparison_54 rfl rfl ?_
  refine y_cvIS (qX4_sumF hC 12 x1 σ1) kX4_115 rfl (lcO_63 hC) rfl (by decide) rfl (Nat.le_of_ble_eq_true rfl) dX4_comparison_55 (fun r2 σ3 => ?_)
  refine y_ite (fun h4 => ?_) (fun h4 => ?_)
  · refine y_if_ne_f dX4_comparison_58 (t := 63) rfl h4 ?_
    refine y_iconst dX4_comparison_61 (by decide) ?_
    exact y_zret (by decide) rfl rfl dX4_comparison_62
  · refine y_if_ne_t dX4_comparison_58 (t := 63) rfl h4 ?_
    refine y_aload_n dX4_comparison_63 rfl rfl ?_
    refine y_getR fX4_16 (lcO_63 hC) rfl (lcR_63_1 hC) dX4_comparison_64 ?_
    refine y_iload_n dX4_comparison_67 rfl rfl ?_
    refine yk_ineg dX4_comparison_68 ?_
    refine y_cvV (qX7_add hC (-x2) σ3) kX4_118 rfl (lcO_64 hC) rfl (by decide) rfl (Nat.le_of_ble_eq_true rfl) dX4_comparison_69 (fun σ5 => ?_)
    refine y_iconst dX4_comparison_72 (by decide) ?_
    exact y_zret (by decide) rfl rfl dX4_comparison_73
noncomputable def vX4_comparison (K : Kt) (p1 : Int) (σ : Sg) : Option (Int × Sg) := bd2 (vX4_sumF K 12 p1 σ) (fun r1 σ2 => if r1 = 0 then (some (0, σ2)) else (ck (0 ≤ (σ2 63 6) ∧ (σ2 63 6) < 401) (nm (σ2 71 (σ2 63 6).toNat) (fun z4 => if z4 = 60 then (vX4_comparison_43 K p1 z4 σ2) else (if z4 = 62 then (vX4_comparison_43 K p1 z4 σ2) else (if z4 = 61 then (vX4_comparison_43 K p1 z4 σ2) else (bd2 (vX4_fails K σ2) (fun r8 σ9 => ck (r8 = 0 ∨ r8 = 1) (some (r8, σ9))))))))))
set_option maxRecDepth 100000 in
set_option maxHeartbeats 4000000 in
theorem tX4_comparison {Γ : Gx} {K : Kt} (hC : cLay K) (p1 : Int) (σ : Sg) : Y Γ MX4_comparison K (emIS K) K 0 [some (aR 63), some (aI p1), none] [] σ (vX4_comparison K p1 σ) := by
  unfold vX4_comparison
  refine y_aload_n dX4_comparison_0 rfl rfl ?_
  refine y_iload_n dX4_comparison_1 rfl rfl ?_
  refine y_cvIS (qX4_sumF hC 12 p1 σ) kX4_115 rfl (lcO_63 hC) rfl (by decide) rfl (Nat.le_of_ble_eq_true rfl) dX4_comparison_2 (fun r1 σ2 => ?_)
  refine y_ite (fun h3 => ?_) (fun h3 => ?_)
  · refine y_if_ne_f dX4_comparison_5 (t := 10) rfl h3 ?_
    refine y_iconst dX4_comparison_8 (by decide) ?_
    exact y_zret (by decide) rfl rfl dX4_comparison_9
  · refine y_if_ne_t dX4_comparison_5 (t := 10) rfl h3 ?_
    refine y_aload_n dX4_comparison_10 rfl rfl ?_
    refine y_getR fX4_24 (lcO_63 hC) rfl (lcR_63_3 hC) dX4_comparison_11 ?_
    refine y_aload_n dX4_comparison_14 rfl rfl ?_
    refine y_getI fX4_35 (lcO_63 hC) rfl dX4_comparison_15 ?_
    refine yk_iaload (lcA_71 hC) (N := 401) rfl (j := (σ2 63 6).toNat) rfl dX4_comparison_18 ?_
    refine yn_istore_n dX4_comparison_19 rfl (Nat.le_of_ble_eq_true rfl) (L' := fun z4 => [some (aR 63), some (aI p1), some (aI z4)]) (fun _ => rfl) (fun z4 => ?_)
    refine y_iload_n dX4_comparison_20 rfl rfl ?_
    refine y_bipush dX4_comparison_21 (by decide) (by decide) ?_
    refine y_ite (fun h5 => ?_) (fun h5 => ?_)
    · refine y_icmp_eq_t dX4_comparison_23 (t := 43) rfl h5 ?_
      exact tX4_comparison_43 hC p1 z4 σ2
    · refine y_icmp_eq_f dX4_comparison_23 (t := 43) rfl h5 ?_
      refine y_iload_n dX4_comparison_26 rfl rfl ?_
      refine y_bipush dX4_comparison_27 (by decide) (by decide) ?_
      refine y_ite (fun h6 => ?_) (fun h6 => ?_)
      · refine y_icmp_eq_t dX4_comparison_29 (t := 43) rfl h6 ?_
        exact tX4_comparison_43 hC p1 z4 σ2
      · refine y_icmp_eq_f dX4_comparison_29 (t := 43) rfl h6 ?_
        refine y_iload_n dX4_comparison_32 rfl rfl ?_
        refine y_bipush dX4_comparison_33 (by decide) (by decide) ?_
        refine y_ite (fun h7 => ?_) (fun h7 => ?_)
        · refine y_icmp_eq_t dX4_comparison_35 (t := 43) rfl h7 ?_
          exact tX4_comparison_43 hC p1 z4 σ2
        · refine y_icmp_eq_f dX4_comparison_35 (t := 43) rfl h7 ?_
          refine y_aload_n dX4_comparison_38 rfl rfl ?_
          refine y_cvIS (qX4_fails hC σ2) kX4_61 rfl (lcO_63 hC) rfl (by decide) rfl (Nat.le_of_ble_eq_true rfl) dX4_comparison_39 (fun r8 σ9 => ?_)
          exact yk_zret rfl rfl dX4_comparison_42
theorem qX4_comparison {K : Kt} (hC : cLay K) (p1 : Int) (σ : Sg) : Cc MX4_comparison K [aR 63, aI p1] σ (emIS K) (vX4_comparison K p1 σ) := cc_of plX4 (Nat.le_of_ble_eq_true rfl) (fun o _ => ⟨Nat.le_refl _, Nat.le_refl _⟩) (fun Γ => tX4_comparison hC p1 σ)
noncomputable def vX4_bracketed (K : Kt) (recT : Int → Sg → Option (Int × Sg)) (p1 : Int) (σ : Sg) : Option (Int × Sg) := if p1 < 8 then (ck (in32 ((σ 63 6) + 1)) (nm (up2 σ 63 6 ((σ 63 6) + 1)) (fun σ2 => ck (in32 (p1 + 1)) (bd2 (recT (p1 + 1) σ2) (fun r3 σ4 => if r3 = 0 then (some (0, σ4)) else (ck (0 ≤ (σ4 63 6) ∧ (σ4 63 6) < 401) (if (σ4 71 (σ4 63 6).toNat) = 41 then (ck (in32 ((σ4 63 6) + 1)) (nm (up2 σ4 63 6 ((σ4 63 6) + 1)) (fun σ7 => some (1, σ7)))) else (bd2 (vX4_fails K σ4) (fun r8 σ9 => ck (r8 = 0 ∨ r8 = 1) (some (r8, σ9))))))))))) else (bd2 (vX4_fails K σ) (fun r10 σ11 => ck (r10 = 0 ∨ r10 = 1) (some (r10, σ11))))
set_option maxRecDepth 100000 in
set_option maxHeartbeats 4000000 in
theorem tX4_bracketed {Γ : Gx} {K : Kt} (hC : cLay K) (dp : Nat) (hdp : 60 ≤ dp) (recT : Int → Sg → Option (Int × Sg)) (hrecT : ∀ (d : Int) (σ : Sg), Cc (MX4_test dp) K [aR 63, aI d] σ (emIS K) (recT d σ)) (p1 : Int) (σ : Sg) : Y Γ (MX4_bracketed (dp + 1)) K (emIS K) K 0 [some (aR 63), some (aI p1)] [] σ (vX4_bracketed K recT p1 σ) := by
  unfold vX4_bracketed
  refine y_iload_n dX4_bracketed_0 rfl rfl ?_
  refine y_bipush dX4_bracketed_1 (by decide) (by decide) ?_
  refine y_ite (fun h1 => ?_) (fun h1 => ?_)
  · refine y_icmp_lt_t dX4_bracketed_3 (t := 11) rfl h1 ?_
    refine y_aload_n dX4_bracketed_11 rfl rfl ?_
    refine y_dup dX4_bracketed_12 (fun _ => rfl) ?_
    refine y_getI fX4_35 (lcO_63 hC) rfl dX4_bracketed_13 ?_
    refine y_iconst dX4_bracketed_16 (by decide) ?_
    refine yk_iadd dX4_bracketed_17 ?_
    refine yn_putI fX4_35 (lcO_63 hC) rfl rfl dX4_bracketed_18 (fun σ2 => ?_)
    refine y_aload_n dX4_bracketed_21 rfl rfl ?_
    refine y_iload_n dX4_bracketed_22 rfl rfl ?_
    refine y_iconst dX4_bracketed_23 (by decide) ?_
    refine yk_iadd dX4_bracketed_24 ?_
    refine y_cvIS (hrecT (p1 + 1) σ2) kX4_136 rfl (lcO_63 hC) rfl (show dp + 1 ≤ dp + 1 by omega) rfl (Nat.le_of_ble_eq_true rfl) dX4_bracketed_25 (fun r3 σ4 => ?_)
    refine y_ite (fun h5 => ?_) (fun h5 => ?_)
    · refine y_if_ne_f dX4_bracketed_28 (t := 33) rfl h5 ?_
      refine y_iconst dX4_bracketed_31 (by decide) ?_
      exact y_zret (by decide) rfl rfl dX4_bracketed_32
    · refine y_if_ne_t dX4_bracketed_28 (t := 33) rfl h5 ?_
      refine y_aload_n dX4_bracketed_33 rfl rfl ?_
      refine y_getR fX4_24 (lcO_63 hC) rfl (lcR_63_3 hC) dX4_bracketed_34 ?_
      refine y_aload_n dX4_bracketed_37 rfl rfl ?_
      refine y_getI fX4_35 (lcO_63 hC) rfl dX4_bracketed_38 ?_
      refine yk_iaload (lcA_71 hC) (N := 401) rfl (j := (σ4 63 6).toNat) rfl dX4_bracketed_41 ?_
      refine y_bipush dX4_bracketed_42 (by decide) (by decide) ?_
      refine y_ite (fun h6 => ?_) (fun h6 => ?_)
      · refine y_icmp_eq_t dX4_bracketed_44 (t := 52) rfl h6 ?_
        refine y_aload_n dX4_bracketed_52 rfl rfl ?_
        refine y_dup dX4_bracketed_53 (fun _ => rfl) ?_
        refine y_getI fX4_35 (lcO_63 hC) rfl dX4_bracketed_54 ?_
        refine y_iconst dX4_bracketed_57 (by decide) ?_
        refine yk_iadd dX4_bracketed_58 ?_
        refine yn_putI fX4_35 (lcO_63 hC) rfl rfl dX4_bracketed_59 (fun σ7 => ?_)
        refine y_iconst dX4_bracketed_62 (by decide) ?_
        exact y_zret (by decide) rfl rfl dX4_bracketed_63
      · refine y_icmp_eq_f dX4_bracketed_44 (t := 52) rfl h6 ?_
        refine y_aload_n dX4_bracketed_47 rfl rfl ?_
        refine y_cvIS (qX4_fails hC σ4) kX4_61 rfl (lcO_63 hC) rfl (show 1 + 1 ≤ dp + 1 by omega) rfl (Nat.le_of_ble_eq_true rfl) dX4_bracketed_48 (fun r8 σ9 => ?_)
        exact yk_zret rfl rfl dX4_bracketed_51
  · refine y_icmp_lt_f dX4_bracketed_3 (t := 11) rfl h1 ?_
    refine y_aload_n dX4_bracketed_6 rfl rfl ?_
    refine y_cvIS (qX4_fails hC σ) kX4_61 rfl (lcO_63 hC) rfl (show 1 + 1 ≤ dp + 1 by omega) rfl (Nat.le_of_ble_eq_true rfl) dX4_bracketed_7 (fun r10 σ11 => ?_)
    exact yk_zret rfl rfl dX4_bracketed_10
theorem qX4_bracketed {K : Kt} (hC : cLay K) (dp : Nat) (hdp : 60 ≤ dp) (recT : Int → Sg → Option (Int × Sg)) (hrecT : ∀ (d : Int) (σ : Sg), Cc (MX4_test dp) K [aR 63, aI d] σ (emIS K) (recT d σ)) (p1 : Int) (σ : Sg) : Cc (MX4_bracketed (dp + 1)) K [aR 63, aI p1] σ (emIS K) (vX4_bracketed K recT p1 σ) := cc_of plX4 (Nat.le_of_ble_eq_true rfl) (fun o _ => ⟨Nat.le_refl _, Nat.le_refl _⟩) (fun Γ => tX4_bracketed hC dp hdp recT hrecT p1 σ)
noncomputable def vX4_plain_72 (K : Kt) (recT : Int → Sg → Option (Int × Sg)) (x2 : Int) (y0 : Int) (σ : Sg) : Option (Int × Sg) := if y0 = 0 then (ck (y0 = 0 ∨ y0 = 1) (some (y0, σ))) else (ck (¬ (2 : Int) = 0 ∧ in32 (Int.tmod x2 2)) (if (Int.tmod x2 2) = 0 then (ck (y0 = 0 ∨ y0 = 1) (some (y0, σ))) else ((vX7_add K (-4) σ).bind (fun σ3 => ck (y0 = 0 ∨ y0 = 1) (some (y0, σ3))))))
set_option maxRecDepth 100000 in
set_option maxHeartbeats 4000000 in
theorem tX4_plain_72 {Γ : Gx} {K : Kt} (hC : cLay K) (dp : Nat) (hdp : 60 ≤ dp) (recT : Int → Sg → Option (Int × Sg)) (hrecT : ∀ (d : Int) (σ : Sg), Cc (MX4_test dp) K [aR 63, aI d] σ (emIS K) (recT d σ)) (x2 : Int) (y0 : Int) (σ : Sg) : Y Γ (MX4_plain (dp + 2)) K (emIS K) K 72 [some (aR 63), none, some (aI x2), none] [aI y0] σ (vX4_plain_72 K recT x2 y0 σ) := by
  unfold vX4_plain_72
  refine y_istore_n dX4_plain_72 rfl (Nat.le_of_ble_eq_true rfl) (L' := [some (aR 63), none, some (aI x2), some (aI y0)]) rfl ?_
  refine y_iload_n dX4_plain_73 rfl rfl ?_
  refine y_ite (fun h1 => ?_) (fun h1 => ?_)
  · refine y_if_eq_t dX4_plain_74 (t := 92) rfl h1 ?_
    refine y_iload_n dX4_plain_92 rfl rfl ?_
    exact yk_zret rfl rfl dX4_plain_93
  · refine y_if_eq_f dX4_plain_74 (t := 92) rfl h1 ?_
    refine y_iload_n dX4_plain_77 rfl rfl ?_
    refine y_iconst dX4_plain_78 (by decide) ?_
    refine yk_irem dX4_plain_79 ?_
    refine y_ite (fun h2 => ?_) (fun h2 => ?_)
    · refine y_if_eq_t dX4_plain_80 (t := 92) rfl h2 ?_
      refine y_iload_n dX4_plain_92 rfl rfl ?_
      exact yk_zret rfl rfl dX4_plain_93
    · refine y_if_eq_f dX4_plain_80 (t := 92) rfl h2 ?_
      refine y_aload_n dX4_plain_83 rfl rfl ?_
      refine y_getR fX4_16 (lcO_63 hC) rfl (lcR_63_1 hC) dX4_plain_84 ?_
      refine y_bipush dX4_plain_87 (by decide) (by decide) ?_
      refine y_cvV (qX7_add hC (-4) σ) kX4_118 rfl (lcO_64 hC) rfl (show 1 + 1 ≤ dp + 2 by omega) rfl (Nat.le_of_ble_eq_true rfl) dX4_plain_89 (fun σ3 => ?_)
      refine y_iload_n dX4_plain_92 rfl rfl ?_
      exact yk_zret rfl rfl dX4_plain_93
noncomputable def vX4_plain_45 (K : Kt) (recT : Int → Sg → Option (Int × Sg)) (x1 : Int) (x2 : Int) (σ : Sg) : Option (Int × Sg) := ck (0 ≤ (σ 63 6) ∧ (σ 63 6) < 401) (if (σ 71 (σ 63 6).toNat) = 40 then (bd2 (vX4_bracketed K recT x1 σ) (fun r2 σ3 => vX4_plain_72 K recT x2 r2 σ3)) else (bd2 (vX4_comparison K x1 σ) (fun r4 σ5 => vX4_plain_72 K recT x2 r4 σ5)))
set_option maxRecDepth 100000 in
set_option maxHeartbeats 4000000 in
theorem tX4_plain_45 {Γ : Gx} {K : Kt} (hC : cLay K) (dp : Nat) (hdp : 60 ≤ dp) (recT : Int → Sg → Option (Int × Sg)) (hrecT : ∀ (d : Int) (σ : Sg), Cc (MX4_test dp) K [aR 63, aI d] σ (emIS K) (recT d σ)) (x1 : Int) (x2 : Int) (σ : Sg) : Y Γ (MX4_plain (dp + 2)) K (emIS K) K 45 [some (aR 63), some (aI x1), some (aI x2), none] [] σ (vX4_plain_45 K recT x1 x2 σ) := by
  unfold vX4_plain_45
  refine y_aload_n dX4_plain_45 rfl rfl ?_
  refine y_getR fX4_24 (lcO_63 hC) rfl (lcR_63_3 hC) dX4_plain_46 ?_
  refine y_aload_n dX4_plain_49 rfl rfl ?_
  refine y_getI fX4_35 (lcO_63 hC) rfl dX4_plain_50 ?_
  refine yk_iaload (lcA_71 hC) (N := 401) rfl (j := (σ 63 6).toNat) rfl dX4_plain_53 ?_
  refine y_bipush dX4_plain_54 (by decide) (by decide) ?_
  refine y_ite (fun h1 => ?_) (fun h1 => ?_)
  · refine y_icmp_ne_f dX4_plain_56 (t := 67) rfl h1 ?_
    refine y_aload_n dX4_plain_59 rfl rfl ?_
    refine y_iload_n dX4_plain_60 rfl rfl ?_
    refine y_cvIS (qX4_bracketed hC dp hdp recT hrecT x1 σ) kX4_144 rfl (lcO_63 hC) rfl (show dp + 1 + 1 ≤ dp + 2 by omega) rfl (Nat.le_of_ble_eq_true rfl) dX4_plain_61 (fun r2 σ3 => ?_)
    refine y_goto dX4_plain_64 (t := 72) rfl ?_
    refine y_fg [true, false, true, false] (L' := [some (aR 63), none, some (aI x2), none]) rfl ?_
    exact tX4_plain_72 hC dp hdp recT hrecT x2 r2 σ3
  · refine y_icmp_ne_t dX4_plain_56 (t := 67) rfl h1 ?_
    refine y_aload_n dX4_plain_67 rfl rfl ?_
    refine y_iload_n dX4_plain_68 rfl rfl ?_
    refine y_cvIS (qX4_comparison hC x1 σ) kX4_147 rfl (lcO_63 hC) rfl (show 54 + 1 ≤ dp + 2 by omega) rfl (Nat.le_of_ble_eq_true rfl) dX4_plain_69 (fun r4 σ5 => ?_)
    refine y_fg [true, false, true, false] (L' := [some (aR 63), none, some (aI x2), none]) rfl ?_
    exact tX4_plain_72 hC dp hdp recT hrecT x2 r4 σ5
noncomputable def vX4_plain_4 (K : Kt) (recT : Int → Sg → Option (Int × Sg)) : Nat → Int → Int → Int → Sg → Option (Int × Sg)
  | 0, _, _, _, _ => none
  | f + 1, x1, x2, x3, σ => if x3 < 400 then (ck (0 ≤ (σ 63 6) ∧ (σ 63 6) < 401) (if (σ 71 (σ 63 6).toNat) = 323 then (ck (in32 ((σ 63 6) + 1)) (nm (up2 σ 63 6 ((σ 63 6) + 1)) (fun σ3 => ck (in32 (x2 + 1)) (ck (in32 (x3 + 1)) (vX4_plain_4 K recT f x1 (x2 + 1) (x3 + 1) σ3))))) else (vX4_plain_45 K recT x1 x2 σ))) else (vX4_plain_45 K recT x1 x2 σ)
set_option maxRecDepth 100000 in
set_option maxHeartbeats 4000000 in
theorem tX4_plain_4 {Γ : Gx} {K : Kt} (hC : cLay K) (dp : Nat) (hdp : 60 ≤ dp) (recT : Int → Sg → Option (Int × Sg)) (hrecT : ∀ (d : Int) (σ : Sg), Cc (MX4_test dp) K [aR 63, aI d] σ (emIS K) (recT d σ)) : ∀ (f : Nat) (x1 : Int) (x2 : Int) (x3 : Int) (σ : Sg), Y Γ (MX4_plain (dp + 2)) K (emIS K) K 4 [some (aR 63), some (aI x1), some (aI x2), some (aI x3)] [] σ (vX4_plain_4 K recT f x1 x2 x3 σ) := by
  intro f
  induction f with
  | zero => intro x1 x2 x3 σ; exact y_none
  | succ f ih =>
    intro x1 x2 x3 σ
    rw [vX4_plain_4]
    refine y_iload_n dX4_plain_4 rfl rfl ?_
    refine y_sipush dX4_plain_5 (by decide) (by decide) ?_
    refine y_ite (fun h1 => ?_) (fun h1 => ?_)
    · refine y_icmp_ge_f dX4_plain_8 (t := 45) rfl h1 ?_
      refine y_aload_n dX4_plain_11 rfl rfl ?_
      refine y_getR fX4_24 (lcO_63 hC) rfl (lcR_63_3 hC) dX4_plain_12 ?_
      refine y_aload_n dX4_plain_15 rfl rfl ?_
      refine y_getI fX4_35 (lcO_63 hC) rfl dX4_plain_16 ?_
      refine yk_iaload (lcA_71 hC) (N := 401) rfl (j := (σ 63 6).toNat) rfl dX4_plain_19 ?_
      refine y_sipush dX4_plain_20 (by decide) (by decide) ?_
      refine y_ite (fun h2 => ?_) (fun h2 => ?_)
      · refine y_icmp_ne_f dX4_plain_23 (t := 45) rfl h2 ?_
        refine y_aload_n dX4_plain_26 rfl rfl ?_
        refine y_dup dX4_plain_27 (fun _ => rfl) ?_
        refine y_getI fX4_35 (lcO_63 hC) rfl dX4_plain_28 ?_
        refine y_iconst dX4_plain_31 (by decide) ?_
        refine yk_iadd dX4_plain_32 ?_
        refine yn_putI fX4_35 (lcO_63 hC) rfl rfl dX4_plain_33 (fun σ3 => ?_)
        refine yk_iinc dX4_plain_36 rfl (L' := [some (aR 63), some (aI x1), some (aI (x2 + 1)), some (aI x3)]) rfl ?_
        refine yk_iinc dX4_plain_39 rfl (L' := [some (aR 63), some (aI x1), some (aI (x2 + 1)), some (aI (x3 + 1))]) rfl ?_
        refine y_goto dX4_plain_42 (t := 4) rfl ?_
        exact ih x1 (x2 + 1) (x3 + 1) σ3
      · refine y_icmp_ne_t dX4_plain_23 (t := 45) rfl h2 ?_
        refine y_fg [true, true, true, false] (L' := [some (aR 63), some (aI x1), some (aI x2), none]) rfl ?_
        exact tX4_plain_45 hC dp hdp recT hrecT x1 x2 σ
    · refine y_icmp_ge_t dX4_plain_8 (t := 45) rfl h1 ?_
      refine y_fg [true, true, true, false] (L' := [some (aR 63), some (aI x1), some (aI x2), none]) rfl ?_
      exact tX4_plain_45 hC dp hdp recT hrecT x1 x2 σ
noncomputable def vX4_plain (K : Kt) (recT : Int → Sg → Option (Int × Sg)) (p1 : Int) (σ : Sg) : Option (Int × Sg) := vX4_plain_4 K recT FU p1 0 0 σ
set_option maxRecDepth 100000 in
set_option maxHeartbeats 4000000 in
theorem tX4_plain {Γ : Gx} {K : Kt} (hC : cLay K) (dp : Nat) (hdp : 60 ≤ dp) (recT : Int → Sg → Option (Int × Sg)) (hrecT : ∀ (d : Int) (σ : Sg), Cc (MX4_test dp) K [aR 63, aI d] σ (emIS K) (recT d σ)) (p1 : Int) (σ : Sg) : Y Γ (MX4_plain (dp + 2)) K (emIS K) K 0 [some (aR 63), some (aI p1), none, none] [] σ (vX4_plain K recT p1 σ) := by
  unfold vX4_plain
  refine y_iconst dX4_plain_0 (by decide) ?_
  refine y_istore_n dX4_plain_1 rfl (Nat.le_of_ble_eq_true rfl) (L' := [some (aR 63), some (aI p1), some (aI 0), none]) rfl ?_
  refine y_iconst dX4_plain_2 (by decide) ?_
  refine y_istore_n dX4_plain_3 rfl (Nat.le_of_ble_eq_true rfl) (L' := [some (aR 63), some (aI p1), some (aI 0), some (aI 0)]) rfl ?_
  exact tX4_plain_4 hC dp hdp recT hrecT FU p1 0 0 σ
theorem qX4_plain {K : Kt} (hC : cLay K) (dp : Nat) (hdp : 60 ≤ dp) (recT : Int → Sg → Option (Int × Sg)) (hrecT : ∀ (d : Int) (σ : Sg), Cc (MX4_test dp) K [aR 63, aI d] σ (emIS K) (recT d σ)) (p1 : Int) (σ : Sg) : Cc (MX4_plain (dp + 2)) K [aR 63, aI p1] σ (emIS K) (vX4_plain K recT p1 σ) := cc_of plX4 (Nat.le_of_ble_eq_true rfl) (fun o _ => ⟨Nat.le_refl _, Nat.le_refl _⟩) (fun Γ => tX4_plain hC dp hdp recT hrecT p1 σ)
noncomputable def vX4_both_12 (K : Kt) (recT : Int → Sg → Option (Int × Sg)) : Nat → Int → Int → Sg → Option (Int × Sg)
  | 0, _, _, _ => none
  | f + 1, x1, x2, σ => if x2 < 400 then (ck (0 ≤ (σ 63 6) ∧ (σ 63 6) < 401) (if (σ 71 (σ 63 6).toNat) = 322 then (ck (in32 ((σ 63 6) + 1)) (nm (up2 σ 63 6 ((σ 63 6) + 1)) (fun σ3 => bd2 (vX4_plain K recT x1 σ3) (fun r4 σ5 => if r4 = 0 then (some (0, σ5)) else ((vX7_add K (-3) σ5).bind (fun σ7 => ck (in32 (x2 + 1)) (vX4_both_12 K recT f x1 (x2 + 1) σ7))))))) else (some (1, σ)))) else (some (1, σ))
set_option maxRecDepth 100000 in
set_option maxHeartbeats 4000000 in
theorem tX4_both_12 {Γ : Gx} {K : Kt} (hC : cLay K) (dp : Nat) (hdp : 60 ≤ dp) (recT : Int → Sg → Option (Int × Sg)) (hrecT : ∀ (d : Int) (σ : Sg), Cc (MX4_test dp) K [aR 63, aI d] σ (emIS K) (recT d σ)) : ∀ (f : Nat) (x1 : Int) (x2 : Int) (σ : Sg), Y Γ (MX4_both (dp + 3)) K (emIS K) K 12 [some (aR 63), some (aI x1), some (aI x2)] [] σ (vX4_both_12 K recT f x1 x2 σ) := by
  intro f
  induction f with
  | zero => intro x1 x2 σ; exact y_none
  | succ f ih =>
    intro x1 x2 σ
    rw [vX4_both_12]
    refine y_iload_n dX4_both_12 rfl rfl ?_
    refine y_sipush dX4_both_13 (by decide) (by decide) ?_
    refine y_ite (fun h1 => ?_) (fun h1 => ?_)
    · refine y_icmp_ge_f dX4_both_16 (t := 69) rfl h1 ?_
      refine y_aload_n dX4_both_19 rfl rfl ?_
      refine y_getR fX4_24 (lcO_63 hC) rfl (lcR_63_3 hC) dX4_both_20 ?_
      refine y_aload_n dX4_both_23 rfl rfl ?_
      refine y_getI fX4_35 (lcO_63 hC) rfl dX4_both_24 ?_
      refine yk_iaload (lcA_71 hC) (N := 401) rfl (j := (σ 63 6).toNat) rfl dX4_both_27 ?_
      refine y_sipush dX4_both_28 (by decide) (by decide) ?_
      refine y_ite (fun h2 => ?_) (fun h2 => ?_)
      · refine y_icmp_ne_f dX4_both_31 (t := 69) rfl h2 ?_
        refine y_aload_n dX4_both_34 rfl rfl ?_
        refine y_dup dX4_both_35 (fun _ => rfl) ?_
        refine y_getI fX4_35 (lcO_63 hC) rfl dX4_both_36 ?_
        refine y_iconst dX4_both_39 (by decide) ?_
        refine yk_iadd dX4_both_40 ?_
        refine yn_putI fX4_35 (lcO_63 hC) rfl rfl dX4_both_41 (fun σ3 => ?_)
        refine y_aload_n dX4_both_44 rfl rfl ?_
        refine y_iload_n dX4_both_45 rfl rfl ?_
        refine y_cvIS (qX4_plain hC dp hdp recT hrecT x1 σ3) kX4_141 rfl (lcO_63 hC) rfl (show dp + 2 + 1 ≤ dp + 3 by omega) rfl (Nat.le_of_ble_eq_true rfl) dX4_both_46 (fun r4 σ5 => ?_)
        refine y_ite (fun h6 => ?_) (fun h6 => ?_)
        · refine y_if_ne_f dX4_both_49 (t := 54) rfl h6 ?_
          refine y_iconst dX4_both_52 (by decide) ?_
          exact y_zret (by decide) rfl rfl dX4_both_53
        · refine y_if_ne_t dX4_both_49 (t := 54) rfl h6 ?_
          refine y_aload_n dX4_both_54 rfl rfl ?_
          refine y_getR fX4_16 (lcO_63 hC) rfl (lcR_63_1 hC) dX4_both_55 ?_
          refine y_bipush dX4_both_58 (by decide) (by decide) ?_
          refine y_cvV (qX7_add hC (-3) σ5) kX4_118 rfl (lcO_64 hC) rfl (show 1 + 1 ≤ dp + 3 by omega) rfl (Nat.le_of_ble_eq_true rfl) dX4_both_60 (fun σ7 => ?_)
          refine yk_iinc dX4_both_63 rfl (L' := [some (aR 63), some (aI x1), some (aI (x2 + 1))]) rfl ?_
          refine y_goto dX4_both_66 (t := 12) rfl ?_
          exact ih x1 (x2 + 1) σ7
      · refine y_icmp_ne_t dX4_both_31 (t := 69) rfl h2 ?_
        refine y_iconst dX4_both_69 (by decide) ?_
        exact y_zret (by decide) rfl rfl dX4_both_70
    · refine y_icmp_ge_t dX4_both_16 (t := 69) rfl h1 ?_
      refine y_iconst dX4_both_69 (by decide) ?_
      exact y_zret (by decide) rfl rfl dX4_both_70
noncomputable def vX4_both (K : Kt) (recT : Int → Sg → Option (Int × Sg)) (p1 : Int) (σ : Sg) : Option (Int × Sg) := bd2 (vX4_plain K recT p1 σ) (fun r1 σ2 => if r1 = 0 then (some (0, σ2)) else (vX4_both_12 K recT FU p1 0 σ2))
set_option maxRecDepth 100000 in
set_option maxHeartbeats 4000000 in
theorem tX4_both {Γ : Gx} {K : Kt} (hC : cLay K) (dp : Nat) (hdp : 60 ≤ dp) (recT : Int → Sg → Option (Int × Sg)) (hrecT : ∀ (d : Int) (σ : Sg), Cc (MX4_test dp) K [aR 63, aI d] σ (emIS K) (recT d σ)) (p1 : Int) (σ : Sg) : Y Γ (MX4_both (dp + 3)) K (emIS K) K 0 [some (aR 63), some (aI p1), none] [] σ (vX4_both K recT p1 σ) := by
  unfold vX4_both
  refine y_aload_n dX4_both_0 rfl rfl ?_
  refine y_iload_n dX4_both_1 rfl rfl ?_
  refine y_cvIS (qX4_plain hC dp hdp recT hrecT p1 σ) kX4_141 rfl (lcO_63 hC) rfl (show dp + 2 + 1 ≤ dp + 3 by omega) rfl (Nat.le_of_ble_eq_true rfl) dX4_both_2 (fun r1 σ2 => ?_)
  refine y_ite (fun h3 => ?_) (fun h3 => ?_)
  · refine y_if_ne_f dX4_both_5 (t := 10) rfl h3 ?_
    refine y_iconst dX4_both_8 (by decide) ?_
    exact y_zret (by decide) rfl rfl dX4_both_9
  · refine y_if_ne_t dX4_both_5 (t := 10) rfl h3 ?_
    refine y_iconst dX4_both_10 (by decide) ?_
    refine y_istore_n dX4_both_11 rfl (Nat.le_of_ble_eq_true rfl) (L' := [some (aR 63), some (aI p1), some (aI 0)]) rfl ?_
    exact tX4_both_12 hC dp hdp recT hrecT FU p1 0 σ2
theorem qX4_both {K : Kt} (hC : cLay K) (dp : Nat) (hdp : 60 ≤ dp) (recT : Int → Sg → Option (Int × Sg)) (hrecT : ∀ (d : Int) (σ : Sg), Cc (MX4_test dp) K [aR 63, aI d] σ (emIS K) (recT d σ)) (p1 : Int) (σ : Sg) : Cc (MX4_both (dp + 3)) K [aR 63, aI p1] σ (emIS K) (vX4_both K recT p1 σ) := cc_of plX4 (Nat.le_of_ble_eq_true rfl) (fun o _ => ⟨Nat.le_refl _, Nat.le_refl _⟩) (fun Γ => tX4_both hC dp hdp recT hrecT p1 σ)
noncomputable def vX4_test_12 (K : Kt) (recT : Int → Sg → Option (Int × Sg)) : Nat → Int → Int → Sg → Option (Int × Sg)
  | 0, _, _, _ => none
  | f + 1, x1, x2, σ => if x2 < 400 then (ck (0 ≤ (σ 63 6) ∧ (σ 63 6) < 401) (if (σ 71 (σ 63 6).toNat) = 321 then (ck (in32 ((σ 63 6) + 1)) (nm (up2 σ 63 6 ((σ 63 6) + 1)) (fun σ3 => bd2 (vX4_both K recT x1 σ3) (fun r4 σ5 => if r4 = 0 then (some (0, σ5)) else ((vX7_add K (-2) σ5).bind (fun σ7 => ck (in32 (x2 + 1)) (vX4_test_12 K recT f x1 (x2 + 1) σ7))))))) else (some (1, σ)))) else (some (1, σ))
set_option maxRecDepth 100000 in
set_option maxHeartbeats 4000000 in
theorem tX4_test_12 {Γ : Gx} {K : Kt} (hC : cLay K) (dp : Nat) (hdp : 60 ≤ dp) (recT : Int → Sg → Option (Int × Sg)) (hrecT : ∀ (d : Int) (σ : Sg), Cc (MX4_test dp) K [aR 63, aI d] σ (emIS K) (recT d σ)) : ∀ (f : Nat) (x1 : Int) (x2 : Int) (σ : Sg), Y Γ (MX4_test (dp + 4)) K (emIS K) K 12 [some (aR 63), some (aI x1), some (aI x2)] [] σ (vX4_test_12 K recT f x1 x2 σ) := by
  intro f
  induction f with
  | zero => intro x1 x2 σ; exact y_none
  | succ f ih =>
    intro x1 x2 σ
    rw [vX4_test_12]
    refine y_iload_n dX4_test_12 rfl rfl ?_
    refine y_sipush dX4_test_13 (by decide) (by decide) ?_
    refine y_ite (fun h1 => ?_) (fun h1 => ?_)
    · refine y_icmp_ge_f dX4_test_16 (t := 69) rfl h1 ?_
      refine y_aload_n dX4_test_19 rfl rfl ?_
      refine y_getR fX4_24 (lcO_63 hC) rfl (lcR_63_3 hC) dX4_test_20 ?_
      refine y_aload_n dX4_test_23 rfl rfl ?_
      refine y_getI fX4_35 (lcO_63 hC) rfl dX4_test_24 ?_
      refine yk_iaload (lcA_71 hC) (N := 401) rfl (j := (σ 63 6).toNat) rfl dX4_test_27 ?_
      refine y_sipush dX4_test_28 (by decide) (by decide) ?_
      refine y_ite (fun h2 => ?_) (fun h2 => ?_)
      · refine y_icmp_ne_f dX4_test_31 (t := 69) rfl h2 ?_
        refine y_aload_n dX4_test_34 rfl rfl ?_
        refine y_dup dX4_test_35 (fun _ => rfl) ?_
        refine y_getI fX4_35 (lcO_63 hC) rfl dX4_test_36 ?_
        refine y_iconst dX4_test_39 (by decide) ?_
        refine yk_iadd dX4_test_40 ?_
        refine yn_putI fX4_35 (lcO_63 hC) rfl rfl dX4_test_41 (fun σ3 => ?_)
        refine y_aload_n dX4_test_44 rfl rfl ?_
        refine y_iload_n dX4_test_45 rfl rfl ?_
        refine y_cvIS (qX4_both hC dp hdp recT hrecT x1 σ3) kX4_138 rfl (lcO_63 hC) rfl (show dp + 3 + 1 ≤ dp + 4 by omega) rfl (Nat.le_of_ble_eq_true rfl) dX4_test_46 (fun r4 σ5 => ?_)
        refine y_ite (fun h6 => ?_) (fun h6 => ?_)
        · refine y_if_ne_f dX4_test_49 (t := 54) rfl h6 ?_
          refine y_iconst dX4_test_52 (by decide) ?_
          exact y_zret (by decide) rfl rfl dX4_test_53
        · refine y_if_ne_t dX4_test_49 (t := 54) rfl h6 ?_
          refine y_aload_n dX4_test_54 rfl rfl ?_
          refine y_getR fX4_16 (lcO_63 hC) rfl (lcR_63_1 hC) dX4_test_55 ?_
          refine y_bipush dX4_test_58 (by decide) (by decide) ?_
          refine y_cvV (qX7_add hC (-2) σ5) kX4_118 rfl (lcO_64 hC) rfl (show 1 + 1 ≤ dp + 4 by omega) rfl (Nat.le_of_ble_eq_true rfl) dX4_test_60 (fun σ7 => ?_)
          refine yk_iinc dX4_test_63 rfl (L' := [some (aR 63), some (aI x1), some (aI (x2 + 1))]) rfl ?_
          refine y_goto dX4_test_66 (t := 12) rfl ?_
          exact ih x1 (x2 + 1) σ7
      · refine y_icmp_ne_t dX4_test_31 (t := 69) rfl h2 ?_
        refine y_iconst dX4_test_69 (by decide) ?_
        exact y_zret (by decide) rfl rfl dX4_test_70
    · refine y_icmp_ge_t dX4_test_16 (t := 69) rfl h1 ?_
      refine y_iconst dX4_test_69 (by decide) ?_
      exact y_zret (by decide) rfl rfl dX4_test_70
noncomputable def vX4_test (K : Kt) (recT : Int → Sg → Option (Int × Sg)) (p1 : Int) (σ : Sg) : Option (Int × Sg) := bd2 (vX4_both K recT p1 σ) (fun r1 σ2 => if r1 = 0 then (some (0, σ2)) else (vX4_test_12 K recT FU p1 0 σ2))
set_option maxRecDepth 100000 in
set_option maxHeartbeats 4000000 in
theorem tX4_test {Γ : Gx} {K : Kt} (hC : cLay K) (dp : Nat) (hdp : 60 ≤ dp) (recT : Int → Sg → Option (Int × Sg)) (hrecT : ∀ (d : Int) (σ : Sg), Cc (MX4_test dp) K [aR 63, aI d] σ (emIS K) (recT d σ)) (p1 : Int) (σ : Sg) : Y Γ (MX4_test (dp + 4)) K (emIS K) K 0 [some (aR 63), some (aI p1), none] [] σ (vX4_test K recT p1 σ) := by
  unfold vX4_test
  refine y_aload_n dX4_test_0 rfl rfl ?_
  refine y_iload_n dX4_test_1 rfl rfl ?_
  refine y_cvIS (qX4_both hC dp hdp recT hrecT p1 σ) kX4_138 rfl (lcO_63 hC) rfl (show dp + 3 + 1 ≤ dp + 4 by omega) rfl (Nat.le_of_ble_eq_true rfl) dX4_test_2 (fun r1 σ2 => ?_)
  refine y_ite (fun h3 => ?_) (fun h3 => ?_)
  · refine y_if_ne_f dX4_test_5 (t := 10) rfl h3 ?_
    refine y_iconst dX4_test_8 (by decide) ?_
    exact y_zret (by decide) rfl rfl dX4_test_9
  · refine y_if_ne_t dX4_test_5 (t := 10) rfl h3 ?_
    refine y_iconst dX4_test_10 (by decide) ?_
    refine y_istore_n dX4_test_11 rfl (Nat.le_of_ble_eq_true rfl) (L' := [some (aR 63), some (aI p1), some (aI 0)]) rfl ?_
    exact tX4_test_12 hC dp hdp recT hrecT FU p1 0 σ2
theorem qX4_test {K : Kt} (hC : cLay K) (dp : Nat) (hdp : 60 ≤ dp) (recT : Int → Sg → Option (Int × Sg)) (hrecT : ∀ (d : Int) (σ : Sg), Cc (MX4_test dp) K [aR 63, aI d] σ (emIS K) (recT d σ)) (p1 : Int) (σ : Sg) : Cc (MX4_test (dp + 4)) K [aR 63, aI p1] σ (emIS K) (vX4_test K recT p1 σ) := cc_of plX4 (Nat.le_of_ble_eq_true rfl) (fun o _ => ⟨Nat.le_refl _, Nat.le_refl _⟩) (fun Γ => tX4_test hC dp hdp recT hrecT p1 σ)
noncomputable def vX4_testF (K : Kt) : Nat → Int → Sg → Option (Int × Sg)
  | 0, _, _ => none
  | f + 1, d, σ => vX4_test K (vX4_testF K f) d σ
theorem qX4_testF {K : Kt} (hC : cLay K) : ∀ (f : Nat) (d : Int) (σ : Sg), Cc (MX4_test (60 + 4 * f)) K [aR 63, aI d] σ (emIS K) (vX4_testF K f d σ)
  | 0, d, σ => fun o h => by cases h
  | f + 1, d, σ => by
    rw [vX4_testF]
    exact qX4_test hC (60 + 4 * f) (by omega) _ (qX4_testF hC f) d σ
noncomputable def vX4_wholeSum (K : Kt) (p1 : Nat) (p2 : Int) (σ : Sg) : Option (Int × Sg) := ckP (IsA K p1 20 (K.2.1 p1).2) (ck (0 ≤ p2 ∧ p2 < ((K.2.1 p1).2 : Int)) (nm (up2 σ p1 p2.toNat (σ 64 7)) (fun σ2 => bd2 (vX4_sumF K 12 0 σ2) (fun r3 σ4 => (vX7_add K (-1) σ4).bind (fun σ5 => ck (r3 = 0 ∨ r3 = 1) (some (r3, σ5)))))))
set_option maxRecDepth 100000 in
set_option maxHeartbeats 4000000 in
theorem tX4_wholeSum {Γ : Gx} {K : Kt} (hC : cLay K) (p1 : Nat) (p2 : Int) (σ : Sg) : Y Γ MX4_wholeSum K (emIS K) K 0 [some (aR 63), some (aR p1), some (aI p2), none] [] σ (vX4_wholeSum K p1 p2 σ) := by
  unfold vX4_wholeSum
  refine y_aload_n dX4_wholeSum_0 rfl rfl ?_
  refine y_iload_n dX4_wholeSum_1 rfl rfl ?_
  refine y_aload_n dX4_wholeSum_2 rfl rfl ?_
  refine y_getR fX4_16 (lcO_63 hC) rfl (lcR_63_1 hC) dX4_wholeSum_3 ?_
  refine y_getI fX4_114 (lcO_64 hC) rfl dX4_wholeSum_6 ?_
  refine y_ckP (fun hc1 => ?_)
  refine yk_iastore hc1 (N := ((K.2.1 p1).2 : Int)) rfl (j := p2.toNat) rfl dX4_wholeSum_9 (fun σ2 => ?_)
  refine y_aload_n dX4_wholeSum_10 rfl rfl ?_
  refine y_iconst dX4_wholeSum_11 (by decide) ?_
  refine y_cvIS (qX4_sumF hC 12 0 σ2) kX4_115 rfl (lcO_63 hC) rfl (by decide) rfl (Nat.le_of_ble_eq_true rfl) dX4_wholeSum_12 (fun r3 σ4 => ?_)
  refine y_istore_n dX4_wholeSum_15 rfl (Nat.le_of_ble_eq_true rfl) (L' := [some (aR 63), some (aR p1), some (aI p2), some (aI r3)]) rfl ?_
  refine y_aload_n dX4_wholeSum_16 rfl rfl ?_
  refine y_getR fX4_16 (lcO_63 hC) rfl (lcR_63_1 hC) dX4_wholeSum_17 ?_
  refine y_iconst dX4_wholeSum_20 (by decide) ?_
  refine y_cvV (qX7_add hC (-1) σ4) kX4_118 rfl (lcO_64 hC) rfl (by decide) rfl (Nat.le_of_ble_eq_true rfl) dX4_wholeSum_21 (fun σ5 => ?_)
  refine y_iload_n dX4_wholeSum_24 rfl rfl ?_
  exact yk_zret rfl rfl dX4_wholeSum_25
theorem qX4_wholeSum {K : Kt} (hC : cLay K) (p1 : Nat) (p2 : Int) (σ : Sg) : Cc MX4_wholeSum K [aR 63, aR p1, aI p2] σ (emIS K) (vX4_wholeSum K p1 p2 σ) := cc_of plX4 (Nat.le_of_ble_eq_true rfl) (fun o _ => ⟨Nat.le_refl _, Nat.le_refl _⟩) (fun Γ => tX4_wholeSum hC p1 p2 σ)
noncomputable def vX4_repeats (K : Kt) (p1 : Int) (σ : Sg) : Option (Int × Sg) := ck (0 ≤ (σ 63 6) ∧ (σ 63 6) < 401) (if (σ 71 (σ 63 6).toNat) = 325 then (ck (in32 ((σ 63 6) + 1)) (nm (up2 σ 63 6 ((σ 63 6) + 1)) (fun σ2 => (vX4_numberHere K 1 20 σ2).bind (fun r3 => if r3 = (-1) then (bd2 (vX4_fails K σ2) (fun r5 σ6 => ck (r5 = 0 ∨ r5 = 1) (some (r5, σ6)))) else (ck (0 ≤ p1 ∧ p1 < 12) (nm (up2 σ2 69 p1.toNat r3) (fun σ7 => ck (in32 ((σ7 63 6) + 1)) (nm (up2 σ7 63 6 ((σ7 63 6) + 1)) (fun σ8 => some (1, σ8)))))))))) else (some (1, σ)))
set_option maxRecDepth 100000 in
set_option maxHeartbeats 4000000 in
theorem tX4_repeats {Γ : Gx} {K : Kt} (hC : cLay K) (p1 : Int) (σ : Sg) : Y Γ MX4_repeats K (emIS K) K 0 [some (aR 63), some (aI p1), none] [] σ (vX4_repeats K p1 σ) := by
  unfold vX4_repeats
  refine y_aload_n dX4_repeats_0 rfl rfl ?_
  refine y_getR fX4_24 (lcO_63 hC) rfl (lcR_63_3 hC) dX4_repeats_1 ?_
  refine y_aload_n dX4_repeats_4 rfl rfl ?_
  refine y_getI fX4_35 (lcO_63 hC) rfl dX4_repeats_5 ?_
  refine yk_iaload (lcA_71 hC) (N := 401) rfl (j := (σ 63 6).toNat) rfl dX4_repeats_8 ?_
  refine y_sipush dX4_repeats_9 (by decide) (by decide) ?_
  refine y_ite (fun h1 => ?_) (fun h1 => ?_)
  · refine y_icmp_eq_t dX4_repeats_12 (t := 17) rfl h1 ?_
    refine y_aload_n dX4_repeats_17 rfl rfl ?_
    refine y_dup dX4_repeats_18 (fun _ => rfl) ?_
    refine y_getI fX4_35 (lcO_63 hC) rfl dX4_repeats_19 ?_
    refine y_iconst dX4_repeats_22 (by decide) ?_
    refine yk_iadd dX4_repeats_23 ?_
    refine yn_putI fX4_35 (lcO_63 hC) rfl rfl dX4_repeats_24 (fun σ2 => ?_)
    refine y_aload_n dX4_repeats_27 rfl rfl ?_
    refine y_iconst dX4_repeats_28 (by decide) ?_
    refine y_bipush dX4_repeats_29 (by decide) (by decide) ?_
    refine y_cvI (qX4_numberHere hC 1 20 σ2) kX4_127 rfl (lcO_63 hC) rfl (by decide) rfl (Nat.le_of_ble_eq_true rfl) dX4_repeats_31 (fun r3 => ?_)
    refine y_istore_n dX4_repeats_34 rfl (Nat.le_of_ble_eq_true rfl) (L' := [some (aR 63), some (aI p1), some (aI r3)]) rfl ?_
    refine y_iload_n dX4_repeats_35 rfl rfl ?_
    refine y_iconst dX4_repeats_36 (by decide) ?_
    refine y_ite (fun h4 => ?_) (fun h4 => ?_)
    · refine y_icmp_ne_f dX4_repeats_37 (t := 45) rfl h4 ?_
      refine y_aload_n dX4_repeats_40 rfl rfl ?_
      refine y_cvIS (qX4_fails hC σ2) kX4_61 rfl (lcO_63 hC) rfl (by decide) rfl (Nat.le_of_ble_eq_true rfl) dX4_repeats_41 (fun r5 σ6 => ?_)
      exact yk_zret rfl rfl dX4_repeats_44
    · refine y_icmp_ne_t dX4_repeats_37 (t := 45) rfl h4 ?_
      refine y_aload_n dX4_repeats_45 rfl rfl ?_
      refine y_getR fX4_16 (lcO_63 hC) rfl (lcR_63_1 hC) dX4_repeats_46 ?_
      refine y_getR fX4_130 (lcO_64 hC) rfl (lcR_64_4 hC) dX4_repeats_49 ?_
      refine y_iload_n dX4_repeats_52 rfl rfl ?_
      refine y_iload_n dX4_repeats_53 rfl rfl ?_
      refine yk_iastore (lcA_69 hC) (N := 12) rfl (j := p1.toNat) rfl dX4_repeats_54 (fun σ7 => ?_)
      refine y_aload_n dX4_repeats_55 rfl rfl ?_
      refine y_dup dX4_repeats_56 (fun _ => rfl) ?_
      refine y_getI fX4_35 (lcO_63 hC) rfl dX4_repeats_57 ?_
      refine y_iconst dX4_repeats_60 (by decide) ?_
      refine yk_iadd dX4_repeats_61 ?_
      refine yn_putI fX4_35 (lcO_63 hC) rfl rfl dX4_repeats_62 (fun σ8 => ?_)
      refine y_iconst dX4_repeats_65 (by decide) ?_
      exact y_zret (by decide) rfl rfl dX4_repeats_66
  · refine y_icmp_eq_f dX4_repeats_12 (t := 17) rfl h1 ?_
    refine y_iconst dX4_repeats_15 (by decide) ?_
    exact y_zret (by decide) rfl rfl dX4_repeats_16
theorem qX4_repeats {K : Kt} (hC : cLay K) (p1 : Int) (σ : Sg) : Cc MX4_repeats K [aR 63, aI p1] σ (emIS K) (vX4_repeats K p1 σ) := cc_of plX4 (Nat.le_of_ble_eq_true rfl) (fun o _ => ⟨Nat.le_refl _, Nat.le_refl _⟩) (fun Γ => tX4_repeats hC p1 σ)
noncomputable def vX4_condition (K : Kt) (p1 : Int) (σ : Sg) : Option (Int × Sg) := ck (0 ≤ (σ 63 6) ∧ (σ 63 6) < 401) (if (σ 71 (σ 63 6).toNat) = 324 then (ck (in32 ((σ 63 6) + 1)) (nm (up2 σ 63 6 ((σ 63 6) + 1)) (fun σ2 => ck (0 ≤ p1 ∧ p1 < 12) (nm (up2 σ2 68 p1.toNat (σ2 64 7)) (fun σ3 => bd2 (vX4_testF K 12 0 σ3) (fun r4 σ5 => (vX7_add K (-1) σ5).bind (fun σ6 => ck (r4 = 0 ∨ r4 = 1) (some (r4, σ6))))))))) else (some (1, σ)))
set_option maxRecDepth 100000 in
set_option maxHeartbeats 4000000 in
theorem tX4_condition {Γ : Gx} {K : Kt} (hC : cLay K) (p1 : Int) (σ : Sg) : Y Γ MX4_condition K (emIS K) K 0 [some (aR 63), some (aI p1), none] [] σ (vX4_condition K p1 σ) := by
  unfold vX4_condition
  refine y_aload_n dX4_condition_0 rfl rfl ?_
  refine y_getR fX4_24 (lcO_63 hC) rfl (lcR_63_3 hC) dX4_condition_1 ?_
  refine y_aload_n dX4_condition_4 rfl rfl ?_
  refine y_getI fX4_35 (lcO_63 hC) rfl dX4_condition_5 ?_
  refine yk_iaload (lcA_71 hC) (N := 401) rfl (j := (σ 63 6).toNat) rfl dX4_condition_8 ?_
  refine y_sipush dX4_condition_9 (by decide) (by decide) ?_
  refine y_ite (fun h1 => ?_) (fun h1 => ?_)
  · refine y_icmp_eq_t dX4_condition_12 (t := 17) rfl h1 ?_
    refine y_aload_n dX4_condition_17 rfl rfl ?_
    refine y_dup dX4_condition_18 (fun _ => rfl) ?_
    refine y_getI fX4_35 (lcO_63 hC) rfl dX4_condition_19 ?_
    refine y_iconst dX4_condition_22 (by decide) ?_
    refine yk_iadd dX4_condition_23 ?_
    refine yn_putI fX4_35 (lcO_63 hC) rfl rfl dX4_condition_24 (fun σ2 => ?_)
    refine y_aload_n dX4_condition_27 rfl rfl ?_
    refine y_getR fX4_16 (lcO_63 hC) rfl (lcR_63_1 hC) dX4_condition_28 ?_
    refine y_getR fX4_133 (lcO_64 hC) rfl (lcR_64_3 hC) dX4_condition_31 ?_
    refine y_iload_n dX4_condition_34 rfl rfl ?_
    refine y_aload_n dX4_condition_35 rfl rfl ?_
    refine y_getR fX4_16 (lcO_63 hC) rfl (lcR_63_1 hC) dX4_condition_36 ?_
    refine y_getI fX4_114 (lcO_64 hC) rfl dX4_condition_39 ?_
    refine yk_iastore (lcA_68 hC) (N := 12) rfl (j := p1.toNat) rfl dX4_condition_42 (fun σ3 => ?_)
    refine y_aload_n dX4_condition_43 rfl rfl ?_
    refine y_iconst dX4_condition_44 (by decide) ?_
    refine y_cvIS (qX4_testF hC 12 0 σ3) kX4_136 rfl (lcO_63 hC) rfl (by decide) rfl (Nat.le_of_ble_eq_true rfl) dX4_condition_45 (fun r4 σ5 => ?_)
    refine y_istore_n dX4_condition_48 rfl (Nat.le_of_ble_eq_true rfl) (L' := [some (aR 63), some (aI p1), some (aI r4)]) rfl ?_
    refine y_aload_n dX4_condition_49 rfl rfl ?_
    refine y_getR fX4_16 (lcO_63 hC) rfl (lcR_63_1 hC) dX4_condition_50 ?_
    refine y_iconst dX4_condition_53 (by decide) ?_
    refine y_cvV (qX7_add hC (-1) σ5) kX4_118 rfl (lcO_64 hC) rfl (by decide) rfl (Nat.le_of_ble_eq_true rfl) dX4_condition_54 (fun σ6 => ?_)
    refine y_iload_n dX4_condition_57 rfl rfl ?_
    exact yk_zret rfl rfl dX4_condition_58
  · refine y_icmp_eq_f dX4_condition_12 (t := 17) rfl h1 ?_
    refine y_iconst dX4_condition_15 (by decide) ?_
    exact y_zret (by decide) rfl rfl dX4_condition_16
theorem qX4_condition {K : Kt} (hC : cLay K) (p1 : Int) (σ : Sg) : Cc MX4_condition K [aR 63, aI p1] σ (emIS K) (vX4_condition K p1 σ) := cc_of plX4 (Nat.le_of_ble_eq_true rfl) (fun o _ => ⟨Nat.le_refl _, Nat.le_refl _⟩) (fun Γ => tX4_condition hC p1 σ)
noncomputable def vX4_lawClause_23 (K : Kt) (σ : Sg) : Option (Int × Sg) := bd2 (vX4_fails K σ) (fun r1 σ2 => ck (r1 = 0 ∨ r1 = 1) (some (r1, σ2)))
set_option maxRecDepth 100000 in
set_option maxHeartbeats 4000000 in
theorem tX4_lawClause_23 {Γ : Gx} {K : Kt} (hC : cLay K) (σ : Sg) : Y Γ MX4_lawClause K (emIS K) K 23 [some (aR 63), none, none] [] σ (vX4_lawClause_23 K σ) := by
  unfold vX4_lawClause_23
  refine y_aload_n dX4_lawClause_23 rfl rfl ?_
  refine y_cvIS (qX4_fails hC σ) kX4_61 rfl (lcO_63 hC) rfl (by decide) rfl (Nat.le_of_ble_eq_true rfl) dX4_lawClause_24 (fun r1 σ2 => ?_)
  exact yk_zret rfl rfl dX4_lawClause_27
noncomputable def vX4_lawClause (K : Kt) (p1 : Int) (σ : Sg) : Option (Int × Sg) := ck (0 ≤ (σ 63 6) ∧ (σ 63 6) < 401) (ck (in32 ((σ 71 (σ 63 6).toNat) - 300)) (nm ((σ 71 (σ 63 6).toNat) - 300) (fun z1 => if z1 < 0 then (vX4_lawClause_23 K σ) else (if 3 < z1 then (vX4_lawClause_23 K σ) else (ck (in32 ((σ 63 6) + 1)) (nm (up2 σ 63 6 ((σ 63 6) + 1)) (fun σ4 => (vX7_open K z1 σ4).bind (fun σ5 => if z1 = 3 then (some (1, σ5)) else (bd2 (vX4_wholeSum K 66 p1 σ5) (fun r7 σ8 => if r7 = 0 then (some (0, σ8)) else (some (1, σ8))))))))))))
set_option maxRecDepth 100000 in
set_option maxHeartbeats 4000000 in
theorem tX4_lawClause {Γ : Gx} {K : Kt} (hC : cLay K) (p1 : Int) (σ : Sg) : Y Γ MX4_lawClause K (emIS K) K 0 [some (aR 63), some (aI p1), none] [] σ (vX4_lawClause K p1 σ) := by
  unfold vX4_lawClause
  refine y_aload_n dX4_lawClause_0 rfl rfl ?_
  refine y_getR fX4_24 (lcO_63 hC) rfl (lcR_63_3 hC) dX4_lawClause_1 ?_
  refine y_aload_n dX4_lawClause_4 rfl rfl ?_
  refine y_getI fX4_35 (lcO_63 hC) rfl dX4_lawClause_5 ?_
  refine yk_iaload (lcA_71 hC) (N := 401) rfl (j := (σ 63 6).toNat) rfl dX4_lawClause_8 ?_
  refine y_sipush dX4_lawClause_9 (by decide) (by decide) ?_
  refine yk_isub dX4_lawClause_12 ?_
  refine yn_istore_n dX4_lawClause_13 rfl (Nat.le_of_ble_eq_true rfl) (L' := fun z1 => [some (aR 63), some (aI p1), some (aI z1)]) (fun _ => rfl) (fun z1 => ?_)
  refine y_iload_n dX4_lawClause_14 rfl rfl ?_
  refine y_ite (fun h2 => ?_) (fun h2 => ?_)
  · refine y_if_lt_t dX4_lawClause_15 (t := 23) rfl h2 ?_
    refine y_fg [true, false, false] (L' := [some (aR 63), none, none]) rfl ?_
    exact tX4_lawClause_23 hC σ
  · refine y_if_lt_f dX4_lawClause_15 (t := 23) rfl h2 ?_
    refine y_iload_n dX4_lawClause_18 rfl rfl ?_
    refine y_iconst dX4_lawClause_19 (by decide) ?_
    refine y_ite (fun h3 => ?_) (fun h3 => ?_)
    · refine y_icmp_le_f dX4_lawClause_20 (t := 28) rfl h3 ?_
      refine y_fg [true, false, false] (L' := [some (aR 63), none, none]) rfl ?_
      exact tX4_lawClause_23 hC σ
    · refine y_icmp_le_t dX4_lawClause_20 (t := 28) rfl h3 ?_
      refine y_aload_n dX4_lawClause_28 rfl rfl ?_
      refine y_dup dX4_lawClause_29 (fun _ => rfl) ?_
      refine y_getI fX4_35 (lcO_63 hC) rfl dX4_lawClause_30 ?_
      refine y_iconst dX4_lawClause_33 (by decide) ?_
      refine yk_iadd dX4_lawClause_34 ?_
      refine yn_putI fX4_35 (lcO_63 hC) rfl rfl dX4_lawClause_35 (fun σ4 => ?_)
      refine y_aload_n dX4_lawClause_38 rfl rfl ?_
      refine y_getR fX4_16 (lcO_63 hC) rfl (lcR_63_1 hC) dX4_lawClause_39 ?_
      refine y_iload_n dX4_lawClause_42 rfl rfl ?_
      refine y_cvV (qX7_open hC z1 σ4) kX4_103 rfl (lcO_64 hC) rfl (by decide) rfl (Nat.le_of_ble_eq_true rfl) dX4_lawClause_43 (fun σ5 => ?_)
      refine y_iload_n dX4_lawClause_46 rfl rfl ?_
      refine y_iconst dX4_lawClause_47 (by decide) ?_
      refine y_ite (fun h6 => ?_) (fun h6 => ?_)
      · refine y_icmp_eq_t dX4_lawClause_48 (t := 66) rfl h6 ?_
        refine y_iconst dX4_lawClause_66 (by decide) ?_
        refine y_goto dX4_lawClause_67 (t := 71) rfl ?_
        exact y_zret (by decide) rfl rfl dX4_lawClause_71
      · refine y_icmp_eq_f dX4_lawClause_48 (t := 66) rfl h6 ?_
        refine y_aload_n dX4_lawClause_51 rfl rfl ?_
        refine y_aload_n dX4_lawClause_52 rfl rfl ?_
        refine y_getR fX4_16 (lcO_63 hC) rfl (lcR_63_1 hC) dX4_lawClause_53 ?_
        refine y_getR fX4_107 (lcO_64 hC) rfl (lcR_64_1 hC) dX4_lawClause_56 ?_
        refine y_iload_n dX4_lawClause_59 rfl rfl ?_
        refine y_cvIS (qX4_wholeSum hC 66 p1 σ5) kX4_110 rfl (lcO_63 hC) rfl (by decide) rfl (Nat.le_of_ble_eq_true rfl) dX4_lawClause_60 (fun r7 σ8 => ?_)
        refine y_ite (fun h9 => ?_) (fun h9 => ?_)
        · refine y_if_eq_t dX4_lawClause_63 (t := 70) rfl h9 ?_
          refine y_iconst dX4_lawClause_70 (by decide) ?_
          exact y_zret (by decide) rfl rfl dX4_lawClause_71
        · refine y_if_eq_f dX4_lawClause_63 (t := 70) rfl h9 ?_
          refine y_iconst dX4_lawClause_66 (by decide) ?_
          refine y_goto dX4_lawClause_67 (t := 71) rfl ?_
          exact y_zret (by decide) rfl rfl dX4_lawClause_71
theorem qX4_lawClause {K : Kt} (hC : cLay K) (p1 : Int) (σ : Sg) : Cc MX4_lawClause K [aR 63, aI p1] σ (emIS K) (vX4_lawClause K p1 σ) := cc_of plX4 (Nat.le_of_ble_eq_true rfl) (fun o _ => ⟨Nat.le_refl _, Nat.le_refl _⟩) (fun Γ => tX4_lawClause hC p1 σ)
