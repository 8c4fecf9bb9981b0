noncomputable def vJ6_bitCount_0f7a4 (p1 : Int) (σ : Sg) : Option (Int) := ck (in32 (p1 - (bAnd (bUsh p1 1) 1431655765))) (nm (p1 - (bAnd (bUsh p1 1) 1431655765)) (fun z1 => ck (in32 ((bAnd z1 858993459) + (bAnd (bUsh z1 2) 858993459))) (nm ((bAnd z1 858993459) + (bAnd (bUsh z1 2) 858993459)) (fun z2 => ck (in32 (z2 + (bUsh z2 4))) (nm (bAnd (z2 + (bUsh z2 4)) 252645135) (fun z3 => ck (in32 (z3 + (bUsh z3 8))) (nm (z3 + (bUsh z3 8)) (fun z4 => ck (in32 (z4 + (bUsh z4 16))) (nm (z4 + (bUsh z4 16)) (fun z5 => some (bAnd z5 63)))))))))))
set_option maxRecDepth 100000 in
set_option maxHeartbeats 4000000 in
theorem tJ6_bitCount_0f7a4 {Γ : Gx} {K : Kt} (p1 : Int) (σ : Sg) : Y Γ MJ6_bitCount_0f7a4 K (emI K σ) K 0 [some (aI p1)] [] σ (vJ6_bitCount_0f7a4 p1 σ) := by
  unfold vJ6_bitCount_0f7a4
  refine y_iload_n dJ6_bitCount_0f7a4_0 rfl rfl ?_
  refine y_iload_n dJ6_bitCount_0f7a4_1 rfl rfl ?_
  refine y_iconst dJ6_bitCount_0f7a4_2 (by decide) ?_
  refine y_iushr dJ6_bitCount_0f7a4_3 ?_
  refine y_ldcw 1431655765 wJ6_c265 dJ6_bitCount_0f7a4_4 (by decide) (by decide) ?_
  refine y_iand dJ6_bitCount_0f7a4_7 ?_
  refine yk_isub dJ6_bitCount_0f7a4_8 ?_
  refine yn_istore_n dJ6_bitCount_0f7a4_9 rfl (Nat.le_of_ble_eq_true rfl) (L' := fun z1 => [some (aI z1)]) (fun _ => rfl) (fun z1 => ?_)
  refine y_iload_n dJ6_bitCount_0f7a4_10 rfl rfl ?_
  refine y_ldcw 858993459 wJ6_c266 dJ6_bitCount_0f7a4_11 (by decide) (by decide) ?_
  refine y_iand dJ6_bitCount_0f7a4_14 ?_
  refine y_iload_n dJ6_bitCount_0f7a4_15 rfl rfl ?_
  refine y_iconst dJ6_bitCount_0f7a4_16 (by decide) ?_
  refine y_iushr dJ6_bitCount_0f7a4_17 ?_
  refine y_ldcw 858993459 wJ6_c266 dJ6_bitCount_0f7a4_18 (by decide) (by decide) ?_
  refine y_iand dJ6_bitCount_0f7a4_21 ?_
  refine yk_iadd dJ6_bitCount_0f7a4_22 ?_
  refine yn_istore_n dJ6_bitCount_0f7a4_23 rfl (Nat.le_of_ble_eq_true rfl) (L' := fun z2 => [some (aI z2)]) (fun _ => rfl) (fun z2 => ?_)
  refine y_iload_n dJ6_bitCount_0f7a4_24 rfl rfl ?_
  refine y_iload_n dJ6_bitCount_0f7a4_25 rfl rfl ?_
  refine y_iconst dJ6_bitCount_0f7a4_26 (by decide) ?_
  refine y_iushr dJ6_bitCount_0f7a4_27 ?_
  refine yk_iadd dJ6_bitCount_0f7a4_28 ?_
  refine y_ldcw 252645135 wJ6_c267 dJ6_bitCount_0f7a4_29 (by decide) (by decide) ?_
  refine y_iand dJ6_bitCount_0f7a4_32 ?_
  refine yn_istore_n dJ6_bitCount_0f7a4_33 rfl (Nat.le_of_ble_eq_true rfl) (L' := fun z3 => [some (aI z3)]) (fun _ => rfl) (fun z3 => ?_)
  refine y_iload_n dJ6_bitCount_0f7a4_34 rfl rfl ?_
  refine y_iload_n dJ6_bitCount_0f7a4_35 rfl rfl ?_
  refine y_bipush dJ6_bitCount_0f7a4_36 (by decide) (by decide) ?_
  refine y_iushr dJ6_bitCount_0f7a4_38 ?_
  refine yk_iadd dJ6_bitCount_0f7a4_39 ?_
  refine yn_istore_n dJ6_bitCount_0f7a4_40 rfl (Nat.le_of_ble_eq_true rfl) (L' := fun z4 => [some (aI z4)]) (fun _ => rfl) (fun z4 => ?_)
  refine y_iload_n dJ6_bitCount_0f7a4_41 rfl rfl ?_
  refine y_iload_n dJ6_bitCount_0f7a4_42 rfl rfl ?_
  refine y_bipush dJ6_bitCount_0f7a4_43 (by decide) (by decide) ?_
  refine y_iushr dJ6_bitCount_0f7a4_45 ?_
  refine yk_iadd dJ6_bitCount_0f7a4_46 ?_
  refine yn_istore_n dJ6_bitCount_0f7a4_47 rfl (Nat.le_of_ble_eq_true rfl) (L' := fun z5 => [some (aI z5)]) (fun _ => rfl) (fun z5 => ?_)
  refine y_iload_n dJ6_bitCount_0f7a4_48 rfl rfl ?_
  refine y_bipush dJ6_bitCount_0f7a4_49 (by decide) (by decide) ?_
  refine y_iand dJ6_bitCount_0f7a4_51 ?_
  exact y_iret rfl rfl dJ6_bitCount_0f7a4_52
theorem qJ6_bitCount_0f7a4 {K : Kt} (p1 : Int) (σ : Sg) : Cc MJ6_bitCount_0f7a4 K [aI p1] σ (emI K σ) (vJ6_bitCount_0f7a4 p1 σ) := cc_of plJ6 (Nat.le_of_ble_eq_true rfl) (fun o _ => ⟨Nat.le_refl _, Nat.le_refl _⟩) (fun Γ => tJ6_bitCount_0f7a4 p1 σ)
noncomputable def vX0_mostPairs_16 (K : Kt) (σ : Sg) : Nat → Int → Int → Int → Int → Int → Option (Int)
  | 0, _, _, _, _, _ => none
  | f + 1, x1, x2, x3, x4, x5 => if x5 < (bShl 1 (σ 13 2)) then ((vJ6_bitCount_0f7a4 x5 σ).bind (fun r2 => ck (in32 (x3 - r2)) (ck (0 ≤ x5 ∧ x5 < 64) ((vJ6_bitCount_0f7a4 (bAnd (σ 74 x5.toNat) x2) σ).bind (fun r3 => ck (in32 ((x3 - r2) + r3)) (nm ((x3 - r2) + r3) (fun z4 => nm (imin x4 z4) (fun z5 => ck (in32 (x5 + (bShl 1 x1))) (nm (x5 + (bShl 1 x1)) (fun z6 => vX0_mostPairs_16 K σ f x1 x2 x3 z5 z6)))))))))) else (some x4)
set_option maxRecDepth 100000 in
set_option maxHeartbeats 4000000 in
theorem tX0_mostPairs_16 {Γ : Gx} {K : Kt} (hC : cLay K) (σ : Sg) : ∀ (f : Nat) (x1 : Int) (x2 : Int) (x3 : Int) (x4 : Int) (x5 : Int), Y Γ MX0_mostPairs K (emI K σ) K 16 [some (aR 73), some (aI x1), some (aI x2), some (aI x3), some (aI x4), some (aI x5), none] [] σ (vX0_mostPairs_16 K σ f x1 x2 x3 x4 x5) := by
  intro f
  induction f with
  | zero => intro x1 x2 x3 x4 x5; exact y_none
  | succ f ih =>
    intro x1 x2 x3 x4 x5
    rw [vX0_mostPairs_16]
    refine y_iload dX0_mostPairs_16 rfl ?_
    refine y_iconst dX0_mostPairs_18 (by decide) ?_
    refine y_aload_n dX0_mostPairs_19 rfl rfl ?_
    refine y_getR fX0_35 (lcO_73 hC) rfl (lcR_73_0 hC) dX0_mostPairs_20 ?_
    refine y_getI fX0_49 (lcO_13 hC) rfl dX0_mostPairs_23 ?_
    refine y_ishl dX0_mostPairs_26 ?_
    refine y_ite (fun h1 => ?_) (fun h1 => ?_)
    · refine y_icmp_ge_f dX0_mostPairs_27 (t := 72) rfl h1 ?_
      refine y_iload_n dX0_mostPairs_30 rfl rfl ?_
      refine y_iload dX0_mostPairs_31 rfl ?_
      refine y_csI (qJ6_bitCount_0f7a4 (K := K) x5 σ) kX0_60 rfl (by decide) rfl (Nat.le_of_ble_eq_true rfl) dX0_mostPairs_33 (fun r2 => ?_)
      refine yk_isub dX0_mostPairs_36 ?_
      refine y_aload_n dX0_mostPairs_37 rfl rfl ?_
      refine y_getR fX0_11 (lcO_73 hC) rfl (lcR_73_1 hC) dX0_mostPairs_38 ?_
      refine y_iload dX0_mostPairs_41 rfl ?_
      refine yk_iaload (lcA_74 hC) (N := 64) rfl (j := x5.toNat) rfl dX0_mostPairs_43 ?_
      refine y_iload_n dX0_mostPairs_44 rfl rfl ?_
      refine y_iand dX0_mostPairs_45 ?_
      refine y_csI (qJ6_bitCount_0f7a4 (K := K) (bAnd (σ 74 x5.toNat) x2) σ) kX0_60 rfl (by decide) rfl (Nat.le_of_ble_eq_true rfl) dX0_mostPairs_46 (fun r3 => ?_)
      refine yk_iadd dX0_mostPairs_49 ?_
      refine yn_istore dX0_mostPairs_50 (Nat.le_of_ble_eq_true rfl) (L' := fun z4 => [some (aR 73), some (aI x1), some (aI x2), some (aI x3), some (aI x4), some (aI x5), some (aI z4)]) (fun _ => rfl) (fun z4 => ?_)
      refine y_iload dX0_mostPairs_52 rfl ?_
      refine y_iload dX0_mostPairs_54 rfl ?_
      refine y_imin mX0_66 (by decide) (Nat.le_of_ble_eq_true rfl) dX0_mostPairs_56 ?_
      refine yn_istore dX0_mostPairs_59 (Nat.le_of_ble_eq_true rfl) (L' := fun z5 => [some (aR 73), some (aI x1), some (aI x2), some (aI x3), some (aI z5), some (aI x5), some (aI z4)]) (fun _ => rfl) (fun z5 => ?_)
      refine y_iload dX0_mostPairs_61 rfl ?_
      refine y_iconst dX0_mostPairs_63 (by decide) ?_
      refine y_iload_n dX0_mostPairs_64 rfl rfl ?_
      refine y_ishl dX0_mostPairs_65 ?_
      refine yk_iadd dX0_mostPairs_66 ?_
      refine yn_istore dX0_mostPairs_67 (Nat.le_of_ble_eq_true rfl) (L' := fun z6 => [some (aR 73), some (aI x1), some (aI x2), some (aI x3), some (aI z5), some (aI z6), some (aI z4)]) (fun _ => rfl) (fun z6 => ?_)
      refine y_goto dX0_mostPairs_69 (t := 16) rfl ?_
      refine y_fg [true, true, true, true, true, true, false] (L' := [some (aR 73), some (aI x1), some (aI x2), some (aI x3), some (aI z5), some (aI z6), none]) rfl ?_
      exact ih x1 x2 x3 z5 z6
    · refine y_icmp_ge_t dX0_mostPairs_27 (t := 72) rfl h1 ?_
      refine y_iload dX0_mostPairs_72 rfl ?_
      exact y_iret rfl rfl dX0_mostPairs_74
noncomputable def vX0_mostPairs (K : Kt) (p1 : Int) (p2 : Int) (σ : Sg) : Option (Int) := ck (in32 ((σ 13 2) - p1)) (nm ((σ 13 2) - p1) (fun z1 => vX0_mostPairs_16 K σ FU p1 p2 z1 z1 0))
set_option maxRecDepth 100000 in
set_option maxHeartbeats 4000000 in
theorem tX0_mostPairs {Γ : Gx} {K : Kt} (hC : cLay K) (p1 : Int) (p2 : Int) (σ : Sg) : Y Γ MX0_mostPairs K (emI K σ) K 0 [some (aR 73), some (aI p1), some (aI p2), none, none, none, none] [] σ (vX0_mostPairs K p1 p2 σ) := by
  unfold vX0_mostPairs
  refine y_aload_n dX0_mostPairs_0 rfl rfl ?_
  refine y_getR fX0_35 (lcO_73 hC) rfl (lcR_73_0 hC) dX0_mostPairs_1 ?_
  refine y_getI fX0_49 (lcO_13 hC) rfl dX0_mostPairs_4 ?_
  refine y_iload_n dX0_mostPairs_7 rfl rfl ?_
  refine yk_isub dX0_mostPairs_8 ?_
  refine yn_istore_n dX0_mostPairs_9 rfl (Nat.le_of_ble_eq_true rfl) (L' := fun z1 => [some (aR 73), some (aI p1), some (aI p2), some (aI z1), none, none, none]) (fun _ => rfl) (fun z1 => ?_)
  refine y_iload_n dX0_mostPairs_10 rfl rfl ?_
  refine y_istore dX0_mostPairs_11 (Nat.le_of_ble_eq_true rfl) (L' := [some (aR 73), some (aI p1), some (aI p2), some (aI z1), some (aI z1), none, none]) rfl ?_
  refine y_iconst dX0_mostPairs_13 (by decide) ?_
  refine y_istore dX0_mostPairs_14 (Nat.le_of_ble_eq_true rfl) (L' := [some (aR 73), some (aI p1), some (aI p2), some (aI z1), some (aI z1), some (aI 0), none]) rfl ?_
  exact tX0_mostPairs_16 hC σ FU p1 p2 z1 z1 0
theorem qX0_mostPairs {K : Kt} (hC : cLay K) (p1 : Int) (p2 : Int) (σ : Sg) : Cc MX0_mostPairs K [aR 73, aI p1, aI p2] σ (emI K σ) (vX0_mostPairs K p1 p2 σ) := cc_of plX0 (Nat.le_of_ble_eq_true rfl) (fun o _ => ⟨Nat.le_refl _, Nat.le_refl _⟩) (fun Γ => tX0_mostPairs hC p1 p2 σ)
noncomputable def vX0_firstServed_42 (K : Kt) (σ : Sg) (rec_3 : Int → Int → Int → Int → Option (Int)) (x1 : Int) (x2 : Int) (x3 : Int) (x4 : Int) (x5 : Int) (y0 : Int) : Option (Int) := if y0 = 0 then (ck (in32 (x4 + 1)) (rec_3 x1 x2 x3 (x4 + 1))) else (ck (in32 (x1 + 1)) ((vX0_mostPairs K (x1 + 1) (bAnd x2 (bXor x5 (-1))) σ).bind (fun r2 => ck (in32 (x3 - 1)) (if r2 = (x3 - 1) then (some x4) else (ck (in32 (x4 + 1)) (rec_3 x1 x2 x3 (x4 + 1)))))))
set_option maxRecDepth 100000 in
set_option maxHeartbeats 4000000 in
theorem tX0_firstServed_42 {Γ : Gx} {K : Kt} (hC : cLay K) (σ : Sg) (rec_3 : Int → Int → Int → Int → Option (Int)) (hrec_3 : ∀ (x1 : Int) (x2 : Int) (x3 : Int) (x4 : Int), Y Γ MX0_firstServed K (emI K σ) K 3 [some (aR 73), some (aI x1), some (aI x2), some (aI x3), some (aI x4), none, none] [] σ (rec_3 x1 x2 x3 x4)) (x1 : Int) (x2 : Int) (x3 : Int) (x4 : Int) (x5 : Int) (y0 : Int) : Y Γ MX0_firstServed K (emI K σ) K 42 [some (aR 73), some (aI x1), some (aI x2), some (aI x3), some (aI x4), some (aI x5), none] [aI y0] σ (vX0_firstServed_42 K σ rec_3 x1 x2 x3 x4 x5 y0) := by
  unfold vX0_firstServed_42
  refine y_istore dX0_firstServed_42 (Nat.le_of_ble_eq_true rfl) (L' := [some (aR 73), some (aI x1), some (aI x2), some (aI x3), some (aI x4), some (aI x5), some (aI y0)]) rfl ?_
  refine y_iload dX0_firstServed_44 rfl ?_
  refine y_ite (fun h1 => ?_) (fun h1 => ?_)
  · refine y_if_eq_t dX0_firstServed_46 (t := 71) rfl h1 ?_
    refine yk_iinc dX0_firstServed_71 rfl (L' := [some (aR 73), some (aI x1), some (aI x2), some (aI x3), some (aI (x4 + 1)), some (aI x5), some (aI y0)]) rfl ?_
    refine y_goto dX0_firstServed_74 (t := 3) rfl ?_
    refine y_fg [true, true, true, true, true, false, false] (L' := [some (aR 73), some (aI x1), some (aI x2), some (aI x3), some (aI (x4 + 1)), none, none]) rfl ?_
    exact hrec_3 x1 x2 x3 (x4 + 1)
  · refine y_if_eq_f dX0_firstServed_46 (t := 71) rfl h1 ?_
    refine y_aload_n dX0_firstServed_49 rfl rfl ?_
    refine y_iload_n dX0_firstServed_50 rfl rfl ?_
    refine y_iconst dX0_firstServed_51 (by decide) ?_
    refine yk_iadd dX0_firstServed_52 ?_
    refine y_iload_n dX0_firstServed_53 rfl rfl ?_
    refine y_iload dX0_firstServed_54 rfl ?_
    refine y_iconst dX0_firstServed_56 (by decide) ?_
    refine y_ixor dX0_firstServed_57 ?_
    refine y_iand dX0_firstServed_58 ?_
    refine y_cvI (qX0_mostPairs hC (x1 + 1) (bAnd x2 (bXor x5 (-1))) σ) kX0_45 rfl (lcO_73 hC) rfl (by decide) rfl (Nat.le_of_ble_eq_true rfl) dX0_firstServed_59 (fun r2 => ?_)
    refine y_iload_n dX0_firstServed_62 rfl rfl ?_
    refine y_iconst dX0_firstServed_63 (by decide) ?_
    refine yk_isub dX0_firstServed_64 ?_
    refine y_ite (fun h3 => ?_) (fun h3 => ?_)
    · refine y_icmp_ne_f dX0_firstServed_65 (t := 71) rfl h3 ?_
      refine y_iload dX0_firstServed_68 rfl ?_
      exact y_iret rfl rfl dX0_firstServed_70
    · refine y_icmp_ne_t dX0_firstServed_65 (t := 71) rfl h3 ?_
      refine yk_iinc dX0_firstServed_71 rfl (L' := [some (aR 73), some (aI x1), some (aI x2), some (aI x3), some (aI (x4 + 1)), some (aI x5), some (aI y0)]) rfl ?_
      refine y_goto dX0_firstServed_74 (t := 3) rfl ?_
      refine y_fg [true, true, true, true, true, false, false] (L' := [some (aR 73), some (aI x1), some (aI x2), some (aI x3), some (aI (x4 + 1)), none, none]) rfl ?_
      exact hrec_3 x1 x2 x3 (x4 + 1)
noncomputable def vX0_firstServed_3 (K : Kt) (σ : Sg) : Nat → Int → Int → Int → Int → Option (Int)
  | 0, _, _, _, _ => none
  | f + 1, x1, x2, x3, x4 => if x4 < (σ 13 1) then (nm (bShl 1 x4) (fun z2 => ck (0 ≤ (bShl 1 x1) ∧ (bShl 1 x1) < 64) (if (bAnd (bAnd (σ 74 (bShl 1 x1).toNat) x2) z2) = 0 then (vX0_firstServed_42 K σ (vX0_firstServed_3 K σ f) x1 x2 x3 x4 z2 0) else (vX0_firstServed_42 K σ (vX0_firstServed_3 K σ f) x1 x2 x3 x4 z2 1)))) else (some 100)
set_option maxRecDepth 100000 in
set_option maxHeartbeats 4000000 in
theorem tX0_firstServed_3 {Γ : Gx} {K : Kt} (hC : cLay K) (σ : Sg) : ∀ (f : Nat) (x1 : Int) (x2 : Int) (x3 : Int) (x4 : Int), Y Γ MX0_firstServed K (emI K σ) K 3 [some (aR 73), some (aI x1), some (aI x2), some (aI x3), some (aI x4), none, none] [] σ (vX0_firstServed_3 K σ f x1 x2 x3 x4) := by
  intro f
  induction f with
  | zero => intro x1 x2 x3 x4; exact y_none
  | succ f ih =>
    intro x1 x2 x3 x4
    rw [vX0_firstServed_3]
    refine y_iload dX0_firstServed_3 rfl ?_
    refine y_aload_n dX0_firstServed_5 rfl rfl ?_
    refine y_getR fX0_35 (lcO_73 hC) rfl (lcR_73_0 hC) dX0_firstServed_6 ?_
    refine y_getI fX0_39 (lcO_13 hC) rfl dX0_firstServed_9 ?_
    refine y_ite (fun h1 => ?_) (fun h1 => ?_)
    · refine y_icmp_ge_f dX0_firstServed_12 (t := 77) rfl h1 ?_
      refine y_iconst dX0_firstServed_15 (by decide) ?_
      refine y_iload dX0_firstServed_16 rfl ?_
      refine y_ishl dX0_firstServed_18 ?_
      refine yn_istore dX0_firstServed_19 (Nat.le_of_ble_eq_true rfl) (L' := fun z2 => [some (aR 73), some (aI x1), some (aI x2), some (aI x3), some (aI x4), some (aI z2), none]) (fun _ => rfl) (fun z2 => ?_)
      refine y_aload_n dX0_firstServed_21 rfl rfl ?_
      refine y_getR fX0_11 (lcO_73 hC) rfl (lcR_73_1 hC) dX0_firstServed_22 ?_
      refine y_iconst dX0_firstServed_25 (by decide) ?_
      refine y_iload_n dX0_firstServed_26 rfl rfl ?_
      refine y_ishl dX0_firstServed_27 ?_
      refine yk_iaload (lcA_74 hC) (N := 64) rfl (j := (bShl 1 x1).toNat) rfl dX0_firstServed_28 ?_
      refine y_iload_n dX0_firstServed_29 rfl rfl ?_
      refine y_iand dX0_firstServed_30 ?_
      refine y_iload dX0_firstServed_31 rfl ?_
      refine y_iand dX0_firstServed_33 ?_
      refine y_ite (fun h3 => ?_) (fun h3 => ?_)
      · refine y_if_eq_t dX0_firstServed_34 (t := 41) rfl h3 ?_
        refine y_iconst dX0_firstServed_41 (by decide) ?_
        exact tX0_firstServed_42 hC σ (vX0_firstServed_3 K σ f) ih x1 x2 x3 x4 z2 0
      · refine y_if_eq_f dX0_firstServed_34 (t := 41) rfl h3 ?_
        refine y_iconst dX0_firstServed_37 (by decide) ?_
        refine y_goto dX0_firstServed_38 (t := 42) rfl ?_
        exact tX0_firstServed_42 hC σ (vX0_firstServed_3 K σ f) ih x1 x2 x3 x4 z2 1
    · refine y_icmp_ge_t dX0_firstServed_12 (t := 77) rfl h1 ?_
      refine y_bipush dX0_firstServed_77 (by decide) (by decide) ?_
      exact y_iret rfl rfl dX0_firstServed_79
noncomputable def vX0_firstServed (K : Kt) (p1 : Int) (p2 : Int) (p3 : Int) (σ : Sg) : Option (Int) := vX0_firstServed_3 K σ FU p1 p2 p3 0
set_option maxRecDepth 100000 in
set_option maxHeartbeats 4000000 in
theorem tX0_firstServed {Γ : Gx} {K : Kt} (hC : cLay K) (p1 : Int) (p2 : Int) (p3 : Int) (σ : Sg) : Y Γ MX0_firstServed K (emI K σ) K 0 [some (aR 73), some (aI p1), some (aI p2), some (aI p3), none, none, none] [] σ (vX0_firstServed K p1 p2 p3 σ) := by
  unfold vX0_firstServed
  refine y_iconst dX0_firstServed_0 (by decide) ?_
  refine y_istore dX0_firstServed_1 (Nat.le_of_ble_eq_true rfl) (L' := [some (aR 73), some (aI p1), some (aI p2), some (aI p3), some (aI 0), none, none]) rfl ?_
  exact tX0_firstServed_3 hC σ FU p1 p2 p3 0
theorem qX0_firstServed {K : Kt} (hC : cLay K) (p1 : Int) (p2 : Int) (p3 : Int) (σ : Sg) : Cc MX0_firstServed K [aR 73, aI p1, aI p2, aI p3] σ (emI K σ) (vX0_firstServed K p1 p2 p3 σ) := cc_of plX0 (Nat.le_of_ble_eq_true rfl) (fun o _ => ⟨Nat.le_refl _, Nat.le_refl _⟩) (fun Γ => tX0_firstServed hC p1 p2 p3 σ)
noncomputable def vX0_mostServed_28 (K : Kt) (σ : Sg) : Nat → Int → Int → Int → Int → Option (Int)
  | 0, _, _, _, _ => none
  | f + 1, x1, x2, x3, x4 => if x4 < (σ 13 2) then ((vX0_firstServed K x4 x2 x3 σ).bind (fun r2 => ck (in32 (x1 - 1)) (if x4 = (x1 - 1) then (some r2) else (if r2 = 100 then (ck (in32 (x4 + 1)) (vX0_mostServed_28 K σ f x1 x2 x3 (x4 + 1))) else (nm (bAnd x2 (bXor (bShl 1 r2) (-1))) (fun z5 => ck (in32 (x3 + (-1))) (ck (in32 (x4 + 1)) (vX0_mostServed_28 K σ f x1 z5 (x3 + (-1)) (x4 + 1))))))))) else (some (-1))
set_option maxRecDepth 100000 in
set_option maxHeartbeats 4000000 in
theorem tX0_mostServed_28 {Γ : Gx} {K : Kt} (hC : cLay K) (σ : Sg) : ∀ (f : Nat) (x1 : Int) (x2 : Int) (x3 : Int) (x4 : Int), Y Γ MX0_mostServed K (emI K σ) K 28 [some (aR 73), some (aI x1), some (aI x2), some (aI x3), some (aI x4), none] [] σ (vX0_mostServed_28 K σ f x1 x2 x3 x4) := by
  intro f
  induction f with
  | zero => intro x1 x2 x3 x4; exact y_none
  | succ f ih =>
    intro x1 x2 x3 x4
    rw [vX0_mostServed_28]
    refine y_iload dX0_mostServed_28 rfl ?_
    refine y_aload_n dX0_mostServed_30 rfl rfl ?_
    refine y_getR fX0_35 (lcO_73 hC) rfl (lcR_73_0 hC) dX0_mostServed_31 ?_
    refine y_getI fX0_49 (lcO_13 hC) rfl dX0_mostServed_34 ?_
    refine y_ite (fun h1 => ?_) (fun h1 => ?_)
    · refine y_icmp_ge_f dX0_mostServed_37 (t := 86) rfl h1 ?_
      refine y_aload_n dX0_mostServed_40 rfl rfl ?_
      refine y_iload dX0_mostServed_41 rfl ?_
      refine y_iload_n dX0_mostServed_43 rfl rfl ?_
      refine y_iload_n dX0_mostServed_44 rfl rfl ?_
      refine y_cvI (qX0_firstServed hC x4 x2 x3 σ) kX0_52 rfl (lcO_73 hC) rfl (by decide) rfl (Nat.le_of_ble_eq_true rfl) dX0_mostServed_45 (fun r2 => ?_)
      refine y_istore dX0_mostServed_48 (Nat.le_of_ble_eq_true rfl) (L' := [some (aR 73), some (aI x1), some (aI x2), some (aI x3), some (aI x4), some (aI r2)]) rfl ?_
      refine y_iload dX0_mostServed_50 rfl ?_
      refine y_iload_n dX0_mostServed_52 rfl rfl ?_
      refine y_iconst dX0_mostServed_53 (by decide) ?_
      refine yk_isub dX0_mostServed_54 ?_
      refine y_ite (fun h3 => ?_) (fun h3 => ?_)
      · refine y_icmp_ne_f dX0_mostServed_55 (t := 61) rfl h3 ?_
        refine y_iload dX0_mostServed_58 rfl ?_
        exact y_iret rfl rfl dX0_mostServed_60
      · refine y_icmp_ne_t dX0_mostServed_55 (t := 61) rfl h3 ?_
        refine y_iload dX0_mostServed_61 rfl ?_
        refine y_bipush dX0_mostServed_63 (by decide) (by decide) ?_
        refine y_ite (fun h4 => ?_) (fun h4 => ?_)
        · refine y_icmp_eq_t dX0_mostServed_65 (t := 80) rfl h4 ?_
          refine yk_iinc dX0_mostServed_80 rfl (L' := [some (aR 73), some (aI x1), some (aI x2), some (aI x3), some (aI (x4 + 1)), some (aI r2)]) rfl ?_
          refine y_goto dX0_mostServed_83 (t := 28) rfl ?_
          refine y_fg [true, true, true, true, true, false] (L' := [some (aR 73), some (aI x1), some (aI x2), some (aI x3), some (aI (x4 + 1)), none]) rfl ?_
          exact ih x1 x2 x3 (x4 + 1)
        · refine y_icmp_eq_f dX0_mostServed_65 (t := 80) rfl h4 ?_
          refine y_iload_n dX0_mostServed_68 rfl rfl ?_
          refine y_iconst dX0_mostServed_69 (by decide) ?_
          refine y_iload dX0_mostServed_70 rfl ?_
          refine y_ishl dX0_mostServed_72 ?_
          refine y_iconst dX0_mostServed_73 (by decide) ?_
          refine y_ixor dX0_mostServed_74 ?_
          refine y_iand dX0_mostServed_75 ?_
          refine yn_istore_n dX0_mostServed_76 rfl (Nat.le_of_ble_eq_true rfl) (L' := fun z5 => [some (aR 73), some (aI x1), some (aI z5), some (aI x3), some (aI x4), some (aI r2)]) (fun _ => rfl) (fun z5 => ?_)
          refine yk_iinc dX0_mostServed_77 rfl (L' := [some (aR 73), some (aI x1), some (aI z5), some (aI (x3 + (-1))), some (aI x4), some (aI r2)]) rfl ?_
          refine yk_iinc dX0_mostServed_80 rfl (L' := [some (aR 73), some (aI x1), some (aI z5), some (aI (x3 + (-1))), some (aI (x4 + 1)), some (aI r2)]) rfl ?_
          refine y_goto dX0_mostServed_83 (t := 28) rfl ?_
          refine y_fg [true, true, true, true, true, false] (L' := [some (aR 73), some (aI x1), some (aI z5), some (aI (x3 + (-1))), some (aI (x4 + 1)), none]) rfl ?_
          exact ih x1 z5 (x3 + (-1)) (x4 + 1)
    · refine y_icmp_ge_t dX0_mostServed_37 (t := 86) rfl h1 ?_
      refine y_iconst dX0_mostServed_86 (by decide) ?_
      exact y_iret rfl rfl dX0_mostServed_87
noncomputable def vX0_mostServed (K : Kt) (p1 : Int) (σ : Sg) : Option (Int) := ck (in32 ((bShl 1 (σ 13 1)) - 1)) (nm ((bShl 1 (σ 13 1)) - 1) (fun z1 => (vX0_mostPairs K 0 z1 σ).bind (fun r2 => if p1 = 0 then (some r2) else (vX0_mostServed_28 K σ FU p1 z1 r2 0))))
set_option maxRecDepth 100000 in
set_option maxHeartbeats 4000000 in
theorem tX0_mostServed {Γ : Gx} {K : Kt} (hC : cLay K) (p1 : Int) (σ : Sg) : Y Γ MX0_mostServed K (emI K σ) K 0 [some (aR 73), some (aI p1), none, none, none, none] [] σ (vX0_mostServed K p1 σ) := by
  unfold vX0_mostServed
  refine y_iconst dX0_mostServed_0 (by decide) ?_
  refine y_aload_n dX0_mostServed_1 rfl rfl ?_
  refine y_getR fX0_35 (lcO_73 hC) rfl (lcR_73_0 hC) dX0_mostServed_2 ?_
  refine y_getI fX0_39 (lcO_13 hC) rfl dX0_mostServed_5 ?_
  refine y_ishl dX0_mostServed_8 ?_
  refine y_iconst dX0_mostServed_9 (by decide) ?_
  refine yk_isub dX0_mostServed_10 ?_
  refine yn_istore_n dX0_mostServed_11 rfl (Nat.le_of_ble_eq_true rfl) (L' := fun z1 => [some (aR 73), some (aI p1), some (aI z1), none, none, none]) (fun _ => rfl) (fun z1 => ?_)
  refine y_aload_n dX0_mostServed_12 rfl rfl ?_
  refine y_iconst dX0_mostServed_13 (by decide) ?_
  refine y_iload_n dX0_mostServed_14 rfl rfl ?_
  refine y_cvI (qX0_mostPairs hC 0 z1 σ) kX0_45 rfl (lcO_73 hC) rfl (by decide) rfl (Nat.le_of_ble_eq_true rfl) dX0_mostServed_15 (fun r2 => ?_)
  refine y_istore_n dX0_mostServed_18 rfl (Nat.le_of_ble_eq_true rfl) (L' := [some (aR 73), some (aI p1), some (aI z1), some (aI r2), none, none]) rfl ?_
  refine y_iload_n dX0_mostServed_19 rfl rfl ?_
  refine y_ite (fun h3 => ?_) (fun h3 => ?_)
  · refine y_if_ne_f dX0_mostServed_20 (t := 25) rfl h3 ?_
    refine y_iload_n dX0_mostServed_23 rfl rfl ?_
    exact y_iret rfl rfl dX0_mostServed_24
  · refine y_if_ne_t dX0_mostServed_20 (t := 25) rfl h3 ?_
    refine y_iconst dX0_mostServed_25 (by decide) ?_
    refine y_istore dX0_mostServed_26 (Nat.le_of_ble_eq_true rfl) (L' := [some (aR 73), some (aI p1), some (aI z1), some (aI r2), some (aI 0), none]) rfl ?_
    exact tX0_mostServed_28 hC σ FU p1 z1 r2 0
theorem qX0_mostServed {K : Kt} (hC : cLay K) (p1 : Int) (σ : Sg) : Cc MX0_mostServed K [aR 73, aI p1] σ (emI K σ) (vX0_mostServed K p1 σ) := cc_of plX0 (Nat.le_of_ble_eq_true rfl) (fun o _ => ⟨Nat.le_refl _, Nat.le_refl _⟩) (fun Γ => tX0_mostServed hC p1 σ)
noncomputable def vX1_hasReader (K : Kt) (o : Nat) (p1 : Int) (σ : Sg) : Option (Int) := if p1 < 0 then (some 0) else (if p1 < (σ o 2) then (some 1) else (some 0))
set_option maxRecDepth 100000 in
set_option maxHeartbeats 4000000 in
theorem tX1_hasReader {Γ : Gx} {K : Kt} {o : Nat} (hp : hPre K o) (p1 : Int) (σ : Sg) : Y Γ MX1_hasReader K (emI K σ) K 0 [some (aR o), some (aI p1)] [] σ (vX1_hasReader K o p1 σ) := by
  unfold vX1_hasReader
  refine y_iload_n dX1_hasReader_0 rfl rfl ?_
  refine y_ite (fun h1 => ?_) (fun h1 => ?_)
  · refine y_if_lt_t dX1_hasReader_1 (t := 16) rfl h1 ?_
    refine y_iconst dX1_hasReader_16 (by decide) ?_
    exact y_zret (by decide) rfl rfl dX1_hasReader_17
  · refine y_if_lt_f dX1_hasReader_1 (t := 16) rfl h1 ?_
    refine y_iload_n dX1_hasReader_4 rfl rfl ?_
    refine y_aload_n dX1_hasReader_5 rfl rfl ?_
    refine y_getI fX1_59 hp.2.1.1 rfl dX1_hasReader_6 ?_
    refine y_ite (fun h2 => ?_) (fun h2 => ?_)
    · refine y_icmp_ge_f dX1_hasReader_9 (t := 16) rfl h2 ?_
      refine y_iconst dX1_hasReader_12 (by decide) ?_
      refine y_goto dX1_hasReader_13 (t := 17) rfl ?_
      exact y_zret (by decide) rfl rfl dX1_hasReader_17
    · refine y_icmp_ge_t dX1_hasReader_9 (t := 16) rfl h2 ?_
      refine y_iconst dX1_hasReader_16 (by decide) ?_
      exact y_zret (by decide) rfl rfl dX1_hasReader_17
theorem qX1_hasReader {K : Kt} {o : Nat} (hp : hPre K o) (p1 : Int) (σ : Sg) : Cc MX1_hasReader K [aR o, aI p1] σ (emI K σ) (vX1_hasReader K o p1 σ) := cc_of plX1 (Nat.le_of_ble_eq_true rfl) (fun o _ => ⟨Nat.le_refl _, Nat.le_refl _⟩) (fun Γ => tX1_hasReader hp p1 σ)
noncomputable def vX1_hasBook (K : Kt) (o : Nat) (p1 : Int) (σ : Sg) : Option (Int) := if p1 < 0 then (some 0) else (if p1 < (σ o 1) then (some 1) else (some 0))
set_option maxRecDepth 100000 in
set_option maxHeartbeats 4000000 in
theorem tX1_hasBook {Γ : Gx} {K : Kt} {o : Nat} (hp : hPre K o) (p1 : Int) (σ : Sg) : Y Γ MX1_hasBook K (emI K σ) K 0 [some (aR o), some (aI p1)] [] σ (vX1_hasBook K o p1 σ) := by
  unfold vX1_hasBook
  refine y_iload_n dX1_hasBook_0 rfl rfl ?_
  refine y_ite (fun h1 => ?_) (fun h1 => ?_)
  · refine y_if_lt_t dX1_hasBook_1 (t := 16) rfl h1 ?_
    refine y_iconst dX1_hasBook_16 (by decide) ?_
    exact y_zret (by decide) rfl rfl dX1_hasBook_17
  · refine y_if_lt_f dX1_hasBook_1 (t := 16) rfl h1 ?_
    refine y_iload_n dX1_hasBook_4 rfl rfl ?_
    refine y_aload_n dX1_hasBook_5 rfl rfl ?_
    refine y_getI fX1_55 hp.2.1.1 rfl dX1_hasBook_6 ?_
    refine y_ite (fun h2 => ?_) (fun h2 => ?_)
    · refine y_icmp_ge_f dX1_hasBook_9 (t := 16) rfl h2 ?_
      refine y_iconst dX1_hasBook_12 (by decide) ?_
      refine y_goto dX1_hasBook_13 (t := 17) rfl ?_
      exact y_zret (by decide) rfl rfl dX1_hasBook_17
    · refine y_icmp_ge_t dX1_hasBook_9 (t := 16) rfl h2 ?_
      refine y_iconst dX1_hasBook_16 (by decide) ?_
      exact y_zret (by decide) rfl rfl dX1_hasBook_17
theorem qX1_hasBook {K : Kt} {o : Nat} (hp : hPre K o) (p1 : Int) (σ : Sg) : Cc MX1_hasBook K [aR o, aI p1] σ (emI K σ) (vX1_hasBook K o p1 σ) := cc_of plX1 (Nat.le_of_ble_eq_true rfl) (fun o _ => ⟨Nat.le_refl _, Nat.le_refl _⟩) (fun Γ => tX1_hasBook hp p1 σ)
noncomputable def vX1_readerWith_2 (K : Kt) (o : Nat) (σ : Sg) : Nat → Int → Int → Option (Int)
  | 0, _, _ => none
  | f + 1, x1, x2 => if x2 < (σ o 2) then (ck (0 ≤ x2 ∧ x2 < 6) (if (σ (o + 8) x2.toNat) = x1 then (some x2) else (ck (in32 (x2 + 1)) (vX1_readerWith_2 K o σ f x1 (x2 + 1))))) else (some (-1))
set_option maxRecDepth 100000 in
set_option maxHeartbeats 4000000 in
theorem tX1_readerWith_2 {Γ : Gx} {K : Kt} {o : Nat} (hp : hPre K o) (σ : Sg) : ∀ (f : Nat) (x1 : Int) (x2 : Int), Y Γ MX1_readerWith K (emI K σ) K 2 [some (aR o), some (aI x1), some (aI x2)] [] σ (vX1_readerWith_2 K o σ f x1 x2) := by
  intro f
  induction f with
  | zero => intro x1 x2; exact y_none
  | succ f ih =>
    intro x1 x2
    rw [vX1_readerWith_2]
    refine y_iload_n dX1_readerWith_2 rfl rfl ?_
    refine y_aload_n dX1_readerWith_3 rfl rfl ?_
    refine y_getI fX1_59 hp.2.1.1 rfl dX1_readerWith_4 ?_
    refine y_ite (fun h1 => ?_) (fun h1 => ?_)
    · refine y_icmp_ge_f dX1_readerWith_7 (t := 28) rfl h1 ?_
      refine y_aload_n dX1_readerWith_10 rfl rfl ?_
      refine y_getR fX1_33 hp.2.1.1 rfl (lH_11 hp.2.1).1 dX1_readerWith_11 ?_
      refine y_iload_n dX1_readerWith_14 rfl rfl ?_
      refine yk_iaload (lH_11 hp.2.1).2 (N := 6) rfl (j := x2.toNat) rfl dX1_readerWith_15 ?_
      refine y_iload_n dX1_readerWith_16 rfl rfl ?_
      refine y_ite (fun h2 => ?_) (fun h2 => ?_)
      · refine y_icmp_ne_f dX1_readerWith_17 (t := 22) rfl h2 ?_
        refine y_iload_n dX1_readerWith_20 rfl rfl ?_
        exact y_iret rfl rfl dX1_readerWith_21
      · refine y_icmp_ne_t dX1_readerWith_17 (t := 22) rfl h2 ?_
        refine yk_iinc dX1_readerWith_22 rfl (L' := [some (aR o), some (aI x1), some (aI (x2 + 1))]) rfl ?_
        refine y_goto dX1_readerWith_25 (t := 2) rfl ?_
        exact ih x1 (x2 + 1)
    · refine y_icmp_ge_t dX1_readerWith_7 (t := 28) rfl h1 ?_
      refine y_iconst dX1_readerWith_28 (by decide) ?_
      exact y_iret rfl rfl dX1_readerWith_29
noncomputable def vX1_readerWith (K : Kt) (o : Nat) (p1 : Int) (σ : Sg) : Option (Int) := vX1_readerWith_2 K o σ FU p1 0
set_option maxRecDepth 100000 in
set_option maxHeartbeats 4000000 in
theorem tX1_readerWith {Γ : Gx} {K : Kt} {o : Nat} (hp : hPre K o) (p1 : Int) (σ : Sg) : Y Γ MX1_readerWith K (emI K σ) K 0 [some (aR o), some (aI p1), none] [] σ (vX1_readerWith K o p1 σ) := by
  unfold vX1_readerWith
  refine y_iconst dX1_readerWith_0 (by decide) ?_
  refine y_istore_n dX1_readerWith_1 rfl (Nat.le_of_ble_eq_true rfl) (L' := [some (aR o), some (aI p1), some (aI 0)]) rfl ?_
  exact tX1_readerWith_2 hp σ FU p1 0
theorem qX1_readerWith {K : Kt} {o : Nat} (hp : hPre K o) (p1 : Int) (σ : Sg) : Cc MX1_readerWith K [aR o, aI p1] σ (emI K σ) (vX1_readerWith K o p1 σ) := cc_of plX1 (Nat.le_of_ble_eq_true rfl) (fun o _ => ⟨Nat.le_refl _, Nat.le_refl _⟩) (fun Γ => tX1_readerWith hp p1 σ)
noncomputable def vX1_keptWeeks (K : Kt) (o : Nat) (p1 : Int) (p2 : Int) (σ : Sg) : Option (Int) := ck (0 ≤ p2 ∧ p2 < 6) (if (σ (o + 8) p2.toNat) = p1 then (ck (0 ≤ p2 ∧ p2 < 6) (ck (in32 ((σ (o + 13) 0) - (σ (o + 9) p2.toNat))) (some ((σ (o + 13) 0) - (σ (o + 9) p2.toNat))))) else (some (-1)))
set_option maxRecDepth 100000 in
set_option maxHeartbeats 4000000 in
theorem tX1_keptWeeks {Γ : Gx} {K : Kt} {o : Nat} (hp : hPre K o) (p1 : Int) (p2 : Int) (σ : Sg) : Y Γ MX1_keptWeeks K (emI K σ) K 0 [some (aR o), some (aI p1), some (aI p2)] [] σ (vX1_keptWeeks K o p1 p2 σ) := by
  unfold vX1_keptWeeks
  refine y_aload_n dX1_keptWeeks_0 rfl rfl ?_
  refine y_getR fX1_33 hp.2.1.1 rfl (lH_11 hp.2.1).1 dX1_keptWeeks_1 ?_
  refine y_iload_n dX1_keptWeeks_4 rfl rfl ?_
  refine yk_iaload (lH_11 hp.2.1).2 (N := 6) rfl (j := p2.toNat) rfl dX1_keptWeeks_5 ?_
  refine y_iload_n dX1_keptWeeks_6 rfl rfl ?_
  refine y_ite (fun h1 => ?_) (fun h1 => ?_)
  · refine y_icmp_ne_f dX1_keptWeeks_7 (t := 26) rfl h1 ?_
    refine y_aload_n dX1_keptWeeks_10 rfl rfl ?_
    refine y_getR fX1_48 hp.2.1.1 rfl (lH_16 hp.2.1).1 dX1_keptWeeks_11 ?_
    refine y_iconst dX1_keptWeeks_14 (by decide) ?_
    refine yl_iaload (lH_16 hp.2.1).2 (by decide) (j := 0) rfl dX1_keptWeeks_15 ?_
    refine y_aload_n dX1_keptWeeks_16 rfl rfl ?_
    refine y_getR fX1_36 hp.2.1.1 rfl (lH_12 hp.2.1).1 dX1_keptWeeks_17 ?_
    refine y_iload_n dX1_keptWeeks_20 rfl rfl ?_
    refine yk_iaload (lH_12 hp.2.1).2 (N := 6) rfl (j := p2.toNat) rfl dX1_keptWeeks_21 ?_
    refine yk_isub dX1_keptWeeks_22 ?_
    refine y_goto dX1_keptWeeks_23 (t := 27) rfl ?_
    exact y_iret rfl rfl dX1_keptWeeks_27
  · refine y_icmp_ne_t dX1_keptWeeks_7 (t := 26) rfl h1 ?_
    refine y_iconst dX1_keptWeeks_26 (by decide) ?_
    exact y_iret rfl rfl dX1_keptWeeks_27
theorem qX1_keptWeeks {K : Kt} {o : Nat} (hp : hPre K o) (p1 : Int) (p2 : Int) (σ : Sg) : Cc MX1_keptWeeks K [aR o, aI p1, aI p2] σ (emI K σ) (vX1_keptWeeks K o p1 p2 σ) := cc_of plX1 (Nat.le_of_ble_eq_true rfl) (fun o _ => ⟨Nat.le_refl _, Nat.le_refl _⟩) (fun Γ => tX1_keptWeeks hp p1 p2 σ)
noncomputable def vX1_tellLawWords (K : Kt) (o : Nat) (p1 : Int) (p2 : Int) (p3 : Int) (σ : Sg) : Option (Sg) := nm (up2 σ 12 0 p1) (fun σ1 => ck (0 ≤ p1 ∧ p1 < 8) (nm (up2 σ1 12 1 (σ1 (o + 1) p1.toNat)) (fun σ2 => ck (0 ≤ p1 ∧ p1 < 8) (nm (up2 σ2 12 2 (σ2 (o + 4) p1.toNat)) (fun σ3 => nm (up2 σ3 12 3 p2) (fun σ4 => nm (up2 σ4 12 4 p3) (fun σ5 => ck (0 ≤ p2 ∧ p2 < 6) (nm (up2 σ5 12 5 (σ5 (o + 7) p2.toNat)) (fun σ6 => (vX1_keptWeeks K o p1 p2 σ6).bind (fun r7 => nm (up2 σ6 12 6 r7) (fun σ8 => nm (up2 σ8 12 7 (σ8 (o + 13) 0)) (fun σ9 => nm (up2 σ9 12 8 (σ9 (o + 13) 3)) (fun σ10 => some σ10)))))))))))))
set_option maxRecDepth 100000 in
set_option maxHeartbeats 4000000 in
theorem tX1_tellLawWords {Γ : Gx} {K : Kt} {o : Nat} (hp : hPre K o) (p1 : Int) (p2 : Int) (p3 : Int) (σ : Sg) : Y Γ MX1_tellLawWords K (emV K) K 0 [some (aR o), some (aI p1), some (aI p2), some (aI p3), none] [] σ (vX1_tellLawWords K o p1 p2 p3 σ) := by
  unfold vX1_tellLawWords
  refine y_aload_n dX1_tellLawWords_0 rfl rfl ?_
  refine y_getR fX1_51 hp.2.1.1 rfl hp.2.2 dX1_tellLawWords_1 ?_
  refine y_getR fX1_71 (lcO_1 hp.1) rfl (lcR_1_3 hp.1) dX1_tellLawWords_4 ?_
  refine y_astore dX1_tellLawWords_7 (Nat.le_of_ble_eq_true rfl) (L' := [some (aR o), some (aI p1), some (aI p2), some (aI p3), some (aR 12)]) rfl ?_
  refine y_aload dX1_tellLawWords_9 rfl ?_
  refine y_iconst dX1_tellLawWords_11 (by decide) ?_
  refine y_iload_n dX1_tellLawWords_12 rfl rfl ?_
  refine yl_iastore (lcA_12 hp.1) (by decide) (j := 0) rfl dX1_tellLawWords_13 (fun σ1 => ?_)
  refine y_aload dX1_tellLawWords_14 rfl ?_
  refine y_iconst dX1_tellLawWords_16 (by decide) ?_
  refine y_aload_n dX1_tellLawWords_17 rfl rfl ?_
  refine y_getR fX1_9 hp.2.1.1 rfl (lH_4 hp.2.1).1 dX1_tellLawWords_18 ?_
  refine y_iload_n dX1_tellLawWords_21 rfl rfl ?_
  refine yk_iaload (lH_4 hp.2.1).2 (N := 8) rfl (j := p1.toNat) rfl dX1_tellLawWords_22 ?_
  refine yl_iastore (lcA_12 hp.1) (by decide) (j := 1) rfl dX1_tellLawWords_23 (fun σ2 => ?_)
  refine y_aload dX1_tellLawWords_24 rfl ?_
  refine y_iconst dX1_tellLawWords_26 (by decide) ?_
  refine y_aload_n dX1_tellLawWords_27 rfl rfl ?_
  refine y_getR fX1_21 hp.2.1.1 rfl (lH_7 hp.2.1).1 dX1_tellLawWords_28 ?_
  refine y_iload_n dX1_tellLawWords_31 rfl rfl ?_
  refine yk_iaload (lH_7 hp.2.1).2 (N := 8) rfl (j := p1.toNat) rfl dX1_tellLawWords_32 ?_
  refine yl_iastore (lcA_12 hp.1) (by decide) (j := 2) rfl dX1_tellLawWords_33 (fun σ3 => ?_)
  refine y_aload dX1_tellLawWords_34 rfl ?_
  refine y_iconst dX1_tellLawWords_36 (by decide) ?_
  refine y_iload_n dX1_tellLawWords_37 rfl rfl ?_
  refine yl_iastore (lcA_12 hp.1) (by decide) (j := 3) rfl dX1_tellLawWords_38 (fun σ4 => ?_)
  refine y_aload dX1_tellLawWords_39 rfl ?_
  refine y_iconst dX1_tellLawWords_41 (by decide) ?_
  refine y_iload_n dX1_tellLawWords_42 rfl rfl ?_
  refine yl_iastore (lcA_12 hp.1) (by decide) (j := 4) rfl dX1_tellLawWords_43 (fun σ5 => ?_)
  refine y_aload dX1_tellLawWords_44 rfl ?_
  refine y_iconst dX1_tellLawWords_46 (by decide) ?_
  refine y_aload_n dX1_tellLawWords_47 rfl rfl ?_
  refine y_getR fX1_30 hp.2.1.1 rfl (lH_10 hp.2.1).1 dX1_tellLawWords_48 ?_
  refine y_iload_n dX1_tellLawWords_51 rfl rfl ?_
  refine yk_iaload (lH_10 hp.2.1).2 (N := 6) rfl (j := p2.toNat) rfl dX1_tellLawWords_52 ?_
  refine yl_iastore (lcA_12 hp.1) (by decide) (j := 5) rfl dX1_tellLawWords_53 (fun σ6 => ?_)
  refine y_aload dX1_tellLawWords_54 rfl ?_
  refine y_bipush dX1_tellLawWords_56 (by decide) (by decide) ?_
  refine y_aload_n dX1_tellLawWords_58 rfl rfl ?_
  refine y_iload_n dX1_tellLawWords_59 rfl rfl ?_
  refine y_iload_n dX1_tellLawWords_60 rfl rfl ?_
  refine y_cvI (qX1_keptWeeks hp p1 p2 σ6) kX1_76 rfl hp.2.1.1 rfl (by decide) rfl (Nat.le_of_ble_eq_true rfl) dX1_tellLawWords_61 (fun r7 => ?_)
  refine yl_iastore (lcA_12 hp.1) (by decide) (j := 6) rfl dX1_tellLawWords_64 (fun σ8 => ?_)
  refine y_aload dX1_tellLawWords_65 rfl ?_
  refine y_bipush dX1_tellLawWords_67 (by decide) (by decide) ?_
  refine y_aload_n dX1_tellLawWords_69 rfl rfl ?_
  refine y_getR fX1_48 hp.2.1.1 rfl (lH_16 hp.2.1).1 dX1_tellLawWords_70 ?_
  refine y_iconst dX1_tellLawWords_73 (by decide) ?_
  refine yl_iaload (lH_16 hp.2.1).2 (by decide) (j := 0) rfl dX1_tellLawWords_74 ?_
  refine yl_iastore (lcA_12 hp.1) (by decide) (j := 7) rfl dX1_tellLawWords_75 (fun σ9 => ?_)
  refine y_aload dX1_tellLawWords_76 rfl ?_
  refine y_bipush dX1_tellLawWords_78 (by decide) (by decide) ?_
  refine y_aload_n dX1_tellLawWords_80 rfl rfl ?_
  refine y_getR fX1_48 hp.2.1.1 rfl (lH_16 hp.2.1).1 dX1_tellLawWords_81 ?_
  refine y_iconst dX1_tellLawWords_84 (by decide) ?_
  refine yl_iaload (lH_16 hp.2.1).2 (by decide) (j := 3) rfl dX1_tellLawWords_85 ?_
  refine yl_iastore (lcA_12 hp.1) (by decide) (j := 8) rfl dX1_tellLawWords_86 (fun σ10 => ?_)
  exact y_vret rfl rfl dX1_tellLawWords_87
theorem qX1_tellLawWords {K : Kt} {o : Nat} (hp : hPre K o) (p1 : Int) (p2 : Int) (p3 : Int) (σ : Sg) : Cc MX1_tellLawWords K [aR o, aI p1, aI p2, aI p3] σ (emV K) (vX1_tellLawWords K o p1 p2 p3 σ) := cc_of plX1 (Nat.le_of_ble_eq_true rfl) (fun o _ => ⟨Nat.le_refl _, Nat.le_refl _⟩) (fun Γ => tX1_tellLawWords hp p1 p2 p3 σ)
noncomputable def vX3_has (K : Kt) (p1 : Int) (σ : Sg) : Option (Int) := if p1 < 0 then (some 0) else (if p1 < (σ 1 4) then (some 1) else (some 0))
set_option maxRecDepth 100000 in
set_option maxHeartbeats 4000000 in
theorem tX3_has {Γ : Gx} {K : Kt} (hC : cLay K) (p1 : Int) (σ : Sg) : Y Γ MX3_has K (emI K σ) K 0 [some (aR 1), some (aI p1)] [] σ (vX3_has K p1 σ) := by
  unfold vX3_has
  refine y_iload_n dX3_has_0 rfl rfl ?_
  refine y_ite (fun h1 => ?_) (fun h1 => ?_)
  · refine y_if_lt_t dX3_has_1 (t := 16) rfl h1 ?_
    refine y_iconst dX3_has_16 (by decide) ?_
    exact y_zret (by decide) rfl rfl dX3_has_17
  · refine y_if_lt_f dX3_has_1 (t := 16) rfl h1 ?_
    refine y_iload_n dX3_has_4 rfl rfl ?_
    refine y_aload_n dX3_has_5 rfl rfl ?_
    refine y_getI fX3_35 (lcO_1 hC) rfl dX3_has_6 ?_
    refine y_ite (fun h2 => ?_) (fun h2 => ?_)
    · refine y_icmp_ge_f dX3_has_9 (t := 16) rfl h2 ?_
      refine y_iconst dX3_has_12 (by decide) ?_
      refine y_goto dX3_has_13 (t := 17) rfl ?_
      exact y_zret (by decide) rfl rfl dX3_has_17
    · refine y_icmp_ge_t dX3_has_9 (t := 16) rfl h2 ?_
      refine y_iconst dX3_has_16 (by decide) ?_
      exact y_zret (by decide) rfl rfl dX3_has_17
theorem qX3_has {K : Kt} (hC : cLay K) (p1 : Int) (σ : Sg) : Cc MX3_has K [aR 1, aI p1] σ (emI K σ) (vX3_has K p1 σ) := cc_of plX3 (Nat.le_of_ble_eq_true rfl) (fun o _ => ⟨Nat.le_refl _, Nat.le_refl _⟩) (fun Γ => tX3_has hC p1 σ)
noncomputable def vX3_textOf (K : Kt) (p1 : Int) (σ : Sg) : Option (Option Nat) := (vX3_has K p1 σ).bind (fun r1 => if r1 = 0 then (some (some 2)) else (ck (0 ≤ p1 ∧ p1 < 6) ((K.1 9 p1.toNat).elim (some (some 2)) (fun t3 => ck (0 ≤ p1 ∧ p1 < 6) (((K.1 9 p1.toNat)).bind (fun t4 => some (some t4)))))))
set_option maxRecDepth 100000 in
set_option maxHeartbeats 4000000 in
theorem tX3_textOf {Γ : Gx} {K : Kt} (hC : cLay K) (p1 : Int) (σ : Sg) : Y Γ MX3_textOf K (emQ K σ) K 0 [some (aR 1), some (aI p1)] [] σ (vX3_textOf K p1 σ) := by
  unfold vX3_textOf
  refine y_aload_n dX3_textOf_0 rfl rfl ?_
  refine y_iload_n dX3_textOf_1 rfl rfl ?_
  refine y_cvI (qX3_has hC p1 σ) kX3_42 rfl (lcO_1 hC) rfl (by decide) rfl (Nat.le_of_ble_eq_true rfl) dX3_textOf_2 (fun r1 => ?_)
  refine y_ite (fun h2 => ?_) (fun h2 => ?_)
  · refine y_if_eq_t dX3_textOf_5 (t := 26) rfl h2 ?_
    refine y_aload_n dX3_textOf_26 rfl rfl ?_
    refine y_getR fX3_14 (lcO_1 hC) rfl (lcR_1_0 hC) dX3_textOf_27 ?_
    exact y_aret rfl (by first | exact Or.inl ⟨_, rfl⟩ | exact Or.inr ⟨_, rfl⟩) rfl dX3_textOf_30
  · refine y_if_eq_f dX3_textOf_5 (t := 26) rfl h2 ?_
    refine y_aload_n dX3_textOf_8 rfl rfl ?_
    refine y_getR fX3_20 (lcO_1 hC) rfl (lcR_1_1 hC) dX3_textOf_9 ?_
    refine y_iload_n dX3_textOf_12 rfl rfl ?_
    refine yk_aaload (by decide) (lcA_9 hC) (N := 6) rfl dX3_textOf_13 ?_
    refine y_ifnull dX3_textOf_14 (t := 26) rfl (fun ht3 => ?_) (fun t3 ht3 => ?_)
    · refine y_aload_n dX3_textOf_26 rfl rfl ?_
      refine y_getR fX3_14 (lcO_1 hC) rfl (lcR_1_0 hC) dX3_textOf_27 ?_
      exact y_aret rfl (by first | exact Or.inl ⟨_, rfl⟩ | exact Or.inr ⟨_, rfl⟩) rfl dX3_textOf_30
    · refine y_aload_n dX3_textOf_17 rfl rfl ?_
      refine y_getR fX3_20 (lcO_1 hC) rfl (lcR_1_1 hC) dX3_textOf_18 ?_
      refine y_iload_n dX3_textOf_21 rfl rfl ?_
      refine yk_aaload (by decide) (lcA_9 hC) (N := 6) rfl dX3_textOf_22 ?_
      refine y_nn (fun t4 ht4 => ?_)
      refine y_goto dX3_textOf_23 (t := 30) rfl ?_
      exact y_aret rfl (by first | exact Or.inl ⟨_, rfl⟩ | exact Or.inr ⟨_, rfl⟩) rfl dX3_textOf_30
theorem qX3_textOf {K : Kt} (hC : cLay K) (p1 : Int) (σ : Sg) : Cc MX3_textOf K [aR 1, aI p1] σ (emQ K σ) (vX3_textOf K p1 σ) := cc_of plX3 (Nat.le_of_ble_eq_true rfl) (fun o _ => ⟨Nat.le_refl _, Nat.le_refl _⟩) (fun Γ => tX3_textOf hC p1 σ)
noncomputable def vX5_joined_218 (σ : Sg) (x3 : Int) : Option (Int) := if 1000000000 < x3 then (some (-2000000000)) else (if x3 < (-1000000000) then (some (-2000000000)) else (some (w32 x3)))
set_option maxRecDepth 100000 in
set_option maxHeartbeats 4000000 in
theorem tX5_joined_218 {Γ : Gx} {K : Kt} (σ : Sg) (x3 : Int) : Y Γ MX5_joined K (emI K σ) K 218 [none, none, none, some (aL x3), none] [] σ (vX5_joined_218 σ x3) := by
  unfold vX5_joined_218
  refine y_lload_n dX5_joined_218 rfl rfl ?_
  refine y_ldc2 1000000000 wX5_c37 dX5_joined_219 (by decide) (by decide) ?_
  refine y_lcmp dX5_joined_222 ?_
  refine y_ite (fun h1 => ?_) (fun h1 => ?_)
  · refine y_if_gt_t dX5_joined_223 (t := 234) rfl (cmp3_gt.mpr h1) ?_
    refine y_ldc (-2000000000) wX5_c30 dX5_joined_234 (by decide) (by decide) ?_
    refine y_goto dX5_joined_236 (t := 241) rfl ?_
    exact y_iret rfl rfl dX5_joined_241
  · refine y_if_gt_f dX5_joined_223 (t := 234) rfl (fun z => h1 (cmp3_gt.mp z)) ?_
    refine y_lload_n dX5_joined_226 rfl rfl ?_
    refine y_ldc2 (-1000000000) wX5_c39 dX5_joined_227 (by decide) (by decide) ?_
    refine y_lcmp dX5_joined_230 ?_
    refine y_ite (fun h2 => ?_) (fun h2 => ?_)
    · refine y_if_ge_f dX5_joined_231 (t := 239) rfl (cmp3_lt.mpr h2) ?_
      refine y_ldc (-2000000000) wX5_c30 dX5_joined_234 (by decide) (by decide) ?_
      refine y_goto dX5_joined_236 (t := 241) rfl ?_
      exact y_iret rfl rfl dX5_joined_241
    · refine y_if_ge_t dX5_joined_231 (t := 239) rfl (fun z => h2 (cmp3_lt.mp z)) ?_
      refine y_lload_n dX5_joined_239 rfl rfl ?_
      refine y_l2i dX5_joined_240 ?_
      exact y_iret rfl rfl dX5_joined_241
noncomputable def vX5_joined_157 (σ : Sg) (y0 : Int) : Option (Int) := vX5_joined_218 σ y0
set_option maxRecDepth 100000 in
set_option maxHeartbeats 4000000 in
theorem tX5_joined_157 {Γ : Gx} {K : Kt} (σ : Sg) (y0 : Int) : Y Γ MX5_joined K (emI K σ) K 157 [none, none, none, none, none] [aL y0] σ (vX5_joined_157 σ y0) := by
  unfold vX5_joined_157
  refine y_lstore_n dX5_joined_157 rfl (Nat.le_of_ble_eq_true rfl) (L' := [none, none, none, some (aL y0), none]) rfl ?_
  refine y_goto dX5_joined_158 (t := 218) rfl ?_
  exact tX5_joined_218 σ y0
noncomputable def vX5_joined_175 (σ : Sg) (y0 : Int) : Option (Int) := vX5_joined_218 σ y0
set_option maxRecDepth 100000 in
set_option maxHeartbeats 4000000 in
theorem tX5_joined_175 {Γ : Gx} {K : Kt} (σ : Sg) (y0 : Int) : Y Γ MX5_joined K (emI K σ) K 175 [none, none, none, none, none] [aL y0] σ (vX5_joined_175 σ y0) := by
  unfold vX5_joined_175
  refine y_lstore_n dX5_joined_175 rfl (Nat.le_of_ble_eq_true rfl) (L' := [none, none, none, some (aL y0), none]) rfl ?_
  refine y_goto dX5_joined_176 (t := 218) rfl ?_
  exact tX5_joined_218 σ y0
noncomputable def vX5_joined_189 (σ : Sg) (y0 : Int) : Option (Int) := vX5_joined_218 σ y0
set_option maxRecDepth 100000 in
set_option maxHeartbeats 4000000 in
theorem tX5_joined_189 {Γ : Gx} {K : Kt} (σ : Sg) (y0 : Int) : Y Γ MX5_joined K (emI K σ) K 189 [none, none, none, none, none] [aL y0] σ (vX5_joined_189 σ y0) := by
  unfold vX5_joined_189
  refine y_lstore_n dX5_joined_189 rfl (Nat.le_of_ble_eq_true rfl) (L' := [none, none, none, some (aL y0), none]) rfl ?_
  refine y_goto dX5_joined_190 (t := 218) rfl ?_
  exact tX5_joined_218 σ y0
noncomputable def vX5_joined_203 (σ : Sg) (y0 : Int) : Option (Int) := vX5_joined_218 σ y0
set_option maxRecDepth 100000 in
set_option maxHeartbeats 4000000 in
theorem tX5_joined_203 {Γ : Gx} {K : Kt} (σ : Sg) (y0 : Int) : Y Γ MX5_joined K (emI K σ) K 203 [none, none, none, none, none] [aL y0] σ (vX5_joined_203 σ y0) := by
  unfold vX5_joined_203
  refine y_lstore_n dX5_joined_203 rfl (Nat.le_of_ble_eq_true rfl) (L' := [none, none, none, some (aL y0), none]) rfl ?_
  refine y_goto dX5_joined_204 (t := 218) rfl ?_
  exact tX5_joined_218 σ y0
noncomputable def vX5_joined_217 (σ : Sg) (y0 : Int) : Option (Int) := vX5_joined_218 σ y0
set_option maxRecDepth 100000 in
set_option maxHeartbeats 4000000 in
theorem tX5_joined_217 {Γ : Gx} {K : Kt} (σ : Sg) (y0 : Int) : Y Γ MX5_joined K (emI K σ) K 217 [none, none, none, none, none] [aL y0] σ (vX5_joined_217 σ y0) := by
  unfold vX5_joined_217
  refine y_lstore_n dX5_joined_217 rfl (Nat.le_of_ble_eq_true rfl) (L' := [none, none, none, some (aL y0), none]) rfl ?_
  exact tX5_joined_218 σ y0
noncomputable def vX5_joined (p1 : Int) (p2 : Int) (p3 : Int) (σ : Sg) : Option (Int) := if p1 = (-2) then (if p2 = 0 then (some p3) else (some p2)) else (if p1 = (-3) then (if p2 = 1 then (some p3) else (some p2)) else (if p2 = (-2000000000) then (some (-2000000000)) else (if p3 = (-2000000000) then (some (-2000000000)) else (ck (in32 (-p1)) (if (-p1) = 37 then (if p3 = 0 then (vX5_joined_175 σ (-2000000000)) else (ck (¬ p3 = 0 ∧ in32 (Int.tmod p2 p3)) (vX5_joined_175 σ (Int.tmod p2 p3)))) else (if (-p1) = 42 then (ck (in64 (p2 * p3)) (nm (p2 * p3) (fun z10 => vX5_joined_218 σ z10))) else (if (-p1) = 43 then (ck (in64 (p2 + p3)) (nm (p2 + p3) (fun z12 => vX5_joined_218 σ z12))) else (if (-p1) = 45 then (ck (in64 (p2 - p3)) (nm (p2 - p3) (fun z14 => vX5_joined_218 σ z14))) else (if (-p1) = 47 then (if p3 = 0 then (vX5_joined_157 σ (-2000000000)) else (ck (¬ p3 = 0 ∧ in32 (Int.tdiv p2 p3)) (vX5_joined_157 σ (Int.tdiv p2 p3)))) else (if (-p1) = 60 then (if p2 < p3 then (vX5_joined_189 σ 1) else (vX5_joined_189 σ 0)) else (if (-p1) = 62 then (if p3 < p2 then (vX5_joined_203 σ 1) else (vX5_joined_203 σ 0)) else (if p2 = p3 then (vX5_joined_217 σ 1) else (vX5_joined_217 σ 0)))))))))))))
set_option maxRecDepth 100000 in
set_option maxHeartbeats 4000000 in
theorem tX5_joined {Γ : Gx} {K : Kt} (p1 : Int) (p2 : Int) (p3 : Int) (σ : Sg) : Y Γ MX5_joined K (emI K σ) K 0 [some (aI p1), some (aI p2), some (aI p3), none, none] [] σ (vX5_joined p1 p2 p3 σ) := by
  unfold vX5_joined
  refine y_iload_n dX5_joined_0 rfl rfl ?_
  refine y_bipush dX5_joined_1 (by decide) (by decide) ?_
  refine y_ite (fun h1 => ?_) (fun h1 => ?_)
  · refine y_icmp_ne_f dX5_joined_3 (t := 16) rfl h1 ?_
    refine y_iload_n dX5_joined_6 rfl rfl ?_
    refine y_ite (fun h2 => ?_) (fun h2 => ?_)
    · refine y_if_ne_f dX5_joined_7 (t := 14) rfl h2 ?_
      refine y_iload_n dX5_joined_10 rfl rfl ?_
      refine y_goto dX5_joined_11 (t := 15) rfl ?_
      exact y_iret rfl rfl dX5_joined_15
    · refine y_if_ne_t dX5_joined_7 (t := 14) rfl h2 ?_
      refine y_iload_n dX5_joined_14 rfl rfl ?_
      exact y_iret rfl rfl dX5_joined_15
  · refine y_icmp_ne_t dX5_joined_3 (t := 16) rfl h1 ?_
    refine y_iload_n dX5_joined_16 rfl rfl ?_
    refine y_bipush dX5_joined_17 (by decide) (by decide) ?_
    refine y_ite (fun h3 => ?_) (fun h3 => ?_)
    · refine y_icmp_ne_f dX5_joined_19 (t := 33) rfl h3 ?_
      refine y_iload_n dX5_joined_22 rfl rfl ?_
      refine y_iconst dX5_joined_23 (by decide) ?_
      refine y_ite (fun h4 => ?_) (fun h4 => ?_)
      · refine y_icmp_ne_f dX5_joined_24 (t := 31) rfl h4 ?_
        refine y_iload_n dX5_joined_27 rfl rfl ?_
        refine y_goto dX5_joined_28 (t := 32) rfl ?_
        exact y_iret rfl rfl dX5_joined_32
      · refine y_icmp_ne_t dX5_joined_24 (t := 31) rfl h4 ?_
        refine y_iload_n dX5_joined_31 rfl rfl ?_
        exact y_iret rfl rfl dX5_joined_32
    · refine y_icmp_ne_t dX5_joined_19 (t := 33) rfl h3 ?_
      refine y_iload_n dX5_joined_33 rfl rfl ?_
      refine y_ldc (-2000000000) wX5_c30 dX5_joined_34 (by decide) (by decide) ?_
      refine y_ite (fun h5 => ?_) (fun h5 => ?_)
      · refine y_icmp_eq_t dX5_joined_36 (t := 45) rfl h5 ?_
        refine y_ldc (-2000000000) wX5_c30 dX5_joined_45 (by decide) (by decide) ?_
        exact y_iret rfl rfl dX5_joined_47
      · refine y_icmp_eq_f dX5_joined_36 (t := 45) rfl h5 ?_
        refine y_iload_n dX5_joined_39 rfl rfl ?_
        refine y_ldc (-2000000000) wX5_c30 dX5_joined_40 (by decide) (by decide) ?_
        refine y_ite (fun h6 => ?_) (fun h6 => ?_)
        · refine y_icmp_ne_f dX5_joined_42 (t := 48) rfl h6 ?_
          refine y_ldc (-2000000000) wX5_c30 dX5_joined_45 (by decide) (by decide) ?_
          exact y_iret rfl rfl dX5_joined_47
        · refine y_icmp_ne_t dX5_joined_42 (t := 48) rfl h6 ?_
          refine y_iload_n dX5_joined_48 rfl rfl ?_
          refine yk_ineg dX5_joined_49 ?_
          refine y_ite (fun h7 => ?_) (fun h7 => ?_)
          · refine y_lookup dX5_joined_50 (t := 161) (off := 111) (by decide) (by rw [h7]; rfl) rfl ?_
            refine y_iload_n dX5_joined_161 rfl rfl ?_
            refine y_ite (fun h8 => ?_) (fun h8 => ?_)
            · refine y_if_ne_f dX5_joined_162 (t := 171) rfl h8 ?_
              refine y_ldc2 (-2000000000) wX5_c35 dX5_joined_165 (by decide) (by decide) ?_
              refine y_goto dX5_joined_168 (t := 175) rfl ?_
              refine y_fg [false, false, false, false, false] (L' := [none, none, none, none, none]) rfl ?_
              exact tX5_joined_175 σ (-2000000000)
            · refine y_if_ne_t dX5_joined_162 (t := 171) rfl h8 ?_
              refine y_iload_n dX5_joined_171 rfl rfl ?_
              refine y_iload_n dX5_joined_172 rfl rfl ?_
              refine yk_irem dX5_joined_173 ?_
              refine y_i2l dX5_joined_174 ?_
              refine y_fg [false, false, false, false, false] (L' := [none, none, none, none, none]) rfl ?_
              exact tX5_joined_175 σ (Int.tmod p2 p3)
          · refine y_ite (fun h9 => ?_) (fun h9 => ?_)
            · refine y_lookup dX5_joined_50 (t := 134) (off := 84) (by decide) (by rw [h9]; rfl) rfl ?_
              refine y_iload_n dX5_joined_134 rfl rfl ?_
              refine y_i2l dX5_joined_135 ?_
              refine y_iload_n dX5_joined_136 rfl rfl ?_
              refine y_i2l dX5_joined_137 ?_
              refine yk_lmul dX5_joined_138 ?_
              refine yn_lstore_n dX5_joined_139 rfl (Nat.le_of_ble_eq_true rfl) (L' := fun z10 => [some (aI p1), some (aI p2), some (aI p3), some (aL z10), none]) (fun _ => rfl) (fun z10 => ?_)
              refine y_goto dX5_joined_140 (t := 218) rfl ?_
              refine y_fg [false, false, false, true, false] (L' := [none, none, none, some (aL z10), none]) rfl ?_
              exact tX5_joined_218 σ z10
            · refine y_ite (fun h11 => ?_) (fun h11 => ?_)
              · refine y_lookup dX5_joined_50 (t := 116) (off := 66) (by decide) (by rw [h11]; rfl) rfl ?_
                refine y_iload_n dX5_joined_116 rfl rfl ?_
                refine y_i2l dX5_joined_117 ?_
                refine y_iload_n dX5_joined_118 rfl rfl ?_
                refine y_i2l dX5_joined_119 ?_
                refine yk_ladd dX5_joined_120 ?_
                refine yn_lstore_n dX5_joined_121 rfl (Nat.le_of_ble_eq_true rfl) (L' := fun z12 => [some (aI p1), some (aI p2), some (aI p3), some (aL z12), none]) (fun _ => rfl) (fun z12 => ?_)
                refine y_goto dX5_joined_122 (t := 218) rfl ?_
                refine y_fg [false, false, false, true, false] (L' := [none, none, none, some (aL z12), none]) rfl ?_
                exact tX5_joined_218 σ z12
              · refine y_ite (fun h13 => ?_) (fun h13 => ?_)
                · refine y_lookup dX5_joined_50 (t := 125) (off := 75) (by decide) (by rw [h13]; rfl) rfl ?_
                  refine y_iload_n dX5_joined_125 rfl rfl ?_
                  refine y_i2l dX5_joined_126 ?_
                  refine y_iload_n dX5_joined_127 rfl rfl ?_
                  refine y_i2l dX5_joined_128 ?_
                  refine yk_lsub dX5_joined_129 ?_
                  refine yn_lstore_n dX5_joined_130 rfl (Nat.le_of_ble_eq_true rfl) (L' := fun z14 => [some (aI p1), some (aI p2), some (aI p3), some (aL z14), none]) (fun _ => rfl) (fun z14 => ?_)
                  refine y_goto dX5_joined_131 (t := 218) rfl ?_
                  refine y_fg [false, false, false, true, false] (L' := [none, none, none, some (aL z14), none]) rfl ?_
                  exact tX5_joined_218 σ z14
                · refine y_ite (fun h15 => ?_) (fun h15 => ?_)
                  · refine y_lookup dX5_joined_50 (t := 143) (off := 93) (by decide) (by rw [h15]; rfl) rfl ?_
                    refine y_iload_n dX5_joined_143 rfl rfl ?_
                    refine y_ite (fun h16 => ?_) (fun h16 => ?_)
                    · refine y_if_ne_f dX5_joined_144 (t := 153) rfl h16 ?_
                      refine y_ldc2 (-2000000000) wX5_c35 dX5_joined_147 (by decide) (by decide) ?_
                      refine y_goto dX5_joined_150 (t := 157) rfl ?_
                      refine y_fg [false, false, false, false, false] (L' := [none, none, none, none, none]) rfl ?_
                      exact tX5_joined_157 σ (-2000000000)
                    · refine y_if_ne_t dX5_joined_144 (t := 153) rfl h16 ?_
                      refine y_iload_n dX5_joined_153 rfl rfl ?_
                      refine y_iload_n dX5_joined_154 rfl rfl ?_
                      refine yk_idiv dX5_joined_155 ?_
                      refine y_i2l dX5_joined_156 ?_
                      refine y_fg [false, false, false, false, false] (L' := [none, none, none, none, none]) rfl ?_
                      exact tX5_joined_157 σ (Int.tdiv p2 p3)
                  · refine y_ite (fun h17 => ?_) (fun h17 => ?_)
                    · refine y_lookup dX5_joined_50 (t := 179) (off := 129) (by decide) (by rw [h17]; rfl) rfl ?_
                      refine y_iload_n dX5_joined_179 rfl rfl ?_
                      refine y_iload_n dX5_joined_180 rfl rfl ?_
                      refine y_ite (fun h18 => ?_) (fun h18 => ?_)
                      · refine y_icmp_ge_f dX5_joined_181 (t := 188) rfl h18 ?_
                        refine y_lconst 1 dX5_joined_184 (by decide) (by decide) ?_
                        refine y_goto dX5_joined_185 (t := 189) rfl ?_
                        refine y_fg [false, false, false, false, false] (L' := [none, none, none, none, none]) rfl ?_
                        exact tX5_joined_189 σ 1
                      · refine y_icmp_ge_t dX5_joined_181 (t := 188) rfl h18 ?_
                        refine y_lconst 0 dX5_joined_188 (by decide) (by decide) ?_
                        refine y_fg [false, false, false, false, false] (L' := [none, none, none, none, none]) rfl ?_
                        exact tX5_joined_189 σ 0
                    · refine y_ite (fun h19 => ?_) (fun h19 => ?_)
                      · refine y_lookup dX5_joined_50 (t := 193) (off := 143) (by decide) (by rw [h19]; rfl) rfl ?_
                        refine y_iload_n dX5_joined_193 rfl rfl ?_
                        refine y_iload_n dX5_joined_194 rfl rfl ?_
                        refine y_ite (fun h20 => ?_) (fun h20 => ?_)
                        · refine y_icmp_le_f dX5_joined_195 (t := 202) rfl h20 ?_
                          refine y_lconst 1 dX5_joined_198 (by decide) (by decide) ?_
                          refine y_goto dX5_joined_199 (t := 203) rfl ?_
                          refine y_fg [false, false, false, false, false] (L' := [none, none, none, none, none]) rfl ?_
                          exact tX5_joined_203 σ 1
                        · refine y_icmp_le_t dX5_joined_195 (t := 202) rfl h20 ?_
                          refine y_lconst 0 dX5_joined_202 (by decide) (by decide) ?_
                          refine y_fg [false, false, false, false, false] (L' := [none, none, none, none, none]) rfl ?_
                          exact tX5_joined_203 σ 0
                      · refine y_lookup dX5_joined_50 (t := 207) (off := 157) (by decide) (by simp only [Op.lookupswitch.offset]; rw [if_neg (by omega), if_neg (by omega), if_neg (by omega), if_neg (by omega), if_neg (by omega), if_neg (by omega), if_neg (by omega)]) rfl ?_
                        refine y_iload_n dX5_joined_207 rfl rfl ?_
                        refine y_iload_n dX5_joined_208 rfl rfl ?_
                        refine y_ite (fun h21 => ?_) (fun h21 => ?_)
                        · refine y_icmp_ne_f dX5_joined_209 (t := 216) rfl h21 ?_
                          refine y_lconst 1 dX5_joined_212 (by decide) (by decide) ?_
                          refine y_goto dX5_joined_213 (t := 217) rfl ?_
                          refine y_fg [false, false, false, false, false] (L' := [none, none, none, none, none]) rfl ?_
                          exact tX5_joined_217 σ 1
                        · refine y_icmp_ne_t dX5_joined_209 (t := 216) rfl h21 ?_
                          refine y_lconst 0 dX5_joined_216 (by decide) (by decide) ?_
                          refine y_fg [false, false, false, false, false] (L' := [none, none, none, none, none]) rfl ?_
                          exact tX5_joined_217 σ 0
theorem qX5_joined {K : Kt} (p1 : Int) (p2 : Int) (p3 : Int) (σ : Sg) : Cc MX5_joined K [aI p1, aI p2, aI p3] σ (emI K σ) (vX5_joined p1 p2 p3 σ) := cc_of plX5 (Nat.le_of_ble_eq_true rfl) (fun o _ => ⟨Nat.le_refl _, Nat.le_refl _⟩) (fun Γ => tX5_joined p1 p2 p3 σ)
noncomputable def vX5_value_205 (K : Kt) (x4 : Int) (σ : Sg) : Option (Int × Sg) := if 0 < x4 then (some ((σ 11 0), σ)) else (some ((-2000000000), σ))
set_option maxRecDepth 100000 in
set_option maxHeartbeats 4000000 in
theorem tX5_value_205 {Γ : Gx} {K : Kt} (hC : cLay K) (x4 : Int) (σ : Sg) : Y Γ MX5_value K (emIS K) K 205 [some (aR 10), none, none, none, some (aI x4), none, none] [] σ (vX5_value_205 K x4 σ) := by
  unfold vX5_value_205
  refine y_iload dX5_value_205 rfl ?_
  refine y_ite (fun h1 => ?_) (fun h1 => ?_)
  · refine y_if_le_f dX5_value_207 (t := 219) rfl h1 ?_
    refine y_aload_n dX5_value_210 rfl rfl ?_
    refine y_getR fX5_9 (lcO_10 hC) rfl (lcR_10_0 hC) dX5_value_211 ?_
    refine y_iconst dX5_value_214 (by decide) ?_
    refine yl_iaload (lcA_11 hC) (by decide) (j := 0) rfl dX5_value_215 ?_
    refine y_goto dX5_value_216 (t := 221) rfl ?_
    exact y_iret rfl rfl dX5_value_221
  · refine y_if_le_t dX5_value_207 (t := 219) rfl h1 ?_
    refine y_ldc (-2000000000) wX5_c30 dX5_value_219 (by decide) (by decide) ?_
    exact y_iret rfl rfl dX5_value_221
noncomputable def vX5_value_10 (K : Kt) : Nat → Nat → Nat → Int → Int → Sg → Option (Int × Sg)
  | 0, _, _, _, _, _ => none
  | f + 1, x1, x3, x4, x5, σ => ckP (IsC K x1 7) (if x5 < (σ x1 7) then (ckP (IsC K x1 7) ((K.1 x1 5).bind (fun t4 => ckP (IsA K t4 20 (K.2.1 t4).2) (ck (0 ≤ x5 ∧ x5 < ((K.2.1 t4).2 : Int)) (nm (σ t4 x5.toNat) (fun z6 => if z6 = (-1) then (vX5_value_205 K x4 σ) else (if z6 < 2000 then (if z6 < 0 then (if z6 = (-4) then (if 0 < x4 then (ck (in32 (x4 - 1)) (ck (0 ≤ (x4 - 1) ∧ (x4 - 1) < 50) (if (σ 11 (x4 - 1).toNat) = (-2000000000) then (ck (in32 (x5 + 1)) (vX5_value_10 K f x1 x3 x4 (x5 + 1) σ)) else (ck (in32 (x4 - 1)) (ck (in32 (x4 - 1)) (ck (0 ≤ (x4 - 1) ∧ (x4 - 1) < 50) (ck (in32 (1 - (σ 11 (x4 - 1).toNat))) (ck (0 ≤ (x4 - 1) ∧ (x4 - 1) < 50) (nm (up2 σ 11 (x4 - 1).toNat (1 - (σ 11 (x4 - 1).toNat))) (fun σ13 => ck (in32 (x5 + 1)) (vX5_value_10 K f x1 x3 x4 (x5 + 1) σ13))))))))))) else (ck (in32 (x5 + 1)) (vX5_value_10 K f x1 x3 x4 (x5 + 1) σ))) else (if 1 < x4 then (ck (in32 (x4 + (-1))) (ck (in32 ((x4 + (-1)) - 1)) (ck (in32 ((x4 + (-1)) - 1)) (ck (0 ≤ ((x4 + (-1)) - 1) ∧ ((x4 + (-1)) - 1) < 50) (ck (0 ≤ (x4 + (-1)) ∧ (x4 + (-1)) < 50) ((vX5_joined z6 (σ 11 ((x4 + (-1)) - 1).toNat) (σ 11 (x4 + (-1)).toNat) σ).bind (fun r15 => ck (0 ≤ ((x4 + (-1)) - 1) ∧ ((x4 + (-1)) - 1) < 50) (nm (up2 σ 11 ((x4 + (-1)) - 1).toNat r15) (fun σ16 => ck (in32 (x5 + 1)) (vX5_value_10 K f x1 x3 (x4 + (-1)) (x5 + 1) σ16)))))))))) else (ck (in32 (x5 + 1)) (vX5_value_10 K f x1 x3 x4 (x5 + 1) σ)))) else (if x4 < 50 then (ck (0 ≤ x4 ∧ x4 < 50) (nm (up2 σ 11 x4.toNat z6) (fun σ18 => ck (in32 (x4 + 1)) (ck (in32 (x5 + 1)) (vX5_value_10 K f x1 x3 (x4 + 1) (x5 + 1) σ18))))) else (ck (in32 (x5 + 1)) (vX5_value_10 K f x1 x3 x4 (x5 + 1) σ)))) else (if x4 < 50 then (ck (in32 (z6 - 2000)) (ckP (IsA K x3 20 (K.2.1 x3).2) (ck ((K.2.1 x3).2 < 2147483648) (if (z6 - 2000) < ((K.2.1 x3).2 : Int) then (ck (in32 (z6 - 2000)) (ckP (IsA K x3 20 (K.2.1 x3).2) (ck (0 ≤ (z6 - 2000) ∧ (z6 - 2000) < ((K.2.1 x3).2 : Int)) (ck (0 ≤ x4 ∧ x4 < 50) (nm (up2 σ 11 x4.toNat (σ x3 (z6 - 2000).toNat)) (fun σ24 => ck (in32 (x4 + 1)) (ck (in32 (x5 + 1)) (vX5_value_10 K f x1 x3 (x4 + 1) (x5 + 1) σ24)))))))) else (ck (in32 (x5 + 1)) (vX5_value_10 K f x1 x3 x4 (x5 + 1) σ)))))) else (ck (in32 (x5 + 1)) (vX5_value_10 K f x1 x3 x4 (x5 + 1) σ)))))))))) else (vX5_value_205 K x4 σ))
set_option maxRecDepth 100000 in
set_option maxHeartbeats 4000000 in
theorem tX5_value_10 {Γ : Gx} {K : Kt} (hC : cLay K) : ∀ (f : Nat) (x1 : Nat) (x3 : Nat) (x4 : Int) (x5 : Int) (σ : Sg), Y Γ MX5_value K (emIS K) K 10 [some (aR 10), some (aR x1), none, some (aR x3), some (aI x4), some (aI x5), none] [] σ (vX5_value_10 K f x1 x3 x4 x5 σ) := by
  intro f
  induction f with
  | zero => intro x1 x3 x4 x5 σ; exact y_none
  | succ f ih =>
    intro x1 x3 x4 x5 σ
    rw [vX5_value_10]
    refine y_iload dX5_value_10 rfl ?_
    refine y_aload_n dX5_value_12 rfl rfl ?_
    refine y_ckP (fun hc1 => ?_)
    refine y_getI fX5_21 hc1 rfl dX5_value_13 ?_
    refine y_ite (fun h2 => ?_) (fun h2 => ?_)
    · refine y_icmp_ge_f dX5_value_16 (t := 205) rfl h2 ?_
      refine y_aload_n dX5_value_19 rfl rfl ?_
      refine y_ckP (fun hc3 => ?_)
      refine yb_getR fX5_27 hc3 rfl dX5_value_20 (fun t4 ht4 => ?_)
      refine y_iload dX5_value_23 rfl ?_
      refine y_ckP (fun hc5 => ?_)
      refine yk_iaload hc5 (N := ((K.2.1 t4).2 : Int)) rfl (j := x5.toNat) rfl dX5_value_25 ?_
      refine yn_istore dX5_value_26 (Nat.le_of_ble_eq_true rfl) (L' := fun z6 => [some (aR 10), some (aR x1), none, some (aR x3), some (aI x4), some (aI x5), some (aI z6)]) (fun _ => rfl) (fun z6 => ?_)
      refine y_iload dX5_value_28 rfl ?_
      refine y_iconst dX5_value_30 (by decide) ?_
      refine y_ite (fun h7 => ?_) (fun h7 => ?_)
      · refine y_icmp_ne_f dX5_value_31 (t := 37) rfl h7 ?_
        refine y_goto dX5_value_34 (t := 205) rfl ?_
        refine y_fg [true, false, false, false, true, false, false] (L' := [some (aR 10), none, none, none, some (aI x4), none, none]) rfl ?_
        exact tX5_value_205 hC x4 σ
      · refine y_icmp_ne_t dX5_value_31 (t := 37) rfl h7 ?_
        refine y_iload dX5_value_37 rfl ?_
        refine y_sipush dX5_value_39 (by decide) (by decide) ?_
        refine y_ite (fun h8 => ?_) (fun h8 => ?_)
        · refine y_icmp_lt_t dX5_value_42 (t := 84) rfl h8 ?_
          refine y_iload dX5_value_84 rfl ?_
          refine y_ite (fun h9 => ?_) (fun h9 => ?_)
          · refine y_if_lt_t dX5_value_86 (t := 111) rfl h9 ?_
            refine y_iload dX5_value_111 rfl ?_
            refine y_bipush dX5_value_113 (by decide) (by decide) ?_
            refine y_ite (fun h10 => ?_) (fun h10 => ?_)
            · refine y_icmp_ne_f dX5_value_115 (t := 160) rfl h10 ?_
              refine y_iload dX5_value_118 rfl ?_
              refine y_ite (fun h11 => ?_) (fun h11 => ?_)
              · refine y_if_le_f dX5_value_120 (t := 199) rfl h11 ?_
                refine y_aload_n dX5_value_123 rfl rfl ?_
                refine y_getR fX5_9 (lcO_10 hC) rfl (lcR_10_0 hC) dX5_value_124 ?_
                refine y_iload dX5_value_127 rfl ?_
                refine y_iconst dX5_value_129 (by decide) ?_
                refine yk_isub dX5_value_130 ?_
                refine yk_iaload (lcA_11 hC) (N := 50) rfl (j := (x4 - 1).toNat) rfl dX5_value_131 ?_
                refine y_ldc (-2000000000) wX5_c30 dX5_value_132 (by decide) (by decide) ?_
                refine y_ite (fun h12 => ?_) (fun h12 => ?_)
                · refine y_icmp_eq_t dX5_value_134 (t := 199) rfl h12 ?_
                  refine yk_iinc dX5_value_199 rfl (L' := [some (aR 10), some (aR x1), none, some (aR x3), some (aI x4), some (aI (x5 + 1)), some (aI z6)]) rfl ?_
                  refine y_goto dX5_value_202 (t := 10) rfl ?_
                  refine y_fg [true, true, false, true, true, true, false] (L' := [some (aR 10), some (aR x1), none, some (aR x3), some (aI x4), some (aI (x5 + 1)), none]) rfl ?_
                  exact ih x1 x3 x4 (x5 + 1) σ
                · refine y_icmp_eq_f dX5_value_134 (t := 199) rfl h12 ?_
                  refine y_aload_n dX5_value_137 rfl rfl ?_
                  refine y_getR fX5_9 (lcO_10 hC) rfl (lcR_10_0 hC) dX5_value_138 ?_
                  refine y_iload dX5_value_141 rfl ?_
                  refine y_iconst dX5_value_143 (by decide) ?_
                  refine yk_isub dX5_value_144 ?_
                  refine y_iconst dX5_value_145 (by decide) ?_
                  refine y_aload_n dX5_value_146 rfl rfl ?_
                  refine y_getR fX5_9 (lcO_10 hC) rfl (lcR_10_0 hC) dX5_value_147 ?_
                  refine y_iload dX5_value_150 rfl ?_
                  refine y_iconst dX5_value_152 (by decide) ?_
                  refine yk_isub dX5_value_153 ?_
                  refine yk_iaload (lcA_11 hC) (N := 50) rfl (j := (x4 - 1).toNat) rfl dX5_value_154 ?_
                  refine yk_isub dX5_value_155 ?_
                  refine yk_iastore (lcA_11 hC) (N := 50) rfl (j := (x4 - 1).toNat) rfl dX5_value_156 (fun σ13 => ?_)
                  refine y_goto dX5_value_157 (t := 199) rfl ?_
                  refine yk_iinc dX5_value_199 rfl (L' := [some (aR 10), some (aR x1), none, some (aR x3), some (aI x4), some (aI (x5 + 1)), some (aI z6)]) rfl ?_
                  refine y_goto dX5_value_202 (t := 10) rfl ?_
                  refine y_fg [true, true, false, true, true, true, false] (L' := [some (aR 10), some (aR x1), none, some (aR x3), some (aI x4), some (aI (x5 + 1)), none]) rfl ?_
                  exact ih x1 x3 x4 (x5 + 1) σ13
              · refine y_if_le_t dX5_value_120 (t := 199) rfl h11 ?_
                refine yk_iinc dX5_value_199 rfl (L' := [some (aR 10), some (aR x1), none, some (aR x3), some (aI x4), some (aI (x5 + 1)), some (aI z6)]) rfl ?_
                refine y_goto dX5_value_202 (t := 10) rfl ?_
                refine y_fg [true, true, false, true, true, true, false] (L' := [some (aR 10), some (aR x1), none, some (aR x3), some (aI x4), some (aI (x5 + 1)), none]) rfl ?_
                exact ih x1 x3 x4 (x5 + 1) σ
            · refine y_icmp_ne_t dX5_value_115 (t := 160) rfl h10 ?_
              refine y_iload dX5_value_160 rfl ?_
              refine y_iconst dX5_value_162 (by decide) ?_
              refine y_ite (fun h14 => ?_) (fun h14 => ?_)
              · refine y_icmp_le_f dX5_value_163 (t := 199) rfl h14 ?_
                refine yk_iinc dX5_value_166 rfl (L' := [some (aR 10), some (aR x1), none, some (aR x3), some (aI (x4 + (-1))), some (aI x5), some (aI z6)]) rfl ?_
                refine y_aload_n dX5_value_169 rfl rfl ?_
                refine y_getR fX5_9 (lcO_10 hC) rfl (lcR_10_0 hC) dX5_value_170 ?_
                refine y_iload dX5_value_173 rfl ?_
                refine y_iconst dX5_value_175 (by decide) ?_
                refine yk_isub dX5_value_176 ?_
                refine y_iload dX5_value_177 rfl ?_
                refine y_aload_n dX5_value_179 rfl rfl ?_
                refine y_getR fX5_9 (lcO_10 hC) rfl (lcR_10_0 hC) dX5_value_180 ?_
                refine y_iload dX5_value_183 rfl ?_
                refine y_iconst dX5_value_185 (by decide) ?_
                refine yk_isub dX5_value_186 ?_
                refine yk_iaload (lcA_11 hC) (N := 50) rfl (j := ((x4 + (-1)) - 1).toNat) rfl dX5_value_187 ?_
                refine y_aload_n dX5_value_188 rfl rfl ?_
                refine y_getR fX5_9 (lcO_10 hC) rfl (lcR_10_0 hC) dX5_value_189 ?_
                refine y_iload dX5_value_192 rfl ?_
                refine yk_iaload (lcA_11 hC) (N := 50) rfl (j := (x4 + (-1)).toNat) rfl dX5_value_194 ?_
                refine y_csI (qX5_joined (K := K) z6 (σ 11 ((x4 + (-1)) - 1).toNat) (σ 11 (x4 + (-1)).toNat) σ) kX5_31 rfl (by decide) rfl (Nat.le_of_ble_eq_true rfl) dX5_value_195 (fun r15 => ?_)
                refine yk_iastore (lcA_11 hC) (N := 50) rfl (j := ((x4 + (-1)) - 1).toNat) rfl dX5_value_198 (fun σ16 => ?_)
                refine yk_iinc dX5_value_199 rfl (L' := [some (aR 10), some (aR x1), none, some (aR x3), some (aI (x4 + (-1))), some (aI (x5 + 1)), some (aI z6)]) rfl ?_
                refine y_goto dX5_value_202 (t := 10) rfl ?_
                refine y_fg [true, true, false, true, true, true, false] (L' := [some (aR 10), some (aR x1), none, some (aR x3), some (aI (x4 + (-1))), some (aI (x5 + 1)), none]) rfl ?_
                exact ih x1 x3 (x4 + (-1)) (x5 + 1) σ16
              · refine y_icmp_le_t dX5_value_163 (t := 199) rfl h14 ?_
                refine yk_iinc dX5_value_199 rfl (L' := [some (aR 10), some (aR x1), none, some (aR x3), some (aI x4), some (aI (x5 + 1)), some (aI z6)]) rfl ?_
                refine y_goto dX5_value_202 (t := 10) rfl ?_
                refine y_fg [true, true, false, true, true, true, false] (L' := [some (aR 10), some (aR x1), none, some (aR x3), some (aI x4), some (aI (x5 + 1)), none]) rfl ?_
                exact ih x1 x3 x4 (x5 + 1) σ
          · refine y_if_lt_f dX5_value_86 (t := 111) rfl h9 ?_
            refine y_iload dX5_value_89 rfl ?_
            refine y_bipush dX5_value_91 (by decide) (by decide) ?_
            refine y_ite (fun h17 => ?_) (fun h17 => ?_)
            · refine y_icmp_ge_f dX5_value_93 (t := 199) rfl h17 ?_
              refine y_aload_n dX5_value_96 rfl rfl ?_
              refine y_getR fX5_9 (lcO_10 hC) rfl (lcR_10_0 hC) dX5_value_97 ?_
              refine y_iload dX5_value_100 rfl ?_
              refine y_iload dX5_value_102 rfl ?_
              refine yk_iastore (lcA_11 hC) (N := 50) rfl (j := x4.toNat) rfl dX5_value_104 (fun σ18 => ?_)
              refine yk_iinc dX5_value_105 rfl (L' := [some (aR 10), some (aR x1), none, some (aR x3), some (aI (x4 + 1)), some (aI x5), some (aI z6)]) rfl ?_
              refine y_goto dX5_value_108 (t := 199) rfl ?_
              refine yk_iinc dX5_value_199 rfl (L' := [some (aR 10), some (aR x1), none, some (aR x3), some (aI (x4 + 1)), some (aI (x5 + 1)), some (aI z6)]) rfl ?_
              refine y_goto dX5_value_202 (t := 10) rfl ?_
              refine y_fg [true, true, false, true, true, true, false] (L' := [some (aR 10), some (aR x1), none, some (aR x3), some (aI (x4 + 1)), some (aI (x5 + 1)), none]) rfl ?_
              exact ih x1 x3 (x4 + 1) (x5 + 1) σ18
            · refine y_icmp_ge_t dX5_value_93 (t := 199) rfl h17 ?_
              refine yk_iinc dX5_value_199 rfl (L' := [some (aR 10), some (aR x1), none, some (aR x3), some (aI x4), some (aI (x5 + 1)), some (aI z6)]) rfl ?_
              refine y_goto dX5_value_202 (t := 10) rfl ?_
              refine y_fg [true, true, false, true, true, true, false] (L' := [some (aR 10), some (aR x1), none, some (aR x3), some (aI x4), some (aI (x5 + 1)), none]) rfl ?_
              exact ih x1 x3 x4 (x5 + 1) σ
        · refine y_icmp_lt_f dX5_value_42 (t := 84) rfl h8 ?_
          refine y_iload dX5_value_45 rfl ?_
          refine y_bipush dX5_value_47 (by decide) (by decide) ?_
          refine y_ite (fun h19 => ?_) (fun h19 => ?_)
          · refine y_icmp_ge_f dX5_value_49 (t := 199) rfl h19 ?_
            refine y_iload dX5_value_52 rfl ?_
            refine y_sipush dX5_value_54 (by decide) (by decide) ?_
            refine yk_isub dX5_value_57 ?_
            refine y_aload_n dX5_value_58 rfl rfl ?_
            refine y_ckP (fun hc20 => ?_)
            refine y_ck (fun hc21 => ?_)
            refine y_alen hc20 hc21 dX5_value_59 ?_
            refine y_ite (fun h22 => ?_) (fun h22 => ?_)
            · refine y_icmp_ge_f dX5_value_60 (t := 199) rfl h22 ?_
              refine y_aload_n dX5_value_63 rfl rfl ?_
              refine y_getR fX5_9 (lcO_10 hC) rfl (lcR_10_0 hC) dX5_value_64 ?_
              refine y_iload dX5_value_67 rfl ?_
              refine y_aload_n dX5_value_69 rfl rfl ?_
              refine y_iload dX5_value_70 rfl ?_
              refine y_sipush dX5_value_72 (by decide) (by decide) ?_
              refine yk_isub dX5_value_75 ?_
              refine y_ckP (fun hc23 => ?_)
              refine yk_iaload hc23 (N := ((K.2.1 x3).2 : Int)) rfl (j := (z6 - 2000).toNat) rfl dX5_value_76 ?_
              refine yk_iastore (lcA_11 hC) (N := 50) rfl (j := x4.toNat) rfl dX5_value_77 (fun σ24 => ?_)
              refine yk_iinc dX5_value_78 rfl (L' := [some (aR 10), some (aR x1), none, some (aR x3), some (aI (x4 + 1)), some (aI x5), some (aI z6)]) rfl ?_
              refine y_goto dX5_value_81 (t := 199) rfl ?_
              refine yk_iinc dX5_value_199 rfl (L' := [some (aR 10), some (aR x1), none, some (aR x3), some (aI (x4 + 1)), some (aI (x5 + 1)), some (aI z6)]) rfl ?_
              refine y_goto dX5_value_202 (t := 10) rfl ?_
              refine y_fg [true, true, false, true, true, true, false] (L' := [some (aR 10), some (aR x1), none, some (aR x3), some (aI (x4 + 1)), some (aI (x5 + 1)), none]) rfl ?_
              exact ih x1 x3 (x4 + 1) (x5 + 1) σ24
            · refine y_icmp_ge_t dX5_value_60 (t := 199) rfl h22 ?_
              refine yk_iinc dX5_value_199 rfl (L' := [some (aR 10), some (aR x1), none, some (aR x3), some (aI x4), some (aI (x5 + 1)), some (aI z6)]) rfl ?_
              refine y_goto dX5_value_202 (t := 10) rfl ?_
              refine y_fg [true, true, false, true, true, true, false] (L' := [some (aR 10), some (aR x1), none, some (aR x3), some (aI x4), some (aI (x5 + 1)), none]) rfl ?_
              exact ih x1 x3 x4 (x5 + 1) σ
          · refine y_icmp_ge_t dX5_value_49 (t := 199) rfl h19 ?_
            refine yk_iinc dX5_value_199 rfl (L' := [some (aR 10), some (aR x1), none, some (aR x3), some (aI x4), some (aI (x5 + 1)), some (aI z6)]) rfl ?_
            refine y_goto dX5_value_202 (t := 10) rfl ?_
            refine y_fg [true, true, false, true, true, true, false] (L' := [some (aR 10), some (aR x1), none, some (aR x3), some (aI x4), some (aI (x5 + 1)), none]) rfl ?_
            exact ih x1 x3 x4 (x5 + 1) σ
    · refine y_icmp_ge_t dX5_value_16 (t := 205) rfl h2 ?_
      refine y_fg [true, false, false, false, true, false, false] (L' := [some (aR 10), none, none, none, some (aI x4), none, none]) rfl ?_
      exact tX5_value_205 hC x4 σ
noncomputable def vX5_value (K : Kt) (p1 : Nat) (p2 : Int) (p3 : Nat) (σ : Sg) : Option (Int × Sg) := nm (imax 0 p2) (fun z1 => vX5_value_10 K FU p1 p3 0 z1 σ)
set_option maxRecDepth 100000 in
set_option maxHeartbeats 4000000 in
theorem tX5_value {Γ : Gx} {K : Kt} (hC : cLay K) (p1 : Nat) (p2 : Int) (p3 : Nat) (σ : Sg) : Y Γ MX5_value K (emIS K) K 0 [some (aR 10), some (aR p1), some (aI p2), some (aR p3), none, none, none] [] σ (vX5_value K p1 p2 p3 σ) := by
  unfold vX5_value
  refine y_iconst dX5_value_0 (by decide) ?_
  refine y_istore dX5_value_1 (Nat.le_of_ble_eq_true rfl) (L' := [some (aR 10), some (aR p1), some (aI p2), some (aR p3), some (aI 0), none, none]) rfl ?_
  refine y_iconst dX5_value_3 (by decide) ?_
  refine y_iload_n dX5_value_4 rfl rfl ?_
  refine y_imax mX5_15 (by decide) (Nat.le_of_ble_eq_true rfl) dX5_value_5 ?_
  refine yn_istore dX5_value_8 (Nat.le_of_ble_eq_true rfl) (L' := fun z1 => [some (aR 10), some (aR p1), some (aI p2), some (aR p3), some (aI 0), some (aI z1), none]) (fun _ => rfl) (fun z1 => ?_)
  refine y_fg [true, true, false, true, true, true, false] (L' := [some (aR 10), some (aR p1), none, some (aR p3), some (aI 0), some (aI z1), none]) rfl ?_
  exact tX5_value_10 hC FU p1 p3 0 z1 σ
theorem qX5_value {K : Kt} (hC : cLay K) (p1 : Nat) (p2 : Int) (p3 : Nat) (σ : Sg) : Cc MX5_value K [aR 10, aR p1, aI p2, aR p3] σ (emIS K) (vX5_value K p1 p2 p3 σ) := cc_of plX5 (Nat.le_of_ble_eq_true rfl) (fun o _ => ⟨Nat.le_refl _, Nat.le_refl _⟩) (fun Γ => tX5_value hC p1 p2 p3 σ)
noncomputable def vX1_toldWithout (K : Kt) (o : Nat) (p1 : Int) (p2 : Int) (σ : Sg) : Option (Int) := if p1 = 0 then (some 2) else (if p1 = 1 then (some 1) else (if p1 = 2 then (ck (0 ≤ p2 ∧ p2 < 8) (some (σ (o + 1) p2.toNat))) else (some 0)))
set_option maxRecDepth 100000 in
set_option maxHeartbeats 4000000 in
theorem tX1_toldWithout {Γ : Gx} {K : Kt} {o : Nat} (hp : hPre K o) (p1 : Int) (p2 : Int) (σ : Sg) : Y Γ MX1_toldWithout K (emI K σ) K 0 [some (aR o), some (aI p1), some (aI p2)] [] σ (vX1_toldWithout K o p1 p2 σ) := by
  unfold vX1_toldWithout
  refine y_iload_n dX1_toldWithout_0 rfl rfl ?_
  refine y_ite (fun h3 => ?_) (fun h3 => ?_)
  · refine y_tab_in dX1_toldWithout_1 (t := 28) (off := 27) (by omega) (by rw [h3]; rfl) rfl ?_
    refine y_iconst dX1_toldWithout_28 (by decide) ?_
    exact y_iret rfl rfl dX1_toldWithout_29
  · refine y_ite (fun h2 => ?_) (fun h2 => ?_)
    · refine y_tab_in dX1_toldWithout_1 (t := 30) (off := 29) (by omega) (by rw [h2]; rfl) rfl ?_
      refine y_iconst dX1_toldWithout_30 (by decide) ?_
      exact y_iret rfl rfl dX1_toldWithout_31
    · refine y_ite (fun h1 => ?_) (fun h1 => ?_)
      · refine y_tab_in dX1_toldWithout_1 (t := 32) (off := 31) (by omega) (by rw [h1]; rfl) rfl ?_
        refine y_aload_n dX1_toldWithout_32 rfl rfl ?_
        refine y_getR fX1_9 hp.2.1.1 rfl (lH_4 hp.2.1).1 dX1_toldWithout_33 ?_
        refine y_iload_n dX1_toldWithout_36 rfl rfl ?_
        refine yk_iaload (lH_4 hp.2.1).2 (N := 8) rfl (j := p2.toNat) rfl dX1_toldWithout_37 ?_
        exact y_iret rfl rfl dX1_toldWithout_38
      · refine y_tab_out dX1_toldWithout_1 (t := 39) (by omega) rfl ?_
        refine y_iconst dX1_toldWithout_39 (by decide) ?_
        exact y_iret rfl rfl dX1_toldWithout_40
theorem qX1_toldWithout {K : Kt} {o : Nat} (hp : hPre K o) (p1 : Int) (p2 : Int) (σ : Sg) : Cc MX1_toldWithout K [aR o, aI p1, aI p2] σ (emI K σ) (vX1_toldWithout K o p1 p2 σ) := cc_of plX1 (Nat.le_of_ble_eq_true rfl) (fun o _ => ⟨Nat.le_refl _, Nat.le_refl _⟩) (fun Γ => tX1_toldWithout hp p1 p2 σ)
noncomputable def vX1_asked_137 (K : Kt) (o : Nat) (rec_28 : Int → Int → Nat → Int → Sg → Option (Int × Sg)) (x1 : Int) (x3 : Int) (x6 : Nat) (x7 : Int) (y0 : Int) (σ : Sg) : Option (Int × Sg) := if y0 = (-2000000000) then (ck (in32 (x7 + (-1))) (rec_28 x1 x3 x6 (x7 + (-1)) σ)) else (ck (0 ≤ x1 ∧ x1 < 4) (ck (0 ≤ x1 ∧ x1 < 4) (some ((imax (stV 2 x1.toNat) (imin (stV 3 x1.toNat) y0)), σ))))
set_option maxRecDepth 100000 in
set_option maxHeartbeats 4000000 in
theorem tX1_asked_137 {Γ : Gx} {K : Kt} {o : Nat} (hp : hPre K o) (rec_28 : Int → Int → Nat → Int → Sg → Option (Int × Sg)) (hrec_28 : ∀ (x1 : Int) (x3 : Int) (x6 : Nat) (x7 : Int) (σ : Sg), Y Γ MX1_asked K (emIS K) K 28 [some (aR o), some (aI x1), none, some (aI x3), none, none, some (aR x6), some (aI x7), none] [] σ (rec_28 x1 x3 x6 x7 σ)) (x1 : Int) (x3 : Int) (x6 : Nat) (x7 : Int) (y0 : Int) (σ : Sg) : Y Γ MX1_asked K (emIS K) K 137 [some (aR o), some (aI x1), none, some (aI x3), none, none, some (aR x6), some (aI x7), none] [aI y0] σ (vX1_asked_137 K o rec_28 x1 x3 x6 x7 y0 σ) := by
  unfold vX1_asked_137
  refine y_istore dX1_asked_137 (Nat.le_of_ble_eq_true rfl) (L' := [some (aR o), some (aI x1), none, some (aI x3), none, none, some (aR x6), some (aI x7), some (aI y0)]) rfl ?_
  refine y_iload dX1_asked_139 rfl ?_
  refine y_ldc (-2000000000) wX1_c112 dX1_asked_141 (by decide) (by decide) ?_
  refine y_ite (fun h1 => ?_) (fun h1 => ?_)
  · refine y_icmp_eq_t dX1_asked_143 (t := 165) rfl h1 ?_
    refine yk_iinc dX1_asked_165 rfl (L' := [some (aR o), some (aI x1), none, some (aI x3), none, none, some (aR x6), some (aI (x7 + (-1))), some (aI y0)]) rfl ?_
    refine y_goto dX1_asked_168 (t := 28) rfl ?_
    refine y_fg [true, true, false, true, false, false, true, true, false] (L' := [some (aR o), some (aI x1), none, some (aI x3), none, none, some (aR x6), some (aI (x7 + (-1))), none]) rfl ?_
    exact hrec_28 x1 x3 x6 (x7 + (-1)) σ
  · refine y_icmp_eq_f dX1_asked_143 (t := 165) rfl h1 ?_
    refine y_getsN (i := 2) (by decide) (List.mem_of_getElem? (i := 0) rfl) dX1_asked_146 ?_
    refine y_iload_n dX1_asked_149 rfl rfl ?_
    refine y_ck (fun hc => ?_)
    refine y_taload (by decide) hc dX1_asked_150 ?_
    refine y_getsN (i := 3) (by decide) (List.mem_of_getElem? (i := 1) rfl) dX1_asked_151 ?_
    refine y_iload_n dX1_asked_154 rfl rfl ?_
    refine y_ck (fun hc => ?_)
    refine y_taload (by decide) hc dX1_asked_155 ?_
    refine y_iload dX1_asked_156 rfl ?_
    refine y_imin mX1_119 (by decide) (Nat.le_of_ble_eq_true rfl) dX1_asked_158 ?_
    refine y_imax mX1_124 (by decide) (Nat.le_of_ble_eq_true rfl) dX1_asked_161 ?_
    exact y_iret rfl rfl dX1_asked_164
noncomputable def vX1_asked_94 (K : Kt) (o : Nat) (rec_28 : Int → Int → Nat → Int → Sg → Option (Int × Sg)) (x1 : Int) (x3 : Int) (x6 : Nat) (x7 : Int) (σ : Sg) : Option (Int × Sg) := ckP (IsC K x6 7) ((K.1 x6 1).bind (fun t2 => ckP (IsA K t2 20 (K.2.1 t2).2) (ck (0 ≤ x7 ∧ x7 < ((K.2.1 t2).2 : Int)) (if (σ t2 x7.toNat) = (-1) then (vX1_asked_137 K o rec_28 x1 x3 x6 x7 1 σ) else (ckP (IsC K x6 7) ((K.1 x6 1).bind (fun t6 => ckP (IsA K t6 20 (K.2.1 t6).2) (ck (0 ≤ x7 ∧ x7 < ((K.2.1 t6).2 : Int)) (bd2 (vX5_value K x6 (σ t6 x7.toNat) 12 σ) (fun r8 σ9 => vX1_asked_137 K o rec_28 x1 x3 x6 x7 r8 σ9))))))))))
set_option maxRecDepth 100000 in
set_option maxHeartbeats 4000000 in
theorem tX1_asked_94 {Γ : Gx} {K : Kt} {o : Nat} (hp : hPre K o) (rec_28 : Int → Int → Nat → Int → Sg → Option (Int × Sg)) (hrec_28 : ∀ (x1 : Int) (x3 : Int) (x6 : Nat) (x7 : Int) (σ : Sg), Y Γ MX1_asked K (emIS K) K 28 [some (aR o), some (aI x1), none, some (aI x3), none, none, some (aR x6), some (aI x7), none] [] σ (rec_28 x1 x3 x6 x7 σ)) (x1 : Int) (x3 : Int) (x6 : Nat) (x7 : Int) (σ : Sg) : Y Γ MX1_asked K (emIS K) K 94 [some (aR o), some (aI x1), none, some (aI x3), none, none, some (aR x6), some (aI x7), none] [] σ (vX1_asked_94 K o rec_28 x1 x3 x6 x7 σ) := by
  unfold vX1_asked_94
  refine y_aload dX1_asked_94 rfl ?_
  refine y_ckP (fun hc1 => ?_)
  refine yb_getR fX1_109 hc1 rfl dX1_asked_96 (fun t2 ht2 => ?_)
  refine y_iload dX1_asked_99 rfl ?_
  refine y_ckP (fun hc3 => ?_)
  refine yk_iaload hc3 (N := ((K.2.1 t2).2 : Int)) rfl (j := x7.toNat) rfl dX1_asked_101 ?_
  refine y_iconst dX1_asked_102 (by decide) ?_
  refine y_ite (fun h4 => ?_) (fun h4 => ?_)
  · refine y_icmp_ne_f dX1_asked_103 (t := 110) rfl h4 ?_
    refine y_iconst dX1_asked_106 (by decide) ?_
    refine y_goto dX1_asked_107 (t := 137) rfl ?_
    exact tX1_asked_137 hp rec_28 hrec_28 x1 x3 x6 x7 1 σ
  · refine y_icmp_ne_t dX1_asked_103 (t := 110) rfl h4 ?_
    refine y_aload_n dX1_asked_110 rfl rfl ?_
    refine y_getR fX1_51 hp.2.1.1 rfl hp.2.2 dX1_asked_111 ?_
    refine y_getR fX1_99 (lcO_1 hp.1) rfl (lcR_1_2 hp.1) dX1_asked_114 ?_
    refine y_aload dX1_asked_117 rfl ?_
    refine y_aload dX1_asked_119 rfl ?_
    refine y_ckP (fun hc5 => ?_)
    refine yb_getR fX1_109 hc5 rfl dX1_asked_121 (fun t6 ht6 => ?_)
    refine y_iload dX1_asked_124 rfl ?_
    refine y_ckP (fun hc7 => ?_)
    refine yk_iaload hc7 (N := ((K.2.1 t6).2 : Int)) rfl (j := x7.toNat) rfl dX1_asked_126 ?_
    refine y_aload_n dX1_asked_127 rfl rfl ?_
    refine y_getR fX1_51 hp.2.1.1 rfl hp.2.2 dX1_asked_128 ?_
    refine y_getR fX1_71 (lcO_1 hp.1) rfl (lcR_1_3 hp.1) dX1_asked_131 ?_
    refine y_cvIS (qX5_value hp.1 x6 (σ t6 x7.toNat) 12 σ) kX1_103 rfl (lcO_10 hp.1) rfl (by decide) rfl (Nat.le_of_ble_eq_true rfl) dX1_asked_134 (fun r8 σ9 => ?_)
    exact tX1_asked_137 hp rec_28 hrec_28 x1 x3 x6 x7 r8 σ9
noncomputable def vX1_asked_28 (K : Kt) (o : Nat) : Nat → Int → Int → Nat → Int → Sg → Option (Int × Sg)
  | 0, _, _, _, _, _ => none
  | f + 1, x1, x3, x6, x7, σ => if x7 < 0 then ((vX1_toldWithout K o x1 x3 σ).bind (fun r2 => some (r2, σ))) else (ckP (IsC K x6 7) ((K.1 x6 0).bind (fun t4 => ckP (IsA K t4 20 (K.2.1 t4).2) (ck (0 ≤ x7 ∧ x7 < ((K.2.1 t4).2 : Int)) (if (σ t4 x7.toNat) = x1 then (ckP (IsC K x6 7) ((K.1 x6 3).bind (fun t8 => ckP (IsA K t8 20 (K.2.1 t8).2) (ck (0 ≤ x7 ∧ x7 < ((K.2.1 t8).2 : Int)) (if (σ t8 x7.toNat) = (-1) then (vX1_asked_94 K o (vX1_asked_28 K o f) x1 x3 x6 x7 σ) else (ckP (IsC K x6 7) ((K.1 x6 3).bind (fun t12 => ckP (IsA K t12 20 (K.2.1 t12).2) (ck (0 ≤ x7 ∧ x7 < ((K.2.1 t12).2 : Int)) (bd2 (vX5_value K x6 (σ t12 x7.toNat) 12 σ) (fun r14 σ15 => if r14 = 1 then (vX1_asked_94 K o (vX1_asked_28 K o f) x1 x3 x6 x7 σ15) else (ck (in32 (x7 + (-1))) (vX1_asked_28 K o f x1 x3 x6 (x7 + (-1)) σ15))))))))))))) else (ck (in32 (x7 + (-1))) (vX1_asked_28 K o f x1 x3 x6 (x7 + (-1)) σ)))))))
set_option maxRecDepth 100000 in
set_option maxHeartbeats 4000000 in
theorem tX1_asked_28 {Γ : Gx} {K : Kt} {o : Nat} (hp : hPre K o) : ∀ (f : Nat) (x1 : Int) (x3 : Int) (x6 : Nat) (x7 : Int) (σ : Sg), Y Γ MX1_asked K (emIS K) K 28 [some (aR o), some (aI x1), none, some (aI x3), none, none, some (aR x6), some (aI x7), none] [] σ (vX1_asked_28 K o f x1 x3 x6 x7 σ) := by
  intro f
  induction f with
  | zero => intro x1 x3 x6 x7 σ; exact y_none
  | succ f ih =>
    intro x1 x3 x6 x7 σ
    rw [vX1_asked_28]
    refine y_iload dX1_asked_28 rfl ?_
    refine y_ite (fun h1 => ?_) (fun h1 => ?_)
    · refine y_if_lt_t dX1_asked_30 (t := 171) rfl h1 ?_
      refine y_aload_n dX1_asked_171 rfl rfl ?_
      refine y_iload_n dX1_asked_172 rfl rfl ?_
      refine y_iload_n dX1_asked_173 rfl rfl ?_
      refine y_cvI (qX1_toldWithout hp x1 x3 σ) kX1_127 rfl hp.2.1.1 rfl (by decide) rfl (Nat.le_of_ble_eq_true rfl) dX1_asked_174 (fun r2 => ?_)
      exact y_iret rfl rfl dX1_asked_177
    · refine y_if_lt_f dX1_asked_30 (t := 171) rfl h1 ?_
      refine y_aload dX1_asked_33 rfl ?_
      refine y_ckP (fun hc3 => ?_)
      refine yb_getR fX1_93 hc3 rfl dX1_asked_35 (fun t4 ht4 => ?_)
      refine y_iload dX1_asked_38 rfl ?_
      refine y_ckP (fun hc5 => ?_)
      refine yk_iaload hc5 (N := ((K.2.1 t4).2 : Int)) rfl (j := x7.toNat) rfl dX1_asked_40 ?_
      refine y_iload_n dX1_asked_41 rfl rfl ?_
      refine y_ite (fun h6 => ?_) (fun h6 => ?_)
      · refine y_icmp_eq_t dX1_asked_42 (t := 48) rfl h6 ?_
        refine y_aload dX1_asked_48 rfl ?_
        refine y_ckP (fun hc7 => ?_)
        refine yb_getR fX1_96 hc7 rfl dX1_asked_50 (fun t8 ht8 => ?_)
        refine y_iload dX1_asked_53 rfl ?_
        refine y_ckP (fun hc9 => ?_)
        refine yk_iaload hc9 (N := ((K.2.1 t8).2 : Int)) rfl (j := x7.toNat) rfl dX1_asked_55 ?_
        refine y_iconst dX1_asked_56 (by decide) ?_
        refine y_ite (fun h10 => ?_) (fun h10 => ?_)
        · refine y_icmp_eq_t dX1_asked_57 (t := 94) rfl h10 ?_
          exact tX1_asked_94 hp (vX1_asked_28 K o f) ih x1 x3 x6 x7 σ
        · refine y_icmp_eq_f dX1_asked_57 (t := 94) rfl h10 ?_
          refine y_aload_n dX1_asked_60 rfl rfl ?_
          refine y_getR fX1_51 hp.2.1.1 rfl hp.2.2 dX1_asked_61 ?_
          refine y_getR fX1_99 (lcO_1 hp.1) rfl (lcR_1_2 hp.1) dX1_asked_64 ?_
          refine y_aload dX1_asked_67 rfl ?_
          refine y_aload dX1_asked_69 rfl ?_
          refine y_ckP (fun hc11 => ?_)
          refine yb_getR fX1_96 hc11 rfl dX1_asked_71 (fun t12 ht12 => ?_)
          refine y_iload dX1_asked_74 rfl ?_
          refine y_ckP (fun hc13 => ?_)
          refine yk_iaload hc13 (N := ((K.2.1 t12).2 : Int)) rfl (j := x7.toNat) rfl dX1_asked_76 ?_
          refine y_aload_n dX1_asked_77 rfl rfl ?_
          refine y_getR fX1_51 hp.2.1.1 rfl hp.2.2 dX1_asked_78 ?_
          refine y_getR fX1_71 (lcO_1 hp.1) rfl (lcR_1_3 hp.1) dX1_asked_81 ?_
          refine y_cvIS (qX5_value hp.1 x6 (σ t12 x7.toNat) 12 σ) kX1_103 rfl (lcO_10 hp.1) rfl (by decide) rfl (Nat.le_of_ble_eq_true rfl) dX1_asked_84 (fun r14 σ15 => ?_)
          refine y_iconst dX1_asked_87 (by decide) ?_
          refine y_ite (fun h16 => ?_) (fun h16 => ?_)
          · refine y_icmp_eq_t dX1_asked_88 (t := 94) rfl h16 ?_
            exact tX1_asked_94 hp (vX1_asked_28 K o f) ih x1 x3 x6 x7 σ15
          · refine y_icmp_eq_f dX1_asked_88 (t := 94) rfl h16 ?_
            refine y_goto dX1_asked_91 (t := 165) rfl ?_
            refine yk_iinc dX1_asked_165 rfl (L' := [some (aR o), some (aI x1), none, some (aI x3), none, none, some (aR x6), some (aI (x7 + (-1))), none]) rfl ?_
            refine y_goto dX1_asked_168 (t := 28) rfl ?_
            exact ih x1 x3 x6 (x7 + (-1)) σ15
      · refine y_icmp_eq_f dX1_asked_42 (t := 48) rfl h6 ?_
        refine y_goto dX1_asked_45 (t := 165) rfl ?_
        refine yk_iinc dX1_asked_165 rfl (L' := [some (aR o), some (aI x1), none, some (aI x3), none, none, some (aR x6), some (aI (x7 + (-1))), none]) rfl ?_
        refine y_goto dX1_asked_168 (t := 28) rfl ?_
        exact ih x1 x3 x6 (x7 + (-1)) σ
noncomputable def vX1_asked (K : Kt) (o : Nat) (p1 : Int) (p2 : Int) (p3 : Int) (p4 : Int) (p5 : Int) (σ : Sg) : Option (Int × Sg) := (vX1_tellLawWords K o p3 p4 p5 σ).bind (fun σ1 => (vX3_textOf K p2 σ1).bind (fun r2 => r2.bind (fun t3 => ckP (IsC K t3 7) (ck (in32 ((σ1 t3 6) - 1)) (nm ((σ1 t3 6) - 1) (fun z5 => vX1_asked_28 K o FU p1 p3 t3 z5 σ1))))))
set_option maxRecDepth 100000 in
set_option maxHeartbeats 4000000 in
theorem tX1_asked {Γ : Gx} {K : Kt} {o : Nat} (hp : hPre K o) (p1 : Int) (p2 : Int) (p3 : Int) (p4 : Int) (p5 : Int) (σ : Sg) : Y Γ MX1_asked K (emIS K) K 0 [some (aR o), some (aI p1), some (aI p2), some (aI p3), some (aI p4), some (aI p5), none, none, none] [] σ (vX1_asked K o p1 p2 p3 p4 p5 σ) := by
  unfold vX1_asked
  refine y_aload_n dX1_asked_0 rfl rfl ?_
  refine y_iload_n dX1_asked_1 rfl rfl ?_
  refine y_iload dX1_asked_2 rfl ?_
  refine y_iload dX1_asked_4 rfl ?_
  refine y_cvV (qX1_tellLawWords hp p3 p4 p5 σ) kX1_80 rfl hp.2.1.1 rfl (by decide) rfl (Nat.le_of_ble_eq_true rfl) dX1_asked_6 (fun σ1 => ?_)
  refine y_aload_n dX1_asked_9 rfl rfl ?_
  refine y_getR fX1_51 hp.2.1.1 rfl hp.2.2 dX1_asked_10 ?_
  refine y_iload_n dX1_asked_13 rfl rfl ?_
  refine y_cvQ (qX3_textOf hp.1 p2 σ1) kX1_84 rfl (lcO_1 hp.1) rfl (by decide) rfl (Nat.le_of_ble_eq_true rfl) dX1_asked_14 (fun r2 hr2 => ?_)
  refine y_nn (fun t3 ht3 => ?_)
  refine y_astore dX1_asked_17 (Nat.le_of_ble_eq_true rfl) (L' := [some (aR o), some (aI p1), some (aI p2), some (aI p3), some (aI p4), some (aI p5), some (aR t3), none, none]) rfl ?_
  refine y_aload dX1_asked_19 rfl ?_
  refine y_ckP (fun hc4 => ?_)
  refine y_getI fX1_88 hc4 rfl dX1_asked_21 ?_
  refine y_iconst dX1_asked_24 (by decide) ?_
  refine yk_isub dX1_asked_25 ?_
  refine yn_istore dX1_asked_26 (Nat.le_of_ble_eq_true rfl) (L' := fun z5 => [some (aR o), some (aI p1), some (aI p2), some (aI p3), some (aI p4), some (aI p5), some (aR t3), some (aI z5), none]) (fun _ => rfl) (fun z5 => ?_)
  refine y_fg [true, true, false, true, false, false, true, true, false] (L' := [some (aR o), some (aI p1), none, some (aI p3), none, none, some (aR t3), some (aI z5), none]) rfl ?_
  exact tX1_asked_28 hp FU p1 p3 t3 z5 σ1
theorem qX1_asked {K : Kt} {o : Nat} (hp : hPre K o) (p1 : Int) (p2 : Int) (p3 : Int) (p4 : Int) (p5 : Int) (σ : Sg) : Cc MX1_asked K [aR o, aI p1, aI p2, aI p3, aI p4, aI p5] σ (emIS K) (vX1_asked K o p1 p2 p3 p4 p5 σ) := cc_of plX1 (Nat.le_of_ble_eq_true rfl) (fun o _ => ⟨Nat.le_refl _, Nat.le_refl _⟩) (fun Γ => tX1_asked hp p1 p2 p3 p4 p5 σ)
noncomputable def vX1_readsThrough (K : Kt) (o : Nat) (p1 : Int) (p2 : Int) (σ : Sg) : Option (Int) := ck (0 ≤ p1 ∧ p1 < 6) ((vX1_keptWeeks K o (σ (o + 8) p1.toNat) p1 σ).bind (fun r1 => if r1 < p2 then (some 0) else (some 1)))
set_option maxRecDepth 100000 in
set_option maxHeartbeats 4000000 in
theorem tX1_readsThrough {Γ : Gx} {K : Kt} {o : Nat} (hp : hPre K o) (p1 : Int) (p2 : Int) (σ : Sg) : Y Γ MX1_readsThrough K (emI K σ) K 0 [some (aR o), some (aI p1), some (aI p2)] [] σ (vX1_readsThrough K o p1 p2 σ) := by
  unfold vX1_readsThrough
  refine y_aload_n dX1_readsThrough_0 rfl rfl ?_
  refine y_aload_n dX1_readsThrough_1 rfl rfl ?_
  refine y_getR fX1_33 hp.2.1.1 rfl (lH_11 hp.2.1).1 dX1_readsThrough_2 ?_
  refine y_iload_n dX1_readsThrough_5 rfl rfl ?_
  refine yk_iaload (lH_11 hp.2.1).2 (N := 6) rfl (j := p1.toNat) rfl dX1_readsThrough_6 ?_
  refine y_iload_n dX1_readsThrough_7 rfl rfl ?_
  refine y_cvI (qX1_keptWeeks hp (σ (o + 8) p1.toNat) p1 σ) kX1_76 rfl hp.2.1.1 rfl (by decide) rfl (Nat.le_of_ble_eq_true rfl) dX1_readsThrough_8 (fun r1 => ?_)
  refine y_iload_n dX1_readsThrough_11 rfl rfl ?_
  refine y_ite (fun h2 => ?_) (fun h2 => ?_)
  · refine y_icmp_lt_t dX1_readsThrough_12 (t := 19) rfl h2 ?_
    refine y_iconst dX1_readsThrough_19 (by decide) ?_
    exact y_zret (by decide) rfl rfl dX1_readsThrough_20
  · refine y_icmp_lt_f dX1_readsThrough_12 (t := 19) rfl h2 ?_
    refine y_iconst dX1_readsThrough_15 (by decide) ?_
    refine y_goto dX1_readsThrough_16 (t := 20) rfl ?_
    exact y_zret (by decide) rfl rfl dX1_readsThrough_20
theorem qX1_readsThrough {K : Kt} {o : Nat} (hp : hPre K o) (p1 : Int) (p2 : Int) (σ : Sg) : Cc MX1_readsThrough K [aR o, aI p1, aI p2] σ (emI K σ) (vX1_readsThrough K o p1 p2 σ) := cc_of plX1 (Nat.le_of_ble_eq_true rfl) (fun o _ => ⟨Nat.le_refl _, Nat.le_refl _⟩) (fun Γ => tX1_readsThrough hp p1 p2 σ)
noncomputable def vX1_traitsBehind (K : Kt) (o : Nat) (p1 : Int) (σ : Sg) : Option (Int × Sg) := ck (0 ≤ p1 ∧ p1 < 6) (nm (σ (o + 8) p1.toNat) (fun z1 => (vX1_hasBook K o z1 σ).bind (fun r2 => if r2 = 0 then (ck (0 ≤ p1 ∧ p1 < 6) (some ((σ (o + 5) p1.toNat), σ))) else (ck (0 ≤ p1 ∧ p1 < 6) (bd2 (vX1_asked K o 2 (σ 1 5) z1 p1 (σ (o + 5) p1.toNat) σ) (fun r4 σ5 => (vX1_readsThrough K o p1 r4 σ5).bind (fun r6 => if r6 = 0 then (ck (0 ≤ p1 ∧ p1 < 6) (some ((σ5 (o + 5) p1.toNat), σ5))) else (ck (0 ≤ p1 ∧ p1 < 6) (ck (0 ≤ z1 ∧ z1 < 8) (some ((bOr (σ5 (o + 5) p1.toNat) (σ5 (o + 3) z1.toNat)), σ5)))))))))))
set_option maxRecDepth 100000 in
set_option maxHeartbeats 4000000 in
theorem tX1_traitsBehind {Γ : Gx} {K : Kt} {o : Nat} (hp : hPre K o) (p1 : Int) (σ : Sg) : Y Γ MX1_traitsBehind K (emIS K) K 0 [some (aR o), some (aI p1), none, none] [] σ (vX1_traitsBehind K o p1 σ) := by
  unfold vX1_traitsBehind
  refine y_aload_n dX1_traitsBehind_0 rfl rfl ?_
  refine y_getR fX1_33 hp.2.1.1 rfl (lH_11 hp.2.1).1 dX1_traitsBehind_1 ?_
  refine y_iload_n dX1_traitsBehind_4 rfl rfl ?_
  refine yk_iaload (lH_11 hp.2.1).2 (N := 6) rfl (j := p1.toNat) rfl dX1_traitsBehind_5 ?_
  refine yn_istore_n dX1_traitsBehind_6 rfl (Nat.le_of_ble_eq_true rfl) (L' := fun z1 => [some (aR o), some (aI p1), some (aI z1), none]) (fun _ => rfl) (fun z1 => ?_)
  refine y_aload_n dX1_traitsBehind_7 rfl rfl ?_
  refine y_iload_n dX1_traitsBehind_8 rfl rfl ?_
  refine y_cvI (qX1_hasBook hp z1 σ) kX1_130 rfl hp.2.1.1 rfl (by decide) rfl (Nat.le_of_ble_eq_true rfl) dX1_traitsBehind_9 (fun r2 => ?_)
  refine y_ite (fun h3 => ?_) (fun h3 => ?_)
  · refine y_if_ne_f dX1_traitsBehind_12 (t := 22) rfl h3 ?_
    refine y_aload_n dX1_traitsBehind_15 rfl rfl ?_
    refine y_getR fX1_24 hp.2.1.1 rfl (lH_8 hp.2.1).1 dX1_traitsBehind_16 ?_
    refine y_iload_n dX1_traitsBehind_19 rfl rfl ?_
    refine yk_iaload (lH_8 hp.2.1).2 (N := 6) rfl (j := p1.toNat) rfl dX1_traitsBehind_20 ?_
    exact y_iret rfl rfl dX1_traitsBehind_21
  · refine y_if_ne_t dX1_traitsBehind_12 (t := 22) rfl h3 ?_
    refine y_aload_n dX1_traitsBehind_22 rfl rfl ?_
    refine y_iconst dX1_traitsBehind_23 (by decide) ?_
    refine y_aload_n dX1_traitsBehind_24 rfl rfl ?_
    refine y_getR fX1_51 hp.2.1.1 rfl hp.2.2 dX1_traitsBehind_25 ?_
    refine y_getI fX1_134 (lcO_1 hp.1) rfl dX1_traitsBehind_28 ?_
    refine y_iload_n dX1_traitsBehind_31 rfl rfl ?_
    refine y_iload_n dX1_traitsBehind_32 rfl rfl ?_
    refine y_aload_n dX1_traitsBehind_33 rfl rfl ?_
    refine y_getR fX1_24 hp.2.1.1 rfl (lH_8 hp.2.1).1 dX1_traitsBehind_34 ?_
    refine y_iload_n dX1_traitsBehind_37 rfl rfl ?_
    refine yk_iaload (lH_8 hp.2.1).2 (N := 6) rfl (j := p1.toNat) rfl dX1_traitsBehind_38 ?_
    refine y_cvIS (qX1_asked hp 2 (σ 1 5) z1 p1 (σ (o + 5) p1.toNat) σ) kX1_137 rfl hp.2.1.1 rfl (by decide) rfl (Nat.le_of_ble_eq_true rfl) dX1_traitsBehind_39 (fun r4 σ5 => ?_)
    refine y_istore_n dX1_traitsBehind_42 rfl (Nat.le_of_ble_eq_true rfl) (L' := [some (aR o), some (aI p1), some (aI z1), some (aI r4)]) rfl ?_
    refine y_aload_n dX1_traitsBehind_43 rfl rfl ?_
    refine y_iload_n dX1_traitsBehind_44 rfl rfl ?_
    refine y_iload_n dX1_traitsBehind_45 rfl rfl ?_
    refine y_cvI (qX1_readsThrough hp p1 r4 σ5) kX1_141 rfl hp.2.1.1 rfl (by decide) rfl (Nat.le_of_ble_eq_true rfl) dX1_traitsBehind_46 (fun r6 => ?_)
    refine y_ite (fun h7 => ?_) (fun h7 => ?_)
    · refine y_if_eq_t dX1_traitsBehind_49 (t := 68) rfl h7 ?_
      refine y_aload_n dX1_traitsBehind_68 rfl rfl ?_
      refine y_getR fX1_24 hp.2.1.1 rfl (lH_8 hp.2.1).1 dX1_traitsBehind_69 ?_
      refine y_iload_n dX1_traitsBehind_72 rfl rfl ?_
      refine yk_iaload (lH_8 hp.2.1).2 (N := 6) rfl (j := p1.toNat) rfl dX1_traitsBehind_73 ?_
      exact y_iret rfl rfl dX1_traitsBehind_74
    · refine y_if_eq_f dX1_traitsBehind_49 (t := 68) rfl h7 ?_
      refine y_aload_n dX1_traitsBehind_52 rfl rfl ?_
      refine y_getR fX1_24 hp.2.1.1 rfl (lH_8 hp.2.1).1 dX1_traitsBehind_53 ?_
      refine y_iload_n dX1_traitsBehind_56 rfl rfl ?_
      refine yk_iaload (lH_8 hp.2.1).2 (N := 6) rfl (j := p1.toNat) rfl dX1_traitsBehind_57 ?_
      refine y_aload_n dX1_traitsBehind_58 rfl rfl ?_
      refine y_getR fX1_18 hp.2.1.1 rfl (lH_6 hp.2.1).1 dX1_traitsBehind_59 ?_
      refine y_iload_n dX1_traitsBehind_62 rfl rfl ?_
      refine yk_iaload (lH_6 hp.2.1).2 (N := 8) rfl (j := z1.toNat) rfl dX1_traitsBehind_63 ?_
      refine y_ior dX1_traitsBehind_64 ?_
      refine y_goto dX1_traitsBehind_65 (t := 74) rfl ?_
      exact y_iret rfl rfl dX1_traitsBehind_74
theorem qX1_traitsBehind {K : Kt} {o : Nat} (hp : hPre K o) (p1 : Int) (σ : Sg) : Cc MX1_traitsBehind K [aR o, aI p1] σ (emIS K) (vX1_traitsBehind K o p1 σ) := cc_of plX1 (Nat.le_of_ble_eq_true rfl) (fun o _ => ⟨Nat.le_refl _, Nat.le_refl _⟩) (fun Γ => tX1_traitsBehind hp p1 σ)
noncomputable def vX1_fits (K : Kt) (o : Nat) (p1 : Int) (p2 : Int) (σ : Sg) : Option (Int) := ck (0 ≤ p2 ∧ p2 < 8) (if (bAnd (σ (o + 2) p2.toNat) (bXor p1 (-1))) = 0 then (some 1) else (some 0))
set_option maxRecDepth 100000 in
set_option maxHeartbeats 4000000 in
theorem tX1_fits {Γ : Gx} {K : Kt} {o : Nat} (hp : hPre K o) (p1 : Int) (p2 : Int) (σ : Sg) : Y Γ MX1_fits K (emI K σ) K 0 [some (aR o), some (aI p1), some (aI p2)] [] σ (vX1_fits K o p1 p2 σ) := by
  unfold vX1_fits
  refine y_aload_n dX1_fits_0 rfl rfl ?_
  refine y_getR fX1_15 hp.2.1.1 rfl (lH_5 hp.2.1).1 dX1_fits_1 ?_
  refine y_iload_n dX1_fits_4 rfl rfl ?_
  refine yk_iaload (lH_5 hp.2.1).2 (N := 8) rfl (j := p2.toNat) rfl dX1_fits_5 ?_
  refine y_iload_n dX1_fits_6 rfl rfl ?_
  refine y_iconst dX1_fits_7 (by decide) ?_
  refine y_ixor dX1_fits_8 ?_
  refine y_iand dX1_fits_9 ?_
  refine y_ite (fun h1 => ?_) (fun h1 => ?_)
  · refine y_if_ne_f dX1_fits_10 (t := 17) rfl h1 ?_
    refine y_iconst dX1_fits_13 (by decide) ?_
    refine y_goto dX1_fits_14 (t := 18) rfl ?_
    exact y_zret (by decide) rfl rfl dX1_fits_18
  · refine y_if_ne_t dX1_fits_10 (t := 17) rfl h1 ?_
    refine y_iconst dX1_fits_17 (by decide) ?_
    exact y_zret (by decide) rfl rfl dX1_fits_18
theorem qX1_fits {K : Kt} {o : Nat} (hp : hPre K o) (p1 : Int) (p2 : Int) (σ : Sg) : Cc MX1_fits K [aR o, aI p1, aI p2] σ (emI K σ) (vX1_fits K o p1 p2 σ) := cc_of plX1 (Nat.le_of_ble_eq_true rfl) (fun o _ => ⟨Nat.le_refl _, Nat.le_refl _⟩) (fun Γ => tX1_fits hp p1 p2 σ)
noncomputable def vX1_lendRefusal_89 (K : Kt) (o : Nat) (y0 : Int) (σ : Sg) : Option (Int × Sg) := if y0 = 0 then (some ((-3), σ)) else (some (0, σ))
set_option maxRecDepth 100000 in
set_option maxHeartbeats 4000000 in
theorem tX1_lendRefusal_89 {Γ : Gx} {K : Kt} {o : Nat} (hp : hPre K o) (y0 : Int) (σ : Sg) : Y Γ MX1_lendRefusal K (emIS K) K 89 [none, none, none, none, none] [aI y0] σ (vX1_lendRefusal_89 K o y0 σ) := by
  unfold vX1_lendRefusal_89
  refine y_istore dX1_lendRefusal_89 (Nat.le_of_ble_eq_true rfl) (L' := [none, none, none, none, some (aI y0)]) rfl ?_
  refine y_iload dX1_lendRefusal_91 rfl ?_
  refine y_ite (fun h1 => ?_) (fun h1 => ?_)
  · refine y_if_eq_t dX1_lendRefusal_93 (t := 100) rfl h1 ?_
    refine y_bipush dX1_lendRefusal_100 (by decide) (by decide) ?_
    exact y_iret rfl rfl dX1_lendRefusal_102
  · refine y_if_eq_f dX1_lendRefusal_93 (t := 100) rfl h1 ?_
    refine y_iconst dX1_lendRefusal_96 (by decide) ?_
    refine y_goto dX1_lendRefusal_97 (t := 102) rfl ?_
    exact y_iret rfl rfl dX1_lendRefusal_102
noncomputable def vX1_lendRefusal_88 (K : Kt) (o : Nat) (σ : Sg) : Option (Int × Sg) := vX1_lendRefusal_89 K o 0 σ
set_option maxRecDepth 100000 in
set_option maxHeartbeats 4000000 in
theorem tX1_lendRefusal_88 {Γ : Gx} {K : Kt} {o : Nat} (hp : hPre K o) (σ : Sg) : Y Γ MX1_lendRefusal K (emIS K) K 88 [none, none, none, none, none] [] σ (vX1_lendRefusal_88 K o σ) := by
  unfold vX1_lendRefusal_88
  refine y_iconst dX1_lendRefusal_88 (by decide) ?_
  exact tX1_lendRefusal_89 hp 0 σ
noncomputable def vX1_lendRefusal (K : Kt) (o : Nat) (p1 : Int) (p2 : Int) (σ : Sg) : Option (Int × Sg) := (vX1_hasReader K o p1 σ).bind (fun r1 => if r1 = 0 then (some ((-2), σ)) else ((vX1_hasBook K o p2 σ).bind (fun r3 => if r3 = 0 then (some ((-2), σ)) else ((vX1_readerWith K o p2 σ).bind (fun r5 => if r5 = (-1) then (ck (0 ≤ p1 ∧ p1 < 6) (if (σ (o + 6) p1.toNat) = 0 then (ck (0 ≤ p1 ∧ p1 < 6) (if (σ (o + 7) p1.toNat) < 99 then (bd2 (vX1_traitsBehind K o p1 σ) (fun r9 σ10 => (vX1_fits K o r9 p2 σ10).bind (fun r11 => if r11 = 0 then (vX1_lendRefusal_88 K o σ10) else (bd2 (vX1_asked K o 3 (σ10 1 5) p2 p1 r9 σ10) (fun r13 σ14 => if r13 = 0 then (vX1_lendRefusal_89 K o 1 σ14) else (vX1_lendRefusal_88 K o σ14)))))) else (some ((-3), σ)))) else (some ((-3), σ)))) else (some ((-3), σ)))))))
set_option maxRecDepth 100000 in
set_option maxHeartbeats 4000000 in
theorem tX1_lendRefusal {Γ : Gx} {K : Kt} {o : Nat} (hp : hPre K o) (p1 : Int) (p2 : Int) (σ : Sg) : Y Γ MX1_lendRefusal K (emIS K) K 0 [some (aR o), some (aI p1), some (aI p2), none, none] [] σ (vX1_lendRefusal K o p1 p2 σ) := by
  unfold vX1_lendRefusal
  refine y_aload_n dX1_lendRefusal_0 rfl rfl ?_
  refine y_iload_n dX1_lendRefusal_1 rfl rfl ?_
  refine y_cvI (qX1_hasReader hp p1 σ) kX1_145 rfl hp.2.1.1 rfl (by decide) rfl (Nat.le_of_ble_eq_true rfl) dX1_lendRefusal_2 (fun r1 => ?_)
  refine y_ite (fun h2 => ?_) (fun h2 => ?_)
  · refine y_if_eq_t dX1_lendRefusal_5 (t := 16) rfl h2 ?_
    refine y_bipush dX1_lendRefusal_16 (by decide) (by decide) ?_
    exact y_iret rfl rfl dX1_lendRefusal_18
  · refine y_if_eq_f dX1_lendRefusal_5 (t := 16) rfl h2 ?_
    refine y_aload_n dX1_lendRefusal_8 rfl rfl ?_
    refine y_iload_n dX1_lendRefusal_9 rfl rfl ?_
    refine y_cvI (qX1_hasBook hp p2 σ) kX1_130 rfl hp.2.1.1 rfl (by decide) rfl (Nat.le_of_ble_eq_true rfl) dX1_lendRefusal_10 (fun r3 => ?_)
    refine y_ite (fun h4 => ?_) (fun h4 => ?_)
    · refine y_if_ne_f dX1_lendRefusal_13 (t := 19) rfl h4 ?_
      refine y_bipush dX1_lendRefusal_16 (by decide) (by decide) ?_
      exact y_iret rfl rfl dX1_lendRefusal_18
    · refine y_if_ne_t dX1_lendRefusal_13 (t := 19) rfl h4 ?_
      refine y_aload_n dX1_lendRefusal_19 rfl rfl ?_
      refine y_iload_n dX1_lendRefusal_20 rfl rfl ?_
      refine y_cvI (qX1_readerWith hp p2 σ) kX1_148 rfl hp.2.1.1 rfl (by decide) rfl (Nat.le_of_ble_eq_true rfl) dX1_lendRefusal_21 (fun r5 => ?_)
      refine y_iconst dX1_lendRefusal_24 (by decide) ?_
      refine y_ite (fun h6 => ?_) (fun h6 => ?_)
      · refine y_icmp_ne_f dX1_lendRefusal_25 (t := 48) rfl h6 ?_
        refine y_aload_n dX1_lendRefusal_28 rfl rfl ?_
        refine y_getR fX1_27 hp.2.1.1 rfl (lH_9 hp.2.1).1 dX1_lendRefusal_29 ?_
        refine y_iload_n dX1_lendRefusal_32 rfl rfl ?_
        refine yk_iaload (lH_9 hp.2.1).2 (N := 6) rfl (j := p1.toNat) rfl dX1_lendRefusal_33 ?_
        refine y_ite (fun h7 => ?_) (fun h7 => ?_)
        · refine y_if_ne_f dX1_lendRefusal_34 (t := 48) rfl h7 ?_
          refine y_aload_n dX1_lendRefusal_37 rfl rfl ?_
          refine y_getR fX1_30 hp.2.1.1 rfl (lH_10 hp.2.1).1 dX1_lendRefusal_38 ?_
          refine y_iload_n dX1_lendRefusal_41 rfl rfl ?_
          refine yk_iaload (lH_10 hp.2.1).2 (N := 6) rfl (j := p1.toNat) rfl dX1_lendRefusal_42 ?_
          refine y_bipush dX1_lendRefusal_43 (by decide) (by decide) ?_
          refine y_ite (fun h8 => ?_) (fun h8 => ?_)
          · refine y_icmp_lt_t dX1_lendRefusal_45 (t := 51) rfl h8 ?_
            refine y_aload_n dX1_lendRefusal_51 rfl rfl ?_
            refine y_iload_n dX1_lendRefusal_52 rfl rfl ?_
            refine y_cvIS (qX1_traitsBehind hp p1 σ) kX1_152 rfl hp.2.1.1 rfl (by decide) rfl (Nat.le_of_ble_eq_true rfl) dX1_lendRefusal_53 (fun r9 σ10 => ?_)
            refine y_istore_n dX1_lendRefusal_56 rfl (Nat.le_of_ble_eq_true rfl) (L' := [some (aR o), some (aI p1), some (aI p2), some (aI r9), none]) rfl ?_
            refine y_aload_n dX1_lendRefusal_57 rfl rfl ?_
            refine y_iload_n dX1_lendRefusal_58 rfl rfl ?_
            refine y_iload_n dX1_lendRefusal_59 rfl rfl ?_
            refine y_cvI (qX1_fits hp r9 p2 σ10) kX1_155 rfl hp.2.1.1 rfl (by decide) rfl (Nat.le_of_ble_eq_true rfl) dX1_lendRefusal_60 (fun r11 => ?_)
            refine y_ite (fun h12 => ?_) (fun h12 => ?_)
            · refine y_if_eq_t dX1_lendRefusal_63 (t := 88) rfl h12 ?_
              refine y_fg [false, false, false, false, false] (L' := [none, none, none, none, none]) rfl ?_
              exact tX1_lendRefusal_88 hp σ10
            · refine y_if_eq_f dX1_lendRefusal_63 (t := 88) rfl h12 ?_
              refine y_aload_n dX1_lendRefusal_66 rfl rfl ?_
              refine y_iconst dX1_lendRefusal_67 (by decide) ?_
              refine y_aload_n dX1_lendRefusal_68 rfl rfl ?_
              refine y_getR fX1_51 hp.2.1.1 rfl hp.2.2 dX1_lendRefusal_69 ?_
              refine y_getI fX1_134 (lcO_1 hp.1) rfl dX1_lendRefusal_72 ?_
              refine y_iload_n dX1_lendRefusal_75 rfl rfl ?_
              refine y_iload_n dX1_lendRefusal_76 rfl rfl ?_
              refine y_iload_n dX1_lendRefusal_77 rfl rfl ?_
              refine y_cvIS (qX1_asked hp 3 (σ10 1 5) p2 p1 r9 σ10) kX1_137 rfl hp.2.1.1 rfl (by decide) rfl (Nat.le_of_ble_eq_true rfl) dX1_lendRefusal_78 (fun r13 σ14 => ?_)
              refine y_ite (fun h15 => ?_) (fun h15 => ?_)
              · refine y_if_ne_f dX1_lendRefusal_81 (t := 88) rfl h15 ?_
                refine y_iconst dX1_lendRefusal_84 (by decide) ?_
                refine y_goto dX1_lendRefusal_85 (t := 89) rfl ?_
                refine y_fg [false, false, false, false, false] (L' := [none, none, none, none, none]) rfl ?_
                exact tX1_lendRefusal_89 hp 1 σ14
              · refine y_if_ne_t dX1_lendRefusal_81 (t := 88) rfl h15 ?_
                refine y_fg [false, false, false, false, false] (L' := [none, none, none, none, none]) rfl ?_
                exact tX1_lendRefusal_88 hp σ14
          · refine y_icmp_lt_f dX1_lendRefusal_45 (t := 51) rfl h8 ?_
            refine y_bipush dX1_lendRefusal_48 (by decide) (by decide) ?_
            exact y_iret rfl rfl dX1_lendRefusal_50
        · refine y_if_ne_t dX1_lendRefusal_34 (t := 48) rfl h7 ?_
          refine y_bipush dX1_lendRefusal_48 (by decide) (by decide) ?_
          exact y_iret rfl rfl dX1_lendRefusal_50
      · refine y_icmp_ne_t dX1_lendRefusal_25 (t := 48) rfl h6 ?_
        refine y_bipush dX1_lendRefusal_48 (by decide) (by decide) ?_
        exact y_iret rfl rfl dX1_lendRefusal_50
theorem qX1_lendRefusal {K : Kt} {o : Nat} (hp : hPre K o) (p1 : Int) (p2 : Int) (σ : Sg) : Cc MX1_lendRefusal K [aR o, aI p1, aI p2] σ (emIS K) (vX1_lendRefusal K o p1 p2 σ) := cc_of plX1 (Nat.le_of_ble_eq_true rfl) (fun o _ => ⟨Nat.le_refl _, Nat.le_refl _⟩) (fun Γ => tX1_lendRefusal hp p1 p2 σ)
noncomputable def vX1_canHave (K : Kt) (o : Nat) (p1 : Int) (p2 : Int) (σ : Sg) : Option (Int × Sg) := ck (0 ≤ p2 ∧ p2 < 6) (if (σ (o + 8) p2.toNat) = (-1) then (bd2 (vX1_lendRefusal K o p2 p1 σ) (fun r2 σ3 => if r2 = 0 then (some (1, σ3)) else (some (0, σ3)))) else (some (0, σ)))
set_option maxRecDepth 100000 in
set_option maxHeartbeats 4000000 in
theorem tX1_canHave {Γ : Gx} {K : Kt} {o : Nat} (hp : hPre K o) (p1 : Int) (p2 : Int) (σ : Sg) : Y Γ MX1_canHave K (emIS K) K 0 [some (aR o), some (aI p1), some (aI p2)] [] σ (vX1_canHave K o p1 p2 σ) := by
  unfold vX1_canHave
  refine y_aload_n dX1_canHave_0 rfl rfl ?_
  refine y_getR fX1_33 hp.2.1.1 rfl (lH_11 hp.2.1).1 dX1_canHave_1 ?_
  refine y_iload_n dX1_canHave_4 rfl rfl ?_
  refine yk_iaload (lH_11 hp.2.1).2 (N := 6) rfl (j := p2.toNat) rfl dX1_canHave_5 ?_
  refine y_iconst dX1_canHave_6 (by decide) ?_
  refine y_ite (fun h1 => ?_) (fun h1 => ?_)
  · refine y_icmp_ne_f dX1_canHave_7 (t := 23) rfl h1 ?_
    refine y_aload_n dX1_canHave_10 rfl rfl ?_
    refine y_iload_n dX1_canHave_11 rfl rfl ?_
    refine y_iload_n dX1_canHave_12 rfl rfl ?_
    refine y_cvIS (qX1_lendRefusal hp p2 p1 σ) kX1_158 rfl hp.2.1.1 rfl (by decide) rfl (Nat.le_of_ble_eq_true rfl) dX1_canHave_13 (fun r2 σ3 => ?_)
    refine y_ite (fun h4 => ?_) (fun h4 => ?_)
    · refine y_if_ne_f dX1_canHave_16 (t := 23) rfl h4 ?_
      refine y_iconst dX1_canHave_19 (by decide) ?_
      refine y_goto dX1_canHave_20 (t := 24) rfl ?_
      exact y_zret (by decide) rfl rfl dX1_canHave_24
    · refine y_if_ne_t dX1_canHave_16 (t := 23) rfl h4 ?_
      refine y_iconst dX1_canHave_23 (by decide) ?_
      exact y_zret (by decide) rfl rfl dX1_canHave_24
  · refine y_icmp_ne_t dX1_canHave_7 (t := 23) rfl h1 ?_
    refine y_iconst dX1_canHave_23 (by decide) ?_
    exact y_zret (by decide) rfl rfl dX1_canHave_24
theorem qX1_canHave {K : Kt} {o : Nat} (hp : hPre K o) (p1 : Int) (p2 : Int) (σ : Sg) : Cc MX1_canHave K [aR o, aI p1, aI p2] σ (emIS K) (vX1_canHave K o p1 p2 σ) := cc_of plX1 (Nat.le_of_ble_eq_true rfl) (fun o _ => ⟨Nat.le_refl _, Nat.le_refl _⟩) (fun Γ => tX1_canHave hp p1 p2 σ)
noncomputable def vX0_fillNear_66 (K : Kt) (rec_9 : Int → Sg → Option (Sg)) : Nat → Int → Int → Int → Int → Sg → Option (Sg)
  | 0, _, _, _, _, _ => none
  | f + 1, x1, x2, x3, x4, σ => ck (in32 (2 * x3)) (if x4 < (2 * x3) then (ck (in32 (x4 - x3)) (ck (0 ≤ (x4 - x3) ∧ (x4 - x3) < 64) (ck (0 ≤ x4 ∧ x4 < 64) (nm (up2 σ 74 x4.toNat (bOr (σ 74 (x4 - x3).toNat) x2)) (fun σ2 => ck (in32 (x4 + 1)) (vX0_fillNear_66 K rec_9 f x1 x2 x3 (x4 + 1) σ2)))))) else (ck (in32 (x1 + 1)) (rec_9 (x1 + 1) σ)))
set_option maxRecDepth 100000 in
set_option maxHeartbeats 4000000 in
theorem tX0_fillNear_66 {Γ : Gx} {K : Kt} (hC : cLay K) (rec_9 : Int → Sg → Option (Sg)) (hrec_9 : ∀ (x1 : Int) (σ : Sg), Y Γ MX0_fillNear K (emV K) K 9 [some (aR 73), some (aI x1), none, none, none] [] σ (rec_9 x1 σ)) : ∀ (f : Nat) (x1 : Int) (x2 : Int) (x3 : Int) (x4 : Int) (σ : Sg), Y Γ MX0_fillNear K (emV K) K 66 [some (aR 73), some (aI x1), some (aI x2), some (aI x3), some (aI x4)] [] σ (vX0_fillNear_66 K rec_9 f x1 x2 x3 x4 σ) := by
  intro f
  induction f with
  | zero => intro x1 x2 x3 x4 σ; exact y_none
  | succ f ih =>
    intro x1 x2 x3 x4 σ
    rw [vX0_fillNear_66]
    refine y_iload dX0_fillNear_66 rfl ?_
    refine y_iconst dX0_fillNear_68 (by decide) ?_
    refine y_iload_n dX0_fillNear_69 rfl rfl ?_
    refine yk_imul dX0_fillNear_70 ?_
    refine y_ite (fun h1 => ?_) (fun h1 => ?_)
    · refine y_icmp_ge_f dX0_fillNear_71 (t := 98) rfl h1 ?_
      refine y_aload_n dX0_fillNear_74 rfl rfl ?_
      refine y_getR fX0_11 (lcO_73 hC) rfl (lcR_73_1 hC) dX0_fillNear_75 ?_
      refine y_iload dX0_fillNear_78 rfl ?_
      refine y_aload_n dX0_fillNear_80 rfl rfl ?_
      refine y_getR fX0_11 (lcO_73 hC) rfl (lcR_73_1 hC) dX0_fillNear_81 ?_
      refine y_iload dX0_fillNear_84 rfl ?_
      refine y_iload_n dX0_fillNear_86 rfl rfl ?_
      refine yk_isub dX0_fillNear_87 ?_
      refine yk_iaload (lcA_74 hC) (N := 64) rfl (j := (x4 - x3).toNat) rfl dX0_fillNear_88 ?_
      refine y_iload_n dX0_fillNear_89 rfl rfl ?_
      refine y_ior dX0_fillNear_90 ?_
      refine yk_iastore (lcA_74 hC) (N := 64) rfl (j := x4.toNat) rfl dX0_fillNear_91 (fun σ2 => ?_)
      refine yk_iinc dX0_fillNear_92 rfl (L' := [some (aR 73), some (aI x1), some (aI x2), some (aI x3), some (aI (x4 + 1))]) rfl ?_
      refine y_goto dX0_fillNear_95 (t := 66) rfl ?_
      exact ih x1 x2 x3 (x4 + 1) σ2
    · refine y_icmp_ge_t dX0_fillNear_71 (t := 98) rfl h1 ?_
      refine yk_iinc dX0_fillNear_98 rfl (L' := [some (aR 73), some (aI (x1 + 1)), some (aI x2), some (aI x3), some (aI x4)]) rfl ?_
      refine y_goto dX0_fillNear_101 (t := 9) rfl ?_
      refine y_fg [true, true, false, false, false] (L' := [some (aR 73), some (aI (x1 + 1)), none, none, none]) rfl ?_
      exact hrec_9 (x1 + 1) σ
noncomputable def vX0_fillNear_24 (K : Kt) (rec_9 : Int → Sg → Option (Sg)) : Nat → Int → Int → Int → Sg → Option (Sg)
  | 0, _, _, _, _ => none
  | f + 1, x1, x2, x3, σ => if x3 < (σ 13 1) then (bd2 (vX1_canHave K 13 x3 x1 σ) (fun r2 σ3 => if r2 = 0 then (ck (in32 (x3 + 1)) (vX0_fillNear_24 K rec_9 f x1 x2 (x3 + 1) σ3)) else (nm (bOr x2 (bShl 1 x3)) (fun z5 => ck (in32 (x3 + 1)) (vX0_fillNear_24 K rec_9 f x1 z5 (x3 + 1) σ3))))) else (nm (bShl 1 x1) (fun z6 => vX0_fillNear_66 K rec_9 FU x1 x2 z6 z6 σ))
set_option maxRecDepth 100000 in
set_option maxHeartbeats 4000000 in
theorem tX0_fillNear_24 {Γ : Gx} {K : Kt} (hC : cLay K) (rec_9 : Int → Sg → Option (Sg)) (hrec_9 : ∀ (x1 : Int) (σ : Sg), Y Γ MX0_fillNear K (emV K) K 9 [some (aR 73), some (aI x1), none, none, none] [] σ (rec_9 x1 σ)) : ∀ (f : Nat) (x1 : Int) (x2 : Int) (x3 : Int) (σ : Sg), Y Γ MX0_fillNear K (emV K) K 24 [some (aR 73), some (aI x1), some (aI x2), some (aI x3), none] [] σ (vX0_fillNear_24 K rec_9 f x1 x2 x3 σ) := by
  intro f
  induction f with
  | zero => intro x1 x2 x3 σ; exact y_none
  | succ f ih =>
    intro x1 x2 x3 σ
    rw [vX0_fillNear_24]
    refine y_iload_n dX0_fillNear_24 rfl rfl ?_
    refine y_aload_n dX0_fillNear_25 rfl rfl ?_
    refine y_getR fX0_35 (lcO_73 hC) rfl (lcR_73_0 hC) dX0_fillNear_26 ?_
    refine y_getI fX0_39 (lcO_13 hC) rfl dX0_fillNear_29 ?_
    refine y_ite (fun h1 => ?_) (fun h1 => ?_)
    · refine y_icmp_ge_f dX0_fillNear_32 (t := 59) rfl h1 ?_
      refine y_aload_n dX0_fillNear_35 rfl rfl ?_
      refine y_getR fX0_35 (lcO_73 hC) rfl (lcR_73_0 hC) dX0_fillNear_36 ?_
      refine y_iload_n dX0_fillNear_39 rfl rfl ?_
      refine y_iload_n dX0_fillNear_40 rfl rfl ?_
      refine y_cvIS (qX1_canHave (hPre_13 hC) x3 x1 σ) kX0_56 rfl (lcO_13 hC) rfl (by decide) rfl (Nat.le_of_ble_eq_true rfl) dX0_fillNear_41 (fun r2 σ3 => ?_)
      refine y_ite (fun h4 => ?_) (fun h4 => ?_)
      · refine y_if_eq_t dX0_fillNear_44 (t := 53) rfl h4 ?_
        refine yk_iinc dX0_fillNear_53 rfl (L' := [some (aR 73), some (aI x1), some (aI x2), some (aI (x3 + 1)), none]) rfl ?_
        refine y_goto dX0_fillNear_56 (t := 24) rfl ?_
        exact ih x1 x2 (x3 + 1) σ3
      · refine y_if_eq_f dX0_fillNear_44 (t := 53) rfl h4 ?_
        refine y_iload_n dX0_fillNear_47 rfl rfl ?_
        refine y_iconst dX0_fillNear_48 (by decide) ?_
        refine y_iload_n dX0_fillNear_49 rfl rfl ?_
        refine y_ishl dX0_fillNear_50 ?_
        refine y_ior dX0_fillNear_51 ?_
        refine yn_istore_n dX0_fillNear_52 rfl (Nat.le_of_ble_eq_true rfl) (L' := fun z5 => [some (aR 73), some (aI x1), some (aI z5), some (aI x3), none]) (fun _ => rfl) (fun z5 => ?_)
        refine yk_iinc dX0_fillNear_53 rfl (L' := [some (aR 73), some (aI x1), some (aI z5), some (aI (x3 + 1)), none]) rfl ?_
        refine y_goto dX0_fillNear_56 (t := 24) rfl ?_
        exact ih x1 z5 (x3 + 1) σ3
    · refine y_icmp_ge_t dX0_fillNear_32 (t := 59) rfl h1 ?_
      refine y_iconst dX0_fillNear_59 (by decide) ?_
      refine y_iload_n dX0_fillNear_60 rfl rfl ?_
      refine y_ishl dX0_fillNear_61 ?_
      refine yn_istore_n dX0_fillNear_62 rfl (Nat.le_of_ble_eq_true rfl) (L' := fun z6 => [some (aR 73), some (aI x1), some (aI x2), some (aI z6), none]) (fun _ => rfl) (fun z6 => ?_)
      refine y_iload_n dX0_fillNear_63 rfl rfl ?_
      refine y_istore dX0_fillNear_64 (Nat.le_of_ble_eq_true rfl) (L' := [some (aR 73), some (aI x1), some (aI x2), some (aI z6), some (aI z6)]) rfl ?_
      exact tX0_fillNear_66 hC rec_9 hrec_9 FU x1 x2 z6 z6 σ
noncomputable def vX0_fillNear_9 (K : Kt) : Nat → Int → Sg → Option (Sg)
  | 0, _, _ => none
  | f + 1, x1, σ => if x1 < (σ 13 2) then (vX0_fillNear_24 K (vX0_fillNear_9 K f) FU x1 0 0 σ) else (some σ)
set_option maxRecDepth 100000 in
set_option maxHeartbeats 4000000 in
theorem tX0_fillNear_9 {Γ : Gx} {K : Kt} (hC : cLay K) : ∀ (f : Nat) (x1 : Int) (σ : Sg), Y Γ MX0_fillNear K (emV K) K 9 [some (aR 73), some (aI x1), none, none, none] [] σ (vX0_fillNear_9 K f x1 σ) := by
  intro f
  induction f with
  | zero => intro x1 σ; exact y_none
  | succ f ih =>
    intro x1 σ
    rw [vX0_fillNear_9]
    refine y_iload_n dX0_fillNear_9 rfl rfl ?_
    refine y_aload_n dX0_fillNear_10 rfl rfl ?_
    refine y_getR fX0_35 (lcO_73 hC) rfl (lcR_73_0 hC) dX0_fillNear_11 ?_
    refine y_getI fX0_49 (lcO_13 hC) rfl dX0_fillNear_14 ?_
    refine y_ite (fun h1 => ?_) (fun h1 => ?_)
    · refine y_icmp_ge_f dX0_fillNear_17 (t := 104) rfl h1 ?_
      refine y_iconst dX0_fillNear_20 (by decide) ?_
      refine y_istore_n dX0_fillNear_21 rfl (Nat.le_of_ble_eq_true rfl) (L' := [some (aR 73), some (aI x1), some (aI 0), none, none]) rfl ?_
      refine y_iconst dX0_fillNear_22 (by decide) ?_
      refine y_istore_n dX0_fillNear_23 rfl (Nat.le_of_ble_eq_true rfl) (L' := [some (aR 73), some (aI x1), some (aI 0), some (aI 0), none]) rfl ?_
      exact tX0_fillNear_24 hC (vX0_fillNear_9 K f) ih FU x1 0 0 σ
    · refine y_icmp_ge_t dX0_fillNear_17 (t := 104) rfl h1 ?_
      exact y_vret rfl rfl dX0_fillNear_104
noncomputable def vX0_fillNear (K : Kt) (σ : Sg) : Option (Sg) := nm (up2 σ 74 0 0) (fun σ1 => vX0_fillNear_9 K FU 0 σ1)
set_option maxRecDepth 100000 in
set_option maxHeartbeats 4000000 in
theorem tX0_fillNear {Γ : Gx} {K : Kt} (hC : cLay K) (σ : Sg) : Y Γ MX0_fillNear K (emV K) K 0 [some (aR 73), none, none, none, none] [] σ (vX0_fillNear K σ) := by
  unfold vX0_fillNear
  refine y_aload_n dX0_fillNear_0 rfl rfl ?_
  refine y_getR fX0_11 (lcO_73 hC) rfl (lcR_73_1 hC) dX0_fillNear_1 ?_
  refine y_iconst dX0_fillNear_4 (by decide) ?_
  refine y_iconst dX0_fillNear_5 (by decide) ?_
  refine yl_iastore (lcA_74 hC) (by decide) (j := 0) rfl dX0_fillNear_6 (fun σ1 => ?_)
  refine y_iconst dX0_fillNear_7 (by decide) ?_
  refine y_istore_n dX0_fillNear_8 rfl (Nat.le_of_ble_eq_true rfl) (L' := [some (aR 73), some (aI 0), none, none, none]) rfl ?_
  exact tX0_fillNear_9 hC FU 0 σ1
theorem qX0_fillNear {K : Kt} (hC : cLay K) (σ : Sg) : Cc MX0_fillNear K [aR 73] σ (emV K) (vX0_fillNear K σ) := cc_of plX0 (Nat.le_of_ble_eq_true rfl) (fun o _ => ⟨Nat.le_refl _, Nat.le_refl _⟩) (fun Γ => tX0_fillNear hC σ)
noncomputable def vX0_costOf (K : Kt) (p1 : Int) (σ : Sg) : Option (Int) := ck (0 ≤ p1 ∧ p1 < 8) (ck (in32 ((σ 14 p1.toNat) * 16)) (ck (in32 (((σ 14 p1.toNat) * 16) + 1)) (some (((σ 14 p1.toNat) * 16) + 1))))
set_option maxRecDepth 100000 in
set_option maxHeartbeats 4000000 in
theorem tX0_costOf {Γ : Gx} {K : Kt} (hC : cLay K) (p1 : Int) (σ : Sg) : Y Γ MX0_costOf K (emI K σ) K 0 [some (aR 73), some (aI p1)] [] σ (vX0_costOf K p1 σ) := by
  unfold vX0_costOf
  refine y_aload_n dX0_costOf_0 rfl rfl ?_
  refine y_getR fX0_35 (lcO_73 hC) rfl (lcR_73_0 hC) dX0_costOf_1 ?_
  refine y_getR fX0_82 (lcO_13 hC) rfl (lcR_13_4 hC) dX0_costOf_4 ?_
  refine y_iload_n dX0_costOf_7 rfl rfl ?_
  refine yk_iaload (lcA_14 hC) (N := 8) rfl (j := p1.toNat) rfl dX0_costOf_8 ?_
  refine y_bipush dX0_costOf_9 (by decide) (by decide) ?_
  refine yk_imul dX0_costOf_11 ?_
  refine y_iconst dX0_costOf_12 (by decide) ?_
  refine yk_iadd dX0_costOf_13 ?_
  exact y_iret rfl rfl dX0_costOf_14
theorem qX0_costOf {K : Kt} (hC : cLay K) (p1 : Int) (σ : Sg) : Cc MX0_costOf K [aR 73, aI p1] σ (emI K σ) (vX0_costOf K p1 σ) := cc_of plX0 (Nat.le_of_ble_eq_true rfl) (fun o _ => ⟨Nat.le_refl _, Nat.le_refl _⟩) (fun Γ => tX0_costOf hC p1 σ)
