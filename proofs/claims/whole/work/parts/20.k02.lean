noncomputable def vX1_addReader (K : Kt) (o : Nat) (p1 : Int) (p2 : Int) (σ : Sg) : Option (Int × Sg) := if (σ o 2) < 6 then (ck (0 ≤ (σ o 2) ∧ (σ o 2) < 6) (nm (up2 σ (o + 5) (σ o 2).toNat p1) (fun σ2 => ck (0 ≤ (σ2 o 2) ∧ (σ2 o 2) < 6) (nm (up2 σ2 (o + 6) (σ2 o 2).toNat p2) (fun σ3 => ck (0 ≤ (σ3 o 2) ∧ (σ3 o 2) < 6) (nm (up2 σ3 (o + 7) (σ3 o 2).toNat 0) (fun σ4 => ck (0 ≤ (σ4 o 2) ∧ (σ4 o 2) < 6) (nm (up2 σ4 (o + 8) (σ4 o 2).toNat (-1)) (fun σ5 => ck (0 ≤ (σ5 o 2) ∧ (σ5 o 2) < 6) (nm (up2 σ5 (o + 9) (σ5 o 2).toNat 0) (fun σ6 => ck (0 ≤ (σ6 o 2) ∧ (σ6 o 2) < 6) (nm (up2 σ6 (o + 10) (σ6 o 2).toNat 0) (fun σ7 => ck (in32 ((σ7 o 2) + 1)) (nm (up2 σ7 o 2 ((σ7 o 2) + 1)) (fun σ8 => ck (in32 ((σ8 o 2) - 1)) (some (((σ8 o 2) - 1), σ8))))))))))))))))) else (some ((-1), σ))
set_option maxRecDepth 100000 in
set_option maxHeartbeats 4000000 in
theorem tX1_addReader {Γ : Gx} {K : Kt} {o : Nat} (hp : hPre K o) (p1 : Int) (p2 : Int) (σ : Sg) : Y Γ MX1_addReader K (emIS K) K 0 [some (aR o), some (aI p1), some (aI p2)] [] σ (vX1_addReader K o p1 p2 σ) := by
  unfold vX1_addReader
  refine y_aload_n dX1_addReader_0 rfl rfl ?_
  refine y_getI fX1_59 hp.2.1.1 rfl dX1_addReader_1 ?_
  refine y_bipush dX1_addReader_4 (by decide) (by decide) ?_
  refine y_ite (fun h1 => ?_) (fun h1 => ?_)
  · refine y_icmp_lt_t dX1_addReader_6 (t := 11) rfl h1 ?_
    refine y_aload_n dX1_addReader_11 rfl rfl ?_
    refine y_getR fX1_24 hp.2.1.1 rfl (lH_8 hp.2.1).1 dX1_addReader_12 ?_
    refine y_aload_n dX1_addReader_15 rfl rfl ?_
    refine y_getI fX1_59 hp.2.1.1 rfl dX1_addReader_16 ?_
    refine y_iload_n dX1_addReader_19 rfl rfl ?_
    refine yk_iastore (lH_8 hp.2.1).2 (N := 6) rfl (j := (σ o 2).toNat) rfl dX1_addReader_20 (fun σ2 => ?_)
    refine y_aload_n dX1_addReader_21 rfl rfl ?_
    refine y_getR fX1_27 hp.2.1.1 rfl (lH_9 hp.2.1).1 dX1_addReader_22 ?_
    refine y_aload_n dX1_addReader_25 rfl rfl ?_
    refine y_getI fX1_59 hp.2.1.1 rfl dX1_addReader_26 ?_
    refine y_iload_n dX1_addReader_29 rfl rfl ?_
    refine yk_iastore (lH_9 hp.2.1).2 (N := 6) rfl (j := (σ2 o 2).toNat) rfl dX1_addReader_30 (fun σ3 => ?_)
    refine y_aload_n dX1_addReader_31 rfl rfl ?_
    refine y_getR fX1_30 hp.2.1.1 rfl (lH_10 hp.2.1).1 dX1_addReader_32 ?_
    refine y_aload_n dX1_addReader_35 rfl rfl ?_
    refine y_getI fX1_59 hp.2.1.1 rfl dX1_addReader_36 ?_
    refine y_iconst dX1_addReader_39 (by decide) ?_
    refine yk_iastore (lH_10 hp.2.1).2 (N := 6) rfl (j := (σ3 o 2).toNat) rfl dX1_addReader_40 (fun σ4 => ?_)
    refine y_aload_n dX1_addReader_41 rfl rfl ?_
    refine y_getR fX1_33 hp.2.1.1 rfl (lH_11 hp.2.1).1 dX1_addReader_42 ?_
    refine y_aload_n dX1_addReader_45 rfl rfl ?_
    refine y_getI fX1_59 hp.2.1.1 rfl dX1_addReader_46 ?_
    refine y_iconst dX1_addReader_49 (by decide) ?_
    refine yk_iastore (lH_11 hp.2.1).2 (N := 6) rfl (j := (σ4 o 2).toNat) rfl dX1_addReader_50 (fun σ5 => ?_)
    refine y_aload_n dX1_addReader_51 rfl rfl ?_
    refine y_getR fX1_36 hp.2.1.1 rfl (lH_12 hp.2.1).1 dX1_addReader_52 ?_
    refine y_aload_n dX1_addReader_55 rfl rfl ?_
    refine y_getI fX1_59 hp.2.1.1 rfl dX1_addReader_56 ?_
    refine y_iconst dX1_addReader_59 (by decide) ?_
    refine yk_iastore (lH_12 hp.2.1).2 (N := 6) rfl (j := (σ5 o 2).toNat) rfl dX1_addReader_60 (fun σ6 => ?_)
    refine y_aload_n dX1_addReader_61 rfl rfl ?_
    refine y_getR fX1_39 hp.2.1.1 rfl (lH_13 hp.2.1).1 dX1_addReader_62 ?_
    refine y_aload_n dX1_addReader_65 rfl rfl ?_
    refine y_getI fX1_59 hp.2.1.1 rfl dX1_addReader_66 ?_
    refine y_iconst dX1_addReader_69 (by decide) ?_
    refine yk_iastore (lH_13 hp.2.1).2 (N := 6) rfl (j := (σ6 o 2).toNat) rfl dX1_addReader_70 (fun σ7 => ?_)
    refine y_aload_n dX1_addReader_71 rfl rfl ?_
    refine y_dup dX1_addReader_72 (fun _ => rfl) ?_
    refine y_getI fX1_59 hp.2.1.1 rfl dX1_addReader_73 ?_
    refine y_iconst dX1_addReader_76 (by decide) ?_
    refine yk_iadd dX1_addReader_77 ?_
    refine yn_putI fX1_59 hp.2.1.1 rfl rfl dX1_addReader_78 (fun σ8 => ?_)
    refine y_aload_n dX1_addReader_81 rfl rfl ?_
    refine y_getI fX1_59 hp.2.1.1 rfl dX1_addReader_82 ?_
    refine y_iconst dX1_addReader_85 (by decide) ?_
    refine yk_isub dX1_addReader_86 ?_
    exact y_iret rfl rfl dX1_addReader_87
  · refine y_icmp_lt_f dX1_addReader_6 (t := 11) rfl h1 ?_
    refine y_iconst dX1_addReader_9 (by decide) ?_
    exact y_iret rfl rfl dX1_addReader_10
theorem qX1_addReader {K : Kt} {o : Nat} (hp : hPre K o) (p1 : Int) (p2 : Int) (σ : Sg) : Cc MX1_addReader K [aR o, aI p1, aI p2] σ (emIS K) (vX1_addReader K o p1 p2 σ) := cc_of plX1 (Nat.le_of_ble_eq_true rfl) (fun o _ => ⟨Nat.le_refl _, Nat.le_refl _⟩) (fun Γ => tX1_addReader hp p1 p2 σ)
noncomputable def vX1_lentOut_4 (K : Kt) (o : Nat) (σ : Sg) : Nat → Int → Int → Option (Int)
  | 0, _, _ => none
  | f + 1, x1, x2 => if x2 < (σ o 2) then (ck (0 ≤ x2 ∧ x2 < 6) (if (σ (o + 8) x2.toNat) = (-1) then (ck (in32 (x2 + 1)) (vX1_lentOut_4 K o σ f x1 (x2 + 1))) else (ck (in32 (x1 + 1)) (ck (in32 (x2 + 1)) (vX1_lentOut_4 K o σ f (x1 + 1) (x2 + 1)))))) else (some x1)
set_option maxRecDepth 100000 in
set_option maxHeartbeats 4000000 in
theorem tX1_lentOut_4 {Γ : Gx} {K : Kt} {o : Nat} (hp : hPre K o) (σ : Sg) : ∀ (f : Nat) (x1 : Int) (x2 : Int), Y Γ MX1_lentOut K (emI K σ) K 4 [some (aR o), some (aI x1), some (aI x2)] [] σ (vX1_lentOut_4 K o σ f x1 x2) := by
  intro f
  induction f with
  | zero => intro x1 x2; exact y_none
  | succ f ih =>
    intro x1 x2
    rw [vX1_lentOut_4]
    refine y_iload_n dX1_lentOut_4 rfl rfl ?_
    refine y_aload_n dX1_lentOut_5 rfl rfl ?_
    refine y_getI fX1_59 hp.2.1.1 rfl dX1_lentOut_6 ?_
    refine y_ite (fun h1 => ?_) (fun h1 => ?_)
    · refine y_icmp_ge_f dX1_lentOut_9 (t := 31) rfl h1 ?_
      refine y_aload_n dX1_lentOut_12 rfl rfl ?_
      refine y_getR fX1_33 hp.2.1.1 rfl (lH_11 hp.2.1).1 dX1_lentOut_13 ?_
      refine y_iload_n dX1_lentOut_16 rfl rfl ?_
      refine yk_iaload (lH_11 hp.2.1).2 (N := 6) rfl (j := x2.toNat) rfl dX1_lentOut_17 ?_
      refine y_iconst dX1_lentOut_18 (by decide) ?_
      refine y_ite (fun h2 => ?_) (fun h2 => ?_)
      · refine y_icmp_eq_t dX1_lentOut_19 (t := 25) rfl h2 ?_
        refine yk_iinc dX1_lentOut_25 rfl (L' := [some (aR o), some (aI x1), some (aI (x2 + 1))]) rfl ?_
        refine y_goto dX1_lentOut_28 (t := 4) rfl ?_
        exact ih x1 (x2 + 1)
      · refine y_icmp_eq_f dX1_lentOut_19 (t := 25) rfl h2 ?_
        refine yk_iinc dX1_lentOut_22 rfl (L' := [some (aR o), some (aI (x1 + 1)), some (aI x2)]) rfl ?_
        refine yk_iinc dX1_lentOut_25 rfl (L' := [some (aR o), some (aI (x1 + 1)), some (aI (x2 + 1))]) rfl ?_
        refine y_goto dX1_lentOut_28 (t := 4) rfl ?_
        exact ih (x1 + 1) (x2 + 1)
    · refine y_icmp_ge_t dX1_lentOut_9 (t := 31) rfl h1 ?_
      refine y_iload_n dX1_lentOut_31 rfl rfl ?_
      exact y_iret rfl rfl dX1_lentOut_32
noncomputable def vX1_lentOut (K : Kt) (o : Nat) (σ : Sg) : Option (Int) := vX1_lentOut_4 K o σ FU 0 0
set_option maxRecDepth 100000 in
set_option maxHeartbeats 4000000 in
theorem tX1_lentOut {Γ : Gx} {K : Kt} {o : Nat} (hp : hPre K o) (σ : Sg) : Y Γ MX1_lentOut K (emI K σ) K 0 [some (aR o), none, none] [] σ (vX1_lentOut K o σ) := by
  unfold vX1_lentOut
  refine y_iconst dX1_lentOut_0 (by decide) ?_
  refine y_istore_n dX1_lentOut_1 rfl (Nat.le_of_ble_eq_true rfl) (L' := [some (aR o), some (aI 0), none]) rfl ?_
  refine y_iconst dX1_lentOut_2 (by decide) ?_
  refine y_istore_n dX1_lentOut_3 rfl (Nat.le_of_ble_eq_true rfl) (L' := [some (aR o), some (aI 0), some (aI 0)]) rfl ?_
  exact tX1_lentOut_4 hp σ FU 0 0
theorem qX1_lentOut {K : Kt} {o : Nat} (hp : hPre K o) (σ : Sg) : Cc MX1_lentOut K [aR o] σ (emI K σ) (vX1_lentOut K o σ) := cc_of plX1 (Nat.le_of_ble_eq_true rfl) (fun o _ => ⟨Nat.le_refl _, Nat.le_refl _⟩) (fun Γ => tX1_lentOut hp σ)
noncomputable def vX1_dues (K : Kt) (o : Nat) (p1 : Int) (p2 : Int) (σ : Sg) : Option (Int) := ck (0 ≤ p1 ∧ p1 < 6) (nm (σ (o + 8) p1.toNat) (fun z1 => (vX1_hasBook K o z1 σ).bind (fun r2 => if r2 = 0 then (some 0) else ((vX1_keptWeeks K o z1 p1 σ).bind (fun r4 => ck (in32 (r4 - (σ (o + 13) 1))) (nm (imax 0 (r4 - (σ (o + 13) 1))) (fun z5 => ck (0 ≤ z1 ∧ z1 < 8) (ck (in32 (z5 * p2)) (some (imin (σ (o + 4) z1.toNat) (z5 * p2)))))))))))
set_option maxRecDepth 100000 in
set_option maxHeartbeats 4000000 in
theorem tX1_dues {Γ : Gx} {K : Kt} {o : Nat} (hp : hPre K o) (p1 : Int) (p2 : Int) (σ : Sg) : Y Γ MX1_dues K (emI K σ) K 0 [some (aR o), some (aI p1), some (aI p2), none, none] [] σ (vX1_dues K o p1 p2 σ) := by
  unfold vX1_dues
  refine y_aload_n dX1_dues_0 rfl rfl ?_
  refine y_getR fX1_33 hp.2.1.1 rfl (lH_11 hp.2.1).1 dX1_dues_1 ?_
  refine y_iload_n dX1_dues_4 rfl rfl ?_
  refine yk_iaload (lH_11 hp.2.1).2 (N := 6) rfl (j := p1.toNat) rfl dX1_dues_5 ?_
  refine yn_istore_n dX1_dues_6 rfl (Nat.le_of_ble_eq_true rfl) (L' := fun z1 => [some (aR o), some (aI p1), some (aI p2), some (aI z1), none]) (fun _ => rfl) (fun z1 => ?_)
  refine y_aload_n dX1_dues_7 rfl rfl ?_
  refine y_iload_n dX1_dues_8 rfl rfl ?_
  refine y_cvI (qX1_hasBook hp z1 σ) kX1_130 rfl hp.2.1.1 rfl (by decide) rfl (Nat.le_of_ble_eq_true rfl) dX1_dues_9 (fun r2 => ?_)
  refine y_ite (fun h3 => ?_) (fun h3 => ?_)
  · refine y_if_ne_f dX1_dues_12 (t := 17) rfl h3 ?_
    refine y_iconst dX1_dues_15 (by decide) ?_
    exact y_iret rfl rfl dX1_dues_16
  · refine y_if_ne_t dX1_dues_12 (t := 17) rfl h3 ?_
    refine y_iconst dX1_dues_17 (by decide) ?_
    refine y_aload_n dX1_dues_18 rfl rfl ?_
    refine y_iload_n dX1_dues_19 rfl rfl ?_
    refine y_iload_n dX1_dues_20 rfl rfl ?_
    refine y_cvI (qX1_keptWeeks hp z1 p1 σ) kX1_76 rfl hp.2.1.1 rfl (by decide) rfl (Nat.le_of_ble_eq_true rfl) dX1_dues_21 (fun r4 => ?_)
    refine y_aload_n dX1_dues_24 rfl rfl ?_
    refine y_getR fX1_48 hp.2.1.1 rfl (lH_16 hp.2.1).1 dX1_dues_25 ?_
    refine y_iconst dX1_dues_28 (by decide) ?_
    refine yl_iaload (lH_16 hp.2.1).2 (by decide) (j := 1) rfl dX1_dues_29 ?_
    refine yk_isub dX1_dues_30 ?_
    refine y_imax mX1_124 (by decide) (Nat.le_of_ble_eq_true rfl) dX1_dues_31 ?_
    refine yn_istore dX1_dues_34 (Nat.le_of_ble_eq_true rfl) (L' := fun z5 => [some (aR o), some (aI p1), some (aI p2), some (aI z1), some (aI z5)]) (fun _ => rfl) (fun z5 => ?_)
    refine y_aload_n dX1_dues_36 rfl rfl ?_
    refine y_getR fX1_21 hp.2.1.1 rfl (lH_7 hp.2.1).1 dX1_dues_37 ?_
    refine y_iload_n dX1_dues_40 rfl rfl ?_
    refine yk_iaload (lH_7 hp.2.1).2 (N := 8) rfl (j := z1.toNat) rfl dX1_dues_41 ?_
    refine y_iload dX1_dues_42 rfl ?_
    refine y_iload_n dX1_dues_44 rfl rfl ?_
    refine yk_imul dX1_dues_45 ?_
    refine y_imin mX1_119 (by decide) (Nat.le_of_ble_eq_true rfl) dX1_dues_46 ?_
    exact y_iret rfl rfl dX1_dues_49
theorem qX1_dues {K : Kt} {o : Nat} (hp : hPre K o) (p1 : Int) (p2 : Int) (σ : Sg) : Cc MX1_dues K [aR o, aI p1, aI p2] σ (emI K σ) (vX1_dues K o p1 p2 σ) := cc_of plX1 (Nat.le_of_ble_eq_true rfl) (fun o _ => ⟨Nat.le_refl _, Nat.le_refl _⟩) (fun Γ => tX1_dues hp p1 p2 σ)
noncomputable def vX1_bringRefusal (K : Kt) (o : Nat) (p1 : Int) (σ : Sg) : Option (Int) := (vX1_hasReader K o p1 σ).bind (fun r1 => if r1 = 0 then (some (-2)) else (ck (0 ≤ p1 ∧ p1 < 6) (if (σ (o + 8) p1.toNat) = (-1) then (some (-3)) else (some 0))))
set_option maxRecDepth 100000 in
set_option maxHeartbeats 4000000 in
theorem tX1_bringRefusal {Γ : Gx} {K : Kt} {o : Nat} (hp : hPre K o) (p1 : Int) (σ : Sg) : Y Γ MX1_bringRefusal K (emI K σ) K 0 [some (aR o), some (aI p1)] [] σ (vX1_bringRefusal K o p1 σ) := by
  unfold vX1_bringRefusal
  refine y_aload_n dX1_bringRefusal_0 rfl rfl ?_
  refine y_iload_n dX1_bringRefusal_1 rfl rfl ?_
  refine y_cvI (qX1_hasReader hp p1 σ) kX1_145 rfl hp.2.1.1 rfl (by decide) rfl (Nat.le_of_ble_eq_true rfl) dX1_bringRefusal_2 (fun r1 => ?_)
  refine y_ite (fun h2 => ?_) (fun h2 => ?_)
  · refine y_if_ne_f dX1_bringRefusal_5 (t := 11) rfl h2 ?_
    refine y_bipush dX1_bringRefusal_8 (by decide) (by decide) ?_
    exact y_iret rfl rfl dX1_bringRefusal_10
  · refine y_if_ne_t dX1_bringRefusal_5 (t := 11) rfl h2 ?_
    refine y_aload_n dX1_bringRefusal_11 rfl rfl ?_
    refine y_getR fX1_33 hp.2.1.1 rfl (lH_11 hp.2.1).1 dX1_bringRefusal_12 ?_
    refine y_iload_n dX1_bringRefusal_15 rfl rfl ?_
    refine yk_iaload (lH_11 hp.2.1).2 (N := 6) rfl (j := p1.toNat) rfl dX1_bringRefusal_16 ?_
    refine y_iconst dX1_bringRefusal_17 (by decide) ?_
    refine y_ite (fun h3 => ?_) (fun h3 => ?_)
    · refine y_icmp_ne_f dX1_bringRefusal_18 (t := 26) rfl h3 ?_
      refine y_bipush dX1_bringRefusal_21 (by decide) (by decide) ?_
      refine y_goto dX1_bringRefusal_23 (t := 27) rfl ?_
      exact y_iret rfl rfl dX1_bringRefusal_27
    · refine y_icmp_ne_t dX1_bringRefusal_18 (t := 26) rfl h3 ?_
      refine y_iconst dX1_bringRefusal_26 (by decide) ?_
      exact y_iret rfl rfl dX1_bringRefusal_27
theorem qX1_bringRefusal {K : Kt} {o : Nat} (hp : hPre K o) (p1 : Int) (σ : Sg) : Cc MX1_bringRefusal K [aR o, aI p1] σ (emI K σ) (vX1_bringRefusal K o p1 σ) := cc_of plX1 (Nat.le_of_ble_eq_true rfl) (fun o _ => ⟨Nat.le_refl _, Nat.le_refl _⟩) (fun Γ => tX1_bringRefusal hp p1 σ)
noncomputable def vX1_placeWaiting_2 (K : Kt) (o : Nat) (σ : Sg) : Nat → Int → Int → Int → Option (Int)
  | 0, _, _, _ => none
  | f + 1, x1, x2, x3 => if x3 < (σ o 3) then (ck (0 ≤ x3 ∧ x3 < 12) (if (σ (o + 11) x3.toNat) = x1 then (ck (0 ≤ x3 ∧ x3 < 12) (if (σ (o + 12) x3.toNat) = x2 then (some x3) else (ck (in32 (x3 + 1)) (vX1_placeWaiting_2 K o σ f x1 x2 (x3 + 1))))) else (ck (in32 (x3 + 1)) (vX1_placeWaiting_2 K o σ f x1 x2 (x3 + 1))))) else (some (-1))
set_option maxRecDepth 100000 in
set_option maxHeartbeats 4000000 in
theorem tX1_placeWaiting_2 {Γ : Gx} {K : Kt} {o : Nat} (hp : hPre K o) (σ : Sg) : ∀ (f : Nat) (x1 : Int) (x2 : Int) (x3 : Int), Y Γ MX1_placeWaiting K (emI K σ) K 2 [some (aR o), some (aI x1), some (aI x2), some (aI x3)] [] σ (vX1_placeWaiting_2 K o σ f x1 x2 x3) := by
  intro f
  induction f with
  | zero => intro x1 x2 x3; exact y_none
  | succ f ih =>
    intro x1 x2 x3
    rw [vX1_placeWaiting_2]
    refine y_iload_n dX1_placeWaiting_2 rfl rfl ?_
    refine y_aload_n dX1_placeWaiting_3 rfl rfl ?_
    refine y_getI fX1_62 hp.2.1.1 rfl dX1_placeWaiting_4 ?_
    refine y_ite (fun h1 => ?_) (fun h1 => ?_)
    · refine y_icmp_ge_f dX1_placeWaiting_7 (t := 38) rfl h1 ?_
      refine y_aload_n dX1_placeWaiting_10 rfl rfl ?_
      refine y_getR fX1_42 hp.2.1.1 rfl (lH_14 hp.2.1).1 dX1_placeWaiting_11 ?_
      refine y_iload_n dX1_placeWaiting_14 rfl rfl ?_
      refine yk_iaload (lH_14 hp.2.1).2 (N := 12) rfl (j := x3.toNat) rfl dX1_placeWaiting_15 ?_
      refine y_iload_n dX1_placeWaiting_16 rfl rfl ?_
      refine y_ite (fun h2 => ?_) (fun h2 => ?_)
      · refine y_icmp_ne_f dX1_placeWaiting_17 (t := 32) rfl h2 ?_
        refine y_aload_n dX1_placeWaiting_20 rfl rfl ?_
        refine y_getR fX1_45 hp.2.1.1 rfl (lH_15 hp.2.1).1 dX1_placeWaiting_21 ?_
        refine y_iload_n dX1_placeWaiting_24 rfl rfl ?_
        refine yk_iaload (lH_15 hp.2.1).2 (N := 12) rfl (j := x3.toNat) rfl dX1_placeWaiting_25 ?_
        refine y_iload_n dX1_placeWaiting_26 rfl rfl ?_
        refine y_ite (fun h3 => ?_) (fun h3 => ?_)
        · refine y_icmp_ne_f dX1_placeWaiting_27 (t := 32) rfl h3 ?_
          refine y_iload_n dX1_placeWaiting_30 rfl rfl ?_
          exact y_iret rfl rfl dX1_placeWaiting_31
        · refine y_icmp_ne_t dX1_placeWaiting_27 (t := 32) rfl h3 ?_
          refine yk_iinc dX1_placeWaiting_32 rfl (L' := [some (aR o), some (aI x1), some (aI x2), some (aI (x3 + 1))]) rfl ?_
          refine y_goto dX1_placeWaiting_35 (t := 2) rfl ?_
          exact ih x1 x2 (x3 + 1)
      · refine y_icmp_ne_t dX1_placeWaiting_17 (t := 32) rfl h2 ?_
        refine yk_iinc dX1_placeWaiting_32 rfl (L' := [some (aR o), some (aI x1), some (aI x2), some (aI (x3 + 1))]) rfl ?_
        refine y_goto dX1_placeWaiting_35 (t := 2) rfl ?_
        exact ih x1 x2 (x3 + 1)
    · refine y_icmp_ge_t dX1_placeWaiting_7 (t := 38) rfl h1 ?_
      refine y_iconst dX1_placeWaiting_38 (by decide) ?_
      exact y_iret rfl rfl dX1_placeWaiting_39
noncomputable def vX1_placeWaiting (K : Kt) (o : Nat) (p1 : Int) (p2 : Int) (σ : Sg) : Option (Int) := vX1_placeWaiting_2 K o σ FU p1 p2 0
set_option maxRecDepth 100000 in
set_option maxHeartbeats 4000000 in
theorem tX1_placeWaiting {Γ : Gx} {K : Kt} {o : Nat} (hp : hPre K o) (p1 : Int) (p2 : Int) (σ : Sg) : Y Γ MX1_placeWaiting K (emI K σ) K 0 [some (aR o), some (aI p1), some (aI p2), none] [] σ (vX1_placeWaiting K o p1 p2 σ) := by
  unfold vX1_placeWaiting
  refine y_iconst dX1_placeWaiting_0 (by decide) ?_
  refine y_istore_n dX1_placeWaiting_1 rfl (Nat.le_of_ble_eq_true rfl) (L' := [some (aR o), some (aI p1), some (aI p2), some (aI 0)]) rfl ?_
  exact tX1_placeWaiting_2 hp σ FU p1 p2 0
theorem qX1_placeWaiting {K : Kt} {o : Nat} (hp : hPre K o) (p1 : Int) (p2 : Int) (σ : Sg) : Cc MX1_placeWaiting K [aR o, aI p1, aI p2] σ (emI K σ) (vX1_placeWaiting K o p1 p2 σ) := cc_of plX1 (Nat.le_of_ble_eq_true rfl) (fun o _ => ⟨Nat.le_refl _, Nat.le_refl _⟩) (fun Γ => tX1_placeWaiting hp p1 p2 σ)
noncomputable def vX1_waitRefusal (K : Kt) (o : Nat) (p1 : Int) (p2 : Int) (σ : Sg) : Option (Int) := (vX1_hasReader K o p2 σ).bind (fun r1 => if r1 = 0 then (some (-2)) else ((vX1_hasBook K o p1 σ).bind (fun r3 => if r3 = 0 then (some (-2)) else (ck (0 ≤ p2 ∧ p2 < 6) (if (σ (o + 8) p2.toNat) = p1 then (some (-3)) else ((vX1_placeWaiting K o p1 p2 σ).bind (fun r6 => if r6 = (-1) then (if (σ o 3) < 12 then (some 0) else (some (-5))) else (some (-3)))))))))
set_option maxRecDepth 100000 in
set_option maxHeartbeats 4000000 in
theorem tX1_waitRefusal {Γ : Gx} {K : Kt} {o : Nat} (hp : hPre K o) (p1 : Int) (p2 : Int) (σ : Sg) : Y Γ MX1_waitRefusal K (emI K σ) K 0 [some (aR o), some (aI p1), some (aI p2)] [] σ (vX1_waitRefusal K o p1 p2 σ) := by
  unfold vX1_waitRefusal
  refine y_aload_n dX1_waitRefusal_0 rfl rfl ?_
  refine y_iload_n dX1_waitRefusal_1 rfl rfl ?_
  refine y_cvI (qX1_hasReader hp p2 σ) kX1_145 rfl hp.2.1.1 rfl (by decide) rfl (Nat.le_of_ble_eq_true rfl) dX1_waitRefusal_2 (fun r1 => ?_)
  refine y_ite (fun h2 => ?_) (fun h2 => ?_)
  · refine y_if_eq_t dX1_waitRefusal_5 (t := 16) rfl h2 ?_
    refine y_bipush dX1_waitRefusal_16 (by decide) (by decide) ?_
    exact y_iret rfl rfl dX1_waitRefusal_18
  · refine y_if_eq_f dX1_waitRefusal_5 (t := 16) rfl h2 ?_
    refine y_aload_n dX1_waitRefusal_8 rfl rfl ?_
    refine y_iload_n dX1_waitRefusal_9 rfl rfl ?_
    refine y_cvI (qX1_hasBook hp p1 σ) kX1_130 rfl hp.2.1.1 rfl (by decide) rfl (Nat.le_of_ble_eq_true rfl) dX1_waitRefusal_10 (fun r3 => ?_)
    refine y_ite (fun h4 => ?_) (fun h4 => ?_)
    · refine y_if_ne_f dX1_waitRefusal_13 (t := 19) rfl h4 ?_
      refine y_bipush dX1_waitRefusal_16 (by decide) (by decide) ?_
      exact y_iret rfl rfl dX1_waitRefusal_18
    · refine y_if_ne_t dX1_waitRefusal_13 (t := 19) rfl h4 ?_
      refine y_aload_n dX1_waitRefusal_19 rfl rfl ?_
      refine y_getR fX1_33 hp.2.1.1 rfl (lH_11 hp.2.1).1 dX1_waitRefusal_20 ?_
      refine y_iload_n dX1_waitRefusal_23 rfl rfl ?_
      refine yk_iaload (lH_11 hp.2.1).2 (N := 6) rfl (j := p2.toNat) rfl dX1_waitRefusal_24 ?_
      refine y_iload_n dX1_waitRefusal_25 rfl rfl ?_
      refine y_ite (fun h5 => ?_) (fun h5 => ?_)
      · refine y_icmp_eq_t dX1_waitRefusal_26 (t := 39) rfl h5 ?_
        refine y_bipush dX1_waitRefusal_39 (by decide) (by decide) ?_
        exact y_iret rfl rfl dX1_waitRefusal_41
      · refine y_icmp_eq_f dX1_waitRefusal_26 (t := 39) rfl h5 ?_
        refine y_aload_n dX1_waitRefusal_29 rfl rfl ?_
        refine y_iload_n dX1_waitRefusal_30 rfl rfl ?_
        refine y_iload_n dX1_waitRefusal_31 rfl rfl ?_
        refine y_cvI (qX1_placeWaiting hp p1 p2 σ) kX1_161 rfl hp.2.1.1 rfl (by decide) rfl (Nat.le_of_ble_eq_true rfl) dX1_waitRefusal_32 (fun r6 => ?_)
        refine y_iconst dX1_waitRefusal_35 (by decide) ?_
        refine y_ite (fun h7 => ?_) (fun h7 => ?_)
        · refine y_icmp_eq_t dX1_waitRefusal_36 (t := 42) rfl h7 ?_
          refine y_aload_n dX1_waitRefusal_42 rfl rfl ?_
          refine y_getI fX1_62 hp.2.1.1 rfl dX1_waitRefusal_43 ?_
          refine y_bipush dX1_waitRefusal_46 (by decide) (by decide) ?_
          refine y_ite (fun h8 => ?_) (fun h8 => ?_)
          · refine y_icmp_lt_t dX1_waitRefusal_48 (t := 56) rfl h8 ?_
            refine y_iconst dX1_waitRefusal_56 (by decide) ?_
            exact y_iret rfl rfl dX1_waitRefusal_57
          · refine y_icmp_lt_f dX1_waitRefusal_48 (t := 56) rfl h8 ?_
            refine y_bipush dX1_waitRefusal_51 (by decide) (by decide) ?_
            refine y_goto dX1_waitRefusal_53 (t := 57) rfl ?_
            exact y_iret rfl rfl dX1_waitRefusal_57
        · refine y_icmp_eq_f dX1_waitRefusal_36 (t := 42) rfl h7 ?_
          refine y_bipush dX1_waitRefusal_39 (by decide) (by decide) ?_
          exact y_iret rfl rfl dX1_waitRefusal_41
theorem qX1_waitRefusal {K : Kt} {o : Nat} (hp : hPre K o) (p1 : Int) (p2 : Int) (σ : Sg) : Cc MX1_waitRefusal K [aR o, aI p1, aI p2] σ (emI K σ) (vX1_waitRefusal K o p1 p2 σ) := cc_of plX1 (Nat.le_of_ble_eq_true rfl) (fun o _ => ⟨Nat.le_refl _, Nat.le_refl _⟩) (fun Γ => tX1_waitRefusal hp p1 p2 σ)
noncomputable def vX1_passRefusal (K : Kt) (o : Nat) (σ : Sg) : Option (Int) := if (σ (o + 13) 0) < 999 then (some 0) else (some (-3))
set_option maxRecDepth 100000 in
set_option maxHeartbeats 4000000 in
theorem tX1_passRefusal {Γ : Gx} {K : Kt} {o : Nat} (hp : hPre K o) (σ : Sg) : Y Γ MX1_passRefusal K (emI K σ) K 0 [some (aR o)] [] σ (vX1_passRefusal K o σ) := by
  unfold vX1_passRefusal
  refine y_aload_n dX1_passRefusal_0 rfl rfl ?_
  refine y_getR fX1_48 hp.2.1.1 rfl (lH_16 hp.2.1).1 dX1_passRefusal_1 ?_
  refine y_iconst dX1_passRefusal_4 (by decide) ?_
  refine yl_iaload (lH_16 hp.2.1).2 (by decide) (j := 0) rfl dX1_passRefusal_5 ?_
  refine y_sipush dX1_passRefusal_6 (by decide) (by decide) ?_
  refine y_ite (fun h1 => ?_) (fun h1 => ?_)
  · refine y_icmp_ge_f dX1_passRefusal_9 (t := 16) rfl h1 ?_
    refine y_iconst dX1_passRefusal_12 (by decide) ?_
    refine y_goto dX1_passRefusal_13 (t := 18) rfl ?_
    exact y_iret rfl rfl dX1_passRefusal_18
  · refine y_icmp_ge_t dX1_passRefusal_9 (t := 16) rfl h1 ?_
    refine y_bipush dX1_passRefusal_16 (by decide) (by decide) ?_
    exact y_iret rfl rfl dX1_passRefusal_18
theorem qX1_passRefusal {K : Kt} {o : Nat} (hp : hPre K o) (σ : Sg) : Cc MX1_passRefusal K [aR o] σ (emI K σ) (vX1_passRefusal K o σ) := cc_of plX1 (Nat.le_of_ble_eq_true rfl) (fun o _ => ⟨Nat.le_refl _, Nat.le_refl _⟩) (fun Γ => tX1_passRefusal hp σ)
noncomputable def vX1_leave_101 (K : Kt) (o : Nat) (x1 : Int) (x2 : Int) (x4 : Int) (σ : Sg) : Option (Int × Sg) := ck (0 ≤ x2 ∧ x2 < 8) (ck (in32 ((σ (o + 4) x2.toNat) - x4)) (ck (0 ≤ x2 ∧ x2 < 8) (nm (up2 σ (o + 4) x2.toNat ((σ (o + 4) x2.toNat) - x4)) (fun σ1 => ck (0 ≤ x1 ∧ x1 < 6) (nm (up2 σ1 (o + 8) x1.toNat (-1)) (fun σ2 => some (x4, σ2)))))))
set_option maxRecDepth 100000 in
set_option maxHeartbeats 4000000 in
theorem tX1_leave_101 {Γ : Gx} {K : Kt} {o : Nat} (hp : hPre K o) (x1 : Int) (x2 : Int) (x4 : Int) (σ : Sg) : Y Γ MX1_leave K (emIS K) K 101 [some (aR o), some (aI x1), some (aI x2), none, some (aI x4)] [] σ (vX1_leave_101 K o x1 x2 x4 σ) := by
  unfold vX1_leave_101
  refine y_aload_n dX1_leave_101 rfl rfl ?_
  refine y_getR fX1_21 hp.2.1.1 rfl (lH_7 hp.2.1).1 dX1_leave_102 ?_
  refine y_iload_n dX1_leave_105 rfl rfl ?_
  refine y_dup2 dX1_leave_106 (fun _ => rfl) (fun _ => rfl) ?_
  refine yk_iaload (lH_7 hp.2.1).2 (N := 8) rfl (j := x2.toNat) rfl dX1_leave_107 ?_
  refine y_iload dX1_leave_108 rfl ?_
  refine yk_isub dX1_leave_110 ?_
  refine yk_iastore (lH_7 hp.2.1).2 (N := 8) rfl (j := x2.toNat) rfl dX1_leave_111 (fun σ1 => ?_)
  refine y_aload_n dX1_leave_112 rfl rfl ?_
  refine y_getR fX1_33 hp.2.1.1 rfl (lH_11 hp.2.1).1 dX1_leave_113 ?_
  refine y_iload_n dX1_leave_116 rfl rfl ?_
  refine y_iconst dX1_leave_117 (by decide) ?_
  refine yk_iastore (lH_11 hp.2.1).2 (N := 6) rfl (j := x1.toNat) rfl dX1_leave_118 (fun σ2 => ?_)
  refine y_iload dX1_leave_119 rfl ?_
  exact y_iret rfl rfl dX1_leave_121
noncomputable def vX1_leave (K : Kt) (o : Nat) (p1 : Int) (σ : Sg) : Option (Int × Sg) := ck (0 ≤ p1 ∧ p1 < 6) (nm (σ (o + 8) p1.toNat) (fun z1 => (vX1_hasBook K o z1 σ).bind (fun r2 => if r2 = 0 then (some (0, σ)) else (ck (0 ≤ p1 ∧ p1 < 6) (bd2 (vX1_asked K o 2 (σ 1 5) z1 p1 (σ (o + 5) p1.toNat) σ) (fun r4 σ5 => ck (0 ≤ p1 ∧ p1 < 6) (bd2 (vX1_asked K o 0 (σ5 1 5) z1 p1 (σ5 (o + 5) p1.toNat) σ5) (fun r6 σ7 => (vX1_dues K o p1 r6 σ7).bind (fun r8 => (vX1_readsThrough K o p1 r4 σ7).bind (fun r9 => if r9 = 0 then (vX1_leave_101 K o p1 z1 r8 σ7) else (ck (0 ≤ p1 ∧ p1 < 6) (ck (0 ≤ p1 ∧ p1 < 6) (nm (up2 σ7 (o + 10) p1.toNat (bOr (σ7 (o + 10) p1.toNat) (bShl 1 z1))) (fun σ11 => ck (0 ≤ p1 ∧ p1 < 6) (ck (0 ≤ z1 ∧ z1 < 8) (ck (0 ≤ p1 ∧ p1 < 6) (nm (up2 σ11 (o + 5) p1.toNat (bOr (σ11 (o + 5) p1.toNat) (σ11 (o + 3) z1.toNat))) (fun σ12 => vX1_leave_101 K o p1 z1 r8 σ12))))))))))))))))))
set_option maxRecDepth 100000 in
set_option maxHeartbeats 4000000 in
theorem tX1_leave {Γ : Gx} {K : Kt} {o : Nat} (hp : hPre K o) (p1 : Int) (σ : Sg) : Y Γ MX1_leave K (emIS K) K 0 [some (aR o), some (aI p1), none, none, none] [] σ (vX1_leave K o p1 σ) := by
  unfold vX1_leave
  refine y_aload_n dX1_leave_0 rfl rfl ?_
  refine y_getR fX1_33 hp.2.1.1 rfl (lH_11 hp.2.1).1 dX1_leave_1 ?_
  refine y_iload_n dX1_leave_4 rfl rfl ?_
  refine yk_iaload (lH_11 hp.2.1).2 (N := 6) rfl (j := p1.toNat) rfl dX1_leave_5 ?_
  refine yn_istore_n dX1_leave_6 rfl (Nat.le_of_ble_eq_true rfl) (L' := fun z1 => [some (aR o), some (aI p1), some (aI z1), none, none]) (fun _ => rfl) (fun z1 => ?_)
  refine y_aload_n dX1_leave_7 rfl rfl ?_
  refine y_iload_n dX1_leave_8 rfl rfl ?_
  refine y_cvI (qX1_hasBook hp z1 σ) kX1_130 rfl hp.2.1.1 rfl (by decide) rfl (Nat.le_of_ble_eq_true rfl) dX1_leave_9 (fun r2 => ?_)
  refine y_ite (fun h3 => ?_) (fun h3 => ?_)
  · refine y_if_ne_f dX1_leave_12 (t := 17) rfl h3 ?_
    refine y_iconst dX1_leave_15 (by decide) ?_
    exact y_iret rfl rfl dX1_leave_16
  · refine y_if_ne_t dX1_leave_12 (t := 17) rfl h3 ?_
    refine y_aload_n dX1_leave_17 rfl rfl ?_
    refine y_iconst dX1_leave_18 (by decide) ?_
    refine y_aload_n dX1_leave_19 rfl rfl ?_
    refine y_getR fX1_51 hp.2.1.1 rfl hp.2.2 dX1_leave_20 ?_
    refine y_getI fX1_134 (lcO_1 hp.1) rfl dX1_leave_23 ?_
    refine y_iload_n dX1_leave_26 rfl rfl ?_
    refine y_iload_n dX1_leave_27 rfl rfl ?_
    refine y_aload_n dX1_leave_28 rfl rfl ?_
    refine y_getR fX1_24 hp.2.1.1 rfl (lH_8 hp.2.1).1 dX1_leave_29 ?_
    refine y_iload_n dX1_leave_32 rfl rfl ?_
    refine yk_iaload (lH_8 hp.2.1).2 (N := 6) rfl (j := p1.toNat) rfl dX1_leave_33 ?_
    refine y_cvIS (qX1_asked hp 2 (σ 1 5) z1 p1 (σ (o + 5) p1.toNat) σ) kX1_137 rfl hp.2.1.1 rfl (by decide) rfl (Nat.le_of_ble_eq_true rfl) dX1_leave_34 (fun r4 σ5 => ?_)
    refine y_istore_n dX1_leave_37 rfl (Nat.le_of_ble_eq_true rfl) (L' := [some (aR o), some (aI p1), some (aI z1), some (aI r4), none]) rfl ?_
    refine y_aload_n dX1_leave_38 rfl rfl ?_
    refine y_iload_n dX1_leave_39 rfl rfl ?_
    refine y_aload_n dX1_leave_40 rfl rfl ?_
    refine y_iconst dX1_leave_41 (by decide) ?_
    refine y_aload_n dX1_leave_42 rfl rfl ?_
    refine y_getR fX1_51 hp.2.1.1 rfl hp.2.2 dX1_leave_43 ?_
    refine y_getI fX1_134 (lcO_1 hp.1) rfl dX1_leave_46 ?_
    refine y_iload_n dX1_leave_49 rfl rfl ?_
    refine y_iload_n dX1_leave_50 rfl rfl ?_
    refine y_aload_n dX1_leave_51 rfl rfl ?_
    refine y_getR fX1_24 hp.2.1.1 rfl (lH_8 hp.2.1).1 dX1_leave_52 ?_
    refine y_iload_n dX1_leave_55 rfl rfl ?_
    refine yk_iaload (lH_8 hp.2.1).2 (N := 6) rfl (j := p1.toNat) rfl dX1_leave_56 ?_
    refine y_cvIS (qX1_asked hp 0 (σ5 1 5) z1 p1 (σ5 (o + 5) p1.toNat) σ5) kX1_137 rfl hp.2.1.1 rfl (by decide) rfl (Nat.le_of_ble_eq_true rfl) dX1_leave_57 (fun r6 σ7 => ?_)
    refine y_cvI (qX1_dues hp p1 r6 σ7) kX1_164 rfl hp.2.1.1 rfl (by decide) rfl (Nat.le_of_ble_eq_true rfl) dX1_leave_60 (fun r8 => ?_)
    refine y_istore dX1_leave_63 (Nat.le_of_ble_eq_true rfl) (L' := [some (aR o), some (aI p1), some (aI z1), some (aI r4), some (aI r8)]) rfl ?_
    refine y_aload_n dX1_leave_65 rfl rfl ?_
    refine y_iload_n dX1_leave_66 rfl rfl ?_
    refine y_iload_n dX1_leave_67 rfl rfl ?_
    refine y_cvI (qX1_readsThrough hp p1 r4 σ7) kX1_141 rfl hp.2.1.1 rfl (by decide) rfl (Nat.le_of_ble_eq_true rfl) dX1_leave_68 (fun r9 => ?_)
    refine y_ite (fun h10 => ?_) (fun h10 => ?_)
    · refine y_if_eq_t dX1_leave_71 (t := 101) rfl h10 ?_
      refine y_fg [true, true, true, false, true] (L' := [some (aR o), some (aI p1), some (aI z1), none, some (aI r8)]) rfl ?_
      exact tX1_leave_101 hp p1 z1 r8 σ7
    · refine y_if_eq_f dX1_leave_71 (t := 101) rfl h10 ?_
      refine y_aload_n dX1_leave_74 rfl rfl ?_
      refine y_getR fX1_39 hp.2.1.1 rfl (lH_13 hp.2.1).1 dX1_leave_75 ?_
      refine y_iload_n dX1_leave_78 rfl rfl ?_
      refine y_dup2 dX1_leave_79 (fun _ => rfl) (fun _ => rfl) ?_
      refine yk_iaload (lH_13 hp.2.1).2 (N := 6) rfl (j := p1.toNat) rfl dX1_leave_80 ?_
      refine y_iconst dX1_leave_81 (by decide) ?_
      refine y_iload_n dX1_leave_82 rfl rfl ?_
      refine y_ishl dX1_leave_83 ?_
      refine y_ior dX1_leave_84 ?_
      refine yk_iastore (lH_13 hp.2.1).2 (N := 6) rfl (j := p1.toNat) rfl dX1_leave_85 (fun σ11 => ?_)
      refine y_aload_n dX1_leave_86 rfl rfl ?_
      refine y_getR fX1_24 hp.2.1.1 rfl (lH_8 hp.2.1).1 dX1_leave_87 ?_
      refine y_iload_n dX1_leave_90 rfl rfl ?_
      refine y_dup2 dX1_leave_91 (fun _ => rfl) (fun _ => rfl) ?_
      refine yk_iaload (lH_8 hp.2.1).2 (N := 6) rfl (j := p1.toNat) rfl dX1_leave_92 ?_
      refine y_aload_n dX1_leave_93 rfl rfl ?_
      refine y_getR fX1_18 hp.2.1.1 rfl (lH_6 hp.2.1).1 dX1_leave_94 ?_
      refine y_iload_n dX1_leave_97 rfl rfl ?_
      refine yk_iaload (lH_6 hp.2.1).2 (N := 8) rfl (j := z1.toNat) rfl dX1_leave_98 ?_
      refine y_ior dX1_leave_99 ?_
      refine yk_iastore (lH_8 hp.2.1).2 (N := 6) rfl (j := p1.toNat) rfl dX1_leave_100 (fun σ12 => ?_)
      refine y_fg [true, true, true, false, true] (L' := [some (aR o), some (aI p1), some (aI z1), none, some (aI r8)]) rfl ?_
      exact tX1_leave_101 hp p1 z1 r8 σ12
theorem qX1_leave {K : Kt} {o : Nat} (hp : hPre K o) (p1 : Int) (σ : Sg) : Cc MX1_leave K [aR o, aI p1] σ (emIS K) (vX1_leave K o p1 σ) := cc_of plX1 (Nat.le_of_ble_eq_true rfl) (fun o _ => ⟨Nat.le_refl _, Nat.le_refl _⟩) (fun Γ => tX1_leave hp p1 σ)
noncomputable def vX1_dropWaiting_25 (K : Kt) (o : Nat) : Nat → Int → Sg → Option (Sg)
  | 0, _, _ => none
  | f + 1, x2, σ => if x2 < (σ o 3) then (ck (in32 (x2 + 1)) (ck (0 ≤ (x2 + 1) ∧ (x2 + 1) < 12) (ck (0 ≤ x2 ∧ x2 < 12) (nm (up2 σ (o + 11) x2.toNat (σ (o + 11) (x2 + 1).toNat)) (fun σ2 => ck (in32 (x2 + 1)) (ck (0 ≤ (x2 + 1) ∧ (x2 + 1) < 12) (ck (0 ≤ x2 ∧ x2 < 12) (nm (up2 σ2 (o + 12) x2.toNat (σ2 (o + 12) (x2 + 1).toNat)) (fun σ3 => ck (in32 (x2 + 1)) (vX1_dropWaiting_25 K o f (x2 + 1) σ3)))))))))) else (some σ)
set_option maxRecDepth 100000 in
set_option maxHeartbeats 4000000 in
theorem tX1_dropWaiting_25 {Γ : Gx} {K : Kt} {o : Nat} (hp : hPre K o) : ∀ (f : Nat) (x2 : Int) (σ : Sg), Y Γ MX1_dropWaiting K (emV K) K 25 [some (aR o), none, some (aI x2)] [] σ (vX1_dropWaiting_25 K o f x2 σ) := by
  intro f
  induction f with
  | zero => intro x2 σ; exact y_none
  | succ f ih =>
    intro x2 σ
    rw [vX1_dropWaiting_25]
    refine y_iload_n dX1_dropWaiting_25 rfl rfl ?_
    refine y_aload_n dX1_dropWaiting_26 rfl rfl ?_
    refine y_getI fX1_62 hp.2.1.1 rfl dX1_dropWaiting_27 ?_
    refine y_ite (fun h1 => ?_) (fun h1 => ?_)
    · refine y_icmp_ge_f dX1_dropWaiting_30 (t := 67) rfl h1 ?_
      refine y_aload_n dX1_dropWaiting_33 rfl rfl ?_
      refine y_getR fX1_42 hp.2.1.1 rfl (lH_14 hp.2.1).1 dX1_dropWaiting_34 ?_
      refine y_iload_n dX1_dropWaiting_37 rfl rfl ?_
      refine y_aload_n dX1_dropWaiting_38 rfl rfl ?_
      refine y_getR fX1_42 hp.2.1.1 rfl (lH_14 hp.2.1).1 dX1_dropWaiting_39 ?_
      refine y_iload_n dX1_dropWaiting_42 rfl rfl ?_
      refine y_iconst dX1_dropWaiting_43 (by decide) ?_
      refine yk_iadd dX1_dropWaiting_44 ?_
      refine yk_iaload (lH_14 hp.2.1).2 (N := 12) rfl (j := (x2 + 1).toNat) rfl dX1_dropWaiting_45 ?_
      refine yk_iastore (lH_14 hp.2.1).2 (N := 12) rfl (j := x2.toNat) rfl dX1_dropWaiting_46 (fun σ2 => ?_)
      refine y_aload_n dX1_dropWaiting_47 rfl rfl ?_
      refine y_getR fX1_45 hp.2.1.1 rfl (lH_15 hp.2.1).1 dX1_dropWaiting_48 ?_
      refine y_iload_n dX1_dropWaiting_51 rfl rfl ?_
      refine y_aload_n dX1_dropWaiting_52 rfl rfl ?_
      refine y_getR fX1_45 hp.2.1.1 rfl (lH_15 hp.2.1).1 dX1_dropWaiting_53 ?_
      refine y_iload_n dX1_dropWaiting_56 rfl rfl ?_
      refine y_iconst dX1_dropWaiting_57 (by decide) ?_
      refine yk_iadd dX1_dropWaiting_58 ?_
      refine yk_iaload (lH_15 hp.2.1).2 (N := 12) rfl (j := (x2 + 1).toNat) rfl dX1_dropWaiting_59 ?_
      refine yk_iastore (lH_15 hp.2.1).2 (N := 12) rfl (j := x2.toNat) rfl dX1_dropWaiting_60 (fun σ3 => ?_)
      refine yk_iinc dX1_dropWaiting_61 rfl (L' := [some (aR o), none, some (aI (x2 + 1))]) rfl ?_
      refine y_goto dX1_dropWaiting_64 (t := 25) rfl ?_
      exact ih (x2 + 1) σ3
    · refine y_icmp_ge_t dX1_dropWaiting_30 (t := 67) rfl h1 ?_
      exact y_vret rfl rfl dX1_dropWaiting_67
noncomputable def vX1_dropWaiting (K : Kt) (o : Nat) (p1 : Int) (σ : Sg) : Option (Sg) := if p1 < 0 then (some σ) else (if p1 < (σ o 3) then (ck (in32 ((σ o 3) - 1)) (nm (up2 σ o 3 ((σ o 3) - 1)) (fun σ3 => vX1_dropWaiting_25 K o FU p1 σ3))) else (some σ))
set_option maxRecDepth 100000 in
set_option maxHeartbeats 4000000 in
theorem tX1_dropWaiting {Γ : Gx} {K : Kt} {o : Nat} (hp : hPre K o) (p1 : Int) (σ : Sg) : Y Γ MX1_dropWaiting K (emV K) K 0 [some (aR o), some (aI p1), none] [] σ (vX1_dropWaiting K o p1 σ) := by
  unfold vX1_dropWaiting
  refine y_iload_n dX1_dropWaiting_0 rfl rfl ?_
  refine y_ite (fun h1 => ?_) (fun h1 => ?_)
  · refine y_if_lt_t dX1_dropWaiting_1 (t := 12) rfl h1 ?_
    exact y_vret rfl rfl dX1_dropWaiting_12
  · refine y_if_lt_f dX1_dropWaiting_1 (t := 12) rfl h1 ?_
    refine y_iload_n dX1_dropWaiting_4 rfl rfl ?_
    refine y_aload_n dX1_dropWaiting_5 rfl rfl ?_
    refine y_getI fX1_62 hp.2.1.1 rfl dX1_dropWaiting_6 ?_
    refine y_ite (fun h2 => ?_) (fun h2 => ?_)
    · refine y_icmp_lt_t dX1_dropWaiting_9 (t := 13) rfl h2 ?_
      refine y_aload_n dX1_dropWaiting_13 rfl rfl ?_
      refine y_dup dX1_dropWaiting_14 (fun _ => rfl) ?_
      refine y_getI fX1_62 hp.2.1.1 rfl dX1_dropWaiting_15 ?_
      refine y_iconst dX1_dropWaiting_18 (by decide) ?_
      refine yk_isub dX1_dropWaiting_19 ?_
      refine yn_putI fX1_62 hp.2.1.1 rfl rfl dX1_dropWaiting_20 (fun σ3 => ?_)
      refine y_iload_n dX1_dropWaiting_23 rfl rfl ?_
      refine y_istore_n dX1_dropWaiting_24 rfl (Nat.le_of_ble_eq_true rfl) (L' := [some (aR o), some (aI p1), some (aI p1)]) rfl ?_
      refine y_fg [true, false, true] (L' := [some (aR o), none, some (aI p1)]) rfl ?_
      exact tX1_dropWaiting_25 hp FU p1 σ3
    · refine y_icmp_lt_f dX1_dropWaiting_9 (t := 13) rfl h2 ?_
      exact y_vret rfl rfl dX1_dropWaiting_12
theorem qX1_dropWaiting {K : Kt} {o : Nat} (hp : hPre K o) (p1 : Int) (σ : Sg) : Cc MX1_dropWaiting K [aR o, aI p1] σ (emV K) (vX1_dropWaiting K o p1 σ) := cc_of plX1 (Nat.le_of_ble_eq_true rfl) (fun o _ => ⟨Nat.le_refl _, Nat.le_refl _⟩) (fun Γ => tX1_dropWaiting hp p1 σ)
noncomputable def vX1_lendOut (K : Kt) (o : Nat) (p1 : Int) (p2 : Int) (σ : Sg) : Option (Int × Sg) := bd2 (vX1_leave K o p1 σ) (fun r1 σ2 => ck (0 ≤ p1 ∧ p1 < 6) (nm (up2 σ2 (o + 8) p1.toNat p2) (fun σ3 => ck (0 ≤ p1 ∧ p1 < 6) (nm (up2 σ3 (o + 9) p1.toNat (σ3 (o + 13) 0)) (fun σ4 => (vX1_placeWaiting K o p2 p1 σ4).bind (fun r5 => (vX1_dropWaiting K o r5 σ4).bind (fun σ6 => some (r1, σ6))))))))
set_option maxRecDepth 100000 in
set_option maxHeartbeats 4000000 in
theorem tX1_lendOut {Γ : Gx} {K : Kt} {o : Nat} (hp : hPre K o) (p1 : Int) (p2 : Int) (σ : Sg) : Y Γ MX1_lendOut K (emIS K) K 0 [some (aR o), some (aI p1), some (aI p2), none] [] σ (vX1_lendOut K o p1 p2 σ) := by
  unfold vX1_lendOut
  refine y_aload_n dX1_lendOut_0 rfl rfl ?_
  refine y_iload_n dX1_lendOut_1 rfl rfl ?_
  refine y_cvIS (qX1_leave hp p1 σ) kX1_167 rfl hp.2.1.1 rfl (by decide) rfl (Nat.le_of_ble_eq_true rfl) dX1_lendOut_2 (fun r1 σ2 => ?_)
  refine y_istore_n dX1_lendOut_5 rfl (Nat.le_of_ble_eq_true rfl) (L' := [some (aR o), some (aI p1), some (aI p2), some (aI r1)]) rfl ?_
  refine y_aload_n dX1_lendOut_6 rfl rfl ?_
  refine y_getR fX1_33 hp.2.1.1 rfl (lH_11 hp.2.1).1 dX1_lendOut_7 ?_
  refine y_iload_n dX1_lendOut_10 rfl rfl ?_
  refine y_iload_n dX1_lendOut_11 rfl rfl ?_
  refine yk_iastore (lH_11 hp.2.1).2 (N := 6) rfl (j := p1.toNat) rfl dX1_lendOut_12 (fun σ3 => ?_)
  refine y_aload_n dX1_lendOut_13 rfl rfl ?_
  refine y_getR fX1_36 hp.2.1.1 rfl (lH_12 hp.2.1).1 dX1_lendOut_14 ?_
  refine y_iload_n dX1_lendOut_17 rfl rfl ?_
  refine y_aload_n dX1_lendOut_18 rfl rfl ?_
  refine y_getR fX1_48 hp.2.1.1 rfl (lH_16 hp.2.1).1 dX1_lendOut_19 ?_
  refine y_iconst dX1_lendOut_22 (by decide) ?_
  refine yl_iaload (lH_16 hp.2.1).2 (by decide) (j := 0) rfl dX1_lendOut_23 ?_
  refine yk_iastore (lH_12 hp.2.1).2 (N := 6) rfl (j := p1.toNat) rfl dX1_lendOut_24 (fun σ4 => ?_)
  refine y_aload_n dX1_lendOut_25 rfl rfl ?_
  refine y_aload_n dX1_lendOut_26 rfl rfl ?_
  refine y_iload_n dX1_lendOut_27 rfl rfl ?_
  refine y_iload_n dX1_lendOut_28 rfl rfl ?_
  refine y_cvI (qX1_placeWaiting hp p2 p1 σ4) kX1_161 rfl hp.2.1.1 rfl (by decide) rfl (Nat.le_of_ble_eq_true rfl) dX1_lendOut_29 (fun r5 => ?_)
  refine y_cvV (qX1_dropWaiting hp r5 σ4) kX1_170 rfl hp.2.1.1 rfl (by decide) rfl (Nat.le_of_ble_eq_true rfl) dX1_lendOut_32 (fun σ6 => ?_)
  refine y_iload_n dX1_lendOut_35 rfl rfl ?_
  exact y_iret rfl rfl dX1_lendOut_36
theorem qX1_lendOut {K : Kt} {o : Nat} (hp : hPre K o) (p1 : Int) (p2 : Int) (σ : Sg) : Cc MX1_lendOut K [aR o, aI p1, aI p2] σ (emIS K) (vX1_lendOut K o p1 p2 σ) := cc_of plX1 (Nat.le_of_ble_eq_true rfl) (fun o _ => ⟨Nat.le_refl _, Nat.le_refl _⟩) (fun Γ => tX1_lendOut hp p1 p2 σ)
noncomputable def vX1_addWaiting (K : Kt) (o : Nat) (p1 : Int) (p2 : Int) (σ : Sg) : Option (Int × Sg) := if (σ o 3) < 12 then (ck (0 ≤ (σ o 3) ∧ (σ o 3) < 12) (nm (up2 σ (o + 11) (σ o 3).toNat p1) (fun σ2 => ck (0 ≤ (σ2 o 3) ∧ (σ2 o 3) < 12) (nm (up2 σ2 (o + 12) (σ2 o 3).toNat p2) (fun σ3 => ck (in32 ((σ3 o 3) + 1)) (nm (up2 σ3 o 3 ((σ3 o 3) + 1)) (fun σ4 => some ((σ4 o 3), σ4)))))))) else (some ((σ o 3), σ))
set_option maxRecDepth 100000 in
set_option maxHeartbeats 4000000 in
theorem tX1_addWaiting {Γ : Gx} {K : Kt} {o : Nat} (hp : hPre K o) (p1 : Int) (p2 : Int) (σ : Sg) : Y Γ MX1_addWaiting K (emIS K) K 0 [some (aR o), some (aI p1), some (aI p2)] [] σ (vX1_addWaiting K o p1 p2 σ) := by
  unfold vX1_addWaiting
  refine y_aload_n dX1_addWaiting_0 rfl rfl ?_
  refine y_getI fX1_62 hp.2.1.1 rfl dX1_addWaiting_1 ?_
  refine y_bipush dX1_addWaiting_4 (by decide) (by decide) ?_
  refine y_ite (fun h1 => ?_) (fun h1 => ?_)
  · refine y_icmp_ge_f dX1_addWaiting_6 (t := 39) rfl h1 ?_
    refine y_aload_n dX1_addWaiting_9 rfl rfl ?_
    refine y_getR fX1_42 hp.2.1.1 rfl (lH_14 hp.2.1).1 dX1_addWaiting_10 ?_
    refine y_aload_n dX1_addWaiting_13 rfl rfl ?_
    refine y_getI fX1_62 hp.2.1.1 rfl dX1_addWaiting_14 ?_
    refine y_iload_n dX1_addWaiting_17 rfl rfl ?_
    refine yk_iastore (lH_14 hp.2.1).2 (N := 12) rfl (j := (σ o 3).toNat) rfl dX1_addWaiting_18 (fun σ2 => ?_)
    refine y_aload_n dX1_addWaiting_19 rfl rfl ?_
    refine y_getR fX1_45 hp.2.1.1 rfl (lH_15 hp.2.1).1 dX1_addWaiting_20 ?_
    refine y_aload_n dX1_addWaiting_23 rfl rfl ?_
    refine y_getI fX1_62 hp.2.1.1 rfl dX1_addWaiting_24 ?_
    refine y_iload_n dX1_addWaiting_27 rfl rfl ?_
    refine yk_iastore (lH_15 hp.2.1).2 (N := 12) rfl (j := (σ2 o 3).toNat) rfl dX1_addWaiting_28 (fun σ3 => ?_)
    refine y_aload_n dX1_addWaiting_29 rfl rfl ?_
    refine y_dup dX1_addWaiting_30 (fun _ => rfl) ?_
    refine y_getI fX1_62 hp.2.1.1 rfl dX1_addWaiting_31 ?_
    refine y_iconst dX1_addWaiting_34 (by decide) ?_
    refine yk_iadd dX1_addWaiting_35 ?_
    refine yn_putI fX1_62 hp.2.1.1 rfl rfl dX1_addWaiting_36 (fun σ4 => ?_)
    refine y_aload_n dX1_addWaiting_39 rfl rfl ?_
    refine y_getI fX1_62 hp.2.1.1 rfl dX1_addWaiting_40 ?_
    exact y_iret rfl rfl dX1_addWaiting_43
  · refine y_icmp_ge_t dX1_addWaiting_6 (t := 39) rfl h1 ?_
    refine y_aload_n dX1_addWaiting_39 rfl rfl ?_
    refine y_getI fX1_62 hp.2.1.1 rfl dX1_addWaiting_40 ?_
    exact y_iret rfl rfl dX1_addWaiting_43
theorem qX1_addWaiting {K : Kt} {o : Nat} (hp : hPre K o) (p1 : Int) (p2 : Int) (σ : Sg) : Cc MX1_addWaiting K [aR o, aI p1, aI p2] σ (emIS K) (vX1_addWaiting K o p1 p2 σ) := cc_of plX1 (Nat.le_of_ble_eq_true rfl) (fun o _ => ⟨Nat.le_refl _, Nat.le_refl _⟩) (fun Γ => tX1_addWaiting hp p1 p2 σ)
noncomputable def vX1_firstWaiting_2 (K : Kt) (o : Nat) : Nat → Int → Int → Sg → Option (Int × Sg)
  | 0, _, _, _ => none
  | f + 1, x1, x2, σ => if x2 < (σ o 3) then (ck (0 ≤ x2 ∧ x2 < 12) (if (σ (o + 12) x2.toNat) = x1 then (ck (0 ≤ x2 ∧ x2 < 12) (bd2 (vX1_canHave K o (σ (o + 11) x2.toNat) x1 σ) (fun r3 σ4 => if r3 = 0 then (ck (in32 (x2 + 1)) (vX1_firstWaiting_2 K o f x1 (x2 + 1) σ4)) else (ck (0 ≤ x2 ∧ x2 < 12) (some ((σ4 (o + 11) x2.toNat), σ4)))))) else (ck (in32 (x2 + 1)) (vX1_firstWaiting_2 K o f x1 (x2 + 1) σ)))) else (some ((-1), σ))
set_option maxRecDepth 100000 in
set_option maxHeartbeats 4000000 in
theorem tX1_firstWaiting_2 {Γ : Gx} {K : Kt} {o : Nat} (hp : hPre K o) : ∀ (f : Nat) (x1 : Int) (x2 : Int) (σ : Sg), Y Γ MX1_firstWaiting K (emIS K) K 2 [some (aR o), some (aI x1), some (aI x2)] [] σ (vX1_firstWaiting_2 K o f x1 x2 σ) := by
  intro f
  induction f with
  | zero => intro x1 x2 σ; exact y_none
  | succ f ih =>
    intro x1 x2 σ
    rw [vX1_firstWaiting_2]
    refine y_iload_n dX1_firstWaiting_2 rfl rfl ?_
    refine y_aload_n dX1_firstWaiting_3 rfl rfl ?_
    refine y_getI fX1_62 hp.2.1.1 rfl dX1_firstWaiting_4 ?_
    refine y_ite (fun h1 => ?_) (fun h1 => ?_)
    · refine y_icmp_ge_f dX1_firstWaiting_7 (t := 47) rfl h1 ?_
      refine y_aload_n dX1_firstWaiting_10 rfl rfl ?_
      refine y_getR fX1_45 hp.2.1.1 rfl (lH_15 hp.2.1).1 dX1_firstWaiting_11 ?_
      refine y_iload_n dX1_firstWaiting_14 rfl rfl ?_
      refine yk_iaload (lH_15 hp.2.1).2 (N := 12) rfl (j := x2.toNat) rfl dX1_firstWaiting_15 ?_
      refine y_iload_n dX1_firstWaiting_16 rfl rfl ?_
      refine y_ite (fun h2 => ?_) (fun h2 => ?_)
      · refine y_icmp_ne_f dX1_firstWaiting_17 (t := 41) rfl h2 ?_
        refine y_aload_n dX1_firstWaiting_20 rfl rfl ?_
        refine y_aload_n dX1_firstWaiting_21 rfl rfl ?_
        refine y_getR fX1_42 hp.2.1.1 rfl (lH_14 hp.2.1).1 dX1_firstWaiting_22 ?_
        refine y_iload_n dX1_firstWaiting_25 rfl rfl ?_
        refine yk_iaload (lH_14 hp.2.1).2 (N := 12) rfl (j := x2.toNat) rfl dX1_firstWaiting_26 ?_
        refine y_iload_n dX1_firstWaiting_27 rfl rfl ?_
        refine y_cvIS (qX1_canHave hp (σ (o + 11) x2.toNat) x1 σ) kX1_174 rfl hp.2.1.1 rfl (by decide) rfl (Nat.le_of_ble_eq_true rfl) dX1_firstWaiting_28 (fun r3 σ4 => ?_)
        refine y_ite (fun h5 => ?_) (fun h5 => ?_)
        · refine y_if_eq_t dX1_firstWaiting_31 (t := 41) rfl h5 ?_
          refine yk_iinc dX1_firstWaiting_41 rfl (L' := [some (aR o), some (aI x1), some (aI (x2 + 1))]) rfl ?_
          refine y_goto dX1_firstWaiting_44 (t := 2) rfl ?_
          exact ih x1 (x2 + 1) σ4
        · refine y_if_eq_f dX1_firstWaiting_31 (t := 41) rfl h5 ?_
          refine y_aload_n dX1_firstWaiting_34 rfl rfl ?_
          refine y_getR fX1_42 hp.2.1.1 rfl (lH_14 hp.2.1).1 dX1_firstWaiting_35 ?_
          refine y_iload_n dX1_firstWaiting_38 rfl rfl ?_
          refine yk_iaload (lH_14 hp.2.1).2 (N := 12) rfl (j := x2.toNat) rfl dX1_firstWaiting_39 ?_
          exact y_iret rfl rfl dX1_firstWaiting_40
      · refine y_icmp_ne_t dX1_firstWaiting_17 (t := 41) rfl h2 ?_
        refine yk_iinc dX1_firstWaiting_41 rfl (L' := [some (aR o), some (aI x1), some (aI (x2 + 1))]) rfl ?_
        refine y_goto dX1_firstWaiting_44 (t := 2) rfl ?_
        exact ih x1 (x2 + 1) σ
    · refine y_icmp_ge_t dX1_firstWaiting_7 (t := 47) rfl h1 ?_
      refine y_iconst dX1_firstWaiting_47 (by decide) ?_
      exact y_iret rfl rfl dX1_firstWaiting_48
noncomputable def vX1_firstWaiting (K : Kt) (o : Nat) (p1 : Int) (σ : Sg) : Option (Int × Sg) := vX1_firstWaiting_2 K o FU p1 0 σ
set_option maxRecDepth 100000 in
set_option maxHeartbeats 4000000 in
theorem tX1_firstWaiting {Γ : Gx} {K : Kt} {o : Nat} (hp : hPre K o) (p1 : Int) (σ : Sg) : Y Γ MX1_firstWaiting K (emIS K) K 0 [some (aR o), some (aI p1), none] [] σ (vX1_firstWaiting K o p1 σ) := by
  unfold vX1_firstWaiting
  refine y_iconst dX1_firstWaiting_0 (by decide) ?_
  refine y_istore_n dX1_firstWaiting_1 rfl (Nat.le_of_ble_eq_true rfl) (L' := [some (aR o), some (aI p1), some (aI 0)]) rfl ?_
  exact tX1_firstWaiting_2 hp FU p1 0 σ
theorem qX1_firstWaiting {K : Kt} {o : Nat} (hp : hPre K o) (p1 : Int) (σ : Sg) : Cc MX1_firstWaiting K [aR o, aI p1] σ (emIS K) (vX1_firstWaiting K o p1 σ) := cc_of plX1 (Nat.le_of_ble_eq_true rfl) (fun o _ => ⟨Nat.le_refl _, Nat.le_refl _⟩) (fun Γ => tX1_firstWaiting hp p1 σ)
noncomputable def vX1_passWeek_2 (K : Kt) (o : Nat) : Nat → Int → Sg → Option (Int × Sg)
  | 0, _, _ => none
  | f + 1, x1, σ => if x1 < (σ o 2) then (ck (0 ≤ x1 ∧ x1 < 6) (nm (σ (o + 8) x1.toNat) (fun z2 => if z2 = (-1) then (ck (in32 (x1 + 1)) (vX1_passWeek_2 K o f (x1 + 1) σ)) else (ck (0 ≤ x1 ∧ x1 < 6) (bd2 (vX1_asked K o 1 (σ 1 5) z2 x1 (σ (o + 5) x1.toNat) σ) (fun r4 σ5 => ck (0 ≤ x1 ∧ x1 < 6) (ck (in32 ((σ5 (o + 7) x1.toNat) + r4)) (ck (0 ≤ x1 ∧ x1 < 6) (nm (up2 σ5 (o + 7) x1.toNat (imin 99 ((σ5 (o + 7) x1.toNat) + r4))) (fun σ6 => ck (in32 (x1 + 1)) (vX1_passWeek_2 K o f (x1 + 1) σ6))))))))))) else (ck (in32 ((σ (o + 13) 0) + 1)) (nm (up2 σ (o + 13) 0 ((σ (o + 13) 0) + 1)) (fun σ7 => some ((σ7 (o + 13) 0), σ7))))
set_option maxRecDepth 100000 in
set_option maxHeartbeats 4000000 in
theorem tX1_passWeek_2 {Γ : Gx} {K : Kt} {o : Nat} (hp : hPre K o) : ∀ (f : Nat) (x1 : Int) (σ : Sg), Y Γ MX1_passWeek K (emIS K) K 2 [some (aR o), some (aI x1), none, none] [] σ (vX1_passWeek_2 K o f x1 σ) := by
  intro f
  induction f with
  | zero => intro x1 σ; exact y_none
  | succ f ih =>
    intro x1 σ
    rw [vX1_passWeek_2]
    refine y_iload_n dX1_passWeek_2 rfl rfl ?_
    refine y_aload_n dX1_passWeek_3 rfl rfl ?_
    refine y_getI fX1_59 hp.2.1.1 rfl dX1_passWeek_4 ?_
    refine y_ite (fun h1 => ?_) (fun h1 => ?_)
    · refine y_icmp_ge_f dX1_passWeek_7 (t := 68) rfl h1 ?_
      refine y_aload_n dX1_passWeek_10 rfl rfl ?_
      refine y_getR fX1_33 hp.2.1.1 rfl (lH_11 hp.2.1).1 dX1_passWeek_11 ?_
      refine y_iload_n dX1_passWeek_14 rfl rfl ?_
      refine yk_iaload (lH_11 hp.2.1).2 (N := 6) rfl (j := x1.toNat) rfl dX1_passWeek_15 ?_
      refine yn_istore_n dX1_passWeek_16 rfl (Nat.le_of_ble_eq_true rfl) (L' := fun z2 => [some (aR o), some (aI x1), some (aI z2), none]) (fun _ => rfl) (fun z2 => ?_)
      refine y_iload_n dX1_passWeek_17 rfl rfl ?_
      refine y_iconst dX1_passWeek_18 (by decide) ?_
      refine y_ite (fun h3 => ?_) (fun h3 => ?_)
      · refine y_icmp_eq_t dX1_passWeek_19 (t := 62) rfl h3 ?_
        refine yk_iinc dX1_passWeek_62 rfl (L' := [some (aR o), some (aI (x1 + 1)), some (aI z2), none]) rfl ?_
        refine y_goto dX1_passWeek_65 (t := 2) rfl ?_
        refine y_fg [true, true, false, false] (L' := [some (aR o), some (aI (x1 + 1)), none, none]) rfl ?_
        exact ih (x1 + 1) σ
      · refine y_icmp_eq_f dX1_passWeek_19 (t := 62) rfl h3 ?_
        refine y_aload_n dX1_passWeek_22 rfl rfl ?_
        refine y_iconst dX1_passWeek_23 (by decide) ?_
        refine y_aload_n dX1_passWeek_24 rfl rfl ?_
        refine y_getR fX1_51 hp.2.1.1 rfl hp.2.2 dX1_passWeek_25 ?_
        refine y_getI fX1_134 (lcO_1 hp.1) rfl dX1_passWeek_28 ?_
        refine y_iload_n dX1_passWeek_31 rfl rfl ?_
        refine y_iload_n dX1_passWeek_32 rfl rfl ?_
        refine y_aload_n dX1_passWeek_33 rfl rfl ?_
        refine y_getR fX1_24 hp.2.1.1 rfl (lH_8 hp.2.1).1 dX1_passWeek_34 ?_
        refine y_iload_n dX1_passWeek_37 rfl rfl ?_
        refine yk_iaload (lH_8 hp.2.1).2 (N := 6) rfl (j := x1.toNat) rfl dX1_passWeek_38 ?_
        refine y_cvIS (qX1_asked hp 1 (σ 1 5) z2 x1 (σ (o + 5) x1.toNat) σ) kX1_137 rfl hp.2.1.1 rfl (by decide) rfl (Nat.le_of_ble_eq_true rfl) dX1_passWeek_39 (fun r4 σ5 => ?_)
        refine y_istore_n dX1_passWeek_42 rfl (Nat.le_of_ble_eq_true rfl) (L' := [some (aR o), some (aI x1), some (aI z2), some (aI r4)]) rfl ?_
        refine y_aload_n dX1_passWeek_43 rfl rfl ?_
        refine y_getR fX1_30 hp.2.1.1 rfl (lH_10 hp.2.1).1 dX1_passWeek_44 ?_
        refine y_iload_n dX1_passWeek_47 rfl rfl ?_
        refine y_bipush dX1_passWeek_48 (by decide) (by decide) ?_
        refine y_aload_n dX1_passWeek_50 rfl rfl ?_
        refine y_getR fX1_30 hp.2.1.1 rfl (lH_10 hp.2.1).1 dX1_passWeek_51 ?_
        refine y_iload_n dX1_passWeek_54 rfl rfl ?_
        refine yk_iaload (lH_10 hp.2.1).2 (N := 6) rfl (j := x1.toNat) rfl dX1_passWeek_55 ?_
        refine y_iload_n dX1_passWeek_56 rfl rfl ?_
        refine yk_iadd dX1_passWeek_57 ?_
        refine y_imin mX1_119 (by decide) (Nat.le_of_ble_eq_true rfl) dX1_passWeek_58 ?_
        refine yk_iastore (lH_10 hp.2.1).2 (N := 6) rfl (j := x1.toNat) rfl dX1_passWeek_61 (fun σ6 => ?_)
        refine yk_iinc dX1_passWeek_62 rfl (L' := [some (aR o), some (aI (x1 + 1)), some (aI z2), some (aI r4)]) rfl ?_
        refine y_goto dX1_passWeek_65 (t := 2) rfl ?_
        refine y_fg [true, true, false, false] (L' := [some (aR o), some (aI (x1 + 1)), none, none]) rfl ?_
        exact ih (x1 + 1) σ6
    · refine y_icmp_ge_t dX1_passWeek_7 (t := 68) rfl h1 ?_
      refine y_aload_n dX1_passWeek_68 rfl rfl ?_
      refine y_getR fX1_48 hp.2.1.1 rfl (lH_16 hp.2.1).1 dX1_passWeek_69 ?_
      refine y_iconst dX1_passWeek_72 (by decide) ?_
      refine y_dup2 dX1_passWeek_73 (fun _ => rfl) (fun _ => rfl) ?_
      refine yl_iaload (lH_16 hp.2.1).2 (by decide) (j := 0) rfl dX1_passWeek_74 ?_
      refine y_iconst dX1_passWeek_75 (by decide) ?_
      refine yk_iadd dX1_passWeek_76 ?_
      refine yl_iastore (lH_16 hp.2.1).2 (by decide) (j := 0) rfl dX1_passWeek_77 (fun σ7 => ?_)
      refine y_aload_n dX1_passWeek_78 rfl rfl ?_
      refine y_getR fX1_48 hp.2.1.1 rfl (lH_16 hp.2.1).1 dX1_passWeek_79 ?_
      refine y_iconst dX1_passWeek_82 (by decide) ?_
      refine yl_iaload (lH_16 hp.2.1).2 (by decide) (j := 0) rfl dX1_passWeek_83 ?_
      exact y_iret rfl rfl dX1_passWeek_84
noncomputable def vX1_passWeek (K : Kt) (o : Nat) (σ : Sg) : Option (Int × Sg) := vX1_passWeek_2 K o FU 0 σ
set_option maxRecDepth 100000 in
set_option maxHeartbeats 4000000 in
theorem tX1_passWeek {Γ : Gx} {K : Kt} {o : Nat} (hp : hPre K o) (σ : Sg) : Y Γ MX1_passWeek K (emIS K) K 0 [some (aR o), none, none, none] [] σ (vX1_passWeek K o σ) := by
  unfold vX1_passWeek
  refine y_iconst dX1_passWeek_0 (by decide) ?_
  refine y_istore_n dX1_passWeek_1 rfl (Nat.le_of_ble_eq_true rfl) (L' := [some (aR o), some (aI 0), none, none]) rfl ?_
  exact tX1_passWeek_2 hp FU 0 σ
theorem qX1_passWeek {K : Kt} {o : Nat} (hp : hPre K o) (σ : Sg) : Cc MX1_passWeek K [aR o] σ (emIS K) (vX1_passWeek K o σ) := cc_of plX1 (Nat.le_of_ble_eq_true rfl) (fun o _ => ⟨Nat.le_refl _, Nat.le_refl _⟩) (fun Γ => tX1_passWeek hp σ)
noncomputable def vX6_add_3 (K : Kt) : Nat → Int → Int → Sg → Option (Sg)
  | 0, _, _, _ => none
  | f + 1, x1, x2, σ => if x2 < 0 then (some σ) else (if (σ 61 1) < 400 then (ck (0 ≤ (σ 61 1) ∧ (σ 61 1) < 400) (nm (up2 σ 62 (σ 61 1).toNat (bAnd (bUsh x1 x2) 255)) (fun σ3 => ck (in32 ((σ3 61 1) + 1)) (nm (up2 σ3 61 1 ((σ3 61 1) + 1)) (fun σ4 => ck (in32 (x2 + (-8))) (vX6_add_3 K f x1 (x2 + (-8)) σ4)))))) else (ck (in32 (x2 + (-8))) (vX6_add_3 K f x1 (x2 + (-8)) σ)))
set_option maxRecDepth 100000 in
set_option maxHeartbeats 4000000 in
theorem tX6_add_3 {Γ : Gx} {K : Kt} (hC : cLay K) : ∀ (f : Nat) (x1 : Int) (x2 : Int) (σ : Sg), Y Γ MX6_add K (emV K) K 3 [some (aR 61), some (aI x1), some (aI x2)] [] σ (vX6_add_3 K f x1 x2 σ) := by
  intro f
  induction f with
  | zero => intro x1 x2 σ; exact y_none
  | succ f ih =>
    intro x1 x2 σ
    rw [vX6_add_3]
    refine y_iload_n dX6_add_3 rfl rfl ?_
    refine y_ite (fun h1 => ?_) (fun h1 => ?_)
    · refine y_if_lt_t dX6_add_4 (t := 49) rfl h1 ?_
      exact y_vret rfl rfl dX6_add_49
    · refine y_if_lt_f dX6_add_4 (t := 49) rfl h1 ?_
      refine y_aload_n dX6_add_7 rfl rfl ?_
      refine y_getI fX6_15 (lcO_61 hC) rfl dX6_add_8 ?_
      refine y_sipush dX6_add_11 (by decide) (by decide) ?_
      refine y_ite (fun h2 => ?_) (fun h2 => ?_)
      · refine y_icmp_ge_f dX6_add_14 (t := 43) rfl h2 ?_
        refine y_aload_n dX6_add_17 rfl rfl ?_
        refine y_getR fX6_9 (lcO_61 hC) rfl (lcR_61_0 hC) dX6_add_18 ?_
        refine y_aload_n dX6_add_21 rfl rfl ?_
        refine y_getI fX6_15 (lcO_61 hC) rfl dX6_add_22 ?_
        refine y_iload_n dX6_add_25 rfl rfl ?_
        refine y_iload_n dX6_add_26 rfl rfl ?_
        refine y_iushr dX6_add_27 ?_
        refine y_sipush dX6_add_28 (by decide) (by decide) ?_
        refine y_iand dX6_add_31 ?_
        refine yk_iastore (lcA_62 hC) (N := 400) rfl (j := (σ 61 1).toNat) rfl dX6_add_32 (fun σ3 => ?_)
        refine y_aload_n dX6_add_33 rfl rfl ?_
        refine y_dup dX6_add_34 (fun _ => rfl) ?_
        refine y_getI fX6_15 (lcO_61 hC) rfl dX6_add_35 ?_
        refine y_iconst dX6_add_38 (by decide) ?_
        refine yk_iadd dX6_add_39 ?_
        refine yn_putI fX6_15 (lcO_61 hC) rfl rfl dX6_add_40 (fun σ4 => ?_)
        refine yk_iinc dX6_add_43 rfl (L' := [some (aR 61), some (aI x1), some (aI (x2 + (-8)))]) rfl ?_
        refine y_goto dX6_add_46 (t := 3) rfl ?_
        exact ih x1 (x2 + (-8)) σ4
      · refine y_icmp_ge_t dX6_add_14 (t := 43) rfl h2 ?_
        refine yk_iinc dX6_add_43 rfl (L' := [some (aR 61), some (aI x1), some (aI (x2 + (-8)))]) rfl ?_
        refine y_goto dX6_add_46 (t := 3) rfl ?_
        exact ih x1 (x2 + (-8)) σ
noncomputable def vX6_add (K : Kt) (p1 : Int) (σ : Sg) : Option (Sg) := vX6_add_3 K FU p1 24 σ
set_option maxRecDepth 100000 in
set_option maxHeartbeats 4000000 in
theorem tX6_add {Γ : Gx} {K : Kt} (hC : cLay K) (p1 : Int) (σ : Sg) : Y Γ MX6_add K (emV K) K 0 [some (aR 61), some (aI p1), none] [] σ (vX6_add K p1 σ) := by
  unfold vX6_add
  refine y_bipush dX6_add_0 (by decide) (by decide) ?_
  refine y_istore_n dX6_add_2 rfl (Nat.le_of_ble_eq_true rfl) (L' := [some (aR 61), some (aI p1), some (aI 24)]) rfl ?_
  exact tX6_add_3 hC FU p1 24 σ
theorem qX6_add {K : Kt} (hC : cLay K) (p1 : Int) (σ : Sg) : Cc MX6_add K [aR 61, aI p1] σ (emV K) (vX6_add K p1 σ) := cc_of plX6 (Nat.le_of_ble_eq_true rfl) (fun o _ => ⟨Nat.le_refl _, Nat.le_refl _⟩) (fun Γ => tX6_add hC p1 σ)
noncomputable def vX7_clear (K : Kt) (σ : Sg) : Option (Sg) := nm (up2 σ 64 6 0) (fun σ1 => nm (up2 σ1 64 7 0) (fun σ2 => some σ2))
set_option maxRecDepth 100000 in
set_option maxHeartbeats 4000000 in
theorem tX7_clear {Γ : Gx} {K : Kt} (hC : cLay K) (σ : Sg) : Y Γ MX7_clear K (emV K) K 0 [some (aR 64)] [] σ (vX7_clear K σ) := by
  unfold vX7_clear
  refine y_aload_n dX7_clear_0 rfl rfl ?_
  refine y_iconst dX7_clear_1 (by decide) ?_
  refine yn_putI fX7_9 (lcO_64 hC) rfl rfl dX7_clear_2 (fun σ1 => ?_)
  refine y_aload_n dX7_clear_5 rfl rfl ?_
  refine y_iconst dX7_clear_6 (by decide) ?_
  refine yn_putI fX7_15 (lcO_64 hC) rfl rfl dX7_clear_7 (fun σ2 => ?_)
  exact y_vret rfl rfl dX7_clear_10
theorem qX7_clear {K : Kt} (hC : cLay K) (σ : Sg) : Cc MX7_clear K [aR 64] σ (emV K) (vX7_clear K σ) := cc_of plX7 (Nat.le_of_ble_eq_true rfl) (fun o _ => ⟨Nat.le_refl _, Nat.le_refl _⟩) (fun Γ => tX7_clear hC σ)
noncomputable def vX7_open (K : Kt) (p1 : Int) (σ : Sg) : Option (Sg) := if (σ 64 6) < 12 then (ck (0 ≤ (σ 64 6) ∧ (σ 64 6) < 12) (nm (up2 σ 65 (σ 64 6).toNat p1) (fun σ2 => ck (0 ≤ (σ2 64 6) ∧ (σ2 64 6) < 12) (nm (up2 σ2 66 (σ2 64 6).toNat (-1)) (fun σ3 => ck (0 ≤ (σ3 64 6) ∧ (σ3 64 6) < 12) (nm (up2 σ3 67 (σ3 64 6).toNat (-1)) (fun σ4 => ck (0 ≤ (σ4 64 6) ∧ (σ4 64 6) < 12) (nm (up2 σ4 68 (σ4 64 6).toNat (-1)) (fun σ5 => ck (0 ≤ (σ5 64 6) ∧ (σ5 64 6) < 12) (nm (up2 σ5 69 (σ5 64 6).toNat 1) (fun σ6 => ck (in32 ((σ6 64 6) + 1)) (nm (up2 σ6 64 6 ((σ6 64 6) + 1)) (fun σ7 => some σ7))))))))))))) else (some σ)
set_option maxRecDepth 100000 in
set_option maxHeartbeats 4000000 in
theorem tX7_open {Γ : Gx} {K : Kt} (hC : cLay K) (p1 : Int) (σ : Sg) : Y Γ MX7_open K (emV K) K 0 [some (aR 64), some (aI p1)] [] σ (vX7_open K p1 σ) := by
  unfold vX7_open
  refine y_aload_n dX7_open_0 rfl rfl ?_
  refine y_getI fX7_9 (lcO_64 hC) rfl dX7_open_1 ?_
  refine y_aload_n dX7_open_4 rfl rfl ?_
  refine y_getR fX7_24 (lcO_64 hC) rfl (lcR_64_0 hC) dX7_open_5 ?_
  refine y_alen (lcA_65 hC) (by decide) dX7_open_8 ?_
  refine y_ite (fun h1 => ?_) (fun h1 => ?_)
  · refine y_icmp_ge_f dX7_open_9 (t := 72) rfl h1 ?_
    refine y_aload_n dX7_open_12 rfl rfl ?_
    refine y_getR fX7_24 (lcO_64 hC) rfl (lcR_64_0 hC) dX7_open_13 ?_
    refine y_aload_n dX7_open_16 rfl rfl ?_
    refine y_getI fX7_9 (lcO_64 hC) rfl dX7_open_17 ?_
    refine y_iload_n dX7_open_20 rfl rfl ?_
    refine yk_iastore (lcA_65 hC) (N := 12) rfl (j := (σ 64 6).toNat) rfl dX7_open_21 (fun σ2 => ?_)
    refine y_aload_n dX7_open_22 rfl rfl ?_
    refine y_getR fX7_28 (lcO_64 hC) rfl (lcR_64_1 hC) dX7_open_23 ?_
    refine y_aload_n dX7_open_26 rfl rfl ?_
    refine y_getI fX7_9 (lcO_64 hC) rfl dX7_open_27 ?_
    refine y_iconst dX7_open_30 (by decide) ?_
    refine yk_iastore (lcA_66 hC) (N := 12) rfl (j := (σ2 64 6).toNat) rfl dX7_open_31 (fun σ3 => ?_)
    refine y_aload_n dX7_open_32 rfl rfl ?_
    refine y_getR fX7_31 (lcO_64 hC) rfl (lcR_64_2 hC) dX7_open_33 ?_
    refine y_aload_n dX7_open_36 rfl rfl ?_
    refine y_getI fX7_9 (lcO_64 hC) rfl dX7_open_37 ?_
    refine y_iconst dX7_open_40 (by decide) ?_
    refine yk_iastore (lcA_67 hC) (N := 12) rfl (j := (σ3 64 6).toNat) rfl dX7_open_41 (fun σ4 => ?_)
    refine y_aload_n dX7_open_42 rfl rfl ?_
    refine y_getR fX7_34 (lcO_64 hC) rfl (lcR_64_3 hC) dX7_open_43 ?_
    refine y_aload_n dX7_open_46 rfl rfl ?_
    refine y_getI fX7_9 (lcO_64 hC) rfl dX7_open_47 ?_
    refine y_iconst dX7_open_50 (by decide) ?_
    refine yk_iastore (lcA_68 hC) (N := 12) rfl (j := (σ4 64 6).toNat) rfl dX7_open_51 (fun σ5 => ?_)
    refine y_aload_n dX7_open_52 rfl rfl ?_
    refine y_getR fX7_37 (lcO_64 hC) rfl (lcR_64_4 hC) dX7_open_53 ?_
    refine y_aload_n dX7_open_56 rfl rfl ?_
    refine y_getI fX7_9 (lcO_64 hC) rfl dX7_open_57 ?_
    refine y_iconst dX7_open_60 (by decide) ?_
    refine yk_iastore (lcA_69 hC) (N := 12) rfl (j := (σ5 64 6).toNat) rfl dX7_open_61 (fun σ6 => ?_)
    refine y_aload_n dX7_open_62 rfl rfl ?_
    refine y_dup dX7_open_63 (fun _ => rfl) ?_
    refine y_getI fX7_9 (lcO_64 hC) rfl dX7_open_64 ?_
    refine y_iconst dX7_open_67 (by decide) ?_
    refine yk_iadd dX7_open_68 ?_
    refine yn_putI fX7_9 (lcO_64 hC) rfl rfl dX7_open_69 (fun σ7 => ?_)
    exact y_vret rfl rfl dX7_open_72
  · refine y_icmp_ge_t dX7_open_9 (t := 72) rfl h1 ?_
    exact y_vret rfl rfl dX7_open_72
theorem qX7_open {K : Kt} (hC : cLay K) (p1 : Int) (σ : Sg) : Cc MX7_open K [aR 64, aI p1] σ (emV K) (vX7_open K p1 σ) := cc_of plX7 (Nat.le_of_ble_eq_true rfl) (fun o _ => ⟨Nat.le_refl _, Nat.le_refl _⟩) (fun Γ => tX7_open hC p1 σ)
noncomputable def vX7_add (K : Kt) (p1 : Int) (σ : Sg) : Option (Sg) := if (σ 64 7) < 400 then (ck (0 ≤ (σ 64 7) ∧ (σ 64 7) < 400) (nm (up2 σ 70 (σ 64 7).toNat p1) (fun σ2 => ck (in32 ((σ2 64 7) + 1)) (nm (up2 σ2 64 7 ((σ2 64 7) + 1)) (fun σ3 => some σ3))))) else (some σ)
set_option maxRecDepth 100000 in
set_option maxHeartbeats 4000000 in
theorem tX7_add {Γ : Gx} {K : Kt} (hC : cLay K) (p1 : Int) (σ : Sg) : Y Γ MX7_add K (emV K) K 0 [some (aR 64), some (aI p1)] [] σ (vX7_add K p1 σ) := by
  unfold vX7_add
  refine y_aload_n dX7_add_0 rfl rfl ?_
  refine y_getI fX7_15 (lcO_64 hC) rfl dX7_add_1 ?_
  refine y_aload_n dX7_add_4 rfl rfl ?_
  refine y_getR fX7_40 (lcO_64 hC) rfl (lcR_64_5 hC) dX7_add_5 ?_
  refine y_alen (lcA_70 hC) (by decide) dX7_add_8 ?_
  refine y_ite (fun h1 => ?_) (fun h1 => ?_)
  · refine y_icmp_ge_f dX7_add_9 (t := 32) rfl h1 ?_
    refine y_aload_n dX7_add_12 rfl rfl ?_
    refine y_getR fX7_40 (lcO_64 hC) rfl (lcR_64_5 hC) dX7_add_13 ?_
    refine y_aload_n dX7_add_16 rfl rfl ?_
    refine y_getI fX7_15 (lcO_64 hC) rfl dX7_add_17 ?_
    refine y_iload_n dX7_add_20 rfl rfl ?_
    refine yk_iastore (lcA_70 hC) (N := 400) rfl (j := (σ 64 7).toNat) rfl dX7_add_21 (fun σ2 => ?_)
    refine y_aload_n dX7_add_22 rfl rfl ?_
    refine y_dup dX7_add_23 (fun _ => rfl) ?_
    refine y_getI fX7_15 (lcO_64 hC) rfl dX7_add_24 ?_
    refine y_iconst dX7_add_27 (by decide) ?_
    refine yk_iadd dX7_add_28 ?_
    refine yn_putI fX7_15 (lcO_64 hC) rfl rfl dX7_add_29 (fun σ3 => ?_)
    exact y_vret rfl rfl dX7_add_32
  · refine y_icmp_ge_t dX7_add_9 (t := 32) rfl h1 ?_
    exact y_vret rfl rfl dX7_add_32
theorem qX7_add {K : Kt} (hC : cLay K) (p1 : Int) (σ : Sg) : Cc MX7_add K [aR 64, aI p1] σ (emV K) (vX7_add K p1 σ) := cc_of plX7 (Nat.le_of_ble_eq_true rfl) (fun o _ => ⟨Nat.le_refl _, Nat.le_refl _⟩) (fun Γ => tX7_add hC p1 σ)
noncomputable def vX8_forget (K : Kt) (u : Nat) (σ : Sg) : Option (Sg) := nm (up2 σ u 2 0) (fun σ1 => nm (up2 σ1 u 3 0) (fun σ2 => some σ2))
set_option maxRecDepth 100000 in
set_option maxHeartbeats 4000000 in
theorem tX8_forget {Γ : Gx} {K : Kt} {u : Nat} (hu : uAt K u) (σ : Sg) : Y Γ MX8_forget K (emV K) K 0 [some (aR u)] [] σ (vX8_forget K u σ) := by
  unfold vX8_forget
  refine y_aload_n dX8_forget_0 rfl rfl ?_
  refine y_iconst dX8_forget_1 (by decide) ?_
  refine yn_putI fX8_21 hu.1 rfl rfl dX8_forget_2 (fun σ1 => ?_)
  refine y_aload_n dX8_forget_5 rfl rfl ?_
  refine y_iconst dX8_forget_6 (by decide) ?_
  refine yn_putI fX8_25 hu.1 rfl rfl dX8_forget_7 (fun σ2 => ?_)
  exact y_vret rfl rfl dX8_forget_10
theorem qX8_forget {K : Kt} {u : Nat} (hu : uAt K u) (σ : Sg) : Cc MX8_forget K [aR u] σ (emV K) (vX8_forget K u σ) := cc_of plX8 (Nat.le_of_ble_eq_true rfl) (fun o _ => ⟨Nat.le_refl _, Nat.le_refl _⟩) (fun Γ => tX8_forget hu σ)
noncomputable def vX8_takeBack (K : Kt) (o : Nat) (p1 : Nat) (σ : Sg) : Option (Int × Sg) := ckP (IsC K o 8) (if 0 < (σ o 3) then (ckP (IsC K o 8) (ck (in32 ((σ o 3) - 1)) (ckP (IsC K o 8) (nm (up2 σ o 3 ((σ o 3) - 1)) (fun σ5 => ckP (IsC K o 8) (ckP (IsC K o 8) (ck (in32 ((σ5 o 2) + (σ5 o 3))) (ck (¬ (16 : Int) = 0 ∧ in32 (Int.tmod ((σ5 o 2) + (σ5 o 3)) 16)) (nm (Int.tmod ((σ5 o 2) + (σ5 o 3)) 16) (fun z8 => ckP (IsC K o 8) ((K.1 o 0).bind (fun t10 => ckP (IsA K t10 24 (K.2.1 t10).2) (ck (0 ≤ z8 ∧ z8 < ((K.2.1 t10).2 : Int)) ((K.1 t10 z8.toNat).elim (ckP (IsC K o 8) ((K.1 o 1).bind (fun t14 => ckP (IsA K t14 20 (K.2.1 t14).2) (ck (0 ≤ z8 ∧ z8 < ((K.2.1 t14).2 : Int)) (some ((σ5 t14 z8.toNat), σ5)))))) (fun t12 => ckP (IsC K o 8) ((K.1 o 0).bind (fun t17 => ckP (IsA K t17 24 (K.2.1 t17).2) (ck (0 ≤ z8 ∧ z8 < ((K.2.1 t17).2 : Int)) (((K.1 t17 z8.toNat)).bind (fun t19 => ckP (hallAt K p1) (ckP (hallAt K t19) (ckP (IsC K p1 1) ((vX1_copyFrom K p1 t19 σ5).bind (fun σ23 => ckP (IsC K o 8) ((K.1 o 1).bind (fun t25 => ckP (IsA K t25 20 (K.2.1 t25).2) (ck (0 ≤ z8 ∧ z8 < ((K.2.1 t25).2 : Int)) (some ((σ23 t25 z8.toNat), σ23))))))))))))))))))))))))))))) else (some ((-1), σ)))
set_option maxRecDepth 100000 in
set_option maxHeartbeats 4000000 in
theorem tX8_takeBack {Γ : Gx} {K : Kt} (o : Nat) (p1 : Nat) (σ : Sg) : Y Γ MX8_takeBack K (emIS K) K 0 [some (aR o), some (aR p1), none] [] σ (vX8_takeBack K o p1 σ) := by
  unfold vX8_takeBack
  refine y_aload_n dX8_takeBack_0 rfl rfl ?_
  refine y_ckP (fun hc1 => ?_)
  refine y_getI fX8_25 hc1 rfl dX8_takeBack_1 ?_
  refine y_ite (fun h2 => ?_) (fun h2 => ?_)
  · refine y_if_gt_t dX8_takeBack_4 (t := 9) rfl h2 ?_
    refine y_aload_n dX8_takeBack_9 rfl rfl ?_
    refine y_dup dX8_takeBack_10 (fun _ => rfl) ?_
    refine y_ckP (fun hc3 => ?_)
    refine y_getI fX8_25 hc3 rfl dX8_takeBack_11 ?_
    refine y_iconst dX8_takeBack_14 (by decide) ?_
    refine yk_isub dX8_takeBack_15 ?_
    refine y_ckP (fun hc4 => ?_)
    refine yn_putI fX8_25 hc4 rfl rfl dX8_takeBack_16 (fun σ5 => ?_)
    refine y_aload_n dX8_takeBack_19 rfl rfl ?_
    refine y_ckP (fun hc6 => ?_)
    refine y_getI fX8_21 hc6 rfl dX8_takeBack_20 ?_
    refine y_aload_n dX8_takeBack_23 rfl rfl ?_
    refine y_ckP (fun hc7 => ?_)
    refine y_getI fX8_25 hc7 rfl dX8_takeBack_24 ?_
    refine yk_iadd dX8_takeBack_27 ?_
    refine y_bipush dX8_takeBack_28 (by decide) (by decide) ?_
    refine yk_irem dX8_takeBack_30 ?_
    refine yn_istore_n dX8_takeBack_31 rfl (Nat.le_of_ble_eq_true rfl) (L' := fun z8 => [some (aR o), some (aR p1), some (aI z8)]) (fun _ => rfl) (fun z8 => ?_)
    refine y_aload_n dX8_takeBack_32 rfl rfl ?_
    refine y_ckP (fun hc9 => ?_)
    refine yb_getR fX8_11 hc9 rfl dX8_takeBack_33 (fun t10 ht10 => ?_)
    refine y_iload_n dX8_takeBack_36 rfl rfl ?_
    refine y_ckP (fun hc11 => ?_)
    refine yk_aaload (by decide) hc11 (N := ((K.2.1 t10).2 : Int)) rfl dX8_takeBack_37 ?_
    refine y_ifnull dX8_takeBack_38 (t := 51) rfl (fun ht12 => ?_) (fun t12 ht12 => ?_)
    · refine y_aload_n dX8_takeBack_51 rfl rfl ?_
      refine y_ckP (fun hc13 => ?_)
      refine yb_getR fX8_17 hc13 rfl dX8_takeBack_52 (fun t14 ht14 => ?_)
      refine y_iload_n dX8_takeBack_55 rfl rfl ?_
      refine y_ckP (fun hc15 => ?_)
      refine yk_iaload hc15 (N := ((K.2.1 t14).2 : Int)) rfl (j := z8.toNat) rfl dX8_takeBack_56 ?_
      exact y_iret rfl rfl dX8_takeBack_57
    · refine y_aload_n dX8_takeBack_41 rfl rfl ?_
      refine y_aload_n dX8_takeBack_42 rfl rfl ?_
      refine y_ckP (fun hc16 => ?_)
      refine yb_getR fX8_11 hc16 rfl dX8_takeBack_43 (fun t17 ht17 => ?_)
      refine y_iload_n dX8_takeBack_46 rfl rfl ?_
      refine y_ckP (fun hc18 => ?_)
      refine yk_aaload (by decide) hc18 (N := ((K.2.1 t17).2 : Int)) rfl dX8_takeBack_47 ?_
      refine y_nn (fun t19 ht19 => ?_)
      refine y_ckP (fun hp20 => ?_)
      refine y_ckP (fun hp21 => ?_)
      refine y_ckP (fun hc22 => ?_)
      refine y_cvV (qX1_copyFrom hp20 hp21 σ5) kX8_35 rfl hc22 rfl (by decide) rfl (Nat.le_of_ble_eq_true rfl) dX8_takeBack_48 (fun σ23 => ?_)
      refine y_aload_n dX8_takeBack_51 rfl rfl ?_
      refine y_ckP (fun hc24 => ?_)
      refine yb_getR fX8_17 hc24 rfl dX8_takeBack_52 (fun t25 ht25 => ?_)
      refine y_iload_n dX8_takeBack_55 rfl rfl ?_
      refine y_ckP (fun hc26 => ?_)
      refine yk_iaload hc26 (N := ((K.2.1 t25).2 : Int)) rfl (j := z8.toNat) rfl dX8_takeBack_56 ?_
      exact y_iret rfl rfl dX8_takeBack_57
  · refine y_if_gt_f dX8_takeBack_4 (t := 9) rfl h2 ?_
    refine y_iconst dX8_takeBack_7 (by decide) ?_
    exact y_iret rfl rfl dX8_takeBack_8
theorem qX8_takeBack {K : Kt} (o : Nat) (p1 : Nat) (σ : Sg) : Cc MX8_takeBack K [aR o, aR p1] σ (emIS K) (vX8_takeBack K o p1 σ) := cc_of plX8 (Nat.le_of_ble_eq_true rfl) (fun o _ => ⟨Nat.le_refl _, Nat.le_refl _⟩) (fun Γ => tX8_takeBack o p1 σ)
