noncomputable def vX0_fillCost_28 (K : Kt) (rec_3 : Int → Int → Sg → Option (Sg)) : Nat → Int → Int → Int → Sg → Option (Sg)
  | 0, _, _, _, _ => none
  | f + 1, x1, x2, x3, σ => if x3 < (σ 13 1) then ((vX1_fits K 13 x2 x3 σ).bind (fun r2 => if r2 = 0 then (ck (in32 (x3 + 1)) (vX0_fillCost_28 K rec_3 f x1 x2 (x3 + 1) σ)) else (ck (0 ≤ x3 ∧ x3 < 8) (ck (0 ≤ (bOr x2 (σ 16 x3.toNat)) ∧ (bOr x2 (σ 16 x3.toNat)) < 64) ((vX0_costOf K x3 σ).bind (fun r4 => ck (in32 ((σ 75 (bOr x2 (σ 16 x3.toNat)).toNat) + r4)) (nm ((σ 75 (bOr x2 (σ 16 x3.toNat)).toNat) + r4) (fun z5 => ck (0 ≤ x2 ∧ x2 < 64) (ck (0 ≤ x2 ∧ x2 < 64) (nm (up2 σ 75 x2.toNat (imin (σ 75 x2.toNat) z5)) (fun σ6 => ck (in32 (x3 + 1)) (vX0_fillCost_28 K rec_3 f x1 x2 (x3 + 1) σ6)))))))))))) else (ck (in32 (x2 + (-1))) (rec_3 x1 (x2 + (-1)) σ))
set_option maxRecDepth 100000 in
set_option maxHeartbeats 4000000 in
theorem tX0_fillCost_28 {Γ : Gx} {K : Kt} (hC : cLay K) (rec_3 : Int → Int → Sg → Option (Sg)) (hrec_3 : ∀ (x1 : Int) (x2 : Int) (σ : Sg), Y Γ MX0_fillCost K (emV K) K 3 [some (aR 73), some (aI x1), some (aI x2), none, none] [] σ (rec_3 x1 x2 σ)) : ∀ (f : Nat) (x1 : Int) (x2 : Int) (x3 : Int) (σ : Sg), Y Γ MX0_fillCost K (emV K) K 28 [some (aR 73), some (aI x1), some (aI x2), some (aI x3), none] [] σ (vX0_fillCost_28 K rec_3 f x1 x2 x3 σ) := by
  intro f
  induction f with
  | zero => intro x1 x2 x3 σ; exact y_none
  | succ f ih =>
    intro x1 x2 x3 σ
    rw [vX0_fillCost_28]
    refine y_iload_n dX0_fillCost_28 rfl rfl ?_
    refine y_aload_n dX0_fillCost_29 rfl rfl ?_
    refine y_getR fX0_35 (lcO_73 hC) rfl (lcR_73_0 hC) dX0_fillCost_30 ?_
    refine y_getI fX0_39 (lcO_13 hC) rfl dX0_fillCost_33 ?_
    refine y_ite (fun h1 => ?_) (fun h1 => ?_)
    · refine y_icmp_ge_f dX0_fillCost_36 (t := 98) rfl h1 ?_
      refine y_aload_n dX0_fillCost_39 rfl rfl ?_
      refine y_getR fX0_35 (lcO_73 hC) rfl (lcR_73_0 hC) dX0_fillCost_40 ?_
      refine y_iload_n dX0_fillCost_43 rfl rfl ?_
      refine y_iload_n dX0_fillCost_44 rfl rfl ?_
      refine y_cvI (qX1_fits (hPre_13 hC) x2 x3 σ) kX0_85 rfl (lcO_13 hC) rfl (by decide) rfl (Nat.le_of_ble_eq_true rfl) dX0_fillCost_45 (fun r2 => ?_)
      refine y_ite (fun h3 => ?_) (fun h3 => ?_)
      · refine y_if_eq_t dX0_fillCost_48 (t := 92) rfl h3 ?_
        refine yk_iinc dX0_fillCost_92 rfl (L' := [some (aR 73), some (aI x1), some (aI x2), some (aI (x3 + 1)), none]) rfl ?_
        refine y_goto dX0_fillCost_95 (t := 28) rfl ?_
        exact ih x1 x2 (x3 + 1) σ
      · refine y_if_eq_f dX0_fillCost_48 (t := 92) rfl h3 ?_
        refine y_aload_n dX0_fillCost_51 rfl rfl ?_
        refine y_getR fX0_15 (lcO_73 hC) rfl (lcR_73_2 hC) dX0_fillCost_52 ?_
        refine y_iload_n dX0_fillCost_55 rfl rfl ?_
        refine y_aload_n dX0_fillCost_56 rfl rfl ?_
        refine y_getR fX0_35 (lcO_73 hC) rfl (lcR_73_0 hC) dX0_fillCost_57 ?_
        refine y_getR fX0_79 (lcO_13 hC) rfl (lcR_13_6 hC) dX0_fillCost_60 ?_
        refine y_iload_n dX0_fillCost_63 rfl rfl ?_
        refine yk_iaload (lcA_16 hC) (N := 8) rfl (j := x3.toNat) rfl dX0_fillCost_64 ?_
        refine y_ior dX0_fillCost_65 ?_
        refine yk_iaload (lcA_75 hC) (N := 64) rfl (j := (bOr x2 (σ 16 x3.toNat)).toNat) rfl dX0_fillCost_66 ?_
        refine y_aload_n dX0_fillCost_67 rfl rfl ?_
        refine y_iload_n dX0_fillCost_68 rfl rfl ?_
        refine y_cvI (qX0_costOf hC x3 σ) kX0_88 rfl (lcO_73 hC) rfl (by decide) rfl (Nat.le_of_ble_eq_true rfl) dX0_fillCost_69 (fun r4 => ?_)
        refine yk_iadd dX0_fillCost_72 ?_
        refine yn_istore dX0_fillCost_73 (Nat.le_of_ble_eq_true rfl) (L' := fun z5 => [some (aR 73), some (aI x1), some (aI x2), some (aI x3), some (aI z5)]) (fun _ => rfl) (fun z5 => ?_)
        refine y_aload_n dX0_fillCost_75 rfl rfl ?_
        refine y_getR fX0_15 (lcO_73 hC) rfl (lcR_73_2 hC) dX0_fillCost_76 ?_
        refine y_iload_n dX0_fillCost_79 rfl rfl ?_
        refine y_aload_n dX0_fillCost_80 rfl rfl ?_
        refine y_getR fX0_15 (lcO_73 hC) rfl (lcR_73_2 hC) dX0_fillCost_81 ?_
        refine y_iload_n dX0_fillCost_84 rfl rfl ?_
        refine yk_iaload (lcA_75 hC) (N := 64) rfl (j := x2.toNat) rfl dX0_fillCost_85 ?_
        refine y_iload dX0_fillCost_86 rfl ?_
        refine y_imin mX0_66 (by decide) (Nat.le_of_ble_eq_true rfl) dX0_fillCost_88 ?_
        refine yk_iastore (lcA_75 hC) (N := 64) rfl (j := x2.toNat) rfl dX0_fillCost_91 (fun σ6 => ?_)
        refine yk_iinc dX0_fillCost_92 rfl (L' := [some (aR 73), some (aI x1), some (aI x2), some (aI (x3 + 1)), some (aI z5)]) rfl ?_
        refine y_goto dX0_fillCost_95 (t := 28) rfl ?_
        refine y_fg [true, true, true, true, false] (L' := [some (aR 73), some (aI x1), some (aI x2), some (aI (x3 + 1)), none]) rfl ?_
        exact ih x1 x2 (x3 + 1) σ6
    · refine y_icmp_ge_t dX0_fillCost_36 (t := 98) rfl h1 ?_
      refine yk_iinc dX0_fillCost_98 rfl (L' := [some (aR 73), some (aI x1), some (aI (x2 + (-1))), some (aI x3), none]) rfl ?_
      refine y_goto dX0_fillCost_101 (t := 3) rfl ?_
      refine y_fg [true, true, true, false, false] (L' := [some (aR 73), some (aI x1), some (aI (x2 + (-1))), none, none]) rfl ?_
      exact hrec_3 x1 (x2 + (-1)) σ
noncomputable def vX0_fillCost_25 (K : Kt) (rec_3 : Int → Int → Sg → Option (Sg)) (x1 : Int) (x2 : Int) (y1 : Int) (y2 : Int) (σ : Sg) : Option (Sg) := ck (0 ≤ y1 ∧ y1 < 64) (nm (up2 σ 75 y1.toNat y2) (fun σ1 => vX0_fillCost_28 K rec_3 FU x1 x2 0 σ1))
set_option maxRecDepth 100000 in
set_option maxHeartbeats 4000000 in
theorem tX0_fillCost_25 {Γ : Gx} {K : Kt} (hC : cLay K) (rec_3 : Int → Int → Sg → Option (Sg)) (hrec_3 : ∀ (x1 : Int) (x2 : Int) (σ : Sg), Y Γ MX0_fillCost K (emV K) K 3 [some (aR 73), some (aI x1), some (aI x2), none, none] [] σ (rec_3 x1 x2 σ)) (x1 : Int) (x2 : Int) (y1 : Int) (y2 : Int) (σ : Sg) : Y Γ MX0_fillCost K (emV K) K 25 [some (aR 73), some (aI x1), some (aI x2), none, none] [aI y2, aI y1, aR 75] σ (vX0_fillCost_25 K rec_3 x1 x2 y1 y2 σ) := by
  unfold vX0_fillCost_25
  refine yk_iastore (lcA_75 hC) (N := 64) rfl (j := y1.toNat) rfl dX0_fillCost_25 (fun σ1 => ?_)
  refine y_iconst dX0_fillCost_26 (by decide) ?_
  refine y_istore_n dX0_fillCost_27 rfl (Nat.le_of_ble_eq_true rfl) (L' := [some (aR 73), some (aI x1), some (aI x2), some (aI 0), none]) rfl ?_
  exact tX0_fillCost_28 hC rec_3 hrec_3 FU x1 x2 0 σ1
noncomputable def vX0_fillCost_3 (K : Kt) : Nat → Int → Int → Sg → Option (Sg)
  | 0, _, _, _ => none
  | f + 1, x1, x2, σ => if x2 < 0 then (some σ) else (if (bAnd x2 x1) = x1 then (vX0_fillCost_25 K (vX0_fillCost_3 K f) x1 x2 x2 0 σ) else (vX0_fillCost_25 K (vX0_fillCost_3 K f) x1 x2 x2 1000000 σ))
set_option maxRecDepth 100000 in
set_option maxHeartbeats 4000000 in
theorem tX0_fillCost_3 {Γ : Gx} {K : Kt} (hC : cLay K) : ∀ (f : Nat) (x1 : Int) (x2 : Int) (σ : Sg), Y Γ MX0_fillCost K (emV K) K 3 [some (aR 73), some (aI x1), some (aI x2), none, none] [] σ (vX0_fillCost_3 K f x1 x2 σ) := by
  intro f
  induction f with
  | zero => intro x1 x2 σ; exact y_none
  | succ f ih =>
    intro x1 x2 σ
    rw [vX0_fillCost_3]
    refine y_iload_n dX0_fillCost_3 rfl rfl ?_
    refine y_ite (fun h1 => ?_) (fun h1 => ?_)
    · refine y_if_lt_t dX0_fillCost_4 (t := 104) rfl h1 ?_
      exact y_vret rfl rfl dX0_fillCost_104
    · refine y_if_lt_f dX0_fillCost_4 (t := 104) rfl h1 ?_
      refine y_aload_n dX0_fillCost_7 rfl rfl ?_
      refine y_getR fX0_15 (lcO_73 hC) rfl (lcR_73_2 hC) dX0_fillCost_8 ?_
      refine y_iload_n dX0_fillCost_11 rfl rfl ?_
      refine y_iload_n dX0_fillCost_12 rfl rfl ?_
      refine y_iload_n dX0_fillCost_13 rfl rfl ?_
      refine y_iand dX0_fillCost_14 ?_
      refine y_iload_n dX0_fillCost_15 rfl rfl ?_
      refine y_ite (fun h2 => ?_) (fun h2 => ?_)
      · refine y_icmp_ne_f dX0_fillCost_16 (t := 23) rfl h2 ?_
        refine y_iconst dX0_fillCost_19 (by decide) ?_
        refine y_goto dX0_fillCost_20 (t := 25) rfl ?_
        exact tX0_fillCost_25 hC (vX0_fillCost_3 K f) ih x1 x2 x2 0 σ
      · refine y_icmp_ne_t dX0_fillCost_16 (t := 23) rfl h2 ?_
        refine y_ldc 1000000 wX0_c75 dX0_fillCost_23 (by decide) (by decide) ?_
        exact tX0_fillCost_25 hC (vX0_fillCost_3 K f) ih x1 x2 x2 1000000 σ
noncomputable def vX0_fillCost (K : Kt) (p1 : Int) (σ : Sg) : Option (Sg) := vX0_fillCost_3 K FU p1 63 σ
set_option maxRecDepth 100000 in
set_option maxHeartbeats 4000000 in
theorem tX0_fillCost {Γ : Gx} {K : Kt} (hC : cLay K) (p1 : Int) (σ : Sg) : Y Γ MX0_fillCost K (emV K) K 0 [some (aR 73), some (aI p1), none, none, none] [] σ (vX0_fillCost K p1 σ) := by
  unfold vX0_fillCost
  refine y_bipush dX0_fillCost_0 (by decide) (by decide) ?_
  refine y_istore_n dX0_fillCost_2 rfl (Nat.le_of_ble_eq_true rfl) (L' := [some (aR 73), some (aI p1), some (aI 63), none, none]) rfl ?_
  exact tX0_fillCost_3 hC FU p1 63 σ
theorem qX0_fillCost {K : Kt} (hC : cLay K) (p1 : Int) (σ : Sg) : Cc MX0_fillCost K [aR 73, aI p1] σ (emV K) (vX0_fillCost K p1 σ) := cc_of plX0 (Nat.le_of_ble_eq_true rfl) (fun o _ => ⟨Nat.le_refl _, Nat.le_refl _⟩) (fun Γ => tX0_fillCost hC p1 σ)
noncomputable def vX0_nextOnWay_13 (K : Kt) (σ : Sg) : Nat → Int → Int → Option (Int)
  | 0, _, _ => none
  | f + 1, x1, x2 => if x2 < (σ 13 1) then ((vX1_fits K 13 x1 x2 σ).bind (fun r2 => if r2 = 0 then (ck (in32 (x2 + 1)) (vX0_nextOnWay_13 K σ f x1 (x2 + 1))) else (ck (0 ≤ x2 ∧ x2 < 8) (ck (0 ≤ (bOr x1 (σ 16 x2.toNat)) ∧ (bOr x1 (σ 16 x2.toNat)) < 64) ((vX0_costOf K x2 σ).bind (fun r4 => ck (in32 ((σ 75 (bOr x1 (σ 16 x2.toNat)).toNat) + r4)) (ck (0 ≤ x1 ∧ x1 < 64) (if ((σ 75 (bOr x1 (σ 16 x2.toNat)).toNat) + r4) = (σ 75 x1.toNat) then (some x2) else (ck (in32 (x2 + 1)) (vX0_nextOnWay_13 K σ f x1 (x2 + 1))))))))))) else (some (-1))
set_option maxRecDepth 100000 in
set_option maxHeartbeats 4000000 in
theorem tX0_nextOnWay_13 {Γ : Gx} {K : Kt} (hC : cLay K) (σ : Sg) : ∀ (f : Nat) (x1 : Int) (x2 : Int), Y Γ MX0_nextOnWay K (emI K σ) K 13 [some (aR 73), some (aI x1), some (aI x2)] [] σ (vX0_nextOnWay_13 K σ f x1 x2) := by
  intro f
  induction f with
  | zero => intro x1 x2; exact y_none
  | succ f ih =>
    intro x1 x2
    rw [vX0_nextOnWay_13]
    refine y_iload_n dX0_nextOnWay_13 rfl rfl ?_
    refine y_aload_n dX0_nextOnWay_14 rfl rfl ?_
    refine y_getR fX0_35 (lcO_73 hC) rfl (lcR_73_0 hC) dX0_nextOnWay_15 ?_
    refine y_getI fX0_39 (lcO_13 hC) rfl dX0_nextOnWay_18 ?_
    refine y_ite (fun h1 => ?_) (fun h1 => ?_)
    · refine y_icmp_ge_f dX0_nextOnWay_21 (t := 75) rfl h1 ?_
      refine y_aload_n dX0_nextOnWay_24 rfl rfl ?_
      refine y_getR fX0_35 (lcO_73 hC) rfl (lcR_73_0 hC) dX0_nextOnWay_25 ?_
      refine y_iload_n dX0_nextOnWay_28 rfl rfl ?_
      refine y_iload_n dX0_nextOnWay_29 rfl rfl ?_
      refine y_cvI (qX1_fits (hPre_13 hC) x1 x2 σ) kX0_85 rfl (lcO_13 hC) rfl (by decide) rfl (Nat.le_of_ble_eq_true rfl) dX0_nextOnWay_30 (fun r2 => ?_)
      refine y_ite (fun h3 => ?_) (fun h3 => ?_)
      · refine y_if_eq_t dX0_nextOnWay_33 (t := 69) rfl h3 ?_
        refine yk_iinc dX0_nextOnWay_69 rfl (L' := [some (aR 73), some (aI x1), some (aI (x2 + 1))]) rfl ?_
        refine y_goto dX0_nextOnWay_72 (t := 13) rfl ?_
        exact ih x1 (x2 + 1)
      · refine y_if_eq_f dX0_nextOnWay_33 (t := 69) rfl h3 ?_
        refine y_aload_n dX0_nextOnWay_36 rfl rfl ?_
        refine y_getR fX0_15 (lcO_73 hC) rfl (lcR_73_2 hC) dX0_nextOnWay_37 ?_
        refine y_iload_n dX0_nextOnWay_40 rfl rfl ?_
        refine y_aload_n dX0_nextOnWay_41 rfl rfl ?_
        refine y_getR fX0_35 (lcO_73 hC) rfl (lcR_73_0 hC) dX0_nextOnWay_42 ?_
        refine y_getR fX0_79 (lcO_13 hC) rfl (lcR_13_6 hC) dX0_nextOnWay_45 ?_
        refine y_iload_n dX0_nextOnWay_48 rfl rfl ?_
        refine yk_iaload (lcA_16 hC) (N := 8) rfl (j := x2.toNat) rfl dX0_nextOnWay_49 ?_
        refine y_ior dX0_nextOnWay_50 ?_
        refine yk_iaload (lcA_75 hC) (N := 64) rfl (j := (bOr x1 (σ 16 x2.toNat)).toNat) rfl dX0_nextOnWay_51 ?_
        refine y_aload_n dX0_nextOnWay_52 rfl rfl ?_
        refine y_iload_n dX0_nextOnWay_53 rfl rfl ?_
        refine y_cvI (qX0_costOf hC x2 σ) kX0_88 rfl (lcO_73 hC) rfl (by decide) rfl (Nat.le_of_ble_eq_true rfl) dX0_nextOnWay_54 (fun r4 => ?_)
        refine yk_iadd dX0_nextOnWay_57 ?_
        refine y_aload_n dX0_nextOnWay_58 rfl rfl ?_
        refine y_getR fX0_15 (lcO_73 hC) rfl (lcR_73_2 hC) dX0_nextOnWay_59 ?_
        refine y_iload_n dX0_nextOnWay_62 rfl rfl ?_
        refine yk_iaload (lcA_75 hC) (N := 64) rfl (j := x1.toNat) rfl dX0_nextOnWay_63 ?_
        refine y_ite (fun h5 => ?_) (fun h5 => ?_)
        · refine y_icmp_ne_f dX0_nextOnWay_64 (t := 69) rfl h5 ?_
          refine y_iload_n dX0_nextOnWay_67 rfl rfl ?_
          exact y_iret rfl rfl dX0_nextOnWay_68
        · refine y_icmp_ne_t dX0_nextOnWay_64 (t := 69) rfl h5 ?_
          refine yk_iinc dX0_nextOnWay_69 rfl (L' := [some (aR 73), some (aI x1), some (aI (x2 + 1))]) rfl ?_
          refine y_goto dX0_nextOnWay_72 (t := 13) rfl ?_
          exact ih x1 (x2 + 1)
    · refine y_icmp_ge_t dX0_nextOnWay_21 (t := 75) rfl h1 ?_
      refine y_iconst dX0_nextOnWay_75 (by decide) ?_
      exact y_iret rfl rfl dX0_nextOnWay_76
noncomputable def vX0_nextOnWay (K : Kt) (p1 : Int) (σ : Sg) : Option (Int) := ck (0 ≤ p1 ∧ p1 < 64) (if (σ 75 p1.toNat) = 0 then (some (-1)) else (vX0_nextOnWay_13 K σ FU p1 0))
set_option maxRecDepth 100000 in
set_option maxHeartbeats 4000000 in
theorem tX0_nextOnWay {Γ : Gx} {K : Kt} (hC : cLay K) (p1 : Int) (σ : Sg) : Y Γ MX0_nextOnWay K (emI K σ) K 0 [some (aR 73), some (aI p1), none] [] σ (vX0_nextOnWay K p1 σ) := by
  unfold vX0_nextOnWay
  refine y_aload_n dX0_nextOnWay_0 rfl rfl ?_
  refine y_getR fX0_15 (lcO_73 hC) rfl (lcR_73_2 hC) dX0_nextOnWay_1 ?_
  refine y_iload_n dX0_nextOnWay_4 rfl rfl ?_
  refine yk_iaload (lcA_75 hC) (N := 64) rfl (j := p1.toNat) rfl dX0_nextOnWay_5 ?_
  refine y_ite (fun h1 => ?_) (fun h1 => ?_)
  · refine y_if_ne_f dX0_nextOnWay_6 (t := 11) rfl h1 ?_
    refine y_iconst dX0_nextOnWay_9 (by decide) ?_
    exact y_iret rfl rfl dX0_nextOnWay_10
  · refine y_if_ne_t dX0_nextOnWay_6 (t := 11) rfl h1 ?_
    refine y_iconst dX0_nextOnWay_11 (by decide) ?_
    refine y_istore_n dX0_nextOnWay_12 rfl (Nat.le_of_ble_eq_true rfl) (L' := [some (aR 73), some (aI p1), some (aI 0)]) rfl ?_
    exact tX0_nextOnWay_13 hC σ FU p1 0
theorem qX0_nextOnWay {K : Kt} (hC : cLay K) (p1 : Int) (σ : Sg) : Cc MX0_nextOnWay K [aR 73, aI p1] σ (emI K σ) (vX0_nextOnWay K p1 σ) := cc_of plX0 (Nat.le_of_ble_eq_true rfl) (fun o _ => ⟨Nat.le_refl _, Nat.le_refl _⟩) (fun Γ => tX0_nextOnWay hC p1 σ)
noncomputable def vX0_quickest_39 (K : Kt) : Nat → Int → Int → Int → Sg → Option (Int × Sg)
  | 0, _, _, _, _ => none
  | f + 1, x3, x4, x5, σ => if x5 < 8 then ((vX0_nextOnWay K x4 σ).bind (fun r2 => if r2 = (-1) then (some (r2, σ)) else (if x5 = x3 then (some (r2, σ)) else (ck (0 ≤ r2 ∧ r2 < 8) (nm (bOr x4 (σ 16 r2.toNat)) (fun z5 => ck (in32 (x5 + 1)) (vX0_quickest_39 K f x3 z5 (x5 + 1) σ))))))) else (some ((-1), σ))
set_option maxRecDepth 100000 in
set_option maxHeartbeats 4000000 in
theorem tX0_quickest_39 {Γ : Gx} {K : Kt} (hC : cLay K) : ∀ (f : Nat) (x3 : Int) (x4 : Int) (x5 : Int) (σ : Sg), Y Γ MX0_quickest K (emIS K) K 39 [some (aR 73), none, none, some (aI x3), some (aI x4), some (aI x5), none] [] σ (vX0_quickest_39 K f x3 x4 x5 σ) := by
  intro f
  induction f with
  | zero => intro x3 x4 x5 σ; exact y_none
  | succ f ih =>
    intro x3 x4 x5 σ
    rw [vX0_quickest_39]
    refine y_iload dX0_quickest_39 rfl ?_
    refine y_bipush dX0_quickest_41 (by decide) (by decide) ?_
    refine y_ite (fun h1 => ?_) (fun h1 => ?_)
    · refine y_icmp_ge_f dX0_quickest_43 (t := 90) rfl h1 ?_
      refine y_aload_n dX0_quickest_46 rfl rfl ?_
      refine y_iload dX0_quickest_47 rfl ?_
      refine y_cvI (qX0_nextOnWay hC x4 σ) kX0_76 rfl (lcO_73 hC) rfl (by decide) rfl (Nat.le_of_ble_eq_true rfl) dX0_quickest_49 (fun r2 => ?_)
      refine y_istore dX0_quickest_52 (Nat.le_of_ble_eq_true rfl) (L' := [some (aR 73), none, none, some (aI x3), some (aI x4), some (aI x5), some (aI r2)]) rfl ?_
      refine y_iload dX0_quickest_54 rfl ?_
      refine y_iconst dX0_quickest_56 (by decide) ?_
      refine y_ite (fun h3 => ?_) (fun h3 => ?_)
      · refine y_icmp_eq_t dX0_quickest_57 (t := 66) rfl h3 ?_
        refine y_iload dX0_quickest_66 rfl ?_
        exact y_iret rfl rfl dX0_quickest_68
      · refine y_icmp_eq_f dX0_quickest_57 (t := 66) rfl h3 ?_
        refine y_iload dX0_quickest_60 rfl ?_
        refine y_iload_n dX0_quickest_62 rfl rfl ?_
        refine y_ite (fun h4 => ?_) (fun h4 => ?_)
        · refine y_icmp_ne_f dX0_quickest_63 (t := 69) rfl h4 ?_
          refine y_iload dX0_quickest_66 rfl ?_
          exact y_iret rfl rfl dX0_quickest_68
        · refine y_icmp_ne_t dX0_quickest_63 (t := 69) rfl h4 ?_
          refine y_iload dX0_quickest_69 rfl ?_
          refine y_aload_n dX0_quickest_71 rfl rfl ?_
          refine y_getR fX0_35 (lcO_73 hC) rfl (lcR_73_0 hC) dX0_quickest_72 ?_
          refine y_getR fX0_79 (lcO_13 hC) rfl (lcR_13_6 hC) dX0_quickest_75 ?_
          refine y_iload dX0_quickest_78 rfl ?_
          refine yk_iaload (lcA_16 hC) (N := 8) rfl (j := r2.toNat) rfl dX0_quickest_80 ?_
          refine y_ior dX0_quickest_81 ?_
          refine yn_istore dX0_quickest_82 (Nat.le_of_ble_eq_true rfl) (L' := fun z5 => [some (aR 73), none, none, some (aI x3), some (aI z5), some (aI x5), some (aI r2)]) (fun _ => rfl) (fun z5 => ?_)
          refine yk_iinc dX0_quickest_84 rfl (L' := [some (aR 73), none, none, some (aI x3), some (aI z5), some (aI (x5 + 1)), some (aI r2)]) rfl ?_
          refine y_goto dX0_quickest_87 (t := 39) rfl ?_
          refine y_fg [true, false, false, true, true, true, false] (L' := [some (aR 73), none, none, some (aI x3), some (aI z5), some (aI (x5 + 1)), none]) rfl ?_
          exact ih x3 z5 (x5 + 1) σ
    · refine y_icmp_ge_t dX0_quickest_43 (t := 90) rfl h1 ?_
      refine y_iconst dX0_quickest_90 (by decide) ?_
      exact y_iret rfl rfl dX0_quickest_91
noncomputable def vX0_quickest (K : Kt) (p1 : Int) (p2 : Int) (p3 : Int) (σ : Sg) : Option (Int × Sg) := (vX0_fillCost K p2 σ).bind (fun σ1 => ck (0 ≤ p1 ∧ p1 < 64) (if (σ1 75 p1.toNat) < 1000000 then (if p3 = (-1) then (ck (0 ≤ p1 ∧ p1 < 64) (ck (¬ (16 : Int) = 0 ∧ in32 (Int.tdiv (σ1 75 p1.toNat) 16)) (some ((Int.tdiv (σ1 75 p1.toNat) 16), σ1)))) else (vX0_quickest_39 K FU p3 p1 0 σ1)) else (some ((-1), σ1))))
set_option maxRecDepth 100000 in
set_option maxHeartbeats 4000000 in
theorem tX0_quickest {Γ : Gx} {K : Kt} (hC : cLay K) (p1 : Int) (p2 : Int) (p3 : Int) (σ : Sg) : Y Γ MX0_quickest K (emIS K) K 0 [some (aR 73), some (aI p1), some (aI p2), some (aI p3), none, none, none] [] σ (vX0_quickest K p1 p2 p3 σ) := by
  unfold vX0_quickest
  refine y_aload_n dX0_quickest_0 rfl rfl ?_
  refine y_iload_n dX0_quickest_1 rfl rfl ?_
  refine y_cvV (qX0_fillCost hC p2 σ) kX0_71 rfl (lcO_73 hC) rfl (by decide) rfl (Nat.le_of_ble_eq_true rfl) dX0_quickest_2 (fun σ1 => ?_)
  refine y_aload_n dX0_quickest_5 rfl rfl ?_
  refine y_getR fX0_15 (lcO_73 hC) rfl (lcR_73_2 hC) dX0_quickest_6 ?_
  refine y_iload_n dX0_quickest_9 rfl rfl ?_
  refine yk_iaload (lcA_75 hC) (N := 64) rfl (j := p1.toNat) rfl dX0_quickest_10 ?_
  refine y_ldc 1000000 wX0_c75 dX0_quickest_11 (by decide) (by decide) ?_
  refine y_ite (fun h2 => ?_) (fun h2 => ?_)
  · refine y_icmp_lt_t dX0_quickest_13 (t := 18) rfl h2 ?_
    refine y_iload_n dX0_quickest_18 rfl rfl ?_
    refine y_iconst dX0_quickest_19 (by decide) ?_
    refine y_ite (fun h3 => ?_) (fun h3 => ?_)
    · refine y_icmp_ne_f dX0_quickest_20 (t := 33) rfl h3 ?_
      refine y_aload_n dX0_quickest_23 rfl rfl ?_
      refine y_getR fX0_15 (lcO_73 hC) rfl (lcR_73_2 hC) dX0_quickest_24 ?_
      refine y_iload_n dX0_quickest_27 rfl rfl ?_
      refine yk_iaload (lcA_75 hC) (N := 64) rfl (j := p1.toNat) rfl dX0_quickest_28 ?_
      refine y_bipush dX0_quickest_29 (by decide) (by decide) ?_
      refine yk_idiv dX0_quickest_31 ?_
      exact y_iret rfl rfl dX0_quickest_32
    · refine y_icmp_ne_t dX0_quickest_20 (t := 33) rfl h3 ?_
      refine y_iload_n dX0_quickest_33 rfl rfl ?_
      refine y_istore dX0_quickest_34 (Nat.le_of_ble_eq_true rfl) (L' := [some (aR 73), some (aI p1), some (aI p2), some (aI p3), some (aI p1), none, none]) rfl ?_
      refine y_iconst dX0_quickest_36 (by decide) ?_
      refine y_istore dX0_quickest_37 (Nat.le_of_ble_eq_true rfl) (L' := [some (aR 73), some (aI p1), some (aI p2), some (aI p3), some (aI p1), some (aI 0), none]) rfl ?_
      refine y_fg [true, false, false, true, true, true, false] (L' := [some (aR 73), none, none, some (aI p3), some (aI p1), some (aI 0), none]) rfl ?_
      exact tX0_quickest_39 hC FU p3 p1 0 σ1
  · refine y_icmp_lt_f dX0_quickest_13 (t := 18) rfl h2 ?_
    refine y_iconst dX0_quickest_16 (by decide) ?_
    exact y_iret rfl rfl dX0_quickest_17
theorem qX0_quickest {K : Kt} (hC : cLay K) (p1 : Int) (p2 : Int) (p3 : Int) (σ : Sg) : Cc MX0_quickest K [aR 73, aI p1, aI p2, aI p3] σ (emIS K) (vX0_quickest K p1 p2 p3 σ) := cc_of plX0 (Nat.le_of_ble_eq_true rfl) (fun o _ => ⟨Nat.le_refl _, Nat.le_refl _⟩) (fun Γ => tX0_quickest hC p1 p2 p3 σ)
noncomputable def vX0_lastIn_4 (K : Kt) (σ : Sg) : Nat → Int → Int → Int → Option (Int)
  | 0, _, _, _ => none
  | f + 1, x1, x2, x3 => if x3 < (σ 13 1) then (nm (bShl 1 x3) (fun z2 => if (bAnd x1 z2) = 0 then (ck (in32 (x3 + 1)) (vX0_lastIn_4 K σ f x1 x2 (x3 + 1))) else (ck (in32 (x1 - z2)) (ck (0 ≤ (x1 - z2) ∧ (x1 - z2) < 256) (if (σ 76 (x1 - z2).toNat) = 0 then (ck (in32 (x3 + 1)) (vX0_lastIn_4 K σ f x1 x2 (x3 + 1))) else (ck (in32 (x1 - z2)) (ck (0 ≤ (x1 - z2) ∧ (x1 - z2) < 256) ((vX1_fits K 13 (σ 78 (x1 - z2).toNat) x3 σ).bind (fun r5 => if r5 = 0 then (ck (in32 (x3 + 1)) (vX0_lastIn_4 K σ f x1 x2 (x3 + 1))) else (nm (bOr x2 z2) (fun z7 => ck (in32 (x3 + 1)) (vX0_lastIn_4 K σ f x1 z7 (x3 + 1))))))))))))) else (some x2)
set_option maxRecDepth 100000 in
set_option maxHeartbeats 4000000 in
theorem tX0_lastIn_4 {Γ : Gx} {K : Kt} (hC : cLay K) (σ : Sg) : ∀ (f : Nat) (x1 : Int) (x2 : Int) (x3 : Int), Y Γ MX0_lastIn K (emI K σ) K 4 [some (aR 73), some (aI x1), some (aI x2), some (aI x3), none] [] σ (vX0_lastIn_4 K σ f x1 x2 x3) := by
  intro f
  induction f with
  | zero => intro x1 x2 x3; exact y_none
  | succ f ih =>
    intro x1 x2 x3
    rw [vX0_lastIn_4]
    refine y_iload_n dX0_lastIn_4 rfl rfl ?_
    refine y_aload_n dX0_lastIn_5 rfl rfl ?_
    refine y_getR fX0_35 (lcO_73 hC) rfl (lcR_73_0 hC) dX0_lastIn_6 ?_
    refine y_getI fX0_39 (lcO_13 hC) rfl dX0_lastIn_9 ?_
    refine y_ite (fun h1 => ?_) (fun h1 => ?_)
    · refine y_icmp_ge_f dX0_lastIn_12 (t := 70) rfl h1 ?_
      refine y_iconst dX0_lastIn_15 (by decide) ?_
      refine y_iload_n dX0_lastIn_16 rfl rfl ?_
      refine y_ishl dX0_lastIn_17 ?_
      refine yn_istore dX0_lastIn_18 (Nat.le_of_ble_eq_true rfl) (L' := fun z2 => [some (aR 73), some (aI x1), some (aI x2), some (aI x3), some (aI z2)]) (fun _ => rfl) (fun z2 => ?_)
      refine y_iload_n dX0_lastIn_20 rfl rfl ?_
      refine y_iload dX0_lastIn_21 rfl ?_
      refine y_iand dX0_lastIn_23 ?_
      refine y_ite (fun h3 => ?_) (fun h3 => ?_)
      · refine y_if_eq_t dX0_lastIn_24 (t := 64) rfl h3 ?_
        refine yk_iinc dX0_lastIn_64 rfl (L' := [some (aR 73), some (aI x1), some (aI x2), some (aI (x3 + 1)), some (aI z2)]) rfl ?_
        refine y_goto dX0_lastIn_67 (t := 4) rfl ?_
        refine y_fg [true, true, true, true, false] (L' := [some (aR 73), some (aI x1), some (aI x2), some (aI (x3 + 1)), none]) rfl ?_
        exact ih x1 x2 (x3 + 1)
      · refine y_if_eq_f dX0_lastIn_24 (t := 64) rfl h3 ?_
        refine y_aload_n dX0_lastIn_27 rfl rfl ?_
        refine y_getR fX0_18 (lcO_73 hC) rfl (lcR_73_3 hC) dX0_lastIn_28 ?_
        refine y_iload_n dX0_lastIn_31 rfl rfl ?_
        refine y_iload dX0_lastIn_32 rfl ?_
        refine yk_isub dX0_lastIn_34 ?_
        refine yk_baload (lcA_76 hC) (N := 256) rfl (j := (x1 - z2).toNat) rfl dX0_lastIn_35 ?_
        refine y_ite (fun h4 => ?_) (fun h4 => ?_)
        · refine y_if_eq_t dX0_lastIn_36 (t := 64) rfl h4 ?_
          refine yk_iinc dX0_lastIn_64 rfl (L' := [some (aR 73), some (aI x1), some (aI x2), some (aI (x3 + 1)), some (aI z2)]) rfl ?_
          refine y_goto dX0_lastIn_67 (t := 4) rfl ?_
          refine y_fg [true, true, true, true, false] (L' := [some (aR 73), some (aI x1), some (aI x2), some (aI (x3 + 1)), none]) rfl ?_
          exact ih x1 x2 (x3 + 1)
        · refine y_if_eq_f dX0_lastIn_36 (t := 64) rfl h4 ?_
          refine y_aload_n dX0_lastIn_39 rfl rfl ?_
          refine y_getR fX0_35 (lcO_73 hC) rfl (lcR_73_0 hC) dX0_lastIn_40 ?_
          refine y_aload_n dX0_lastIn_43 rfl rfl ?_
          refine y_getR fX0_25 (lcO_73 hC) rfl (lcR_73_5 hC) dX0_lastIn_44 ?_
          refine y_iload_n dX0_lastIn_47 rfl rfl ?_
          refine y_iload dX0_lastIn_48 rfl ?_
          refine yk_isub dX0_lastIn_50 ?_
          refine yk_iaload (lcA_78 hC) (N := 256) rfl (j := (x1 - z2).toNat) rfl dX0_lastIn_51 ?_
          refine y_iload_n dX0_lastIn_52 rfl rfl ?_
          refine y_cvI (qX1_fits (hPre_13 hC) (σ 78 (x1 - z2).toNat) x3 σ) kX0_85 rfl (lcO_13 hC) rfl (by decide) rfl (Nat.le_of_ble_eq_true rfl) dX0_lastIn_53 (fun r5 => ?_)
          refine y_ite (fun h6 => ?_) (fun h6 => ?_)
          · refine y_if_eq_t dX0_lastIn_56 (t := 64) rfl h6 ?_
            refine yk_iinc dX0_lastIn_64 rfl (L' := [some (aR 73), some (aI x1), some (aI x2), some (aI (x3 + 1)), some (aI z2)]) rfl ?_
            refine y_goto dX0_lastIn_67 (t := 4) rfl ?_
            refine y_fg [true, true, true, true, false] (L' := [some (aR 73), some (aI x1), some (aI x2), some (aI (x3 + 1)), none]) rfl ?_
            exact ih x1 x2 (x3 + 1)
          · refine y_if_eq_f dX0_lastIn_56 (t := 64) rfl h6 ?_
            refine y_iload_n dX0_lastIn_59 rfl rfl ?_
            refine y_iload dX0_lastIn_60 rfl ?_
            refine y_ior dX0_lastIn_62 ?_
            refine yn_istore_n dX0_lastIn_63 rfl (Nat.le_of_ble_eq_true rfl) (L' := fun z7 => [some (aR 73), some (aI x1), some (aI z7), some (aI x3), some (aI z2)]) (fun _ => rfl) (fun z7 => ?_)
            refine yk_iinc dX0_lastIn_64 rfl (L' := [some (aR 73), some (aI x1), some (aI z7), some (aI (x3 + 1)), some (aI z2)]) rfl ?_
            refine y_goto dX0_lastIn_67 (t := 4) rfl ?_
            refine y_fg [true, true, true, true, false] (L' := [some (aR 73), some (aI x1), some (aI z7), some (aI (x3 + 1)), none]) rfl ?_
            exact ih x1 z7 (x3 + 1)
    · refine y_icmp_ge_t dX0_lastIn_12 (t := 70) rfl h1 ?_
      refine y_iload_n dX0_lastIn_70 rfl rfl ?_
      exact y_iret rfl rfl dX0_lastIn_71
noncomputable def vX0_lastIn (K : Kt) (p1 : Int) (σ : Sg) : Option (Int) := vX0_lastIn_4 K σ FU p1 0 0
set_option maxRecDepth 100000 in
set_option maxHeartbeats 4000000 in
theorem tX0_lastIn {Γ : Gx} {K : Kt} (hC : cLay K) (p1 : Int) (σ : Sg) : Y Γ MX0_lastIn K (emI K σ) K 0 [some (aR 73), some (aI p1), none, none, none] [] σ (vX0_lastIn K p1 σ) := by
  unfold vX0_lastIn
  refine y_iconst dX0_lastIn_0 (by decide) ?_
  refine y_istore_n dX0_lastIn_1 rfl (Nat.le_of_ble_eq_true rfl) (L' := [some (aR 73), some (aI p1), some (aI 0), none, none]) rfl ?_
  refine y_iconst dX0_lastIn_2 (by decide) ?_
  refine y_istore_n dX0_lastIn_3 rfl (Nat.le_of_ble_eq_true rfl) (L' := [some (aR 73), some (aI p1), some (aI 0), some (aI 0), none]) rfl ?_
  exact tX0_lastIn_4 hC σ FU p1 0 0
theorem qX0_lastIn {K : Kt} (hC : cLay K) (p1 : Int) (σ : Sg) : Cc MX0_lastIn K [aR 73, aI p1] σ (emI K σ) (vX0_lastIn K p1 σ) := cc_of plX0 (Nat.le_of_ble_eq_true rfl) (fun o _ => ⟨Nat.le_refl _, Nat.le_refl _⟩) (fun Γ => tX0_lastIn hC p1 σ)
noncomputable def vX0_findSets_136 (K : Kt) (rec_5 : Int → Int → Int → Int → Sg → Option (Int × Sg)) (x1 : Int) (x2 : Int) (x3 : Int) (x4 : Int) (y1 : Int) (y2 : Int) (σ : Sg) : Option (Int × Sg) := ck ((y2 = 0 ∨ y2 = 1) ∧ 0 ≤ y1 ∧ y1 < 256) (nm (up2 σ 77 y1.toNat y2) (fun σ1 => ck (0 ≤ x4 ∧ x4 < 256) (if (σ1 77 x4.toNat) = 0 then (ck (in32 (x4 + 1)) (rec_5 x1 x2 x3 (x4 + 1) σ1)) else (ck (in32 (x3 + 1)) (ck (in32 (x4 + 1)) (rec_5 x1 x2 (x3 + 1) (x4 + 1) σ1))))))
set_option maxRecDepth 100000 in
set_option maxHeartbeats 4000000 in
theorem tX0_findSets_136 {Γ : Gx} {K : Kt} (hC : cLay K) (rec_5 : Int → Int → Int → Int → Sg → Option (Int × Sg)) (hrec_5 : ∀ (x1 : Int) (x2 : Int) (x3 : Int) (x4 : Int) (σ : Sg), Y Γ MX0_findSets K (emIS K) K 5 [some (aR 73), some (aI x1), some (aI x2), some (aI x3), some (aI x4), none] [] σ (rec_5 x1 x2 x3 x4 σ)) (x1 : Int) (x2 : Int) (x3 : Int) (x4 : Int) (y1 : Int) (y2 : Int) (σ : Sg) : Y Γ MX0_findSets K (emIS K) K 136 [some (aR 73), some (aI x1), some (aI x2), some (aI x3), some (aI x4), none] [aI y2, aI y1, aR 77] σ (vX0_findSets_136 K rec_5 x1 x2 x3 x4 y1 y2 σ) := by
  unfold vX0_findSets_136
  refine yk_bastore (lcA_77 hC) (N := 256) rfl (j := y1.toNat) rfl dX0_findSets_136 (fun σ1 => ?_)
  refine y_aload_n dX0_findSets_137 rfl rfl ?_
  refine y_getR fX0_22 (lcO_73 hC) rfl (lcR_73_4 hC) dX0_findSets_138 ?_
  refine y_iload dX0_findSets_141 rfl ?_
  refine yk_baload (lcA_77 hC) (N := 256) rfl (j := x4.toNat) rfl dX0_findSets_143 ?_
  refine y_ite (fun h2 => ?_) (fun h2 => ?_)
  · refine y_if_eq_t dX0_findSets_144 (t := 150) rfl h2 ?_
    refine yk_iinc dX0_findSets_150 rfl (L' := [some (aR 73), some (aI x1), some (aI x2), some (aI x3), some (aI (x4 + 1)), none]) rfl ?_
    refine y_goto dX0_findSets_153 (t := 5) rfl ?_
    exact hrec_5 x1 x2 x3 (x4 + 1) σ1
  · refine y_if_eq_f dX0_findSets_144 (t := 150) rfl h2 ?_
    refine yk_iinc dX0_findSets_147 rfl (L' := [some (aR 73), some (aI x1), some (aI x2), some (aI (x3 + 1)), some (aI x4), none]) rfl ?_
    refine yk_iinc dX0_findSets_150 rfl (L' := [some (aR 73), some (aI x1), some (aI x2), some (aI (x3 + 1)), some (aI (x4 + 1)), none]) rfl ?_
    refine y_goto dX0_findSets_153 (t := 5) rfl ?_
    exact hrec_5 x1 x2 (x3 + 1) (x4 + 1) σ1
noncomputable def vX0_findSets_135 (K : Kt) (rec_5 : Int → Int → Int → Int → Sg → Option (Int × Sg)) (x1 : Int) (x2 : Int) (x3 : Int) (x4 : Int) (y1 : Int) (σ : Sg) : Option (Int × Sg) := vX0_findSets_136 K rec_5 x1 x2 x3 x4 y1 0 σ
set_option maxRecDepth 100000 in
set_option maxHeartbeats 4000000 in
theorem tX0_findSets_135 {Γ : Gx} {K : Kt} (hC : cLay K) (rec_5 : Int → Int → Int → Int → Sg → Option (Int × Sg)) (hrec_5 : ∀ (x1 : Int) (x2 : Int) (x3 : Int) (x4 : Int) (σ : Sg), Y Γ MX0_findSets K (emIS K) K 5 [some (aR 73), some (aI x1), some (aI x2), some (aI x3), some (aI x4), none] [] σ (rec_5 x1 x2 x3 x4 σ)) (x1 : Int) (x2 : Int) (x3 : Int) (x4 : Int) (y1 : Int) (σ : Sg) : Y Γ MX0_findSets K (emIS K) K 135 [some (aR 73), some (aI x1), some (aI x2), some (aI x3), some (aI x4), none] [aI y1, aR 77] σ (vX0_findSets_135 K rec_5 x1 x2 x3 x4 y1 σ) := by
  unfold vX0_findSets_135
  refine y_iconst dX0_findSets_135 (by decide) ?_
  exact tX0_findSets_136 hC rec_5 hrec_5 x1 x2 x3 x4 y1 0 σ
noncomputable def vX0_findSets_103 (K : Kt) (rec_5 : Int → Int → Int → Int → Sg → Option (Int × Sg)) (x1 : Int) (x2 : Int) (x3 : Int) (x4 : Int) (y1 : Int) (y2 : Int) (σ : Sg) : Option (Int × Sg) := ck ((y2 = 0 ∨ y2 = 1) ∧ 0 ≤ y1 ∧ y1 < 256) (nm (up2 σ 76 y1.toNat y2) (fun σ1 => ck (0 ≤ x4 ∧ x4 < 256) (if (σ1 76 x4.toNat) = 0 then (vX0_findSets_135 K rec_5 x1 x2 x3 x4 x4 σ1) else (ck (0 ≤ x4 ∧ x4 < 256) (if (σ1 78 x4.toNat) = x2 then (vX0_findSets_136 K rec_5 x1 x2 x3 x4 x4 1 σ1) else (vX0_findSets_135 K rec_5 x1 x2 x3 x4 x4 σ1))))))
set_option maxRecDepth 100000 in
set_option maxHeartbeats 4000000 in
theorem tX0_findSets_103 {Γ : Gx} {K : Kt} (hC : cLay K) (rec_5 : Int → Int → Int → Int → Sg → Option (Int × Sg)) (hrec_5 : ∀ (x1 : Int) (x2 : Int) (x3 : Int) (x4 : Int) (σ : Sg), Y Γ MX0_findSets K (emIS K) K 5 [some (aR 73), some (aI x1), some (aI x2), some (aI x3), some (aI x4), none] [] σ (rec_5 x1 x2 x3 x4 σ)) (x1 : Int) (x2 : Int) (x3 : Int) (x4 : Int) (y1 : Int) (y2 : Int) (σ : Sg) : Y Γ MX0_findSets K (emIS K) K 103 [some (aR 73), some (aI x1), some (aI x2), some (aI x3), some (aI x4), none] [aI y2, aI y1, aR 76] σ (vX0_findSets_103 K rec_5 x1 x2 x3 x4 y1 y2 σ) := by
  unfold vX0_findSets_103
  refine yk_bastore (lcA_76 hC) (N := 256) rfl (j := y1.toNat) rfl dX0_findSets_103 (fun σ1 => ?_)
  refine y_aload_n dX0_findSets_104 rfl rfl ?_
  refine y_getR fX0_22 (lcO_73 hC) rfl (lcR_73_4 hC) dX0_findSets_105 ?_
  refine y_iload dX0_findSets_108 rfl ?_
  refine y_aload_n dX0_findSets_110 rfl rfl ?_
  refine y_getR fX0_18 (lcO_73 hC) rfl (lcR_73_3 hC) dX0_findSets_111 ?_
  refine y_iload dX0_findSets_114 rfl ?_
  refine yk_baload (lcA_76 hC) (N := 256) rfl (j := x4.toNat) rfl dX0_findSets_116 ?_
  refine y_ite (fun h2 => ?_) (fun h2 => ?_)
  · refine y_if_eq_t dX0_findSets_117 (t := 135) rfl h2 ?_
    exact tX0_findSets_135 hC rec_5 hrec_5 x1 x2 x3 x4 x4 σ1
  · refine y_if_eq_f dX0_findSets_117 (t := 135) rfl h2 ?_
    refine y_aload_n dX0_findSets_120 rfl rfl ?_
    refine y_getR fX0_25 (lcO_73 hC) rfl (lcR_73_5 hC) dX0_findSets_121 ?_
    refine y_iload dX0_findSets_124 rfl ?_
    refine yk_iaload (lcA_78 hC) (N := 256) rfl (j := x4.toNat) rfl dX0_findSets_126 ?_
    refine y_iload_n dX0_findSets_127 rfl rfl ?_
    refine y_ite (fun h3 => ?_) (fun h3 => ?_)
    · refine y_icmp_ne_f dX0_findSets_128 (t := 135) rfl h3 ?_
      refine y_iconst dX0_findSets_131 (by decide) ?_
      refine y_goto dX0_findSets_132 (t := 136) rfl ?_
      exact tX0_findSets_136 hC rec_5 hrec_5 x1 x2 x3 x4 x4 1 σ1
    · refine y_icmp_ne_t dX0_findSets_128 (t := 135) rfl h3 ?_
      exact tX0_findSets_135 hC rec_5 hrec_5 x1 x2 x3 x4 x4 σ1
noncomputable def vX0_findSets_98 (K : Kt) (rec_5 : Int → Int → Int → Int → Sg → Option (Int × Sg)) (x1 : Int) (x2 : Int) (x3 : Int) (x4 : Int) (y1 : Int) (σ : Sg) : Option (Int × Sg) := vX0_findSets_103 K rec_5 x1 x2 x3 x4 y1 1 σ
set_option maxRecDepth 100000 in
set_option maxHeartbeats 4000000 in
theorem tX0_findSets_98 {Γ : Gx} {K : Kt} (hC : cLay K) (rec_5 : Int → Int → Int → Int → Sg → Option (Int × Sg)) (hrec_5 : ∀ (x1 : Int) (x2 : Int) (x3 : Int) (x4 : Int) (σ : Sg), Y Γ MX0_findSets K (emIS K) K 5 [some (aR 73), some (aI x1), some (aI x2), some (aI x3), some (aI x4), none] [] σ (rec_5 x1 x2 x3 x4 σ)) (x1 : Int) (x2 : Int) (x3 : Int) (x4 : Int) (y1 : Int) (σ : Sg) : Y Γ MX0_findSets K (emIS K) K 98 [some (aR 73), some (aI x1), some (aI x2), some (aI x3), some (aI x4), none] [aI y1, aR 76] σ (vX0_findSets_98 K rec_5 x1 x2 x3 x4 y1 σ) := by
  unfold vX0_findSets_98
  refine y_iconst dX0_findSets_98 (by decide) ?_
  refine y_goto dX0_findSets_99 (t := 103) rfl ?_
  exact tX0_findSets_103 hC rec_5 hrec_5 x1 x2 x3 x4 y1 1 σ
noncomputable def vX0_findSets_30 (K : Kt) (rec_5 : Int → Int → Int → Int → Sg → Option (Int × Sg)) : Nat → Int → Int → Int → Int → Int → Sg → Option (Int × Sg)
  | 0, _, _, _, _, _, _ => none
  | f + 1, x1, x2, x3, x4, x5, σ => if x5 < (σ 13 1) then (if (bAnd x4 (bShl 1 x5)) = 0 then (ck (in32 (x5 + 1)) (vX0_findSets_30 K rec_5 f x1 x2 x3 x4 (x5 + 1) σ)) else (ck (0 ≤ x4 ∧ x4 < 256) (ck (0 ≤ x5 ∧ x5 < 8) (ck (0 ≤ x4 ∧ x4 < 256) (nm (up2 σ 78 x4.toNat (bOr (σ 78 x4.toNat) (σ 16 x5.toNat))) (fun σ3 => ck (in32 (x5 + 1)) (vX0_findSets_30 K rec_5 f x1 x2 x3 x4 (x5 + 1) σ3))))))) else (if x4 = 0 then (vX0_findSets_98 K rec_5 x1 x2 x3 x4 x4 σ) else ((vX0_lastIn K x4 σ).bind (fun r5 => if r5 = 0 then (vX0_findSets_103 K rec_5 x1 x2 x3 x4 x4 0 σ) else (vX0_findSets_98 K rec_5 x1 x2 x3 x4 x4 σ))))
set_option maxRecDepth 100000 in
set_option maxHeartbeats 4000000 in
theorem tX0_findSets_30 {Γ : Gx} {K : Kt} (hC : cLay K) (rec_5 : Int → Int → Int → Int → Sg → Option (Int × Sg)) (hrec_5 : ∀ (x1 : Int) (x2 : Int) (x3 : Int) (x4 : Int) (σ : Sg), Y Γ MX0_findSets K (emIS K) K 5 [some (aR 73), some (aI x1), some (aI x2), some (aI x3), some (aI x4), none] [] σ (rec_5 x1 x2 x3 x4 σ)) : ∀ (f : Nat) (x1 : Int) (x2 : Int) (x3 : Int) (x4 : Int) (x5 : Int) (σ : Sg), Y Γ MX0_findSets K (emIS K) K 30 [some (aR 73), some (aI x1), some (aI x2), some (aI x3), some (aI x4), some (aI x5)] [] σ (vX0_findSets_30 K rec_5 f x1 x2 x3 x4 x5 σ) := by
  intro f
  induction f with
  | zero => intro x1 x2 x3 x4 x5 σ; exact y_none
  | succ f ih =>
    intro x1 x2 x3 x4 x5 σ
    rw [vX0_findSets_30]
    refine y_iload dX0_findSets_30 rfl ?_
    refine y_aload_n dX0_findSets_32 rfl rfl ?_
    refine y_getR fX0_35 (lcO_73 hC) rfl (lcR_73_0 hC) dX0_findSets_33 ?_
    refine y_getI fX0_39 (lcO_13 hC) rfl dX0_findSets_36 ?_
    refine y_ite (fun h1 => ?_) (fun h1 => ?_)
    · refine y_icmp_ge_f dX0_findSets_39 (t := 78) rfl h1 ?_
      refine y_iload dX0_findSets_42 rfl ?_
      refine y_iconst dX0_findSets_44 (by decide) ?_
      refine y_iload dX0_findSets_45 rfl ?_
      refine y_ishl dX0_findSets_47 ?_
      refine y_iand dX0_findSets_48 ?_
      refine y_ite (fun h2 => ?_) (fun h2 => ?_)
      · refine y_if_eq_t dX0_findSets_49 (t := 72) rfl h2 ?_
        refine yk_iinc dX0_findSets_72 rfl (L' := [some (aR 73), some (aI x1), some (aI x2), some (aI x3), some (aI x4), some (aI (x5 + 1))]) rfl ?_
        refine y_goto dX0_findSets_75 (t := 30) rfl ?_
        exact ih x1 x2 x3 x4 (x5 + 1) σ
      · refine y_if_eq_f dX0_findSets_49 (t := 72) rfl h2 ?_
        refine y_aload_n dX0_findSets_52 rfl rfl ?_
        refine y_getR fX0_25 (lcO_73 hC) rfl (lcR_73_5 hC) dX0_findSets_53 ?_
        refine y_iload dX0_findSets_56 rfl ?_
        refine y_dup2 dX0_findSets_58 (fun _ => rfl) (fun _ => rfl) ?_
        refine yk_iaload (lcA_78 hC) (N := 256) rfl (j := x4.toNat) rfl dX0_findSets_59 ?_
        refine y_aload_n dX0_findSets_60 rfl rfl ?_
        refine y_getR fX0_35 (lcO_73 hC) rfl (lcR_73_0 hC) dX0_findSets_61 ?_
        refine y_getR fX0_79 (lcO_13 hC) rfl (lcR_13_6 hC) dX0_findSets_64 ?_
        refine y_iload dX0_findSets_67 rfl ?_
        refine yk_iaload (lcA_16 hC) (N := 8) rfl (j := x5.toNat) rfl dX0_findSets_69 ?_
        refine y_ior dX0_findSets_70 ?_
        refine yk_iastore (lcA_78 hC) (N := 256) rfl (j := x4.toNat) rfl dX0_findSets_71 (fun σ3 => ?_)
        refine yk_iinc dX0_findSets_72 rfl (L' := [some (aR 73), some (aI x1), some (aI x2), some (aI x3), some (aI x4), some (aI (x5 + 1))]) rfl ?_
        refine y_goto dX0_findSets_75 (t := 30) rfl ?_
        exact ih x1 x2 x3 x4 (x5 + 1) σ3
    · refine y_icmp_ge_t dX0_findSets_39 (t := 78) rfl h1 ?_
      refine y_aload_n dX0_findSets_78 rfl rfl ?_
      refine y_getR fX0_18 (lcO_73 hC) rfl (lcR_73_3 hC) dX0_findSets_79 ?_
      refine y_iload dX0_findSets_82 rfl ?_
      refine y_iload dX0_findSets_84 rfl ?_
      refine y_ite (fun h4 => ?_) (fun h4 => ?_)
      · refine y_if_eq_t dX0_findSets_86 (t := 98) rfl h4 ?_
        refine y_fg [true, true, true, true, true, false] (L' := [some (aR 73), some (aI x1), some (aI x2), some (aI x3), some (aI x4), none]) rfl ?_
        exact tX0_findSets_98 hC rec_5 hrec_5 x1 x2 x3 x4 x4 σ
      · refine y_if_eq_f dX0_findSets_86 (t := 98) rfl h4 ?_
        refine y_aload_n dX0_findSets_89 rfl rfl ?_
        refine y_iload dX0_findSets_90 rfl ?_
        refine y_cvI (qX0_lastIn hC x4 σ) kX0_91 rfl (lcO_73 hC) rfl (by decide) rfl (Nat.le_of_ble_eq_true rfl) dX0_findSets_92 (fun r5 => ?_)
        refine y_ite (fun h6 => ?_) (fun h6 => ?_)
        · refine y_if_eq_t dX0_findSets_95 (t := 102) rfl h6 ?_
          refine y_iconst dX0_findSets_102 (by decide) ?_
          refine y_fg [true, true, true, true, true, false] (L' := [some (aR 73), some (aI x1), some (aI x2), some (aI x3), some (aI x4), none]) rfl ?_
          exact tX0_findSets_103 hC rec_5 hrec_5 x1 x2 x3 x4 x4 0 σ
        · refine y_if_eq_f dX0_findSets_95 (t := 102) rfl h6 ?_
          refine y_fg [true, true, true, true, true, false] (L' := [some (aR 73), some (aI x1), some (aI x2), some (aI x3), some (aI x4), none]) rfl ?_
          exact tX0_findSets_98 hC rec_5 hrec_5 x1 x2 x3 x4 x4 σ
noncomputable def vX0_findSets_5 (K : Kt) : Nat → Int → Int → Int → Int → Sg → Option (Int × Sg)
  | 0, _, _, _, _, _ => none
  | f + 1, x1, x2, x3, x4, σ => if x4 < (bShl 1 (σ 13 1)) then (ck (0 ≤ x4 ∧ x4 < 256) (nm (up2 σ 78 x4.toNat x1) (fun σ2 => vX0_findSets_30 K (vX0_findSets_5 K f) FU x1 x2 x3 x4 0 σ2))) else (some (x3, σ))
set_option maxRecDepth 100000 in
set_option maxHeartbeats 4000000 in
theorem tX0_findSets_5 {Γ : Gx} {K : Kt} (hC : cLay K) : ∀ (f : Nat) (x1 : Int) (x2 : Int) (x3 : Int) (x4 : Int) (σ : Sg), Y Γ MX0_findSets K (emIS K) K 5 [some (aR 73), some (aI x1), some (aI x2), some (aI x3), some (aI x4), none] [] σ (vX0_findSets_5 K f x1 x2 x3 x4 σ) := by
  intro f
  induction f with
  | zero => intro x1 x2 x3 x4 σ; exact y_none
  | succ f ih =>
    intro x1 x2 x3 x4 σ
    rw [vX0_findSets_5]
    refine y_iload dX0_findSets_5 rfl ?_
    refine y_iconst dX0_findSets_7 (by decide) ?_
    refine y_aload_n dX0_findSets_8 rfl rfl ?_
    refine y_getR fX0_35 (lcO_73 hC) rfl (lcR_73_0 hC) dX0_findSets_9 ?_
    refine y_getI fX0_39 (lcO_13 hC) rfl dX0_findSets_12 ?_
    refine y_ishl dX0_findSets_15 ?_
    refine y_ite (fun h1 => ?_) (fun h1 => ?_)
    · refine y_icmp_ge_f dX0_findSets_16 (t := 156) rfl h1 ?_
      refine y_aload_n dX0_findSets_19 rfl rfl ?_
      refine y_getR fX0_25 (lcO_73 hC) rfl (lcR_73_5 hC) dX0_findSets_20 ?_
      refine y_iload dX0_findSets_23 rfl ?_
      refine y_iload_n dX0_findSets_25 rfl rfl ?_
      refine yk_iastore (lcA_78 hC) (N := 256) rfl (j := x4.toNat) rfl dX0_findSets_26 (fun σ2 => ?_)
      refine y_iconst dX0_findSets_27 (by decide) ?_
      refine y_istore dX0_findSets_28 (Nat.le_of_ble_eq_true rfl) (L' := [some (aR 73), some (aI x1), some (aI x2), some (aI x3), some (aI x4), some (aI 0)]) rfl ?_
      exact tX0_findSets_30 hC (vX0_findSets_5 K f) ih FU x1 x2 x3 x4 0 σ2
    · refine y_icmp_ge_t dX0_findSets_16 (t := 156) rfl h1 ?_
      refine y_iload_n dX0_findSets_156 rfl rfl ?_
      exact y_iret rfl rfl dX0_findSets_157
noncomputable def vX0_findSets (K : Kt) (p1 : Int) (p2 : Int) (σ : Sg) : Option (Int × Sg) := vX0_findSets_5 K FU p1 p2 0 0 σ
set_option maxRecDepth 100000 in
set_option maxHeartbeats 4000000 in
theorem tX0_findSets {Γ : Gx} {K : Kt} (hC : cLay K) (p1 : Int) (p2 : Int) (σ : Sg) : Y Γ MX0_findSets K (emIS K) K 0 [some (aR 73), some (aI p1), some (aI p2), none, none, none] [] σ (vX0_findSets K p1 p2 σ) := by
  unfold vX0_findSets
  refine y_iconst dX0_findSets_0 (by decide) ?_
  refine y_istore_n dX0_findSets_1 rfl (Nat.le_of_ble_eq_true rfl) (L' := [some (aR 73), some (aI p1), some (aI p2), some (aI 0), none, none]) rfl ?_
  refine y_iconst dX0_findSets_2 (by decide) ?_
  refine y_istore dX0_findSets_3 (Nat.le_of_ble_eq_true rfl) (L' := [some (aR 73), some (aI p1), some (aI p2), some (aI 0), some (aI 0), none]) rfl ?_
  exact tX0_findSets_5 hC FU p1 p2 0 0 σ
theorem qX0_findSets {K : Kt} (hC : cLay K) (p1 : Int) (p2 : Int) (σ : Sg) : Cc MX0_findSets K [aR 73, aI p1, aI p2] σ (emIS K) (vX0_findSets K p1 p2 σ) := cc_of plX0 (Nat.le_of_ble_eq_true rfl) (fun o _ => ⟨Nat.le_refl _, Nat.le_refl _⟩) (fun Γ => tX0_findSets hC p1 p2 σ)
noncomputable def vX0_setNumbered_4 (K : Kt) (σ : Sg) : Nat → Int → Int → Int → Option (Int)
  | 0, _, _, _ => none
  | f + 1, x1, x2, x3 => if x3 < (bShl 1 (σ 13 1)) then (ck (0 ≤ x3 ∧ x3 < 256) (if (σ 77 x3.toNat) = 0 then (ck (in32 (x3 + 1)) (vX0_setNumbered_4 K σ f x1 x2 (x3 + 1))) else (if x2 = x1 then (some x3) else (ck (in32 (x2 + 1)) (ck (in32 (x3 + 1)) (vX0_setNumbered_4 K σ f x1 (x2 + 1) (x3 + 1))))))) else (some (-1))
set_option maxRecDepth 100000 in
set_option maxHeartbeats 4000000 in
theorem tX0_setNumbered_4 {Γ : Gx} {K : Kt} (hC : cLay K) (σ : Sg) : ∀ (f : Nat) (x1 : Int) (x2 : Int) (x3 : Int), Y Γ MX0_setNumbered K (emI K σ) K 4 [some (aR 73), some (aI x1), some (aI x2), some (aI x3)] [] σ (vX0_setNumbered_4 K σ f x1 x2 x3) := by
  intro f
  induction f with
  | zero => intro x1 x2 x3; exact y_none
  | succ f ih =>
    intro x1 x2 x3
    rw [vX0_setNumbered_4]
    refine y_iload_n dX0_setNumbered_4 rfl rfl ?_
    refine y_iconst dX0_setNumbered_5 (by decide) ?_
    refine y_aload_n dX0_setNumbered_6 rfl rfl ?_
    refine y_getR fX0_35 (lcO_73 hC) rfl (lcR_73_0 hC) dX0_setNumbered_7 ?_
    refine y_getI fX0_39 (lcO_13 hC) rfl dX0_setNumbered_10 ?_
    refine y_ishl dX0_setNumbered_13 ?_
    refine y_ite (fun h1 => ?_) (fun h1 => ?_)
    · refine y_icmp_ge_f dX0_setNumbered_14 (t := 42) rfl h1 ?_
      refine y_aload_n dX0_setNumbered_17 rfl rfl ?_
      refine y_getR fX0_22 (lcO_73 hC) rfl (lcR_73_4 hC) dX0_setNumbered_18 ?_
      refine y_iload_n dX0_setNumbered_21 rfl rfl ?_
      refine yk_baload (lcA_77 hC) (N := 256) rfl (j := x3.toNat) rfl dX0_setNumbered_22 ?_
      refine y_ite (fun h2 => ?_) (fun h2 => ?_)
      · refine y_if_eq_t dX0_setNumbered_23 (t := 36) rfl h2 ?_
        refine yk_iinc dX0_setNumbered_36 rfl (L' := [some (aR 73), some (aI x1), some (aI x2), some (aI (x3 + 1))]) rfl ?_
        refine y_goto dX0_setNumbered_39 (t := 4) rfl ?_
        exact ih x1 x2 (x3 + 1)
      · refine y_if_eq_f dX0_setNumbered_23 (t := 36) rfl h2 ?_
        refine y_iload_n dX0_setNumbered_26 rfl rfl ?_
        refine y_iload_n dX0_setNumbered_27 rfl rfl ?_
        refine y_ite (fun h3 => ?_) (fun h3 => ?_)
        · refine y_icmp_ne_f dX0_setNumbered_28 (t := 33) rfl h3 ?_
          refine y_iload_n dX0_setNumbered_31 rfl rfl ?_
          exact y_iret rfl rfl dX0_setNumbered_32
        · refine y_icmp_ne_t dX0_setNumbered_28 (t := 33) rfl h3 ?_
          refine yk_iinc dX0_setNumbered_33 rfl (L' := [some (aR 73), some (aI x1), some (aI (x2 + 1)), some (aI x3)]) rfl ?_
          refine yk_iinc dX0_setNumbered_36 rfl (L' := [some (aR 73), some (aI x1), some (aI (x2 + 1)), some (aI (x3 + 1))]) rfl ?_
          refine y_goto dX0_setNumbered_39 (t := 4) rfl ?_
          exact ih x1 (x2 + 1) (x3 + 1)
    · refine y_icmp_ge_t dX0_setNumbered_14 (t := 42) rfl h1 ?_
      refine y_iconst dX0_setNumbered_42 (by decide) ?_
      exact y_iret rfl rfl dX0_setNumbered_43
noncomputable def vX0_setNumbered (K : Kt) (p1 : Int) (σ : Sg) : Option (Int) := vX0_setNumbered_4 K σ FU p1 0 0
set_option maxRecDepth 100000 in
set_option maxHeartbeats 4000000 in
theorem tX0_setNumbered {Γ : Gx} {K : Kt} (hC : cLay K) (p1 : Int) (σ : Sg) : Y Γ MX0_setNumbered K (emI K σ) K 0 [some (aR 73), some (aI p1), none, none] [] σ (vX0_setNumbered K p1 σ) := by
  unfold vX0_setNumbered
  refine y_iconst dX0_setNumbered_0 (by decide) ?_
  refine y_istore_n dX0_setNumbered_1 rfl (Nat.le_of_ble_eq_true rfl) (L' := [some (aR 73), some (aI p1), some (aI 0), none]) rfl ?_
  refine y_iconst dX0_setNumbered_2 (by decide) ?_
  refine y_istore_n dX0_setNumbered_3 rfl (Nat.le_of_ble_eq_true rfl) (L' := [some (aR 73), some (aI p1), some (aI 0), some (aI 0)]) rfl ?_
  exact tX0_setNumbered_4 hC σ FU p1 0 0
theorem qX0_setNumbered {K : Kt} (hC : cLay K) (p1 : Int) (σ : Sg) : Cc MX0_setNumbered K [aR 73, aI p1] σ (emI K σ) (vX0_setNumbered K p1 σ) := cc_of plX0 (Nat.le_of_ble_eq_true rfl) (fun o _ => ⟨Nat.le_refl _, Nat.le_refl _⟩) (fun Γ => tX0_setNumbered hC p1 σ)
noncomputable def vX0_setsWith_4 (K : Kt) (σ : Sg) : Nat → Int → Int → Int → Option (Int)
  | 0, _, _, _ => none
  | f + 1, x1, x2, x3 => if x3 < (bShl 1 (σ 13 1)) then (ck (0 ≤ x3 ∧ x3 < 256) (if (σ 77 x3.toNat) = 0 then (ck (in32 (x3 + 1)) (vX0_setsWith_4 K σ f x1 x2 (x3 + 1))) else (if (bAnd x3 (bShl 1 x1)) = 0 then (ck (in32 (x3 + 1)) (vX0_setsWith_4 K σ f x1 x2 (x3 + 1))) else (ck (in32 (x2 + 1)) (ck (in32 (x3 + 1)) (vX0_setsWith_4 K σ f x1 (x2 + 1) (x3 + 1))))))) else (some x2)
set_option maxRecDepth 100000 in
set_option maxHeartbeats 4000000 in
theorem tX0_setsWith_4 {Γ : Gx} {K : Kt} (hC : cLay K) (σ : Sg) : ∀ (f : Nat) (x1 : Int) (x2 : Int) (x3 : Int), Y Γ MX0_setsWith K (emI K σ) K 4 [some (aR 73), some (aI x1), some (aI x2), some (aI x3)] [] σ (vX0_setsWith_4 K σ f x1 x2 x3) := by
  intro f
  induction f with
  | zero => intro x1 x2 x3; exact y_none
  | succ f ih =>
    intro x1 x2 x3
    rw [vX0_setsWith_4]
    refine y_iload_n dX0_setsWith_4 rfl rfl ?_
    refine y_iconst dX0_setsWith_5 (by decide) ?_
    refine y_aload_n dX0_setsWith_6 rfl rfl ?_
    refine y_getR fX0_35 (lcO_73 hC) rfl (lcR_73_0 hC) dX0_setsWith_7 ?_
    refine y_getI fX0_39 (lcO_13 hC) rfl dX0_setsWith_10 ?_
    refine y_ishl dX0_setsWith_13 ?_
    refine y_ite (fun h1 => ?_) (fun h1 => ?_)
    · refine y_icmp_ge_f dX0_setsWith_14 (t := 43) rfl h1 ?_
      refine y_aload_n dX0_setsWith_17 rfl rfl ?_
      refine y_getR fX0_22 (lcO_73 hC) rfl (lcR_73_4 hC) dX0_setsWith_18 ?_
      refine y_iload_n dX0_setsWith_21 rfl rfl ?_
      refine yk_baload (lcA_77 hC) (N := 256) rfl (j := x3.toNat) rfl dX0_setsWith_22 ?_
      refine y_ite (fun h2 => ?_) (fun h2 => ?_)
      · refine y_if_eq_t dX0_setsWith_23 (t := 37) rfl h2 ?_
        refine yk_iinc dX0_setsWith_37 rfl (L' := [some (aR 73), some (aI x1), some (aI x2), some (aI (x3 + 1))]) rfl ?_
        refine y_goto dX0_setsWith_40 (t := 4) rfl ?_
        exact ih x1 x2 (x3 + 1)
      · refine y_if_eq_f dX0_setsWith_23 (t := 37) rfl h2 ?_
        refine y_iload_n dX0_setsWith_26 rfl rfl ?_
        refine y_iconst dX0_setsWith_27 (by decide) ?_
        refine y_iload_n dX0_setsWith_28 rfl rfl ?_
        refine y_ishl dX0_setsWith_29 ?_
        refine y_iand dX0_setsWith_30 ?_
        refine y_ite (fun h3 => ?_) (fun h3 => ?_)
        · refine y_if_eq_t dX0_setsWith_31 (t := 37) rfl h3 ?_
          refine yk_iinc dX0_setsWith_37 rfl (L' := [some (aR 73), some (aI x1), some (aI x2), some (aI (x3 + 1))]) rfl ?_
          refine y_goto dX0_setsWith_40 (t := 4) rfl ?_
          exact ih x1 x2 (x3 + 1)
        · refine y_if_eq_f dX0_setsWith_31 (t := 37) rfl h3 ?_
          refine yk_iinc dX0_setsWith_34 rfl (L' := [some (aR 73), some (aI x1), some (aI (x2 + 1)), some (aI x3)]) rfl ?_
          refine yk_iinc dX0_setsWith_37 rfl (L' := [some (aR 73), some (aI x1), some (aI (x2 + 1)), some (aI (x3 + 1))]) rfl ?_
          refine y_goto dX0_setsWith_40 (t := 4) rfl ?_
          exact ih x1 (x2 + 1) (x3 + 1)
    · refine y_icmp_ge_t dX0_setsWith_14 (t := 43) rfl h1 ?_
      refine y_iload_n dX0_setsWith_43 rfl rfl ?_
      exact y_iret rfl rfl dX0_setsWith_44
noncomputable def vX0_setsWith (K : Kt) (p1 : Int) (σ : Sg) : Option (Int) := vX0_setsWith_4 K σ FU p1 0 0
set_option maxRecDepth 100000 in
set_option maxHeartbeats 4000000 in
theorem tX0_setsWith {Γ : Gx} {K : Kt} (hC : cLay K) (p1 : Int) (σ : Sg) : Y Γ MX0_setsWith K (emI K σ) K 0 [some (aR 73), some (aI p1), none, none] [] σ (vX0_setsWith K p1 σ) := by
  unfold vX0_setsWith
  refine y_iconst dX0_setsWith_0 (by decide) ?_
  refine y_istore_n dX0_setsWith_1 rfl (Nat.le_of_ble_eq_true rfl) (L' := [some (aR 73), some (aI p1), some (aI 0), none]) rfl ?_
  refine y_iconst dX0_setsWith_2 (by decide) ?_
  refine y_istore_n dX0_setsWith_3 rfl (Nat.le_of_ble_eq_true rfl) (L' := [some (aR 73), some (aI p1), some (aI 0), some (aI 0)]) rfl ?_
  exact tX0_setsWith_4 hC σ FU p1 0 0
theorem qX0_setsWith {K : Kt} (hC : cLay K) (p1 : Int) (σ : Sg) : Cc MX0_setsWith K [aR 73, aI p1] σ (emI K σ) (vX0_setsWith K p1 σ) := cc_of plX0 (Nat.le_of_ble_eq_true rfl) (fun o _ => ⟨Nat.le_refl _, Nat.le_refl _⟩) (fun Γ => tX0_setsWith hC p1 σ)
noncomputable def vX0_bestToAsk_10 (K : Kt) (σ : Sg) : Nat → Int → Int → Int → Int → Int → Option (Int)
  | 0, _, _, _, _, _ => none
  | f + 1, x1, x2, x3, x4, x5 => if x5 < (σ 13 1) then ((vX0_setsWith K x5 σ).bind (fun r2 => ck (in32 (x1 - r2)) (nm (imax r2 (x1 - r2)) (fun z3 => if z3 < x4 then (ck (in32 (x5 + 1)) (vX0_bestToAsk_10 K σ f x1 x2 x5 z3 (x5 + 1))) else (ck (in32 (x5 + 1)) (vX0_bestToAsk_10 K σ f x1 x2 x3 x4 (x5 + 1))))))) else (if x2 = 0 then (some x3) else (if x3 = (-1) then (some x3) else (some x4)))
set_option maxRecDepth 100000 in
set_option maxHeartbeats 4000000 in
theorem tX0_bestToAsk_10 {Γ : Gx} {K : Kt} (hC : cLay K) (σ : Sg) : ∀ (f : Nat) (x1 : Int) (x2 : Int) (x3 : Int) (x4 : Int) (x5 : Int), Y Γ MX0_bestToAsk K (emI K σ) K 10 [some (aR 73), some (aI x1), some (aI x2), some (aI x3), some (aI x4), some (aI x5), none, none] [] σ (vX0_bestToAsk_10 K σ f x1 x2 x3 x4 x5) := by
  intro f
  induction f with
  | zero => intro x1 x2 x3 x4 x5; exact y_none
  | succ f ih =>
    intro x1 x2 x3 x4 x5
    rw [vX0_bestToAsk_10]
    refine y_iload dX0_bestToAsk_10 rfl ?_
    refine y_aload_n dX0_bestToAsk_12 rfl rfl ?_
    refine y_getR fX0_35 (lcO_73 hC) rfl (lcR_73_0 hC) dX0_bestToAsk_13 ?_
    refine y_getI fX0_39 (lcO_13 hC) rfl dX0_bestToAsk_16 ?_
    refine y_ite (fun h1 => ?_) (fun h1 => ?_)
    · refine y_icmp_ge_f dX0_bestToAsk_19 (t := 61) rfl h1 ?_
      refine y_aload_n dX0_bestToAsk_22 rfl rfl ?_
      refine y_iload dX0_bestToAsk_23 rfl ?_
      refine y_cvI (qX0_setsWith hC x5 σ) kX0_94 rfl (lcO_73 hC) rfl (by decide) rfl (Nat.le_of_ble_eq_true rfl) dX0_bestToAsk_25 (fun r2 => ?_)
      refine y_istore dX0_bestToAsk_28 (Nat.le_of_ble_eq_true rfl) (L' := [some (aR 73), some (aI x1), some (aI x2), some (aI x3), some (aI x4), some (aI x5), some (aI r2), none]) rfl ?_
      refine y_iload dX0_bestToAsk_30 rfl ?_
      refine y_iload_n dX0_bestToAsk_32 rfl rfl ?_
      refine y_iload dX0_bestToAsk_33 rfl ?_
      refine yk_isub dX0_bestToAsk_35 ?_
      refine y_imax mX0_97 (by decide) (Nat.le_of_ble_eq_true rfl) dX0_bestToAsk_36 ?_
      refine yn_istore dX0_bestToAsk_39 (Nat.le_of_ble_eq_true rfl) (L' := fun z3 => [some (aR 73), some (aI x1), some (aI x2), some (aI x3), some (aI x4), some (aI x5), some (aI r2), some (aI z3)]) (fun _ => rfl) (fun z3 => ?_)
      refine y_iload dX0_bestToAsk_41 rfl ?_
      refine y_iload dX0_bestToAsk_43 rfl ?_
      refine y_ite (fun h4 => ?_) (fun h4 => ?_)
      · refine y_icmp_ge_f dX0_bestToAsk_45 (t := 55) rfl h4 ?_
        refine y_iload dX0_bestToAsk_48 rfl ?_
        refine y_istore dX0_bestToAsk_50 (Nat.le_of_ble_eq_true rfl) (L' := [some (aR 73), some (aI x1), some (aI x2), some (aI x3), some (aI z3), some (aI x5), some (aI r2), some (aI z3)]) rfl ?_
        refine y_iload dX0_bestToAsk_52 rfl ?_
        refine y_istore_n dX0_bestToAsk_54 rfl (Nat.le_of_ble_eq_true rfl) (L' := [some (aR 73), some (aI x1), some (aI x2), some (aI x5), some (aI z3), some (aI x5), some (aI r2), some (aI z3)]) rfl ?_
        refine yk_iinc dX0_bestToAsk_55 rfl (L' := [some (aR 73), some (aI x1), some (aI x2), some (aI x5), some (aI z3), some (aI (x5 + 1)), some (aI r2), some (aI z3)]) rfl ?_
        refine y_goto dX0_bestToAsk_58 (t := 10) rfl ?_
        refine y_fg [true, true, true, true, true, true, false, false] (L' := [some (aR 73), some (aI x1), some (aI x2), some (aI x5), some (aI z3), some (aI (x5 + 1)), none, none]) rfl ?_
        exact ih x1 x2 x5 z3 (x5 + 1)
      · refine y_icmp_ge_t dX0_bestToAsk_45 (t := 55) rfl h4 ?_
        refine yk_iinc dX0_bestToAsk_55 rfl (L' := [some (aR 73), some (aI x1), some (aI x2), some (aI x3), some (aI x4), some (aI (x5 + 1)), some (aI r2), some (aI z3)]) rfl ?_
        refine y_goto dX0_bestToAsk_58 (t := 10) rfl ?_
        refine y_fg [true, true, true, true, true, true, false, false] (L' := [some (aR 73), some (aI x1), some (aI x2), some (aI x3), some (aI x4), some (aI (x5 + 1)), none, none]) rfl ?_
        exact ih x1 x2 x3 x4 (x5 + 1)
    · refine y_icmp_ge_t dX0_bestToAsk_19 (t := 61) rfl h1 ?_
      refine y_iload_n dX0_bestToAsk_61 rfl rfl ?_
      refine y_ite (fun h5 => ?_) (fun h5 => ?_)
      · refine y_if_eq_t dX0_bestToAsk_62 (t := 70) rfl h5 ?_
        refine y_iload_n dX0_bestToAsk_70 rfl rfl ?_
        refine y_goto dX0_bestToAsk_71 (t := 76) rfl ?_
        exact y_iret rfl rfl dX0_bestToAsk_76
      · refine y_if_eq_f dX0_bestToAsk_62 (t := 70) rfl h5 ?_
        refine y_iload_n dX0_bestToAsk_65 rfl rfl ?_
        refine y_iconst dX0_bestToAsk_66 (by decide) ?_
        refine y_ite (fun h6 => ?_) (fun h6 => ?_)
        · refine y_icmp_ne_f dX0_bestToAsk_67 (t := 74) rfl h6 ?_
          refine y_iload_n dX0_bestToAsk_70 rfl rfl ?_
          refine y_goto dX0_bestToAsk_71 (t := 76) rfl ?_
          exact y_iret rfl rfl dX0_bestToAsk_76
        · refine y_icmp_ne_t dX0_bestToAsk_67 (t := 74) rfl h6 ?_
          refine y_iload dX0_bestToAsk_74 rfl ?_
          exact y_iret rfl rfl dX0_bestToAsk_76
noncomputable def vX0_bestToAsk (K : Kt) (p1 : Int) (p2 : Int) (σ : Sg) : Option (Int) := ck (in32 (p1 + 1)) (nm (p1 + 1) (fun z1 => vX0_bestToAsk_10 K σ FU p1 p2 (-1) z1 0))
set_option maxRecDepth 100000 in
set_option maxHeartbeats 4000000 in
theorem tX0_bestToAsk {Γ : Gx} {K : Kt} (hC : cLay K) (p1 : Int) (p2 : Int) (σ : Sg) : Y Γ MX0_bestToAsk K (emI K σ) K 0 [some (aR 73), some (aI p1), some (aI p2), none, none, none, none, none] [] σ (vX0_bestToAsk K p1 p2 σ) := by
  unfold vX0_bestToAsk
  refine y_iconst dX0_bestToAsk_0 (by decide) ?_
  refine y_istore_n dX0_bestToAsk_1 rfl (Nat.le_of_ble_eq_true rfl) (L' := [some (aR 73), some (aI p1), some (aI p2), some (aI (-1)), none, none, none, none]) rfl ?_
  refine y_iload_n dX0_bestToAsk_2 rfl rfl ?_
  refine y_iconst dX0_bestToAsk_3 (by decide) ?_
  refine yk_iadd dX0_bestToAsk_4 ?_
  refine yn_istore dX0_bestToAsk_5 (Nat.le_of_ble_eq_true rfl) (L' := fun z1 => [some (aR 73), some (aI p1), some (aI p2), some (aI (-1)), some (aI z1), none, none, none]) (fun _ => rfl) (fun z1 => ?_)
  refine y_iconst dX0_bestToAsk_7 (by decide) ?_
  refine y_istore dX0_bestToAsk_8 (Nat.le_of_ble_eq_true rfl) (L' := [some (aR 73), some (aI p1), some (aI p2), some (aI (-1)), some (aI z1), some (aI 0), none, none]) rfl ?_
  exact tX0_bestToAsk_10 hC σ FU p1 p2 (-1) z1 0
theorem qX0_bestToAsk {K : Kt} (hC : cLay K) (p1 : Int) (p2 : Int) (σ : Sg) : Cc MX0_bestToAsk K [aR 73, aI p1, aI p2] σ (emI K σ) (vX0_bestToAsk K p1 p2 σ) := cc_of plX0 (Nat.le_of_ble_eq_true rfl) (fun o _ => ⟨Nat.le_refl _, Nat.le_refl _⟩) (fun Γ => tX0_bestToAsk hC p1 p2 σ)
noncomputable def vX0_lastOnes_4 (K : Kt) (σ : Sg) : Nat → Int → Int → Option (Int)
  | 0, _, _ => none
  | f + 1, x1, x2 => if x2 < (bShl 1 (σ 13 1)) then (ck (0 ≤ x2 ∧ x2 < 256) (if (σ 77 x2.toNat) = 0 then (ck (in32 (x2 + 1)) (vX0_lastOnes_4 K σ f x1 (x2 + 1))) else ((vX0_lastIn K x2 σ).bind (fun r3 => nm (bOr x1 r3) (fun z4 => ck (in32 (x2 + 1)) (vX0_lastOnes_4 K σ f z4 (x2 + 1))))))) else (some x1)
set_option maxRecDepth 100000 in
set_option maxHeartbeats 4000000 in
theorem tX0_lastOnes_4 {Γ : Gx} {K : Kt} (hC : cLay K) (σ : Sg) : ∀ (f : Nat) (x1 : Int) (x2 : Int), Y Γ MX0_lastOnes K (emI K σ) K 4 [some (aR 73), some (aI x1), some (aI x2)] [] σ (vX0_lastOnes_4 K σ f x1 x2) := by
  intro f
  induction f with
  | zero => intro x1 x2; exact y_none
  | succ f ih =>
    intro x1 x2
    rw [vX0_lastOnes_4]
    refine y_iload_n dX0_lastOnes_4 rfl rfl ?_
    refine y_iconst dX0_lastOnes_5 (by decide) ?_
    refine y_aload_n dX0_lastOnes_6 rfl rfl ?_
    refine y_getR fX0_35 (lcO_73 hC) rfl (lcR_73_0 hC) dX0_lastOnes_7 ?_
    refine y_getI fX0_39 (lcO_13 hC) rfl dX0_lastOnes_10 ?_
    refine y_ishl dX0_lastOnes_13 ?_
    refine y_ite (fun h1 => ?_) (fun h1 => ?_)
    · refine y_icmp_ge_f dX0_lastOnes_14 (t := 40) rfl h1 ?_
      refine y_aload_n dX0_lastOnes_17 rfl rfl ?_
      refine y_getR fX0_22 (lcO_73 hC) rfl (lcR_73_4 hC) dX0_lastOnes_18 ?_
      refine y_iload_n dX0_lastOnes_21 rfl rfl ?_
      refine yk_baload (lcA_77 hC) (N := 256) rfl (j := x2.toNat) rfl dX0_lastOnes_22 ?_
      refine y_ite (fun h2 => ?_) (fun h2 => ?_)
      · refine y_if_eq_t dX0_lastOnes_23 (t := 34) rfl h2 ?_
        refine yk_iinc dX0_lastOnes_34 rfl (L' := [some (aR 73), some (aI x1), some (aI (x2 + 1))]) rfl ?_
        refine y_goto dX0_lastOnes_37 (t := 4) rfl ?_
        exact ih x1 (x2 + 1)
      · refine y_if_eq_f dX0_lastOnes_23 (t := 34) rfl h2 ?_
        refine y_iload_n dX0_lastOnes_26 rfl rfl ?_
        refine y_aload_n dX0_lastOnes_27 rfl rfl ?_
        refine y_iload_n dX0_lastOnes_28 rfl rfl ?_
        refine y_cvI (qX0_lastIn hC x2 σ) kX0_91 rfl (lcO_73 hC) rfl (by decide) rfl (Nat.le_of_ble_eq_true rfl) dX0_lastOnes_29 (fun r3 => ?_)
        refine y_ior dX0_lastOnes_32 ?_
        refine yn_istore_n dX0_lastOnes_33 rfl (Nat.le_of_ble_eq_true rfl) (L' := fun z4 => [some (aR 73), some (aI z4), some (aI x2)]) (fun _ => rfl) (fun z4 => ?_)
        refine yk_iinc dX0_lastOnes_34 rfl (L' := [some (aR 73), some (aI z4), some (aI (x2 + 1))]) rfl ?_
        refine y_goto dX0_lastOnes_37 (t := 4) rfl ?_
        exact ih z4 (x2 + 1)
    · refine y_icmp_ge_t dX0_lastOnes_14 (t := 40) rfl h1 ?_
      refine y_iload_n dX0_lastOnes_40 rfl rfl ?_
      exact y_iret rfl rfl dX0_lastOnes_41
noncomputable def vX0_lastOnes (K : Kt) (σ : Sg) : Option (Int) := vX0_lastOnes_4 K σ FU 0 0
set_option maxRecDepth 100000 in
set_option maxHeartbeats 4000000 in
theorem tX0_lastOnes {Γ : Gx} {K : Kt} (hC : cLay K) (σ : Sg) : Y Γ MX0_lastOnes K (emI K σ) K 0 [some (aR 73), none, none] [] σ (vX0_lastOnes K σ) := by
  unfold vX0_lastOnes
  refine y_iconst dX0_lastOnes_0 (by decide) ?_
  refine y_istore_n dX0_lastOnes_1 rfl (Nat.le_of_ble_eq_true rfl) (L' := [some (aR 73), some (aI 0), none]) rfl ?_
  refine y_iconst dX0_lastOnes_2 (by decide) ?_
  refine y_istore_n dX0_lastOnes_3 rfl (Nat.le_of_ble_eq_true rfl) (L' := [some (aR 73), some (aI 0), some (aI 0)]) rfl ?_
  exact tX0_lastOnes_4 hC σ FU 0 0
theorem qX0_lastOnes {K : Kt} (hC : cLay K) (σ : Sg) : Cc MX0_lastOnes K [aR 73] σ (emI K σ) (vX0_lastOnes K σ) := cc_of plX0 (Nat.le_of_ble_eq_true rfl) (fun o _ => ⟨Nat.le_refl _, Nat.le_refl _⟩) (fun Γ => tX0_lastOnes hC σ)
noncomputable def vX0_wantsMore (K : Kt) (p1 : Int) (p2 : Int) (σ : Sg) : Option (Int) := ck (0 ≤ p2 ∧ p2 < 8) (nm (σ 15 p2.toNat) (fun z1 => ck (0 ≤ p1 ∧ p1 < 8) (if (σ 15 p1.toNat) = z1 then (some 0) else (ck (0 ≤ p1 ∧ p1 < 8) (if (bAnd z1 (bXor (σ 15 p1.toNat) (-1))) = 0 then (some 1) else (some 0))))))
set_option maxRecDepth 100000 in
set_option maxHeartbeats 4000000 in
theorem tX0_wantsMore {Γ : Gx} {K : Kt} (hC : cLay K) (p1 : Int) (p2 : Int) (σ : Sg) : Y Γ MX0_wantsMore K (emI K σ) K 0 [some (aR 73), some (aI p1), some (aI p2), none] [] σ (vX0_wantsMore K p1 p2 σ) := by
  unfold vX0_wantsMore
  refine y_aload_n dX0_wantsMore_0 rfl rfl ?_
  refine y_getR fX0_35 (lcO_73 hC) rfl (lcR_73_0 hC) dX0_wantsMore_1 ?_
  refine y_getR fX0_106 (lcO_13 hC) rfl (lcR_13_5 hC) dX0_wantsMore_4 ?_
  refine y_iload_n dX0_wantsMore_7 rfl rfl ?_
  refine yk_iaload (lcA_15 hC) (N := 8) rfl (j := p2.toNat) rfl dX0_wantsMore_8 ?_
  refine yn_istore_n dX0_wantsMore_9 rfl (Nat.le_of_ble_eq_true rfl) (L' := fun z1 => [some (aR 73), some (aI p1), some (aI p2), some (aI z1)]) (fun _ => rfl) (fun z1 => ?_)
  refine y_aload_n dX0_wantsMore_10 rfl rfl ?_
  refine y_getR fX0_35 (lcO_73 hC) rfl (lcR_73_0 hC) dX0_wantsMore_11 ?_
  refine y_getR fX0_106 (lcO_13 hC) rfl (lcR_13_5 hC) dX0_wantsMore_14 ?_
  refine y_iload_n dX0_wantsMore_17 rfl rfl ?_
  refine yk_iaload (lcA_15 hC) (N := 8) rfl (j := p1.toNat) rfl dX0_wantsMore_18 ?_
  refine y_iload_n dX0_wantsMore_19 rfl rfl ?_
  refine y_ite (fun h2 => ?_) (fun h2 => ?_)
  · refine y_icmp_eq_t dX0_wantsMore_20 (t := 43) rfl h2 ?_
    refine y_iconst dX0_wantsMore_43 (by decide) ?_
    exact y_zret (by decide) rfl rfl dX0_wantsMore_44
  · refine y_icmp_eq_f dX0_wantsMore_20 (t := 43) rfl h2 ?_
    refine y_iload_n dX0_wantsMore_23 rfl rfl ?_
    refine y_aload_n dX0_wantsMore_24 rfl rfl ?_
    refine y_getR fX0_35 (lcO_73 hC) rfl (lcR_73_0 hC) dX0_wantsMore_25 ?_
    refine y_getR fX0_106 (lcO_13 hC) rfl (lcR_13_5 hC) dX0_wantsMore_28 ?_
    refine y_iload_n dX0_wantsMore_31 rfl rfl ?_
    refine yk_iaload (lcA_15 hC) (N := 8) rfl (j := p1.toNat) rfl dX0_wantsMore_32 ?_
    refine y_iconst dX0_wantsMore_33 (by decide) ?_
    refine y_ixor dX0_wantsMore_34 ?_
    refine y_iand dX0_wantsMore_35 ?_
    refine y_ite (fun h3 => ?_) (fun h3 => ?_)
    · refine y_if_ne_f dX0_wantsMore_36 (t := 43) rfl h3 ?_
      refine y_iconst dX0_wantsMore_39 (by decide) ?_
      refine y_goto dX0_wantsMore_40 (t := 44) rfl ?_
      exact y_zret (by decide) rfl rfl dX0_wantsMore_44
    · refine y_if_ne_t dX0_wantsMore_36 (t := 43) rfl h3 ?_
      refine y_iconst dX0_wantsMore_43 (by decide) ?_
      exact y_zret (by decide) rfl rfl dX0_wantsMore_44
theorem qX0_wantsMore {K : Kt} (hC : cLay K) (p1 : Int) (p2 : Int) (σ : Sg) : Cc MX0_wantsMore K [aR 73, aI p1, aI p2] σ (emI K σ) (vX0_wantsMore K p1 p2 σ) := cc_of plX0 (Nat.le_of_ble_eq_true rfl) (fun o _ => ⟨Nat.le_refl _, Nat.le_refl _⟩) (fun Γ => tX0_wantsMore hC p1 p2 σ)
noncomputable def vX0_longestBehind_4 (K : Kt) (σ : Sg) : Nat → Int → Int → Int → Option (Int)
  | 0, _, _, _ => none
  | f + 1, x1, x2, x3 => if x3 < (σ 13 1) then ((vX0_wantsMore K x3 x1 σ).bind (fun r2 => if r2 = 0 then (ck (in32 (x3 + 1)) (vX0_longestBehind_4 K σ f x1 x2 (x3 + 1))) else (ck (0 ≤ x3 ∧ x3 < 8) (nm (imax x2 (σ 79 x3.toNat)) (fun z4 => ck (in32 (x3 + 1)) (vX0_longestBehind_4 K σ f x1 z4 (x3 + 1))))))) else (some x2)
set_option maxRecDepth 100000 in
set_option maxHeartbeats 4000000 in
theorem tX0_longestBehind_4 {Γ : Gx} {K : Kt} (hC : cLay K) (σ : Sg) : ∀ (f : Nat) (x1 : Int) (x2 : Int) (x3 : Int), Y Γ MX0_longestBehind K (emI K σ) K 4 [some (aR 73), some (aI x1), some (aI x2), some (aI x3)] [] σ (vX0_longestBehind_4 K σ f x1 x2 x3) := by
  intro f
  induction f with
  | zero => intro x1 x2 x3; exact y_none
  | succ f ih =>
    intro x1 x2 x3
    rw [vX0_longestBehind_4]
    refine y_iload_n dX0_longestBehind_4 rfl rfl ?_
    refine y_aload_n dX0_longestBehind_5 rfl rfl ?_
    refine y_getR fX0_35 (lcO_73 hC) rfl (lcR_73_0 hC) dX0_longestBehind_6 ?_
    refine y_getI fX0_39 (lcO_13 hC) rfl dX0_longestBehind_9 ?_
    refine y_ite (fun h1 => ?_) (fun h1 => ?_)
    · refine y_icmp_ge_f dX0_longestBehind_12 (t := 41) rfl h1 ?_
      refine y_aload_n dX0_longestBehind_15 rfl rfl ?_
      refine y_iload_n dX0_longestBehind_16 rfl rfl ?_
      refine y_iload_n dX0_longestBehind_17 rfl rfl ?_
      refine y_cvI (qX0_wantsMore hC x3 x1 σ) kX0_112 rfl (lcO_73 hC) rfl (by decide) rfl (Nat.le_of_ble_eq_true rfl) dX0_longestBehind_18 (fun r2 => ?_)
      refine y_ite (fun h3 => ?_) (fun h3 => ?_)
      · refine y_if_eq_t dX0_longestBehind_21 (t := 35) rfl h3 ?_
        refine yk_iinc dX0_longestBehind_35 rfl (L' := [some (aR 73), some (aI x1), some (aI x2), some (aI (x3 + 1))]) rfl ?_
        refine y_goto dX0_longestBehind_38 (t := 4) rfl ?_
        exact ih x1 x2 (x3 + 1)
      · refine y_if_eq_f dX0_longestBehind_21 (t := 35) rfl h3 ?_
        refine y_iload_n dX0_longestBehind_24 rfl rfl ?_
        refine y_aload_n dX0_longestBehind_25 rfl rfl ?_
        refine y_getR fX0_28 (lcO_73 hC) rfl (lcR_73_6 hC) dX0_longestBehind_26 ?_
        refine y_iload_n dX0_longestBehind_29 rfl rfl ?_
        refine yk_iaload (lcA_79 hC) (N := 8) rfl (j := x3.toNat) rfl dX0_longestBehind_30 ?_
        refine y_imax mX0_97 (by decide) (Nat.le_of_ble_eq_true rfl) dX0_longestBehind_31 ?_
        refine yn_istore_n dX0_longestBehind_34 rfl (Nat.le_of_ble_eq_true rfl) (L' := fun z4 => [some (aR 73), some (aI x1), some (aI z4), some (aI x3)]) (fun _ => rfl) (fun z4 => ?_)
        refine yk_iinc dX0_longestBehind_35 rfl (L' := [some (aR 73), some (aI x1), some (aI z4), some (aI (x3 + 1))]) rfl ?_
        refine y_goto dX0_longestBehind_38 (t := 4) rfl ?_
        exact ih x1 z4 (x3 + 1)
    · refine y_icmp_ge_t dX0_longestBehind_12 (t := 41) rfl h1 ?_
      refine y_iload_n dX0_longestBehind_41 rfl rfl ?_
      exact y_iret rfl rfl dX0_longestBehind_42
noncomputable def vX0_longestBehind (K : Kt) (p1 : Int) (σ : Sg) : Option (Int) := vX0_longestBehind_4 K σ FU p1 0 0
set_option maxRecDepth 100000 in
set_option maxHeartbeats 4000000 in
theorem tX0_longestBehind {Γ : Gx} {K : Kt} (hC : cLay K) (p1 : Int) (σ : Sg) : Y Γ MX0_longestBehind K (emI K σ) K 0 [some (aR 73), some (aI p1), none, none] [] σ (vX0_longestBehind K p1 σ) := by
  unfold vX0_longestBehind
  refine y_iconst dX0_longestBehind_0 (by decide) ?_
  refine y_istore_n dX0_longestBehind_1 rfl (Nat.le_of_ble_eq_true rfl) (L' := [some (aR 73), some (aI p1), some (aI 0), none]) rfl ?_
  refine y_iconst dX0_longestBehind_2 (by decide) ?_
  refine y_istore_n dX0_longestBehind_3 rfl (Nat.le_of_ble_eq_true rfl) (L' := [some (aR 73), some (aI p1), some (aI 0), some (aI 0)]) rfl ?_
  exact tX0_longestBehind_4 hC σ FU p1 0 0
theorem qX0_longestBehind {K : Kt} (hC : cLay K) (p1 : Int) (σ : Sg) : Cc MX0_longestBehind K [aR 73, aI p1] σ (emI K σ) (vX0_longestBehind K p1 σ) := cc_of plX0 (Nat.le_of_ble_eq_true rfl) (fun o _ => ⟨Nat.le_refl _, Nat.le_refl _⟩) (fun Γ => tX0_longestBehind hC p1 σ)
noncomputable def vX0_fillLongest_9 (K : Kt) (rec_3 : Int → Sg → Option (Sg)) : Nat → Int → Int → Sg → Option (Sg)
  | 0, _, _, _ => none
  | f + 1, x1, x2, σ => if x2 < (σ 13 1) then (ck (0 ≤ x2 ∧ x2 < 8) (if (σ 15 x2.toNat) = x1 then ((vX0_longestBehind K x2 σ).bind (fun r3 => ck (in32 (1 + r3)) (ck (0 ≤ x2 ∧ x2 < 8) (nm (up2 σ 79 x2.toNat (1 + r3)) (fun σ4 => ck (in32 (x2 + 1)) (vX0_fillLongest_9 K rec_3 f x1 (x2 + 1) σ4)))))) else (ck (in32 (x2 + 1)) (vX0_fillLongest_9 K rec_3 f x1 (x2 + 1) σ)))) else (ck (in32 (x1 + (-1))) (rec_3 (x1 + (-1)) σ))
set_option maxRecDepth 100000 in
set_option maxHeartbeats 4000000 in
theorem tX0_fillLongest_9 {Γ : Gx} {K : Kt} (hC : cLay K) (rec_3 : Int → Sg → Option (Sg)) (hrec_3 : ∀ (x1 : Int) (σ : Sg), Y Γ MX0_fillLongest K (emV K) K 3 [some (aR 73), some (aI x1), none] [] σ (rec_3 x1 σ)) : ∀ (f : Nat) (x1 : Int) (x2 : Int) (σ : Sg), Y Γ MX0_fillLongest K (emV K) K 9 [some (aR 73), some (aI x1), some (aI x2)] [] σ (vX0_fillLongest_9 K rec_3 f x1 x2 σ) := by
  intro f
  induction f with
  | zero => intro x1 x2 σ; exact y_none
  | succ f ih =>
    intro x1 x2 σ
    rw [vX0_fillLongest_9]
    refine y_iload_n dX0_fillLongest_9 rfl rfl ?_
    refine y_aload_n dX0_fillLongest_10 rfl rfl ?_
    refine y_getR fX0_35 (lcO_73 hC) rfl (lcR_73_0 hC) dX0_fillLongest_11 ?_
    refine y_getI fX0_39 (lcO_13 hC) rfl dX0_fillLongest_14 ?_
    refine y_ite (fun h1 => ?_) (fun h1 => ?_)
    · refine y_icmp_ge_f dX0_fillLongest_17 (t := 52) rfl h1 ?_
      refine y_aload_n dX0_fillLongest_20 rfl rfl ?_
      refine y_getR fX0_35 (lcO_73 hC) rfl (lcR_73_0 hC) dX0_fillLongest_21 ?_
      refine y_getR fX0_106 (lcO_13 hC) rfl (lcR_13_5 hC) dX0_fillLongest_24 ?_
      refine y_iload_n dX0_fillLongest_27 rfl rfl ?_
      refine yk_iaload (lcA_15 hC) (N := 8) rfl (j := x2.toNat) rfl dX0_fillLongest_28 ?_
      refine y_iload_n dX0_fillLongest_29 rfl rfl ?_
      refine y_ite (fun h2 => ?_) (fun h2 => ?_)
      · refine y_icmp_ne_f dX0_fillLongest_30 (t := 46) rfl h2 ?_
        refine y_aload_n dX0_fillLongest_33 rfl rfl ?_
        refine y_getR fX0_28 (lcO_73 hC) rfl (lcR_73_6 hC) dX0_fillLongest_34 ?_
        refine y_iload_n dX0_fillLongest_37 rfl rfl ?_
        refine y_iconst dX0_fillLongest_38 (by decide) ?_
        refine y_aload_n dX0_fillLongest_39 rfl rfl ?_
        refine y_iload_n dX0_fillLongest_40 rfl rfl ?_
        refine y_cvI (qX0_longestBehind hC x2 σ) kX0_109 rfl (lcO_73 hC) rfl (by decide) rfl (Nat.le_of_ble_eq_true rfl) dX0_fillLongest_41 (fun r3 => ?_)
        refine yk_iadd dX0_fillLongest_44 ?_
        refine yk_iastore (lcA_79 hC) (N := 8) rfl (j := x2.toNat) rfl dX0_fillLongest_45 (fun σ4 => ?_)
        refine yk_iinc dX0_fillLongest_46 rfl (L' := [some (aR 73), some (aI x1), some (aI (x2 + 1))]) rfl ?_
        refine y_goto dX0_fillLongest_49 (t := 9) rfl ?_
        exact ih x1 (x2 + 1) σ4
      · refine y_icmp_ne_t dX0_fillLongest_30 (t := 46) rfl h2 ?_
        refine yk_iinc dX0_fillLongest_46 rfl (L' := [some (aR 73), some (aI x1), some (aI (x2 + 1))]) rfl ?_
        refine y_goto dX0_fillLongest_49 (t := 9) rfl ?_
        exact ih x1 (x2 + 1) σ
    · refine y_icmp_ge_t dX0_fillLongest_17 (t := 52) rfl h1 ?_
      refine yk_iinc dX0_fillLongest_52 rfl (L' := [some (aR 73), some (aI (x1 + (-1))), some (aI x2)]) rfl ?_
      refine y_goto dX0_fillLongest_55 (t := 3) rfl ?_
      refine y_fg [true, true, false] (L' := [some (aR 73), some (aI (x1 + (-1))), none]) rfl ?_
      exact hrec_3 (x1 + (-1)) σ
noncomputable def vX0_fillLongest_3 (K : Kt) : Nat → Int → Sg → Option (Sg)
  | 0, _, _ => none
  | f + 1, x1, σ => if x1 < 0 then (some σ) else (vX0_fillLongest_9 K (vX0_fillLongest_3 K f) FU x1 0 σ)
set_option maxRecDepth 100000 in
set_option maxHeartbeats 4000000 in
theorem tX0_fillLongest_3 {Γ : Gx} {K : Kt} (hC : cLay K) : ∀ (f : Nat) (x1 : Int) (σ : Sg), Y Γ MX0_fillLongest K (emV K) K 3 [some (aR 73), some (aI x1), none] [] σ (vX0_fillLongest_3 K f x1 σ) := by
  intro f
  induction f with
  | zero => intro x1 σ; exact y_none
  | succ f ih =>
    intro x1 σ
    rw [vX0_fillLongest_3]
    refine y_iload_n dX0_fillLongest_3 rfl rfl ?_
    refine y_ite (fun h1 => ?_) (fun h1 => ?_)
    · refine y_if_lt_t dX0_fillLongest_4 (t := 58) rfl h1 ?_
      exact y_vret rfl rfl dX0_fillLongest_58
    · refine y_if_lt_f dX0_fillLongest_4 (t := 58) rfl h1 ?_
      refine y_iconst dX0_fillLongest_7 (by decide) ?_
      refine y_istore_n dX0_fillLongest_8 rfl (Nat.le_of_ble_eq_true rfl) (L' := [some (aR 73), some (aI x1), some (aI 0)]) rfl ?_
      exact tX0_fillLongest_9 hC (vX0_fillLongest_3 K f) ih FU x1 0 σ
noncomputable def vX0_fillLongest (K : Kt) (σ : Sg) : Option (Sg) := vX0_fillLongest_3 K FU 63 σ
set_option maxRecDepth 100000 in
set_option maxHeartbeats 4000000 in
theorem tX0_fillLongest {Γ : Gx} {K : Kt} (hC : cLay K) (σ : Sg) : Y Γ MX0_fillLongest K (emV K) K 0 [some (aR 73), none, none] [] σ (vX0_fillLongest K σ) := by
  unfold vX0_fillLongest
  refine y_bipush dX0_fillLongest_0 (by decide) (by decide) ?_
  refine y_istore_n dX0_fillLongest_2 rfl (Nat.le_of_ble_eq_true rfl) (L' := [some (aR 73), some (aI 63), none]) rfl ?_
  exact tX0_fillLongest_3 hC FU 63 σ
theorem qX0_fillLongest {K : Kt} (hC : cLay K) (σ : Sg) : Cc MX0_fillLongest K [aR 73] σ (emV K) (vX0_fillLongest K σ) := cc_of plX0 (Nat.le_of_ble_eq_true rfl) (fun o _ => ⟨Nat.le_refl _, Nat.le_refl _⟩) (fun Γ => tX0_fillLongest hC σ)
noncomputable def vX0_nextInNest_2 (K : Kt) (σ : Sg) : Nat → Int → Int → Int → Option (Int)
  | 0, _, _, _ => none
  | f + 1, x1, x2, x3 => if x3 < (σ 13 1) then (ck (0 ≤ x3 ∧ x3 < 8) (if (σ 79 x3.toNat) = x2 then (if x1 = (-1) then (some x3) else ((vX0_wantsMore K x3 x1 σ).bind (fun r4 => if r4 = 0 then (ck (in32 (x3 + 1)) (vX0_nextInNest_2 K σ f x1 x2 (x3 + 1))) else (some x3)))) else (ck (in32 (x3 + 1)) (vX0_nextInNest_2 K σ f x1 x2 (x3 + 1))))) else (some (-1))
set_option maxRecDepth 100000 in
set_option maxHeartbeats 4000000 in
theorem tX0_nextInNest_2 {Γ : Gx} {K : Kt} (hC : cLay K) (σ : Sg) : ∀ (f : Nat) (x1 : Int) (x2 : Int) (x3 : Int), Y Γ MX0_nextInNest K (emI K σ) K 2 [some (aR 73), some (aI x1), some (aI x2), some (aI x3)] [] σ (vX0_nextInNest_2 K σ f x1 x2 x3) := by
  intro f
  induction f with
  | zero => intro x1 x2 x3; exact y_none
  | succ f ih =>
    intro x1 x2 x3
    rw [vX0_nextInNest_2]
    refine y_iload_n dX0_nextInNest_2 rfl rfl ?_
    refine y_aload_n dX0_nextInNest_3 rfl rfl ?_
    refine y_getR fX0_35 (lcO_73 hC) rfl (lcR_73_0 hC) dX0_nextInNest_4 ?_
    refine y_getI fX0_39 (lcO_13 hC) rfl dX0_nextInNest_7 ?_
    refine y_ite (fun h1 => ?_) (fun h1 => ?_)
    · refine y_icmp_ge_f dX0_nextInNest_10 (t := 45) rfl h1 ?_
      refine y_aload_n dX0_nextInNest_13 rfl rfl ?_
      refine y_getR fX0_28 (lcO_73 hC) rfl (lcR_73_6 hC) dX0_nextInNest_14 ?_
      refine y_iload_n dX0_nextInNest_17 rfl rfl ?_
      refine yk_iaload (lcA_79 hC) (N := 8) rfl (j := x3.toNat) rfl dX0_nextInNest_18 ?_
      refine y_iload_n dX0_nextInNest_19 rfl rfl ?_
      refine y_ite (fun h2 => ?_) (fun h2 => ?_)
      · refine y_icmp_ne_f dX0_nextInNest_20 (t := 39) rfl h2 ?_
        refine y_iload_n dX0_nextInNest_23 rfl rfl ?_
        refine y_iconst dX0_nextInNest_24 (by decide) ?_
        refine y_ite (fun h3 => ?_) (fun h3 => ?_)
        · refine y_icmp_eq_t dX0_nextInNest_25 (t := 37) rfl h3 ?_
          refine y_iload_n dX0_nextInNest_37 rfl rfl ?_
          exact y_iret rfl rfl dX0_nextInNest_38
        · refine y_icmp_eq_f dX0_nextInNest_25 (t := 37) rfl h3 ?_
          refine y_aload_n dX0_nextInNest_28 rfl rfl ?_
          refine y_iload_n dX0_nextInNest_29 rfl rfl ?_
          refine y_iload_n dX0_nextInNest_30 rfl rfl ?_
          refine y_cvI (qX0_wantsMore hC x3 x1 σ) kX0_112 rfl (lcO_73 hC) rfl (by decide) rfl (Nat.le_of_ble_eq_true rfl) dX0_nextInNest_31 (fun r4 => ?_)
          refine y_ite (fun h5 => ?_) (fun h5 => ?_)
          · refine y_if_eq_t dX0_nextInNest_34 (t := 39) rfl h5 ?_
            refine yk_iinc dX0_nextInNest_39 rfl (L' := [some (aR 73), some (aI x1), some (aI x2), some (aI (x3 + 1))]) rfl ?_
            refine y_goto dX0_nextInNest_42 (t := 2) rfl ?_
            exact ih x1 x2 (x3 + 1)
          · refine y_if_eq_f dX0_nextInNest_34 (t := 39) rfl h5 ?_
            refine y_iload_n dX0_nextInNest_37 rfl rfl ?_
            exact y_iret rfl rfl dX0_nextInNest_38
      · refine y_icmp_ne_t dX0_nextInNest_20 (t := 39) rfl h2 ?_
        refine yk_iinc dX0_nextInNest_39 rfl (L' := [some (aR 73), some (aI x1), some (aI x2), some (aI (x3 + 1))]) rfl ?_
        refine y_goto dX0_nextInNest_42 (t := 2) rfl ?_
        exact ih x1 x2 (x3 + 1)
    · refine y_icmp_ge_t dX0_nextInNest_10 (t := 45) rfl h1 ?_
      refine y_iconst dX0_nextInNest_45 (by decide) ?_
      exact y_iret rfl rfl dX0_nextInNest_46
noncomputable def vX0_nextInNest (K : Kt) (p1 : Int) (p2 : Int) (σ : Sg) : Option (Int) := vX0_nextInNest_2 K σ FU p1 p2 0
set_option maxRecDepth 100000 in
set_option maxHeartbeats 4000000 in
theorem tX0_nextInNest {Γ : Gx} {K : Kt} (hC : cLay K) (p1 : Int) (p2 : Int) (σ : Sg) : Y Γ MX0_nextInNest K (emI K σ) K 0 [some (aR 73), some (aI p1), some (aI p2), none] [] σ (vX0_nextInNest K p1 p2 σ) := by
  unfold vX0_nextInNest
  refine y_iconst dX0_nextInNest_0 (by decide) ?_
  refine y_istore_n dX0_nextInNest_1 rfl (Nat.le_of_ble_eq_true rfl) (L' := [some (aR 73), some (aI p1), some (aI p2), some (aI 0)]) rfl ?_
  exact tX0_nextInNest_2 hC σ FU p1 p2 0
theorem qX0_nextInNest {K : Kt} (hC : cLay K) (p1 : Int) (p2 : Int) (σ : Sg) : Cc MX0_nextInNest K [aR 73, aI p1, aI p2] σ (emI K σ) (vX0_nextInNest K p1 p2 σ) := cc_of plX0 (Nat.le_of_ble_eq_true rfl) (fun o _ => ⟨Nat.le_refl _, Nat.le_refl _⟩) (fun Γ => tX0_nextInNest hC p1 p2 σ)
noncomputable def vX0_longestNest_48 (K : Kt) : Nat → Int → Int → Int → Int → Sg → Option (Int × Sg)
  | 0, _, _, _, _, _ => none
  | f + 1, x1, x2, x3, x4, σ => if x4 < x2 then (ck (in32 (x2 - x4)) ((vX0_nextInNest K x3 (x2 - x4) σ).bind (fun r2 => if x4 = x1 then (some (r2, σ)) else (if r2 = (-1) then (some (r2, σ)) else (ck (in32 (x4 + 1)) (vX0_longestNest_48 K f x1 x2 r2 (x4 + 1) σ)))))) else (some ((-1), σ))
set_option maxRecDepth 100000 in
set_option maxHeartbeats 4000000 in
theorem tX0_longestNest_48 {Γ : Gx} {K : Kt} (hC : cLay K) : ∀ (f : Nat) (x1 : Int) (x2 : Int) (x3 : Int) (x4 : Int) (σ : Sg), Y Γ MX0_longestNest K (emIS K) K 48 [some (aR 73), some (aI x1), some (aI x2), some (aI x3), some (aI x4)] [] σ (vX0_longestNest_48 K f x1 x2 x3 x4 σ) := by
  intro f
  induction f with
  | zero => intro x1 x2 x3 x4 σ; exact y_none
  | succ f ih =>
    intro x1 x2 x3 x4 σ
    rw [vX0_longestNest_48]
    refine y_iload dX0_longestNest_48 rfl ?_
    refine y_iload_n dX0_longestNest_50 rfl rfl ?_
    refine y_ite (fun h1 => ?_) (fun h1 => ?_)
    · refine y_icmp_ge_f dX0_longestNest_51 (t := 83) rfl h1 ?_
      refine y_aload_n dX0_longestNest_54 rfl rfl ?_
      refine y_iload_n dX0_longestNest_55 rfl rfl ?_
      refine y_iload_n dX0_longestNest_56 rfl rfl ?_
      refine y_iload dX0_longestNest_57 rfl ?_
      refine yk_isub dX0_longestNest_59 ?_
      refine y_cvI (qX0_nextInNest hC x3 (x2 - x4) σ) kX0_103 rfl (lcO_73 hC) rfl (by decide) rfl (Nat.le_of_ble_eq_true rfl) dX0_longestNest_60 (fun r2 => ?_)
      refine y_istore_n dX0_longestNest_63 rfl (Nat.le_of_ble_eq_true rfl) (L' := [some (aR 73), some (aI x1), some (aI x2), some (aI r2), some (aI x4)]) rfl ?_
      refine y_iload dX0_longestNest_64 rfl ?_
      refine y_iload_n dX0_longestNest_66 rfl rfl ?_
      refine y_ite (fun h3 => ?_) (fun h3 => ?_)
      · refine y_icmp_eq_t dX0_longestNest_67 (t := 75) rfl h3 ?_
        refine y_iload_n dX0_longestNest_75 rfl rfl ?_
        exact y_iret rfl rfl dX0_longestNest_76
      · refine y_icmp_eq_f dX0_longestNest_67 (t := 75) rfl h3 ?_
        refine y_iload_n dX0_longestNest_70 rfl rfl ?_
        refine y_iconst dX0_longestNest_71 (by decide) ?_
        refine y_ite (fun h4 => ?_) (fun h4 => ?_)
        · refine y_icmp_ne_f dX0_longestNest_72 (t := 77) rfl h4 ?_
          refine y_iload_n dX0_longestNest_75 rfl rfl ?_
          exact y_iret rfl rfl dX0_longestNest_76
        · refine y_icmp_ne_t dX0_longestNest_72 (t := 77) rfl h4 ?_
          refine yk_iinc dX0_longestNest_77 rfl (L' := [some (aR 73), some (aI x1), some (aI x2), some (aI r2), some (aI (x4 + 1))]) rfl ?_
          refine y_goto dX0_longestNest_80 (t := 48) rfl ?_
          exact ih x1 x2 r2 (x4 + 1) σ
    · refine y_icmp_ge_t dX0_longestNest_51 (t := 83) rfl h1 ?_
      refine y_iconst dX0_longestNest_83 (by decide) ?_
      exact y_iret rfl rfl dX0_longestNest_84
noncomputable def vX0_longestNest_8 (K : Kt) : Nat → Int → Int → Int → Sg → Option (Int × Sg)
  | 0, _, _, _, _ => none
  | f + 1, x1, x2, x3, σ => if x3 < (σ 13 1) then (ck (0 ≤ x3 ∧ x3 < 8) (nm (imax x2 (σ 79 x3.toNat)) (fun z2 => ck (in32 (x3 + 1)) (vX0_longestNest_8 K f x1 z2 (x3 + 1) σ)))) else (if x1 = (-1) then (some (x2, σ)) else (vX0_longestNest_48 K FU x1 x2 (-1) 0 σ))
set_option maxRecDepth 100000 in
set_option maxHeartbeats 4000000 in
theorem tX0_longestNest_8 {Γ : Gx} {K : Kt} (hC : cLay K) : ∀ (f : Nat) (x1 : Int) (x2 : Int) (x3 : Int) (σ : Sg), Y Γ MX0_longestNest K (emIS K) K 8 [some (aR 73), some (aI x1), some (aI x2), some (aI x3), none] [] σ (vX0_longestNest_8 K f x1 x2 x3 σ) := by
  intro f
  induction f with
  | zero => intro x1 x2 x3 σ; exact y_none
  | succ f ih =>
    intro x1 x2 x3 σ
    rw [vX0_longestNest_8]
    refine y_iload_n dX0_longestNest_8 rfl rfl ?_
    refine y_aload_n dX0_longestNest_9 rfl rfl ?_
    refine y_getR fX0_35 (lcO_73 hC) rfl (lcR_73_0 hC) dX0_longestNest_10 ?_
    refine y_getI fX0_39 (lcO_13 hC) rfl dX0_longestNest_13 ?_
    refine y_ite (fun h1 => ?_) (fun h1 => ?_)
    · refine y_icmp_ge_f dX0_longestNest_16 (t := 36) rfl h1 ?_
      refine y_iload_n dX0_longestNest_19 rfl rfl ?_
      refine y_aload_n dX0_longestNest_20 rfl rfl ?_
      refine y_getR fX0_28 (lcO_73 hC) rfl (lcR_73_6 hC) dX0_longestNest_21 ?_
      refine y_iload_n dX0_longestNest_24 rfl rfl ?_
      refine yk_iaload (lcA_79 hC) (N := 8) rfl (j := x3.toNat) rfl dX0_longestNest_25 ?_
      refine y_imax mX0_97 (by decide) (Nat.le_of_ble_eq_true rfl) dX0_longestNest_26 ?_
      refine yn_istore_n dX0_longestNest_29 rfl (Nat.le_of_ble_eq_true rfl) (L' := fun z2 => [some (aR 73), some (aI x1), some (aI z2), some (aI x3), none]) (fun _ => rfl) (fun z2 => ?_)
      refine yk_iinc dX0_longestNest_30 rfl (L' := [some (aR 73), some (aI x1), some (aI z2), some (aI (x3 + 1)), none]) rfl ?_
      refine y_goto dX0_longestNest_33 (t := 8) rfl ?_
      exact ih x1 z2 (x3 + 1) σ
    · refine y_icmp_ge_t dX0_longestNest_16 (t := 36) rfl h1 ?_
      refine y_iload_n dX0_longestNest_36 rfl rfl ?_
      refine y_iconst dX0_longestNest_37 (by decide) ?_
      refine y_ite (fun h3 => ?_) (fun h3 => ?_)
      · refine y_icmp_ne_f dX0_longestNest_38 (t := 43) rfl h3 ?_
        refine y_iload_n dX0_longestNest_41 rfl rfl ?_
        exact y_iret rfl rfl dX0_longestNest_42
      · refine y_icmp_ne_t dX0_longestNest_38 (t := 43) rfl h3 ?_
        refine y_iconst dX0_longestNest_43 (by decide) ?_
        refine y_istore_n dX0_longestNest_44 rfl (Nat.le_of_ble_eq_true rfl) (L' := [some (aR 73), some (aI x1), some (aI x2), some (aI (-1)), none]) rfl ?_
        refine y_iconst dX0_longestNest_45 (by decide) ?_
        refine y_istore dX0_longestNest_46 (Nat.le_of_ble_eq_true rfl) (L' := [some (aR 73), some (aI x1), some (aI x2), some (aI (-1)), some (aI 0)]) rfl ?_
        exact tX0_longestNest_48 hC FU x1 x2 (-1) 0 σ
noncomputable def vX0_longestNest (K : Kt) (p1 : Int) (σ : Sg) : Option (Int × Sg) := (vX0_fillLongest K σ).bind (fun σ1 => vX0_longestNest_8 K FU p1 0 0 σ1)
set_option maxRecDepth 100000 in
set_option maxHeartbeats 4000000 in
theorem tX0_longestNest {Γ : Gx} {K : Kt} (hC : cLay K) (p1 : Int) (σ : Sg) : Y Γ MX0_longestNest K (emIS K) K 0 [some (aR 73), some (aI p1), none, none, none] [] σ (vX0_longestNest K p1 σ) := by
  unfold vX0_longestNest
  refine y_aload_n dX0_longestNest_0 rfl rfl ?_
  refine y_cvV (qX0_fillLongest hC σ) kX0_100 rfl (lcO_73 hC) rfl (by decide) rfl (Nat.le_of_ble_eq_true rfl) dX0_longestNest_1 (fun σ1 => ?_)
  refine y_iconst dX0_longestNest_4 (by decide) ?_
  refine y_istore_n dX0_longestNest_5 rfl (Nat.le_of_ble_eq_true rfl) (L' := [some (aR 73), some (aI p1), some (aI 0), none, none]) rfl ?_
  refine y_iconst dX0_longestNest_6 (by decide) ?_
  refine y_istore_n dX0_longestNest_7 rfl (Nat.le_of_ble_eq_true rfl) (L' := [some (aR 73), some (aI p1), some (aI 0), some (aI 0), none]) rfl ?_
  exact tX0_longestNest_8 hC FU p1 0 0 σ1
theorem qX0_longestNest {K : Kt} (hC : cLay K) (p1 : Int) (σ : Sg) : Cc MX0_longestNest K [aR 73, aI p1] σ (emIS K) (vX0_longestNest K p1 σ) := cc_of plX0 (Nat.le_of_ble_eq_true rfl) (fun o _ => ⟨Nat.le_refl _, Nat.le_refl _⟩) (fun Γ => tX0_longestNest hC p1 σ)
noncomputable def vX0_fittedBy_18 (K : Kt) (σ : Sg) (rec_4 : Int → Int → Int → Option (Int)) : Nat → Int → Int → Int → Int → Option (Int)
  | 0, _, _, _, _ => none
  | f + 1, x1, x2, x3, x4 => if x4 < (σ 13 1) then (if (bAnd x1 (bShl 1 x3)) = 0 then (ck (in32 (x4 + 1)) (vX0_fittedBy_18 K σ rec_4 f x1 x2 x3 (x4 + 1))) else (ck (0 ≤ x3 ∧ x3 < 6) ((vX1_fits K 13 (σ 18 x3.toNat) x4 σ).bind (fun r3 => if r3 = 0 then (ck (in32 (x4 + 1)) (vX0_fittedBy_18 K σ rec_4 f x1 x2 x3 (x4 + 1))) else (nm (bOr x2 (bShl 1 x4)) (fun z5 => ck (in32 (x4 + 1)) (vX0_fittedBy_18 K σ rec_4 f x1 z5 x3 (x4 + 1)))))))) else (ck (in32 (x3 + 1)) (rec_4 x1 x2 (x3 + 1)))
set_option maxRecDepth 100000 in
set_option maxHeartbeats 4000000 in
theorem tX0_fittedBy_18 {Γ : Gx} {K : Kt} (hC : cLay K) (σ : Sg) (rec_4 : Int → Int → Int → Option (Int)) (hrec_4 : ∀ (x1 : Int) (x2 : Int) (x3 : Int), Y Γ MX0_fittedBy K (emI K σ) K 4 [some (aR 73), some (aI x1), some (aI x2), some (aI x3), none] [] σ (rec_4 x1 x2 x3)) : ∀ (f : Nat) (x1 : Int) (x2 : Int) (x3 : Int) (x4 : Int), Y Γ MX0_fittedBy K (emI K σ) K 18 [some (aR 73), some (aI x1), some (aI x2), some (aI x3), some (aI x4)] [] σ (vX0_fittedBy_18 K σ rec_4 f x1 x2 x3 x4) := by
  intro f
  induction f with
  | zero => intro x1 x2 x3 x4; exact y_none
  | succ f ih =>
    intro x1 x2 x3 x4
    rw [vX0_fittedBy_18]
    refine y_iload dX0_fittedBy_18 rfl ?_
    refine y_aload_n dX0_fittedBy_20 rfl rfl ?_
    refine y_getR fX0_35 (lcO_73 hC) rfl (lcR_73_0 hC) dX0_fittedBy_21 ?_
    refine y_getI fX0_39 (lcO_13 hC) rfl dX0_fittedBy_24 ?_
    refine y_ite (fun h1 => ?_) (fun h1 => ?_)
    · refine y_icmp_ge_f dX0_fittedBy_27 (t := 72) rfl h1 ?_
      refine y_iload_n dX0_fittedBy_30 rfl rfl ?_
      refine y_iconst dX0_fittedBy_31 (by decide) ?_
      refine y_iload_n dX0_fittedBy_32 rfl rfl ?_
      refine y_ishl dX0_fittedBy_33 ?_
      refine y_iand dX0_fittedBy_34 ?_
      refine y_ite (fun h2 => ?_) (fun h2 => ?_)
      · refine y_if_eq_t dX0_fittedBy_35 (t := 66) rfl h2 ?_
        refine yk_iinc dX0_fittedBy_66 rfl (L' := [some (aR 73), some (aI x1), some (aI x2), some (aI x3), some (aI (x4 + 1))]) rfl ?_
        refine y_goto dX0_fittedBy_69 (t := 18) rfl ?_
        exact ih x1 x2 x3 (x4 + 1)
      · refine y_if_eq_f dX0_fittedBy_35 (t := 66) rfl h2 ?_
        refine y_aload_n dX0_fittedBy_38 rfl rfl ?_
        refine y_getR fX0_35 (lcO_73 hC) rfl (lcR_73_0 hC) dX0_fittedBy_39 ?_
        refine y_aload_n dX0_fittedBy_42 rfl rfl ?_
        refine y_getR fX0_35 (lcO_73 hC) rfl (lcR_73_0 hC) dX0_fittedBy_43 ?_
        refine y_getR fX0_118 (lcO_13 hC) rfl (lcR_13_8 hC) dX0_fittedBy_46 ?_
        refine y_iload_n dX0_fittedBy_49 rfl rfl ?_
        refine yk_iaload (lcA_18 hC) (N := 6) rfl (j := x3.toNat) rfl dX0_fittedBy_50 ?_
        refine y_iload dX0_fittedBy_51 rfl ?_
        refine y_cvI (qX1_fits (hPre_13 hC) (σ 18 x3.toNat) x4 σ) kX0_85 rfl (lcO_13 hC) rfl (by decide) rfl (Nat.le_of_ble_eq_true rfl) dX0_fittedBy_53 (fun r3 => ?_)
        refine y_ite (fun h4 => ?_) (fun h4 => ?_)
        · refine y_if_eq_t dX0_fittedBy_56 (t := 66) rfl h4 ?_
          refine yk_iinc dX0_fittedBy_66 rfl (L' := [some (aR 73), some (aI x1), some (aI x2), some (aI x3), some (aI (x4 + 1))]) rfl ?_
          refine y_goto dX0_fittedBy_69 (t := 18) rfl ?_
          exact ih x1 x2 x3 (x4 + 1)
        · refine y_if_eq_f dX0_fittedBy_56 (t := 66) rfl h4 ?_
          refine y_iload_n dX0_fittedBy_59 rfl rfl ?_
          refine y_iconst dX0_fittedBy_60 (by decide) ?_
          refine y_iload dX0_fittedBy_61 rfl ?_
          refine y_ishl dX0_fittedBy_63 ?_
          refine y_ior dX0_fittedBy_64 ?_
          refine yn_istore_n dX0_fittedBy_65 rfl (Nat.le_of_ble_eq_true rfl) (L' := fun z5 => [some (aR 73), some (aI x1), some (aI z5), some (aI x3), some (aI x4)]) (fun _ => rfl) (fun z5 => ?_)
          refine yk_iinc dX0_fittedBy_66 rfl (L' := [some (aR 73), some (aI x1), some (aI z5), some (aI x3), some (aI (x4 + 1))]) rfl ?_
          refine y_goto dX0_fittedBy_69 (t := 18) rfl ?_
          exact ih x1 z5 x3 (x4 + 1)
    · refine y_icmp_ge_t dX0_fittedBy_27 (t := 72) rfl h1 ?_
      refine yk_iinc dX0_fittedBy_72 rfl (L' := [some (aR 73), some (aI x1), some (aI x2), some (aI (x3 + 1)), some (aI x4)]) rfl ?_
      refine y_goto dX0_fittedBy_75 (t := 4) rfl ?_
      refine y_fg [true, true, true, true, false] (L' := [some (aR 73), some (aI x1), some (aI x2), some (aI (x3 + 1)), none]) rfl ?_
      exact hrec_4 x1 x2 (x3 + 1)
noncomputable def vX0_fittedBy_4 (K : Kt) (σ : Sg) : Nat → Int → Int → Int → Option (Int)
  | 0, _, _, _ => none
  | f + 1, x1, x2, x3 => if x3 < (σ 13 2) then (vX0_fittedBy_18 K σ (vX0_fittedBy_4 K σ f) FU x1 x2 x3 0) else (some x2)
set_option maxRecDepth 100000 in
set_option maxHeartbeats 4000000 in
theorem tX0_fittedBy_4 {Γ : Gx} {K : Kt} (hC : cLay K) (σ : Sg) : ∀ (f : Nat) (x1 : Int) (x2 : Int) (x3 : Int), Y Γ MX0_fittedBy K (emI K σ) K 4 [some (aR 73), some (aI x1), some (aI x2), some (aI x3), none] [] σ (vX0_fittedBy_4 K σ f x1 x2 x3) := by
  intro f
  induction f with
  | zero => intro x1 x2 x3; exact y_none
  | succ f ih =>
    intro x1 x2 x3
    rw [vX0_fittedBy_4]
    refine y_iload_n dX0_fittedBy_4 rfl rfl ?_
    refine y_aload_n dX0_fittedBy_5 rfl rfl ?_
    refine y_getR fX0_35 (lcO_73 hC) rfl (lcR_73_0 hC) dX0_fittedBy_6 ?_
    refine y_getI fX0_49 (lcO_13 hC) rfl dX0_fittedBy_9 ?_
    refine y_ite (fun h1 => ?_) (fun h1 => ?_)
    · refine y_icmp_ge_f dX0_fittedBy_12 (t := 78) rfl h1 ?_
      refine y_iconst dX0_fittedBy_15 (by decide) ?_
      refine y_istore dX0_fittedBy_16 (Nat.le_of_ble_eq_true rfl) (L' := [some (aR 73), some (aI x1), some (aI x2), some (aI x3), some (aI 0)]) rfl ?_
      exact tX0_fittedBy_18 hC σ (vX0_fittedBy_4 K σ f) ih FU x1 x2 x3 0
    · refine y_icmp_ge_t dX0_fittedBy_12 (t := 78) rfl h1 ?_
      refine y_iload_n dX0_fittedBy_78 rfl rfl ?_
      exact y_iret rfl rfl dX0_fittedBy_79
noncomputable def vX0_fittedBy (K : Kt) (p1 : Int) (σ : Sg) : Option (Int) := vX0_fittedBy_4 K σ FU p1 0 0
set_option maxRecDepth 100000 in
set_option maxHeartbeats 4000000 in
theorem tX0_fittedBy {Γ : Gx} {K : Kt} (hC : cLay K) (p1 : Int) (σ : Sg) : Y Γ MX0_fittedBy K (emI K σ) K 0 [some (aR 73), some (aI p1), none, none, none] [] σ (vX0_fittedBy K p1 σ) := by
  unfold vX0_fittedBy
  refine y_iconst dX0_fittedBy_0 (by decide) ?_
  refine y_istore_n dX0_fittedBy_1 rfl (Nat.le_of_ble_eq_true rfl) (L' := [some (aR 73), some (aI p1), some (aI 0), none, none]) rfl ?_
  refine y_iconst dX0_fittedBy_2 (by decide) ?_
  refine y_istore_n dX0_fittedBy_3 rfl (Nat.le_of_ble_eq_true rfl) (L' := [some (aR 73), some (aI p1), some (aI 0), some (aI 0), none]) rfl ?_
  exact tX0_fittedBy_4 hC σ FU p1 0 0
theorem qX0_fittedBy {K : Kt} (hC : cLay K) (p1 : Int) (σ : Sg) : Cc MX0_fittedBy K [aR 73, aI p1] σ (emI K σ) (vX0_fittedBy K p1 σ) := cc_of plX0 (Nat.le_of_ble_eq_true rfl) (fun o _ => ⟨Nat.le_refl _, Nat.le_refl _⟩) (fun Γ => tX0_fittedBy hC p1 σ)
noncomputable def vX0_fewestReaders_30 (K : Kt) (σ : Sg) : Nat → Int → Int → Int → Option (Int)
  | 0, _, _, _ => none
  | f + 1, x1, x2, x3 => if x3 < 0 then (some x2) else ((vJ6_bitCount_0f7a4 x3 σ).bind (fun r2 => (vJ6_bitCount_0f7a4 x2 σ).bind (fun r3 => if r3 < r2 then (ck (in32 (x3 + (-1))) (vX0_fewestReaders_30 K σ f x1 x2 (x3 + (-1)))) else ((vX0_fittedBy K x3 σ).bind (fun r5 => if r5 = x1 then (ck (in32 (x3 + (-1))) (vX0_fewestReaders_30 K σ f x1 x3 (x3 + (-1)))) else (ck (in32 (x3 + (-1))) (vX0_fewestReaders_30 K σ f x1 x2 (x3 + (-1)))))))))
set_option maxRecDepth 100000 in
set_option maxHeartbeats 4000000 in
theorem tX0_fewestReaders_30 {Γ : Gx} {K : Kt} (hC : cLay K) (σ : Sg) : ∀ (f : Nat) (x1 : Int) (x2 : Int) (x3 : Int), Y Γ MX0_fewestReaders K (emI K σ) K 30 [some (aR 73), some (aI x1), some (aI x2), some (aI x3)] [] σ (vX0_fewestReaders_30 K σ f x1 x2 x3) := by
  intro f
  induction f with
  | zero => intro x1 x2 x3; exact y_none
  | succ f ih =>
    intro x1 x2 x3
    rw [vX0_fewestReaders_30]
    refine y_iload_n dX0_fewestReaders_30 rfl rfl ?_
    refine y_ite (fun h1 => ?_) (fun h1 => ?_)
    · refine y_if_lt_t dX0_fewestReaders_31 (t := 62) rfl h1 ?_
      refine y_iload_n dX0_fewestReaders_62 rfl rfl ?_
      exact y_iret rfl rfl dX0_fewestReaders_63
    · refine y_if_lt_f dX0_fewestReaders_31 (t := 62) rfl h1 ?_
      refine y_iload_n dX0_fewestReaders_34 rfl rfl ?_
      refine y_csI (qJ6_bitCount_0f7a4 (K := K) x3 σ) kX0_60 rfl (by decide) rfl (Nat.le_of_ble_eq_true rfl) dX0_fewestReaders_35 (fun r2 => ?_)
      refine y_iload_n dX0_fewestReaders_38 rfl rfl ?_
      refine y_csI (qJ6_bitCount_0f7a4 (K := K) x2 σ) kX0_60 rfl (by decide) rfl (Nat.le_of_ble_eq_true rfl) dX0_fewestReaders_39 (fun r3 => ?_)
      refine y_ite (fun h4 => ?_) (fun h4 => ?_)
      · refine y_icmp_gt_t dX0_fewestReaders_42 (t := 56) rfl h4 ?_
        refine yk_iinc dX0_fewestReaders_56 rfl (L' := [some (aR 73), some (aI x1), some (aI x2), some (aI (x3 + (-1)))]) rfl ?_
        refine y_goto dX0_fewestReaders_59 (t := 30) rfl ?_
        exact ih x1 x2 (x3 + (-1))
      · refine y_icmp_gt_f dX0_fewestReaders_42 (t := 56) rfl h4 ?_
        refine y_aload_n dX0_fewestReaders_45 rfl rfl ?_
        refine y_iload_n dX0_fewestReaders_46 rfl rfl ?_
        refine y_cvI (qX0_fittedBy hC x3 σ) kX0_115 rfl (lcO_73 hC) rfl (by decide) rfl (Nat.le_of_ble_eq_true rfl) dX0_fewestReaders_47 (fun r5 => ?_)
        refine y_iload_n dX0_fewestReaders_50 rfl rfl ?_
        refine y_ite (fun h6 => ?_) (fun h6 => ?_)
        · refine y_icmp_ne_f dX0_fewestReaders_51 (t := 56) rfl h6 ?_
          refine y_iload_n dX0_fewestReaders_54 rfl rfl ?_
          refine y_istore_n dX0_fewestReaders_55 rfl (Nat.le_of_ble_eq_true rfl) (L' := [some (aR 73), some (aI x1), some (aI x3), some (aI x3)]) rfl ?_
          refine yk_iinc dX0_fewestReaders_56 rfl (L' := [some (aR 73), some (aI x1), some (aI x3), some (aI (x3 + (-1)))]) rfl ?_
          refine y_goto dX0_fewestReaders_59 (t := 30) rfl ?_
          exact ih x1 x3 (x3 + (-1))
        · refine y_icmp_ne_t dX0_fewestReaders_51 (t := 56) rfl h6 ?_
          refine yk_iinc dX0_fewestReaders_56 rfl (L' := [some (aR 73), some (aI x1), some (aI x2), some (aI (x3 + (-1)))]) rfl ?_
          refine y_goto dX0_fewestReaders_59 (t := 30) rfl ?_
          exact ih x1 x2 (x3 + (-1))
noncomputable def vX0_fewestReaders (K : Kt) (σ : Sg) : Option (Int) := ck (in32 ((bShl 1 (σ 13 2)) - 1)) ((vX0_fittedBy K ((bShl 1 (σ 13 2)) - 1) σ).bind (fun r1 => ck (in32 ((bShl 1 (σ 13 2)) - 1)) (nm ((bShl 1 (σ 13 2)) - 1) (fun z2 => vX0_fewestReaders_30 K σ FU r1 z2 z2))))
set_option maxRecDepth 100000 in
set_option maxHeartbeats 4000000 in
theorem tX0_fewestReaders {Γ : Gx} {K : Kt} (hC : cLay K) (σ : Sg) : Y Γ MX0_fewestReaders K (emI K σ) K 0 [some (aR 73), none, none, none] [] σ (vX0_fewestReaders K σ) := by
  unfold vX0_fewestReaders
  refine y_aload_n dX0_fewestReaders_0 rfl rfl ?_
  refine y_iconst dX0_fewestReaders_1 (by decide) ?_
  refine y_aload_n dX0_fewestReaders_2 rfl rfl ?_
  refine y_getR fX0_35 (lcO_73 hC) rfl (lcR_73_0 hC) dX0_fewestReaders_3 ?_
  refine y_getI fX0_49 (lcO_13 hC) rfl dX0_fewestReaders_6 ?_
  refine y_ishl dX0_fewestReaders_9 ?_
  refine y_iconst dX0_fewestReaders_10 (by decide) ?_
  refine yk_isub dX0_fewestReaders_11 ?_
  refine y_cvI (qX0_fittedBy hC ((bShl 1 (σ 13 2)) - 1) σ) kX0_115 rfl (lcO_73 hC) rfl (by decide) rfl (Nat.le_of_ble_eq_true rfl) dX0_fewestReaders_12 (fun r1 => ?_)
  refine y_istore_n dX0_fewestReaders_15 rfl (Nat.le_of_ble_eq_true rfl) (L' := [some (aR 73), some (aI r1), none, none]) rfl ?_
  refine y_iconst dX0_fewestReaders_16 (by decide) ?_
  refine y_aload_n dX0_fewestReaders_17 rfl rfl ?_
  refine y_getR fX0_35 (lcO_73 hC) rfl (lcR_73_0 hC) dX0_fewestReaders_18 ?_
  refine y_getI fX0_49 (lcO_13 hC) rfl dX0_fewestReaders_21 ?_
  refine y_ishl dX0_fewestReaders_24 ?_
  refine y_iconst dX0_fewestReaders_25 (by decide) ?_
  refine yk_isub dX0_fewestReaders_26 ?_
  refine yn_istore_n dX0_fewestReaders_27 rfl (Nat.le_of_ble_eq_true rfl) (L' := fun z2 => [some (aR 73), some (aI r1), some (aI z2), none]) (fun _ => rfl) (fun z2 => ?_)
  refine y_iload_n dX0_fewestReaders_28 rfl rfl ?_
  refine y_istore_n dX0_fewestReaders_29 rfl (Nat.le_of_ble_eq_true rfl) (L' := [some (aR 73), some (aI r1), some (aI z2), some (aI z2)]) rfl ?_
  exact tX0_fewestReaders_30 hC σ FU r1 z2 z2
theorem qX0_fewestReaders {K : Kt} (hC : cLay K) (σ : Sg) : Cc MX0_fewestReaders K [aR 73] σ (emI K σ) (vX0_fewestReaders K σ) := cc_of plX0 (Nat.le_of_ble_eq_true rfl) (fun o _ => ⟨Nat.le_refl _, Nat.le_refl _⟩) (fun Γ => tX0_fewestReaders hC σ)
noncomputable def vX0_chanceWhole_46 (K : Kt) (rec_21 : Int → Int → Int → Int → Sg → Option (Int × Sg)) (x2 : Int) (x3 : Int) (x4 : Int) (x5 : Int) (y1 : Int) (y2 : Int) (σ : Sg) : Option (Int × Sg) := ck (0 ≤ y1 ∧ y1 < 20) (nm (up2 σ 80 y1.toNat y2) (fun σ1 => ck (in32 (x5 + 1)) (rec_21 x2 x3 x4 (x5 + 1) σ1)))
set_option maxRecDepth 100000 in
set_option maxHeartbeats 4000000 in
theorem tX0_chanceWhole_46 {Γ : Gx} {K : Kt} (hC : cLay K) (rec_21 : Int → Int → Int → Int → Sg → Option (Int × Sg)) (hrec_21 : ∀ (x2 : Int) (x3 : Int) (x4 : Int) (x5 : Int) (σ : Sg), Y Γ MX0_chanceWhole K (emLS K) K 21 [some (aR 73), none, some (aI x2), some (aI x3), some (aI x4), some (aI x5), none, none, none] [] σ (rec_21 x2 x3 x4 x5 σ)) (x2 : Int) (x3 : Int) (x4 : Int) (x5 : Int) (y1 : Int) (y2 : Int) (σ : Sg) : Y Γ MX0_chanceWhole K (emLS K) K 46 [some (aR 73), none, some (aI x2), some (aI x3), some (aI x4), some (aI x5), none, none, none] [aL y2, aI y1, aR 80] σ (vX0_chanceWhole_46 K rec_21 x2 x3 x4 x5 y1 y2 σ) := by
  unfold vX0_chanceWhole_46
  refine yk_lastore (lcA_80 hC) (N := 20) rfl (j := y1.toNat) rfl dX0_chanceWhole_46 (fun σ1 => ?_)
  refine yk_iinc dX0_chanceWhole_47 rfl (L' := [some (aR 73), none, some (aI x2), some (aI x3), some (aI x4), some (aI (x5 + 1)), none, none, none]) rfl ?_
  refine y_goto dX0_chanceWhole_50 (t := 21) rfl ?_
  exact hrec_21 x2 x3 x4 (x5 + 1) σ1
noncomputable def vX0_chanceWhole_98 (K : Kt) (rec_56 : Int → Int → Int → Int → Sg → Option (Int × Sg)) (rec_68 : Int → Int → Int → Int → Int → Sg → Option (Int × Sg)) (x2 : Int) (x3 : Int) (x4 : Int) (x5 : Int) (x6 : Int) (y0 : Int) (σ : Sg) : Option (Int × Sg) := ck (0 ≤ x6 ∧ x6 < 20) (ck (in32 (10 - x3)) (ck (in64 ((σ 80 x6.toNat) * (10 - x3))) (ck (¬ (10 : Int) = 0 ∧ in64 (Int.tdiv ((σ 80 x6.toNat) * (10 - x3)) 10)) (ck (in64 ((Int.tdiv ((σ 80 x6.toNat) * (10 - x3)) 10) + y0)) (ck (0 ≤ x6 ∧ x6 < 20) (nm (up2 σ 80 x6.toNat ((Int.tdiv ((σ 80 x6.toNat) * (10 - x3)) 10) + y0)) (fun σ1 => ck (in32 (x6 + (-1))) (rec_68 x2 x3 x4 x5 (x6 + (-1)) σ1))))))))
set_option maxRecDepth 100000 in
set_option maxHeartbeats 4000000 in
theorem tX0_chanceWhole_98 {Γ : Gx} {K : Kt} (hC : cLay K) (rec_56 : Int → Int → Int → Int → Sg → Option (Int × Sg)) (hrec_56 : ∀ (x2 : Int) (x3 : Int) (x4 : Int) (x5 : Int) (σ : Sg), Y Γ MX0_chanceWhole K (emLS K) K 56 [some (aR 73), none, some (aI x2), some (aI x3), some (aI x4), some (aI x5), none, none, none] [] σ (rec_56 x2 x3 x4 x5 σ)) (rec_68 : Int → Int → Int → Int → Int → Sg → Option (Int × Sg)) (hrec_68 : ∀ (x2 : Int) (x3 : Int) (x4 : Int) (x5 : Int) (x6 : Int) (σ : Sg), Y Γ MX0_chanceWhole K (emLS K) K 68 [some (aR 73), none, some (aI x2), some (aI x3), some (aI x4), some (aI x5), some (aI x6), none, none] [] σ (rec_68 x2 x3 x4 x5 x6 σ)) (x2 : Int) (x3 : Int) (x4 : Int) (x5 : Int) (x6 : Int) (y0 : Int) (σ : Sg) : Y Γ MX0_chanceWhole K (emLS K) K 98 [some (aR 73), none, some (aI x2), some (aI x3), some (aI x4), some (aI x5), some (aI x6), none, none] [aL y0] σ (vX0_chanceWhole_98 K rec_56 rec_68 x2 x3 x4 x5 x6 y0 σ) := by
  unfold vX0_chanceWhole_98
  refine y_lstore dX0_chanceWhole_98 (Nat.le_of_ble_eq_true rfl) (L' := [some (aR 73), none, some (aI x2), some (aI x3), some (aI x4), some (aI x5), some (aI x6), some (aL y0), none]) rfl ?_
  refine y_aload_n dX0_chanceWhole_100 rfl rfl ?_
  refine y_getR fX0_31 (lcO_73 hC) rfl (lcR_73_7 hC) dX0_chanceWhole_101 ?_
  refine y_iload dX0_chanceWhole_104 rfl ?_
  refine y_aload_n dX0_chanceWhole_106 rfl rfl ?_
  refine y_getR fX0_31 (lcO_73 hC) rfl (lcR_73_7 hC) dX0_chanceWhole_107 ?_
  refine y_iload dX0_chanceWhole_110 rfl ?_
  refine yk_laload (lcA_80 hC) (N := 20) rfl (j := x6.toNat) rfl dX0_chanceWhole_112 ?_
  refine y_bipush dX0_chanceWhole_113 (by decide) (by decide) ?_
  refine y_iload_n dX0_chanceWhole_115 rfl rfl ?_
  refine yk_isub dX0_chanceWhole_116 ?_
  refine y_i2l dX0_chanceWhole_117 ?_
  refine yk_lmul dX0_chanceWhole_118 ?_
  refine y_ldc2 10 wX0_c126 dX0_chanceWhole_119 (by decide) (by decide) ?_
  refine yk_ldiv dX0_chanceWhole_122 ?_
  refine y_lload dX0_chanceWhole_123 rfl ?_
  refine yk_ladd dX0_chanceWhole_125 ?_
  refine yk_lastore (lcA_80 hC) (N := 20) rfl (j := x6.toNat) rfl dX0_chanceWhole_126 (fun σ1 => ?_)
  refine yk_iinc dX0_chanceWhole_127 rfl (L' := [some (aR 73), none, some (aI x2), some (aI x3), some (aI x4), some (aI x5), some (aI (x6 + (-1))), some (aL y0), none]) rfl ?_
  refine y_goto dX0_chanceWhole_130 (t := 68) rfl ?_
  refine y_fg [true, false, true, true, true, true, true, false, false] (L' := [some (aR 73), none, some (aI x2), some (aI x3), some (aI x4), some (aI x5), some (aI (x6 + (-1))), none, none]) rfl ?_
  exact hrec_68 x2 x3 x4 x5 (x6 + (-1)) σ1
noncomputable def vX0_chanceWhole_68 (K : Kt) (rec_56 : Int → Int → Int → Int → Sg → Option (Int × Sg)) : Nat → Int → Int → Int → Int → Int → Sg → Option (Int × Sg)
  | 0, _, _, _, _, _, _ => none
  | f + 1, x2, x3, x4, x5, x6, σ => if x6 < 0 then (ck (in32 (x5 + 1)) (rec_56 x2 x3 x4 (x5 + 1) σ)) else (if x6 = 0 then (vX0_chanceWhole_98 K rec_56 (vX0_chanceWhole_68 K rec_56 f) x2 x3 x4 x5 x6 0 σ) else (ck (in32 (x6 - 1)) (ck (0 ≤ (x6 - 1) ∧ (x6 - 1) < 20) (ck (in64 ((σ 80 (x6 - 1).toNat) * x3)) (ck (¬ (10 : Int) = 0 ∧ in64 (Int.tdiv ((σ 80 (x6 - 1).toNat) * x3) 10)) (vX0_chanceWhole_98 K rec_56 (vX0_chanceWhole_68 K rec_56 f) x2 x3 x4 x5 x6 (Int.tdiv ((σ 80 (x6 - 1).toNat) * x3) 10) σ))))))
set_option maxRecDepth 100000 in
set_option maxHeartbeats 4000000 in
theorem tX0_chanceWhole_68 {Γ : Gx} {K : Kt} (hC : cLay K) (rec_56 : Int → Int → Int → Int → Sg → Option (Int × Sg)) (hrec_56 : ∀ (x2 : Int) (x3 : Int) (x4 : Int) (x5 : Int) (σ : Sg), Y Γ MX0_chanceWhole K (emLS K) K 56 [some (aR 73), none, some (aI x2), some (aI x3), some (aI x4), some (aI x5), none, none, none] [] σ (rec_56 x2 x3 x4 x5 σ)) : ∀ (f : Nat) (x2 : Int) (x3 : Int) (x4 : Int) (x5 : Int) (x6 : Int) (σ : Sg), Y Γ MX0_chanceWhole K (emLS K) K 68 [some (aR 73), none, some (aI x2), some (aI x3), some (aI x4), some (aI x5), some (aI x6), none, none] [] σ (vX0_chanceWhole_68 K rec_56 f x2 x3 x4 x5 x6 σ) := by
  intro f
  induction f with
  | zero => intro x2 x3 x4 x5 x6 σ; exact y_none
  | succ f ih =>
    intro x2 x3 x4 x5 x6 σ
    rw [vX0_chanceWhole_68]
    refine y_iload dX0_chanceWhole_68 rfl ?_
    refine y_ite (fun h1 => ?_) (fun h1 => ?_)
    · refine y_if_lt_t dX0_chanceWhole_70 (t := 133) rfl h1 ?_
      refine yk_iinc dX0_chanceWhole_133 rfl (L' := [some (aR 73), none, some (aI x2), some (aI x3), some (aI x4), some (aI (x5 + 1)), some (aI x6), none, none]) rfl ?_
      refine y_goto dX0_chanceWhole_136 (t := 56) rfl ?_
      refine y_fg [true, false, true, true, true, true, false, false, false] (L' := [some (aR 73), none, some (aI x2), some (aI x3), some (aI x4), some (aI (x5 + 1)), none, none, none]) rfl ?_
      exact hrec_56 x2 x3 x4 (x5 + 1) σ
    · refine y_if_lt_f dX0_chanceWhole_70 (t := 133) rfl h1 ?_
      refine y_iload dX0_chanceWhole_73 rfl ?_
      refine y_ite (fun h2 => ?_) (fun h2 => ?_)
      · refine y_if_ne_f dX0_chanceWhole_75 (t := 82) rfl h2 ?_
        refine y_lconst 0 dX0_chanceWhole_78 (by decide) (by decide) ?_
        refine y_goto dX0_chanceWhole_79 (t := 98) rfl ?_
        exact tX0_chanceWhole_98 hC rec_56 hrec_56 (vX0_chanceWhole_68 K rec_56 f) ih x2 x3 x4 x5 x6 0 σ
      · refine y_if_ne_t dX0_chanceWhole_75 (t := 82) rfl h2 ?_
        refine y_aload_n dX0_chanceWhole_82 rfl rfl ?_
        refine y_getR fX0_31 (lcO_73 hC) rfl (lcR_73_7 hC) dX0_chanceWhole_83 ?_
        refine y_iload dX0_chanceWhole_86 rfl ?_
        refine y_iconst dX0_chanceWhole_88 (by decide) ?_
        refine yk_isub dX0_chanceWhole_89 ?_
        refine yk_laload (lcA_80 hC) (N := 20) rfl (j := (x6 - 1).toNat) rfl dX0_chanceWhole_90 ?_
        refine y_iload_n dX0_chanceWhole_91 rfl rfl ?_
        refine y_i2l dX0_chanceWhole_92 ?_
        refine yk_lmul dX0_chanceWhole_93 ?_
        refine y_ldc2 10 wX0_c126 dX0_chanceWhole_94 (by decide) (by decide) ?_
        refine yk_ldiv dX0_chanceWhole_97 ?_
        exact tX0_chanceWhole_98 hC rec_56 hrec_56 (vX0_chanceWhole_68 K rec_56 f) ih x2 x3 x4 x5 x6 (Int.tdiv ((σ 80 (x6 - 1).toNat) * x3) 10) σ
noncomputable def vX0_chanceWhole_145 (K : Kt) : Nat → Int → Int → Int → Sg → Option (Int × Sg)
  | 0, _, _, _, _ => none
  | f + 1, x4, x5, x7, σ => if x7 < x4 then (ck (0 ≤ x7 ∧ x7 < 20) (ck (in64 (x5 + (σ 80 x7.toNat))) (nm (x5 + (σ 80 x7.toNat)) (fun z2 => ck (in32 (x7 + 1)) (vX0_chanceWhole_145 K f x4 z2 (x7 + 1) σ))))) else (some (x5, σ))
set_option maxRecDepth 100000 in
set_option maxHeartbeats 4000000 in
theorem tX0_chanceWhole_145 {Γ : Gx} {K : Kt} (hC : cLay K) : ∀ (f : Nat) (x4 : Int) (x5 : Int) (x7 : Int) (σ : Sg), Y Γ MX0_chanceWhole K (emLS K) K 145 [some (aR 73), none, none, none, some (aI x4), some (aL x5), none, some (aI x7), none] [] σ (vX0_chanceWhole_145 K f x4 x5 x7 σ) := by
  intro f
  induction f with
  | zero => intro x4 x5 x7 σ; exact y_none
  | succ f ih =>
    intro x4 x5 x7 σ
    rw [vX0_chanceWhole_145]
    refine y_iload dX0_chanceWhole_145 rfl ?_
    refine y_iload dX0_chanceWhole_147 rfl ?_
    refine y_ite (fun h1 => ?_) (fun h1 => ?_)
    · refine y_icmp_ge_f dX0_chanceWhole_149 (t := 170) rfl h1 ?_
      refine y_lload dX0_chanceWhole_152 rfl ?_
      refine y_aload_n dX0_chanceWhole_154 rfl rfl ?_
      refine y_getR fX0_31 (lcO_73 hC) rfl (lcR_73_7 hC) dX0_chanceWhole_155 ?_
      refine y_iload dX0_chanceWhole_158 rfl ?_
      refine yk_laload (lcA_80 hC) (N := 20) rfl (j := x7.toNat) rfl dX0_chanceWhole_160 ?_
      refine yk_ladd dX0_chanceWhole_161 ?_
      refine yn_lstore dX0_chanceWhole_162 (Nat.le_of_ble_eq_true rfl) (L' := fun z2 => [some (aR 73), none, none, none, some (aI x4), some (aL z2), none, some (aI x7), none]) (fun _ => rfl) (fun z2 => ?_)
      refine yk_iinc dX0_chanceWhole_164 rfl (L' := [some (aR 73), none, none, none, some (aI x4), some (aL z2), none, some (aI (x7 + 1)), none]) rfl ?_
      refine y_goto dX0_chanceWhole_167 (t := 145) rfl ?_
      exact ih x4 z2 (x7 + 1) σ
    · refine y_icmp_ge_t dX0_chanceWhole_149 (t := 170) rfl h1 ?_
      refine y_lload dX0_chanceWhole_170 rfl ?_
      exact y_lret rfl rfl dX0_chanceWhole_172
noncomputable def vX0_chanceWhole_56 (K : Kt) : Nat → Int → Int → Int → Int → Sg → Option (Int × Sg)
  | 0, _, _, _, _, _ => none
  | f + 1, x2, x3, x4, x5, σ => if x5 < x2 then (ck (in32 (x4 - 1)) (nm (x4 - 1) (fun z2 => vX0_chanceWhole_68 K (vX0_chanceWhole_56 K f) FU x2 x3 x4 x5 z2 σ))) else (vX0_chanceWhole_145 K FU x4 0 0 σ)
set_option maxRecDepth 100000 in
set_option maxHeartbeats 4000000 in
theorem tX0_chanceWhole_56 {Γ : Gx} {K : Kt} (hC : cLay K) : ∀ (f : Nat) (x2 : Int) (x3 : Int) (x4 : Int) (x5 : Int) (σ : Sg), Y Γ MX0_chanceWhole K (emLS K) K 56 [some (aR 73), none, some (aI x2), some (aI x3), some (aI x4), some (aI x5), none, none, none] [] σ (vX0_chanceWhole_56 K f x2 x3 x4 x5 σ) := by
  intro f
  induction f with
  | zero => intro x2 x3 x4 x5 σ; exact y_none
  | succ f ih =>
    intro x2 x3 x4 x5 σ
    rw [vX0_chanceWhole_56]
    refine y_iload dX0_chanceWhole_56 rfl ?_
    refine y_iload_n dX0_chanceWhole_58 rfl rfl ?_
    refine y_ite (fun h1 => ?_) (fun h1 => ?_)
    · refine y_icmp_ge_f dX0_chanceWhole_59 (t := 139) rfl h1 ?_
      refine y_iload dX0_chanceWhole_62 rfl ?_
      refine y_iconst dX0_chanceWhole_64 (by decide) ?_
      refine yk_isub dX0_chanceWhole_65 ?_
      refine yn_istore dX0_chanceWhole_66 (Nat.le_of_ble_eq_true rfl) (L' := fun z2 => [some (aR 73), none, some (aI x2), some (aI x3), some (aI x4), some (aI x5), some (aI z2), none, none]) (fun _ => rfl) (fun z2 => ?_)
      exact tX0_chanceWhole_68 hC (vX0_chanceWhole_56 K f) ih FU x2 x3 x4 x5 z2 σ
    · refine y_icmp_ge_t dX0_chanceWhole_59 (t := 139) rfl h1 ?_
      refine y_lconst 0 dX0_chanceWhole_139 (by decide) (by decide) ?_
      refine y_lstore dX0_chanceWhole_140 (Nat.le_of_ble_eq_true rfl) (L' := [some (aR 73), none, some (aI x2), some (aI x3), some (aI x4), some (aL 0), none, none, none]) rfl ?_
      refine y_iconst dX0_chanceWhole_142 (by decide) ?_
      refine y_istore dX0_chanceWhole_143 (Nat.le_of_ble_eq_true rfl) (L' := [some (aR 73), none, some (aI x2), some (aI x3), some (aI x4), some (aL 0), none, some (aI 0), none]) rfl ?_
      refine y_fg [true, false, false, false, true, true, false, true, false] (L' := [some (aR 73), none, none, none, some (aI x4), some (aL 0), none, some (aI 0), none]) rfl ?_
      exact tX0_chanceWhole_145 hC FU x4 0 0 σ
noncomputable def vX0_chanceWhole_21 (K : Kt) : Nat → Int → Int → Int → Int → Sg → Option (Int × Sg)
  | 0, _, _, _, _, _ => none
  | f + 1, x2, x3, x4, x5, σ => if x5 < x4 then (if x5 = 0 then (vX0_chanceWhole_46 K (vX0_chanceWhole_21 K f) x2 x3 x4 x5 x5 1000000000000 σ) else (vX0_chanceWhole_46 K (vX0_chanceWhole_21 K f) x2 x3 x4 x5 x5 0 σ)) else (vX0_chanceWhole_56 K FU x2 x3 x4 0 σ)
set_option maxRecDepth 100000 in
set_option maxHeartbeats 4000000 in
theorem tX0_chanceWhole_21 {Γ : Gx} {K : Kt} (hC : cLay K) : ∀ (f : Nat) (x2 : Int) (x3 : Int) (x4 : Int) (x5 : Int) (σ : Sg), Y Γ MX0_chanceWhole K (emLS K) K 21 [some (aR 73), none, some (aI x2), some (aI x3), some (aI x4), some (aI x5), none, none, none] [] σ (vX0_chanceWhole_21 K f x2 x3 x4 x5 σ) := by
  intro f
  induction f with
  | zero => intro x2 x3 x4 x5 σ; exact y_none
  | succ f ih =>
    intro x2 x3 x4 x5 σ
    rw [vX0_chanceWhole_21]
    refine y_iload dX0_chanceWhole_21 rfl ?_
    refine y_iload dX0_chanceWhole_23 rfl ?_
    refine y_ite (fun h1 => ?_) (fun h1 => ?_)
    · refine y_icmp_ge_f dX0_chanceWhole_25 (t := 53) rfl h1 ?_
      refine y_aload_n dX0_chanceWhole_28 rfl rfl ?_
      refine y_getR fX0_31 (lcO_73 hC) rfl (lcR_73_7 hC) dX0_chanceWhole_29 ?_
      refine y_iload dX0_chanceWhole_32 rfl ?_
      refine y_iload dX0_chanceWhole_34 rfl ?_
      refine y_ite (fun h2 => ?_) (fun h2 => ?_)
      · refine y_if_ne_f dX0_chanceWhole_36 (t := 45) rfl h2 ?_
        refine y_ldc2 1000000000000 wX0_c124 dX0_chanceWhole_39 (by decide) (by decide) ?_
        refine y_goto dX0_chanceWhole_42 (t := 46) rfl ?_
        exact tX0_chanceWhole_46 hC (vX0_chanceWhole_21 K f) ih x2 x3 x4 x5 x5 1000000000000 σ
      · refine y_if_ne_t dX0_chanceWhole_36 (t := 45) rfl h2 ?_
        refine y_lconst 0 dX0_chanceWhole_45 (by decide) (by decide) ?_
        exact tX0_chanceWhole_46 hC (vX0_chanceWhole_21 K f) ih x2 x3 x4 x5 x5 0 σ
    · refine y_icmp_ge_t dX0_chanceWhole_25 (t := 53) rfl h1 ?_
      refine y_iconst dX0_chanceWhole_53 (by decide) ?_
      refine y_istore dX0_chanceWhole_54 (Nat.le_of_ble_eq_true rfl) (L' := [some (aR 73), none, some (aI x2), some (aI x3), some (aI x4), some (aI 0), none, none, none]) rfl ?_
      exact tX0_chanceWhole_56 hC FU x2 x3 x4 0 σ
noncomputable def vX0_chanceWhole (K : Kt) (p1 : Int) (p2 : Int) (σ : Sg) : Option (Int × Sg) := nm (σ 26 2) (fun z1 => nm (imin p1 20) (fun z2 => vX0_chanceWhole_21 K FU p2 z1 z2 0 σ))
set_option maxRecDepth 100000 in
set_option maxHeartbeats 4000000 in
theorem tX0_chanceWhole {Γ : Gx} {K : Kt} (hC : cLay K) (p1 : Int) (p2 : Int) (σ : Sg) : Y Γ MX0_chanceWhole K (emLS K) K 0 [some (aR 73), some (aI p1), some (aI p2), none, none, none, none, none, none] [] σ (vX0_chanceWhole K p1 p2 σ) := by
  unfold vX0_chanceWhole
  refine y_aload_n dX0_chanceWhole_0 rfl rfl ?_
  refine y_getR fX0_35 (lcO_73 hC) rfl (lcR_73_0 hC) dX0_chanceWhole_1 ?_
  refine y_getR fX0_121 (lcO_13 hC) rfl (lcR_13_16 hC) dX0_chanceWhole_4 ?_
  refine y_iconst dX0_chanceWhole_7 (by decide) ?_
  refine yl_iaload (lcA_26 hC) (by decide) (j := 2) rfl dX0_chanceWhole_8 ?_
  refine yn_istore_n dX0_chanceWhole_9 rfl (Nat.le_of_ble_eq_true rfl) (L' := fun z1 => [some (aR 73), some (aI p1), some (aI p2), some (aI z1), none, none, none, none, none]) (fun _ => rfl) (fun z1 => ?_)
  refine y_iload_n dX0_chanceWhole_10 rfl rfl ?_
  refine y_bipush dX0_chanceWhole_11 (by decide) (by decide) ?_
  refine y_imin mX0_66 (by decide) (Nat.le_of_ble_eq_true rfl) dX0_chanceWhole_13 ?_
  refine yn_istore dX0_chanceWhole_16 (Nat.le_of_ble_eq_true rfl) (L' := fun z2 => [some (aR 73), some (aI p1), some (aI p2), some (aI z1), some (aI z2), none, none, none, none]) (fun _ => rfl) (fun z2 => ?_)
  refine y_iconst dX0_chanceWhole_18 (by decide) ?_
  refine y_istore dX0_chanceWhole_19 (Nat.le_of_ble_eq_true rfl) (L' := [some (aR 73), some (aI p1), some (aI p2), some (aI z1), some (aI z2), some (aI 0), none, none, none]) rfl ?_
  refine y_fg [true, false, true, true, true, true, false, false, false] (L' := [some (aR 73), none, some (aI p2), some (aI z1), some (aI z2), some (aI 0), none, none, none]) rfl ?_
  exact tX0_chanceWhole_21 hC FU p2 z1 z2 0 σ
theorem qX0_chanceWhole {K : Kt} (hC : cLay K) (p1 : Int) (p2 : Int) (σ : Sg) : Cc MX0_chanceWhole K [aR 73, aI p1, aI p2] σ (emLS K) (vX0_chanceWhole K p1 p2 σ) := cc_of plX0 (Nat.le_of_ble_eq_true rfl) (fun o _ => ⟨Nat.le_refl _, Nat.le_refl _⟩) (fun Γ => tX0_chanceWhole hC p1 p2 σ)
noncomputable def vX1_copyFrom (K : Kt) (o o2 : Nat) (σ : Sg) : Option (Sg) := nm (up2 σ o 1 (σ o2 1)) (fun σ1 => nm (up2 σ1 o 2 (σ1 o2 2)) (fun σ2 => nm (up2 σ2 o 3 (σ2 o2 3)) (fun σ3 => ck (0 ≤ (0 : Int) ∧ 0 ≤ (0 : Int) ∧ 0 ≤ (8 : Int) ∧ (0 : Int) + (8 : Int) ≤ ((8 : Nat) : Int) ∧ (0 : Int) + (8 : Int) ≤ ((8 : Nat) : Int)) (nm (cpy2 σ3 (o2 + 1) (o + 1) (0 : Int).toNat (0 : Int).toNat (8 : Int).toNat) (fun σ4 => ck (0 ≤ (0 : Int) ∧ 0 ≤ (0 : Int) ∧ 0 ≤ (8 : Int) ∧ (0 : Int) + (8 : Int) ≤ ((8 : Nat) : Int) ∧ (0 : Int) + (8 : Int) ≤ ((8 : Nat) : Int)) (nm (cpy2 σ4 (o2 + 2) (o + 2) (0 : Int).toNat (0 : Int).toNat (8 : Int).toNat) (fun σ5 => ck (0 ≤ (0 : Int) ∧ 0 ≤ (0 : Int) ∧ 0 ≤ (8 : Int) ∧ (0 : Int) + (8 : Int) ≤ ((8 : Nat) : Int) ∧ (0 : Int) + (8 : Int) ≤ ((8 : Nat) : Int)) (nm (cpy2 σ5 (o2 + 3) (o + 3) (0 : Int).toNat (0 : Int).toNat (8 : Int).toNat) (fun σ6 => ck (0 ≤ (0 : Int) ∧ 0 ≤ (0 : Int) ∧ 0 ≤ (8 : Int) ∧ (0 : Int) + (8 : Int) ≤ ((8 : Nat) : Int) ∧ (0 : Int) + (8 : Int) ≤ ((8 : Nat) : Int)) (nm (cpy2 σ6 (o2 + 4) (o + 4) (0 : Int).toNat (0 : Int).toNat (8 : Int).toNat) (fun σ7 => ck (0 ≤ (0 : Int) ∧ 0 ≤ (0 : Int) ∧ 0 ≤ (6 : Int) ∧ (0 : Int) + (6 : Int) ≤ ((6 : Nat) : Int) ∧ (0 : Int) + (6 : Int) ≤ ((6 : Nat) : Int)) (nm (cpy2 σ7 (o2 + 5) (o + 5) (0 : Int).toNat (0 : Int).toNat (6 : Int).toNat) (fun σ8 => ck (0 ≤ (0 : Int) ∧ 0 ≤ (0 : Int) ∧ 0 ≤ (6 : Int) ∧ (0 : Int) + (6 : Int) ≤ ((6 : Nat) : Int) ∧ (0 : Int) + (6 : Int) ≤ ((6 : Nat) : Int)) (nm (cpy2 σ8 (o2 + 6) (o + 6) (0 : Int).toNat (0 : Int).toNat (6 : Int).toNat) (fun σ9 => ck (0 ≤ (0 : Int) ∧ 0 ≤ (0 : Int) ∧ 0 ≤ (6 : Int) ∧ (0 : Int) + (6 : Int) ≤ ((6 : Nat) : Int) ∧ (0 : Int) + (6 : Int) ≤ ((6 : Nat) : Int)) (nm (cpy2 σ9 (o2 + 7) (o + 7) (0 : Int).toNat (0 : Int).toNat (6 : Int).toNat) (fun σ10 => ck (0 ≤ (0 : Int) ∧ 0 ≤ (0 : Int) ∧ 0 ≤ (6 : Int) ∧ (0 : Int) + (6 : Int) ≤ ((6 : Nat) : Int) ∧ (0 : Int) + (6 : Int) ≤ ((6 : Nat) : Int)) (nm (cpy2 σ10 (o2 + 8) (o + 8) (0 : Int).toNat (0 : Int).toNat (6 : Int).toNat) (fun σ11 => ck (0 ≤ (0 : Int) ∧ 0 ≤ (0 : Int) ∧ 0 ≤ (6 : Int) ∧ (0 : Int) + (6 : Int) ≤ ((6 : Nat) : Int) ∧ (0 : Int) + (6 : Int) ≤ ((6 : Nat) : Int)) (nm (cpy2 σ11 (o2 + 9) (o + 9) (0 : Int).toNat (0 : Int).toNat (6 : Int).toNat) (fun σ12 => ck (0 ≤ (0 : Int) ∧ 0 ≤ (0 : Int) ∧ 0 ≤ (6 : Int) ∧ (0 : Int) + (6 : Int) ≤ ((6 : Nat) : Int) ∧ (0 : Int) + (6 : Int) ≤ ((6 : Nat) : Int)) (nm (cpy2 σ12 (o2 + 10) (o + 10) (0 : Int).toNat (0 : Int).toNat (6 : Int).toNat) (fun σ13 => ck (0 ≤ (0 : Int) ∧ 0 ≤ (0 : Int) ∧ 0 ≤ (12 : Int) ∧ (0 : Int) + (12 : Int) ≤ ((12 : Nat) : Int) ∧ (0 : Int) + (12 : Int) ≤ ((12 : Nat) : Int)) (nm (cpy2 σ13 (o2 + 11) (o + 11) (0 : Int).toNat (0 : Int).toNat (12 : Int).toNat) (fun σ14 => ck (0 ≤ (0 : Int) ∧ 0 ≤ (0 : Int) ∧ 0 ≤ (12 : Int) ∧ (0 : Int) + (12 : Int) ≤ ((12 : Nat) : Int) ∧ (0 : Int) + (12 : Int) ≤ ((12 : Nat) : Int)) (nm (cpy2 σ14 (o2 + 12) (o + 12) (0 : Int).toNat (0 : Int).toNat (12 : Int).toNat) (fun σ15 => ck (0 ≤ (0 : Int) ∧ 0 ≤ (0 : Int) ∧ 0 ≤ (4 : Int) ∧ (0 : Int) + (4 : Int) ≤ ((4 : Nat) : Int) ∧ (0 : Int) + (4 : Int) ≤ ((4 : Nat) : Int)) (nm (cpy2 σ15 (o2 + 13) (o + 13) (0 : Int).toNat (0 : Int).toNat (4 : Int).toNat) (fun σ16 => some σ16)))))))))))))))))))))))))))))
set_option maxRecDepth 100000 in
set_option maxHeartbeats 4000000 in
theorem tX1_copyFrom {Γ : Gx} {K : Kt} {o o2 : Nat} (hH : hallAt K o) (hH2 : hallAt K o2) (σ : Sg) : Y Γ MX1_copyFrom K (emV K) K 0 [some (aR o), some (aR o2)] [] σ (vX1_copyFrom K o o2 σ) := by
  unfold vX1_copyFrom
  refine y_aload_n dX1_copyFrom_0 rfl rfl ?_
  refine y_aload_n dX1_copyFrom_1 rfl rfl ?_
  refine y_getI fX1_55 hH2.1 rfl dX1_copyFrom_2 ?_
  refine yn_putI fX1_55 hH.1 rfl rfl dX1_copyFrom_5 (fun σ1 => ?_)
  refine y_aload_n dX1_copyFrom_8 rfl rfl ?_
  refine y_aload_n dX1_copyFrom_9 rfl rfl ?_
  refine y_getI fX1_59 hH2.1 rfl dX1_copyFrom_10 ?_
  refine yn_putI fX1_59 hH.1 rfl rfl dX1_copyFrom_13 (fun σ2 => ?_)
  refine y_aload_n dX1_copyFrom_16 rfl rfl ?_
  refine y_aload_n dX1_copyFrom_17 rfl rfl ?_
  refine y_getI fX1_62 hH2.1 rfl dX1_copyFrom_18 ?_
  refine yn_putI fX1_62 hH.1 rfl rfl dX1_copyFrom_21 (fun σ3 => ?_)
  refine y_aload_n dX1_copyFrom_24 rfl rfl ?_
  refine y_getR fX1_9 hH2.1 rfl (lH_4 hH2).1 dX1_copyFrom_25 ?_
  refine y_iconst dX1_copyFrom_28 (by decide) ?_
  refine y_aload_n dX1_copyFrom_29 rfl rfl ?_
  refine y_getR fX1_9 hH.1 rfl (lH_4 hH).1 dX1_copyFrom_30 ?_
  refine y_iconst dX1_copyFrom_33 (by decide) ?_
  refine y_bipush dX1_copyFrom_34 (by decide) (by decide) ?_
  refine yk_copy aX1_65 (by decide) (lH_4 hH2).2 (lH_4 hH).2 (Nat.le_of_ble_eq_true rfl) dX1_copyFrom_36 (fun σ4 => ?_)
  refine y_aload_n dX1_copyFrom_39 rfl rfl ?_
  refine y_getR fX1_15 hH2.1 rfl (lH_5 hH2).1 dX1_copyFrom_40 ?_
  refine y_iconst dX1_copyFrom_43 (by decide) ?_
  refine y_aload_n dX1_copyFrom_44 rfl rfl ?_
  refine y_getR fX1_15 hH.1 rfl (lH_5 hH).1 dX1_copyFrom_45 ?_
  refine y_iconst dX1_copyFrom_48 (by decide) ?_
  refine y_bipush dX1_copyFrom_49 (by decide) (by decide) ?_
  refine yk_copy aX1_65 (by decide) (lH_5 hH2).2 (lH_5 hH).2 (Nat.le_of_ble_eq_true rfl) dX1_copyFrom_51 (fun σ5 => ?_)
  refine y_aload_n dX1_copyFrom_54 rfl rfl ?_
  refine y_getR fX1_18 hH2.1 rfl (lH_6 hH2).1 dX1_copyFrom_55 ?_
  refine y_iconst dX1_copyFrom_58 (by decide) ?_
  refine y_aload_n dX1_copyFrom_59 rfl rfl ?_
  refine y_getR fX1_18 hH.1 rfl (lH_6 hH).1 dX1_copyFrom_60 ?_
  refine y_iconst dX1_copyFrom_63 (by decide) ?_
  refine y_bipush dX1_copyFrom_64 (by decide) (by decide) ?_
  refine yk_copy aX1_65 (by decide) (lH_6 hH2).2 (lH_6 hH).2 (Nat.le_of_ble_eq_true rfl) dX1_copyFrom_66 (fun σ6 => ?_)
  refine y_aload_n dX1_copyFrom_69 rfl rfl ?_
  refine y_getR fX1_21 hH2.1 rfl (lH_7 hH2).1 dX1_copyFrom_70 ?_
  refine y_iconst dX1_copyFrom_73 (by decide) ?_
  refine y_aload_n dX1_copyFrom_74 rfl rfl ?_
  refine y_getR fX1_21 hH.1 rfl (lH_7 hH).1 dX1_copyFrom_75 ?_
  refine y_iconst dX1_copyFrom_78 (by decide) ?_
  refine y_bipush dX1_copyFrom_79 (by decide) (by decide) ?_
  refine yk_copy aX1_65 (by decide) (lH_7 hH2).2 (lH_7 hH).2 (Nat.le_of_ble_eq_true rfl) dX1_copyFrom_81 (fun σ7 => ?_)
  refine y_aload_n dX1_copyFrom_84 rfl rfl ?_
  refine y_getR fX1_24 hH2.1 rfl (lH_8 hH2).1 dX1_copyFrom_85 ?_
  refine y_iconst dX1_copyFrom_88 (by decide) ?_
  refine y_aload_n dX1_copyFrom_89 rfl rfl ?_
  refine y_getR fX1_24 hH.1 rfl (lH_8 hH).1 dX1_copyFrom_90 ?_
  refine y_iconst dX1_copyFrom_93 (by decide) ?_
  refine y_bipush dX1_copyFrom_94 (by decide) (by decide) ?_
  refine yk_copy aX1_65 (by decide) (lH_8 hH2).2 (lH_8 hH).2 (Nat.le_of_ble_eq_true rfl) dX1_copyFrom_96 (fun σ8 => ?_)
  refine y_aload_n dX1_copyFrom_99 rfl rfl ?_
  refine y_getR fX1_27 hH2.1 rfl (lH_9 hH2).1 dX1_copyFrom_100 ?_
  refine y_iconst dX1_copyFrom_103 (by decide) ?_
  refine y_aload_n dX1_copyFrom_104 rfl rfl ?_
  refine y_getR fX1_27 hH.1 rfl (lH_9 hH).1 dX1_copyFrom_105 ?_
  refine y_iconst dX1_copyFrom_108 (by decide) ?_
  refine y_bipush dX1_copyFrom_109 (by decide) (by decide) ?_
  refine yk_copy aX1_65 (by decide) (lH_9 hH2).2 (lH_9 hH).2 (Nat.le_of_ble_eq_true rfl) dX1_copyFrom_111 (fun σ9 => ?_)
  refine y_aload_n dX1_copyFrom_114 rfl rfl ?_
  refine y_getR fX1_30 hH2.1 rfl (lH_10 hH2).1 dX1_copyFrom_115 ?_
  refine y_iconst dX1_copyFrom_118 (by decide) ?_
  refine y_aload_n dX1_copyFrom_119 rfl rfl ?_
  refine y_getR fX1_30 hH.1 rfl (lH_10 hH).1 dX1_copyFrom_120 ?_
  refine y_iconst dX1_copyFrom_123 (by decide) ?_
  refine y_bipush dX1_copyFrom_124 (by decide) (by decide) ?_
  refine yk_copy aX1_65 (by decide) (lH_10 hH2).2 (lH_10 hH).2 (Nat.le_of_ble_eq_true rfl) dX1_copyFrom_126 (fun σ10 => ?_)
  refine y_aload_n dX1_copyFrom_129 rfl rfl ?_
  refine y_getR fX1_33 hH2.1 rfl (lH_11 hH2).1 dX1_copyFrom_130 ?_
  refine y_iconst dX1_copyFrom_133 (by decide) ?_
  refine y_aload_n dX1_copyFrom_134 rfl rfl ?_
  refine y_getR fX1_33 hH.1 rfl (lH_11 hH).1 dX1_copyFrom_135 ?_
  refine y_iconst dX1_copyFrom_138 (by decide) ?_
  refine y_bipush dX1_copyFrom_139 (by decide) (by decide) ?_
  refine yk_copy aX1_65 (by decide) (lH_11 hH2).2 (lH_11 hH).2 (Nat.le_of_ble_eq_true rfl) dX1_copyFrom_141 (fun σ11 => ?_)
  refine y_aload_n dX1_copyFrom_144 rfl rfl ?_
  refine y_getR fX1_36 hH2.1 rfl (lH_12 hH2).1 dX1_copyFrom_145 ?_
  refine y_iconst dX1_copyFrom_148 (by decide) ?_
  refine y_aload_n dX1_copyFrom_149 rfl rfl ?_
  refine y_getR fX1_36 hH.1 rfl (lH_12 hH).1 dX1_copyFrom_150 ?_
  refine y_iconst dX1_copyFrom_153 (by decide) ?_
  refine y_bipush dX1_copyFrom_154 (by decide) (by decide) ?_
  refine yk_copy aX1_65 (by decide) (lH_12 hH2).2 (lH_12 hH).2 (Nat.le_of_ble_eq_true rfl) dX1_copyFrom_156 (fun σ12 => ?_)
  refine y_aload_n dX1_copyFrom_159 rfl rfl ?_
  refine y_getR fX1_39 hH2.1 rfl (lH_13 hH2).1 dX1_copyFrom_160 ?_
  refine y_iconst dX1_copyFrom_163 (by decide) ?_
  refine y_aload_n dX1_copyFrom_164 rfl rfl ?_
  refine y_getR fX1_39 hH.1 rfl (lH_13 hH).1 dX1_copyFrom_165 ?_
  refine y_iconst dX1_copyFrom_168 (by decide) ?_
  refine y_bipush dX1_copyFrom_169 (by decide) (by decide) ?_
  refine yk_copy aX1_65 (by decide) (lH_13 hH2).2 (lH_13 hH).2 (Nat.le_of_ble_eq_true rfl) dX1_copyFrom_171 (fun σ13 => ?_)
  refine y_aload_n dX1_copyFrom_174 rfl rfl ?_
  refine y_getR fX1_42 hH2.1 rfl (lH_14 hH2).1 dX1_copyFrom_175 ?_
  refine y_iconst dX1_copyFrom_178 (by decide) ?_
  refine y_aload_n dX1_copyFrom_179 rfl rfl ?_
  refine y_getR fX1_42 hH.1 rfl (lH_14 hH).1 dX1_copyFrom_180 ?_
  refine y_iconst dX1_copyFrom_183 (by decide) ?_
  refine y_bipush dX1_copyFrom_184 (by decide) (by decide) ?_
  refine yk_copy aX1_65 (by decide) (lH_14 hH2).2 (lH_14 hH).2 (Nat.le_of_ble_eq_true rfl) dX1_copyFrom_186 (fun σ14 => ?_)
  refine y_aload_n dX1_copyFrom_189 rfl rfl ?_
  refine y_getR fX1_45 hH2.1 rfl (lH_15 hH2).1 dX1_copyFrom_190 ?_
  refine y_iconst dX1_copyFrom_193 (by decide) ?_
  refine y_aload_n dX1_copyFrom_194 rfl rfl ?_
  refine y_getR fX1_45 hH.1 rfl (lH_15 hH).1 dX1_copyFrom_195 ?_
  refine y_iconst dX1_copyFrom_198 (by decide) ?_
  refine y_bipush dX1_copyFrom_199 (by decide) (by decide) ?_
  refine yk_copy aX1_65 (by decide) (lH_15 hH2).2 (lH_15 hH).2 (Nat.le_of_ble_eq_true rfl) dX1_copyFrom_201 (fun σ15 => ?_)
  refine y_aload_n dX1_copyFrom_204 rfl rfl ?_
  refine y_getR fX1_48 hH2.1 rfl (lH_16 hH2).1 dX1_copyFrom_205 ?_
  refine y_iconst dX1_copyFrom_208 (by decide) ?_
  refine y_aload_n dX1_copyFrom_209 rfl rfl ?_
  refine y_getR fX1_48 hH.1 rfl (lH_16 hH).1 dX1_copyFrom_210 ?_
  refine y_iconst dX1_copyFrom_213 (by decide) ?_
  refine y_iconst dX1_copyFrom_214 (by decide) ?_
  refine yk_copy aX1_65 (by decide) (lH_16 hH2).2 (lH_16 hH).2 (Nat.le_of_ble_eq_true rfl) dX1_copyFrom_215 (fun σ16 => ?_)
  exact y_vret rfl rfl dX1_copyFrom_218
theorem qX1_copyFrom {K : Kt} {o o2 : Nat} (hH : hallAt K o) (hH2 : hallAt K o2) (σ : Sg) : Cc MX1_copyFrom K [aR o, aR o2] σ (emV K) (vX1_copyFrom K o o2 σ) := cc_of plX1 (Nat.le_of_ble_eq_true rfl) (fun o _ => ⟨Nat.le_refl _, Nat.le_refl _⟩) (fun Γ => tX1_copyFrom hH hH2 σ)
noncomputable def vX1_addBook (K : Kt) (o : Nat) (p1 : Int) (p2 : Int) (p3 : Int) (p4 : Int) (σ : Sg) : Option (Int × Sg) := if (σ o 1) < 8 then (ck (0 ≤ (σ o 1) ∧ (σ o 1) < 8) (nm (up2 σ (o + 1) (σ o 1).toNat p1) (fun σ2 => ck (0 ≤ (σ2 o 1) ∧ (σ2 o 1) < 8) (nm (up2 σ2 (o + 2) (σ2 o 1).toNat p2) (fun σ3 => ck (0 ≤ (σ3 o 1) ∧ (σ3 o 1) < 8) (nm (up2 σ3 (o + 3) (σ3 o 1).toNat p3) (fun σ4 => ck (0 ≤ (σ4 o 1) ∧ (σ4 o 1) < 8) (nm (up2 σ4 (o + 4) (σ4 o 1).toNat p4) (fun σ5 => ck (in32 ((σ5 o 1) + 1)) (nm (up2 σ5 o 1 ((σ5 o 1) + 1)) (fun σ6 => ck (in32 ((σ6 o 1) - 1)) (some (((σ6 o 1) - 1), σ6))))))))))))) else (some ((-1), σ))
set_option maxRecDepth 100000 in
set_option maxHeartbeats 4000000 in
theorem tX1_addBook {Γ : Gx} {K : Kt} {o : Nat} (hp : hPre K o) (p1 : Int) (p2 : Int) (p3 : Int) (p4 : Int) (σ : Sg) : Y Γ MX1_addBook K (emIS K) K 0 [some (aR o), some (aI p1), some (aI p2), some (aI p3), some (aI p4)] [] σ (vX1_addBook K o p1 p2 p3 p4 σ) := by
  unfold vX1_addBook
  refine y_aload_n dX1_addBook_0 rfl rfl ?_
  refine y_getI fX1_55 hp.2.1.1 rfl dX1_addBook_1 ?_
  refine y_bipush dX1_addBook_4 (by decide) (by decide) ?_
  refine y_ite (fun h1 => ?_) (fun h1 => ?_)
  · refine y_icmp_lt_t dX1_addBook_6 (t := 11) rfl h1 ?_
    refine y_aload_n dX1_addBook_11 rfl rfl ?_
    refine y_getR fX1_9 hp.2.1.1 rfl (lH_4 hp.2.1).1 dX1_addBook_12 ?_
    refine y_aload_n dX1_addBook_15 rfl rfl ?_
    refine y_getI fX1_55 hp.2.1.1 rfl dX1_addBook_16 ?_
    refine y_iload_n dX1_addBook_19 rfl rfl ?_
    refine yk_iastore (lH_4 hp.2.1).2 (N := 8) rfl (j := (σ o 1).toNat) rfl dX1_addBook_20 (fun σ2 => ?_)
    refine y_aload_n dX1_addBook_21 rfl rfl ?_
    refine y_getR fX1_15 hp.2.1.1 rfl (lH_5 hp.2.1).1 dX1_addBook_22 ?_
    refine y_aload_n dX1_addBook_25 rfl rfl ?_
    refine y_getI fX1_55 hp.2.1.1 rfl dX1_addBook_26 ?_
    refine y_iload_n dX1_addBook_29 rfl rfl ?_
    refine yk_iastore (lH_5 hp.2.1).2 (N := 8) rfl (j := (σ2 o 1).toNat) rfl dX1_addBook_30 (fun σ3 => ?_)
    refine y_aload_n dX1_addBook_31 rfl rfl ?_
    refine y_getR fX1_18 hp.2.1.1 rfl (lH_6 hp.2.1).1 dX1_addBook_32 ?_
    refine y_aload_n dX1_addBook_35 rfl rfl ?_
    refine y_getI fX1_55 hp.2.1.1 rfl dX1_addBook_36 ?_
    refine y_iload_n dX1_addBook_39 rfl rfl ?_
    refine yk_iastore (lH_6 hp.2.1).2 (N := 8) rfl (j := (σ3 o 1).toNat) rfl dX1_addBook_40 (fun σ4 => ?_)
    refine y_aload_n dX1_addBook_41 rfl rfl ?_
    refine y_getR fX1_21 hp.2.1.1 rfl (lH_7 hp.2.1).1 dX1_addBook_42 ?_
    refine y_aload_n dX1_addBook_45 rfl rfl ?_
    refine y_getI fX1_55 hp.2.1.1 rfl dX1_addBook_46 ?_
    refine y_iload dX1_addBook_49 rfl ?_
    refine yk_iastore (lH_7 hp.2.1).2 (N := 8) rfl (j := (σ4 o 1).toNat) rfl dX1_addBook_51 (fun σ5 => ?_)
    refine y_aload_n dX1_addBook_52 rfl rfl ?_
    refine y_dup dX1_addBook_53 (fun _ => rfl) ?_
    refine y_getI fX1_55 hp.2.1.1 rfl dX1_addBook_54 ?_
    refine y_iconst dX1_addBook_57 (by decide) ?_
    refine yk_iadd dX1_addBook_58 ?_
    refine yn_putI fX1_55 hp.2.1.1 rfl rfl dX1_addBook_59 (fun σ6 => ?_)
    refine y_aload_n dX1_addBook_62 rfl rfl ?_
    refine y_getI fX1_55 hp.2.1.1 rfl dX1_addBook_63 ?_
    refine y_iconst dX1_addBook_66 (by decide) ?_
    refine yk_isub dX1_addBook_67 ?_
    exact y_iret rfl rfl dX1_addBook_68
  · refine y_icmp_lt_f dX1_addBook_6 (t := 11) rfl h1 ?_
    refine y_iconst dX1_addBook_9 (by decide) ?_
    exact y_iret rfl rfl dX1_addBook_10
theorem qX1_addBook {K : Kt} {o : Nat} (hp : hPre K o) (p1 : Int) (p2 : Int) (p3 : Int) (p4 : Int) (σ : Sg) : Cc MX1_addBook K [aR o, aI p1, aI p2, aI p3, aI p4] σ (emIS K) (vX1_addBook K o p1 p2 p3 p4 σ) := cc_of plX1 (Nat.le_of_ble_eq_true rfl) (fun o _ => ⟨Nat.le_refl _, Nat.le_refl _⟩) (fun Γ => tX1_addBook hp p1 p2 p3 p4 σ)
