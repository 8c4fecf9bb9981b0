noncomputable def vX10_in (p1 : Int) (p2 : Int) (p3 : Int) (σ : Sg) : Option (Int) := if p1 < p2 then (some 0) else (if p3 < p1 then (some 0) else (some 1))
set_option maxRecDepth 100000 in
theorem tX10_in {Γ : Gx} {K : Kt} (p1 : Int) (p2 : Int) (p3 : Int) (σ : Sg) : Y Γ MX10_in K (emI K σ) K 0 [some (aL p1), none, some (aL p2), none, some (aL p3), none] [] σ (vX10_in p1 p2 p3 σ) := by
  unfold vX10_in
  refine y_lload_n dX10_in_0 rfl rfl ?_
  refine y_lload_n dX10_in_1 rfl rfl ?_
  refine y_lcmp dX10_in_2 ?_
  refine y_ite (fun h1 => ?_) (fun h1 => ?_)
  · refine y_if_lt_t dX10_in_3 (t := 17) rfl (cmp3_lt.mpr h1) ?_
    refine y_iconst dX10_in_17 (by decide) ?_
    exact y_zret (by decide) rfl rfl dX10_in_18
  · refine y_if_lt_f dX10_in_3 (t := 17) rfl (fun z => h1 (cmp3_lt.mp z)) ?_
    refine y_lload_n dX10_in_6 rfl rfl ?_
    refine y_lload dX10_in_7 rfl ?_
    refine y_lcmp dX10_in_9 ?_
    refine y_ite (fun h2 => ?_) (fun h2 => ?_)
    · refine y_if_gt_t dX10_in_10 (t := 17) rfl (cmp3_gt.mpr h2) ?_
      refine y_iconst dX10_in_17 (by decide) ?_
      exact y_zret (by decide) rfl rfl dX10_in_18
    · refine y_if_gt_f dX10_in_10 (t := 17) rfl (fun z => h2 (cmp3_gt.mp z)) ?_
      refine y_iconst dX10_in_13 (by decide) ?_
      refine y_goto dX10_in_14 (t := 18) rfl ?_
      exact y_zret (by decide) rfl rfl dX10_in_18
theorem qX10_in {K : Kt} (p1 : Int) (p2 : Int) (p3 : Int) (σ : Sg) : Cc MX10_in K [aL p1, aL p2, aL p3] σ (emI K σ) (vX10_in p1 p2 p3 σ) := cc_of plX10 (Nat.le_of_ble_eq_true rfl) (fun o _ => ⟨Nat.le_refl _, Nat.le_refl _⟩) (fun Γ => tX10_in p1 p2 p3 σ)
noncomputable def vX10_is (p1 : Int) (p2 : Int) (σ : Sg) : Option (Int) := if (bAnd (bShr p1 p2) 1) = 1 then (some 1) else (some 0)
set_option maxRecDepth 100000 in
theorem tX10_is {Γ : Gx} {K : Kt} (p1 : Int) (p2 : Int) (σ : Sg) : Y Γ MX10_is K (emI K σ) K 0 [some (aI p1), some (aI p2)] [] σ (vX10_is p1 p2 σ) := by
  unfold vX10_is
  refine y_iload_n dX10_is_0 rfl rfl ?_
  refine y_iload_n dX10_is_1 rfl rfl ?_
  refine y_ishr dX10_is_2 ?_
  refine y_iconst dX10_is_3 (by decide) ?_
  refine y_iand dX10_is_4 ?_
  refine y_iconst dX10_is_5 (by decide) ?_
  refine y_ite (fun h1 => ?_) (fun h1 => ?_)
  · refine y_icmp_ne_f dX10_is_6 (t := 13) rfl h1 ?_
    refine y_iconst dX10_is_9 (by decide) ?_
    refine y_goto dX10_is_10 (t := 14) rfl ?_
    exact y_zret (by decide) rfl rfl dX10_is_14
  · refine y_icmp_ne_t dX10_is_6 (t := 13) rfl h1 ?_
    refine y_iconst dX10_is_13 (by decide) ?_
    exact y_zret (by decide) rfl rfl dX10_is_14
theorem qX10_is {K : Kt} (p1 : Int) (p2 : Int) (σ : Sg) : Cc MX10_is K [aI p1, aI p2] σ (emI K σ) (vX10_is p1 p2 σ) := cc_of plX10 (Nat.le_of_ble_eq_true rfl) (fun o _ => ⟨Nat.le_refl _, Nat.le_refl _⟩) (fun Γ => tX10_is p1 p2 σ)
noncomputable def vX10_isIn (p1 : Int) (p2 : Int) (σ : Sg) : Option (Int) := if (bAnd p1 (bXor p2 (-1))) = 0 then (some 1) else (some 0)
set_option maxRecDepth 100000 in
theorem tX10_isIn {Γ : Gx} {K : Kt} (p1 : Int) (p2 : Int) (σ : Sg) : Y Γ MX10_isIn K (emI K σ) K 0 [some (aI p1), some (aI p2)] [] σ (vX10_isIn p1 p2 σ) := by
  unfold vX10_isIn
  refine y_iload_n dX10_isIn_0 rfl rfl ?_
  refine y_iload_n dX10_isIn_1 rfl rfl ?_
  refine y_iconst dX10_isIn_2 (by decide) ?_
  refine y_ixor dX10_isIn_3 ?_
  refine y_iand dX10_isIn_4 ?_
  refine y_ite (fun h1 => ?_) (fun h1 => ?_)
  · refine y_if_ne_f dX10_isIn_5 (t := 12) rfl h1 ?_
    refine y_iconst dX10_isIn_8 (by decide) ?_
    refine y_goto dX10_isIn_9 (t := 13) rfl ?_
    exact y_zret (by decide) rfl rfl dX10_isIn_13
  · refine y_if_ne_t dX10_isIn_5 (t := 12) rfl h1 ?_
    refine y_iconst dX10_isIn_12 (by decide) ?_
    exact y_zret (by decide) rfl rfl dX10_isIn_13
theorem qX10_isIn {K : Kt} (p1 : Int) (p2 : Int) (σ : Sg) : Cc MX10_isIn K [aI p1, aI p2] σ (emI K σ) (vX10_isIn p1 p2 σ) := cc_of plX10 (Nat.le_of_ble_eq_true rfl) (fun o _ => ⟨Nat.le_refl _, Nat.le_refl _⟩) (fun Γ => tX10_isIn p1 p2 σ)
noncomputable def vX10_ones_4 (σ : Sg) : Nat → Int → Int → Int → Option (Int)
  | 0, _, _, _ => none
  | f + 1, x0, x1, x2 => if x2 < 8 then (ck (in32 (x1 + (bAnd (bShr x0 x2) 1))) (nm (x1 + (bAnd (bShr x0 x2) 1)) (fun z2 => ck (in32 (x2 + 1)) (vX10_ones_4 σ f x0 z2 (x2 + 1))))) else (some x1)
set_option maxRecDepth 100000 in
theorem tX10_ones_4 {Γ : Gx} {K : Kt} (σ : Sg)  : ∀ (f : Nat) (x0 x1 x2 : Int), Y Γ MX10_ones K (emI K σ) K 4 [some (aI x0), some (aI x1), some (aI x2)] [] σ (vX10_ones_4 σ f x0 x1 x2) := by
  intro f
  induction f with
  | zero => intro x0 x1 x2; exact y_none
  | succ f ih =>
    intro x0 x1 x2
    rw [vX10_ones_4]
    refine y_iload_n dX10_ones_4 rfl rfl ?_
    refine y_bipush dX10_ones_5 (by decide) (by decide) ?_
    refine y_ite (fun h1 => ?_) (fun h1 => ?_)
    · refine y_icmp_ge_f dX10_ones_7 (t := 24) rfl h1 ?_
      refine y_iload_n dX10_ones_10 rfl rfl ?_
      refine y_iload_n dX10_ones_11 rfl rfl ?_
      refine y_iload_n dX10_ones_12 rfl rfl ?_
      refine y_ishr dX10_ones_13 ?_
      refine y_iconst dX10_ones_14 (by decide) ?_
      refine y_iand dX10_ones_15 ?_
      refine yk_iadd dX10_ones_16 ?_
      refine yn_istore_n dX10_ones_17 rfl (Nat.le_of_ble_eq_true rfl) (L' := fun z2 => [some (aI x0), some (aI z2), some (aI x2)]) (fun _ => rfl) (fun z2 => ?_)
      refine yk_iinc dX10_ones_18 rfl (L' := [some (aI x0), some (aI z2), some (aI (x2 + 1))]) rfl ?_
      refine y_goto dX10_ones_21 (t := 4) rfl ?_
      exact ih x0 z2 (x2 + 1)
    · refine y_icmp_ge_t dX10_ones_7 (t := 24) rfl h1 ?_
      refine y_iload_n dX10_ones_24 rfl rfl ?_
      exact y_iret rfl rfl dX10_ones_25
noncomputable def vX10_ones (p1 : Int) (σ : Sg) : Option (Int) := vX10_ones_4 σ FU p1 0 0
set_option maxRecDepth 100000 in
theorem tX10_ones {Γ : Gx} {K : Kt} (p1 : Int) (σ : Sg) : Y Γ MX10_ones K (emI K σ) K 0 [some (aI p1), none, none] [] σ (vX10_ones p1 σ) := by
  unfold vX10_ones
  refine y_iconst dX10_ones_0 (by decide) ?_
  refine y_istore_n dX10_ones_1 rfl (Nat.le_of_ble_eq_true rfl) (L' := [some (aI p1), some (aI 0), none]) rfl ?_
  refine y_iconst dX10_ones_2 (by decide) ?_
  refine y_istore_n dX10_ones_3 rfl (Nat.le_of_ble_eq_true rfl) (L' := [some (aI p1), some (aI 0), some (aI 0)]) rfl ?_
  exact tX10_ones_4 σ FU p1 0 0
theorem qX10_ones {K : Kt} (p1 : Int) (σ : Sg) : Cc MX10_ones K [aI p1] σ (emI K σ) (vX10_ones p1 σ) := cc_of plX10 (Nat.le_of_ble_eq_true rfl) (fun o _ => ⟨Nat.le_refl _, Nat.le_refl _⟩) (fun Γ => tX10_ones p1 σ)
noncomputable def vX10_within (p1 : Int) (p2 : Int) (p3 : Int) (σ : Sg) : Option (Int) := if p1 < p2 then (some p2) else (if p3 < p1 then (some p3) else (some (w32 p1)))
set_option maxRecDepth 100000 in
theorem tX10_within {Γ : Gx} {K : Kt} (p1 : Int) (p2 : Int) (p3 : Int) (σ : Sg) : Y Γ MX10_within K (emI K σ) K 0 [some (aL p1), none, some (aI p2), some (aI p3)] [] σ (vX10_within p1 p2 p3 σ) := by
  unfold vX10_within
  refine y_lload_n dX10_within_0 rfl rfl ?_
  refine y_iload_n dX10_within_1 rfl rfl ?_
  refine y_i2l dX10_within_2 ?_
  refine y_lcmp dX10_within_3 ?_
  refine y_ite (fun h1 => ?_) (fun h1 => ?_)
  · refine y_if_ge_f dX10_within_4 (t := 11) rfl (cmp3_lt.mpr h1) ?_
    refine y_iload_n dX10_within_7 rfl rfl ?_
    refine y_goto dX10_within_8 (t := 24) rfl ?_
    exact y_iret rfl rfl dX10_within_24
  · refine y_if_ge_t dX10_within_4 (t := 11) rfl (fun z => h1 (cmp3_lt.mp z)) ?_
    refine y_lload_n dX10_within_11 rfl rfl ?_
    refine y_iload_n dX10_within_12 rfl rfl ?_
    refine y_i2l dX10_within_13 ?_
    refine y_lcmp dX10_within_14 ?_
    refine y_ite (fun h2 => ?_) (fun h2 => ?_)
    · refine y_if_le_f dX10_within_15 (t := 22) rfl (cmp3_gt.mpr h2) ?_
      refine y_iload_n dX10_within_18 rfl rfl ?_
      refine y_goto dX10_within_19 (t := 24) rfl ?_
      exact y_iret rfl rfl dX10_within_24
    · refine y_if_le_t dX10_within_15 (t := 22) rfl (fun z => h2 (cmp3_gt.mp z)) ?_
      refine y_lload_n dX10_within_22 rfl rfl ?_
      refine y_l2i dX10_within_23 ?_
      exact y_iret rfl rfl dX10_within_24
theorem qX10_within {K : Kt} (p1 : Int) (p2 : Int) (p3 : Int) (σ : Sg) : Cc MX10_within K [aL p1, aI p2, aI p3] σ (emI K σ) (vX10_within p1 p2 p3 σ) := cc_of plX10 (Nat.le_of_ble_eq_true rfl) (fun o _ => ⟨Nat.le_refl _, Nat.le_refl _⟩) (fun Γ => tX10_within p1 p2 p3 σ)
noncomputable def vX10_tell_10 (x1 y1 : Int) (σ : Sg) : Option (Int × Sg) := nm (up2 σ 84 1 y1) (fun σ1 => if x1 < 0 then (ck (in32 (-x1)) (ck (0 ≤ (-x1) ∧ (-x1) < 7) (ck (in32 ((σ1 85 (-x1).toNat) + 1)) (ck (0 ≤ (-x1) ∧ (-x1) < 7) (nm (up2 σ1 85 (-x1).toNat ((σ1 85 (-x1).toNat) + 1)) (fun σ3 => some (x1, σ3))))))) else (some (x1, σ1)))
set_option maxRecDepth 100000 in
theorem tX10_tell_10 {Γ : Gx} {K : Kt} (hM : mLay K)  (x1 y1 : Int) (σ : Sg) : Y Γ MX10_tell K (emIS K) K 10 [some (aR 84), some (aI x1)] [aI y1, aR 84] σ (vX10_tell_10 x1 y1 σ) := by
  unfold vX10_tell_10
  refine yn_putI fX10_160 hM.1 rfl rfl dX10_tell_10 (fun σ1 => ?_)
  refine y_iload_n dX10_tell_13 rfl rfl ?_
  refine y_ite (fun h2 => ?_) (fun h2 => ?_)
  · refine y_if_ge_f dX10_tell_14 (t := 28) rfl h2 ?_
    refine y_aload_n dX10_tell_17 rfl rfl ?_
    refine y_getR fX10_7 hM.1 rfl (lM_2 hM).1 dX10_tell_18 ?_
    refine y_iload_n dX10_tell_21 rfl rfl ?_
    refine yk_ineg dX10_tell_22 ?_
    refine y_dup2 dX10_tell_23 (fun _ => rfl) (fun _ => rfl) ?_
    refine yk_iaload (lM_2 hM).2 (N := 7) rfl (j := (-x1).toNat) rfl dX10_tell_24 ?_
    refine y_iconst dX10_tell_25 (by decide) ?_
    refine yk_iadd dX10_tell_26 ?_
    refine yk_iastore (lM_2 hM).2 (N := 7) rfl (j := (-x1).toNat) rfl dX10_tell_27 (fun σ3 => ?_)
    refine y_iload_n dX10_tell_28 rfl rfl ?_
    exact y_iret rfl rfl dX10_tell_29
  · refine y_if_ge_t dX10_tell_14 (t := 28) rfl h2 ?_
    refine y_iload_n dX10_tell_28 rfl rfl ?_
    exact y_iret rfl rfl dX10_tell_29
noncomputable def vX10_tell (p1 : Int) (σ : Sg) : Option (Int × Sg) := if p1 < 0 then (vX10_tell_10 p1 p1 σ) else (vX10_tell_10 p1 0 σ)
set_option maxRecDepth 100000 in
theorem tX10_tell {Γ : Gx} {K : Kt} (hM : mLay K) (p1 : Int) (σ : Sg) : Y Γ MX10_tell K (emIS K) K 0 [some (aR 84), some (aI p1)] [] σ (vX10_tell p1 σ) := by
  unfold vX10_tell
  refine y_aload_n dX10_tell_0 rfl rfl ?_
  refine y_iload_n dX10_tell_1 rfl rfl ?_
  refine y_ite (fun h1 => ?_) (fun h1 => ?_)
  · refine y_if_ge_f dX10_tell_2 (t := 9) rfl h1 ?_
    refine y_iload_n dX10_tell_5 rfl rfl ?_
    refine y_goto dX10_tell_6 (t := 10) rfl ?_
    exact tX10_tell_10 hM p1 p1 σ
  · refine y_if_ge_t dX10_tell_2 (t := 9) rfl h1 ?_
    refine y_iconst dX10_tell_9 (by decide) ?_
    exact tX10_tell_10 hM p1 0 σ
theorem qX10_tell {K : Kt} (hM : mLay K) (p1 : Int) (σ : Sg) : Cc MX10_tell K [aR 84, aI p1] σ (emIS K) (vX10_tell p1 σ) := cc_of plX10 (Nat.le_of_ble_eq_true rfl) (fun o _ => ⟨Nat.le_refl _, Nat.le_refl _⟩) (fun Γ => tX10_tell hM p1 σ)
noncomputable def vX10_change (p1 : Int) (p2 : Int) (σ : Sg) : Option (Int × Sg) := ck (0 ≤ p1 ∧ p1 < 5505) (nm (σ 86 p1.toNat) (fun z1 => ck (0 ≤ p1 ∧ p1 < 5505) (nm (up2 σ 86 p1.toNat p2) (fun σ2 => nm (up2 σ2 84 1 0) (fun σ3 => some (z1, σ3))))))
set_option maxRecDepth 100000 in
theorem tX10_change {Γ : Gx} {K : Kt} (hM : mLay K) (p1 : Int) (p2 : Int) (σ : Sg) : Y Γ MX10_change K (emIS K) K 0 [some (aR 84), some (aI p1), some (aI p2), none] [] σ (vX10_change p1 p2 σ) := by
  unfold vX10_change
  refine y_aload_n dX10_change_0 rfl rfl ?_
  refine y_getR fX10_13 hM.1 rfl (lM_3 hM).1 dX10_change_1 ?_
  refine y_iload_n dX10_change_4 rfl rfl ?_
  refine yk_iaload (lM_3 hM).2 (N := 5505) rfl (j := p1.toNat) rfl dX10_change_5 ?_
  refine yn_istore_n dX10_change_6 rfl (Nat.le_of_ble_eq_true rfl) (L' := fun z1 => [some (aR 84), some (aI p1), some (aI p2), some (aI z1)]) (fun _ => rfl) (fun z1 => ?_)
  refine y_aload_n dX10_change_7 rfl rfl ?_
  refine y_getR fX10_13 hM.1 rfl (lM_3 hM).1 dX10_change_8 ?_
  refine y_iload_n dX10_change_11 rfl rfl ?_
  refine y_iload_n dX10_change_12 rfl rfl ?_
  refine yk_iastore (lM_3 hM).2 (N := 5505) rfl (j := p1.toNat) rfl dX10_change_13 (fun σ2 => ?_)
  refine y_aload_n dX10_change_14 rfl rfl ?_
  refine y_iconst dX10_change_15 (by decide) ?_
  refine yn_putI fX10_160 hM.1 rfl rfl dX10_change_16 (fun σ3 => ?_)
  refine y_iload_n dX10_change_19 rfl rfl ?_
  exact y_iret rfl rfl dX10_change_20
theorem qX10_change {K : Kt} (hM : mLay K) (p1 : Int) (p2 : Int) (σ : Sg) : Cc MX10_change K [aR 84, aI p1, aI p2] σ (emIS K) (vX10_change p1 p2 σ) := cc_of plX10 (Nat.le_of_ble_eq_true rfl) (fun o _ => ⟨Nat.le_refl _, Nat.le_refl _⟩) (fun Γ => tX10_change hM p1 p2 σ)
noncomputable def vX10_settled_13 (x1 y1 : Int) (σ : Sg) : Option (Int × Sg) := nm (up2 σ 84 8 y1) (fun σ1 => bd2 (vX10_tell x1 σ1) (fun r2 σ3 => some (r2, σ3)))
set_option maxRecDepth 100000 in
theorem tX10_settled_13 {Γ : Gx} {K : Kt} (hM : mLay K)  (x1 y1 : Int) (σ : Sg) : Y Γ MX10_settled K (emIS K) K 13 [some (aR 84), some (aI x1)] [aI y1, aR 84] σ (vX10_settled_13 x1 y1 σ) := by
  unfold vX10_settled_13
  refine yn_putI fX10_163 hM.1 rfl rfl dX10_settled_13 (fun σ1 => ?_)
  refine y_aload_n dX10_settled_16 rfl rfl ?_
  refine y_iload_n dX10_settled_17 rfl rfl ?_
  refine y_cvIS (qX10_tell hM x1 σ1) kX10_166 rfl hM.1 rfl (by decide) rfl (Nat.le_of_ble_eq_true rfl) dX10_settled_18 (fun r2 σ3 => ?_)
  exact y_iret rfl rfl dX10_settled_21
noncomputable def vX10_settled (p1 : Int) (σ : Sg) : Option (Int × Sg) := if p1 < 0 then (vX10_settled_13 p1 (σ 84 8) σ) else (vX10_settled_13 p1 0 σ)
set_option maxRecDepth 100000 in
theorem tX10_settled {Γ : Gx} {K : Kt} (hM : mLay K) (p1 : Int) (σ : Sg) : Y Γ MX10_settled K (emIS K) K 0 [some (aR 84), some (aI p1)] [] σ (vX10_settled p1 σ) := by
  unfold vX10_settled
  refine y_aload_n dX10_settled_0 rfl rfl ?_
  refine y_iload_n dX10_settled_1 rfl rfl ?_
  refine y_ite (fun h1 => ?_) (fun h1 => ?_)
  · refine y_if_ge_f dX10_settled_2 (t := 12) rfl h1 ?_
    refine y_aload_n dX10_settled_5 rfl rfl ?_
    refine y_getI fX10_163 hM.1 rfl dX10_settled_6 ?_
    refine y_goto dX10_settled_9 (t := 13) rfl ?_
    exact tX10_settled_13 hM p1 (σ 84 8) σ
  · refine y_if_ge_t dX10_settled_2 (t := 12) rfl h1 ?_
    refine y_iconst dX10_settled_12 (by decide) ?_
    exact tX10_settled_13 hM p1 0 σ
theorem qX10_settled {K : Kt} (hM : mLay K) (p1 : Int) (σ : Sg) : Cc MX10_settled K [aR 84, aI p1] σ (emIS K) (vX10_settled p1 σ) := cc_of plX10 (Nat.le_of_ble_eq_true rfl) (fun o _ => ⟨Nat.le_refl _, Nat.le_refl _⟩) (fun Γ => tX10_settled hM p1 σ)
noncomputable def vX10_keepAll_2 : Nat → Int → Int → Sg → Option (Sg)
  | 0, _, _, _ => none
  | f + 1, x1, x2, σ => if x2 < 67 then (ck (in32 (67 * x1)) (ck (in32 ((67 * x1) + x2)) (ck (in32 (4 + x2)) (ck (0 ≤ (4 + x2) ∧ (4 + x2) < 5505) (ck (0 ≤ ((67 * x1) + x2) ∧ ((67 * x1) + x2) < 1273) (nm (up2 σ 89 ((67 * x1) + x2).toNat (σ 86 (4 + x2).toNat)) (fun σ2 => ck (in32 (x2 + 1)) (vX10_keepAll_2 f x1 (x2 + 1) σ2)))))))) else (some σ)
set_option maxRecDepth 100000 in
theorem tX10_keepAll_2 {Γ : Gx} {K : Kt} (hM : mLay K)  : ∀ (f : Nat) (x1 x2 : Int) (σ : Sg), Y Γ MX10_keepAll K (emV K) K 2 [some (aR 84), some (aI x1), some (aI x2)] [] σ (vX10_keepAll_2 f x1 x2 σ) := by
  intro f
  induction f with
  | zero => intro x1 x2 σ; exact y_none
  | succ f ih =>
    intro x1 x2 σ
    rw [vX10_keepAll_2]
    refine y_iload_n dX10_keepAll_2 rfl rfl ?_
    refine y_bipush dX10_keepAll_3 (by decide) (by decide) ?_
    refine y_ite (fun h1 => ?_) (fun h1 => ?_)
    · refine y_icmp_ge_f dX10_keepAll_5 (t := 33) rfl h1 ?_
      refine y_aload_n dX10_keepAll_8 rfl rfl ?_
      refine y_getR fX10_23 hM.1 rfl (lM_6 hM).1 dX10_keepAll_9 ?_
      refine y_bipush dX10_keepAll_12 (by decide) (by decide) ?_
      refine y_iload_n dX10_keepAll_14 rfl rfl ?_
      refine yk_imul dX10_keepAll_15 ?_
      refine y_iload_n dX10_keepAll_16 rfl rfl ?_
      refine yk_iadd dX10_keepAll_17 ?_
      refine y_aload_n dX10_keepAll_18 rfl rfl ?_
      refine y_getR fX10_13 hM.1 rfl (lM_3 hM).1 dX10_keepAll_19 ?_
      refine y_iconst dX10_keepAll_22 (by decide) ?_
      refine y_iload_n dX10_keepAll_23 rfl rfl ?_
      refine yk_iadd dX10_keepAll_24 ?_
      refine yk_iaload (lM_3 hM).2 (N := 5505) rfl (j := (4 + x2).toNat) rfl dX10_keepAll_25 ?_
      refine yk_iastore (lM_6 hM).2 (N := 1273) rfl (j := ((67 * x1) + x2).toNat) rfl dX10_keepAll_26 (fun σ2 => ?_)
      refine yk_iinc dX10_keepAll_27 rfl (L' := [some (aR 84), some (aI x1), some (aI (x2 + 1))]) rfl ?_
      refine y_goto dX10_keepAll_30 (t := 2) rfl ?_
      exact ih x1 (x2 + 1) σ2
    · refine y_icmp_ge_t dX10_keepAll_5 (t := 33) rfl h1 ?_
      exact y_vret rfl rfl dX10_keepAll_33
noncomputable def vX10_keepAll (p1 : Int) (σ : Sg) : Option (Sg) := vX10_keepAll_2 FU p1 0 σ
set_option maxRecDepth 100000 in
theorem tX10_keepAll {Γ : Gx} {K : Kt} (hM : mLay K) (p1 : Int) (σ : Sg) : Y Γ MX10_keepAll K (emV K) K 0 [some (aR 84), some (aI p1), none] [] σ (vX10_keepAll p1 σ) := by
  unfold vX10_keepAll
  refine y_iconst dX10_keepAll_0 (by decide) ?_
  refine y_istore_n dX10_keepAll_1 rfl (Nat.le_of_ble_eq_true rfl) (L' := [some (aR 84), some (aI p1), some (aI 0)]) rfl ?_
  exact tX10_keepAll_2 hM FU p1 0 σ
theorem qX10_keepAll {K : Kt} (hM : mLay K) (p1 : Int) (σ : Sg) : Cc MX10_keepAll K [aR 84, aI p1] σ (emV K) (vX10_keepAll p1 σ) := cc_of plX10 (Nat.le_of_ble_eq_true rfl) (fun o _ => ⟨Nat.le_refl _, Nat.le_refl _⟩) (fun Γ => tX10_keepAll hM p1 σ)
noncomputable def vX10_putBack_2 : Nat → Int → Int → Sg → Option (Sg)
  | 0, _, _, _ => none
  | f + 1, x1, x2, σ => if x2 < 67 then (ck (in32 (4 + x2)) (ck (in32 (67 * x1)) (ck (in32 ((67 * x1) + x2)) (ck (0 ≤ ((67 * x1) + x2) ∧ ((67 * x1) + x2) < 1273) (ck (0 ≤ (4 + x2) ∧ (4 + x2) < 5505) (nm (up2 σ 86 (4 + x2).toNat (σ 89 ((67 * x1) + x2).toNat)) (fun σ2 => ck (in32 (x2 + 1)) (vX10_putBack_2 f x1 (x2 + 1) σ2)))))))) else (some σ)
set_option maxRecDepth 100000 in
theorem tX10_putBack_2 {Γ : Gx} {K : Kt} (hM : mLay K)  : ∀ (f : Nat) (x1 x2 : Int) (σ : Sg), Y Γ MX10_putBack K (emV K) K 2 [some (aR 84), some (aI x1), some (aI x2)] [] σ (vX10_putBack_2 f x1 x2 σ) := by
  intro f
  induction f with
  | zero => intro x1 x2 σ; exact y_none
  | succ f ih =>
    intro x1 x2 σ
    rw [vX10_putBack_2]
    refine y_iload_n dX10_putBack_2 rfl rfl ?_
    refine y_bipush dX10_putBack_3 (by decide) (by decide) ?_
    refine y_ite (fun h1 => ?_) (fun h1 => ?_)
    · refine y_icmp_ge_f dX10_putBack_5 (t := 33) rfl h1 ?_
      refine y_aload_n dX10_putBack_8 rfl rfl ?_
      refine y_getR fX10_13 hM.1 rfl (lM_3 hM).1 dX10_putBack_9 ?_
      refine y_iconst dX10_putBack_12 (by decide) ?_
      refine y_iload_n dX10_putBack_13 rfl rfl ?_
      refine yk_iadd dX10_putBack_14 ?_
      refine y_aload_n dX10_putBack_15 rfl rfl ?_
      refine y_getR fX10_23 hM.1 rfl (lM_6 hM).1 dX10_putBack_16 ?_
      refine y_bipush dX10_putBack_19 (by decide) (by decide) ?_
      refine y_iload_n dX10_putBack_21 rfl rfl ?_
      refine yk_imul dX10_putBack_22 ?_
      refine y_iload_n dX10_putBack_23 rfl rfl ?_
      refine yk_iadd dX10_putBack_24 ?_
      refine yk_iaload (lM_6 hM).2 (N := 1273) rfl (j := ((67 * x1) + x2).toNat) rfl dX10_putBack_25 ?_
      refine yk_iastore (lM_3 hM).2 (N := 5505) rfl (j := (4 + x2).toNat) rfl dX10_putBack_26 (fun σ2 => ?_)
      refine yk_iinc dX10_putBack_27 rfl (L' := [some (aR 84), some (aI x1), some (aI (x2 + 1))]) rfl ?_
      refine y_goto dX10_putBack_30 (t := 2) rfl ?_
      exact ih x1 (x2 + 1) σ2
    · refine y_icmp_ge_t dX10_putBack_5 (t := 33) rfl h1 ?_
      exact y_vret rfl rfl dX10_putBack_33
noncomputable def vX10_putBack (p1 : Int) (σ : Sg) : Option (Sg) := vX10_putBack_2 FU p1 0 σ
set_option maxRecDepth 100000 in
theorem tX10_putBack {Γ : Gx} {K : Kt} (hM : mLay K) (p1 : Int) (σ : Sg) : Y Γ MX10_putBack K (emV K) K 0 [some (aR 84), some (aI p1), none] [] σ (vX10_putBack p1 σ) := by
  unfold vX10_putBack
  refine y_iconst dX10_putBack_0 (by decide) ?_
  refine y_istore_n dX10_putBack_1 rfl (Nat.le_of_ble_eq_true rfl) (L' := [some (aR 84), some (aI p1), some (aI 0)]) rfl ?_
  exact tX10_putBack_2 hM FU p1 0 σ
theorem qX10_putBack {K : Kt} (hM : mLay K) (p1 : Int) (σ : Sg) : Cc MX10_putBack K [aR 84, aI p1] σ (emV K) (vX10_putBack p1 σ) := cc_of plX10 (Nat.le_of_ble_eq_true rfl) (fun o _ => ⟨Nat.le_refl _, Nat.le_refl _⟩) (fun Γ => tX10_putBack hM p1 σ)
noncomputable def vX10_remember_77 (x1 : Int) (σ : Sg) : Option (Sg) := (vX10_keepAll (σ 84 8) σ).bind (fun σ1 => ck (0 ≤ (σ1 84 8) ∧ (σ1 84 8) < 16) (nm (up2 σ1 90 (σ1 84 8).toNat x1) (fun σ2 => ck (in32 ((σ2 84 8) + 1)) (nm (up2 σ2 84 8 ((σ2 84 8) + 1)) (fun σ3 => some σ3)))))
set_option maxRecDepth 100000 in
theorem tX10_remember_77 {Γ : Gx} {K : Kt} (hM : mLay K)  (x1 : Int) (σ : Sg) : Y Γ MX10_remember K (emV K) K 77 [some (aR 84), some (aI x1), none] [] σ (vX10_remember_77 x1 σ) := by
  unfold vX10_remember_77
  refine y_aload_n dX10_remember_77 rfl rfl ?_
  refine y_aload_n dX10_remember_78 rfl rfl ?_
  refine y_getI fX10_163 hM.1 rfl dX10_remember_79 ?_
  refine y_cvV (qX10_keepAll hM (σ 84 8) σ) kX10_170 rfl hM.1 rfl (by decide) rfl (Nat.le_of_ble_eq_true rfl) dX10_remember_82 (fun σ1 => ?_)
  refine y_aload_n dX10_remember_85 rfl rfl ?_
  refine y_getR fX10_26 hM.1 rfl (lM_7 hM).1 dX10_remember_86 ?_
  refine y_aload_n dX10_remember_89 rfl rfl ?_
  refine y_getI fX10_163 hM.1 rfl dX10_remember_90 ?_
  refine y_iload_n dX10_remember_93 rfl rfl ?_
  refine yk_iastore (lM_7 hM).2 (N := 16) rfl (j := (σ1 84 8).toNat) rfl dX10_remember_94 (fun σ2 => ?_)
  refine y_aload_n dX10_remember_95 rfl rfl ?_
  refine y_dup dX10_remember_96 (fun _ => rfl) ?_
  refine y_getI fX10_163 hM.1 rfl dX10_remember_97 ?_
  refine y_iconst dX10_remember_100 (by decide) ?_
  refine yk_iadd dX10_remember_101 ?_
  refine yn_putI fX10_163 hM.1 rfl rfl dX10_remember_102 (fun σ3 => ?_)
  exact y_vret rfl rfl dX10_remember_105
noncomputable def vX10_remember_41 : Nat → Int → Int → Sg → Option (Sg)
  | 0, _, _, _ => none
  | f + 1, x1, x2, σ => if x2 < 15 then (ck (in32 (x2 + 1)) (ck (0 ≤ (x2 + 1) ∧ (x2 + 1) < 16) (ck (0 ≤ x2 ∧ x2 < 16) (nm (up2 σ 90 x2.toNat (σ 90 (x2 + 1).toNat)) (fun σ2 => ck (in32 (x2 + 1)) (vX10_remember_41 f x1 (x2 + 1) σ2)))))) else (ck (in32 ((σ 84 8) - 1)) (nm (up2 σ 84 8 ((σ 84 8) - 1)) (fun σ3 => vX10_remember_77 x1 σ3)))
set_option maxRecDepth 100000 in
theorem tX10_remember_41 {Γ : Gx} {K : Kt} (hM : mLay K)  : ∀ (f : Nat) (x1 x2 : Int) (σ : Sg), Y Γ MX10_remember K (emV K) K 41 [some (aR 84), some (aI x1), some (aI x2)] [] σ (vX10_remember_41 f x1 x2 σ) := by
  intro f
  induction f with
  | zero => intro x1 x2 σ; exact y_none
  | succ f ih =>
    intro x1 x2 σ
    rw [vX10_remember_41]
    refine y_iload_n dX10_remember_41 rfl rfl ?_
    refine y_bipush dX10_remember_42 (by decide) (by decide) ?_
    refine y_ite (fun h1 => ?_) (fun h1 => ?_)
    · refine y_icmp_ge_f dX10_remember_44 (t := 67) rfl h1 ?_
      refine y_aload_n dX10_remember_47 rfl rfl ?_
      refine y_getR fX10_26 hM.1 rfl (lM_7 hM).1 dX10_remember_48 ?_
      refine y_iload_n dX10_remember_51 rfl rfl ?_
      refine y_aload_n dX10_remember_52 rfl rfl ?_
      refine y_getR fX10_26 hM.1 rfl (lM_7 hM).1 dX10_remember_53 ?_
      refine y_iload_n dX10_remember_56 rfl rfl ?_
      refine y_iconst dX10_remember_57 (by decide) ?_
      refine yk_iadd dX10_remember_58 ?_
      refine yk_iaload (lM_7 hM).2 (N := 16) rfl (j := (x2 + 1).toNat) rfl dX10_remember_59 ?_
      refine yk_iastore (lM_7 hM).2 (N := 16) rfl (j := x2.toNat) rfl dX10_remember_60 (fun σ2 => ?_)
      refine yk_iinc dX10_remember_61 rfl (L' := [some (aR 84), some (aI x1), some (aI (x2 + 1))]) rfl ?_
      refine y_goto dX10_remember_64 (t := 41) rfl ?_
      exact ih x1 (x2 + 1) σ2
    · refine y_icmp_ge_t dX10_remember_44 (t := 67) rfl h1 ?_
      refine y_aload_n dX10_remember_67 rfl rfl ?_
      refine y_dup dX10_remember_68 (fun _ => rfl) ?_
      refine y_getI fX10_163 hM.1 rfl dX10_remember_69 ?_
      refine y_iconst dX10_remember_72 (by decide) ?_
      refine yk_isub dX10_remember_73 ?_
      refine yn_putI fX10_163 hM.1 rfl rfl dX10_remember_74 (fun σ3 => ?_)
      refine y_fg [true, true, false] (L' := [some (aR 84), some (aI x1), none]) rfl ?_
      exact tX10_remember_77 hM x1 σ3
noncomputable def vX10_remember_11 : Nat → Int → Int → Sg → Option (Sg)
  | 0, _, _, _ => none
  | f + 1, x1, x2, σ => if x2 < 1005 then (ck (in32 (x2 + 67)) (ck (0 ≤ (x2 + 67) ∧ (x2 + 67) < 1273) (ck (0 ≤ x2 ∧ x2 < 1273) (nm (up2 σ 89 x2.toNat (σ 89 (x2 + 67).toNat)) (fun σ2 => ck (in32 (x2 + 1)) (vX10_remember_11 f x1 (x2 + 1) σ2)))))) else (vX10_remember_41 FU x1 0 σ)
set_option maxRecDepth 100000 in
theorem tX10_remember_11 {Γ : Gx} {K : Kt} (hM : mLay K)  : ∀ (f : Nat) (x1 x2 : Int) (σ : Sg), Y Γ MX10_remember K (emV K) K 11 [some (aR 84), some (aI x1), some (aI x2)] [] σ (vX10_remember_11 f x1 x2 σ) := by
  intro f
  induction f with
  | zero => intro x1 x2 σ; exact y_none
  | succ f ih =>
    intro x1 x2 σ
    rw [vX10_remember_11]
    refine y_iload_n dX10_remember_11 rfl rfl ?_
    refine y_sipush dX10_remember_12 (by decide) (by decide) ?_
    refine y_ite (fun h1 => ?_) (fun h1 => ?_)
    · refine y_icmp_ge_f dX10_remember_15 (t := 39) rfl h1 ?_
      refine y_aload_n dX10_remember_18 rfl rfl ?_
      refine y_getR fX10_23 hM.1 rfl (lM_6 hM).1 dX10_remember_19 ?_
      refine y_iload_n dX10_remember_22 rfl rfl ?_
      refine y_aload_n dX10_remember_23 rfl rfl ?_
      refine y_getR fX10_23 hM.1 rfl (lM_6 hM).1 dX10_remember_24 ?_
      refine y_iload_n dX10_remember_27 rfl rfl ?_
      refine y_bipush dX10_remember_28 (by decide) (by decide) ?_
      refine yk_iadd dX10_remember_30 ?_
      refine yk_iaload (lM_6 hM).2 (N := 1273) rfl (j := (x2 + 67).toNat) rfl dX10_remember_31 ?_
      refine yk_iastore (lM_6 hM).2 (N := 1273) rfl (j := x2.toNat) rfl dX10_remember_32 (fun σ2 => ?_)
      refine yk_iinc dX10_remember_33 rfl (L' := [some (aR 84), some (aI x1), some (aI (x2 + 1))]) rfl ?_
      refine y_goto dX10_remember_36 (t := 11) rfl ?_
      exact ih x1 (x2 + 1) σ2
    · refine y_icmp_ge_t dX10_remember_15 (t := 39) rfl h1 ?_
      refine y_iconst dX10_remember_39 (by decide) ?_
      refine y_istore_n dX10_remember_40 rfl (Nat.le_of_ble_eq_true rfl) (L' := [some (aR 84), some (aI x1), some (aI 0)]) rfl ?_
      exact tX10_remember_41 hM FU x1 0 σ
noncomputable def vX10_remember (p1 : Int) (σ : Sg) : Option (Sg) := if (σ 84 8) = 16 then (vX10_remember_11 FU p1 0 σ) else (vX10_remember_77 p1 σ)
set_option maxRecDepth 100000 in
theorem tX10_remember {Γ : Gx} {K : Kt} (hM : mLay K) (p1 : Int) (σ : Sg) : Y Γ MX10_remember K (emV K) K 0 [some (aR 84), some (aI p1), none] [] σ (vX10_remember p1 σ) := by
  unfold vX10_remember
  refine y_aload_n dX10_remember_0 rfl rfl ?_
  refine y_getI fX10_163 hM.1 rfl dX10_remember_1 ?_
  refine y_bipush dX10_remember_4 (by decide) (by decide) ?_
  refine y_ite (fun h1 => ?_) (fun h1 => ?_)
  · refine y_icmp_ne_f dX10_remember_6 (t := 77) rfl h1 ?_
    refine y_iconst dX10_remember_9 (by decide) ?_
    refine y_istore_n dX10_remember_10 rfl (Nat.le_of_ble_eq_true rfl) (L' := [some (aR 84), some (aI p1), some (aI 0)]) rfl ?_
    exact tX10_remember_11 hM FU p1 0 σ
  · refine y_icmp_ne_t dX10_remember_6 (t := 77) rfl h1 ?_
    exact tX10_remember_77 hM p1 σ
theorem qX10_remember {K : Kt} (hM : mLay K) (p1 : Int) (σ : Sg) : Cc MX10_remember K [aR 84, aI p1] σ (emV K) (vX10_remember p1 σ) := cc_of plX10 (Nat.le_of_ble_eq_true rfl) (fun o _ => ⟨Nat.le_refl _, Nat.le_refl _⟩) (fun Γ => tX10_remember hM p1 σ)
noncomputable def vX10_undo (σ : Sg) : Option (Int × Sg) := nm (up2 σ 84 0 0) (fun σ1 => if (σ1 84 8) = 0 then (bd2 (vX10_tell (-3) σ1) (fun r3 σ4 => some (r3, σ4))) else (ck (in32 ((σ1 84 8) - 1)) (nm (up2 σ1 84 8 ((σ1 84 8) - 1)) (fun σ5 => (vX10_putBack (σ5 84 8) σ5).bind (fun σ6 => ck (0 ≤ (σ6 84 8) ∧ (σ6 84 8) < 16) (bd2 (vX10_tell (σ6 90 (σ6 84 8).toNat) σ6) (fun r7 σ8 => some (r7, σ8))))))))
set_option maxRecDepth 100000 in
theorem tX10_undo {Γ : Gx} {K : Kt} (hM : mLay K) (σ : Sg) : Y Γ MX10_undo K (emIS K) K 0 [some (aR 84)] [] σ (vX10_undo σ) := by
  unfold vX10_undo
  refine y_aload_n dX10_undo_0 rfl rfl ?_
  refine y_iconst dX10_undo_1 (by decide) ?_
  refine yn_putI fX10_157 hM.1 rfl rfl dX10_undo_2 (fun σ1 => ?_)
  refine y_aload_n dX10_undo_5 rfl rfl ?_
  refine y_getI fX10_163 hM.1 rfl dX10_undo_6 ?_
  refine y_ite (fun h2 => ?_) (fun h2 => ?_)
  · refine y_if_ne_f dX10_undo_9 (t := 19) rfl h2 ?_
    refine y_aload_n dX10_undo_12 rfl rfl ?_
    refine y_bipush dX10_undo_13 (by decide) (by decide) ?_
    refine y_cvIS (qX10_tell hM (-3) σ1) kX10_166 rfl hM.1 rfl (by decide) rfl (Nat.le_of_ble_eq_true rfl) dX10_undo_15 (fun r3 σ4 => ?_)
    exact y_iret rfl rfl dX10_undo_18
  · refine y_if_ne_t dX10_undo_9 (t := 19) rfl h2 ?_
    refine y_aload_n dX10_undo_19 rfl rfl ?_
    refine y_dup dX10_undo_20 (fun _ => rfl) ?_
    refine y_getI fX10_163 hM.1 rfl dX10_undo_21 ?_
    refine y_iconst dX10_undo_24 (by decide) ?_
    refine yk_isub dX10_undo_25 ?_
    refine yn_putI fX10_163 hM.1 rfl rfl dX10_undo_26 (fun σ5 => ?_)
    refine y_aload_n dX10_undo_29 rfl rfl ?_
    refine y_aload_n dX10_undo_30 rfl rfl ?_
    refine y_getI fX10_163 hM.1 rfl dX10_undo_31 ?_
    refine y_cvV (qX10_putBack hM (σ5 84 8) σ5) kX10_174 rfl hM.1 rfl (by decide) rfl (Nat.le_of_ble_eq_true rfl) dX10_undo_34 (fun σ6 => ?_)
    refine y_aload_n dX10_undo_37 rfl rfl ?_
    refine y_aload_n dX10_undo_38 rfl rfl ?_
    refine y_getR fX10_26 hM.1 rfl (lM_7 hM).1 dX10_undo_39 ?_
    refine y_aload_n dX10_undo_42 rfl rfl ?_
    refine y_getI fX10_163 hM.1 rfl dX10_undo_43 ?_
    refine yk_iaload (lM_7 hM).2 (N := 16) rfl (j := (σ6 84 8).toNat) rfl dX10_undo_46 ?_
    refine y_cvIS (qX10_tell hM (σ6 90 (σ6 84 8).toNat) σ6) kX10_166 rfl hM.1 rfl (by decide) rfl (Nat.le_of_ble_eq_true rfl) dX10_undo_47 (fun r7 σ8 => ?_)
    exact y_iret rfl rfl dX10_undo_50
theorem qX10_undo {K : Kt} (hM : mLay K) (σ : Sg) : Cc MX10_undo K [aR 84] σ (emIS K) (vX10_undo σ) := cc_of plX10 (Nat.le_of_ble_eq_true rfl) (fun o _ => ⟨Nat.le_refl _, Nat.le_refl _⟩) (fun Γ => tX10_undo hM σ)
noncomputable def vX10_image_23 : Nat → Int → Int → Sg → Option (Int × Sg)
  | 0, _, _, _ => none
  | f + 1, x1, x2, σ => if x2 < 5505 then (ck (in32 (5505 * x1)) (ck (in32 ((5505 * x1) + x2)) (ck (0 ≤ x2 ∧ x2 < 5505) (ck (0 ≤ ((5505 * x1) + x2) ∧ ((5505 * x1) + x2) < 11010) (nm (up2 σ 87 ((5505 * x1) + x2).toNat (σ 86 x2.toNat)) (fun σ2 => ck (in32 (x2 + 1)) (vX10_image_23 f x1 (x2 + 1) σ2))))))) else (ck (((1 : Int) = 0 ∨ (1 : Int) = 1) ∧ 0 ≤ x1 ∧ x1 < 2) (nm (up2 σ 88 x1.toNat 1) (fun σ3 => bd2 (vX10_tell 0 σ3) (fun r4 σ5 => some (r4, σ5)))))
set_option maxRecDepth 100000 in
theorem tX10_image_23 {Γ : Gx} {K : Kt} (hM : mLay K)  : ∀ (f : Nat) (x1 x2 : Int) (σ : Sg), Y Γ MX10_image K (emIS K) K 23 [some (aR 84), some (aI x1), some (aI x2)] [] σ (vX10_image_23 f x1 x2 σ) := by
  intro f
  induction f with
  | zero => intro x1 x2 σ; exact y_none
  | succ f ih =>
    intro x1 x2 σ
    rw [vX10_image_23]
    refine y_iload_n dX10_image_23 rfl rfl ?_
    refine y_sipush dX10_image_24 (by decide) (by decide) ?_
    refine y_ite (fun h1 => ?_) (fun h1 => ?_)
    · refine y_icmp_ge_f dX10_image_27 (t := 54) rfl h1 ?_
      refine y_aload_n dX10_image_30 rfl rfl ?_
      refine y_getR fX10_16 hM.1 rfl (lM_4 hM).1 dX10_image_31 ?_
      refine y_sipush dX10_image_34 (by decide) (by decide) ?_
      refine y_iload_n dX10_image_37 rfl rfl ?_
      refine yk_imul dX10_image_38 ?_
      refine y_iload_n dX10_image_39 rfl rfl ?_
      refine yk_iadd dX10_image_40 ?_
      refine y_aload_n dX10_image_41 rfl rfl ?_
      refine y_getR fX10_13 hM.1 rfl (lM_3 hM).1 dX10_image_42 ?_
      refine y_iload_n dX10_image_45 rfl rfl ?_
      refine yk_iaload (lM_3 hM).2 (N := 5505) rfl (j := x2.toNat) rfl dX10_image_46 ?_
      refine yk_iastore (lM_4 hM).2 (N := 11010) rfl (j := ((5505 * x1) + x2).toNat) rfl dX10_image_47 (fun σ2 => ?_)
      refine yk_iinc dX10_image_48 rfl (L' := [some (aR 84), some (aI x1), some (aI (x2 + 1))]) rfl ?_
      refine y_goto dX10_image_51 (t := 23) rfl ?_
      exact ih x1 (x2 + 1) σ2
    · refine y_icmp_ge_t dX10_image_27 (t := 54) rfl h1 ?_
      refine y_aload_n dX10_image_54 rfl rfl ?_
      refine y_getR fX10_19 hM.1 rfl (lM_5 hM).1 dX10_image_55 ?_
      refine y_iload_n dX10_image_58 rfl rfl ?_
      refine y_iconst dX10_image_59 (by decide) ?_
      refine yk_bastore (lM_5 hM).2 (N := 2) rfl (j := x1.toNat) rfl dX10_image_60 (fun σ3 => ?_)
      refine y_aload_n dX10_image_61 rfl rfl ?_
      refine y_iconst dX10_image_62 (by decide) ?_
      refine y_cvIS (qX10_tell hM 0 σ3) kX10_166 rfl hM.1 rfl (by decide) rfl (Nat.le_of_ble_eq_true rfl) dX10_image_63 (fun r4 σ5 => ?_)
      exact y_iret rfl rfl dX10_image_66
noncomputable def vX10_image (p1 : Int) (σ : Sg) : Option (Int × Sg) := nm (up2 σ 84 0 0) (fun σ1 => (vX10_in p1 0 1 σ1).bind (fun r2 => if r2 = 0 then (bd2 (vX10_tell (-1) σ1) (fun r4 σ5 => some (r4, σ5))) else (vX10_image_23 FU p1 0 σ1)))
set_option maxRecDepth 100000 in
theorem tX10_image {Γ : Gx} {K : Kt} (hM : mLay K) (p1 : Int) (σ : Sg) : Y Γ MX10_image K (emIS K) K 0 [some (aR 84), some (aI p1), none] [] σ (vX10_image p1 σ) := by
  unfold vX10_image
  refine y_aload_n dX10_image_0 rfl rfl ?_
  refine y_iconst dX10_image_1 (by decide) ?_
  refine yn_putI fX10_157 hM.1 rfl rfl dX10_image_2 (fun σ1 => ?_)
  refine y_iload_n dX10_image_5 rfl rfl ?_
  refine y_i2l dX10_image_6 ?_
  refine y_lconst 0 dX10_image_7 (by decide) (by decide) ?_
  refine y_lconst 1 dX10_image_8 (by decide) (by decide) ?_
  refine y_csI (qX10_in (K := K) p1 0 1 σ1) kX10_177 rfl (by decide) rfl (Nat.le_of_ble_eq_true rfl) dX10_image_9 (fun r2 => ?_)
  refine y_ite (fun h3 => ?_) (fun h3 => ?_)
  · refine y_if_ne_f dX10_image_12 (t := 21) rfl h3 ?_
    refine y_aload_n dX10_image_15 rfl rfl ?_
    refine y_iconst dX10_image_16 (by decide) ?_
    refine y_cvIS (qX10_tell hM (-1) σ1) kX10_166 rfl hM.1 rfl (by decide) rfl (Nat.le_of_ble_eq_true rfl) dX10_image_17 (fun r4 σ5 => ?_)
    exact y_iret rfl rfl dX10_image_20
  · refine y_if_ne_t dX10_image_12 (t := 21) rfl h3 ?_
    refine y_iconst dX10_image_21 (by decide) ?_
    refine y_istore_n dX10_image_22 rfl (Nat.le_of_ble_eq_true rfl) (L' := [some (aR 84), some (aI p1), some (aI 0)]) rfl ?_
    exact tX10_image_23 hM FU p1 0 σ1
theorem qX10_image {K : Kt} (hM : mLay K) (p1 : Int) (σ : Sg) : Cc MX10_image K [aR 84, aI p1] σ (emIS K) (vX10_image p1 σ) := cc_of plX10 (Nat.le_of_ble_eq_true rfl) (fun o _ => ⟨Nat.le_refl _, Nat.le_refl _⟩) (fun Γ => tX10_image hM p1 σ)
noncomputable def vX10_back_39 : Nat → Int → Int → Sg → Option (Int × Sg)
  | 0, _, _, _ => none
  | f + 1, x1, x2, σ => if x2 < 5505 then (ck (in32 (5505 * x1)) (ck (in32 ((5505 * x1) + x2)) (ck (0 ≤ ((5505 * x1) + x2) ∧ ((5505 * x1) + x2) < 11010) (ck (0 ≤ x2 ∧ x2 < 5505) (nm (up2 σ 86 x2.toNat (σ 87 ((5505 * x1) + x2).toNat)) (fun σ2 => ck (in32 (x2 + 1)) (vX10_back_39 f x1 (x2 + 1) σ2))))))) else (bd2 (vX10_settled 0 σ) (fun r3 σ4 => some (r3, σ4)))
set_option maxRecDepth 100000 in
theorem tX10_back_39 {Γ : Gx} {K : Kt} (hM : mLay K)  : ∀ (f : Nat) (x1 x2 : Int) (σ : Sg), Y Γ MX10_back K (emIS K) K 39 [some (aR 84), some (aI x1), some (aI x2)] [] σ (vX10_back_39 f x1 x2 σ) := by
  intro f
  induction f with
  | zero => intro x1 x2 σ; exact y_none
  | succ f ih =>
    intro x1 x2 σ
    rw [vX10_back_39]
    refine y_iload_n dX10_back_39 rfl rfl ?_
    refine y_sipush dX10_back_40 (by decide) (by decide) ?_
    refine y_ite (fun h1 => ?_) (fun h1 => ?_)
    · refine y_icmp_ge_f dX10_back_43 (t := 70) rfl h1 ?_
      refine y_aload_n dX10_back_46 rfl rfl ?_
      refine y_getR fX10_13 hM.1 rfl (lM_3 hM).1 dX10_back_47 ?_
      refine y_iload_n dX10_back_50 rfl rfl ?_
      refine y_aload_n dX10_back_51 rfl rfl ?_
      refine y_getR fX10_16 hM.1 rfl (lM_4 hM).1 dX10_back_52 ?_
      refine y_sipush dX10_back_55 (by decide) (by decide) ?_
      refine y_iload_n dX10_back_58 rfl rfl ?_
      refine yk_imul dX10_back_59 ?_
      refine y_iload_n dX10_back_60 rfl rfl ?_
      refine yk_iadd dX10_back_61 ?_
      refine yk_iaload (lM_4 hM).2 (N := 11010) rfl (j := ((5505 * x1) + x2).toNat) rfl dX10_back_62 ?_
      refine yk_iastore (lM_3 hM).2 (N := 5505) rfl (j := x2.toNat) rfl dX10_back_63 (fun σ2 => ?_)
      refine yk_iinc dX10_back_64 rfl (L' := [some (aR 84), some (aI x1), some (aI (x2 + 1))]) rfl ?_
      refine y_goto dX10_back_67 (t := 39) rfl ?_
      exact ih x1 (x2 + 1) σ2
    · refine y_icmp_ge_t dX10_back_43 (t := 70) rfl h1 ?_
      refine y_aload_n dX10_back_70 rfl rfl ?_
      refine y_iconst dX10_back_71 (by decide) ?_
      refine y_cvIS (qX10_settled hM 0 σ) kX10_181 rfl hM.1 rfl (by decide) rfl (Nat.le_of_ble_eq_true rfl) dX10_back_72 (fun r3 σ4 => ?_)
      exact y_iret rfl rfl dX10_back_75
noncomputable def vX10_back (p1 : Int) (σ : Sg) : Option (Int × Sg) := nm (up2 σ 84 0 0) (fun σ1 => (vX10_in p1 0 1 σ1).bind (fun r2 => if r2 = 0 then (bd2 (vX10_tell (-1) σ1) (fun r4 σ5 => some (r4, σ5))) else (ck (0 ≤ p1 ∧ p1 < 2) (if (σ1 88 p1.toNat) = 0 then (bd2 (vX10_tell (-2) σ1) (fun r7 σ8 => some (r7, σ8))) else (vX10_back_39 FU p1 0 σ1)))))
set_option maxRecDepth 100000 in
theorem tX10_back {Γ : Gx} {K : Kt} (hM : mLay K) (p1 : Int) (σ : Sg) : Y Γ MX10_back K (emIS K) K 0 [some (aR 84), some (aI p1), none] [] σ (vX10_back p1 σ) := by
  unfold vX10_back
  refine y_aload_n dX10_back_0 rfl rfl ?_
  refine y_iconst dX10_back_1 (by decide) ?_
  refine yn_putI fX10_157 hM.1 rfl rfl dX10_back_2 (fun σ1 => ?_)
  refine y_iload_n dX10_back_5 rfl rfl ?_
  refine y_i2l dX10_back_6 ?_
  refine y_lconst 0 dX10_back_7 (by decide) (by decide) ?_
  refine y_lconst 1 dX10_back_8 (by decide) (by decide) ?_
  refine y_csI (qX10_in (K := K) p1 0 1 σ1) kX10_177 rfl (by decide) rfl (Nat.le_of_ble_eq_true rfl) dX10_back_9 (fun r2 => ?_)
  refine y_ite (fun h3 => ?_) (fun h3 => ?_)
  · refine y_if_ne_f dX10_back_12 (t := 21) rfl h3 ?_
    refine y_aload_n dX10_back_15 rfl rfl ?_
    refine y_iconst dX10_back_16 (by decide) ?_
    refine y_cvIS (qX10_tell hM (-1) σ1) kX10_166 rfl hM.1 rfl (by decide) rfl (Nat.le_of_ble_eq_true rfl) dX10_back_17 (fun r4 σ5 => ?_)
    exact y_iret rfl rfl dX10_back_20
  · refine y_if_ne_t dX10_back_12 (t := 21) rfl h3 ?_
    refine y_aload_n dX10_back_21 rfl rfl ?_
    refine y_getR fX10_19 hM.1 rfl (lM_5 hM).1 dX10_back_22 ?_
    refine y_iload_n dX10_back_25 rfl rfl ?_
    refine yk_baload (lM_5 hM).2 (N := 2) rfl (j := p1.toNat) rfl dX10_back_26 ?_
    refine y_ite (fun h6 => ?_) (fun h6 => ?_)
    · refine y_if_ne_f dX10_back_27 (t := 37) rfl h6 ?_
      refine y_aload_n dX10_back_30 rfl rfl ?_
      refine y_bipush dX10_back_31 (by decide) (by decide) ?_
      refine y_cvIS (qX10_tell hM (-2) σ1) kX10_166 rfl hM.1 rfl (by decide) rfl (Nat.le_of_ble_eq_true rfl) dX10_back_33 (fun r7 σ8 => ?_)
      exact y_iret rfl rfl dX10_back_36
    · refine y_if_ne_t dX10_back_27 (t := 37) rfl h6 ?_
      refine y_iconst dX10_back_37 (by decide) ?_
      refine y_istore_n dX10_back_38 rfl (Nat.le_of_ble_eq_true rfl) (L' := [some (aR 84), some (aI p1), some (aI 0)]) rfl ?_
      exact tX10_back_39 hM FU p1 0 σ1
theorem qX10_back {K : Kt} (hM : mLay K) (p1 : Int) (σ : Sg) : Cc MX10_back K [aR 84, aI p1] σ (emIS K) (vX10_back p1 σ) := cc_of plX10 (Nat.le_of_ble_eq_true rfl) (fun o _ => ⟨Nat.le_refl _, Nat.le_refl _⟩) (fun Γ => tX10_back hM p1 σ)
noncomputable def vX10_term (p1 : Int) (σ : Sg) : Option (Int) := ck (in32 (4 + p1)) (ck (0 ≤ (4 + p1) ∧ (4 + p1) < 5505) (some (σ 86 (4 + p1).toNat)))
set_option maxRecDepth 100000 in
theorem tX10_term {Γ : Gx} {K : Kt} (hM : mLay K) (p1 : Int) (σ : Sg) : Y Γ MX10_term K (emI K σ) K 0 [some (aR 84), some (aI p1)] [] σ (vX10_term p1 σ) := by
  unfold vX10_term
  refine y_aload_n dX10_term_0 rfl rfl ?_
  refine y_getR fX10_13 hM.1 rfl (lM_3 hM).1 dX10_term_1 ?_
  refine y_iconst dX10_term_4 (by decide) ?_
  refine y_iload_n dX10_term_5 rfl rfl ?_
  refine yk_iadd dX10_term_6 ?_
  refine yk_iaload (lM_3 hM).2 (N := 5505) rfl (j := (4 + p1).toNat) rfl dX10_term_7 ?_
  exact y_iret rfl rfl dX10_term_8
theorem qX10_term {K : Kt} (hM : mLay K) (p1 : Int) (σ : Sg) : Cc MX10_term K [aR 84, aI p1] σ (emI K σ) (vX10_term p1 σ) := cc_of plX10 (Nat.le_of_ble_eq_true rfl) (fun o _ => ⟨Nat.le_refl _, Nat.le_refl _⟩) (fun Γ => tX10_term hM p1 σ)
noncomputable def vX10_isBook (p1 : Int) (σ : Sg) : Option (Int) := ck (in64 ((σ 86 0) - 1)) ((vX10_in p1 0 ((σ 86 0) - 1) σ).bind (fun r1 => ck (r1 = 0 ∨ r1 = 1) (some r1)))
set_option maxRecDepth 100000 in
theorem tX10_isBook {Γ : Gx} {K : Kt} (hM : mLay K) (p1 : Int) (σ : Sg) : Y Γ MX10_isBook K (emI K σ) K 0 [some (aR 84), some (aI p1)] [] σ (vX10_isBook p1 σ) := by
  unfold vX10_isBook
  refine y_iload_n dX10_isBook_0 rfl rfl ?_
  refine y_i2l dX10_isBook_1 ?_
  refine y_lconst 0 dX10_isBook_2 (by decide) (by decide) ?_
  refine y_aload_n dX10_isBook_3 rfl rfl ?_
  refine y_getR fX10_13 hM.1 rfl (lM_3 hM).1 dX10_isBook_4 ?_
  refine y_iconst dX10_isBook_7 (by decide) ?_
  refine yl_iaload (lM_3 hM).2 (by decide) (j := 0) rfl dX10_isBook_8 ?_
  refine y_i2l dX10_isBook_9 ?_
  refine y_lconst 1 dX10_isBook_10 (by decide) (by decide) ?_
  refine yk_lsub dX10_isBook_11 ?_
  refine y_csI (qX10_in (K := K) p1 0 ((σ 86 0) - 1) σ) kX10_177 rfl (by decide) rfl (Nat.le_of_ble_eq_true rfl) dX10_isBook_12 (fun r1 => ?_)
  exact yk_zret rfl rfl dX10_isBook_15
theorem qX10_isBook {K : Kt} (hM : mLay K) (p1 : Int) (σ : Sg) : Cc MX10_isBook K [aR 84, aI p1] σ (emI K σ) (vX10_isBook p1 σ) := cc_of plX10 (Nat.le_of_ble_eq_true rfl) (fun o _ => ⟨Nat.le_refl _, Nat.le_refl _⟩) (fun Γ => tX10_isBook hM p1 σ)
noncomputable def vX10_isReader (p1 : Int) (σ : Sg) : Option (Int) := ck (in64 ((σ 86 1) - 1)) ((vX10_in p1 0 ((σ 86 1) - 1) σ).bind (fun r1 => ck (r1 = 0 ∨ r1 = 1) (some r1)))
set_option maxRecDepth 100000 in
theorem tX10_isReader {Γ : Gx} {K : Kt} (hM : mLay K) (p1 : Int) (σ : Sg) : Y Γ MX10_isReader K (emI K σ) K 0 [some (aR 84), some (aI p1)] [] σ (vX10_isReader p1 σ) := by
  unfold vX10_isReader
  refine y_iload_n dX10_isReader_0 rfl rfl ?_
  refine y_i2l dX10_isReader_1 ?_
  refine y_lconst 0 dX10_isReader_2 (by decide) (by decide) ?_
  refine y_aload_n dX10_isReader_3 rfl rfl ?_
  refine y_getR fX10_13 hM.1 rfl (lM_3 hM).1 dX10_isReader_4 ?_
  refine y_iconst dX10_isReader_7 (by decide) ?_
  refine yl_iaload (lM_3 hM).2 (by decide) (j := 1) rfl dX10_isReader_8 ?_
  refine y_i2l dX10_isReader_9 ?_
  refine y_lconst 1 dX10_isReader_10 (by decide) (by decide) ?_
  refine yk_lsub dX10_isReader_11 ?_
  refine y_csI (qX10_in (K := K) p1 0 ((σ 86 1) - 1) σ) kX10_177 rfl (by decide) rfl (Nat.le_of_ble_eq_true rfl) dX10_isReader_12 (fun r1 => ?_)
  exact yk_zret rfl rfl dX10_isReader_15
theorem qX10_isReader {K : Kt} (hM : mLay K) (p1 : Int) (σ : Sg) : Cc MX10_isReader K [aR 84, aI p1] σ (emI K σ) (vX10_isReader p1 σ) := cc_of plX10 (Nat.le_of_ble_eq_true rfl) (fun o _ => ⟨Nat.le_refl _, Nat.le_refl _⟩) (fun Γ => tX10_isReader hM p1 σ)
noncomputable def vX10_readerWith_4 (σ : Sg) : Nat → Int → Int → Int → Option (Int)
  | 0, _, _, _ => none
  | f + 1, x1, x2, x3 => if x3 < (σ 86 1) then (ck (in32 (29 + x3)) (ck (0 ≤ (29 + x3) ∧ (29 + x3) < 5505) (if (σ 86 (29 + x3).toNat) = x1 then (ck (in32 (x3 + 1)) (vX10_readerWith_4 σ f x1 x3 (x3 + 1))) else (ck (in32 (x3 + 1)) (vX10_readerWith_4 σ f x1 x2 (x3 + 1)))))) else (some x2)
set_option maxRecDepth 100000 in
theorem tX10_readerWith_4 {Γ : Gx} {K : Kt} (hM : mLay K) (σ : Sg)  : ∀ (f : Nat) (x1 x2 x3 : Int), Y Γ MX10_readerWith K (emI K σ) K 4 [some (aR 84), some (aI x1), some (aI x2), some (aI x3)] [] σ (vX10_readerWith_4 σ f x1 x2 x3) := by
  intro f
  induction f with
  | zero => intro x1 x2 x3; exact y_none
  | succ f ih =>
    intro x1 x2 x3
    rw [vX10_readerWith_4]
    refine y_iload_n dX10_readerWith_4 rfl rfl ?_
    refine y_aload_n dX10_readerWith_5 rfl rfl ?_
    refine y_getR fX10_13 hM.1 rfl (lM_3 hM).1 dX10_readerWith_6 ?_
    refine y_iconst dX10_readerWith_9 (by decide) ?_
    refine yl_iaload (lM_3 hM).2 (by decide) (j := 1) rfl dX10_readerWith_10 ?_
    refine y_ite (fun h1 => ?_) (fun h1 => ?_)
    · refine y_icmp_ge_f dX10_readerWith_11 (t := 39) rfl h1 ?_
      refine y_aload_n dX10_readerWith_14 rfl rfl ?_
      refine y_getR fX10_13 hM.1 rfl (lM_3 hM).1 dX10_readerWith_15 ?_
      refine y_bipush dX10_readerWith_18 (by decide) (by decide) ?_
      refine y_iload_n dX10_readerWith_20 rfl rfl ?_
      refine yk_iadd dX10_readerWith_21 ?_
      refine yk_iaload (lM_3 hM).2 (N := 5505) rfl (j := (29 + x3).toNat) rfl dX10_readerWith_22 ?_
      refine y_iload_n dX10_readerWith_23 rfl rfl ?_
      refine y_ite (fun h2 => ?_) (fun h2 => ?_)
      · refine y_icmp_ne_f dX10_readerWith_24 (t := 31) rfl h2 ?_
        refine y_iload_n dX10_readerWith_27 rfl rfl ?_
        refine y_goto dX10_readerWith_28 (t := 32) rfl ?_
        refine y_istore_n dX10_readerWith_32 rfl (Nat.le_of_ble_eq_true rfl) (L' := [some (aR 84), some (aI x1), some (aI x3), some (aI x3)]) rfl ?_
        refine yk_iinc dX10_readerWith_33 rfl (L' := [some (aR 84), some (aI x1), some (aI x3), some (aI (x3 + 1))]) rfl ?_
        refine y_goto dX10_readerWith_36 (t := 4) rfl ?_
        exact ih x1 x3 (x3 + 1)
      · refine y_icmp_ne_t dX10_readerWith_24 (t := 31) rfl h2 ?_
        refine y_iload_n dX10_readerWith_31 rfl rfl ?_
        refine y_istore_n dX10_readerWith_32 rfl (Nat.le_of_ble_eq_true rfl) (L' := [some (aR 84), some (aI x1), some (aI x2), some (aI x3)]) rfl ?_
        refine yk_iinc dX10_readerWith_33 rfl (L' := [some (aR 84), some (aI x1), some (aI x2), some (aI (x3 + 1))]) rfl ?_
        refine y_goto dX10_readerWith_36 (t := 4) rfl ?_
        exact ih x1 x2 (x3 + 1)
    · refine y_icmp_ge_t dX10_readerWith_11 (t := 39) rfl h1 ?_
      refine y_iload_n dX10_readerWith_39 rfl rfl ?_
      exact y_iret rfl rfl dX10_readerWith_40
noncomputable def vX10_readerWith (p1 : Int) (σ : Sg) : Option (Int) := vX10_readerWith_4 σ FU p1 (-1) 0
set_option maxRecDepth 100000 in
theorem tX10_readerWith {Γ : Gx} {K : Kt} (hM : mLay K) (p1 : Int) (σ : Sg) : Y Γ MX10_readerWith K (emI K σ) K 0 [some (aR 84), some (aI p1), none, none] [] σ (vX10_readerWith p1 σ) := by
  unfold vX10_readerWith
  refine y_iconst dX10_readerWith_0 (by decide) ?_
  refine y_istore_n dX10_readerWith_1 rfl (Nat.le_of_ble_eq_true rfl) (L' := [some (aR 84), some (aI p1), some (aI (-1)), none]) rfl ?_
  refine y_iconst dX10_readerWith_2 (by decide) ?_
  refine y_istore_n dX10_readerWith_3 rfl (Nat.le_of_ble_eq_true rfl) (L' := [some (aR 84), some (aI p1), some (aI (-1)), some (aI 0)]) rfl ?_
  exact tX10_readerWith_4 hM σ FU p1 (-1) 0
theorem qX10_readerWith {K : Kt} (hM : mLay K) (p1 : Int) (σ : Sg) : Cc MX10_readerWith K [aR 84, aI p1] σ (emI K σ) (vX10_readerWith p1 σ) := cc_of plX10 (Nat.le_of_ble_eq_true rfl) (fun o _ => ⟨Nat.le_refl _, Nat.le_refl _⟩) (fun Γ => tX10_readerWith hM p1 σ)
noncomputable def vX10_come (p1 : Int) (p2 : Int) (p3 : Int) (p4 : Int) (σ : Sg) : Option (Int × Sg) := (vX10_in p1 1 9 σ).bind (fun r1 => if r1 = 0 then (some ((-1), σ)) else ((vX10_in p2 0 63 σ).bind (fun r3 => if r3 = 0 then (some ((-1), σ)) else ((vX10_in p3 0 63 σ).bind (fun r5 => if r5 = 0 then (some ((-1), σ)) else ((vX10_in p4 0 999 σ).bind (fun r7 => if r7 = 0 then (some ((-1), σ)) else (nm (σ 86 0) (fun z9 => if z9 = 8 then (some ((-5), σ)) else (ck (in32 (71 + z9)) (ck (0 ≤ (71 + z9) ∧ (71 + z9) < 5505) (nm (up2 σ 86 (71 + z9).toNat p1) (fun σ11 => ck (in32 (79 + z9)) (ck (0 ≤ (79 + z9) ∧ (79 + z9) < 5505) (nm (up2 σ11 86 (79 + z9).toNat p2) (fun σ12 => ck (in32 (87 + z9)) (ck (0 ≤ (87 + z9) ∧ (87 + z9) < 5505) (nm (up2 σ12 86 (87 + z9).toNat p3) (fun σ13 => ck (in32 (9 + z9)) (ck (0 ≤ (9 + z9) ∧ (9 + z9) < 5505) (nm (up2 σ13 86 (9 + z9).toNat p4) (fun σ14 => ck (in32 ((σ14 86 0) + 1)) (nm (up2 σ14 86 0 ((σ14 86 0) + 1)) (fun σ15 => some (z9, σ15)))))))))))))))))))))))))
set_option maxRecDepth 100000 in
theorem tX10_come {Γ : Gx} {K : Kt} (hM : mLay K) (p1 : Int) (p2 : Int) (p3 : Int) (p4 : Int) (σ : Sg) : Y Γ MX10_come K (emIS K) K 0 [some (aR 84), some (aI p1), some (aI p2), some (aI p3), some (aI p4), none] [] σ (vX10_come p1 p2 p3 p4 σ) := by
  unfold vX10_come
  refine y_iload_n dX10_come_0 rfl rfl ?_
  refine y_i2l dX10_come_1 ?_
  refine y_lconst 1 dX10_come_2 (by decide) (by decide) ?_
  refine y_ldc2 9 wX10_c184 dX10_come_3 (by decide) (by decide) ?_
  refine y_csI (qX10_in (K := K) p1 1 9 σ) kX10_177 rfl (by decide) rfl (Nat.le_of_ble_eq_true rfl) dX10_come_6 (fun r1 => ?_)
  refine y_ite (fun h2 => ?_) (fun h2 => ?_)
  · refine y_if_eq_t dX10_come_9 (t := 49) rfl h2 ?_
    refine y_iconst dX10_come_49 (by decide) ?_
    exact y_iret rfl rfl dX10_come_50
  · refine y_if_eq_f dX10_come_9 (t := 49) rfl h2 ?_
    refine y_iload_n dX10_come_12 rfl rfl ?_
    refine y_i2l dX10_come_13 ?_
    refine y_lconst 0 dX10_come_14 (by decide) (by decide) ?_
    refine y_ldc2 63 wX10_c186 dX10_come_15 (by decide) (by decide) ?_
    refine y_csI (qX10_in (K := K) p2 0 63 σ) kX10_177 rfl (by decide) rfl (Nat.le_of_ble_eq_true rfl) dX10_come_18 (fun r3 => ?_)
    refine y_ite (fun h4 => ?_) (fun h4 => ?_)
    · refine y_if_eq_t dX10_come_21 (t := 49) rfl h4 ?_
      refine y_iconst dX10_come_49 (by decide) ?_
      exact y_iret rfl rfl dX10_come_50
    · refine y_if_eq_f dX10_come_21 (t := 49) rfl h4 ?_
      refine y_iload_n dX10_come_24 rfl rfl ?_
      refine y_i2l dX10_come_25 ?_
      refine y_lconst 0 dX10_come_26 (by decide) (by decide) ?_
      refine y_ldc2 63 wX10_c186 dX10_come_27 (by decide) (by decide) ?_
      refine y_csI (qX10_in (K := K) p3 0 63 σ) kX10_177 rfl (by decide) rfl (Nat.le_of_ble_eq_true rfl) dX10_come_30 (fun r5 => ?_)
      refine y_ite (fun h6 => ?_) (fun h6 => ?_)
      · refine y_if_eq_t dX10_come_33 (t := 49) rfl h6 ?_
        refine y_iconst dX10_come_49 (by decide) ?_
        exact y_iret rfl rfl dX10_come_50
      · refine y_if_eq_f dX10_come_33 (t := 49) rfl h6 ?_
        refine y_iload dX10_come_36 rfl ?_
        refine y_i2l dX10_come_38 ?_
        refine y_lconst 0 dX10_come_39 (by decide) (by decide) ?_
        refine y_ldc2 999 wX10_c188 dX10_come_40 (by decide) (by decide) ?_
        refine y_csI (qX10_in (K := K) p4 0 999 σ) kX10_177 rfl (by decide) rfl (Nat.le_of_ble_eq_true rfl) dX10_come_43 (fun r7 => ?_)
        refine y_ite (fun h8 => ?_) (fun h8 => ?_)
        · refine y_if_ne_f dX10_come_46 (t := 51) rfl h8 ?_
          refine y_iconst dX10_come_49 (by decide) ?_
          exact y_iret rfl rfl dX10_come_50
        · refine y_if_ne_t dX10_come_46 (t := 51) rfl h8 ?_
          refine y_aload_n dX10_come_51 rfl rfl ?_
          refine y_getR fX10_13 hM.1 rfl (lM_3 hM).1 dX10_come_52 ?_
          refine y_iconst dX10_come_55 (by decide) ?_
          refine yl_iaload (lM_3 hM).2 (by decide) (j := 0) rfl dX10_come_56 ?_
          refine yn_istore dX10_come_57 (Nat.le_of_ble_eq_true rfl) (L' := fun z9 => [some (aR 84), some (aI p1), some (aI p2), some (aI p3), some (aI p4), some (aI z9)]) (fun _ => rfl) (fun z9 => ?_)
          refine y_iload dX10_come_59 rfl ?_
          refine y_bipush dX10_come_61 (by decide) (by decide) ?_
          refine y_ite (fun h10 => ?_) (fun h10 => ?_)
          · refine y_icmp_ne_f dX10_come_63 (t := 69) rfl h10 ?_
            refine y_bipush dX10_come_66 (by decide) (by decide) ?_
            exact y_iret rfl rfl dX10_come_68
          · refine y_icmp_ne_t dX10_come_63 (t := 69) rfl h10 ?_
            refine y_aload_n dX10_come_69 rfl rfl ?_
            refine y_getR fX10_13 hM.1 rfl (lM_3 hM).1 dX10_come_70 ?_
            refine y_bipush dX10_come_73 (by decide) (by decide) ?_
            refine y_iload dX10_come_75 rfl ?_
            refine yk_iadd dX10_come_77 ?_
            refine y_iload_n dX10_come_78 rfl rfl ?_
            refine yk_iastore (lM_3 hM).2 (N := 5505) rfl (j := (71 + z9).toNat) rfl dX10_come_79 (fun σ11 => ?_)
            refine y_aload_n dX10_come_80 rfl rfl ?_
            refine y_getR fX10_13 hM.1 rfl (lM_3 hM).1 dX10_come_81 ?_
            refine y_bipush dX10_come_84 (by decide) (by decide) ?_
            refine y_iload dX10_come_86 rfl ?_
            refine yk_iadd dX10_come_88 ?_
            refine y_iload_n dX10_come_89 rfl rfl ?_
            refine yk_iastore (lM_3 hM).2 (N := 5505) rfl (j := (79 + z9).toNat) rfl dX10_come_90 (fun σ12 => ?_)
            refine y_aload_n dX10_come_91 rfl rfl ?_
            refine y_getR fX10_13 hM.1 rfl (lM_3 hM).1 dX10_come_92 ?_
            refine y_bipush dX10_come_95 (by decide) (by decide) ?_
            refine y_iload dX10_come_97 rfl ?_
            refine yk_iadd dX10_come_99 ?_
            refine y_iload_n dX10_come_100 rfl rfl ?_
            refine yk_iastore (lM_3 hM).2 (N := 5505) rfl (j := (87 + z9).toNat) rfl dX10_come_101 (fun σ13 => ?_)
            refine y_aload_n dX10_come_102 rfl rfl ?_
            refine y_getR fX10_13 hM.1 rfl (lM_3 hM).1 dX10_come_103 ?_
            refine y_bipush dX10_come_106 (by decide) (by decide) ?_
            refine y_iload dX10_come_108 rfl ?_
            refine yk_iadd dX10_come_110 ?_
            refine y_iload dX10_come_111 rfl ?_
            refine yk_iastore (lM_3 hM).2 (N := 5505) rfl (j := (9 + z9).toNat) rfl dX10_come_113 (fun σ14 => ?_)
            refine y_aload_n dX10_come_114 rfl rfl ?_
            refine y_getR fX10_13 hM.1 rfl (lM_3 hM).1 dX10_come_115 ?_
            refine y_iconst dX10_come_118 (by decide) ?_
            refine y_dup2 dX10_come_119 (fun _ => rfl) (fun _ => rfl) ?_
            refine yl_iaload (lM_3 hM).2 (by decide) (j := 0) rfl dX10_come_120 ?_
            refine y_iconst dX10_come_121 (by decide) ?_
            refine yk_iadd dX10_come_122 ?_
            refine yl_iastore (lM_3 hM).2 (by decide) (j := 0) rfl dX10_come_123 (fun σ15 => ?_)
            refine y_iload dX10_come_124 rfl ?_
            exact y_iret rfl rfl dX10_come_126
theorem qX10_come {K : Kt} (hM : mLay K) (p1 : Int) (p2 : Int) (p3 : Int) (p4 : Int) (σ : Sg) : Cc MX10_come K [aR 84, aI p1, aI p2, aI p3, aI p4] σ (emIS K) (vX10_come p1 p2 p3 p4 σ) := cc_of plX10 (Nat.le_of_ble_eq_true rfl) (fun o _ => ⟨Nat.le_refl _, Nat.le_refl _⟩) (fun Γ => tX10_come hM p1 p2 p3 p4 σ)
noncomputable def vX10_book (p1 : Int) (p2 : Int) (p3 : Int) (p4 : Int) (σ : Sg) : Option (Int × Sg) := nm (up2 σ 84 0 0) (fun σ1 => bd2 (vX10_come p1 p2 p3 p4 σ1) (fun r2 σ3 => bd2 (vX10_settled r2 σ3) (fun r4 σ5 => some (r4, σ5))))
set_option maxRecDepth 100000 in
theorem tX10_book {Γ : Gx} {K : Kt} (hM : mLay K) (p1 : Int) (p2 : Int) (p3 : Int) (p4 : Int) (σ : Sg) : Y Γ MX10_book K (emIS K) K 0 [some (aR 84), some (aI p1), some (aI p2), some (aI p3), some (aI p4)] [] σ (vX10_book p1 p2 p3 p4 σ) := by
  unfold vX10_book
  refine y_aload_n dX10_book_0 rfl rfl ?_
  refine y_iconst dX10_book_1 (by decide) ?_
  refine yn_putI fX10_157 hM.1 rfl rfl dX10_book_2 (fun σ1 => ?_)
  refine y_aload_n dX10_book_5 rfl rfl ?_
  refine y_aload_n dX10_book_6 rfl rfl ?_
  refine y_iload_n dX10_book_7 rfl rfl ?_
  refine y_iload_n dX10_book_8 rfl rfl ?_
  refine y_iload_n dX10_book_9 rfl rfl ?_
  refine y_iload dX10_book_10 rfl ?_
  refine y_cvIS (qX10_come hM p1 p2 p3 p4 σ1) kX10_190 rfl hM.1 rfl (by decide) rfl (Nat.le_of_ble_eq_true rfl) dX10_book_12 (fun r2 σ3 => ?_)
  refine y_cvIS (qX10_settled hM r2 σ3) kX10_181 rfl hM.1 rfl (by decide) rfl (Nat.le_of_ble_eq_true rfl) dX10_book_15 (fun r4 σ5 => ?_)
  exact y_iret rfl rfl dX10_book_18
theorem qX10_book {K : Kt} (hM : mLay K) (p1 : Int) (p2 : Int) (p3 : Int) (p4 : Int) (σ : Sg) : Cc MX10_book K [aR 84, aI p1, aI p2, aI p3, aI p4] σ (emIS K) (vX10_book p1 p2 p3 p4 σ) := cc_of plX10 (Nat.le_of_ble_eq_true rfl) (fun o _ => ⟨Nat.le_refl _, Nat.le_refl _⟩) (fun Γ => tX10_book hM p1 p2 p3 p4 σ)
noncomputable def vX10_of (p1 : Int) (p2 : Int) (σ : Sg) : Option (Int × Sg) := nm (up2 σ 84 0 0) (fun σ1 => (vX10_isBook p1 σ1).bind (fun r2 => if r2 = 0 then (some ((-1), σ1)) else (if p2 = 0 then (ck (in32 (71 + p1)) (ck (0 ≤ (71 + p1) ∧ (71 + p1) < 5505) (some ((σ1 86 (71 + p1).toNat), σ1)))) else (if p2 = 1 then (ck (in32 (79 + p1)) (ck (0 ≤ (79 + p1) ∧ (79 + p1) < 5505) (some ((σ1 86 (79 + p1).toNat), σ1)))) else (if p2 = 2 then (ck (in32 (87 + p1)) (ck (0 ≤ (87 + p1) ∧ (87 + p1) < 5505) (some ((σ1 86 (87 + p1).toNat), σ1)))) else (if p2 = 3 then (ck (in32 (9 + p1)) (ck (0 ≤ (9 + p1) ∧ (9 + p1) < 5505) (some ((σ1 86 (9 + p1).toNat), σ1)))) else (if p2 = 4 then ((vX10_readerWith p1 σ1).bind (fun r4 => some (r4, σ1))) else (some ((-1), σ1)))))))))
set_option maxRecDepth 100000 in
theorem tX10_of {Γ : Gx} {K : Kt} (hM : mLay K) (p1 : Int) (p2 : Int) (σ : Sg) : Y Γ MX10_of K (emIS K) K 0 [some (aR 84), some (aI p1), some (aI p2)] [] σ (vX10_of p1 p2 σ) := by
  unfold vX10_of
  refine y_aload_n dX10_of_0 rfl rfl ?_
  refine y_iconst dX10_of_1 (by decide) ?_
  refine yn_putI fX10_157 hM.1 rfl rfl dX10_of_2 (fun σ1 => ?_)
  refine y_aload_n dX10_of_5 rfl rfl ?_
  refine y_iload_n dX10_of_6 rfl rfl ?_
  refine y_cvI (qX10_isBook hM p1 σ1) kX10_194 rfl hM.1 rfl (by decide) rfl (Nat.le_of_ble_eq_true rfl) dX10_of_7 (fun r2 => ?_)
  refine y_ite (fun h3 => ?_) (fun h3 => ?_)
  · refine y_if_ne_f dX10_of_10 (t := 15) rfl h3 ?_
    refine y_iconst dX10_of_13 (by decide) ?_
    exact y_iret rfl rfl dX10_of_14
  · refine y_if_ne_t dX10_of_10 (t := 15) rfl h3 ?_
    refine y_iload_n dX10_of_15 rfl rfl ?_
    refine y_ite (fun h9 => ?_) (fun h9 => ?_)
    · refine y_tab_in dX10_of_16 (t := 52) (off := 36) (by omega) (by rw [h9]; rfl) rfl ?_
      refine y_aload_n dX10_of_52 rfl rfl ?_
      refine y_getR fX10_13 hM.1 rfl (lM_3 hM).1 dX10_of_53 ?_
      refine y_bipush dX10_of_56 (by decide) (by decide) ?_
      refine y_iload_n dX10_of_58 rfl rfl ?_
      refine yk_iadd dX10_of_59 ?_
      refine yk_iaload (lM_3 hM).2 (N := 5505) rfl (j := (71 + p1).toNat) rfl dX10_of_60 ?_
      exact y_iret rfl rfl dX10_of_61
    · refine y_ite (fun h8 => ?_) (fun h8 => ?_)
      · refine y_tab_in dX10_of_16 (t := 62) (off := 46) (by omega) (by rw [h8]; rfl) rfl ?_
        refine y_aload_n dX10_of_62 rfl rfl ?_
        refine y_getR fX10_13 hM.1 rfl (lM_3 hM).1 dX10_of_63 ?_
        refine y_bipush dX10_of_66 (by decide) (by decide) ?_
        refine y_iload_n dX10_of_68 rfl rfl ?_
        refine yk_iadd dX10_of_69 ?_
        refine yk_iaload (lM_3 hM).2 (N := 5505) rfl (j := (79 + p1).toNat) rfl dX10_of_70 ?_
        exact y_iret rfl rfl dX10_of_71
      · refine y_ite (fun h7 => ?_) (fun h7 => ?_)
        · refine y_tab_in dX10_of_16 (t := 72) (off := 56) (by omega) (by rw [h7]; rfl) rfl ?_
          refine y_aload_n dX10_of_72 rfl rfl ?_
          refine y_getR fX10_13 hM.1 rfl (lM_3 hM).1 dX10_of_73 ?_
          refine y_bipush dX10_of_76 (by decide) (by decide) ?_
          refine y_iload_n dX10_of_78 rfl rfl ?_
          refine yk_iadd dX10_of_79 ?_
          refine yk_iaload (lM_3 hM).2 (N := 5505) rfl (j := (87 + p1).toNat) rfl dX10_of_80 ?_
          exact y_iret rfl rfl dX10_of_81
        · refine y_ite (fun h6 => ?_) (fun h6 => ?_)
          · refine y_tab_in dX10_of_16 (t := 82) (off := 66) (by omega) (by rw [h6]; rfl) rfl ?_
            refine y_aload_n dX10_of_82 rfl rfl ?_
            refine y_getR fX10_13 hM.1 rfl (lM_3 hM).1 dX10_of_83 ?_
            refine y_bipush dX10_of_86 (by decide) (by decide) ?_
            refine y_iload_n dX10_of_88 rfl rfl ?_
            refine yk_iadd dX10_of_89 ?_
            refine yk_iaload (lM_3 hM).2 (N := 5505) rfl (j := (9 + p1).toNat) rfl dX10_of_90 ?_
            exact y_iret rfl rfl dX10_of_91
          · refine y_ite (fun h5 => ?_) (fun h5 => ?_)
            · refine y_tab_in dX10_of_16 (t := 92) (off := 76) (by omega) (by rw [h5]; rfl) rfl ?_
              refine y_aload_n dX10_of_92 rfl rfl ?_
              refine y_iload_n dX10_of_93 rfl rfl ?_
              refine y_cvI (qX10_readerWith hM p1 σ1) kX10_198 rfl hM.1 rfl (by decide) rfl (Nat.le_of_ble_eq_true rfl) dX10_of_94 (fun r4 => ?_)
              exact y_iret rfl rfl dX10_of_97
            · refine y_tab_out dX10_of_16 (t := 98) (by omega) rfl ?_
              refine y_iconst dX10_of_98 (by decide) ?_
              exact y_iret rfl rfl dX10_of_99
theorem qX10_of {K : Kt} (hM : mLay K) (p1 : Int) (p2 : Int) (σ : Sg) : Cc MX10_of K [aR 84, aI p1, aI p2] σ (emIS K) (vX10_of p1 p2 σ) := cc_of plX10 (Nat.le_of_ble_eq_true rfl) (fun o _ => ⟨Nat.le_refl _, Nat.le_refl _⟩) (fun Γ => tX10_of hM p1 p2 σ)
noncomputable def vX10_reader_27 (σ : Sg) : Option (Int × Sg) := bd2 (vX10_tell (-1) σ) (fun r1 σ2 => some (r1, σ2))
set_option maxRecDepth 100000 in
theorem tX10_reader_27 {Γ : Gx} {K : Kt} (hM : mLay K)  (σ : Sg) : Y Γ MX10_reader K (emIS K) K 27 [some (aR 84), none, none, none] [] σ (vX10_reader_27  σ) := by
  unfold vX10_reader_27
  refine y_aload_n dX10_reader_27 rfl rfl ?_
  refine y_iconst dX10_reader_28 (by decide) ?_
  refine y_cvIS (qX10_tell hM (-1) σ) kX10_166 rfl hM.1 rfl (by decide) rfl (Nat.le_of_ble_eq_true rfl) dX10_reader_29 (fun r1 σ2 => ?_)
  exact y_iret rfl rfl dX10_reader_32
noncomputable def vX10_reader (p1 : Int) (p2 : Int) (σ : Sg) : Option (Int × Sg) := nm (up2 σ 84 0 0) (fun σ1 => (vX10_in p1 0 63 σ1).bind (fun r2 => if r2 = 0 then (vX10_reader_27 σ1) else ((vX10_in p2 0 1 σ1).bind (fun r4 => if r4 = 0 then (vX10_reader_27 σ1) else (nm (σ1 86 1) (fun z6 => if z6 = 6 then (bd2 (vX10_tell (-5) σ1) (fun r8 σ9 => some (r8, σ9))) else (ck (in32 (17 + z6)) (ck (0 ≤ (17 + z6) ∧ (17 + z6) < 5505) (nm (up2 σ1 86 (17 + z6).toNat p1) (fun σ10 => ck (in32 (95 + z6)) (ck (0 ≤ (95 + z6) ∧ (95 + z6) < 5505) (nm (up2 σ10 86 (95 + z6).toNat p2) (fun σ11 => ck (in32 (23 + z6)) (ck (0 ≤ (23 + z6) ∧ (23 + z6) < 5505) (nm (up2 σ11 86 (23 + z6).toNat 0) (fun σ12 => ck (in32 (29 + z6)) (ck (0 ≤ (29 + z6) ∧ (29 + z6) < 5505) (nm (up2 σ12 86 (29 + z6).toNat (-1)) (fun σ13 => ck (in32 (35 + z6)) (ck (0 ≤ (35 + z6) ∧ (35 + z6) < 5505) (nm (up2 σ13 86 (35 + z6).toNat (-1)) (fun σ14 => ck (in32 (41 + z6)) (ck (0 ≤ (41 + z6) ∧ (41 + z6) < 5505) (nm (up2 σ14 86 (41 + z6).toNat 0) (fun σ15 => ck (in32 ((σ15 86 1) + 1)) (nm (up2 σ15 86 1 ((σ15 86 1) + 1)) (fun σ16 => bd2 (vX10_settled z6 σ16) (fun r17 σ18 => some (r17, σ18)))))))))))))))))))))))))))))
set_option maxRecDepth 100000 in
theorem tX10_reader {Γ : Gx} {K : Kt} (hM : mLay K) (p1 : Int) (p2 : Int) (σ : Sg) : Y Γ MX10_reader K (emIS K) K 0 [some (aR 84), some (aI p1), some (aI p2), none] [] σ (vX10_reader p1 p2 σ) := by
  unfold vX10_reader
  refine y_aload_n dX10_reader_0 rfl rfl ?_
  refine y_iconst dX10_reader_1 (by decide) ?_
  refine yn_putI fX10_157 hM.1 rfl rfl dX10_reader_2 (fun σ1 => ?_)
  refine y_iload_n dX10_reader_5 rfl rfl ?_
  refine y_i2l dX10_reader_6 ?_
  refine y_lconst 0 dX10_reader_7 (by decide) (by decide) ?_
  refine y_ldc2 63 wX10_c186 dX10_reader_8 (by decide) (by decide) ?_
  refine y_csI (qX10_in (K := K) p1 0 63 σ1) kX10_177 rfl (by decide) rfl (Nat.le_of_ble_eq_true rfl) dX10_reader_11 (fun r2 => ?_)
  refine y_ite (fun h3 => ?_) (fun h3 => ?_)
  · refine y_if_eq_t dX10_reader_14 (t := 27) rfl h3 ?_
    refine y_fg [true, false, false, false] (L' := [some (aR 84), none, none, none]) rfl ?_
    exact tX10_reader_27 hM σ1
  · refine y_if_eq_f dX10_reader_14 (t := 27) rfl h3 ?_
    refine y_iload_n dX10_reader_17 rfl rfl ?_
    refine y_i2l dX10_reader_18 ?_
    refine y_lconst 0 dX10_reader_19 (by decide) (by decide) ?_
    refine y_lconst 1 dX10_reader_20 (by decide) (by decide) ?_
    refine y_csI (qX10_in (K := K) p2 0 1 σ1) kX10_177 rfl (by decide) rfl (Nat.le_of_ble_eq_true rfl) dX10_reader_21 (fun r4 => ?_)
    refine y_ite (fun h5 => ?_) (fun h5 => ?_)
    · refine y_if_ne_f dX10_reader_24 (t := 33) rfl h5 ?_
      refine y_fg [true, false, false, false] (L' := [some (aR 84), none, none, none]) rfl ?_
      exact tX10_reader_27 hM σ1
    · refine y_if_ne_t dX10_reader_24 (t := 33) rfl h5 ?_
      refine y_aload_n dX10_reader_33 rfl rfl ?_
      refine y_getR fX10_13 hM.1 rfl (lM_3 hM).1 dX10_reader_34 ?_
      refine y_iconst dX10_reader_37 (by decide) ?_
      refine yl_iaload (lM_3 hM).2 (by decide) (j := 1) rfl dX10_reader_38 ?_
      refine yn_istore_n dX10_reader_39 rfl (Nat.le_of_ble_eq_true rfl) (L' := fun z6 => [some (aR 84), some (aI p1), some (aI p2), some (aI z6)]) (fun _ => rfl) (fun z6 => ?_)
      refine y_iload_n dX10_reader_40 rfl rfl ?_
      refine y_bipush dX10_reader_41 (by decide) (by decide) ?_
      refine y_ite (fun h7 => ?_) (fun h7 => ?_)
      · refine y_icmp_ne_f dX10_reader_43 (t := 53) rfl h7 ?_
        refine y_aload_n dX10_reader_46 rfl rfl ?_
        refine y_bipush dX10_reader_47 (by decide) (by decide) ?_
        refine y_cvIS (qX10_tell hM (-5) σ1) kX10_166 rfl hM.1 rfl (by decide) rfl (Nat.le_of_ble_eq_true rfl) dX10_reader_49 (fun r8 σ9 => ?_)
        exact y_iret rfl rfl dX10_reader_52
      · refine y_icmp_ne_t dX10_reader_43 (t := 53) rfl h7 ?_
        refine y_aload_n dX10_reader_53 rfl rfl ?_
        refine y_getR fX10_13 hM.1 rfl (lM_3 hM).1 dX10_reader_54 ?_
        refine y_bipush dX10_reader_57 (by decide) (by decide) ?_
        refine y_iload_n dX10_reader_59 rfl rfl ?_
        refine yk_iadd dX10_reader_60 ?_
        refine y_iload_n dX10_reader_61 rfl rfl ?_
        refine yk_iastore (lM_3 hM).2 (N := 5505) rfl (j := (17 + z6).toNat) rfl dX10_reader_62 (fun σ10 => ?_)
        refine y_aload_n dX10_reader_63 rfl rfl ?_
        refine y_getR fX10_13 hM.1 rfl (lM_3 hM).1 dX10_reader_64 ?_
        refine y_bipush dX10_reader_67 (by decide) (by decide) ?_
        refine y_iload_n dX10_reader_69 rfl rfl ?_
        refine yk_iadd dX10_reader_70 ?_
        refine y_iload_n dX10_reader_71 rfl rfl ?_
        refine yk_iastore (lM_3 hM).2 (N := 5505) rfl (j := (95 + z6).toNat) rfl dX10_reader_72 (fun σ11 => ?_)
        refine y_aload_n dX10_reader_73 rfl rfl ?_
        refine y_getR fX10_13 hM.1 rfl (lM_3 hM).1 dX10_reader_74 ?_
        refine y_bipush dX10_reader_77 (by decide) (by decide) ?_
        refine y_iload_n dX10_reader_79 rfl rfl ?_
        refine yk_iadd dX10_reader_80 ?_
        refine y_iconst dX10_reader_81 (by decide) ?_
        refine yk_iastore (lM_3 hM).2 (N := 5505) rfl (j := (23 + z6).toNat) rfl dX10_reader_82 (fun σ12 => ?_)
        refine y_aload_n dX10_reader_83 rfl rfl ?_
        refine y_getR fX10_13 hM.1 rfl (lM_3 hM).1 dX10_reader_84 ?_
        refine y_bipush dX10_reader_87 (by decide) (by decide) ?_
        refine y_iload_n dX10_reader_89 rfl rfl ?_
        refine yk_iadd dX10_reader_90 ?_
        refine y_iconst dX10_reader_91 (by decide) ?_
        refine yk_iastore (lM_3 hM).2 (N := 5505) rfl (j := (29 + z6).toNat) rfl dX10_reader_92 (fun σ13 => ?_)
        refine y_aload_n dX10_reader_93 rfl rfl ?_
        refine y_getR fX10_13 hM.1 rfl (lM_3 hM).1 dX10_reader_94 ?_
        refine y_bipush dX10_reader_97 (by decide) (by decide) ?_
        refine y_iload_n dX10_reader_99 rfl rfl ?_
        refine yk_iadd dX10_reader_100 ?_
        refine y_iconst dX10_reader_101 (by decide) ?_
        refine yk_iastore (lM_3 hM).2 (N := 5505) rfl (j := (35 + z6).toNat) rfl dX10_reader_102 (fun σ14 => ?_)
        refine y_aload_n dX10_reader_103 rfl rfl ?_
        refine y_getR fX10_13 hM.1 rfl (lM_3 hM).1 dX10_reader_104 ?_
        refine y_bipush dX10_reader_107 (by decide) (by decide) ?_
        refine y_iload_n dX10_reader_109 rfl rfl ?_
        refine yk_iadd dX10_reader_110 ?_
        refine y_iconst dX10_reader_111 (by decide) ?_
        refine yk_iastore (lM_3 hM).2 (N := 5505) rfl (j := (41 + z6).toNat) rfl dX10_reader_112 (fun σ15 => ?_)
        refine y_aload_n dX10_reader_113 rfl rfl ?_
        refine y_getR fX10_13 hM.1 rfl (lM_3 hM).1 dX10_reader_114 ?_
        refine y_iconst dX10_reader_117 (by decide) ?_
        refine y_dup2 dX10_reader_118 (fun _ => rfl) (fun _ => rfl) ?_
        refine yl_iaload (lM_3 hM).2 (by decide) (j := 1) rfl dX10_reader_119 ?_
        refine y_iconst dX10_reader_120 (by decide) ?_
        refine yk_iadd dX10_reader_121 ?_
        refine yl_iastore (lM_3 hM).2 (by decide) (j := 1) rfl dX10_reader_122 (fun σ16 => ?_)
        refine y_aload_n dX10_reader_123 rfl rfl ?_
        refine y_iload_n dX10_reader_124 rfl rfl ?_
        refine y_cvIS (qX10_settled hM z6 σ16) kX10_181 rfl hM.1 rfl (by decide) rfl (Nat.le_of_ble_eq_true rfl) dX10_reader_125 (fun r17 σ18 => ?_)
        exact y_iret rfl rfl dX10_reader_128
theorem qX10_reader {K : Kt} (hM : mLay K) (p1 : Int) (p2 : Int) (σ : Sg) : Cc MX10_reader K [aR 84, aI p1, aI p2] σ (emIS K) (vX10_reader p1 p2 σ) := cc_of plX10 (Nat.le_of_ble_eq_true rfl) (fun o _ => ⟨Nat.le_refl _, Nat.le_refl _⟩) (fun Γ => tX10_reader hM p1 p2 σ)
noncomputable def vX10_at (p1 : Int) (p2 : Int) (σ : Sg) : Option (Int × Sg) := nm (up2 σ 84 0 0) (fun σ1 => (vX10_isReader p1 σ1).bind (fun r2 => if r2 = 0 then (some ((-1), σ1)) else (if p2 = 0 then (ck (in32 (17 + p1)) (ck (0 ≤ (17 + p1) ∧ (17 + p1) < 5505) (some ((σ1 86 (17 + p1).toNat), σ1)))) else (if p2 = 1 then (ck (in32 (95 + p1)) (ck (0 ≤ (95 + p1) ∧ (95 + p1) < 5505) (some ((σ1 86 (95 + p1).toNat), σ1)))) else (if p2 = 2 then (ck (in32 (23 + p1)) (ck (0 ≤ (23 + p1) ∧ (23 + p1) < 5505) (some ((σ1 86 (23 + p1).toNat), σ1)))) else (if p2 = 3 then (ck (in32 (29 + p1)) (ck (0 ≤ (29 + p1) ∧ (29 + p1) < 5505) (some ((σ1 86 (29 + p1).toNat), σ1)))) else (if p2 = 4 then (ck (in32 (35 + p1)) (ck (0 ≤ (35 + p1) ∧ (35 + p1) < 5505) (some ((σ1 86 (35 + p1).toNat), σ1)))) else (if p2 = 5 then (ck (in32 (41 + p1)) (ck (0 ≤ (41 + p1) ∧ (41 + p1) < 5505) (some ((σ1 86 (41 + p1).toNat), σ1)))) else (some ((-1), σ1))))))))))
set_option maxRecDepth 100000 in
theorem tX10_at {Γ : Gx} {K : Kt} (hM : mLay K) (p1 : Int) (p2 : Int) (σ : Sg) : Y Γ MX10_at K (emIS K) K 0 [some (aR 84), some (aI p1), some (aI p2)] [] σ (vX10_at p1 p2 σ) := by
  unfold vX10_at
  refine y_aload_n dX10_at_0 rfl rfl ?_
  refine y_iconst dX10_at_1 (by decide) ?_
  refine yn_putI fX10_157 hM.1 rfl rfl dX10_at_2 (fun σ1 => ?_)
  refine y_aload_n dX10_at_5 rfl rfl ?_
  refine y_iload_n dX10_at_6 rfl rfl ?_
  refine y_cvI (qX10_isReader hM p1 σ1) kX10_201 rfl hM.1 rfl (by decide) rfl (Nat.le_of_ble_eq_true rfl) dX10_at_7 (fun r2 => ?_)
  refine y_ite (fun h3 => ?_) (fun h3 => ?_)
  · refine y_if_ne_f dX10_at_10 (t := 15) rfl h3 ?_
    refine y_iconst dX10_at_13 (by decide) ?_
    exact y_iret rfl rfl dX10_at_14
  · refine y_if_ne_t dX10_at_10 (t := 15) rfl h3 ?_
    refine y_iload_n dX10_at_15 rfl rfl ?_
    refine y_ite (fun h9 => ?_) (fun h9 => ?_)
    · refine y_tab_in dX10_at_16 (t := 56) (off := 40) (by omega) (by rw [h9]; rfl) rfl ?_
      refine y_aload_n dX10_at_56 rfl rfl ?_
      refine y_getR fX10_13 hM.1 rfl (lM_3 hM).1 dX10_at_57 ?_
      refine y_bipush dX10_at_60 (by decide) (by decide) ?_
      refine y_iload_n dX10_at_62 rfl rfl ?_
      refine yk_iadd dX10_at_63 ?_
      refine yk_iaload (lM_3 hM).2 (N := 5505) rfl (j := (17 + p1).toNat) rfl dX10_at_64 ?_
      exact y_iret rfl rfl dX10_at_65
    · refine y_ite (fun h8 => ?_) (fun h8 => ?_)
      · refine y_tab_in dX10_at_16 (t := 66) (off := 50) (by omega) (by rw [h8]; rfl) rfl ?_
        refine y_aload_n dX10_at_66 rfl rfl ?_
        refine y_getR fX10_13 hM.1 rfl (lM_3 hM).1 dX10_at_67 ?_
        refine y_bipush dX10_at_70 (by decide) (by decide) ?_
        refine y_iload_n dX10_at_72 rfl rfl ?_
        refine yk_iadd dX10_at_73 ?_
        refine yk_iaload (lM_3 hM).2 (N := 5505) rfl (j := (95 + p1).toNat) rfl dX10_at_74 ?_
        exact y_iret rfl rfl dX10_at_75
      · refine y_ite (fun h7 => ?_) (fun h7 => ?_)
        · refine y_tab_in dX10_at_16 (t := 76) (off := 60) (by omega) (by rw [h7]; rfl) rfl ?_
          refine y_aload_n dX10_at_76 rfl rfl ?_
          refine y_getR fX10_13 hM.1 rfl (lM_3 hM).1 dX10_at_77 ?_
          refine y_bipush dX10_at_80 (by decide) (by decide) ?_
          refine y_iload_n dX10_at_82 rfl rfl ?_
          refine yk_iadd dX10_at_83 ?_
          refine yk_iaload (lM_3 hM).2 (N := 5505) rfl (j := (23 + p1).toNat) rfl dX10_at_84 ?_
          exact y_iret rfl rfl dX10_at_85
        · refine y_ite (fun h6 => ?_) (fun h6 => ?_)
          · refine y_tab_in dX10_at_16 (t := 86) (off := 70) (by omega) (by rw [h6]; rfl) rfl ?_
            refine y_aload_n dX10_at_86 rfl rfl ?_
            refine y_getR fX10_13 hM.1 rfl (lM_3 hM).1 dX10_at_87 ?_
            refine y_bipush dX10_at_90 (by decide) (by decide) ?_
            refine y_iload_n dX10_at_92 rfl rfl ?_
            refine yk_iadd dX10_at_93 ?_
            refine yk_iaload (lM_3 hM).2 (N := 5505) rfl (j := (29 + p1).toNat) rfl dX10_at_94 ?_
            exact y_iret rfl rfl dX10_at_95
          · refine y_ite (fun h5 => ?_) (fun h5 => ?_)
            · refine y_tab_in dX10_at_16 (t := 96) (off := 80) (by omega) (by rw [h5]; rfl) rfl ?_
              refine y_aload_n dX10_at_96 rfl rfl ?_
              refine y_getR fX10_13 hM.1 rfl (lM_3 hM).1 dX10_at_97 ?_
              refine y_bipush dX10_at_100 (by decide) (by decide) ?_
              refine y_iload_n dX10_at_102 rfl rfl ?_
              refine yk_iadd dX10_at_103 ?_
              refine yk_iaload (lM_3 hM).2 (N := 5505) rfl (j := (35 + p1).toNat) rfl dX10_at_104 ?_
              exact y_iret rfl rfl dX10_at_105
            · refine y_ite (fun h4 => ?_) (fun h4 => ?_)
              · refine y_tab_in dX10_at_16 (t := 106) (off := 90) (by omega) (by rw [h4]; rfl) rfl ?_
                refine y_aload_n dX10_at_106 rfl rfl ?_
                refine y_getR fX10_13 hM.1 rfl (lM_3 hM).1 dX10_at_107 ?_
                refine y_bipush dX10_at_110 (by decide) (by decide) ?_
                refine y_iload_n dX10_at_112 rfl rfl ?_
                refine yk_iadd dX10_at_113 ?_
                refine yk_iaload (lM_3 hM).2 (N := 5505) rfl (j := (41 + p1).toNat) rfl dX10_at_114 ?_
                exact y_iret rfl rfl dX10_at_115
              · refine y_tab_out dX10_at_16 (t := 116) (by omega) rfl ?_
                refine y_iconst dX10_at_116 (by decide) ?_
                exact y_iret rfl rfl dX10_at_117
theorem qX10_at {K : Kt} (hM : mLay K) (p1 : Int) (p2 : Int) (σ : Sg) : Cc MX10_at K [aR 84, aI p1, aI p2] σ (emIS K) (vX10_at p1 p2 σ) := cc_of plX10 (Nat.le_of_ble_eq_true rfl) (fun o _ => ⟨Nat.le_refl _, Nat.le_refl _⟩) (fun Γ => tX10_at hM p1 p2 σ)
noncomputable def vX10_terms_77 (x1 x2 y0 : Int) (σ : Sg) : Option (Int × Sg) := if y0 = 0 then (bd2 (vX10_tell (-1) σ) (fun r2 σ3 => some (r2, σ3))) else (nm (up2 σ 84 8 0) (fun σ4 => ck (in32 (4 + x1)) (bd2 (vX10_change (4 + x1) x2 σ4) (fun r5 σ6 => some (r5, σ6)))))
set_option maxRecDepth 100000 in
theorem tX10_terms_77 {Γ : Gx} {K : Kt} (hM : mLay K)  (x1 x2 y0 : Int) (σ : Sg) : Y Γ MX10_terms K (emIS K) K 77 [some (aR 84), some (aI x1), some (aI x2), none] [aI y0] σ (vX10_terms_77 x1 x2 y0 σ) := by
  unfold vX10_terms_77
  refine y_istore_n dX10_terms_77 rfl (Nat.le_of_ble_eq_true rfl) (L' := [some (aR 84), some (aI x1), some (aI x2), some (aI y0)]) rfl ?_
  refine y_iload_n dX10_terms_78 rfl rfl ?_
  refine y_ite (fun h1 => ?_) (fun h1 => ?_)
  · refine y_if_ne_f dX10_terms_79 (t := 88) rfl h1 ?_
    refine y_aload_n dX10_terms_82 rfl rfl ?_
    refine y_iconst dX10_terms_83 (by decide) ?_
    refine y_cvIS (qX10_tell hM (-1) σ) kX10_166 rfl hM.1 rfl (by decide) rfl (Nat.le_of_ble_eq_true rfl) dX10_terms_84 (fun r2 σ3 => ?_)
    exact y_iret rfl rfl dX10_terms_87
  · refine y_if_ne_t dX10_terms_79 (t := 88) rfl h1 ?_
    refine y_aload_n dX10_terms_88 rfl rfl ?_
    refine y_iconst dX10_terms_89 (by decide) ?_
    refine yn_putI fX10_163 hM.1 rfl rfl dX10_terms_90 (fun σ4 => ?_)
    refine y_aload_n dX10_terms_93 rfl rfl ?_
    refine y_iconst dX10_terms_94 (by decide) ?_
    refine y_iload_n dX10_terms_95 rfl rfl ?_
    refine yk_iadd dX10_terms_96 ?_
    refine y_iload_n dX10_terms_97 rfl rfl ?_
    refine y_cvIS (qX10_change hM (4 + x1) x2 σ4) kX10_208 rfl hM.1 rfl (by decide) rfl (Nat.le_of_ble_eq_true rfl) dX10_terms_98 (fun r5 σ6 => ?_)
    exact y_iret rfl rfl dX10_terms_101
noncomputable def vX10_terms_76 (x1 x2 : Int) (σ : Sg) : Option (Int × Sg) := vX10_terms_77 x1 x2 0 σ
set_option maxRecDepth 100000 in
theorem tX10_terms_76 {Γ : Gx} {K : Kt} (hM : mLay K)  (x1 x2 : Int) (σ : Sg) : Y Γ MX10_terms K (emIS K) K 76 [some (aR 84), some (aI x1), some (aI x2), none] [] σ (vX10_terms_76 x1 x2 σ) := by
  unfold vX10_terms_76
  refine y_iconst dX10_terms_76 (by decide) ?_
  exact tX10_terms_77 hM x1 x2 0 σ
noncomputable def vX10_terms (p1 : Int) (p2 : Int) (σ : Sg) : Option (Int × Sg) := nm (up2 σ 84 0 0) (fun σ1 => if p1 = 0 then ((vX10_in p2 0 999 σ1).bind (fun r3 => vX10_terms_77 p1 p2 r3 σ1)) else (if p1 = 1 then ((vX10_in p2 1 20 σ1).bind (fun r5 => vX10_terms_77 p1 p2 r5 σ1)) else (if p1 = 2 then ((vX10_in p2 0 10 σ1).bind (fun r7 => vX10_terms_77 p1 p2 r7 σ1)) else (if p1 = 3 then ((vX10_in p2 0 9 σ1).bind (fun r9 => if r9 = 0 then (vX10_terms_76 p1 p2 σ1) else (vX10_terms_77 p1 p2 1 σ1))) else (vX10_terms_76 p1 p2 σ1)))))
set_option maxRecDepth 100000 in
theorem tX10_terms {Γ : Gx} {K : Kt} (hM : mLay K) (p1 : Int) (p2 : Int) (σ : Sg) : Y Γ MX10_terms K (emIS K) K 0 [some (aR 84), some (aI p1), some (aI p2), none] [] σ (vX10_terms p1 p2 σ) := by
  unfold vX10_terms
  refine y_aload_n dX10_terms_0 rfl rfl ?_
  refine y_iconst dX10_terms_1 (by decide) ?_
  refine yn_putI fX10_157 hM.1 rfl rfl dX10_terms_2 (fun σ1 => ?_)
  refine y_iload_n dX10_terms_5 rfl rfl ?_
  refine y_ite (fun h2 => ?_) (fun h2 => ?_)
  · refine y_if_ne_f dX10_terms_6 (t := 21) rfl h2 ?_
    refine y_iload_n dX10_terms_9 rfl rfl ?_
    refine y_i2l dX10_terms_10 ?_
    refine y_lconst 0 dX10_terms_11 (by decide) (by decide) ?_
    refine y_ldc2 999 wX10_c188 dX10_terms_12 (by decide) (by decide) ?_
    refine y_csI (qX10_in (K := K) p2 0 999 σ1) kX10_177 rfl (by decide) rfl (Nat.le_of_ble_eq_true rfl) dX10_terms_15 (fun r3 => ?_)
    refine y_goto dX10_terms_18 (t := 77) rfl ?_
    exact tX10_terms_77 hM p1 p2 r3 σ1
  · refine y_if_ne_t dX10_terms_6 (t := 21) rfl h2 ?_
    refine y_iload_n dX10_terms_21 rfl rfl ?_
    refine y_iconst dX10_terms_22 (by decide) ?_
    refine y_ite (fun h4 => ?_) (fun h4 => ?_)
    · refine y_icmp_ne_f dX10_terms_23 (t := 38) rfl h4 ?_
      refine y_iload_n dX10_terms_26 rfl rfl ?_
      refine y_i2l dX10_terms_27 ?_
      refine y_lconst 1 dX10_terms_28 (by decide) (by decide) ?_
      refine y_ldc2 20 wX10_c204 dX10_terms_29 (by decide) (by decide) ?_
      refine y_csI (qX10_in (K := K) p2 1 20 σ1) kX10_177 rfl (by decide) rfl (Nat.le_of_ble_eq_true rfl) dX10_terms_32 (fun r5 => ?_)
      refine y_goto dX10_terms_35 (t := 77) rfl ?_
      exact tX10_terms_77 hM p1 p2 r5 σ1
    · refine y_icmp_ne_t dX10_terms_23 (t := 38) rfl h4 ?_
      refine y_iload_n dX10_terms_38 rfl rfl ?_
      refine y_iconst dX10_terms_39 (by decide) ?_
      refine y_ite (fun h6 => ?_) (fun h6 => ?_)
      · refine y_icmp_ne_f dX10_terms_40 (t := 55) rfl h6 ?_
        refine y_iload_n dX10_terms_43 rfl rfl ?_
        refine y_i2l dX10_terms_44 ?_
        refine y_lconst 0 dX10_terms_45 (by decide) (by decide) ?_
        refine y_ldc2 10 wX10_c206 dX10_terms_46 (by decide) (by decide) ?_
        refine y_csI (qX10_in (K := K) p2 0 10 σ1) kX10_177 rfl (by decide) rfl (Nat.le_of_ble_eq_true rfl) dX10_terms_49 (fun r7 => ?_)
        refine y_goto dX10_terms_52 (t := 77) rfl ?_
        exact tX10_terms_77 hM p1 p2 r7 σ1
      · refine y_icmp_ne_t dX10_terms_40 (t := 55) rfl h6 ?_
        refine y_iload_n dX10_terms_55 rfl rfl ?_
        refine y_iconst dX10_terms_56 (by decide) ?_
        refine y_ite (fun h8 => ?_) (fun h8 => ?_)
        · refine y_icmp_ne_f dX10_terms_57 (t := 76) rfl h8 ?_
          refine y_iload_n dX10_terms_60 rfl rfl ?_
          refine y_i2l dX10_terms_61 ?_
          refine y_lconst 0 dX10_terms_62 (by decide) (by decide) ?_
          refine y_ldc2 9 wX10_c184 dX10_terms_63 (by decide) (by decide) ?_
          refine y_csI (qX10_in (K := K) p2 0 9 σ1) kX10_177 rfl (by decide) rfl (Nat.le_of_ble_eq_true rfl) dX10_terms_66 (fun r9 => ?_)
          refine y_ite (fun h10 => ?_) (fun h10 => ?_)
          · refine y_if_eq_t dX10_terms_69 (t := 76) rfl h10 ?_
            exact tX10_terms_76 hM p1 p2 σ1
          · refine y_if_eq_f dX10_terms_69 (t := 76) rfl h10 ?_
            refine y_iconst dX10_terms_72 (by decide) ?_
            refine y_goto dX10_terms_73 (t := 77) rfl ?_
            exact tX10_terms_77 hM p1 p2 1 σ1
        · refine y_icmp_ne_t dX10_terms_57 (t := 76) rfl h8 ?_
          exact tX10_terms_76 hM p1 p2 σ1
theorem qX10_terms {K : Kt} (hM : mLay K) (p1 : Int) (p2 : Int) (σ : Sg) : Cc MX10_terms K [aR 84, aI p1, aI p2] σ (emIS K) (vX10_terms p1 p2 σ) := cc_of plX10 (Nat.le_of_ble_eq_true rfl) (fun o _ => ⟨Nat.le_refl _, Nat.le_refl _⟩) (fun Γ => tX10_terms hM p1 p2 σ)
noncomputable def vX10_row_93 (rec_35 : Int → Int → Int → Sg → Option (Int × Sg)) (x1 x2 x3 : Int) (σ : Sg) : Option (Int × Sg) := ck (in32 ((σ 84 11) + 1)) (nm (up2 σ 84 11 ((σ 84 11) + 1)) (fun σ1 => ck (in32 (x3 + 4)) (rec_35 x1 x2 (x3 + 4) σ1)))
set_option maxRecDepth 100000 in
theorem tX10_row_93 {Γ : Gx} {K : Kt} (hM : mLay K)  (rec_35 : Int → Int → Int → Sg → Option (Int × Sg)) (hrec_35 : ∀ (x1 x2 x3 : Int) (σ : Sg), Y Γ MX10_row K (emIS K) K 35 [some (aR 84), some (aI x1), some (aI x2), some (aI x3)] [] σ (rec_35 x1 x2 x3 σ)) (x1 x2 x3 : Int) (σ : Sg) : Y Γ MX10_row K (emIS K) K 93 [some (aR 84), some (aI x1), some (aI x2), some (aI x3)] [] σ (vX10_row_93 rec_35 x1 x2 x3 σ) := by
  unfold vX10_row_93
  refine y_aload_n dX10_row_93 rfl rfl ?_
  refine y_dup dX10_row_94 (fun _ => rfl) ?_
  refine y_getI fX10_215 hM.1 rfl dX10_row_95 ?_
  refine y_iconst dX10_row_98 (by decide) ?_
  refine yk_iadd dX10_row_99 ?_
  refine yn_putI fX10_215 hM.1 rfl rfl dX10_row_100 (fun σ1 => ?_)
  refine yk_iinc dX10_row_103 rfl (L' := [some (aR 84), some (aI x1), some (aI x2), some (aI (x3 + 4))]) rfl ?_
  refine y_goto dX10_row_106 (t := 35) rfl ?_
  exact hrec_35 x1 x2 (x3 + 4) σ1
noncomputable def vX10_row_35 : Nat → Int → Int → Int → Sg → Option (Int × Sg)
  | 0, _, _, _, _ => none
  | f + 1, x1, x2, x3, σ => if x3 < x1 then (ck (in32 (x3 + 3)) (if (x3 + 3) < x1 then (ck (0 ≤ x3 ∧ x3 < 400) (ck (in32 (x3 + 1)) (ck (0 ≤ (x3 + 1) ∧ (x3 + 1) < 400) (ck (in32 (x3 + 2)) (ck (0 ≤ (x3 + 2) ∧ (x3 + 2) < 400) (ck (in32 (x3 + 3)) (ck (0 ≤ (x3 + 3) ∧ (x3 + 3) < 400) (ck (in32 (10 * (σ 93 (x3 + 3).toNat))) (bd2 (vX10_come (σ 93 x3.toNat) (σ 93 (x3 + 1).toNat) (σ 93 (x3 + 2).toNat) (10 * (σ 93 (x3 + 3).toNat)) σ) (fun r3 σ4 => if r3 < 0 then (vX10_row_93 (vX10_row_35 f) x1 x2 x3 σ4) else (ck (in32 (x2 + 1)) (ck (in32 (x3 + 4)) (vX10_row_35 f x1 (x2 + 1) (x3 + 4) σ4))))))))))))) else (vX10_row_93 (vX10_row_35 f) x1 x2 x3 σ))) else (bd2 (vX10_settled x2 σ) (fun r6 σ7 => some (r6, σ7)))
set_option maxRecDepth 100000 in
theorem tX10_row_35 {Γ : Gx} {K : Kt} (hM : mLay K)  : ∀ (f : Nat) (x1 x2 x3 : Int) (σ : Sg), Y Γ MX10_row K (emIS K) K 35 [some (aR 84), some (aI x1), some (aI x2), some (aI x3)] [] σ (vX10_row_35 f x1 x2 x3 σ) := by
  intro f
  induction f with
  | zero => intro x1 x2 x3 σ; exact y_none
  | succ f ih =>
    intro x1 x2 x3 σ
    rw [vX10_row_35]
    refine y_iload_n dX10_row_35 rfl rfl ?_
    refine y_iload_n dX10_row_36 rfl rfl ?_
    refine y_ite (fun h1 => ?_) (fun h1 => ?_)
    · refine y_icmp_ge_f dX10_row_37 (t := 109) rfl h1 ?_
      refine y_iload_n dX10_row_40 rfl rfl ?_
      refine y_iconst dX10_row_41 (by decide) ?_
      refine yk_iadd dX10_row_42 ?_
      refine y_iload_n dX10_row_43 rfl rfl ?_
      refine y_ite (fun h2 => ?_) (fun h2 => ?_)
      · refine y_icmp_ge_f dX10_row_44 (t := 93) rfl h2 ?_
        refine y_aload_n dX10_row_47 rfl rfl ?_
        refine y_aload_n dX10_row_48 rfl rfl ?_
        refine y_getR fX10_35 hM.1 rfl (lM_12 hM).1 dX10_row_49 ?_
        refine y_iload_n dX10_row_52 rfl rfl ?_
        refine yk_iaload (lM_12 hM).2 (N := 400) rfl (j := x3.toNat) rfl dX10_row_53 ?_
        refine y_aload_n dX10_row_54 rfl rfl ?_
        refine y_getR fX10_35 hM.1 rfl (lM_12 hM).1 dX10_row_55 ?_
        refine y_iload_n dX10_row_58 rfl rfl ?_
        refine y_iconst dX10_row_59 (by decide) ?_
        refine yk_iadd dX10_row_60 ?_
        refine yk_iaload (lM_12 hM).2 (N := 400) rfl (j := (x3 + 1).toNat) rfl dX10_row_61 ?_
        refine y_aload_n dX10_row_62 rfl rfl ?_
        refine y_getR fX10_35 hM.1 rfl (lM_12 hM).1 dX10_row_63 ?_
        refine y_iload_n dX10_row_66 rfl rfl ?_
        refine y_iconst dX10_row_67 (by decide) ?_
        refine yk_iadd dX10_row_68 ?_
        refine yk_iaload (lM_12 hM).2 (N := 400) rfl (j := (x3 + 2).toNat) rfl dX10_row_69 ?_
        refine y_bipush dX10_row_70 (by decide) (by decide) ?_
        refine y_aload_n dX10_row_72 rfl rfl ?_
        refine y_getR fX10_35 hM.1 rfl (lM_12 hM).1 dX10_row_73 ?_
        refine y_iload_n dX10_row_76 rfl rfl ?_
        refine y_iconst dX10_row_77 (by decide) ?_
        refine yk_iadd dX10_row_78 ?_
        refine yk_iaload (lM_12 hM).2 (N := 400) rfl (j := (x3 + 3).toNat) rfl dX10_row_79 ?_
        refine yk_imul dX10_row_80 ?_
        refine y_cvIS (qX10_come hM (σ 93 x3.toNat) (σ 93 (x3 + 1).toNat) (σ 93 (x3 + 2).toNat) (10 * (σ 93 (x3 + 3).toNat)) σ) kX10_190 rfl hM.1 rfl (by decide) rfl (Nat.le_of_ble_eq_true rfl) dX10_row_81 (fun r3 σ4 => ?_)
        refine y_ite (fun h5 => ?_) (fun h5 => ?_)
        · refine y_if_lt_t dX10_row_84 (t := 93) rfl h5 ?_
          exact tX10_row_93 hM (vX10_row_35 f) ih x1 x2 x3 σ4
        · refine y_if_lt_f dX10_row_84 (t := 93) rfl h5 ?_
          refine yk_iinc dX10_row_87 rfl (L' := [some (aR 84), some (aI x1), some (aI (x2 + 1)), some (aI x3)]) rfl ?_
          refine y_goto dX10_row_90 (t := 103) rfl ?_
          refine yk_iinc dX10_row_103 rfl (L' := [some (aR 84), some (aI x1), some (aI (x2 + 1)), some (aI (x3 + 4))]) rfl ?_
          refine y_goto dX10_row_106 (t := 35) rfl ?_
          exact ih x1 (x2 + 1) (x3 + 4) σ4
      · refine y_icmp_ge_t dX10_row_44 (t := 93) rfl h2 ?_
        exact tX10_row_93 hM (vX10_row_35 f) ih x1 x2 x3 σ
    · refine y_icmp_ge_t dX10_row_37 (t := 109) rfl h1 ?_
      refine y_aload_n dX10_row_109 rfl rfl ?_
      refine y_iload_n dX10_row_110 rfl rfl ?_
      refine y_cvIS (qX10_settled hM x2 σ) kX10_181 rfl hM.1 rfl (by decide) rfl (Nat.le_of_ble_eq_true rfl) dX10_row_111 (fun r6 σ7 => ?_)
      exact y_iret rfl rfl dX10_row_114
noncomputable def vX10_row (σ : Sg) : Option (Int × Sg) := nm (up2 σ 84 0 0) (fun σ1 => nm (σ1 84 13) (fun z2 => nm (up2 σ1 84 13 0) (fun σ3 => if z2 = 0 then (bd2 (vX10_tell (-6) σ3) (fun r5 σ6 => some (r5, σ6))) else (nm (up2 σ3 84 11 0) (fun σ7 => vX10_row_35 FU z2 0 0 σ7)))))
set_option maxRecDepth 100000 in
theorem tX10_row {Γ : Gx} {K : Kt} (hM : mLay K) (σ : Sg) : Y Γ MX10_row K (emIS K) K 0 [some (aR 84), none, none, none] [] σ (vX10_row σ) := by
  unfold vX10_row
  refine y_aload_n dX10_row_0 rfl rfl ?_
  refine y_iconst dX10_row_1 (by decide) ?_
  refine yn_putI fX10_157 hM.1 rfl rfl dX10_row_2 (fun σ1 => ?_)
  refine y_aload_n dX10_row_5 rfl rfl ?_
  refine y_getI fX10_212 hM.1 rfl dX10_row_6 ?_
  refine yn_istore_n dX10_row_9 rfl (Nat.le_of_ble_eq_true rfl) (L' := fun z2 => [some (aR 84), some (aI z2), none, none]) (fun _ => rfl) (fun z2 => ?_)
  refine y_aload_n dX10_row_10 rfl rfl ?_
  refine y_iconst dX10_row_11 (by decide) ?_
  refine yn_putI fX10_212 hM.1 rfl rfl dX10_row_12 (fun σ3 => ?_)
  refine y_iload_n dX10_row_15 rfl rfl ?_
  refine y_ite (fun h4 => ?_) (fun h4 => ?_)
  · refine y_if_ne_f dX10_row_16 (t := 26) rfl h4 ?_
    refine y_aload_n dX10_row_19 rfl rfl ?_
    refine y_bipush dX10_row_20 (by decide) (by decide) ?_
    refine y_cvIS (qX10_tell hM (-6) σ3) kX10_166 rfl hM.1 rfl (by decide) rfl (Nat.le_of_ble_eq_true rfl) dX10_row_22 (fun r5 σ6 => ?_)
    exact y_iret rfl rfl dX10_row_25
  · refine y_if_ne_t dX10_row_16 (t := 26) rfl h4 ?_
    refine y_aload_n dX10_row_26 rfl rfl ?_
    refine y_iconst dX10_row_27 (by decide) ?_
    refine yn_putI fX10_215 hM.1 rfl rfl dX10_row_28 (fun σ7 => ?_)
    refine y_iconst dX10_row_31 (by decide) ?_
    refine y_istore_n dX10_row_32 rfl (Nat.le_of_ble_eq_true rfl) (L' := [some (aR 84), some (aI z2), some (aI 0), none]) rfl ?_
    refine y_iconst dX10_row_33 (by decide) ?_
    refine y_istore_n dX10_row_34 rfl (Nat.le_of_ble_eq_true rfl) (L' := [some (aR 84), some (aI z2), some (aI 0), some (aI 0)]) rfl ?_
    exact tX10_row_35 hM FU z2 0 0 σ7
theorem qX10_row {K : Kt} (hM : mLay K) (σ : Sg) : Cc MX10_row K [aR 84] σ (emIS K) (vX10_row σ) := cc_of plX10 (Nat.le_of_ble_eq_true rfl) (fun o _ => ⟨Nat.le_refl _, Nat.le_refl _⟩) (fun Γ => tX10_row hM σ)
noncomputable def vX10_slips (σ : Sg) : Option (Int × Sg) := nm (up2 σ 84 0 0) (fun σ1 => some ((σ1 84 11), σ1))
set_option maxRecDepth 100000 in
theorem tX10_slips {Γ : Gx} {K : Kt} (hM : mLay K) (σ : Sg) : Y Γ MX10_slips K (emIS K) K 0 [some (aR 84)] [] σ (vX10_slips σ) := by
  unfold vX10_slips
  refine y_aload_n dX10_slips_0 rfl rfl ?_
  refine y_iconst dX10_slips_1 (by decide) ?_
  refine yn_putI fX10_157 hM.1 rfl rfl dX10_slips_2 (fun σ1 => ?_)
  refine y_aload_n dX10_slips_5 rfl rfl ?_
  refine y_getI fX10_215 hM.1 rfl dX10_slips_6 ?_
  exact y_iret rfl rfl dX10_slips_9
theorem qX10_slips {K : Kt} (hM : mLay K) (σ : Sg) : Cc MX10_slips K [aR 84] σ (emIS K) (vX10_slips σ) := cc_of plX10 (Nat.le_of_ble_eq_true rfl) (fun o _ => ⟨Nat.le_refl _, Nat.le_refl _⟩) (fun Γ => tX10_slips hM σ)
noncomputable def vX10_four_3 : Nat → Int → Int → Sg → Option (Sg)
  | 0, _, _, _ => none
  | f + 1, x1, x2, σ => if x2 < 0 then (some σ) else (ck (0 ≤ (σ 84 13) ∧ (σ 84 13) < 400) (nm (up2 σ 93 (σ 84 13).toNat (bAnd (bShr x1 x2) 255)) (fun σ2 => ck (in32 ((σ2 84 13) + 1)) (nm (up2 σ2 84 13 ((σ2 84 13) + 1)) (fun σ3 => ck (in32 (x2 + (-8))) (vX10_four_3 f x1 (x2 + (-8)) σ3))))))
set_option maxRecDepth 100000 in
theorem tX10_four_3 {Γ : Gx} {K : Kt} (hM : mLay K)  : ∀ (f : Nat) (x1 x2 : Int) (σ : Sg), Y Γ MX10_four K (emV K) K 3 [some (aR 84), some (aI x1), some (aI x2)] [] σ (vX10_four_3 f x1 x2 σ) := by
  intro f
  induction f with
  | zero => intro x1 x2 σ; exact y_none
  | succ f ih =>
    intro x1 x2 σ
    rw [vX10_four_3]
    refine y_iload_n dX10_four_3 rfl rfl ?_
    refine y_ite (fun h1 => ?_) (fun h1 => ?_)
    · refine y_if_lt_t dX10_four_4 (t := 39) rfl h1 ?_
      exact y_vret rfl rfl dX10_four_39
    · refine y_if_lt_f dX10_four_4 (t := 39) rfl h1 ?_
      refine y_aload_n dX10_four_7 rfl rfl ?_
      refine y_getR fX10_35 hM.1 rfl (lM_12 hM).1 dX10_four_8 ?_
      refine y_aload_n dX10_four_11 rfl rfl ?_
      refine y_getI fX10_212 hM.1 rfl dX10_four_12 ?_
      refine y_iload_n dX10_four_15 rfl rfl ?_
      refine y_iload_n dX10_four_16 rfl rfl ?_
      refine y_ishr dX10_four_17 ?_
      refine y_sipush dX10_four_18 (by decide) (by decide) ?_
      refine y_iand dX10_four_21 ?_
      refine yk_iastore (lM_12 hM).2 (N := 400) rfl (j := (σ 84 13).toNat) rfl dX10_four_22 (fun σ2 => ?_)
      refine y_aload_n dX10_four_23 rfl rfl ?_
      refine y_dup dX10_four_24 (fun _ => rfl) ?_
      refine y_getI fX10_212 hM.1 rfl dX10_four_25 ?_
      refine y_iconst dX10_four_28 (by decide) ?_
      refine yk_iadd dX10_four_29 ?_
      refine yn_putI fX10_212 hM.1 rfl rfl dX10_four_30 (fun σ3 => ?_)
      refine yk_iinc dX10_four_33 rfl (L' := [some (aR 84), some (aI x1), some (aI (x2 + (-8)))]) rfl ?_
      refine y_goto dX10_four_36 (t := 3) rfl ?_
      exact ih x1 (x2 + (-8)) σ3
noncomputable def vX10_four (p1 : Int) (σ : Sg) : Option (Sg) := vX10_four_3 FU p1 24 σ
set_option maxRecDepth 100000 in
theorem tX10_four {Γ : Gx} {K : Kt} (hM : mLay K) (p1 : Int) (σ : Sg) : Y Γ MX10_four K (emV K) K 0 [some (aR 84), some (aI p1), none] [] σ (vX10_four p1 σ) := by
  unfold vX10_four
  refine y_bipush dX10_four_0 (by decide) (by decide) ?_
  refine y_istore_n dX10_four_2 rfl (Nat.le_of_ble_eq_true rfl) (L' := [some (aR 84), some (aI p1), some (aI 24)]) rfl ?_
  exact tX10_four_3 hM FU p1 24 σ
theorem qX10_four {K : Kt} (hM : mLay K) (p1 : Int) (σ : Sg) : Cc MX10_four K [aR 84, aI p1] σ (emV K) (vX10_four p1 σ) := cc_of plX10 (Nat.le_of_ble_eq_true rfl) (fun o _ => ⟨Nat.le_refl _, Nat.le_refl _⟩) (fun Γ => tX10_four hM p1 σ)
noncomputable def vX10_feed (p1 : Int) (p2 : Int) (p3 : Int) (p4 : Int) (p5 : Int) (σ : Sg) : Option (Int × Sg) := nm (up2 σ 84 0 0) (fun σ1 => ck (in32 ((σ1 84 13) + 20)) (if 400 < ((σ1 84 13) + 20) then (some ((-1), σ1)) else ((vX10_four p1 σ1).bind (fun σ3 => (vX10_four p2 σ3).bind (fun σ4 => (vX10_four p3 σ4).bind (fun σ5 => (vX10_four p4 σ5).bind (fun σ6 => (vX10_four p5 σ6).bind (fun σ7 => some ((σ7 84 13), σ7)))))))))
set_option maxRecDepth 100000 in
theorem tX10_feed {Γ : Gx} {K : Kt} (hM : mLay K) (p1 : Int) (p2 : Int) (p3 : Int) (p4 : Int) (p5 : Int) (σ : Sg) : Y Γ MX10_feed K (emIS K) K 0 [some (aR 84), some (aI p1), some (aI p2), some (aI p3), some (aI p4), some (aI p5)] [] σ (vX10_feed p1 p2 p3 p4 p5 σ) := by
  unfold vX10_feed
  refine y_aload_n dX10_feed_0 rfl rfl ?_
  refine y_iconst dX10_feed_1 (by decide) ?_
  refine yn_putI fX10_157 hM.1 rfl rfl dX10_feed_2 (fun σ1 => ?_)
  refine y_aload_n dX10_feed_5 rfl rfl ?_
  refine y_getI fX10_212 hM.1 rfl dX10_feed_6 ?_
  refine y_bipush dX10_feed_9 (by decide) (by decide) ?_
  refine yk_iadd dX10_feed_11 ?_
  refine y_sipush dX10_feed_12 (by decide) (by decide) ?_
  refine y_ite (fun h2 => ?_) (fun h2 => ?_)
  · refine y_icmp_le_f dX10_feed_15 (t := 20) rfl h2 ?_
    refine y_iconst dX10_feed_18 (by decide) ?_
    exact y_iret rfl rfl dX10_feed_19
  · refine y_icmp_le_t dX10_feed_15 (t := 20) rfl h2 ?_
    refine y_aload_n dX10_feed_20 rfl rfl ?_
    refine y_iload_n dX10_feed_21 rfl rfl ?_
    refine y_cvV (qX10_four hM p1 σ1) kX10_218 rfl hM.1 rfl (by decide) rfl (Nat.le_of_ble_eq_true rfl) dX10_feed_22 (fun σ3 => ?_)
    refine y_aload_n dX10_feed_25 rfl rfl ?_
    refine y_iload_n dX10_feed_26 rfl rfl ?_
    refine y_cvV (qX10_four hM p2 σ3) kX10_218 rfl hM.1 rfl (by decide) rfl (Nat.le_of_ble_eq_true rfl) dX10_feed_27 (fun σ4 => ?_)
    refine y_aload_n dX10_feed_30 rfl rfl ?_
    refine y_iload_n dX10_feed_31 rfl rfl ?_
    refine y_cvV (qX10_four hM p3 σ4) kX10_218 rfl hM.1 rfl (by decide) rfl (Nat.le_of_ble_eq_true rfl) dX10_feed_32 (fun σ5 => ?_)
    refine y_aload_n dX10_feed_35 rfl rfl ?_
    refine y_iload dX10_feed_36 rfl ?_
    refine y_cvV (qX10_four hM p4 σ5) kX10_218 rfl hM.1 rfl (by decide) rfl (Nat.le_of_ble_eq_true rfl) dX10_feed_38 (fun σ6 => ?_)
    refine y_aload_n dX10_feed_41 rfl rfl ?_
    refine y_iload dX10_feed_42 rfl ?_
    refine y_cvV (qX10_four hM p5 σ6) kX10_218 rfl hM.1 rfl (by decide) rfl (Nat.le_of_ble_eq_true rfl) dX10_feed_44 (fun σ7 => ?_)
    refine y_aload_n dX10_feed_47 rfl rfl ?_
    refine y_getI fX10_212 hM.1 rfl dX10_feed_48 ?_
    exact y_iret rfl rfl dX10_feed_51
theorem qX10_feed {K : Kt} (hM : mLay K) (p1 : Int) (p2 : Int) (p3 : Int) (p4 : Int) (p5 : Int) (σ : Sg) : Cc MX10_feed K [aR 84, aI p1, aI p2, aI p3, aI p4, aI p5] σ (emIS K) (vX10_feed p1 p2 p3 p4 p5 σ) := cc_of plX10 (Nat.le_of_ble_eq_true rfl) (fun o _ => ⟨Nat.le_refl _, Nat.le_refl _⟩) (fun Γ => tX10_feed hM p1 p2 p3 p4 p5 σ)
noncomputable def vX10_end (p1 : Int) (σ : Sg) : Option (Int × Sg) := nm (up2 σ 84 0 0) (fun σ1 => if p1 < 0 then (some ((-1), σ1)) else (if (σ1 84 13) < p1 then (some ((-1), σ1)) else (nm (up2 σ1 84 13 p1) (fun σ4 => some (p1, σ4)))))
set_option maxRecDepth 100000 in
theorem tX10_end {Γ : Gx} {K : Kt} (hM : mLay K) (p1 : Int) (σ : Sg) : Y Γ MX10_end K (emIS K) K 0 [some (aR 84), some (aI p1)] [] σ (vX10_end p1 σ) := by
  unfold vX10_end
  refine y_aload_n dX10_end_0 rfl rfl ?_
  refine y_iconst dX10_end_1 (by decide) ?_
  refine yn_putI fX10_157 hM.1 rfl rfl dX10_end_2 (fun σ1 => ?_)
  refine y_iload_n dX10_end_5 rfl rfl ?_
  refine y_ite (fun h2 => ?_) (fun h2 => ?_)
  · refine y_if_lt_t dX10_end_6 (t := 17) rfl h2 ?_
    refine y_iconst dX10_end_17 (by decide) ?_
    exact y_iret rfl rfl dX10_end_18
  · refine y_if_lt_f dX10_end_6 (t := 17) rfl h2 ?_
    refine y_iload_n dX10_end_9 rfl rfl ?_
    refine y_aload_n dX10_end_10 rfl rfl ?_
    refine y_getI fX10_212 hM.1 rfl dX10_end_11 ?_
    refine y_ite (fun h3 => ?_) (fun h3 => ?_)
    · refine y_icmp_le_f dX10_end_14 (t := 19) rfl h3 ?_
      refine y_iconst dX10_end_17 (by decide) ?_
      exact y_iret rfl rfl dX10_end_18
    · refine y_icmp_le_t dX10_end_14 (t := 19) rfl h3 ?_
      refine y_aload_n dX10_end_19 rfl rfl ?_
      refine y_iload_n dX10_end_20 rfl rfl ?_
      refine yn_putI fX10_212 hM.1 rfl rfl dX10_end_21 (fun σ4 => ?_)
      refine y_iload_n dX10_end_24 rfl rfl ?_
      exact y_iret rfl rfl dX10_end_25
theorem qX10_end {K : Kt} (hM : mLay K) (p1 : Int) (σ : Sg) : Cc MX10_end K [aR 84, aI p1] σ (emIS K) (vX10_end p1 σ) := cc_of plX10 (Nat.le_of_ble_eq_true rfl) (fun o _ => ⟨Nat.le_refl _, Nat.le_refl _⟩) (fun Γ => tX10_end hM p1 σ)
noncomputable def vX10_isSmall (p1 : Int) (σ : Sg) : Option (Int) := if p1 < 97 then (some 0) else (if 122 < p1 then (some 0) else (some 1))
set_option maxRecDepth 100000 in
theorem tX10_isSmall {Γ : Gx} {K : Kt} (p1 : Int) (σ : Sg) : Y Γ MX10_isSmall K (emI K σ) K 0 [some (aI p1)] [] σ (vX10_isSmall p1 σ) := by
  unfold vX10_isSmall
  refine y_iload_n dX10_isSmall_0 rfl rfl ?_
  refine y_bipush dX10_isSmall_1 (by decide) (by decide) ?_
  refine y_ite (fun h1 => ?_) (fun h1 => ?_)
  · refine y_icmp_lt_t dX10_isSmall_3 (t := 16) rfl h1 ?_
    refine y_iconst dX10_isSmall_16 (by decide) ?_
    exact y_zret (by decide) rfl rfl dX10_isSmall_17
  · refine y_icmp_lt_f dX10_isSmall_3 (t := 16) rfl h1 ?_
    refine y_iload_n dX10_isSmall_6 rfl rfl ?_
    refine y_bipush dX10_isSmall_7 (by decide) (by decide) ?_
    refine y_ite (fun h2 => ?_) (fun h2 => ?_)
    · refine y_icmp_gt_t dX10_isSmall_9 (t := 16) rfl h2 ?_
      refine y_iconst dX10_isSmall_16 (by decide) ?_
      exact y_zret (by decide) rfl rfl dX10_isSmall_17
    · refine y_icmp_gt_f dX10_isSmall_9 (t := 16) rfl h2 ?_
      refine y_iconst dX10_isSmall_12 (by decide) ?_
      refine y_goto dX10_isSmall_13 (t := 17) rfl ?_
      exact y_zret (by decide) rfl rfl dX10_isSmall_17
theorem qX10_isSmall {K : Kt} (p1 : Int) (σ : Sg) : Cc MX10_isSmall K [aI p1] σ (emI K σ) (vX10_isSmall p1 σ) := cc_of plX10 (Nat.le_of_ble_eq_true rfl) (fun o _ => ⟨Nat.le_refl _, Nat.le_refl _⟩) (fun Γ => tX10_isSmall p1 σ)
noncomputable def vX10_isDigit (p1 : Int) (σ : Sg) : Option (Int) := if p1 < 48 then (some 0) else (if 57 < p1 then (some 0) else (some 1))
set_option maxRecDepth 100000 in
theorem tX10_isDigit {Γ : Gx} {K : Kt} (p1 : Int) (σ : Sg) : Y Γ MX10_isDigit K (emI K σ) K 0 [some (aI p1)] [] σ (vX10_isDigit p1 σ) := by
  unfold vX10_isDigit
  refine y_iload_n dX10_isDigit_0 rfl rfl ?_
  refine y_bipush dX10_isDigit_1 (by decide) (by decide) ?_
  refine y_ite (fun h1 => ?_) (fun h1 => ?_)
  · refine y_icmp_lt_t dX10_isDigit_3 (t := 16) rfl h1 ?_
    refine y_iconst dX10_isDigit_16 (by decide) ?_
    exact y_zret (by decide) rfl rfl dX10_isDigit_17
  · refine y_icmp_lt_f dX10_isDigit_3 (t := 16) rfl h1 ?_
    refine y_iload_n dX10_isDigit_6 rfl rfl ?_
    refine y_bipush dX10_isDigit_7 (by decide) (by decide) ?_
    refine y_ite (fun h2 => ?_) (fun h2 => ?_)
    · refine y_icmp_gt_t dX10_isDigit_9 (t := 16) rfl h2 ?_
      refine y_iconst dX10_isDigit_16 (by decide) ?_
      exact y_zret (by decide) rfl rfl dX10_isDigit_17
    · refine y_icmp_gt_f dX10_isDigit_9 (t := 16) rfl h2 ?_
      refine y_iconst dX10_isDigit_12 (by decide) ?_
      refine y_goto dX10_isDigit_13 (t := 17) rfl ?_
      exact y_zret (by decide) rfl rfl dX10_isDigit_17
theorem qX10_isDigit {K : Kt} (p1 : Int) (σ : Sg) : Cc MX10_isDigit K [aI p1] σ (emI K σ) (vX10_isDigit p1 σ) := cc_of plX10 (Nat.le_of_ble_eq_true rfl) (fun o _ => ⟨Nat.le_refl _, Nat.le_refl _⟩) (fun Γ => tX10_isDigit p1 σ)
