noncomputable def vX5_init (o : Nat) (K : Kt) (σ : Sg) : Option (Kt × Sg) := ck (0 ≤ (50 : Int) ∧ (50 : Int) ≤ 1000000) (nw K.2.2.1 (kNew K 20 (50 : Int).toNat (50 : Int).toNat) (sNew K σ) (fun q1 K2 σ3 => ckP (IsC K2 o 5) (nm (kRef K2 o 0 (some q1)) (fun K5 => some (K5, σ3)))))
set_option maxRecDepth 100000 in
set_option maxHeartbeats 4000000 in
theorem tX5_init {Γ : Gx} (o : Nat) (K : Kt) (σ : Sg) : Y Γ MX5_init K emVK K 0 [some (aR o)] [] σ (vX5_init o K σ) := by
  unfold vX5_init
  refine y_aload_n dX5_init_0 rfl rfl ?_
  refine y_objInit oX5_3 (by decide) (Nat.le_of_ble_eq_true rfl) dX5_init_1 ?_
  refine y_aload_n dX5_init_4 rfl rfl ?_
  refine y_bipush dX5_init_5 (by decide) (by decide) ?_
  refine yn_newarr_int wA_int dX5_init_7 (fun q1 K2 σ3 => ?_)
  refine y_ckP (fun hc4 => ?_)
  refine yn_putR fX5_9 hc4 rfl rfl rfl rfl dX5_init_9 (fun K5 => ?_)
  exact y_vret rfl rfl dX5_init_12
theorem qX5_init (o : Nat) (K : Kt) (σ : Sg) (hg : ∀ ou, vX5_init o K σ = some ou → Gr K (emVK ou).2.1) : Cc MX5_init K [aR o] σ emVK (vX5_init o K σ) := cc_of plX5 (Nat.le_of_ble_eq_true rfl) hg (fun Γ => tX5_init o K σ)
noncomputable def vX7_init (o : Nat) (p1 : Int) (p2 : Int) (K : Kt) (σ : Sg) : Option (Kt × Sg) := ckP (IsC K o 7) (nm (up2 σ o 6 0) (fun σ2 => ckP (IsC K o 7) (nm (up2 σ2 o 7 0) (fun σ4 => nm (imax 0 p1) (fun z5 => ck (0 ≤ z5 ∧ z5 ≤ 1000000) (nw K.2.2.1 (kNew K 20 z5.toNat z5.toNat) (sNew K σ4) (fun q6 K7 σ8 => ckP (IsC K7 o 7) (nm (kRef K7 o 0 (some q6)) (fun K10 => ck (0 ≤ z5 ∧ z5 ≤ 1000000) (nw K10.2.2.1 (kNew K10 20 z5.toNat z5.toNat) (sNew K10 σ8) (fun q11 K12 σ13 => ckP (IsC K12 o 7) (nm (kRef K12 o 1 (some q11)) (fun K15 => ck (0 ≤ z5 ∧ z5 ≤ 1000000) (nw K15.2.2.1 (kNew K15 20 z5.toNat z5.toNat) (sNew K15 σ13) (fun q16 K17 σ18 => ckP (IsC K17 o 7) (nm (kRef K17 o 2 (some q16)) (fun K20 => ck (0 ≤ z5 ∧ z5 ≤ 1000000) (nw K20.2.2.1 (kNew K20 20 z5.toNat z5.toNat) (sNew K20 σ18) (fun q21 K22 σ23 => ckP (IsC K22 o 7) (nm (kRef K22 o 3 (some q21)) (fun K25 => ck (0 ≤ z5 ∧ z5 ≤ 1000000) (nw K25.2.2.1 (kNew K25 20 z5.toNat z5.toNat) (sNew K25 σ23) (fun q26 K27 σ28 => ckP (IsC K27 o 7) (nm (kRef K27 o 4 (some q26)) (fun K30 => ck (0 ≤ (imax 0 p2) ∧ (imax 0 p2) ≤ 1000000) (nw K30.2.2.1 (kNew K30 20 (imax 0 p2).toNat (imax 0 p2).toNat) (sNew K30 σ28) (fun q31 K32 σ33 => ckP (IsC K32 o 7) (nm (kRef K32 o 5 (some q31)) (fun K35 => some (K35, σ33))))))))))))))))))))))))))))))
set_option maxRecDepth 100000 in
set_option maxHeartbeats 4000000 in
theorem tX7_init {Γ : Gx} (o : Nat) (p1 : Int) (p2 : Int) (K : Kt) (σ : Sg) : Y Γ MX7_init K emVK K 0 [some (aR o), some (aI p1), some (aI p2), none] [] σ (vX7_init o p1 p2 K σ) := by
  unfold vX7_init
  refine y_aload_n dX7_init_0 rfl rfl ?_
  refine y_objInit oX7_3 (by decide) (Nat.le_of_ble_eq_true rfl) dX7_init_1 ?_
  refine y_aload_n dX7_init_4 rfl rfl ?_
  refine y_iconst dX7_init_5 (by decide) ?_
  refine y_ckP (fun hc1 => ?_)
  refine yn_putI fX7_9 hc1 rfl rfl dX7_init_6 (fun σ2 => ?_)
  refine y_aload_n dX7_init_9 rfl rfl ?_
  refine y_iconst dX7_init_10 (by decide) ?_
  refine y_ckP (fun hc3 => ?_)
  refine yn_putI fX7_15 hc3 rfl rfl dX7_init_11 (fun σ4 => ?_)
  refine y_iconst dX7_init_14 (by decide) ?_
  refine y_iload_n dX7_init_15 rfl rfl ?_
  refine y_imax mX7_18 (by decide) (Nat.le_of_ble_eq_true rfl) dX7_init_16 ?_
  refine yn_istore_n dX7_init_19 rfl (Nat.le_of_ble_eq_true rfl) (L' := fun z5 => [some (aR o), some (aI p1), some (aI p2), some (aI z5)]) (fun _ => rfl) (fun z5 => ?_)
  refine y_aload_n dX7_init_20 rfl rfl ?_
  refine y_iload_n dX7_init_21 rfl rfl ?_
  refine yn_newarr_int wA_int dX7_init_22 (fun q6 K7 σ8 => ?_)
  refine y_ckP (fun hc9 => ?_)
  refine yn_putR fX7_24 hc9 rfl rfl rfl rfl dX7_init_24 (fun K10 => ?_)
  refine y_aload_n dX7_init_27 rfl rfl ?_
  refine y_iload_n dX7_init_28 rfl rfl ?_
  refine yn_newarr_int wA_int dX7_init_29 (fun q11 K12 σ13 => ?_)
  refine y_ckP (fun hc14 => ?_)
  refine yn_putR fX7_28 hc14 rfl rfl rfl rfl dX7_init_31 (fun K15 => ?_)
  refine y_aload_n dX7_init_34 rfl rfl ?_
  refine y_iload_n dX7_init_35 rfl rfl ?_
  refine yn_newarr_int wA_int dX7_init_36 (fun q16 K17 σ18 => ?_)
  refine y_ckP (fun hc19 => ?_)
  refine yn_putR fX7_31 hc19 rfl rfl rfl rfl dX7_init_38 (fun K20 => ?_)
  refine y_aload_n dX7_init_41 rfl rfl ?_
  refine y_iload_n dX7_init_42 rfl rfl ?_
  refine yn_newarr_int wA_int dX7_init_43 (fun q21 K22 σ23 => ?_)
  refine y_ckP (fun hc24 => ?_)
  refine yn_putR fX7_34 hc24 rfl rfl rfl rfl dX7_init_45 (fun K25 => ?_)
  refine y_aload_n dX7_init_48 rfl rfl ?_
  refine y_iload_n dX7_init_49 rfl rfl ?_
  refine yn_newarr_int wA_int dX7_init_50 (fun q26 K27 σ28 => ?_)
  refine y_ckP (fun hc29 => ?_)
  refine yn_putR fX7_37 hc29 rfl rfl rfl rfl dX7_init_52 (fun K30 => ?_)
  refine y_aload_n dX7_init_55 rfl rfl ?_
  refine y_iconst dX7_init_56 (by decide) ?_
  refine y_iload_n dX7_init_57 rfl rfl ?_
  refine y_imax mX7_18 (by decide) (Nat.le_of_ble_eq_true rfl) dX7_init_58 ?_
  refine yn_newarr_int wA_int dX7_init_61 (fun q31 K32 σ33 => ?_)
  refine y_ckP (fun hc34 => ?_)
  refine yn_putR fX7_40 hc34 rfl rfl rfl rfl dX7_init_63 (fun K35 => ?_)
  exact y_vret rfl rfl dX7_init_66
theorem qX7_init (o : Nat) (p1 : Int) (p2 : Int) (K : Kt) (σ : Sg) (hg : ∀ ou, vX7_init o p1 p2 K σ = some ou → Gr K (emVK ou).2.1) : Cc MX7_init K [aR o, aI p1, aI p2] σ emVK (vX7_init o p1 p2 K σ) := cc_of plX7 (Nat.le_of_ble_eq_true rfl) hg (fun Γ => tX7_init o p1 p2 K σ)
noncomputable def vX6_init (o : Nat) (K : Kt) (σ : Sg) : Option (Kt × Sg) := ck (0 ≤ (400 : Int) ∧ (400 : Int) ≤ 1000000) (nw K.2.2.1 (kNew K 20 (400 : Int).toNat (400 : Int).toNat) (sNew K σ) (fun q1 K2 σ3 => ckP (IsC K2 o 6) (nm (kRef K2 o 0 (some q1)) (fun K5 => ckP (IsC K5 o 6) (nm (up2 σ3 o 1 0) (fun σ7 => some (K5, σ7)))))))
set_option maxRecDepth 100000 in
set_option maxHeartbeats 4000000 in
theorem tX6_init {Γ : Gx} (o : Nat) (K : Kt) (σ : Sg) : Y Γ MX6_init K emVK K 0 [some (aR o)] [] σ (vX6_init o K σ) := by
  unfold vX6_init
  refine y_aload_n dX6_init_0 rfl rfl ?_
  refine y_objInit oX6_3 (by decide) (Nat.le_of_ble_eq_true rfl) dX6_init_1 ?_
  refine y_aload_n dX6_init_4 rfl rfl ?_
  refine y_sipush dX6_init_5 (by decide) (by decide) ?_
  refine yn_newarr_int wA_int dX6_init_8 (fun q1 K2 σ3 => ?_)
  refine y_ckP (fun hc4 => ?_)
  refine yn_putR fX6_9 hc4 rfl rfl rfl rfl dX6_init_10 (fun K5 => ?_)
  refine y_aload_n dX6_init_13 rfl rfl ?_
  refine y_iconst dX6_init_14 (by decide) ?_
  refine y_ckP (fun hc6 => ?_)
  refine yn_putI fX6_15 hc6 rfl rfl dX6_init_15 (fun σ7 => ?_)
  exact y_vret rfl rfl dX6_init_18
theorem qX6_init (o : Nat) (K : Kt) (σ : Sg) (hg : ∀ ou, vX6_init o K σ = some ou → Gr K (emVK ou).2.1) : Cc MX6_init K [aR o] σ emVK (vX6_init o K σ) := cc_of plX6 (Nat.le_of_ble_eq_true rfl) hg (fun Γ => tX6_init o K σ)
noncomputable def vX3_init (o : Nat) (K : Kt) (σ : Sg) : Option (Kt × Sg) := nw K.2.2.1 (kNew K 7 0 8) (sNew K σ) (fun q1 K2 σ3 => bdVK (vX7_init q1 0 0 K2 σ3) (fun K4 σ5 => ckP (IsC K4 o 3) (nm (kRef K4 o 0 (some q1)) (fun K7 => ck (0 ≤ (6 : Int) ∧ (6 : Int) ≤ 1000000) (nw K7.2.2.1 (kNew K7 23 (6 : Int).toNat (6 : Int).toNat) (sNew K7 σ5) (fun q8 K9 σ10 => ckP (IsC K9 o 3) (nm (kRef K9 o 1 (some q8)) (fun K12 => nw K12.2.2.1 (kNew K12 5 0 1) (sNew K12 σ10) (fun q13 K14 σ15 => bdVK (vX5_init q13 K14 σ15) (fun K16 σ17 => ckP (IsC K16 o 3) (nm (kRef K16 o 2 (some q13)) (fun K19 => ck (0 ≤ (9 : Int) ∧ (9 : Int) ≤ 1000000) (nw K19.2.2.1 (kNew K19 20 (9 : Int).toNat (9 : Int).toNat) (sNew K19 σ17) (fun q20 K21 σ22 => ckP (IsC K21 o 3) (nm (kRef K21 o 3 (some q20)) (fun K24 => ckP (IsC K24 o 3) (nm (up2 σ22 o 4 0) (fun σ26 => ckP (IsC K24 o 3) (nm (up2 σ26 o 5 (-1)) (fun σ28 => some (K24, σ28)))))))))))))))))))))
set_option maxRecDepth 100000 in
set_option maxHeartbeats 4000000 in
theorem tX3_init {Γ : Gx} (o : Nat) (K : Kt) (σ : Sg) : Y Γ MX3_init K emVK K 0 [some (aR o)] [] σ (vX3_init o K σ) := by
  unfold vX3_init
  refine y_aload_n dX3_init_0 rfl rfl ?_
  refine y_objInit oX3_3 (by decide) (Nat.le_of_ble_eq_true rfl) dX3_init_1 ?_
  refine y_aload_n dX3_init_4 rfl rfl ?_
  refine yn_new nX3_9 (by decide) dX3_init_5 (fun q1 K2 σ3 => ?_)
  refine y_dup dX3_init_8 (fun _ => rfl) ?_
  refine y_iconst dX3_init_9 (by decide) ?_
  refine y_iconst dX3_init_10 (by decide) ?_
  refine y_ci (qX7_init q1 0 0 K2 σ3 (fun ou hou => (tX7_init (Γ := Γ) q1 0 0 K2 σ3 ou hou).1)) iX3_11 rfl (by decide) rfl (Nat.le_of_ble_eq_true rfl) dX3_init_11 (fun K4 σ5 => ?_)
  refine y_ckP (fun hc6 => ?_)
  refine yn_putR fX3_14 hc6 rfl rfl rfl rfl dX3_init_14 (fun K7 => ?_)
  refine y_aload_n dX3_init_17 rfl rfl ?_
  refine y_bipush dX3_init_18 (by decide) (by decide) ?_
  refine yn_anew_23 nX3_9.1 dX3_init_20 (fun q8 K9 σ10 => ?_)
  refine y_ckP (fun hc11 => ?_)
  refine yn_putR fX3_20 hc11 rfl rfl rfl rfl dX3_init_23 (fun K12 => ?_)
  refine y_aload_n dX3_init_26 rfl rfl ?_
  refine yn_new nX3_24 (by decide) dX3_init_27 (fun q13 K14 σ15 => ?_)
  refine y_dup dX3_init_30 (fun _ => rfl) ?_
  refine y_ciN (qX5_init q13 K14 σ15 (fun ou hou => (tX5_init (Γ := Γ) q13 K14 σ15 ou hou).1)) iX3_26 rfl (by decide) rfl (Nat.le_of_ble_eq_true rfl) dX3_init_31 (fun K16 σ17 => ?_)
  refine y_ckP (fun hc18 => ?_)
  refine yn_putR fX3_27 hc18 rfl rfl rfl rfl dX3_init_34 (fun K19 => ?_)
  refine y_aload_n dX3_init_37 rfl rfl ?_
  refine y_bipush dX3_init_38 (by decide) (by decide) ?_
  refine yn_newarr_int wA_int dX3_init_40 (fun q20 K21 σ22 => ?_)
  refine y_ckP (fun hc23 => ?_)
  refine yn_putR fX3_31 hc23 rfl rfl rfl rfl dX3_init_42 (fun K24 => ?_)
  refine y_aload_n dX3_init_45 rfl rfl ?_
  refine y_iconst dX3_init_46 (by decide) ?_
  refine y_ckP (fun hc25 => ?_)
  refine yn_putI fX3_35 hc25 rfl rfl dX3_init_47 (fun σ26 => ?_)
  refine y_aload_n dX3_init_50 rfl rfl ?_
  refine y_iconst dX3_init_51 (by decide) ?_
  refine y_ckP (fun hc27 => ?_)
  refine yn_putI fX3_39 hc27 rfl rfl dX3_init_52 (fun σ28 => ?_)
  exact y_vret rfl rfl dX3_init_55
theorem qX3_init (o : Nat) (K : Kt) (σ : Sg) (hg : ∀ ou, vX3_init o K σ = some ou → Gr K (emVK ou).2.1) : Cc MX3_init K [aR o] σ emVK (vX3_init o K σ) := cc_of plX3 (Nat.le_of_ble_eq_true rfl) hg (fun Γ => tX3_init o K σ)
set_option maxRecDepth 100000 in
noncomputable def vX1_init (o : Nat) (p1 : Nat) (K : Kt) (σ : Sg) : Option (Kt × Sg) := ck (0 ≤ (8 : Int) ∧ (8 : Int) ≤ 1000000) (nw K.2.2.1 (kNew K 20 (8 : Int).toNat (8 : Int).toNat) (sNew K σ) (fun q1 K2 σ3 => ckP (IsC K2 o 1) (nm (kRef K2 o 4 (some q1)) (fun K5 => ck (0 ≤ (8 : Int) ∧ (8 : Int) ≤ 1000000) (nw K5.2.2.1 (kNew K5 20 (8 : Int).toNat (8 : Int).toNat) (sNew K5 σ3) (fun q6 K7 σ8 => ckP (IsC K7 o 1) (nm (kRef K7 o 5 (some q6)) (fun K10 => ck (0 ≤ (8 : Int) ∧ (8 : Int) ≤ 1000000) (nw K10.2.2.1 (kNew K10 20 (8 : Int).toNat (8 : Int).toNat) (sNew K10 σ8) (fun q11 K12 σ13 => ckP (IsC K12 o 1) (nm (kRef K12 o 6 (some q11)) (fun K15 => ck (0 ≤ (8 : Int) ∧ (8 : Int) ≤ 1000000) (nw K15.2.2.1 (kNew K15 20 (8 : Int).toNat (8 : Int).toNat) (sNew K15 σ13) (fun q16 K17 σ18 => ckP (IsC K17 o 1) (nm (kRef K17 o 7 (some q16)) (fun K20 => ck (0 ≤ (6 : Int) ∧ (6 : Int) ≤ 1000000) (nw K20.2.2.1 (kNew K20 20 (6 : Int).toNat (6 : Int).toNat) (sNew K20 σ18) (fun q21 K22 σ23 => ckP (IsC K22 o 1) (nm (kRef K22 o 8 (some q21)) (fun K25 => ck (0 ≤ (6 : Int) ∧ (6 : Int) ≤ 1000000) (nw K25.2.2.1 (kNew K25 20 (6 : Int).toNat (6 : Int).toNat) (sNew K25 σ23) (fun q26 K27 σ28 => ckP (IsC K27 o 1) (nm (kRef K27 o 9 (some q26)) (fun K30 => ck (0 ≤ (6 : Int) ∧ (6 : Int) ≤ 1000000) (nw K30.2.2.1 (kNew K30 20 (6 : Int).toNat (6 : Int).toNat) (sNew K30 σ28) (fun q31 K32 σ33 => ckP (IsC K32 o 1) (nm (kRef K32 o 10 (some q31)) (fun K35 => ck (0 ≤ (6 : Int) ∧ (6 : Int) ≤ 1000000) (nw K35.2.2.1 (kNew K35 20 (6 : Int).toNat (6 : Int).toNat) (sNew K35 σ33) (fun q36 K37 σ38 => ckP (IsC K37 o 1) (nm (kRef K37 o 11 (some q36)) (fun K40 => ck (0 ≤ (6 : Int) ∧ (6 : Int) ≤ 1000000) (nw K40.2.2.1 (kNew K40 20 (6 : Int).toNat (6 : Int).toNat) (sNew K40 σ38) (fun q41 K42 σ43 => ckP (IsC K42 o 1) (nm (kRef K42 o 12 (some q41)) (fun K45 => ck (0 ≤ (6 : Int) ∧ (6 : Int) ≤ 1000000) (nw K45.2.2.1 (kNew K45 20 (6 : Int).toNat (6 : Int).toNat) (sNew K45 σ43) (fun q46 K47 σ48 => ckP (IsC K47 o 1) (nm (kRef K47 o 13 (some q46)) (fun K50 => ck (0 ≤ (12 : Int) ∧ (12 : Int) ≤ 1000000) (nw K50.2.2.1 (kNew K50 20 (12 : Int).toNat (12 : Int).toNat) (sNew K50 σ48) (fun q51 K52 σ53 => ckP (IsC K52 o 1) (nm (kRef K52 o 14 (some q51)) (fun K55 => ck (0 ≤ (12 : Int) ∧ (12 : Int) ≤ 1000000) (nw K55.2.2.1 (kNew K55 20 (12 : Int).toNat (12 : Int).toNat) (sNew K55 σ53) (fun q56 K57 σ58 => ckP (IsC K57 o 1) (nm (kRef K57 o 15 (some q56)) (fun K60 => ck (0 ≤ (4 : Int) ∧ (4 : Int) ≤ 1000000) (nw K60.2.2.1 (kNew K60 20 (4 : Int).toNat (4 : Int).toNat) (sNew K60 σ58) (fun q61 K62 σ63 => ckP (IsA K62 q61 20 (K62.2.1 q61).2) (ck (0 ≤ (0 : Int) ∧ (0 : Int) < ((K62.2.1 q61).2 : Int)) (nm (up2 σ63 q61 0 0) (fun σ65 => ckP (IsA K62 q61 20 (K62.2.1 q61).2) (ck (0 ≤ (1 : Int) ∧ (1 : Int) < ((K62.2.1 q61).2 : Int)) (nm (up2 σ65 q61 1 3) (fun σ67 => ckP (IsA K62 q61 20 (K62.2.1 q61).2) (ck (0 ≤ (2 : Int) ∧ (2 : Int) < ((K62.2.1 q61).2 : Int)) (nm (up2 σ67 q61 2 1) (fun σ69 => ckP (IsA K62 q61 20 (K62.2.1 q61).2) (ck (0 ≤ (3 : Int) ∧ (3 : Int) < ((K62.2.1 q61).2 : Int)) (nm (up2 σ69 q61 3 0) (fun σ71 => ckP (IsC K62 o 1) (nm (kRef K62 o 16 (some q61)) (fun K73 => ckP (IsC K73 o 1) (nm (kRef K73 o 0 (some p1)) (fun K75 => some (K75, σ71)))))))))))))))))))))))))))))))))))))))))))))))))))))))))))))))))))
set_option maxRecDepth 100000 in
set_option maxHeartbeats 4000000 in
theorem tX1_init {Γ : Gx} (o : Nat) (p1 : Nat) (K : Kt) (σ : Sg) : Y Γ MX1_init K emVK K 0 [some (aR o), some (aR p1)] [] σ (vX1_init o p1 K σ) := by
  unfold vX1_init
  refine y_aload_n dX1_init_0 rfl rfl ?_
  refine y_objInit oX1_3 (by decide) (Nat.le_of_ble_eq_true rfl) dX1_init_1 ?_
  refine y_aload_n dX1_init_4 rfl rfl ?_
  refine y_bipush dX1_init_5 (by decide) (by decide) ?_
  refine yn_newarr_int wA_int dX1_init_7 (fun q1 K2 σ3 => ?_)
  refine y_ckP (fun hc4 => ?_)
  refine yn_putR fX1_9 hc4 rfl rfl rfl rfl dX1_init_9 (fun K5 => ?_)
  refine y_aload_n dX1_init_12 rfl rfl ?_
  refine y_bipush dX1_init_13 (by decide) (by decide) ?_
  refine yn_newarr_int wA_int dX1_init_15 (fun q6 K7 σ8 => ?_)
  refine y_ckP (fun hc9 => ?_)
  refine yn_putR fX1_15 hc9 rfl rfl rfl rfl dX1_init_17 (fun K10 => ?_)
  refine y_aload_n dX1_init_20 rfl rfl ?_
  refine y_bipush dX1_init_21 (by decide) (by decide) ?_
  refine yn_newarr_int wA_int dX1_init_23 (fun q11 K12 σ13 => ?_)
  refine y_ckP (fun hc14 => ?_)
  refine yn_putR fX1_18 hc14 rfl rfl rfl rfl dX1_init_25 (fun K15 => ?_)
  refine y_aload_n dX1_init_28 rfl rfl ?_
  refine y_bipush dX1_init_29 (by decide) (by decide) ?_
  refine yn_newarr_int wA_int dX1_init_31 (fun q16 K17 σ18 => ?_)
  refine y_ckP (fun hc19 => ?_)
  refine yn_putR fX1_21 hc19 rfl rfl rfl rfl dX1_init_33 (fun K20 => ?_)
  refine y_aload_n dX1_init_36 rfl rfl ?_
  refine y_bipush dX1_init_37 (by decide) (by decide) ?_
  refine yn_newarr_int wA_int dX1_init_39 (fun q21 K22 σ23 => ?_)
  refine y_ckP (fun hc24 => ?_)
  refine yn_putR fX1_24 hc24 rfl rfl rfl rfl dX1_init_41 (fun K25 => ?_)
  refine y_aload_n dX1_init_44 rfl rfl ?_
  refine y_bipush dX1_init_45 (by decide) (by decide) ?_
  refine yn_newarr_int wA_int dX1_init_47 (fun q26 K27 σ28 => ?_)
  refine y_ckP (fun hc29 => ?_)
  refine yn_putR fX1_27 hc29 rfl rfl rfl rfl dX1_init_49 (fun K30 => ?_)
  refine y_aload_n dX1_init_52 rfl rfl ?_
  refine y_bipush dX1_init_53 (by decide) (by decide) ?_
  refine yn_newarr_int wA_int dX1_init_55 (fun q31 K32 σ33 => ?_)
  refine y_ckP (fun hc34 => ?_)
  refine yn_putR fX1_30 hc34 rfl rfl rfl rfl dX1_init_57 (fun K35 => ?_)
  refine y_aload_n dX1_init_60 rfl rfl ?_
  refine y_bipush dX1_init_61 (by decide) (by decide) ?_
  refine yn_newarr_int wA_int dX1_init_63 (fun q36 K37 σ38 => ?_)
  refine y_ckP (fun hc39 => ?_)
  refine yn_putR fX1_33 hc39 rfl rfl rfl rfl dX1_init_65 (fun K40 => ?_)
  refine y_aload_n dX1_init_68 rfl rfl ?_
  refine y_bipush dX1_init_69 (by decide) (by decide) ?_
  refine yn_newarr_int wA_int dX1_init_71 (fun q41 K42 σ43 => ?_)
  refine y_ckP (fun hc44 => ?_)
  refine yn_putR fX1_36 hc44 rfl rfl rfl rfl dX1_init_73 (fun K45 => ?_)
  refine y_aload_n dX1_init_76 rfl rfl ?_
  refine y_bipush dX1_init_77 (by decide) (by decide) ?_
  refine yn_newarr_int wA_int dX1_init_79 (fun q46 K47 σ48 => ?_)
  refine y_ckP (fun hc49 => ?_)
  refine yn_putR fX1_39 hc49 rfl rfl rfl rfl dX1_init_81 (fun K50 => ?_)
  refine y_aload_n dX1_init_84 rfl rfl ?_
  refine y_bipush dX1_init_85 (by decide) (by decide) ?_
  refine yn_newarr_int wA_int dX1_init_87 (fun q51 K52 σ53 => ?_)
  refine y_ckP (fun hc54 => ?_)
  refine yn_putR fX1_42 hc54 rfl rfl rfl rfl dX1_init_89 (fun K55 => ?_)
  refine y_aload_n dX1_init_92 rfl rfl ?_
  refine y_bipush dX1_init_93 (by decide) (by decide) ?_
  refine yn_newarr_int wA_int dX1_init_95 (fun q56 K57 σ58 => ?_)
  refine y_ckP (fun hc59 => ?_)
  refine yn_putR fX1_45 hc59 rfl rfl rfl rfl dX1_init_97 (fun K60 => ?_)
  refine y_aload_n dX1_init_100 rfl rfl ?_
  refine y_iconst dX1_init_101 (by decide) ?_
  refine yn_newarr_int wA_int dX1_init_102 (fun q61 K62 σ63 => ?_)
  refine y_dup dX1_init_104 (fun _ => rfl) ?_
  refine y_iconst dX1_init_105 (by decide) ?_
  refine y_iconst dX1_init_106 (by decide) ?_
  refine y_ckP (fun hc64 => ?_)
  refine yk_iastore hc64 (N := ((K62.2.1 q61).2 : Int)) rfl (j := 0) rfl dX1_init_107 (fun σ65 => ?_)
  refine y_dup dX1_init_108 (fun _ => rfl) ?_
  refine y_iconst dX1_init_109 (by decide) ?_
  refine y_iconst dX1_init_110 (by decide) ?_
  refine y_ckP (fun hc66 => ?_)
  refine yk_iastore hc66 (N := ((K62.2.1 q61).2 : Int)) rfl (j := 1) rfl dX1_init_111 (fun σ67 => ?_)
  refine y_dup dX1_init_112 (fun _ => rfl) ?_
  refine y_iconst dX1_init_113 (by decide) ?_
  refine y_iconst dX1_init_114 (by decide) ?_
  refine y_ckP (fun hc68 => ?_)
  refine yk_iastore hc68 (N := ((K62.2.1 q61).2 : Int)) rfl (j := 2) rfl dX1_init_115 (fun σ69 => ?_)
  refine y_dup dX1_init_116 (fun _ => rfl) ?_
  refine y_iconst dX1_init_117 (by decide) ?_
  refine y_iconst dX1_init_118 (by decide) ?_
  refine y_ckP (fun hc70 => ?_)
  refine yk_iastore hc70 (N := ((K62.2.1 q61).2 : Int)) rfl (j := 3) rfl dX1_init_119 (fun σ71 => ?_)
  refine y_ckP (fun hc72 => ?_)
  refine yn_putR fX1_48 hc72 rfl rfl rfl rfl dX1_init_120 (fun K73 => ?_)
  refine y_aload_n dX1_init_123 rfl rfl ?_
  refine y_aload_n dX1_init_124 rfl rfl ?_
  refine y_ckP (fun hc74 => ?_)
  refine yn_putR fX1_51 hc74 rfl rfl rfl rfl dX1_init_125 (fun K75 => ?_)
  exact y_vret rfl rfl dX1_init_128
theorem qX1_init (o : Nat) (p1 : Nat) (K : Kt) (σ : Sg) (hg : ∀ ou, vX1_init o p1 K σ = some ou → Gr K (emVK ou).2.1) : Cc MX1_init K [aR o, aR p1] σ emVK (vX1_init o p1 K σ) := cc_of plX1 (Nat.le_of_ble_eq_true rfl) hg (fun Γ => tX1_init o p1 K σ)
noncomputable def vX8_init (o : Nat) (K : Kt) (σ : Sg) : Option (Kt × Sg) := ck (0 ≤ (16 : Int) ∧ (16 : Int) ≤ 1000000) (nw K.2.2.1 (kNew K 24 (16 : Int).toNat (16 : Int).toNat) (sNew K σ) (fun q1 K2 σ3 => ckP (IsC K2 o 8) (nm (kRef K2 o 0 (some q1)) (fun K5 => ck (0 ≤ (16 : Int) ∧ (16 : Int) ≤ 1000000) (nw K5.2.2.1 (kNew K5 20 (16 : Int).toNat (16 : Int).toNat) (sNew K5 σ3) (fun q6 K7 σ8 => ckP (IsC K7 o 8) (nm (kRef K7 o 1 (some q6)) (fun K10 => ckP (IsC K10 o 8) (nm (up2 σ8 o 2 0) (fun σ12 => ckP (IsC K10 o 8) (nm (up2 σ12 o 3 0) (fun σ14 => some (K10, σ14)))))))))))))
set_option maxRecDepth 100000 in
set_option maxHeartbeats 4000000 in
theorem tX8_init {Γ : Gx} (o : Nat) (K : Kt) (σ : Sg) : Y Γ MX8_init K emVK K 0 [some (aR o)] [] σ (vX8_init o K σ) := by
  unfold vX8_init
  refine y_aload_n dX8_init_0 rfl rfl ?_
  refine y_objInit oX8_3 (by decide) (Nat.le_of_ble_eq_true rfl) dX8_init_1 ?_
  refine y_aload_n dX8_init_4 rfl rfl ?_
  refine y_bipush dX8_init_5 (by decide) (by decide) ?_
  refine yn_anew_24 nX8_9.1 dX8_init_7 (fun q1 K2 σ3 => ?_)
  refine y_ckP (fun hc4 => ?_)
  refine yn_putR fX8_11 hc4 rfl rfl rfl rfl dX8_init_10 (fun K5 => ?_)
  refine y_aload_n dX8_init_13 rfl rfl ?_
  refine y_bipush dX8_init_14 (by decide) (by decide) ?_
  refine yn_newarr_int wA_int dX8_init_16 (fun q6 K7 σ8 => ?_)
  refine y_ckP (fun hc9 => ?_)
  refine yn_putR fX8_17 hc9 rfl rfl rfl rfl dX8_init_18 (fun K10 => ?_)
  refine y_aload_n dX8_init_21 rfl rfl ?_
  refine y_iconst dX8_init_22 (by decide) ?_
  refine y_ckP (fun hc11 => ?_)
  refine yn_putI fX8_21 hc11 rfl rfl dX8_init_23 (fun σ12 => ?_)
  refine y_aload_n dX8_init_26 rfl rfl ?_
  refine y_iconst dX8_init_27 (by decide) ?_
  refine y_ckP (fun hc13 => ?_)
  refine yn_putI fX8_25 hc13 rfl rfl dX8_init_28 (fun σ14 => ?_)
  exact y_vret rfl rfl dX8_init_31
theorem qX8_init (o : Nat) (K : Kt) (σ : Sg) (hg : ∀ ou, vX8_init o K σ = some ou → Gr K (emVK ou).2.1) : Cc MX8_init K [aR o] σ emVK (vX8_init o K σ) := cc_of plX8 (Nat.le_of_ble_eq_true rfl) hg (fun Γ => tX8_init o K σ)
noncomputable def vX4_init (o : Nat) (p1 : Nat) (K : Kt) (σ : Sg) : Option (Kt × Sg) := nw K.2.2.1 (kNew K 7 0 8) (sNew K σ) (fun q1 K2 σ3 => bdVK (vX7_init q1 12 400 K2 σ3) (fun K4 σ5 => ckP (IsC K4 o 4) (nm (kRef K4 o 1 (some q1)) (fun K7 => ckP (IsC K7 o 4) (nm (up2 σ5 o 2 (-1)) (fun σ9 => ck (0 ≤ (401 : Int) ∧ (401 : Int) ≤ 1000000) (nw K7.2.2.1 (kNew K7 20 (401 : Int).toNat (401 : Int).toNat) (sNew K7 σ9) (fun q10 K11 σ12 => ckP (IsC K11 o 4) (nm (kRef K11 o 3 (some q10)) (fun K14 => ck (0 ≤ (401 : Int) ∧ (401 : Int) ≤ 1000000) (nw K14.2.2.1 (kNew K14 20 (401 : Int).toNat (401 : Int).toNat) (sNew K14 σ12) (fun q15 K16 σ17 => ckP (IsC K16 o 4) (nm (kRef K16 o 4 (some q15)) (fun K19 => ckP (IsC K19 o 4) (nm (up2 σ17 o 5 1) (fun σ21 => ckP (IsC K19 o 4) (nm (up2 σ21 o 6 0) (fun σ23 => ckP (IsC K19 o 4) (nm (up2 σ23 o 7 0) (fun σ25 => ckP (IsC K19 o 4) (nm (kRef K19 o 0 (some p1)) (fun K27 => some (K27, σ25)))))))))))))))))))))))
set_option maxRecDepth 100000 in
set_option maxHeartbeats 4000000 in
theorem tX4_init {Γ : Gx} (o : Nat) (p1 : Nat) (K : Kt) (σ : Sg) : Y Γ MX4_init K emVK K 0 [some (aR o), some (aR p1)] [] σ (vX4_init o p1 K σ) := by
  unfold vX4_init
  refine y_aload_n dX4_init_0 rfl rfl ?_
  refine y_objInit oX4_5 (by decide) (Nat.le_of_ble_eq_true rfl) dX4_init_1 ?_
  refine y_aload_n dX4_init_4 rfl rfl ?_
  refine yn_new nX4_11 (by decide) dX4_init_5 (fun q1 K2 σ3 => ?_)
  refine y_dup dX4_init_8 (fun _ => rfl) ?_
  refine y_bipush dX4_init_9 (by decide) (by decide) ?_
  refine y_sipush dX4_init_11 (by decide) (by decide) ?_
  refine y_ci (qX7_init q1 12 400 K2 σ3 (fun ou hou => (tX7_init (Γ := Γ) q1 12 400 K2 σ3 ou hou).1)) iX4_13 rfl (by decide) rfl (Nat.le_of_ble_eq_true rfl) dX4_init_14 (fun K4 σ5 => ?_)
  refine y_ckP (fun hc6 => ?_)
  refine yn_putR fX4_16 hc6 rfl rfl rfl rfl dX4_init_17 (fun K7 => ?_)
  refine y_aload_n dX4_init_20 rfl rfl ?_
  refine y_iconst dX4_init_21 (by decide) ?_
  refine y_ckP (fun hc8 => ?_)
  refine yn_putI fX4_20 hc8 rfl rfl dX4_init_22 (fun σ9 => ?_)
  refine y_aload_n dX4_init_25 rfl rfl ?_
  refine y_sipush dX4_init_26 (by decide) (by decide) ?_
  refine yn_newarr_int wA_int dX4_init_29 (fun q10 K11 σ12 => ?_)
  refine y_ckP (fun hc13 => ?_)
  refine yn_putR fX4_24 hc13 rfl rfl rfl rfl dX4_init_31 (fun K14 => ?_)
  refine y_aload_n dX4_init_34 rfl rfl ?_
  refine y_sipush dX4_init_35 (by decide) (by decide) ?_
  refine yn_newarr_int wA_int dX4_init_38 (fun q15 K16 σ17 => ?_)
  refine y_ckP (fun hc18 => ?_)
  refine yn_putR fX4_28 hc18 rfl rfl rfl rfl dX4_init_40 (fun K19 => ?_)
  refine y_aload_n dX4_init_43 rfl rfl ?_
  refine y_iconst dX4_init_44 (by decide) ?_
  refine y_ckP (fun hc20 => ?_)
  refine yn_putZ (by decide) fX4_31 hc20 rfl rfl dX4_init_45 (fun σ21 => ?_)
  refine y_aload_n dX4_init_48 rfl rfl ?_
  refine y_iconst dX4_init_49 (by decide) ?_
  refine y_ckP (fun hc22 => ?_)
  refine yn_putI fX4_35 hc22 rfl rfl dX4_init_50 (fun σ23 => ?_)
  refine y_aload_n dX4_init_53 rfl rfl ?_
  refine y_iconst dX4_init_54 (by decide) ?_
  refine y_ckP (fun hc24 => ?_)
  refine yn_putI fX4_38 hc24 rfl rfl dX4_init_55 (fun σ25 => ?_)
  refine y_aload_n dX4_init_58 rfl rfl ?_
  refine y_aload_n dX4_init_59 rfl rfl ?_
  refine y_ckP (fun hc26 => ?_)
  refine yn_putR fX4_41 hc26 rfl rfl rfl rfl dX4_init_60 (fun K27 => ?_)
  exact y_vret rfl rfl dX4_init_63
theorem qX4_init (o : Nat) (p1 : Nat) (K : Kt) (σ : Sg) (hg : ∀ ou, vX4_init o p1 K σ = some ou → Gr K (emVK ou).2.1) : Cc MX4_init K [aR o, aR p1] σ emVK (vX4_init o p1 K σ) := cc_of plX4 (Nat.le_of_ble_eq_true rfl) hg (fun Γ => tX4_init o p1 K σ)
noncomputable def vX0_init (o : Nat) (p1 : Nat) (K : Kt) (σ : Sg) : Option (Kt × Sg) := ck (0 ≤ (64 : Int) ∧ (64 : Int) ≤ 1000000) (nw K.2.2.1 (kNew K 20 (64 : Int).toNat (64 : Int).toNat) (sNew K σ) (fun q1 K2 σ3 => ckP (IsC K2 o 0) (nm (kRef K2 o 1 (some q1)) (fun K5 => ck (0 ≤ (64 : Int) ∧ (64 : Int) ≤ 1000000) (nw K5.2.2.1 (kNew K5 20 (64 : Int).toNat (64 : Int).toNat) (sNew K5 σ3) (fun q6 K7 σ8 => ckP (IsC K7 o 0) (nm (kRef K7 o 2 (some q6)) (fun K10 => ck (0 ≤ (256 : Int) ∧ (256 : Int) ≤ 1000000) (nw K10.2.2.1 (kNew K10 22 (256 : Int).toNat (256 : Int).toNat) (sNew K10 σ8) (fun q11 K12 σ13 => ckP (IsC K12 o 0) (nm (kRef K12 o 3 (some q11)) (fun K15 => ck (0 ≤ (256 : Int) ∧ (256 : Int) ≤ 1000000) (nw K15.2.2.1 (kNew K15 22 (256 : Int).toNat (256 : Int).toNat) (sNew K15 σ13) (fun q16 K17 σ18 => ckP (IsC K17 o 0) (nm (kRef K17 o 4 (some q16)) (fun K20 => ck (0 ≤ (256 : Int) ∧ (256 : Int) ≤ 1000000) (nw K20.2.2.1 (kNew K20 20 (256 : Int).toNat (256 : Int).toNat) (sNew K20 σ18) (fun q21 K22 σ23 => ckP (IsC K22 o 0) (nm (kRef K22 o 5 (some q21)) (fun K25 => ck (0 ≤ (8 : Int) ∧ (8 : Int) ≤ 1000000) (nw K25.2.2.1 (kNew K25 20 (8 : Int).toNat (8 : Int).toNat) (sNew K25 σ23) (fun q26 K27 σ28 => ckP (IsC K27 o 0) (nm (kRef K27 o 6 (some q26)) (fun K30 => ck (0 ≤ (20 : Int) ∧ (20 : Int) ≤ 1000000) (nw K30.2.2.1 (kNew K30 21 (20 : Int).toNat (20 : Int).toNat) (sNew K30 σ28) (fun q31 K32 σ33 => ckP (IsC K32 o 0) (nm (kRef K32 o 7 (some q31)) (fun K35 => ckP (IsC K35 o 0) (nm (kRef K35 o 0 (some p1)) (fun K37 => some (K37, σ33)))))))))))))))))))))))))))))))
set_option maxRecDepth 100000 in
set_option maxHeartbeats 4000000 in
theorem tX0_init {Γ : Gx} (o : Nat) (p1 : Nat) (K : Kt) (σ : Sg) : Y Γ MX0_init K emVK K 0 [some (aR o), some (aR p1)] [] σ (vX0_init o p1 K σ) := by
  unfold vX0_init
  refine y_aload_n dX0_init_0 rfl rfl ?_
  refine y_objInit oX0_3 (by decide) (Nat.le_of_ble_eq_true rfl) dX0_init_1 ?_
  refine y_aload_n dX0_init_4 rfl rfl ?_
  refine y_bipush dX0_init_5 (by decide) (by decide) ?_
  refine yn_newarr_int wA_int dX0_init_7 (fun q1 K2 σ3 => ?_)
  refine y_ckP (fun hc4 => ?_)
  refine yn_putR fX0_11 hc4 rfl rfl rfl rfl dX0_init_9 (fun K5 => ?_)
  refine y_aload_n dX0_init_12 rfl rfl ?_
  refine y_bipush dX0_init_13 (by decide) (by decide) ?_
  refine yn_newarr_int wA_int dX0_init_15 (fun q6 K7 σ8 => ?_)
  refine y_ckP (fun hc9 => ?_)
  refine yn_putR fX0_15 hc9 rfl rfl rfl rfl dX0_init_17 (fun K10 => ?_)
  refine y_aload_n dX0_init_20 rfl rfl ?_
  refine y_sipush dX0_init_21 (by decide) (by decide) ?_
  refine yn_newarr_boolean wA_boolean dX0_init_24 (fun q11 K12 σ13 => ?_)
  refine y_ckP (fun hc14 => ?_)
  refine yn_putR fX0_18 hc14 rfl rfl rfl rfl dX0_init_26 (fun K15 => ?_)
  refine y_aload_n dX0_init_29 rfl rfl ?_
  refine y_sipush dX0_init_30 (by decide) (by decide) ?_
  refine yn_newarr_boolean wA_boolean dX0_init_33 (fun q16 K17 σ18 => ?_)
  refine y_ckP (fun hc19 => ?_)
  refine yn_putR fX0_22 hc19 rfl rfl rfl rfl dX0_init_35 (fun K20 => ?_)
  refine y_aload_n dX0_init_38 rfl rfl ?_
  refine y_sipush dX0_init_39 (by decide) (by decide) ?_
  refine yn_newarr_int wA_int dX0_init_42 (fun q21 K22 σ23 => ?_)
  refine y_ckP (fun hc24 => ?_)
  refine yn_putR fX0_25 hc24 rfl rfl rfl rfl dX0_init_44 (fun K25 => ?_)
  refine y_aload_n dX0_init_47 rfl rfl ?_
  refine y_bipush dX0_init_48 (by decide) (by decide) ?_
  refine yn_newarr_int wA_int dX0_init_50 (fun q26 K27 σ28 => ?_)
  refine y_ckP (fun hc29 => ?_)
  refine yn_putR fX0_28 hc29 rfl rfl rfl rfl dX0_init_52 (fun K30 => ?_)
  refine y_aload_n dX0_init_55 rfl rfl ?_
  refine y_bipush dX0_init_56 (by decide) (by decide) ?_
  refine yn_newarr_long wA_long dX0_init_58 (fun q31 K32 σ33 => ?_)
  refine y_ckP (fun hc34 => ?_)
  refine yn_putR fX0_31 hc34 rfl rfl rfl rfl dX0_init_60 (fun K35 => ?_)
  refine y_aload_n dX0_init_63 rfl rfl ?_
  refine y_aload_n dX0_init_64 rfl rfl ?_
  refine y_ckP (fun hc36 => ?_)
  refine yn_putR fX0_35 hc36 rfl rfl rfl rfl dX0_init_65 (fun K37 => ?_)
  exact y_vret rfl rfl dX0_init_68
theorem qX0_init (o : Nat) (p1 : Nat) (K : Kt) (σ : Sg) (hg : ∀ ou, vX0_init o p1 K σ = some ou → Gr K (emVK ou).2.1) : Cc MX0_init K [aR o, aR p1] σ emVK (vX0_init o p1 K σ) := cc_of plX0 (Nat.le_of_ble_eq_true rfl) hg (fun Γ => tX0_init o p1 K σ)
noncomputable def vX2_init (o : Nat) (K : Kt) (σ : Sg) : Option (Kt × Sg) := nw K.2.2.1 (kNew K 3 0 6) (sNew K σ) (fun q1 K2 σ3 => bdVK (vX3_init q1 K2 σ3) (fun K4 σ5 => ckP (IsC K4 o 2) (nm (kRef K4 o 0 (some q1)) (fun K7 => nw K7.2.2.1 (kNew K7 1 0 17) (sNew K7 σ5) (fun q8 K9 σ10 => ckP (IsC K9 o 2) ((K9.1 o 0).bind (fun t12 => bdVK (vX1_init q8 t12 K9 σ10) (fun K13 σ14 => ckP (IsC K13 o 2) (nm (kRef K13 o 1 (some q8)) (fun K16 => some (K16, σ14)))))))))))
set_option maxRecDepth 100000 in
set_option maxHeartbeats 4000000 in
theorem tX2_init {Γ : Gx} (o : Nat) (K : Kt) (σ : Sg) : Y Γ MX2_init K emVK K 0 [some (aR o)] [] σ (vX2_init o K σ) := by
  unfold vX2_init
  refine y_aload_n dX2_init_0 rfl rfl ?_
  refine y_objInit oX2_1 (by decide) (Nat.le_of_ble_eq_true rfl) dX2_init_1 ?_
  refine y_aload_n dX2_init_4 rfl rfl ?_
  refine yn_new nX2_7 (by decide) dX2_init_5 (fun q1 K2 σ3 => ?_)
  refine y_dup dX2_init_8 (fun _ => rfl) ?_
  refine y_ciN (qX3_init q1 K2 σ3 (fun ou hou => (tX3_init (Γ := Γ) q1 K2 σ3 ou hou).1)) iX2_9 rfl (by decide) rfl (Nat.le_of_ble_eq_true rfl) dX2_init_9 (fun K4 σ5 => ?_)
  refine y_ckP (fun hc6 => ?_)
  refine yn_putR fX2_10 hc6 rfl rfl rfl rfl dX2_init_12 (fun K7 => ?_)
  refine y_aload_n dX2_init_15 rfl rfl ?_
  refine yn_new nX2_16 (by decide) dX2_init_16 (fun q8 K9 σ10 => ?_)
  refine y_dup dX2_init_19 (fun _ => rfl) ?_
  refine y_aload_n dX2_init_20 rfl rfl ?_
  refine y_ckP (fun hc11 => ?_)
  refine yb_getR fX2_10 hc11 rfl dX2_init_21 (fun t12 ht12 => ?_)
  refine y_ci (qX1_init q8 t12 K9 σ10 (fun ou hou => (tX1_init (Γ := Γ) q8 t12 K9 σ10 ou hou).1)) iX2_18 rfl (by decide) rfl (Nat.le_of_ble_eq_true rfl) dX2_init_24 (fun K13 σ14 => ?_)
  refine y_ckP (fun hc15 => ?_)
  refine yn_putR fX2_21 hc15 rfl rfl rfl rfl dX2_init_27 (fun K16 => ?_)
  exact y_vret rfl rfl dX2_init_30
theorem qX2_init (o : Nat) (K : Kt) (σ : Sg) (hg : ∀ ou, vX2_init o K σ = some ou → Gr K (emVK ou).2.1) : Cc MX2_init K [aR o] σ emVK (vX2_init o K σ) := cc_of plX2 (Nat.le_of_ble_eq_true rfl) hg (fun Γ => tX2_init o K σ)
noncomputable def vX9_init (o : Nat) (K : Kt) (σ : Sg) : Option (Kt × Sg) := nw K.2.2.1 (kNew K 3 0 6) (sNew K σ) (fun q1 K2 σ3 => bdVK (vX3_init q1 K2 σ3) (fun K4 σ5 => ckP (IsC K4 o 9) (nm (kRef K4 o 0 (some q1)) (fun K7 => nw K7.2.2.1 (kNew K7 1 0 17) (sNew K7 σ5) (fun q8 K9 σ10 => ckP (IsC K9 o 9) ((K9.1 o 0).bind (fun t12 => bdVK (vX1_init q8 t12 K9 σ10) (fun K13 σ14 => ckP (IsC K13 o 9) (nm (kRef K13 o 1 (some q8)) (fun K16 => nw K16.2.2.1 (kNew K16 8 0 4) (sNew K16 σ14) (fun q17 K18 σ19 => bdVK (vX8_init q17 K18 σ19) (fun K20 σ21 => ckP (IsC K20 o 9) (nm (kRef K20 o 2 (some q17)) (fun K23 => nw K23.2.2.1 (kNew K23 8 0 4) (sNew K23 σ21) (fun q24 K25 σ26 => bdVK (vX8_init q24 K25 σ26) (fun K27 σ28 => ckP (IsC K27 o 9) (nm (kRef K27 o 3 (some q24)) (fun K30 => nw K30.2.2.1 (kNew K30 1 0 17) (sNew K30 σ28) (fun q31 K32 σ33 => ckP (IsC K32 o 9) ((K32.1 o 0).bind (fun t35 => bdVK (vX1_init q31 t35 K32 σ33) (fun K36 σ37 => ckP (IsC K36 o 9) (nm (kRef K36 o 4 (some q31)) (fun K39 => nw K39.2.2.1 (kNew K39 1 0 17) (sNew K39 σ37) (fun q40 K41 σ42 => ckP (IsC K41 o 9) ((K41.1 o 0).bind (fun t44 => bdVK (vX1_init q40 t44 K41 σ42) (fun K45 σ46 => ckP (IsC K45 o 9) (nm (kRef K45 o 5 (some q40)) (fun K48 => nw K48.2.2.1 (kNew K48 6 0 2) (sNew K48 σ46) (fun q49 K50 σ51 => bdVK (vX6_init q49 K50 σ51) (fun K52 σ53 => ckP (IsC K52 o 9) (nm (kRef K52 o 6 (some q49)) (fun K55 => nw K55.2.2.1 (kNew K55 4 0 8) (sNew K55 σ53) (fun q56 K57 σ58 => ckP (IsC K57 o 9) ((K57.1 o 6).bind (fun t60 => bdVK (vX4_init q56 t60 K57 σ58) (fun K61 σ62 => ckP (IsC K61 o 9) (nm (kRef K61 o 7 (some q56)) (fun K64 => nw K64.2.2.1 (kNew K64 0 0 8) (sNew K64 σ62) (fun q65 K66 σ67 => ckP (IsC K66 o 9) ((K66.1 o 1).bind (fun t69 => bdVK (vX0_init q65 t69 K66 σ67) (fun K70 σ71 => ckP (IsC K70 o 9) (nm (kRef K70 o 8 (some q65)) (fun K73 => ck (0 ≤ (2 : Int) ∧ (2 : Int) ≤ 1000000) (nw K73.2.2.1 (kNew K73 25 (2 : Int).toNat (2 : Int).toNat) (sNew K73 σ71) (fun q74 K75 σ76 => ckP (IsC K75 o 9) (nm (kRef K75 o 9 (some q74)) (fun K78 => ck (0 ≤ (24 : Int) ∧ (24 : Int) ≤ 1000000) (nw K78.2.2.1 (kNew K78 20 (24 : Int).toNat (24 : Int).toNat) (sNew K78 σ76) (fun q79 K80 σ81 => ckP (IsC K80 o 9) (nm (kRef K80 o 10 (some q79)) (fun K83 => ck (0 ≤ (7 : Int) ∧ (7 : Int) ≤ 1000000) (nw K83.2.2.1 (kNew K83 20 (7 : Int).toNat (7 : Int).toNat) (sNew K83 σ81) (fun q84 K85 σ86 => ckP (IsC K85 o 9) (nm (kRef K85 o 11 (some q84)) (fun K88 => ckP (IsC K88 o 9) (nm (up2 σ86 o 12 0) (fun σ90 => ckP (IsC K88 o 9) (nm (up2 σ90 o 13 (-1)) (fun σ92 => ckP (IsC K88 o 9) (nm (up2 σ92 o 14 0) (fun σ94 => some (K88, σ94)))))))))))))))))))))))))))))))))))))))))))))))))))))))))))))))))
set_option maxRecDepth 100000 in
set_option maxHeartbeats 4000000 in
theorem tX9_init {Γ : Gx} (o : Nat) (K : Kt) (σ : Sg) : Y Γ MX9_init K emVK K 0 [some (aR o)] [] σ (vX9_init o K σ) := by
  unfold vX9_init
  refine y_aload_n dX9_init_0 rfl rfl ?_
  refine y_objInit oX9_3 (by decide) (Nat.le_of_ble_eq_true rfl) dX9_init_1 ?_
  refine y_aload_n dX9_init_4 rfl rfl ?_
  refine yn_new nX9_9 (by decide) dX9_init_5 (fun q1 K2 σ3 => ?_)
  refine y_dup dX9_init_8 (fun _ => rfl) ?_
  refine y_ciN (qX3_init q1 K2 σ3 (fun ou hou => (tX3_init (Γ := Γ) q1 K2 σ3 ou hou).1)) iX9_11 rfl (by decide) rfl (Nat.le_of_ble_eq_true rfl) dX9_init_9 (fun K4 σ5 => ?_)
  refine y_ckP (fun hc6 => ?_)
  refine yn_putR fX9_12 hc6 rfl rfl rfl rfl dX9_init_12 (fun K7 => ?_)
  refine y_aload_n dX9_init_15 rfl rfl ?_
  refine yn_new nX9_16 (by decide) dX9_init_16 (fun q8 K9 σ10 => ?_)
  refine y_dup dX9_init_19 (fun _ => rfl) ?_
  refine y_aload_n dX9_init_20 rfl rfl ?_
  refine y_ckP (fun hc11 => ?_)
  refine yb_getR fX9_12 hc11 rfl dX9_init_21 (fun t12 ht12 => ?_)
  refine y_ci (qX1_init q8 t12 K9 σ10 (fun ou hou => (tX1_init (Γ := Γ) q8 t12 K9 σ10 ou hou).1)) iX9_18 rfl (by decide) rfl (Nat.le_of_ble_eq_true rfl) dX9_init_24 (fun K13 σ14 => ?_)
  refine y_ckP (fun hc15 => ?_)
  refine yn_putR fX9_21 hc15 rfl rfl rfl rfl dX9_init_27 (fun K16 => ?_)
  refine y_aload_n dX9_init_30 rfl rfl ?_
  refine yn_new nX9_25 (by decide) dX9_init_31 (fun q17 K18 σ19 => ?_)
  refine y_dup dX9_init_34 (fun _ => rfl) ?_
  refine y_ciN (qX8_init q17 K18 σ19 (fun ou hou => (tX8_init (Γ := Γ) q17 K18 σ19 ou hou).1)) iX9_27 rfl (by decide) rfl (Nat.le_of_ble_eq_true rfl) dX9_init_35 (fun K20 σ21 => ?_)
  refine y_ckP (fun hc22 => ?_)
  refine yn_putR fX9_28 hc22 rfl rfl rfl rfl dX9_init_38 (fun K23 => ?_)
  refine y_aload_n dX9_init_41 rfl rfl ?_
  refine yn_new nX9_25 (by decide) dX9_init_42 (fun q24 K25 σ26 => ?_)
  refine y_dup dX9_init_45 (fun _ => rfl) ?_
  refine y_ciN (qX8_init q24 K25 σ26 (fun ou hou => (tX8_init (Γ := Γ) q24 K25 σ26 ou hou).1)) iX9_27 rfl (by decide) rfl (Nat.le_of_ble_eq_true rfl) dX9_init_46 (fun K27 σ28 => ?_)
  refine y_ckP (fun hc29 => ?_)
  refine yn_putR fX9_32 hc29 rfl rfl rfl rfl dX9_init_49 (fun K30 => ?_)
  refine y_aload_n dX9_init_52 rfl rfl ?_
  refine yn_new nX9_16 (by decide) dX9_init_53 (fun q31 K32 σ33 => ?_)
  refine y_dup dX9_init_56 (fun _ => rfl) ?_
  refine y_aload_n dX9_init_57 rfl rfl ?_
  refine y_ckP (fun hc34 => ?_)
  refine yb_getR fX9_12 hc34 rfl dX9_init_58 (fun t35 ht35 => ?_)
  refine y_ci (qX1_init q31 t35 K32 σ33 (fun ou hou => (tX1_init (Γ := Γ) q31 t35 K32 σ33 ou hou).1)) iX9_18 rfl (by decide) rfl (Nat.le_of_ble_eq_true rfl) dX9_init_61 (fun K36 σ37 => ?_)
  refine y_ckP (fun hc38 => ?_)
  refine yn_putR fX9_35 hc38 rfl rfl rfl rfl dX9_init_64 (fun K39 => ?_)
  refine y_aload_n dX9_init_67 rfl rfl ?_
  refine yn_new nX9_16 (by decide) dX9_init_68 (fun q40 K41 σ42 => ?_)
  refine y_dup dX9_init_71 (fun _ => rfl) ?_
  refine y_aload_n dX9_init_72 rfl rfl ?_
  refine y_ckP (fun hc43 => ?_)
  refine yb_getR fX9_12 hc43 rfl dX9_init_73 (fun t44 ht44 => ?_)
  refine y_ci (qX1_init q40 t44 K41 σ42 (fun ou hou => (tX1_init (Γ := Γ) q40 t44 K41 σ42 ou hou).1)) iX9_18 rfl (by decide) rfl (Nat.le_of_ble_eq_true rfl) dX9_init_76 (fun K45 σ46 => ?_)
  refine y_ckP (fun hc47 => ?_)
  refine yn_putR fX9_38 hc47 rfl rfl rfl rfl dX9_init_79 (fun K48 => ?_)
  refine y_aload_n dX9_init_82 rfl rfl ?_
  refine yn_new nX9_41 (by decide) dX9_init_83 (fun q49 K50 σ51 => ?_)
  refine y_dup dX9_init_86 (fun _ => rfl) ?_
  refine y_ciN (qX6_init q49 K50 σ51 (fun ou hou => (tX6_init (Γ := Γ) q49 K50 σ51 ou hou).1)) iX9_43 rfl (by decide) rfl (Nat.le_of_ble_eq_true rfl) dX9_init_87 (fun K52 σ53 => ?_)
  refine y_ckP (fun hc54 => ?_)
  refine yn_putR fX9_44 hc54 rfl rfl rfl rfl dX9_init_90 (fun K55 => ?_)
  refine y_aload_n dX9_init_93 rfl rfl ?_
  refine yn_new nX9_48 (by decide) dX9_init_94 (fun q56 K57 σ58 => ?_)
  refine y_dup dX9_init_97 (fun _ => rfl) ?_
  refine y_aload_n dX9_init_98 rfl rfl ?_
  refine y_ckP (fun hc59 => ?_)
  refine yb_getR fX9_44 hc59 rfl dX9_init_99 (fun t60 ht60 => ?_)
  refine y_ci (qX4_init q56 t60 K57 σ58 (fun ou hou => (tX4_init (Γ := Γ) q56 t60 K57 σ58 ou hou).1)) iX9_50 rfl (by decide) rfl (Nat.le_of_ble_eq_true rfl) dX9_init_102 (fun K61 σ62 => ?_)
  refine y_ckP (fun hc63 => ?_)
  refine yn_putR fX9_53 hc63 rfl rfl rfl rfl dX9_init_105 (fun K64 => ?_)
  refine y_aload_n dX9_init_108 rfl rfl ?_
  refine yn_new nX9_57 (by decide) dX9_init_109 (fun q65 K66 σ67 => ?_)
  refine y_dup dX9_init_112 (fun _ => rfl) ?_
  refine y_aload_n dX9_init_113 rfl rfl ?_
  refine y_ckP (fun hc68 => ?_)
  refine yb_getR fX9_21 hc68 rfl dX9_init_114 (fun t69 ht69 => ?_)
  refine y_ci (qX0_init q65 t69 K66 σ67 (fun ou hou => (tX0_init (Γ := Γ) q65 t69 K66 σ67 ou hou).1)) iX9_59 rfl (by decide) rfl (Nat.le_of_ble_eq_true rfl) dX9_init_117 (fun K70 σ71 => ?_)
  refine y_ckP (fun hc72 => ?_)
  refine yn_putR fX9_62 hc72 rfl rfl rfl rfl dX9_init_120 (fun K73 => ?_)
  refine y_aload_n dX9_init_123 rfl rfl ?_
  refine y_iconst dX9_init_124 (by decide) ?_
  refine yn_anew_25 nX9_66.1 dX9_init_125 (fun q74 K75 σ76 => ?_)
  refine y_ckP (fun hc77 => ?_)
  refine yn_putR fX9_68 hc77 rfl rfl rfl rfl dX9_init_128 (fun K78 => ?_)
  refine y_aload_n dX9_init_131 rfl rfl ?_
  refine y_bipush dX9_init_132 (by decide) (by decide) ?_
  refine yn_newarr_int wA_int dX9_init_134 (fun q79 K80 σ81 => ?_)
  refine y_ckP (fun hc82 => ?_)
  refine yn_putR fX9_72 hc82 rfl rfl rfl rfl dX9_init_136 (fun K83 => ?_)
  refine y_aload_n dX9_init_139 rfl rfl ?_
  refine y_bipush dX9_init_140 (by decide) (by decide) ?_
  refine yn_newarr_int wA_int dX9_init_142 (fun q84 K85 σ86 => ?_)
  refine y_ckP (fun hc87 => ?_)
  refine yn_putR fX9_76 hc87 rfl rfl rfl rfl dX9_init_144 (fun K88 => ?_)
  refine y_aload_n dX9_init_147 rfl rfl ?_
  refine y_iconst dX9_init_148 (by decide) ?_
  refine y_ckP (fun hc89 => ?_)
  refine yn_putI fX9_79 hc89 rfl rfl dX9_init_149 (fun σ90 => ?_)
  refine y_aload_n dX9_init_152 rfl rfl ?_
  refine y_iconst dX9_init_153 (by decide) ?_
  refine y_ckP (fun hc91 => ?_)
  refine yn_putI fX9_83 hc91 rfl rfl dX9_init_154 (fun σ92 => ?_)
  refine y_aload_n dX9_init_157 rfl rfl ?_
  refine y_iconst dX9_init_158 (by decide) ?_
  refine y_ckP (fun hc93 => ?_)
  refine yn_putI fX9_86 hc93 rfl rfl dX9_init_159 (fun σ94 => ?_)
  exact y_vret rfl rfl dX9_init_162
theorem qX9_init (o : Nat) (K : Kt) (σ : Sg) (hg : ∀ ou, vX9_init o K σ = some ou → Gr K (emVK ou).2.1) : Cc MX9_init K [aR o] σ emVK (vX9_init o K σ) := cc_of plX9 (Nat.le_of_ble_eq_true rfl) hg (fun Γ => tX9_init o K σ)
