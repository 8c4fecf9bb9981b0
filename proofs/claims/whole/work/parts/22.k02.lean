noncomputable def vX9_last (K : Kt) (p1 : Int) (p2 : Int) (σ : Sg) : Option (Int × Sg) := (vX1_hasReader K 13 p1 σ).bind (fun r1 => if r1 = 0 then (some ((-1), σ)) else ((vX9_within p2 0 63 σ).bind (fun r3 => if r3 = 0 then (some ((-1), σ)) else (ck (0 ≤ p1 ∧ p1 < 6) (bd2 (vX0_findSets K p2 (σ 18 p1.toNat) σ) (fun r5 σ6 => (vX0_lastOnes K σ6).bind (fun r7 => some (r7, σ6))))))))
set_option maxRecDepth 100000 in
set_option maxHeartbeats 4000000 in
theorem tX9_last {Γ : Gx} {K : Kt} (hC : cLay K) (p1 : Int) (p2 : Int) (σ : Sg) : Y Γ MX9_last K (emIS K) K 0 [some (aR 0), some (aI p1), some (aI p2)] [] σ (vX9_last K p1 p2 σ) := by
  unfold vX9_last
  refine y_aload_n dX9_last_0 rfl rfl ?_
  refine y_getR fX9_21 (lcO_0 hC) rfl (lcR_0_1 hC) dX9_last_1 ?_
  refine y_iload_n dX9_last_4 rfl rfl ?_
  refine y_cvI (qX1_hasReader (hPre_13 hC) p1 σ) kX9_140 rfl (lcO_13 hC) rfl (by decide) rfl (Nat.le_of_ble_eq_true rfl) dX9_last_5 (fun r1 => ?_)
  refine y_ite (fun h2 => ?_) (fun h2 => ?_)
  · refine y_if_eq_t dX9_last_8 (t := 21) rfl h2 ?_
    refine y_iconst dX9_last_21 (by decide) ?_
    exact y_iret rfl rfl dX9_last_22
  · refine y_if_eq_f dX9_last_8 (t := 21) rfl h2 ?_
    refine y_iload_n dX9_last_11 rfl rfl ?_
    refine y_iconst dX9_last_12 (by decide) ?_
    refine y_bipush dX9_last_13 (by decide) (by decide) ?_
    refine y_csI (qX9_within (K := K) p2 0 63 σ) kX9_96 rfl (by decide) rfl (Nat.le_of_ble_eq_true rfl) dX9_last_15 (fun r3 => ?_)
    refine y_ite (fun h4 => ?_) (fun h4 => ?_)
    · refine y_if_ne_f dX9_last_18 (t := 23) rfl h4 ?_
      refine y_iconst dX9_last_21 (by decide) ?_
      exact y_iret rfl rfl dX9_last_22
    · refine y_if_ne_t dX9_last_18 (t := 23) rfl h4 ?_
      refine y_aload_n dX9_last_23 rfl rfl ?_
      refine y_getR fX9_62 (lcO_0 hC) rfl (lcR_0_8 hC) dX9_last_24 ?_
      refine y_iload_n dX9_last_27 rfl rfl ?_
      refine y_aload_n dX9_last_28 rfl rfl ?_
      refine y_getR fX9_21 (lcO_0 hC) rfl (lcR_0_1 hC) dX9_last_29 ?_
      refine y_getR fX9_143 (lcO_13 hC) rfl (lcR_13_8 hC) dX9_last_32 ?_
      refine y_iload_n dX9_last_35 rfl rfl ?_
      refine yk_iaload (lcA_18 hC) (N := 6) rfl (j := p1.toNat) rfl dX9_last_36 ?_
      refine y_cvIS (qX0_findSets hC p2 (σ 18 p1.toNat) σ) kX9_325 rfl (lcO_73 hC) rfl (by decide) rfl (Nat.le_of_ble_eq_true rfl) dX9_last_37 (fun r5 σ6 => ?_)
      refine y_pop dX9_last_40 (fun _ => rfl) ?_
      refine y_aload_n dX9_last_41 rfl rfl ?_
      refine y_getR fX9_62 (lcO_0 hC) rfl (lcR_0_8 hC) dX9_last_42 ?_
      refine y_cvI (qX0_lastOnes hC σ6) kX9_334 rfl (lcO_73 hC) rfl (by decide) rfl (Nat.le_of_ble_eq_true rfl) dX9_last_45 (fun r7 => ?_)
      exact y_iret rfl rfl dX9_last_48
theorem qX9_last {K : Kt} (hC : cLay K) (p1 : Int) (p2 : Int) (σ : Sg) : Cc MX9_last K [aR 0, aI p1, aI p2] σ (emIS K) (vX9_last K p1 p2 σ) := cc_of plX9 (Nat.le_of_ble_eq_true rfl) (fun o _ => ⟨Nat.le_refl _, Nat.le_refl _⟩) (fun Γ => tX9_last hC p1 p2 σ)
noncomputable def vX9_nest (K : Kt) (p1 : Int) (σ : Sg) : Option (Int × Sg) := bd2 (vX0_longestNest K p1 σ) (fun r1 σ2 => some (r1, σ2))
set_option maxRecDepth 100000 in
set_option maxHeartbeats 4000000 in
theorem tX9_nest {Γ : Gx} {K : Kt} (hC : cLay K) (p1 : Int) (σ : Sg) : Y Γ MX9_nest K (emIS K) K 0 [some (aR 0), some (aI p1)] [] σ (vX9_nest K p1 σ) := by
  unfold vX9_nest
  refine y_aload_n dX9_nest_0 rfl rfl ?_
  refine y_getR fX9_62 (lcO_0 hC) rfl (lcR_0_8 hC) dX9_nest_1 ?_
  refine y_iload_n dX9_nest_4 rfl rfl ?_
  refine y_cvIS (qX0_longestNest hC p1 σ) kX9_337 rfl (lcO_73 hC) rfl (by decide) rfl (Nat.le_of_ble_eq_true rfl) dX9_nest_5 (fun r1 σ2 => ?_)
  exact y_iret rfl rfl dX9_nest_8
theorem qX9_nest {K : Kt} (hC : cLay K) (p1 : Int) (σ : Sg) : Cc MX9_nest K [aR 0, aI p1] σ (emIS K) (vX9_nest K p1 σ) := cc_of plX9 (Nat.le_of_ble_eq_true rfl) (fun o _ => ⟨Nat.le_refl _, Nat.le_refl _⟩) (fun Γ => tX9_nest hC p1 σ)
noncomputable def vX9_all (K : Kt) (p1 : Int) (σ : Sg) : Option (Int) := (vX9_within p1 0 1 σ).bind (fun r1 => if r1 = 0 then (some (-1)) else ((vX0_fewestReaders K σ).bind (fun r3 => if p1 = 0 then ((vJ6_bitCount_0f7a4 r3 σ).bind (fun r5 => some r5)) else (some r3))))
set_option maxRecDepth 100000 in
set_option maxHeartbeats 4000000 in
theorem tX9_all {Γ : Gx} {K : Kt} (hC : cLay K) (p1 : Int) (σ : Sg) : Y Γ MX9_all K (emI K σ) K 0 [some (aR 0), some (aI p1), none] [] σ (vX9_all K p1 σ) := by
  unfold vX9_all
  refine y_iload_n dX9_all_0 rfl rfl ?_
  refine y_iconst dX9_all_1 (by decide) ?_
  refine y_iconst dX9_all_2 (by decide) ?_
  refine y_csI (qX9_within (K := K) p1 0 1 σ) kX9_96 rfl (by decide) rfl (Nat.le_of_ble_eq_true rfl) dX9_all_3 (fun r1 => ?_)
  refine y_ite (fun h2 => ?_) (fun h2 => ?_)
  · refine y_if_ne_f dX9_all_6 (t := 11) rfl h2 ?_
    refine y_iconst dX9_all_9 (by decide) ?_
    exact y_iret rfl rfl dX9_all_10
  · refine y_if_ne_t dX9_all_6 (t := 11) rfl h2 ?_
    refine y_aload_n dX9_all_11 rfl rfl ?_
    refine y_getR fX9_62 (lcO_0 hC) rfl (lcR_0_8 hC) dX9_all_12 ?_
    refine y_cvI (qX0_fewestReaders hC σ) kX9_340 rfl (lcO_73 hC) rfl (by decide) rfl (Nat.le_of_ble_eq_true rfl) dX9_all_15 (fun r3 => ?_)
    refine y_istore_n dX9_all_18 rfl (Nat.le_of_ble_eq_true rfl) (L' := [some (aR 0), some (aI p1), some (aI r3)]) rfl ?_
    refine y_iload_n dX9_all_19 rfl rfl ?_
    refine y_ite (fun h4 => ?_) (fun h4 => ?_)
    · refine y_if_ne_f dX9_all_20 (t := 30) rfl h4 ?_
      refine y_iload_n dX9_all_23 rfl rfl ?_
      refine y_csI (qJ6_bitCount_0f7a4 (K := K) r3 σ) kX9_343 rfl (by decide) rfl (Nat.le_of_ble_eq_true rfl) dX9_all_24 (fun r5 => ?_)
      refine y_goto dX9_all_27 (t := 31) rfl ?_
      exact y_iret rfl rfl dX9_all_31
    · refine y_if_ne_t dX9_all_20 (t := 30) rfl h4 ?_
      refine y_iload_n dX9_all_30 rfl rfl ?_
      exact y_iret rfl rfl dX9_all_31
theorem qX9_all {K : Kt} (hC : cLay K) (p1 : Int) (σ : Sg) : Cc MX9_all K [aR 0, aI p1] σ (emI K σ) (vX9_all K p1 σ) := cc_of plX9 (Nat.le_of_ble_eq_true rfl) (fun o _ => ⟨Nat.le_refl _, Nat.le_refl _⟩) (fun Γ => tX9_all hC p1 σ)
noncomputable def vX9_owed_22 (K : Kt) : Nat → Int → Int → Int → Sg → Option (Int × Sg)
  | 0, _, _, _, _ => none
  | f + 1, x1, x2, x3, σ => if x3 < (σ 13 2) then (ck (0 ≤ x3 ∧ x3 < 6) (nm (σ 21 x3.toNat) (fun z2 => if z2 = (-1) then (ck (in32 (x3 + 1)) (vX9_owed_22 K f x1 x2 (x3 + 1) σ)) else (ck (0 ≤ x3 ∧ x3 < 6) (bd2 (vX1_asked K 13 0 x1 z2 x3 (σ 18 x3.toNat) σ) (fun r4 σ5 => (vX1_dues K 13 x3 r4 σ5).bind (fun r6 => ck (in32 (x2 + r6)) (nm (x2 + r6) (fun z7 => ck (in32 (x3 + 1)) (vX9_owed_22 K f x1 z7 (x3 + 1) σ5)))))))))) else (some (x2, σ))
set_option maxRecDepth 100000 in
set_option maxHeartbeats 4000000 in
theorem tX9_owed_22 {Γ : Gx} {K : Kt} (hC : cLay K) : ∀ (f : Nat) (x1 : Int) (x2 : Int) (x3 : Int) (σ : Sg), Y Γ MX9_owed K (emIS K) K 22 [some (aR 0), some (aI x1), some (aI x2), some (aI x3), none] [] σ (vX9_owed_22 K f x1 x2 x3 σ) := by
  intro f
  induction f with
  | zero => intro x1 x2 x3 σ; exact y_none
  | succ f ih =>
    intro x1 x2 x3 σ
    rw [vX9_owed_22]
    refine y_iload_n dX9_owed_22 rfl rfl ?_
    refine y_aload_n dX9_owed_23 rfl rfl ?_
    refine y_getR fX9_21 (lcO_0 hC) rfl (lcR_0_1 hC) dX9_owed_24 ?_
    refine y_getI fX9_133 (lcO_13 hC) rfl dX9_owed_27 ?_
    refine y_ite (fun h1 => ?_) (fun h1 => ?_)
    · refine y_icmp_ge_f dX9_owed_30 (t := 88) rfl h1 ?_
      refine y_aload_n dX9_owed_33 rfl rfl ?_
      refine y_getR fX9_21 (lcO_0 hC) rfl (lcR_0_1 hC) dX9_owed_34 ?_
      refine y_getR fX9_152 (lcO_13 hC) rfl (lcR_13_11 hC) dX9_owed_37 ?_
      refine y_iload_n dX9_owed_40 rfl rfl ?_
      refine yk_iaload (lcA_21 hC) (N := 6) rfl (j := x3.toNat) rfl dX9_owed_41 ?_
      refine yn_istore dX9_owed_42 (Nat.le_of_ble_eq_true rfl) (L' := fun z2 => [some (aR 0), some (aI x1), some (aI x2), some (aI x3), some (aI z2)]) (fun _ => rfl) (fun z2 => ?_)
      refine y_iload dX9_owed_44 rfl ?_
      refine y_iconst dX9_owed_46 (by decide) ?_
      refine y_ite (fun h3 => ?_) (fun h3 => ?_)
      · refine y_icmp_eq_t dX9_owed_47 (t := 82) rfl h3 ?_
        refine yk_iinc dX9_owed_82 rfl (L' := [some (aR 0), some (aI x1), some (aI x2), some (aI (x3 + 1)), some (aI z2)]) rfl ?_
        refine y_goto dX9_owed_85 (t := 22) rfl ?_
        refine y_fg [true, true, true, true, false] (L' := [some (aR 0), some (aI x1), some (aI x2), some (aI (x3 + 1)), none]) rfl ?_
        exact ih x1 x2 (x3 + 1) σ
      · refine y_icmp_eq_f dX9_owed_47 (t := 82) rfl h3 ?_
        refine y_iload_n dX9_owed_50 rfl rfl ?_
        refine y_aload_n dX9_owed_51 rfl rfl ?_
        refine y_getR fX9_21 (lcO_0 hC) rfl (lcR_0_1 hC) dX9_owed_52 ?_
        refine y_iload_n dX9_owed_55 rfl rfl ?_
        refine y_aload_n dX9_owed_56 rfl rfl ?_
        refine y_getR fX9_21 (lcO_0 hC) rfl (lcR_0_1 hC) dX9_owed_57 ?_
        refine y_iconst dX9_owed_60 (by decide) ?_
        refine y_iload_n dX9_owed_61 rfl rfl ?_
        refine y_iload dX9_owed_62 rfl ?_
        refine y_iload_n dX9_owed_64 rfl rfl ?_
        refine y_aload_n dX9_owed_65 rfl rfl ?_
        refine y_getR fX9_21 (lcO_0 hC) rfl (lcR_0_1 hC) dX9_owed_66 ?_
        refine y_getR fX9_143 (lcO_13 hC) rfl (lcR_13_8 hC) dX9_owed_69 ?_
        refine y_iload_n dX9_owed_72 rfl rfl ?_
        refine yk_iaload (lcA_18 hC) (N := 6) rfl (j := x3.toNat) rfl dX9_owed_73 ?_
        refine y_cvIS (qX1_asked (hPre_13 hC) 0 x1 z2 x3 (σ 18 x3.toNat) σ) kX9_164 rfl (lcO_13 hC) rfl (by decide) rfl (Nat.le_of_ble_eq_true rfl) dX9_owed_74 (fun r4 σ5 => ?_)
        refine y_cvI (qX1_dues (hPre_13 hC) x3 r4 σ5) kX9_348 rfl (lcO_13 hC) rfl (by decide) rfl (Nat.le_of_ble_eq_true rfl) dX9_owed_77 (fun r6 => ?_)
        refine yk_iadd dX9_owed_80 ?_
        refine yn_istore_n dX9_owed_81 rfl (Nat.le_of_ble_eq_true rfl) (L' := fun z7 => [some (aR 0), some (aI x1), some (aI z7), some (aI x3), some (aI z2)]) (fun _ => rfl) (fun z7 => ?_)
        refine yk_iinc dX9_owed_82 rfl (L' := [some (aR 0), some (aI x1), some (aI z7), some (aI (x3 + 1)), some (aI z2)]) rfl ?_
        refine y_goto dX9_owed_85 (t := 22) rfl ?_
        refine y_fg [true, true, true, true, false] (L' := [some (aR 0), some (aI x1), some (aI z7), some (aI (x3 + 1)), none]) rfl ?_
        exact ih x1 z7 (x3 + 1) σ5
    · refine y_icmp_ge_t dX9_owed_30 (t := 88) rfl h1 ?_
      refine y_iload_n dX9_owed_88 rfl rfl ?_
      exact y_iret rfl rfl dX9_owed_89
noncomputable def vX9_owed (K : Kt) (p1 : Int) (σ : Sg) : Option (Int × Sg) := if p1 = (-1) then (vX9_owed_22 K FU p1 0 0 σ) else ((vX3_has K p1 σ).bind (fun r2 => if r2 = 0 then (some ((-1), σ)) else (vX9_owed_22 K FU p1 0 0 σ)))
set_option maxRecDepth 100000 in
set_option maxHeartbeats 4000000 in
theorem tX9_owed {Γ : Gx} {K : Kt} (hC : cLay K) (p1 : Int) (σ : Sg) : Y Γ MX9_owed K (emIS K) K 0 [some (aR 0), some (aI p1), none, none, none] [] σ (vX9_owed K p1 σ) := by
  unfold vX9_owed
  refine y_iload_n dX9_owed_0 rfl rfl ?_
  refine y_iconst dX9_owed_1 (by decide) ?_
  refine y_ite (fun h1 => ?_) (fun h1 => ?_)
  · refine y_icmp_eq_t dX9_owed_2 (t := 18) rfl h1 ?_
    refine y_iconst dX9_owed_18 (by decide) ?_
    refine y_istore_n dX9_owed_19 rfl (Nat.le_of_ble_eq_true rfl) (L' := [some (aR 0), some (aI p1), some (aI 0), none, none]) rfl ?_
    refine y_iconst dX9_owed_20 (by decide) ?_
    refine y_istore_n dX9_owed_21 rfl (Nat.le_of_ble_eq_true rfl) (L' := [some (aR 0), some (aI p1), some (aI 0), some (aI 0), none]) rfl ?_
    exact tX9_owed_22 hC FU p1 0 0 σ
  · refine y_icmp_eq_f dX9_owed_2 (t := 18) rfl h1 ?_
    refine y_aload_n dX9_owed_5 rfl rfl ?_
    refine y_getR fX9_12 (lcO_0 hC) rfl (lcR_0_0 hC) dX9_owed_6 ?_
    refine y_iload_n dX9_owed_9 rfl rfl ?_
    refine y_cvI (qX3_has hC p1 σ) kX9_301 rfl (lcO_1 hC) rfl (by decide) rfl (Nat.le_of_ble_eq_true rfl) dX9_owed_10 (fun r2 => ?_)
    refine y_ite (fun h3 => ?_) (fun h3 => ?_)
    · refine y_if_ne_f dX9_owed_13 (t := 18) rfl h3 ?_
      refine y_iconst dX9_owed_16 (by decide) ?_
      exact y_iret rfl rfl dX9_owed_17
    · refine y_if_ne_t dX9_owed_13 (t := 18) rfl h3 ?_
      refine y_iconst dX9_owed_18 (by decide) ?_
      refine y_istore_n dX9_owed_19 rfl (Nat.le_of_ble_eq_true rfl) (L' := [some (aR 0), some (aI p1), some (aI 0), none, none]) rfl ?_
      refine y_iconst dX9_owed_20 (by decide) ?_
      refine y_istore_n dX9_owed_21 rfl (Nat.le_of_ble_eq_true rfl) (L' := [some (aR 0), some (aI p1), some (aI 0), some (aI 0), none]) rfl ?_
      exact tX9_owed_22 hC FU p1 0 0 σ
theorem qX9_owed {K : Kt} (hC : cLay K) (p1 : Int) (σ : Sg) : Cc MX9_owed K [aR 0, aI p1] σ (emIS K) (vX9_owed K p1 σ) := cc_of plX9 (Nat.le_of_ble_eq_true rfl) (fun o _ => ⟨Nat.le_refl _, Nat.le_refl _⟩) (fun Γ => tX9_owed hC p1 σ)
noncomputable def vX9_whole (K : Kt) (p1 : Int) (p2 : Int) (σ : Sg) : Option (Int × Sg) := (vX9_within p1 1 20 σ).bind (fun r1 => if r1 = 0 then (some ((-1), σ)) else ((vX9_within p2 0 99 σ).bind (fun r3 => if r3 = 0 then (some ((-1), σ)) else (bd2 (vX0_chanceWhole K p1 p2 σ) (fun r5 σ6 => some (r5, σ6))))))
set_option maxRecDepth 100000 in
set_option maxHeartbeats 4000000 in
theorem tX9_whole {Γ : Gx} {K : Kt} (hC : cLay K) (p1 : Int) (p2 : Int) (σ : Sg) : Y Γ MX9_whole K (emLS K) K 0 [some (aR 0), some (aI p1), some (aI p2)] [] σ (vX9_whole K p1 p2 σ) := by
  unfold vX9_whole
  refine y_iload_n dX9_whole_0 rfl rfl ?_
  refine y_iconst dX9_whole_1 (by decide) ?_
  refine y_bipush dX9_whole_2 (by decide) (by decide) ?_
  refine y_csI (qX9_within (K := K) p1 1 20 σ) kX9_96 rfl (by decide) rfl (Nat.le_of_ble_eq_true rfl) dX9_whole_4 (fun r1 => ?_)
  refine y_ite (fun h2 => ?_) (fun h2 => ?_)
  · refine y_if_eq_t dX9_whole_7 (t := 20) rfl h2 ?_
    refine y_ldc2 (-1) wX9_c351 dX9_whole_20 (by decide) (by decide) ?_
    exact y_lret rfl rfl dX9_whole_23
  · refine y_if_eq_f dX9_whole_7 (t := 20) rfl h2 ?_
    refine y_iload_n dX9_whole_10 rfl rfl ?_
    refine y_iconst dX9_whole_11 (by decide) ?_
    refine y_bipush dX9_whole_12 (by decide) (by decide) ?_
    refine y_csI (qX9_within (K := K) p2 0 99 σ) kX9_96 rfl (by decide) rfl (Nat.le_of_ble_eq_true rfl) dX9_whole_14 (fun r3 => ?_)
    refine y_ite (fun h4 => ?_) (fun h4 => ?_)
    · refine y_if_ne_f dX9_whole_17 (t := 24) rfl h4 ?_
      refine y_ldc2 (-1) wX9_c351 dX9_whole_20 (by decide) (by decide) ?_
      exact y_lret rfl rfl dX9_whole_23
    · refine y_if_ne_t dX9_whole_17 (t := 24) rfl h4 ?_
      refine y_aload_n dX9_whole_24 rfl rfl ?_
      refine y_getR fX9_62 (lcO_0 hC) rfl (lcR_0_8 hC) dX9_whole_25 ?_
      refine y_iload_n dX9_whole_28 rfl rfl ?_
      refine y_iload_n dX9_whole_29 rfl rfl ?_
      refine y_cvLS (qX0_chanceWhole hC p1 p2 σ) kX9_353 rfl (lcO_73 hC) rfl (by decide) rfl (Nat.le_of_ble_eq_true rfl) dX9_whole_30 (fun r5 σ6 => ?_)
      exact y_lret rfl rfl dX9_whole_33
theorem qX9_whole {K : Kt} (hC : cLay K) (p1 : Int) (p2 : Int) (σ : Sg) : Cc MX9_whole K [aR 0, aI p1, aI p2] σ (emLS K) (vX9_whole K p1 p2 σ) := cc_of plX9 (Nat.le_of_ble_eq_true rfl) (fun o _ => ⟨Nat.le_refl _, Nat.le_refl _⟩) (fun Γ => tX9_whole hC p1 p2 σ)
noncomputable def vX9_nextDrawn (p1 : Int) (σ : Sg) : Option (Int) := ck (in32 (p1 * 1103)) (ck (in32 ((p1 * 1103) + 12345)) (ck (¬ (1000003 : Int) = 0 ∧ in32 (Int.tmod ((p1 * 1103) + 12345) 1000003)) (some (Int.tmod ((p1 * 1103) + 12345) 1000003))))
set_option maxRecDepth 100000 in
set_option maxHeartbeats 4000000 in
theorem tX9_nextDrawn {Γ : Gx} {K : Kt} (p1 : Int) (σ : Sg) : Y Γ MX9_nextDrawn K (emI K σ) K 0 [some (aI p1)] [] σ (vX9_nextDrawn p1 σ) := by
  unfold vX9_nextDrawn
  refine y_iload_n dX9_nextDrawn_0 rfl rfl ?_
  refine y_sipush dX9_nextDrawn_1 (by decide) (by decide) ?_
  refine yk_imul dX9_nextDrawn_4 ?_
  refine y_sipush dX9_nextDrawn_5 (by decide) (by decide) ?_
  refine yk_iadd dX9_nextDrawn_8 ?_
  refine y_ldcw 1000003 wX9_c364 dX9_nextDrawn_9 (by decide) (by decide) ?_
  refine yk_irem dX9_nextDrawn_12 ?_
  exact y_iret rfl rfl dX9_nextDrawn_13
theorem qX9_nextDrawn {K : Kt} (p1 : Int) (σ : Sg) : Cc MX9_nextDrawn K [aI p1] σ (emI K σ) (vX9_nextDrawn p1 σ) := cc_of plX9 (Nat.le_of_ble_eq_true rfl) (fun o _ => ⟨Nat.le_refl _, Nat.le_refl _⟩) (fun Γ => tX9_nextDrawn p1 σ)
noncomputable def vX9_paperMove_26 (K : Kt) (x1 : Int) (x2 : Int) (σ : Sg) : Option (Int × Sg) := bd2 (vX1_lendRefusal K 47 x1 x2 σ) (fun r1 σ2 => if r1 = 0 then (bd2 (vX1_lendOut K 47 x1 x2 σ2) (fun r4 σ5 => some (r4, σ5))) else (some (0, σ2)))
set_option maxRecDepth 100000 in
set_option maxHeartbeats 4000000 in
theorem tX9_paperMove_26 {Γ : Gx} {K : Kt} (hC : cLay K) (x1 : Int) (x2 : Int) (σ : Sg) : Y Γ MX9_paperMove K (emIS K) K 26 [some (aR 0), some (aI x1), some (aI x2), none] [] σ (vX9_paperMove_26 K x1 x2 σ) := by
  unfold vX9_paperMove_26
  refine y_aload_n dX9_paperMove_26 rfl rfl ?_
  refine y_getR fX9_38 (lcO_0 hC) rfl (lcR_0_5 hC) dX9_paperMove_27 ?_
  refine y_iload_n dX9_paperMove_30 rfl rfl ?_
  refine y_iload_n dX9_paperMove_31 rfl rfl ?_
  refine y_cvIS (qX1_lendRefusal (hPre_47 hC) x1 x2 σ) kX9_269 rfl (lcO_47 hC) rfl (by decide) rfl (Nat.le_of_ble_eq_true rfl) dX9_paperMove_32 (fun r1 σ2 => ?_)
  refine y_ite (fun h3 => ?_) (fun h3 => ?_)
  · refine y_if_ne_f dX9_paperMove_35 (t := 50) rfl h3 ?_
    refine y_aload_n dX9_paperMove_38 rfl rfl ?_
    refine y_getR fX9_38 (lcO_0 hC) rfl (lcR_0_5 hC) dX9_paperMove_39 ?_
    refine y_iload_n dX9_paperMove_42 rfl rfl ?_
    refine y_iload_n dX9_paperMove_43 rfl rfl ?_
    refine y_cvIS (qX1_lendOut (hPre_47 hC) x1 x2 σ2) kX9_286 rfl (lcO_47 hC) rfl (by decide) rfl (Nat.le_of_ble_eq_true rfl) dX9_paperMove_44 (fun r4 σ5 => ?_)
    refine y_goto dX9_paperMove_47 (t := 51) rfl ?_
    exact y_iret rfl rfl dX9_paperMove_51
  · refine y_if_ne_t dX9_paperMove_35 (t := 50) rfl h3 ?_
    refine y_iconst dX9_paperMove_50 (by decide) ?_
    exact y_iret rfl rfl dX9_paperMove_51
noncomputable def vX9_paperMove (K : Kt) (p1 : Int) (p2 : Int) (p3 : Int) (σ : Sg) : Option (Int × Sg) := if p3 = 0 then (ck (0 ≤ p1 ∧ p1 < 6) (if (σ 55 p1.toNat) = (-1) then (vX9_paperMove_26 K p1 p2 σ) else (bd2 (vX1_leave K 47 p1 σ) (fun r3 σ4 => some (r3, σ4))))) else (vX9_paperMove_26 K p1 p2 σ)
set_option maxRecDepth 100000 in
set_option maxHeartbeats 4000000 in
theorem tX9_paperMove {Γ : Gx} {K : Kt} (hC : cLay K) (p1 : Int) (p2 : Int) (p3 : Int) (σ : Sg) : Y Γ MX9_paperMove K (emIS K) K 0 [some (aR 0), some (aI p1), some (aI p2), some (aI p3)] [] σ (vX9_paperMove K p1 p2 p3 σ) := by
  unfold vX9_paperMove
  refine y_iload_n dX9_paperMove_0 rfl rfl ?_
  refine y_ite (fun h1 => ?_) (fun h1 => ?_)
  · refine y_if_ne_f dX9_paperMove_1 (t := 26) rfl h1 ?_
    refine y_aload_n dX9_paperMove_4 rfl rfl ?_
    refine y_getR fX9_38 (lcO_0 hC) rfl (lcR_0_5 hC) dX9_paperMove_5 ?_
    refine y_getR fX9_152 (lcO_47 hC) rfl (lcR_47_11 hC) dX9_paperMove_8 ?_
    refine y_iload_n dX9_paperMove_11 rfl rfl ?_
    refine yk_iaload (lcA_55 hC) (N := 6) rfl (j := p1.toNat) rfl dX9_paperMove_12 ?_
    refine y_iconst dX9_paperMove_13 (by decide) ?_
    refine y_ite (fun h2 => ?_) (fun h2 => ?_)
    · refine y_icmp_eq_t dX9_paperMove_14 (t := 26) rfl h2 ?_
      refine y_fg [true, true, true, false] (L' := [some (aR 0), some (aI p1), some (aI p2), none]) rfl ?_
      exact tX9_paperMove_26 hC p1 p2 σ
    · refine y_icmp_eq_f dX9_paperMove_14 (t := 26) rfl h2 ?_
      refine y_aload_n dX9_paperMove_17 rfl rfl ?_
      refine y_getR fX9_38 (lcO_0 hC) rfl (lcR_0_5 hC) dX9_paperMove_18 ?_
      refine y_iload_n dX9_paperMove_21 rfl rfl ?_
      refine y_cvIS (qX1_leave (hPre_47 hC) p1 σ) kX9_289 rfl (lcO_47 hC) rfl (by decide) rfl (Nat.le_of_ble_eq_true rfl) dX9_paperMove_22 (fun r3 σ4 => ?_)
      exact y_iret rfl rfl dX9_paperMove_25
  · refine y_if_ne_t dX9_paperMove_1 (t := 26) rfl h1 ?_
    refine y_fg [true, true, true, false] (L' := [some (aR 0), some (aI p1), some (aI p2), none]) rfl ?_
    exact tX9_paperMove_26 hC p1 p2 σ
theorem qX9_paperMove {K : Kt} (hC : cLay K) (p1 : Int) (p2 : Int) (p3 : Int) (σ : Sg) : Cc MX9_paperMove K [aR 0, aI p1, aI p2, aI p3] σ (emIS K) (vX9_paperMove K p1 p2 p3 σ) := cc_of plX9 (Nat.le_of_ble_eq_true rfl) (fun o _ => ⟨Nat.le_refl _, Nat.le_refl _⟩) (fun Γ => tX9_paperMove hC p1 p2 p3 σ)
noncomputable def vX9_years_21 (K : Kt) (σ : Sg) : Option (Int × Sg) := bd2 (vX9_refuse K (-1) σ) (fun r1 σ2 => some (r1, σ2))
set_option maxRecDepth 100000 in
set_option maxHeartbeats 4000000 in
theorem tX9_years_21 {Γ : Gx} {K : Kt} (hC : cLay K) (σ : Sg) : Y Γ MX9_years K (emIS K) K 21 [some (aR 0), none, none, none, none, none, none, none, none, none] [] σ (vX9_years_21 K σ) := by
  unfold vX9_years_21
  refine y_aload_n dX9_years_21 rfl rfl ?_
  refine y_iconst dX9_years_22 (by decide) ?_
  refine y_cvIS (qX9_refuse hC (-1) σ) kX9_89 rfl (lcO_0 hC) rfl (by decide) rfl (Nat.le_of_ble_eq_true rfl) dX9_years_23 (fun r1 σ2 => ?_)
  exact y_iret rfl rfl dX9_years_26
noncomputable def vX9_years_53 (K : Kt) (σ : Sg) : Option (Int × Sg) := bd2 (vX9_refuse K (-3) σ) (fun r1 σ2 => some (r1, σ2))
set_option maxRecDepth 100000 in
set_option maxHeartbeats 4000000 in
theorem tX9_years_53 {Γ : Gx} {K : Kt} (hC : cLay K) (σ : Sg) : Y Γ MX9_years K (emIS K) K 53 [some (aR 0), none, none, none, none, none, none, none, none, none] [] σ (vX9_years_53 K σ) := by
  unfold vX9_years_53
  refine y_aload_n dX9_years_53 rfl rfl ?_
  refine y_bipush dX9_years_54 (by decide) (by decide) ?_
  refine y_cvIS (qX9_refuse hC (-3) σ) kX9_89 rfl (lcO_0 hC) rfl (by decide) rfl (Nat.le_of_ble_eq_true rfl) dX9_years_56 (fun r1 σ2 => ?_)
  exact y_iret rfl rfl dX9_years_59
noncomputable def vX9_years_166 (K : Kt) (x6 : Int) (σ : Sg) : Option (Int × Sg) := bd2 (vX9_grant K x6 σ) (fun r1 σ2 => some (r1, σ2))
set_option maxRecDepth 100000 in
set_option maxHeartbeats 4000000 in
theorem tX9_years_166 {Γ : Gx} {K : Kt} (hC : cLay K) (x6 : Int) (σ : Sg) : Y Γ MX9_years K (emIS K) K 166 [some (aR 0), none, none, none, none, none, some (aI x6), none, none, none] [] σ (vX9_years_166 K x6 σ) := by
  unfold vX9_years_166
  refine y_aload_n dX9_years_166 rfl rfl ?_
  refine y_iload dX9_years_167 rfl ?_
  refine y_cvIS (qX9_grant hC x6 σ) kX9_93 rfl (lcO_0 hC) rfl (by decide) rfl (Nat.le_of_ble_eq_true rfl) dX9_years_169 (fun r1 σ2 => ?_)
  exact y_iret rfl rfl dX9_years_172
noncomputable def vX9_years_80 (K : Kt) : Nat → Int → Int → Int → Int → Int → Int → Sg → Option (Int × Sg)
  | 0, _, _, _, _, _, _, _ => none
  | f + 1, x2, x3, x4, x5, x6, x7, σ => if x7 < x2 then (if (σ 60 0) < 999 then ((vX9_nextDrawn x5 σ).bind (fun r3 => ck (¬ x4 = 0 ∧ in32 (Int.tmod r3 x4)) (nm (Int.tmod r3 x4) (fun z4 => (vX9_nextDrawn r3 σ).bind (fun r5 => ck (¬ x3 = 0 ∧ in32 (Int.tmod r5 x3)) (nm (Int.tmod r5 x3) (fun z6 => (vX9_nextDrawn r5 σ).bind (fun r7 => ck (¬ (3 : Int) = 0 ∧ in32 (Int.tmod r7 3)) (bd2 (vX9_paperMove K z4 z6 (Int.tmod r7 3) σ) (fun r8 σ9 => ck (in32 (x6 + r8)) (nm (x6 + r8) (fun z10 => bd2 (vX1_passWeek K 47 σ9) (fun r11 σ12 => ck (in32 (x7 + 1)) (vX9_years_80 K f x2 x3 x4 r7 z10 (x7 + 1) σ12)))))))))))))) else (vX9_years_166 K x6 σ)) else (vX9_years_166 K x6 σ)
set_option maxRecDepth 100000 in
set_option maxHeartbeats 4000000 in
theorem tX9_years_80 {Γ : Gx} {K : Kt} (hC : cLay K) : ∀ (f : Nat) (x2 : Int) (x3 : Int) (x4 : Int) (x5 : Int) (x6 : Int) (x7 : Int) (σ : Sg), Y Γ MX9_years K (emIS K) K 80 [some (aR 0), none, some (aI x2), some (aI x3), some (aI x4), some (aI x5), some (aI x6), some (aI x7), none, none] [] σ (vX9_years_80 K f x2 x3 x4 x5 x6 x7 σ) := by
  intro f
  induction f with
  | zero => intro x2 x3 x4 x5 x6 x7 σ; exact y_none
  | succ f ih =>
    intro x2 x3 x4 x5 x6 x7 σ
    rw [vX9_years_80]
    refine y_iload dX9_years_80 rfl ?_
    refine y_iload_n dX9_years_82 rfl rfl ?_
    refine y_ite (fun h1 => ?_) (fun h1 => ?_)
    · refine y_icmp_ge_f dX9_years_83 (t := 166) rfl h1 ?_
      refine y_aload_n dX9_years_86 rfl rfl ?_
      refine y_getR fX9_38 (lcO_0 hC) rfl (lcR_0_5 hC) dX9_years_87 ?_
      refine y_getR fX9_181 (lcO_47 hC) rfl (lcR_47_16 hC) dX9_years_90 ?_
      refine y_iconst dX9_years_93 (by decide) ?_
      refine yl_iaload (lcA_60 hC) (by decide) (j := 0) rfl dX9_years_94 ?_
      refine y_sipush dX9_years_95 (by decide) (by decide) ?_
      refine y_ite (fun h2 => ?_) (fun h2 => ?_)
      · refine y_icmp_ge_f dX9_years_98 (t := 166) rfl h2 ?_
        refine y_iload dX9_years_101 rfl ?_
        refine y_csI (qX9_nextDrawn (K := K) x5 σ) kX9_358 rfl (by decide) rfl (Nat.le_of_ble_eq_true rfl) dX9_years_103 (fun r3 => ?_)
        refine y_istore dX9_years_106 (Nat.le_of_ble_eq_true rfl) (L' := [some (aR 0), none, some (aI x2), some (aI x3), some (aI x4), some (aI r3), some (aI x6), some (aI x7), none, none]) rfl ?_
        refine y_iload dX9_years_108 rfl ?_
        refine y_iload dX9_years_110 rfl ?_
        refine yk_irem dX9_years_112 ?_
        refine yn_istore dX9_years_113 (Nat.le_of_ble_eq_true rfl) (L' := fun z4 => [some (aR 0), none, some (aI x2), some (aI x3), some (aI x4), some (aI r3), some (aI x6), some (aI x7), some (aI z4), none]) (fun _ => rfl) (fun z4 => ?_)
        refine y_iload dX9_years_115 rfl ?_
        refine y_csI (qX9_nextDrawn (K := K) r3 σ) kX9_358 rfl (by decide) rfl (Nat.le_of_ble_eq_true rfl) dX9_years_117 (fun r5 => ?_)
        refine y_istore dX9_years_120 (Nat.le_of_ble_eq_true rfl) (L' := [some (aR 0), none, some (aI x2), some (aI x3), some (aI x4), some (aI r5), some (aI x6), some (aI x7), some (aI z4), none]) rfl ?_
        refine y_iload dX9_years_122 rfl ?_
        refine y_iload_n dX9_years_124 rfl rfl ?_
        refine yk_irem dX9_years_125 ?_
        refine yn_istore dX9_years_126 (Nat.le_of_ble_eq_true rfl) (L' := fun z6 => [some (aR 0), none, some (aI x2), some (aI x3), some (aI x4), some (aI r5), some (aI x6), some (aI x7), some (aI z4), some (aI z6)]) (fun _ => rfl) (fun z6 => ?_)
        refine y_iload dX9_years_128 rfl ?_
        refine y_csI (qX9_nextDrawn (K := K) r5 σ) kX9_358 rfl (by decide) rfl (Nat.le_of_ble_eq_true rfl) dX9_years_130 (fun r7 => ?_)
        refine y_istore dX9_years_133 (Nat.le_of_ble_eq_true rfl) (L' := [some (aR 0), none, some (aI x2), some (aI x3), some (aI x4), some (aI r7), some (aI x6), some (aI x7), some (aI z4), some (aI z6)]) rfl ?_
        refine y_iload dX9_years_135 rfl ?_
        refine y_aload_n dX9_years_137 rfl rfl ?_
        refine y_iload dX9_years_138 rfl ?_
        refine y_iload dX9_years_140 rfl ?_
        refine y_iload dX9_years_142 rfl ?_
        refine y_iconst dX9_years_144 (by decide) ?_
        refine yk_irem dX9_years_145 ?_
        refine y_cvIS (qX9_paperMove hC z4 z6 (Int.tmod r7 3) σ) kX9_361 rfl (lcO_0 hC) rfl (by decide) rfl (Nat.le_of_ble_eq_true rfl) dX9_years_146 (fun r8 σ9 => ?_)
        refine yk_iadd dX9_years_149 ?_
        refine yn_istore dX9_years_150 (Nat.le_of_ble_eq_true rfl) (L' := fun z10 => [some (aR 0), none, some (aI x2), some (aI x3), some (aI x4), some (aI r7), some (aI z10), some (aI x7), some (aI z4), some (aI z6)]) (fun _ => rfl) (fun z10 => ?_)
        refine y_aload_n dX9_years_152 rfl rfl ?_
        refine y_getR fX9_38 (lcO_0 hC) rfl (lcR_0_5 hC) dX9_years_153 ?_
        refine y_cvIS (qX1_passWeek (hPre_47 hC) σ9) kX9_295 rfl (lcO_47 hC) rfl (by decide) rfl (Nat.le_of_ble_eq_true rfl) dX9_years_156 (fun r11 σ12 => ?_)
        refine y_pop dX9_years_159 (fun _ => rfl) ?_
        refine yk_iinc dX9_years_160 rfl (L' := [some (aR 0), none, some (aI x2), some (aI x3), some (aI x4), some (aI r7), some (aI z10), some (aI (x7 + 1)), some (aI z4), some (aI z6)]) rfl ?_
        refine y_goto dX9_years_163 (t := 80) rfl ?_
        refine y_fg [true, false, true, true, true, true, true, true, false, false] (L' := [some (aR 0), none, some (aI x2), some (aI x3), some (aI x4), some (aI r7), some (aI z10), some (aI (x7 + 1)), none, none]) rfl ?_
        exact ih x2 x3 x4 r7 z10 (x7 + 1) σ12
      · refine y_icmp_ge_t dX9_years_98 (t := 166) rfl h2 ?_
        refine y_fg [true, false, false, false, false, false, true, false, false, false] (L' := [some (aR 0), none, none, none, none, none, some (aI x6), none, none, none]) rfl ?_
        exact tX9_years_166 hC x6 σ
    · refine y_icmp_ge_t dX9_years_83 (t := 166) rfl h1 ?_
      refine y_fg [true, false, false, false, false, false, true, false, false, false] (L' := [some (aR 0), none, none, none, none, none, some (aI x6), none, none, none]) rfl ?_
      exact tX9_years_166 hC x6 σ
noncomputable def vX9_years (K : Kt) (p1 : Int) (p2 : Int) (σ : Sg) : Option (Int × Sg) := (vX9_within p1 0 1000000 σ).bind (fun r1 => if r1 = 0 then (vX9_years_21 K σ) else ((vX9_within p2 1 60 σ).bind (fun r3 => if r3 = 0 then (vX9_years_21 K σ) else (nm (σ 13 1) (fun z5 => nm (σ 13 2) (fun z6 => if 0 < z5 then (if 0 < z6 then ((vX1_copyFrom K 47 13 σ).bind (fun σ9 => vX9_years_80 K FU p2 z5 z6 p1 0 0 σ9)) else (vX9_years_53 K σ)) else (vX9_years_53 K σ)))))))
set_option maxRecDepth 100000 in
set_option maxHeartbeats 4000000 in
theorem tX9_years {Γ : Gx} {K : Kt} (hC : cLay K) (p1 : Int) (p2 : Int) (σ : Sg) : Y Γ MX9_years K (emIS K) K 0 [some (aR 0), some (aI p1), some (aI p2), none, none, none, none, none, none, none] [] σ (vX9_years K p1 p2 σ) := by
  unfold vX9_years
  refine y_iload_n dX9_years_0 rfl rfl ?_
  refine y_iconst dX9_years_1 (by decide) ?_
  refine y_ldcw 1000000 wX9_c357 dX9_years_2 (by decide) (by decide) ?_
  refine y_csI (qX9_within (K := K) p1 0 1000000 σ) kX9_96 rfl (by decide) rfl (Nat.le_of_ble_eq_true rfl) dX9_years_5 (fun r1 => ?_)
  refine y_ite (fun h2 => ?_) (fun h2 => ?_)
  · refine y_if_eq_t dX9_years_8 (t := 21) rfl h2 ?_
    refine y_fg [true, false, false, false, false, false, false, false, false, false] (L' := [some (aR 0), none, none, none, none, none, none, none, none, none]) rfl ?_
    exact tX9_years_21 hC σ
  · refine y_if_eq_f dX9_years_8 (t := 21) rfl h2 ?_
    refine y_iload_n dX9_years_11 rfl rfl ?_
    refine y_iconst dX9_years_12 (by decide) ?_
    refine y_bipush dX9_years_13 (by decide) (by decide) ?_
    refine y_csI (qX9_within (K := K) p2 1 60 σ) kX9_96 rfl (by decide) rfl (Nat.le_of_ble_eq_true rfl) dX9_years_15 (fun r3 => ?_)
    refine y_ite (fun h4 => ?_) (fun h4 => ?_)
    · refine y_if_ne_f dX9_years_18 (t := 27) rfl h4 ?_
      refine y_fg [true, false, false, false, false, false, false, false, false, false] (L' := [some (aR 0), none, none, none, none, none, none, none, none, none]) rfl ?_
      exact tX9_years_21 hC σ
    · refine y_if_ne_t dX9_years_18 (t := 27) rfl h4 ?_
      refine y_aload_n dX9_years_27 rfl rfl ?_
      refine y_getR fX9_21 (lcO_0 hC) rfl (lcR_0_1 hC) dX9_years_28 ?_
      refine y_getI fX9_104 (lcO_13 hC) rfl dX9_years_31 ?_
      refine yn_istore_n dX9_years_34 rfl (Nat.le_of_ble_eq_true rfl) (L' := fun z5 => [some (aR 0), some (aI p1), some (aI p2), some (aI z5), none, none, none, none, none, none]) (fun _ => rfl) (fun z5 => ?_)
      refine y_aload_n dX9_years_35 rfl rfl ?_
      refine y_getR fX9_21 (lcO_0 hC) rfl (lcR_0_1 hC) dX9_years_36 ?_
      refine y_getI fX9_133 (lcO_13 hC) rfl dX9_years_39 ?_
      refine yn_istore dX9_years_42 (Nat.le_of_ble_eq_true rfl) (L' := fun z6 => [some (aR 0), some (aI p1), some (aI p2), some (aI z5), some (aI z6), none, none, none, none, none]) (fun _ => rfl) (fun z6 => ?_)
      refine y_iload_n dX9_years_44 rfl rfl ?_
      refine y_ite (fun h7 => ?_) (fun h7 => ?_)
      · refine y_if_le_f dX9_years_45 (t := 53) rfl h7 ?_
        refine y_iload dX9_years_48 rfl ?_
        refine y_ite (fun h8 => ?_) (fun h8 => ?_)
        · refine y_if_gt_t dX9_years_50 (t := 60) rfl h8 ?_
          refine y_aload_n dX9_years_60 rfl rfl ?_
          refine y_getR fX9_38 (lcO_0 hC) rfl (lcR_0_5 hC) dX9_years_61 ?_
          refine y_aload_n dX9_years_64 rfl rfl ?_
          refine y_getR fX9_21 (lcO_0 hC) rfl (lcR_0_1 hC) dX9_years_65 ?_
          refine y_cvV (qX1_copyFrom (hPre_47 hC).2.1 (hPre_13 hC).2.1 σ) kX9_215 rfl (lcO_47 hC) rfl (by decide) rfl (Nat.le_of_ble_eq_true rfl) dX9_years_68 (fun σ9 => ?_)
          refine y_iload_n dX9_years_71 rfl rfl ?_
          refine y_istore dX9_years_72 (Nat.le_of_ble_eq_true rfl) (L' := [some (aR 0), some (aI p1), some (aI p2), some (aI z5), some (aI z6), some (aI p1), none, none, none, none]) rfl ?_
          refine y_iconst dX9_years_74 (by decide) ?_
          refine y_istore dX9_years_75 (Nat.le_of_ble_eq_true rfl) (L' := [some (aR 0), some (aI p1), some (aI p2), some (aI z5), some (aI z6), some (aI p1), some (aI 0), none, none, none]) rfl ?_
          refine y_iconst dX9_years_77 (by decide) ?_
          refine y_istore dX9_years_78 (Nat.le_of_ble_eq_true rfl) (L' := [some (aR 0), some (aI p1), some (aI p2), some (aI z5), some (aI z6), some (aI p1), some (aI 0), some (aI 0), none, none]) rfl ?_
          refine y_fg [true, false, true, true, true, true, true, true, false, false] (L' := [some (aR 0), none, some (aI p2), some (aI z5), some (aI z6), some (aI p1), some (aI 0), some (aI 0), none, none]) rfl ?_
          exact tX9_years_80 hC FU p2 z5 z6 p1 0 0 σ9
        · refine y_if_gt_f dX9_years_50 (t := 60) rfl h8 ?_
          refine y_fg [true, false, false, false, false, false, false, false, false, false] (L' := [some (aR 0), none, none, none, none, none, none, none, none, none]) rfl ?_
          exact tX9_years_53 hC σ
      · refine y_if_le_t dX9_years_45 (t := 53) rfl h7 ?_
        refine y_fg [true, false, false, false, false, false, false, false, false, false] (L' := [some (aR 0), none, none, none, none, none, none, none, none, none]) rfl ?_
        exact tX9_years_53 hC σ
theorem qX9_years {K : Kt} (hC : cLay K) (p1 : Int) (p2 : Int) (σ : Sg) : Cc MX9_years K [aR 0, aI p1, aI p2] σ (emIS K) (vX9_years K p1 p2 σ) := cc_of plX9 (Nat.le_of_ble_eq_true rfl) (fun o _ => ⟨Nat.le_refl _, Nat.le_refl _⟩) (fun Γ => tX9_years hC p1 p2 σ)
noncomputable def vX9_drawn (K : Kt) (p1 : Int) (p2 : Int) (σ : Sg) : Option (Int) := if p2 = 3 then ((vX1_hasBook K 47 p1 σ).bind (fun r2 => if r2 = 0 then (some (-1)) else (ck (0 ≤ p1 ∧ p1 < 8) (some (σ 51 p1.toNat))))) else ((vX1_hasReader K 47 p1 σ).bind (fun r4 => if r4 = 0 then (some (-1)) else (if p2 = 0 then (ck (0 ≤ p1 ∧ p1 < 6) (some (σ 52 p1.toNat))) else (if p2 = 1 then (ck (0 ≤ p1 ∧ p1 < 6) (some (σ 54 p1.toNat))) else (if p2 = 2 then (ck (0 ≤ p1 ∧ p1 < 6) (some (σ 55 p1.toNat))) else (some (-1)))))))
set_option maxRecDepth 100000 in
set_option maxHeartbeats 4000000 in
theorem tX9_drawn {Γ : Gx} {K : Kt} (hC : cLay K) (p1 : Int) (p2 : Int) (σ : Sg) : Y Γ MX9_drawn K (emI K σ) K 0 [some (aR 0), some (aI p1), some (aI p2)] [] σ (vX9_drawn K p1 p2 σ) := by
  unfold vX9_drawn
  refine y_iload_n dX9_drawn_0 rfl rfl ?_
  refine y_iconst dX9_drawn_1 (by decide) ?_
  refine y_ite (fun h1 => ?_) (fun h1 => ?_)
  · refine y_icmp_ne_f dX9_drawn_2 (t := 30) rfl h1 ?_
    refine y_aload_n dX9_drawn_5 rfl rfl ?_
    refine y_getR fX9_38 (lcO_0 hC) rfl (lcR_0_5 hC) dX9_drawn_6 ?_
    refine y_iload_n dX9_drawn_9 rfl rfl ?_
    refine y_cvI (qX1_hasBook (hPre_47 hC) p1 σ) kX9_114 rfl (lcO_47 hC) rfl (by decide) rfl (Nat.le_of_ble_eq_true rfl) dX9_drawn_10 (fun r2 => ?_)
    refine y_ite (fun h3 => ?_) (fun h3 => ?_)
    · refine y_if_eq_t dX9_drawn_13 (t := 28) rfl h3 ?_
      refine y_iconst dX9_drawn_28 (by decide) ?_
      exact y_iret rfl rfl dX9_drawn_29
    · refine y_if_eq_f dX9_drawn_13 (t := 28) rfl h3 ?_
      refine y_aload_n dX9_drawn_16 rfl rfl ?_
      refine y_getR fX9_38 (lcO_0 hC) rfl (lcR_0_5 hC) dX9_drawn_17 ?_
      refine y_getR fX9_127 (lcO_47 hC) rfl (lcR_47_7 hC) dX9_drawn_20 ?_
      refine y_iload_n dX9_drawn_23 rfl rfl ?_
      refine yk_iaload (lcA_51 hC) (N := 8) rfl (j := p1.toNat) rfl dX9_drawn_24 ?_
      refine y_goto dX9_drawn_25 (t := 29) rfl ?_
      exact y_iret rfl rfl dX9_drawn_29
  · refine y_icmp_ne_t dX9_drawn_2 (t := 30) rfl h1 ?_
    refine y_aload_n dX9_drawn_30 rfl rfl ?_
    refine y_getR fX9_38 (lcO_0 hC) rfl (lcR_0_5 hC) dX9_drawn_31 ?_
    refine y_iload_n dX9_drawn_34 rfl rfl ?_
    refine y_cvI (qX1_hasReader (hPre_47 hC) p1 σ) kX9_140 rfl (lcO_47 hC) rfl (by decide) rfl (Nat.le_of_ble_eq_true rfl) dX9_drawn_35 (fun r4 => ?_)
    refine y_ite (fun h5 => ?_) (fun h5 => ?_)
    · refine y_if_ne_f dX9_drawn_38 (t := 43) rfl h5 ?_
      refine y_iconst dX9_drawn_41 (by decide) ?_
      exact y_iret rfl rfl dX9_drawn_42
    · refine y_if_ne_t dX9_drawn_38 (t := 43) rfl h5 ?_
      refine y_iload_n dX9_drawn_43 rfl rfl ?_
      refine y_ite (fun h8 => ?_) (fun h8 => ?_)
      · refine y_tab_in dX9_drawn_44 (t := 72) (off := 28) (by omega) (by rw [h8]; rfl) rfl ?_
        refine y_aload_n dX9_drawn_72 rfl rfl ?_
        refine y_getR fX9_38 (lcO_0 hC) rfl (lcR_0_5 hC) dX9_drawn_73 ?_
        refine y_getR fX9_143 (lcO_47 hC) rfl (lcR_47_8 hC) dX9_drawn_76 ?_
        refine y_iload_n dX9_drawn_79 rfl rfl ?_
        refine yk_iaload (lcA_52 hC) (N := 6) rfl (j := p1.toNat) rfl dX9_drawn_80 ?_
        exact y_iret rfl rfl dX9_drawn_81
      · refine y_ite (fun h7 => ?_) (fun h7 => ?_)
        · refine y_tab_in dX9_drawn_44 (t := 82) (off := 38) (by omega) (by rw [h7]; rfl) rfl ?_
          refine y_aload_n dX9_drawn_82 rfl rfl ?_
          refine y_getR fX9_38 (lcO_0 hC) rfl (lcR_0_5 hC) dX9_drawn_83 ?_
          refine y_getR fX9_149 (lcO_47 hC) rfl (lcR_47_10 hC) dX9_drawn_86 ?_
          refine y_iload_n dX9_drawn_89 rfl rfl ?_
          refine yk_iaload (lcA_54 hC) (N := 6) rfl (j := p1.toNat) rfl dX9_drawn_90 ?_
          exact y_iret rfl rfl dX9_drawn_91
        · refine y_ite (fun h6 => ?_) (fun h6 => ?_)
          · refine y_tab_in dX9_drawn_44 (t := 92) (off := 48) (by omega) (by rw [h6]; rfl) rfl ?_
            refine y_aload_n dX9_drawn_92 rfl rfl ?_
            refine y_getR fX9_38 (lcO_0 hC) rfl (lcR_0_5 hC) dX9_drawn_93 ?_
            refine y_getR fX9_152 (lcO_47 hC) rfl (lcR_47_11 hC) dX9_drawn_96 ?_
            refine y_iload_n dX9_drawn_99 rfl rfl ?_
            refine yk_iaload (lcA_55 hC) (N := 6) rfl (j := p1.toNat) rfl dX9_drawn_100 ?_
            exact y_iret rfl rfl dX9_drawn_101
          · refine y_tab_out dX9_drawn_44 (t := 102) (by omega) rfl ?_
            refine y_iconst dX9_drawn_102 (by decide) ?_
            exact y_iret rfl rfl dX9_drawn_103
theorem qX9_drawn {K : Kt} (hC : cLay K) (p1 : Int) (p2 : Int) (σ : Sg) : Cc MX9_drawn K [aR 0, aI p1, aI p2] σ (emI K σ) (vX9_drawn K p1 p2 σ) := cc_of plX9 (Nat.le_of_ble_eq_true rfl) (fun o _ => ⟨Nat.le_refl _, Nat.le_refl _⟩) (fun Γ => tX9_drawn hC p1 p2 σ)
noncomputable def vX9_count (K : Kt) (p1 : Int) (σ : Sg) : Option (Int) := (vX9_within p1 13 16 σ).bind (fun r1 => if r1 = 0 then (if p1 = 0 then (some (σ 13 1)) else (if p1 = 1 then (some (σ 13 2)) else (if p1 = 2 then ((vX1_lentOut K 13 σ).bind (fun r3 => some r3)) else (if p1 = 3 then (some (σ 13 3)) else (if p1 = 4 then (some (σ 1 4)) else (if p1 = 5 then (some (σ 27 3)) else (if p1 = 6 then (some (σ 61 1)) else (if p1 = 7 then (some (σ 83 1)) else (if p1 = 8 then (some (σ 83 2)) else (if p1 = 9 then (some (σ 83 3)) else (if p1 = 10 then (some (σ 83 5)) else (if p1 = 11 then (some (σ 83 6)) else (if p1 = 12 then (some (σ 1 5)) else (some (-1))))))))))))))) else (ck (in32 (p1 - 13)) (ck (0 ≤ (p1 - 13) ∧ (p1 - 13) < 4) (some (σ 26 (p1 - 13).toNat)))))
set_option maxRecDepth 100000 in
set_option maxHeartbeats 4000000 in
theorem tX9_count {Γ : Gx} {K : Kt} (hC : cLay K) (p1 : Int) (σ : Sg) : Y Γ MX9_count K (emI K σ) K 0 [some (aR 0), some (aI p1)] [] σ (vX9_count K p1 σ) := by
  unfold vX9_count
  refine y_iload_n dX9_count_0 rfl rfl ?_
  refine y_bipush dX9_count_1 (by decide) (by decide) ?_
  refine y_bipush dX9_count_3 (by decide) (by decide) ?_
  refine y_csI (qX9_within (K := K) p1 13 16 σ) kX9_96 rfl (by decide) rfl (Nat.le_of_ble_eq_true rfl) dX9_count_5 (fun r1 => ?_)
  refine y_ite (fun h2 => ?_) (fun h2 => ?_)
  · refine y_if_eq_t dX9_count_8 (t := 24) rfl h2 ?_
    refine y_iload_n dX9_count_24 rfl rfl ?_
    refine y_ite (fun h16 => ?_) (fun h16 => ?_)
    · refine y_tab_in dX9_count_25 (t := 92) (off := 67) (by omega) (by rw [h16]; rfl) rfl ?_
      refine y_aload_n dX9_count_92 rfl rfl ?_
      refine y_getR fX9_21 (lcO_0 hC) rfl (lcR_0_1 hC) dX9_count_93 ?_
      refine y_getI fX9_104 (lcO_13 hC) rfl dX9_count_96 ?_
      exact y_iret rfl rfl dX9_count_99
    · refine y_ite (fun h15 => ?_) (fun h15 => ?_)
      · refine y_tab_in dX9_count_25 (t := 100) (off := 75) (by omega) (by rw [h15]; rfl) rfl ?_
        refine y_aload_n dX9_count_100 rfl rfl ?_
        refine y_getR fX9_21 (lcO_0 hC) rfl (lcR_0_1 hC) dX9_count_101 ?_
        refine y_getI fX9_133 (lcO_13 hC) rfl dX9_count_104 ?_
        exact y_iret rfl rfl dX9_count_107
      · refine y_ite (fun h14 => ?_) (fun h14 => ?_)
        · refine y_tab_in dX9_count_25 (t := 108) (off := 83) (by omega) (by rw [h14]; rfl) rfl ?_
          refine y_aload_n dX9_count_108 rfl rfl ?_
          refine y_getR fX9_21 (lcO_0 hC) rfl (lcR_0_1 hC) dX9_count_109 ?_
          refine y_cvI (qX1_lentOut (hPre_13 hC) σ) kX9_370 rfl (lcO_13 hC) rfl (by decide) rfl (Nat.le_of_ble_eq_true rfl) dX9_count_112 (fun r3 => ?_)
          exact y_iret rfl rfl dX9_count_115
        · refine y_ite (fun h13 => ?_) (fun h13 => ?_)
          · refine y_tab_in dX9_count_25 (t := 116) (off := 91) (by omega) (by rw [h13]; rfl) rfl ?_
            refine y_aload_n dX9_count_116 rfl rfl ?_
            refine y_getR fX9_21 (lcO_0 hC) rfl (lcR_0_1 hC) dX9_count_117 ?_
            refine y_getI fX9_266 (lcO_13 hC) rfl dX9_count_120 ?_
            exact y_iret rfl rfl dX9_count_123
          · refine y_ite (fun h12 => ?_) (fun h12 => ?_)
            · refine y_tab_in dX9_count_25 (t := 124) (off := 99) (by omega) (by rw [h12]; rfl) rfl ?_
              refine y_aload_n dX9_count_124 rfl rfl ?_
              refine y_getR fX9_12 (lcO_0 hC) rfl (lcR_0_0 hC) dX9_count_125 ?_
              refine y_getI fX9_197 (lcO_1 hC) rfl dX9_count_128 ?_
              exact y_iret rfl rfl dX9_count_131
            · refine y_ite (fun h11 => ?_) (fun h11 => ?_)
              · refine y_tab_in dX9_count_25 (t := 132) (off := 107) (by omega) (by rw [h11]; rfl) rfl ?_
                refine y_aload_n dX9_count_132 rfl rfl ?_
                refine y_getR fX9_28 (lcO_0 hC) rfl (lcR_0_2 hC) dX9_count_133 ?_
                refine y_getI fX9_307 (lcO_27 hC) rfl dX9_count_136 ?_
                exact y_iret rfl rfl dX9_count_139
              · refine y_ite (fun h10 => ?_) (fun h10 => ?_)
                · refine y_tab_in dX9_count_25 (t := 140) (off := 115) (by omega) (by rw [h10]; rfl) rfl ?_
                  refine y_aload_n dX9_count_140 rfl rfl ?_
                  refine y_getR fX9_44 (lcO_0 hC) rfl (lcR_0_6 hC) dX9_count_141 ?_
                  refine y_getI fX9_184 (lcO_61 hC) rfl dX9_count_144 ?_
                  exact y_iret rfl rfl dX9_count_147
                · refine y_ite (fun h9 => ?_) (fun h9 => ?_)
                  · refine y_tab_in dX9_count_25 (t := 148) (off := 123) (by omega) (by rw [h9]; rfl) rfl ?_
                    refine y_aload_n dX9_count_148 rfl rfl ?_
                    refine y_getR fX9_76 (lcO_0 hC) rfl (lcR_0_11 hC) dX9_count_149 ?_
                    refine y_iconst dX9_count_152 (by decide) ?_
                    refine yl_iaload (lcA_83 hC) (by decide) (j := 1) rfl dX9_count_153 ?_
                    exact y_iret rfl rfl dX9_count_154
                  · refine y_ite (fun h8 => ?_) (fun h8 => ?_)
                    · refine y_tab_in dX9_count_25 (t := 155) (off := 130) (by omega) (by rw [h8]; rfl) rfl ?_
                      refine y_aload_n dX9_count_155 rfl rfl ?_
                      refine y_getR fX9_76 (lcO_0 hC) rfl (lcR_0_11 hC) dX9_count_156 ?_
                      refine y_iconst dX9_count_159 (by decide) ?_
                      refine yl_iaload (lcA_83 hC) (by decide) (j := 2) rfl dX9_count_160 ?_
                      exact y_iret rfl rfl dX9_count_161
                    · refine y_ite (fun h7 => ?_) (fun h7 => ?_)
                      · refine y_tab_in dX9_count_25 (t := 162) (off := 137) (by omega) (by rw [h7]; rfl) rfl ?_
                        refine y_aload_n dX9_count_162 rfl rfl ?_
                        refine y_getR fX9_76 (lcO_0 hC) rfl (lcR_0_11 hC) dX9_count_163 ?_
                        refine y_iconst dX9_count_166 (by decide) ?_
                        refine yl_iaload (lcA_83 hC) (by decide) (j := 3) rfl dX9_count_167 ?_
                        exact y_iret rfl rfl dX9_count_168
                      · refine y_ite (fun h6 => ?_) (fun h6 => ?_)
                        · refine y_tab_in dX9_count_25 (t := 169) (off := 144) (by omega) (by rw [h6]; rfl) rfl ?_
                          refine y_aload_n dX9_count_169 rfl rfl ?_
                          refine y_getR fX9_76 (lcO_0 hC) rfl (lcR_0_11 hC) dX9_count_170 ?_
                          refine y_iconst dX9_count_173 (by decide) ?_
                          refine yl_iaload (lcA_83 hC) (by decide) (j := 5) rfl dX9_count_174 ?_
                          exact y_iret rfl rfl dX9_count_175
                        · refine y_ite (fun h5 => ?_) (fun h5 => ?_)
                          · refine y_tab_in dX9_count_25 (t := 176) (off := 151) (by omega) (by rw [h5]; rfl) rfl ?_
                            refine y_aload_n dX9_count_176 rfl rfl ?_
                            refine y_getR fX9_76 (lcO_0 hC) rfl (lcR_0_11 hC) dX9_count_177 ?_
                            refine y_bipush dX9_count_180 (by decide) (by decide) ?_
                            refine yl_iaload (lcA_83 hC) (by decide) (j := 6) rfl dX9_count_182 ?_
                            exact y_iret rfl rfl dX9_count_183
                          · refine y_ite (fun h4 => ?_) (fun h4 => ?_)
                            · refine y_tab_in dX9_count_25 (t := 184) (off := 159) (by omega) (by rw [h4]; rfl) rfl ?_
                              refine y_aload_n dX9_count_184 rfl rfl ?_
                              refine y_getR fX9_12 (lcO_0 hC) rfl (lcR_0_0 hC) dX9_count_185 ?_
                              refine y_getI fX9_161 (lcO_1 hC) rfl dX9_count_188 ?_
                              exact y_iret rfl rfl dX9_count_191
                            · refine y_tab_out dX9_count_25 (t := 192) (by omega) rfl ?_
                              refine y_iconst dX9_count_192 (by decide) ?_
                              exact y_iret rfl rfl dX9_count_193
  · refine y_if_eq_f dX9_count_8 (t := 24) rfl h2 ?_
    refine y_aload_n dX9_count_11 rfl rfl ?_
    refine y_getR fX9_21 (lcO_0 hC) rfl (lcR_0_1 hC) dX9_count_12 ?_
    refine y_getR fX9_181 (lcO_13 hC) rfl (lcR_13_16 hC) dX9_count_15 ?_
    refine y_iload_n dX9_count_18 rfl rfl ?_
    refine y_bipush dX9_count_19 (by decide) (by decide) ?_
    refine yk_isub dX9_count_21 ?_
    refine yk_iaload (lcA_26 hC) (N := 4) rfl (j := (p1 - 13).toNat) rfl dX9_count_22 ?_
    exact y_iret rfl rfl dX9_count_23
theorem qX9_count {K : Kt} (hC : cLay K) (p1 : Int) (σ : Sg) : Cc MX9_count K [aR 0, aI p1] σ (emI K σ) (vX9_count K p1 σ) := cc_of plX9 (Nat.le_of_ble_eq_true rfl) (fun o _ => ⟨Nat.le_refl _, Nat.le_refl _⟩) (fun Γ => tX9_count hC p1 σ)
noncomputable def vX9_status (K : Kt) (σ : Sg) : Option (Int) := some (σ 0 14)
set_option maxRecDepth 100000 in
set_option maxHeartbeats 4000000 in
theorem tX9_status {Γ : Gx} {K : Kt} (hC : cLay K) (σ : Sg) : Y Γ MX9_status K (emI K σ) K 0 [some (aR 0)] [] σ (vX9_status K σ) := by
  unfold vX9_status
  refine y_aload_n dX9_status_0 rfl rfl ?_
  refine y_getI fX9_86 (lcO_0 hC) rfl dX9_status_1 ?_
  exact y_iret rfl rfl dX9_status_4
theorem qX9_status {K : Kt} (hC : cLay K) (σ : Sg) : Cc MX9_status K [aR 0] σ (emI K σ) (vX9_status K σ) := cc_of plX9 (Nat.le_of_ble_eq_true rfl) (fun o _ => ⟨Nat.le_refl _, Nat.le_refl _⟩) (fun Γ => tX9_status hC σ)
