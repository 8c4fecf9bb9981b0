noncomputable def vX9_act_78 (x1 : Int) (x2 : Int) (x3 : Int) (x4 : Nat) (x5 : Int) (K : Kt) (σ : Sg) : Option (Int × Kt × Sg) := if x5 = 0 then (ckP (IsC K 0 9) ((K.1 0 1).bind (fun t3 => ckP (IsC K x4 8) (bdVK (vX8_keep x4 t3 x1 K σ) (fun K5 σ6 => if x1 = 0 then (ckP (IsC K5 0 9) ((K5.1 0 1).bind (fun t8 => ckP (hPre K5 t8) (ckP (IsC K5 t8 1) (bd2 (vX1_lendOut K5 t8 x2 x3 σ6) (fun r11 σ12 => some (r11, K5, σ12))))))) else (if x1 = 1 then (ckP (IsC K5 0 9) ((K5.1 0 1).bind (fun t14 => ckP (hPre K5 t14) (ckP (IsC K5 t14 1) (bd2 (vX1_leave K5 t14 x2 σ6) (fun r17 σ18 => some (r17, K5, σ18))))))) else (if x1 = 2 then (ckP (IsC K5 0 9) ((K5.1 0 1).bind (fun t20 => ckP (hPre K5 t20) (ckP (IsC K5 t20 1) (bd2 (vX1_addWaiting K5 t20 x2 x3 σ6) (fun r23 σ24 => some (r23, K5, σ24))))))) else (ckP (IsC K5 0 9) ((K5.1 0 1).bind (fun t26 => ckP (hPre K5 t26) (ckP (IsC K5 t26 1) (bd2 (vX1_passWeek K5 t26 σ6) (fun r29 σ30 => some (r29, K5, σ30)))))))))))))) else (some (x5, K, σ))
set_option maxRecDepth 100000 in
set_option maxHeartbeats 4000000 in
theorem tX9_act_78 {Γ : Gx} {K0 : Kt} (x1 : Int) (x2 : Int) (x3 : Int) (x4 : Nat) (x5 : Int) (K : Kt) (σ : Sg) : Y Γ MX9_act K0 emIK K 78 [some (aR 0), some (aI x1), some (aI x2), some (aI x3), some (aR x4), some (aI x5)] [] σ (vX9_act_78 x1 x2 x3 x4 x5 K σ) := by
  unfold vX9_act_78
  refine y_iload dX9_act_78 rfl ?_
  refine y_ite (fun h1 => ?_) (fun h1 => ?_)
  · refine y_if_eq_t dX9_act_80 (t := 86) rfl h1 ?_
    refine y_aload dX9_act_86 rfl ?_
    refine y_aload_n dX9_act_88 rfl rfl ?_
    refine y_ckP (fun hc2 => ?_)
    refine yb_getR fX9_21 hc2 rfl dX9_act_89 (fun t3 ht3 => ?_)
    refine y_iload_n dX9_act_92 rfl rfl ?_
    refine y_ckP (fun hc4 => ?_)
    refine y_cvVK (qX8_keep x4 t3 x1 K σ (fun ou hou => (tX8_keep (Γ := Γ) x4 t3 x1 K σ ou hou).1)) kX9_282 rfl hc4 rfl (by decide) rfl (Nat.le_of_ble_eq_true rfl) dX9_act_93 (fun K5 σ6 => ?_)
    refine y_iload_n dX9_act_96 rfl rfl ?_
    refine y_ite (fun h33 => ?_) (fun h33 => ?_)
    · refine y_tab_in dX9_act_97 (t := 124) (off := 27) (by omega) (by rw [h33]; rfl) rfl ?_
      refine y_aload_n dX9_act_124 rfl rfl ?_
      refine y_ckP (fun hc7 => ?_)
      refine yb_getR fX9_21 hc7 rfl dX9_act_125 (fun t8 ht8 => ?_)
      refine y_iload_n dX9_act_128 rfl rfl ?_
      refine y_iload_n dX9_act_129 rfl rfl ?_
      refine y_ckP (fun hp9 => ?_)
      refine y_ckP (fun hc10 => ?_)
      refine y_cvIS (qX1_lendOut hp9 x2 x3 σ6) kX9_286 rfl hc10 rfl (by decide) rfl (Nat.le_of_ble_eq_true rfl) dX9_act_130 (fun r11 σ12 => ?_)
      exact y_iret rfl rfl dX9_act_133
    · refine y_ite (fun h32 => ?_) (fun h32 => ?_)
      · refine y_tab_in dX9_act_97 (t := 134) (off := 37) (by omega) (by rw [h32]; rfl) rfl ?_
        refine y_aload_n dX9_act_134 rfl rfl ?_
        refine y_ckP (fun hc13 => ?_)
        refine yb_getR fX9_21 hc13 rfl dX9_act_135 (fun t14 ht14 => ?_)
        refine y_iload_n dX9_act_138 rfl rfl ?_
        refine y_ckP (fun hp15 => ?_)
        refine y_ckP (fun hc16 => ?_)
        refine y_cvIS (qX1_leave hp15 x2 σ6) kX9_289 rfl hc16 rfl (by decide) rfl (Nat.le_of_ble_eq_true rfl) dX9_act_139 (fun r17 σ18 => ?_)
        exact y_iret rfl rfl dX9_act_142
      · refine y_ite (fun h31 => ?_) (fun h31 => ?_)
        · refine y_tab_in dX9_act_97 (t := 143) (off := 46) (by omega) (by rw [h31]; rfl) rfl ?_
          refine y_aload_n dX9_act_143 rfl rfl ?_
          refine y_ckP (fun hc19 => ?_)
          refine yb_getR fX9_21 hc19 rfl dX9_act_144 (fun t20 ht20 => ?_)
          refine y_iload_n dX9_act_147 rfl rfl ?_
          refine y_iload_n dX9_act_148 rfl rfl ?_
          refine y_ckP (fun hp21 => ?_)
          refine y_ckP (fun hc22 => ?_)
          refine y_cvIS (qX1_addWaiting hp21 x2 x3 σ6) kX9_292 rfl hc22 rfl (by decide) rfl (Nat.le_of_ble_eq_true rfl) dX9_act_149 (fun r23 σ24 => ?_)
          exact y_iret rfl rfl dX9_act_152
        · refine y_tab_out dX9_act_97 (t := 153) (by omega) rfl ?_
          refine y_aload_n dX9_act_153 rfl rfl ?_
          refine y_ckP (fun hc25 => ?_)
          refine yb_getR fX9_21 hc25 rfl dX9_act_154 (fun t26 ht26 => ?_)
          refine y_ckP (fun hp27 => ?_)
          refine y_ckP (fun hc28 => ?_)
          refine y_cvIS (qX1_passWeek hp27 σ6) kX9_295 rfl hc28 rfl (by decide) rfl (Nat.le_of_ble_eq_true rfl) dX9_act_157 (fun r29 σ30 => ?_)
          exact y_iret rfl rfl dX9_act_160
  · refine y_if_eq_f dX9_act_80 (t := 86) rfl h1 ?_
    refine y_iload dX9_act_83 rfl ?_
    exact y_iret rfl rfl dX9_act_85
noncomputable def vX9_act (p1 : Int) (p2 : Int) (p3 : Int) (p4 : Nat) (K : Kt) (σ : Sg) : Option (Int × Kt × Sg) := if p1 = 0 then (ckP (IsC K 0 9) ((K.1 0 1).bind (fun t2 => ckP (hPre K t2) (ckP (IsC K t2 1) (bd2 (vX1_lendRefusal K t2 p2 p3 σ) (fun r5 σ6 => vX9_act_78 p1 p2 p3 p4 r5 K σ6)))))) else (if p1 = 1 then (ckP (IsC K 0 9) ((K.1 0 1).bind (fun t8 => ckP (hPre K t8) (ckP (IsC K t8 1) ((vX1_bringRefusal K t8 p2 σ).bind (fun r11 => vX9_act_78 p1 p2 p3 p4 r11 K σ)))))) else (if p1 = 2 then (ckP (IsC K 0 9) ((K.1 0 1).bind (fun t13 => ckP (hPre K t13) (ckP (IsC K t13 1) ((vX1_waitRefusal K t13 p2 p3 σ).bind (fun r16 => vX9_act_78 p1 p2 p3 p4 r16 K σ)))))) else (ckP (IsC K 0 9) ((K.1 0 1).bind (fun t18 => ckP (hPre K t18) (ckP (IsC K t18 1) ((vX1_passRefusal K t18 σ).bind (fun r21 => vX9_act_78 p1 p2 p3 p4 r21 K σ))))))))
set_option maxRecDepth 100000 in
set_option maxHeartbeats 4000000 in
theorem tX9_act {Γ : Gx} (p1 : Int) (p2 : Int) (p3 : Int) (p4 : Nat) (K : Kt) (σ : Sg) : Y Γ MX9_act K emIK K 0 [some (aR 0), some (aI p1), some (aI p2), some (aI p3), some (aR p4), none] [] σ (vX9_act p1 p2 p3 p4 K σ) := by
  unfold vX9_act
  refine y_iload_n dX9_act_0 rfl rfl ?_
  refine y_ite (fun h24 => ?_) (fun h24 => ?_)
  · refine y_tab_in dX9_act_1 (t := 28) (off := 27) (by omega) (by rw [h24]; rfl) rfl ?_
    refine y_aload_n dX9_act_28 rfl rfl ?_
    refine y_ckP (fun hc1 => ?_)
    refine yb_getR fX9_21 hc1 rfl dX9_act_29 (fun t2 ht2 => ?_)
    refine y_iload_n dX9_act_32 rfl rfl ?_
    refine y_iload_n dX9_act_33 rfl rfl ?_
    refine y_ckP (fun hp3 => ?_)
    refine y_ckP (fun hc4 => ?_)
    refine y_cvIS (qX1_lendRefusal hp3 p2 p3 σ) kX9_269 rfl hc4 rfl (by decide) rfl (Nat.le_of_ble_eq_true rfl) dX9_act_34 (fun r5 σ6 => ?_)
    refine y_istore dX9_act_37 (Nat.le_of_ble_eq_true rfl) (L' := [some (aR 0), some (aI p1), some (aI p2), some (aI p3), some (aR p4), some (aI r5)]) rfl ?_
    refine y_goto dX9_act_39 (t := 78) rfl ?_
    exact tX9_act_78 p1 p2 p3 p4 r5 K σ6
  · refine y_ite (fun h23 => ?_) (fun h23 => ?_)
    · refine y_tab_in dX9_act_1 (t := 42) (off := 41) (by omega) (by rw [h23]; rfl) rfl ?_
      refine y_aload_n dX9_act_42 rfl rfl ?_
      refine y_ckP (fun hc7 => ?_)
      refine yb_getR fX9_21 hc7 rfl dX9_act_43 (fun t8 ht8 => ?_)
      refine y_iload_n dX9_act_46 rfl rfl ?_
      refine y_ckP (fun hp9 => ?_)
      refine y_ckP (fun hc10 => ?_)
      refine y_cvI (qX1_bringRefusal hp9 p2 σ) kX9_272 rfl hc10 rfl (by decide) rfl (Nat.le_of_ble_eq_true rfl) dX9_act_47 (fun r11 => ?_)
      refine y_istore dX9_act_50 (Nat.le_of_ble_eq_true rfl) (L' := [some (aR 0), some (aI p1), some (aI p2), some (aI p3), some (aR p4), some (aI r11)]) rfl ?_
      refine y_goto dX9_act_52 (t := 78) rfl ?_
      exact tX9_act_78 p1 p2 p3 p4 r11 K σ
    · refine y_ite (fun h22 => ?_) (fun h22 => ?_)
      · refine y_tab_in dX9_act_1 (t := 55) (off := 54) (by omega) (by rw [h22]; rfl) rfl ?_
        refine y_aload_n dX9_act_55 rfl rfl ?_
        refine y_ckP (fun hc12 => ?_)
        refine yb_getR fX9_21 hc12 rfl dX9_act_56 (fun t13 ht13 => ?_)
        refine y_iload_n dX9_act_59 rfl rfl ?_
        refine y_iload_n dX9_act_60 rfl rfl ?_
        refine y_ckP (fun hp14 => ?_)
        refine y_ckP (fun hc15 => ?_)
        refine y_cvI (qX1_waitRefusal hp14 p2 p3 σ) kX9_275 rfl hc15 rfl (by decide) rfl (Nat.le_of_ble_eq_true rfl) dX9_act_61 (fun r16 => ?_)
        refine y_istore dX9_act_64 (Nat.le_of_ble_eq_true rfl) (L' := [some (aR 0), some (aI p1), some (aI p2), some (aI p3), some (aR p4), some (aI r16)]) rfl ?_
        refine y_goto dX9_act_66 (t := 78) rfl ?_
        exact tX9_act_78 p1 p2 p3 p4 r16 K σ
      · refine y_tab_out dX9_act_1 (t := 69) (by omega) rfl ?_
        refine y_aload_n dX9_act_69 rfl rfl ?_
        refine y_ckP (fun hc17 => ?_)
        refine yb_getR fX9_21 hc17 rfl dX9_act_70 (fun t18 ht18 => ?_)
        refine y_ckP (fun hp19 => ?_)
        refine y_ckP (fun hc20 => ?_)
        refine y_cvI (qX1_passRefusal hp19 σ) kX9_278 rfl hc20 rfl (by decide) rfl (Nat.le_of_ble_eq_true rfl) dX9_act_73 (fun r21 => ?_)
        refine y_istore dX9_act_76 (Nat.le_of_ble_eq_true rfl) (L' := [some (aR 0), some (aI p1), some (aI p2), some (aI p3), some (aR p4), some (aI r21)]) rfl ?_
        exact tX9_act_78 p1 p2 p3 p4 r21 K σ
theorem qX9_act (p1 : Int) (p2 : Int) (p3 : Int) (p4 : Nat) (K : Kt) (σ : Sg) (hg : ∀ ou, vX9_act p1 p2 p3 p4 K σ = some ou → Gr K (emIK ou).2.1) : Cc MX9_act K [aR 0, aI p1, aI p2, aI p3, aR p4] σ emIK (vX9_act p1 p2 p3 p4 K σ) := cc_of plX9 (Nat.le_of_ble_eq_true rfl) hg (fun Γ => tX9_act p1 p2 p3 p4 K σ)
noncomputable def vX9_lend (p1 : Int) (p2 : Int) (K : Kt) (σ : Sg) : Option (Int × Kt × Sg) := ckP (IsC K 0 9) ((K.1 0 2).bind (fun t2 => ckP (IsC K 0 9) (bdIK (vX9_act 0 p1 p2 t2 K σ) (fun r4 K5 σ6 => ckP (cLay K5) (ckP (IsC K5 0 9) (bd2 (vX9_answered K5 r4 σ6) (fun r9 σ10 => some (r9, K5, σ10))))))))
set_option maxRecDepth 100000 in
set_option maxHeartbeats 4000000 in
theorem tX9_lend {Γ : Gx} (p1 : Int) (p2 : Int) (K : Kt) (σ : Sg) : Y Γ MX9_lend K emIK K 0 [some (aR 0), some (aI p1), some (aI p2)] [] σ (vX9_lend p1 p2 K σ) := by
  unfold vX9_lend
  refine y_aload_n dX9_lend_0 rfl rfl ?_
  refine y_aload_n dX9_lend_1 rfl rfl ?_
  refine y_iconst dX9_lend_2 (by decide) ?_
  refine y_iload_n dX9_lend_3 rfl rfl ?_
  refine y_iload_n dX9_lend_4 rfl rfl ?_
  refine y_aload_n dX9_lend_5 rfl rfl ?_
  refine y_ckP (fun hc1 => ?_)
  refine yb_getR fX9_28 hc1 rfl dX9_lend_6 (fun t2 ht2 => ?_)
  refine y_ckP (fun hc3 => ?_)
  refine y_cvIK (qX9_act 0 p1 p2 t2 K σ (fun ou hou => (tX9_act (Γ := Γ) 0 p1 p2 t2 K σ ou hou).1)) kX9_252 rfl hc3 rfl (by decide) rfl (Nat.le_of_ble_eq_true rfl) dX9_lend_9 (fun r4 K5 σ6 => ?_)
  refine y_ckP (fun hp7 => ?_)
  refine y_ckP (fun hc8 => ?_)
  refine y_cvIS (qX9_answered hp7 r4 σ6) kX9_304 rfl hc8 rfl (by decide) rfl (Nat.le_of_ble_eq_true rfl) dX9_lend_12 (fun r9 σ10 => ?_)
  exact y_iret rfl rfl dX9_lend_15
theorem qX9_lend (p1 : Int) (p2 : Int) (K : Kt) (σ : Sg) (hg : ∀ ou, vX9_lend p1 p2 K σ = some ou → Gr K (emIK ou).2.1) : Cc MX9_lend K [aR 0, aI p1, aI p2] σ emIK (vX9_lend p1 p2 K σ) := cc_of plX9 (Nat.le_of_ble_eq_true rfl) hg (fun Γ => tX9_lend p1 p2 K σ)
noncomputable def vX9_bring (p1 : Int) (K : Kt) (σ : Sg) : Option (Int × Kt × Sg) := ckP (IsC K 0 9) ((K.1 0 2).bind (fun t2 => ckP (IsC K 0 9) (bdIK (vX9_act 1 p1 0 t2 K σ) (fun r4 K5 σ6 => ckP (cLay K5) (ckP (IsC K5 0 9) (bd2 (vX9_answered K5 r4 σ6) (fun r9 σ10 => some (r9, K5, σ10))))))))
set_option maxRecDepth 100000 in
set_option maxHeartbeats 4000000 in
theorem tX9_bring {Γ : Gx} (p1 : Int) (K : Kt) (σ : Sg) : Y Γ MX9_bring K emIK K 0 [some (aR 0), some (aI p1)] [] σ (vX9_bring p1 K σ) := by
  unfold vX9_bring
  refine y_aload_n dX9_bring_0 rfl rfl ?_
  refine y_aload_n dX9_bring_1 rfl rfl ?_
  refine y_iconst dX9_bring_2 (by decide) ?_
  refine y_iload_n dX9_bring_3 rfl rfl ?_
  refine y_iconst dX9_bring_4 (by decide) ?_
  refine y_aload_n dX9_bring_5 rfl rfl ?_
  refine y_ckP (fun hc1 => ?_)
  refine yb_getR fX9_28 hc1 rfl dX9_bring_6 (fun t2 ht2 => ?_)
  refine y_ckP (fun hc3 => ?_)
  refine y_cvIK (qX9_act 1 p1 0 t2 K σ (fun ou hou => (tX9_act (Γ := Γ) 1 p1 0 t2 K σ ou hou).1)) kX9_252 rfl hc3 rfl (by decide) rfl (Nat.le_of_ble_eq_true rfl) dX9_bring_9 (fun r4 K5 σ6 => ?_)
  refine y_ckP (fun hp7 => ?_)
  refine y_ckP (fun hc8 => ?_)
  refine y_cvIS (qX9_answered hp7 r4 σ6) kX9_304 rfl hc8 rfl (by decide) rfl (Nat.le_of_ble_eq_true rfl) dX9_bring_12 (fun r9 σ10 => ?_)
  exact y_iret rfl rfl dX9_bring_15
theorem qX9_bring (p1 : Int) (K : Kt) (σ : Sg) (hg : ∀ ou, vX9_bring p1 K σ = some ou → Gr K (emIK ou).2.1) : Cc MX9_bring K [aR 0, aI p1] σ emIK (vX9_bring p1 K σ) := cc_of plX9 (Nat.le_of_ble_eq_true rfl) hg (fun Γ => tX9_bring p1 K σ)
noncomputable def vX9_waits (p1 : Int) (p2 : Int) (K : Kt) (σ : Sg) : Option (Int × Kt × Sg) := ckP (IsC K 0 9) ((K.1 0 2).bind (fun t2 => ckP (IsC K 0 9) (bdIK (vX9_act 2 p1 p2 t2 K σ) (fun r4 K5 σ6 => ckP (cLay K5) (ckP (IsC K5 0 9) (bd2 (vX9_answered K5 r4 σ6) (fun r9 σ10 => some (r9, K5, σ10))))))))
set_option maxRecDepth 100000 in
set_option maxHeartbeats 4000000 in
theorem tX9_waits {Γ : Gx} (p1 : Int) (p2 : Int) (K : Kt) (σ : Sg) : Y Γ MX9_waits K emIK K 0 [some (aR 0), some (aI p1), some (aI p2)] [] σ (vX9_waits p1 p2 K σ) := by
  unfold vX9_waits
  refine y_aload_n dX9_waits_0 rfl rfl ?_
  refine y_aload_n dX9_waits_1 rfl rfl ?_
  refine y_iconst dX9_waits_2 (by decide) ?_
  refine y_iload_n dX9_waits_3 rfl rfl ?_
  refine y_iload_n dX9_waits_4 rfl rfl ?_
  refine y_aload_n dX9_waits_5 rfl rfl ?_
  refine y_ckP (fun hc1 => ?_)
  refine yb_getR fX9_28 hc1 rfl dX9_waits_6 (fun t2 ht2 => ?_)
  refine y_ckP (fun hc3 => ?_)
  refine y_cvIK (qX9_act 2 p1 p2 t2 K σ (fun ou hou => (tX9_act (Γ := Γ) 2 p1 p2 t2 K σ ou hou).1)) kX9_252 rfl hc3 rfl (by decide) rfl (Nat.le_of_ble_eq_true rfl) dX9_waits_9 (fun r4 K5 σ6 => ?_)
  refine y_ckP (fun hp7 => ?_)
  refine y_ckP (fun hc8 => ?_)
  refine y_cvIS (qX9_answered hp7 r4 σ6) kX9_304 rfl hc8 rfl (by decide) rfl (Nat.le_of_ble_eq_true rfl) dX9_waits_12 (fun r9 σ10 => ?_)
  exact y_iret rfl rfl dX9_waits_15
theorem qX9_waits (p1 : Int) (p2 : Int) (K : Kt) (σ : Sg) (hg : ∀ ou, vX9_waits p1 p2 K σ = some ou → Gr K (emIK ou).2.1) : Cc MX9_waits K [aR 0, aI p1, aI p2] σ emIK (vX9_waits p1 p2 K σ) := cc_of plX9 (Nat.le_of_ble_eq_true rfl) hg (fun Γ => tX9_waits p1 p2 K σ)
noncomputable def vX9_pass (K : Kt) (σ : Sg) : Option (Int × Kt × Sg) := ckP (IsC K 0 9) ((K.1 0 2).bind (fun t2 => ckP (IsC K 0 9) (bdIK (vX9_act 3 0 0 t2 K σ) (fun r4 K5 σ6 => ckP (cLay K5) (ckP (IsC K5 0 9) (bd2 (vX9_answered K5 r4 σ6) (fun r9 σ10 => some (r9, K5, σ10))))))))
set_option maxRecDepth 100000 in
set_option maxHeartbeats 4000000 in
theorem tX9_pass {Γ : Gx} (K : Kt) (σ : Sg) : Y Γ MX9_pass K emIK K 0 [some (aR 0)] [] σ (vX9_pass K σ) := by
  unfold vX9_pass
  refine y_aload_n dX9_pass_0 rfl rfl ?_
  refine y_aload_n dX9_pass_1 rfl rfl ?_
  refine y_iconst dX9_pass_2 (by decide) ?_
  refine y_iconst dX9_pass_3 (by decide) ?_
  refine y_iconst dX9_pass_4 (by decide) ?_
  refine y_aload_n dX9_pass_5 rfl rfl ?_
  refine y_ckP (fun hc1 => ?_)
  refine yb_getR fX9_28 hc1 rfl dX9_pass_6 (fun t2 ht2 => ?_)
  refine y_ckP (fun hc3 => ?_)
  refine y_cvIK (qX9_act 3 0 0 t2 K σ (fun ou hou => (tX9_act (Γ := Γ) 3 0 0 t2 K σ ou hou).1)) kX9_252 rfl hc3 rfl (by decide) rfl (Nat.le_of_ble_eq_true rfl) dX9_pass_9 (fun r4 K5 σ6 => ?_)
  refine y_ckP (fun hp7 => ?_)
  refine y_ckP (fun hc8 => ?_)
  refine y_cvIS (qX9_answered hp7 r4 σ6) kX9_304 rfl hc8 rfl (by decide) rfl (Nat.le_of_ble_eq_true rfl) dX9_pass_12 (fun r9 σ10 => ?_)
  exact y_iret rfl rfl dX9_pass_15
theorem qX9_pass (K : Kt) (σ : Sg) (hg : ∀ ou, vX9_pass K σ = some ou → Gr K (emIK ou).2.1) : Cc MX9_pass K [aR 0] σ emIK (vX9_pass K σ) := cc_of plX9 (Nat.le_of_ble_eq_true rfl) hg (fun Γ => tX9_pass K σ)
noncomputable def vX9_runs_150 (x6 : Int) (K : Kt) (σ : Sg) : Option (Int × Kt × Sg) := ckP (IsC K 0 9) ((K.1 0 10).bind (fun t2 => ckP (IsA K t2 20 (K.2.1 t2).2) (ck (0 ≤ (2 : Int) ∧ (2 : Int) < ((K.2.1 t2).2 : Int)) (nm (up2 σ t2 2 x6) (fun σ4 => some (1, K, σ4))))))
set_option maxRecDepth 100000 in
set_option maxHeartbeats 4000000 in
theorem tX9_runs_150 {Γ : Gx} {K0 : Kt} (x6 : Int) (K : Kt) (σ : Sg) : Y Γ MX9_runs K0 emIK K 150 [some (aR 0), none, none, none, none, none, some (aI x6)] [] σ (vX9_runs_150 x6 K σ) := by
  unfold vX9_runs_150
  refine y_aload_n dX9_runs_150 rfl rfl ?_
  refine y_ckP (fun hc1 => ?_)
  refine yb_getR fX9_72 hc1 rfl dX9_runs_151 (fun t2 ht2 => ?_)
  refine y_iconst dX9_runs_154 (by decide) ?_
  refine y_iload dX9_runs_155 rfl ?_
  refine y_ckP (fun hc3 => ?_)
  refine yk_iastore hc3 (N := ((K.2.1 t2).2 : Int)) rfl (j := 2) rfl dX9_runs_157 (fun σ4 => ?_)
  refine y_iconst dX9_runs_158 (by decide) ?_
  exact y_zret (by decide) rfl rfl dX9_runs_159
noncomputable def vX9_runs_82 (x1 : Nat) (x2 : Int) (x3 : Int) (y0 : Int) (K : Kt) (σ : Sg) : Option (Int × Kt × Sg) := if x3 = (-2000000000) then (some (0, K, σ)) else (if y0 = (-2000000000) then (some (0, K, σ)) else (ckP (IsC K x1 7) ((K.1 x1 0).bind (fun t4 => ckP (IsA K t4 20 (K.2.1 t4).2) (ck (0 ≤ x2 ∧ x2 < ((K.2.1 t4).2 : Int)) (nm (σ t4 x2.toNat) (fun z6 => ckP (IsC K 0 9) ((K.1 0 3).bind (fun t8 => ckP (IsC K 0 9) (bdIK (vX9_act z6 x3 y0 t8 K σ) (fun r10 K11 σ12 => if r10 < 0 then (some (0, K11, σ12)) else (ckP (IsC K11 0 9) ((K11.1 0 10).bind (fun t15 => ckP (IsA K11 t15 20 (K11.2.1 t15).2) (ck (0 ≤ (1 : Int) ∧ (1 : Int) < ((K11.2.1 t15).2 : Int)) (ck (in32 ((σ12 t15 1) + 1)) (ckP (IsA K11 t15 20 (K11.2.1 t15).2) (ck (0 ≤ (1 : Int) ∧ (1 : Int) < ((K11.2.1 t15).2 : Int)) (nm (up2 σ12 t15 1 ((σ12 t15 1) + 1)) (fun σ18 => if z6 = 0 then (vX9_runs_150 r10 K11 σ18) else (if z6 = 1 then (vX9_runs_150 r10 K11 σ18) else (some (1, K11, σ18)))))))))))))))))))))))
set_option maxRecDepth 100000 in
set_option maxHeartbeats 4000000 in
theorem tX9_runs_82 {Γ : Gx} {K0 : Kt} (x1 : Nat) (x2 : Int) (x3 : Int) (y0 : Int) (K : Kt) (σ : Sg) : Y Γ MX9_runs K0 emIK K 82 [some (aR 0), some (aR x1), some (aI x2), some (aI x3), none, none, none] [aI y0] σ (vX9_runs_82 x1 x2 x3 y0 K σ) := by
  unfold vX9_runs_82
  refine y_istore dX9_runs_82 (Nat.le_of_ble_eq_true rfl) (L' := [some (aR 0), some (aR x1), some (aI x2), some (aI x3), some (aI y0), none, none]) rfl ?_
  refine y_iload_n dX9_runs_84 rfl rfl ?_
  refine y_ldc (-2000000000) wX9_c248 dX9_runs_85 (by decide) (by decide) ?_
  refine y_ite (fun h1 => ?_) (fun h1 => ?_)
  · refine y_icmp_eq_t dX9_runs_87 (t := 97) rfl h1 ?_
    refine y_iconst dX9_runs_97 (by decide) ?_
    exact y_zret (by decide) rfl rfl dX9_runs_98
  · refine y_icmp_eq_f dX9_runs_87 (t := 97) rfl h1 ?_
    refine y_iload dX9_runs_90 rfl ?_
    refine y_ldc (-2000000000) wX9_c248 dX9_runs_92 (by decide) (by decide) ?_
    refine y_ite (fun h2 => ?_) (fun h2 => ?_)
    · refine y_icmp_ne_f dX9_runs_94 (t := 99) rfl h2 ?_
      refine y_iconst dX9_runs_97 (by decide) ?_
      exact y_zret (by decide) rfl rfl dX9_runs_98
    · refine y_icmp_ne_t dX9_runs_94 (t := 99) rfl h2 ?_
      refine y_aload_n dX9_runs_99 rfl rfl ?_
      refine y_ckP (fun hc3 => ?_)
      refine yb_getR fX9_249 hc3 rfl dX9_runs_100 (fun t4 ht4 => ?_)
      refine y_iload_n dX9_runs_103 rfl rfl ?_
      refine y_ckP (fun hc5 => ?_)
      refine yk_iaload hc5 (N := ((K.2.1 t4).2 : Int)) rfl (j := x2.toNat) rfl dX9_runs_104 ?_
      refine yn_istore dX9_runs_105 (Nat.le_of_ble_eq_true rfl) (L' := fun z6 => [some (aR 0), some (aR x1), some (aI x2), some (aI x3), some (aI y0), some (aI z6), none]) (fun _ => rfl) (fun z6 => ?_)
      refine y_aload_n dX9_runs_107 rfl rfl ?_
      refine y_iload dX9_runs_108 rfl ?_
      refine y_iload_n dX9_runs_110 rfl rfl ?_
      refine y_iload dX9_runs_111 rfl ?_
      refine y_aload_n dX9_runs_113 rfl rfl ?_
      refine y_ckP (fun hc7 => ?_)
      refine yb_getR fX9_32 hc7 rfl dX9_runs_114 (fun t8 ht8 => ?_)
      refine y_ckP (fun hc9 => ?_)
      refine y_cvIK (qX9_act z6 x3 y0 t8 K σ (fun ou hou => (tX9_act (Γ := Γ) z6 x3 y0 t8 K σ ou hou).1)) kX9_252 rfl hc9 rfl (by decide) rfl (Nat.le_of_ble_eq_true rfl) dX9_runs_117 (fun r10 K11 σ12 => ?_)
      refine y_istore dX9_runs_120 (Nat.le_of_ble_eq_true rfl) (L' := [some (aR 0), some (aR x1), some (aI x2), some (aI x3), some (aI y0), some (aI z6), some (aI r10)]) rfl ?_
      refine y_iload dX9_runs_122 rfl ?_
      refine y_ite (fun h13 => ?_) (fun h13 => ?_)
      · refine y_if_ge_f dX9_runs_124 (t := 129) rfl h13 ?_
        refine y_iconst dX9_runs_127 (by decide) ?_
        exact y_zret (by decide) rfl rfl dX9_runs_128
      · refine y_if_ge_t dX9_runs_124 (t := 129) rfl h13 ?_
        refine y_aload_n dX9_runs_129 rfl rfl ?_
        refine y_ckP (fun hc14 => ?_)
        refine yb_getR fX9_72 hc14 rfl dX9_runs_130 (fun t15 ht15 => ?_)
        refine y_iconst dX9_runs_133 (by decide) ?_
        refine y_dup2 dX9_runs_134 (fun _ => rfl) (fun _ => rfl) ?_
        refine y_ckP (fun hc16 => ?_)
        refine yk_iaload hc16 (N := ((K11.2.1 t15).2 : Int)) rfl (j := 1) rfl dX9_runs_135 ?_
        refine y_iconst dX9_runs_136 (by decide) ?_
        refine yk_iadd dX9_runs_137 ?_
        refine y_ckP (fun hc17 => ?_)
        refine yk_iastore hc17 (N := ((K11.2.1 t15).2 : Int)) rfl (j := 1) rfl dX9_runs_138 (fun σ18 => ?_)
        refine y_iload dX9_runs_139 rfl ?_
        refine y_ite (fun h19 => ?_) (fun h19 => ?_)
        · refine y_if_eq_t dX9_runs_141 (t := 150) rfl h19 ?_
          refine y_fg [true, false, false, false, false, false, true] (L' := [some (aR 0), none, none, none, none, none, some (aI r10)]) rfl ?_
          exact tX9_runs_150 r10 K11 σ18
        · refine y_if_eq_f dX9_runs_141 (t := 150) rfl h19 ?_
          refine y_iload dX9_runs_144 rfl ?_
          refine y_iconst dX9_runs_146 (by decide) ?_
          refine y_ite (fun h20 => ?_) (fun h20 => ?_)
          · refine y_icmp_ne_f dX9_runs_147 (t := 158) rfl h20 ?_
            refine y_fg [true, false, false, false, false, false, true] (L' := [some (aR 0), none, none, none, none, none, some (aI r10)]) rfl ?_
            exact tX9_runs_150 r10 K11 σ18
          · refine y_icmp_ne_t dX9_runs_147 (t := 158) rfl h20 ?_
            refine y_iconst dX9_runs_158 (by decide) ?_
            exact y_zret (by decide) rfl rfl dX9_runs_159
noncomputable def vX9_runs_56 (x1 : Nat) (x2 : Int) (y0 : Int) (K : Kt) (σ : Sg) : Option (Int × Kt × Sg) := ckP (IsC K x1 7) ((K.1 x1 2).bind (fun t2 => ckP (IsA K t2 20 (K.2.1 t2).2) (ck (0 ≤ x2 ∧ x2 < ((K.2.1 t2).2 : Int)) (if (σ t2 x2.toNat) = (-1) then (vX9_runs_82 x1 x2 y0 0 K σ) else (ckP (IsC K x1 7) ((K.1 x1 2).bind (fun t6 => ckP (IsA K t6 20 (K.2.1 t6).2) (ck (0 ≤ x2 ∧ x2 < ((K.2.1 t6).2 : Int)) (ckP (cLay K) (ckP (IsC K 0 9) (bd2 (vX9_valueOf K x1 (σ t6 x2.toNat) σ) (fun r10 σ11 => vX9_runs_82 x1 x2 y0 r10 K σ11))))))))))))
set_option maxRecDepth 100000 in
set_option maxHeartbeats 4000000 in
theorem tX9_runs_56 {Γ : Gx} {K0 : Kt} (x1 : Nat) (x2 : Int) (y0 : Int) (K : Kt) (σ : Sg) : Y Γ MX9_runs K0 emIK K 56 [some (aR 0), some (aR x1), some (aI x2), none, none, none, none] [aI y0] σ (vX9_runs_56 x1 x2 y0 K σ) := by
  unfold vX9_runs_56
  refine y_istore_n dX9_runs_56 rfl (Nat.le_of_ble_eq_true rfl) (L' := [some (aR 0), some (aR x1), some (aI x2), some (aI y0), none, none, none]) rfl ?_
  refine y_aload_n dX9_runs_57 rfl rfl ?_
  refine y_ckP (fun hc1 => ?_)
  refine yb_getR fX9_245 hc1 rfl dX9_runs_58 (fun t2 ht2 => ?_)
  refine y_iload_n dX9_runs_61 rfl rfl ?_
  refine y_ckP (fun hc3 => ?_)
  refine yk_iaload hc3 (N := ((K.2.1 t2).2 : Int)) rfl (j := x2.toNat) rfl dX9_runs_62 ?_
  refine y_iconst dX9_runs_63 (by decide) ?_
  refine y_ite (fun h4 => ?_) (fun h4 => ?_)
  · refine y_icmp_ne_f dX9_runs_64 (t := 71) rfl h4 ?_
    refine y_iconst dX9_runs_67 (by decide) ?_
    refine y_goto dX9_runs_68 (t := 82) rfl ?_
    exact tX9_runs_82 x1 x2 y0 0 K σ
  · refine y_icmp_ne_t dX9_runs_64 (t := 71) rfl h4 ?_
    refine y_aload_n dX9_runs_71 rfl rfl ?_
    refine y_aload_n dX9_runs_72 rfl rfl ?_
    refine y_aload_n dX9_runs_73 rfl rfl ?_
    refine y_ckP (fun hc5 => ?_)
    refine yb_getR fX9_245 hc5 rfl dX9_runs_74 (fun t6 ht6 => ?_)
    refine y_iload_n dX9_runs_77 rfl rfl ?_
    refine y_ckP (fun hc7 => ?_)
    refine yk_iaload hc7 (N := ((K.2.1 t6).2 : Int)) rfl (j := x2.toNat) rfl dX9_runs_78 ?_
    refine y_ckP (fun hp8 => ?_)
    refine y_ckP (fun hc9 => ?_)
    refine y_cvIS (qX9_valueOf hp8 x1 (σ t6 x2.toNat) σ) kX9_238 rfl hc9 rfl (by decide) rfl (Nat.le_of_ble_eq_true rfl) dX9_runs_79 (fun r10 σ11 => ?_)
    exact tX9_runs_82 x1 x2 y0 r10 K σ11
noncomputable def vX9_runs_31 (x1 : Nat) (x2 : Int) (K : Kt) (σ : Sg) : Option (Int × Kt × Sg) := ckP (IsC K x1 7) ((K.1 x1 1).bind (fun t2 => ckP (IsA K t2 20 (K.2.1 t2).2) (ck (0 ≤ x2 ∧ x2 < ((K.2.1 t2).2 : Int)) (if (σ t2 x2.toNat) = (-1) then (vX9_runs_56 x1 x2 0 K σ) else (ckP (IsC K x1 7) ((K.1 x1 1).bind (fun t6 => ckP (IsA K t6 20 (K.2.1 t6).2) (ck (0 ≤ x2 ∧ x2 < ((K.2.1 t6).2 : Int)) (ckP (cLay K) (ckP (IsC K 0 9) (bd2 (vX9_valueOf K x1 (σ t6 x2.toNat) σ) (fun r10 σ11 => vX9_runs_56 x1 x2 r10 K σ11))))))))))))
set_option maxRecDepth 100000 in
set_option maxHeartbeats 4000000 in
theorem tX9_runs_31 {Γ : Gx} {K0 : Kt} (x1 : Nat) (x2 : Int) (K : Kt) (σ : Sg) : Y Γ MX9_runs K0 emIK K 31 [some (aR 0), some (aR x1), some (aI x2), none, none, none, none] [] σ (vX9_runs_31 x1 x2 K σ) := by
  unfold vX9_runs_31
  refine y_aload_n dX9_runs_31 rfl rfl ?_
  refine y_ckP (fun hc1 => ?_)
  refine yb_getR fX9_242 hc1 rfl dX9_runs_32 (fun t2 ht2 => ?_)
  refine y_iload_n dX9_runs_35 rfl rfl ?_
  refine y_ckP (fun hc3 => ?_)
  refine yk_iaload hc3 (N := ((K.2.1 t2).2 : Int)) rfl (j := x2.toNat) rfl dX9_runs_36 ?_
  refine y_iconst dX9_runs_37 (by decide) ?_
  refine y_ite (fun h4 => ?_) (fun h4 => ?_)
  · refine y_icmp_ne_f dX9_runs_38 (t := 45) rfl h4 ?_
    refine y_iconst dX9_runs_41 (by decide) ?_
    refine y_goto dX9_runs_42 (t := 56) rfl ?_
    exact tX9_runs_56 x1 x2 0 K σ
  · refine y_icmp_ne_t dX9_runs_38 (t := 45) rfl h4 ?_
    refine y_aload_n dX9_runs_45 rfl rfl ?_
    refine y_aload_n dX9_runs_46 rfl rfl ?_
    refine y_aload_n dX9_runs_47 rfl rfl ?_
    refine y_ckP (fun hc5 => ?_)
    refine yb_getR fX9_242 hc5 rfl dX9_runs_48 (fun t6 ht6 => ?_)
    refine y_iload_n dX9_runs_51 rfl rfl ?_
    refine y_ckP (fun hc7 => ?_)
    refine yk_iaload hc7 (N := ((K.2.1 t6).2 : Int)) rfl (j := x2.toNat) rfl dX9_runs_52 ?_
    refine y_ckP (fun hp8 => ?_)
    refine y_ckP (fun hc9 => ?_)
    refine y_cvIS (qX9_valueOf hp8 x1 (σ t6 x2.toNat) σ) kX9_238 rfl hc9 rfl (by decide) rfl (Nat.le_of_ble_eq_true rfl) dX9_runs_53 (fun r10 σ11 => ?_)
    exact tX9_runs_56 x1 x2 r10 K σ11
noncomputable def vX9_runs (p1 : Nat) (p2 : Int) (K : Kt) (σ : Sg) : Option (Int × Kt × Sg) := ckP (cLay K) (ckP (IsC K 0 9) ((vX9_tellOrderWords K σ).bind (fun σ3 => ckP (IsC K p1 7) ((K.1 p1 3).bind (fun t5 => ckP (IsA K t5 20 (K.2.1 t5).2) (ck (0 ≤ p2 ∧ p2 < ((K.2.1 t5).2 : Int)) (if (σ3 t5 p2.toNat) = (-1) then (vX9_runs_31 p1 p2 K σ3) else (ckP (IsC K p1 7) ((K.1 p1 3).bind (fun t9 => ckP (IsA K t9 20 (K.2.1 t9).2) (ck (0 ≤ p2 ∧ p2 < ((K.2.1 t9).2 : Int)) (ckP (cLay K) (ckP (IsC K 0 9) (bd2 (vX9_valueOf K p1 (σ3 t9 p2.toNat) σ3) (fun r13 σ14 => if r13 = 1 then (vX9_runs_31 p1 p2 K σ14) else (some (1, K, σ14)))))))))))))))))
set_option maxRecDepth 100000 in
set_option maxHeartbeats 4000000 in
theorem tX9_runs {Γ : Gx} (p1 : Nat) (p2 : Int) (K : Kt) (σ : Sg) : Y Γ MX9_runs K emIK K 0 [some (aR 0), some (aR p1), some (aI p2), none, none, none, none] [] σ (vX9_runs p1 p2 K σ) := by
  unfold vX9_runs
  refine y_aload_n dX9_runs_0 rfl rfl ?_
  refine y_ckP (fun hp1 => ?_)
  refine y_ckP (fun hc2 => ?_)
  refine y_cvV (qX9_tellOrderWords hp1 σ) kX9_232 rfl hc2 rfl (by decide) rfl (Nat.le_of_ble_eq_true rfl) dX9_runs_1 (fun σ3 => ?_)
  refine y_aload_n dX9_runs_4 rfl rfl ?_
  refine y_ckP (fun hc4 => ?_)
  refine yb_getR fX9_235 hc4 rfl dX9_runs_5 (fun t5 ht5 => ?_)
  refine y_iload_n dX9_runs_8 rfl rfl ?_
  refine y_ckP (fun hc6 => ?_)
  refine yk_iaload hc6 (N := ((K.2.1 t5).2 : Int)) rfl (j := p2.toNat) rfl dX9_runs_9 ?_
  refine y_iconst dX9_runs_10 (by decide) ?_
  refine y_ite (fun h7 => ?_) (fun h7 => ?_)
  · refine y_icmp_eq_t dX9_runs_11 (t := 31) rfl h7 ?_
    exact tX9_runs_31 p1 p2 K σ3
  · refine y_icmp_eq_f dX9_runs_11 (t := 31) rfl h7 ?_
    refine y_aload_n dX9_runs_14 rfl rfl ?_
    refine y_aload_n dX9_runs_15 rfl rfl ?_
    refine y_aload_n dX9_runs_16 rfl rfl ?_
    refine y_ckP (fun hc8 => ?_)
    refine yb_getR fX9_235 hc8 rfl dX9_runs_17 (fun t9 ht9 => ?_)
    refine y_iload_n dX9_runs_20 rfl rfl ?_
    refine y_ckP (fun hc10 => ?_)
    refine yk_iaload hc10 (N := ((K.2.1 t9).2 : Int)) rfl (j := p2.toNat) rfl dX9_runs_21 ?_
    refine y_ckP (fun hp11 => ?_)
    refine y_ckP (fun hc12 => ?_)
    refine y_cvIS (qX9_valueOf hp11 p1 (σ3 t9 p2.toNat) σ3) kX9_238 rfl hc12 rfl (by decide) rfl (Nat.le_of_ble_eq_true rfl) dX9_runs_22 (fun r13 σ14 => ?_)
    refine y_iconst dX9_runs_25 (by decide) ?_
    refine y_ite (fun h15 => ?_) (fun h15 => ?_)
    · refine y_icmp_eq_t dX9_runs_26 (t := 31) rfl h15 ?_
      exact tX9_runs_31 p1 p2 K σ14
    · refine y_icmp_eq_f dX9_runs_26 (t := 31) rfl h15 ?_
      refine y_iconst dX9_runs_29 (by decide) ?_
      exact y_zret (by decide) rfl rfl dX9_runs_30
theorem qX9_runs (p1 : Nat) (p2 : Int) (K : Kt) (σ : Sg) (hg : ∀ ou, vX9_runs p1 p2 K σ = some ou → Gr K (emIK ou).2.1) : Cc MX9_runs K [aR 0, aR p1, aI p2] σ emIK (vX9_runs p1 p2 K σ) := cc_of plX9 (Nat.le_of_ble_eq_true rfl) hg (fun Γ => tX9_runs p1 p2 K σ)
noncomputable def vX9_orders_83 (rec_67 : Int → Kt → Sg → Option (Int × Kt × Sg)) : Nat → Int → Int → Kt → Sg → Option (Int × Kt × Sg)
  | 0, _, _, _, _ => none
  | f + 1, x2, x3, K, σ => ckP (IsC K 0 9) ((K.1 0 7).bind (fun t2 => ckP (IsC K t2 4) ((K.1 t2 1).bind (fun t4 => ckP (IsC K t4 7) ((K.1 t4 4).bind (fun t6 => ckP (IsA K t6 20 (K.2.1 t6).2) (ck (0 ≤ x2 ∧ x2 < ((K.2.1 t6).2 : Int)) (if x3 < (σ t6 x2.toNat) then (ckP (IsC K 0 9) ((K.1 0 7).bind (fun t10 => ckP (IsC K t10 4) ((K.1 t10 1).bind (fun t12 => ckP (IsC K 0 9) (bdIK (vX9_runs t12 x2 K σ) (fun r14 K15 σ16 => if r14 = 0 then (ckP (IsC K15 0 9) ((K15.1 0 1).bind (fun t19 => ckP (IsC K15 0 9) ((K15.1 0 4).bind (fun t21 => ckP (hallAt K15 t19) (ckP (hallAt K15 t21) (ckP (IsC K15 t19 1) ((vX1_copyFrom K15 t19 t21 σ16).bind (fun σ25 => ckP (IsC K15 0 9) (nm (up2 σ25 0 13 x2) (fun σ27 => ckP (cLay K15) (ckP (IsC K15 0 9) (bd2 (vX9_refuse K15 (-3) σ27) (fun r30 σ31 => some (r30, K15, σ31))))))))))))))) else (ck (in32 (x3 + 1)) (vX9_orders_83 rec_67 f x2 (x3 + 1) K15 σ16))))))))) else (ck (in32 (x2 + 1)) (rec_67 (x2 + 1) K σ))))))))))
set_option maxRecDepth 100000 in
set_option maxHeartbeats 4000000 in
theorem tX9_orders_83 {Γ : Gx} {K0 : Kt} (rec_67 : Int → Kt → Sg → Option (Int × Kt × Sg)) (hrec_67 : ∀ (x2 : Int) (K : Kt) (σ : Sg), Y Γ MX9_orders K0 emIK K 67 [some (aR 0), none, some (aI x2), none] [] σ (rec_67 x2 K σ)) : ∀ (f : Nat) (x2 : Int) (x3 : Int) (K : Kt) (σ : Sg), Y Γ MX9_orders K0 emIK K 83 [some (aR 0), none, some (aI x2), some (aI x3)] [] σ (vX9_orders_83 rec_67 f x2 x3 K σ) := by
  intro f
  induction f with
  | zero => intro x2 x3 K σ; exact y_none
  | succ f ih =>
    intro x2 x3 K σ
    rw [vX9_orders_83]
    refine y_iload_n dX9_orders_83 rfl rfl ?_
    refine y_aload_n dX9_orders_84 rfl rfl ?_
    refine y_ckP (fun hc1 => ?_)
    refine yb_getR fX9_53 hc1 rfl dX9_orders_85 (fun t2 ht2 => ?_)
    refine y_ckP (fun hc3 => ?_)
    refine yb_getR fX9_202 hc3 rfl dX9_orders_88 (fun t4 ht4 => ?_)
    refine y_ckP (fun hc5 => ?_)
    refine yb_getR fX9_221 hc5 rfl dX9_orders_91 (fun t6 ht6 => ?_)
    refine y_iload_n dX9_orders_94 rfl rfl ?_
    refine y_ckP (fun hc7 => ?_)
    refine yk_iaload hc7 (N := ((K.2.1 t6).2 : Int)) rfl (j := x2.toNat) rfl dX9_orders_95 ?_
    refine y_ite (fun h8 => ?_) (fun h8 => ?_)
    · refine y_icmp_ge_f dX9_orders_96 (t := 143) rfl h8 ?_
      refine y_aload_n dX9_orders_99 rfl rfl ?_
      refine y_aload_n dX9_orders_100 rfl rfl ?_
      refine y_ckP (fun hc9 => ?_)
      refine yb_getR fX9_53 hc9 rfl dX9_orders_101 (fun t10 ht10 => ?_)
      refine y_ckP (fun hc11 => ?_)
      refine yb_getR fX9_202 hc11 rfl dX9_orders_104 (fun t12 ht12 => ?_)
      refine y_iload_n dX9_orders_107 rfl rfl ?_
      refine y_ckP (fun hc13 => ?_)
      refine y_cvIK (qX9_runs t12 x2 K σ (fun ou hou => (tX9_runs (Γ := Γ) t12 x2 K σ ou hou).1)) kX9_224 rfl hc13 rfl (by decide) rfl (Nat.le_of_ble_eq_true rfl) dX9_orders_108 (fun r14 K15 σ16 => ?_)
      refine y_ite (fun h17 => ?_) (fun h17 => ?_)
      · refine y_if_ne_f dX9_orders_111 (t := 137) rfl h17 ?_
        refine y_aload_n dX9_orders_114 rfl rfl ?_
        refine y_ckP (fun hc18 => ?_)
        refine yb_getR fX9_21 hc18 rfl dX9_orders_115 (fun t19 ht19 => ?_)
        refine y_aload_n dX9_orders_118 rfl rfl ?_
        refine y_ckP (fun hc20 => ?_)
        refine yb_getR fX9_35 hc20 rfl dX9_orders_119 (fun t21 ht21 => ?_)
        refine y_ckP (fun hp22 => ?_)
        refine y_ckP (fun hp23 => ?_)
        refine y_ckP (fun hc24 => ?_)
        refine y_cvV (qX1_copyFrom hp22 hp23 σ16) kX9_215 rfl hc24 rfl (by decide) rfl (Nat.le_of_ble_eq_true rfl) dX9_orders_122 (fun σ25 => ?_)
        refine y_aload_n dX9_orders_125 rfl rfl ?_
        refine y_iload_n dX9_orders_126 rfl rfl ?_
        refine y_ckP (fun hc26 => ?_)
        refine yn_putI fX9_83 hc26 rfl rfl dX9_orders_127 (fun σ27 => ?_)
        refine y_aload_n dX9_orders_130 rfl rfl ?_
        refine y_bipush dX9_orders_131 (by decide) (by decide) ?_
        refine y_ckP (fun hp28 => ?_)
        refine y_ckP (fun hc29 => ?_)
        refine y_cvIS (qX9_refuse hp28 (-3) σ27) kX9_89 rfl hc29 rfl (by decide) rfl (Nat.le_of_ble_eq_true rfl) dX9_orders_133 (fun r30 σ31 => ?_)
        exact y_iret rfl rfl dX9_orders_136
      · refine y_if_ne_t dX9_orders_111 (t := 137) rfl h17 ?_
        refine yk_iinc dX9_orders_137 rfl (L' := [some (aR 0), none, some (aI x2), some (aI (x3 + 1))]) rfl ?_
        refine y_goto dX9_orders_140 (t := 83) rfl ?_
        exact ih x2 (x3 + 1) K15 σ16
    · refine y_icmp_ge_t dX9_orders_96 (t := 143) rfl h8 ?_
      refine yk_iinc dX9_orders_143 rfl (L' := [some (aR 0), none, some (aI (x2 + 1)), some (aI x3)]) rfl ?_
      refine y_goto dX9_orders_146 (t := 67) rfl ?_
      refine y_fg [true, false, true, false] (L' := [some (aR 0), none, some (aI (x2 + 1)), none]) rfl ?_
      exact hrec_67 (x2 + 1) K σ
noncomputable def vX9_orders_67 : Nat → Int → Kt → Sg → Option (Int × Kt × Sg)
  | 0, _, _, _ => none
  | f + 1, x2, K, σ => ckP (IsC K 0 9) ((K.1 0 7).bind (fun t2 => ckP (IsC K t2 4) ((K.1 t2 1).bind (fun t4 => ckP (IsC K t4 7) (if x2 < (σ t4 6) then (vX9_orders_83 (vX9_orders_67 f) FU x2 0 K σ) else (ckP (IsC K 0 9) ((K.1 0 2).bind (fun t8 => ckP (IsC K 0 9) ((K.1 0 3).bind (fun t10 => ckP (IsC K t8 8) (bdVK (vX8_addAll t8 t10 K σ) (fun K12 σ13 => ckP (IsC K12 0 9) ((K12.1 0 10).bind (fun t15 => ckP (IsA K12 t15 20 (K12.2.1 t15).2) (ck (0 ≤ (1 : Int) ∧ (1 : Int) < ((K12.2.1 t15).2 : Int)) (ckP (cLay K12) (ckP (IsC K12 0 9) (bd2 (vX9_grant K12 (σ13 t15 1) σ13) (fun r19 σ20 => some (r19, K12, σ20))))))))))))))))))))
set_option maxRecDepth 100000 in
set_option maxHeartbeats 4000000 in
theorem tX9_orders_67 {Γ : Gx} {K0 : Kt} : ∀ (f : Nat) (x2 : Int) (K : Kt) (σ : Sg), Y Γ MX9_orders K0 emIK K 67 [some (aR 0), none, some (aI x2), none] [] σ (vX9_orders_67 f x2 K σ) := by
  intro f
  induction f with
  | zero => intro x2 K σ; exact y_none
  | succ f ih =>
    intro x2 K σ
    rw [vX9_orders_67]
    refine y_iload_n dX9_orders_67 rfl rfl ?_
    refine y_aload_n dX9_orders_68 rfl rfl ?_
    refine y_ckP (fun hc1 => ?_)
    refine yb_getR fX9_53 hc1 rfl dX9_orders_69 (fun t2 ht2 => ?_)
    refine y_ckP (fun hc3 => ?_)
    refine yb_getR fX9_202 hc3 rfl dX9_orders_72 (fun t4 ht4 => ?_)
    refine y_ckP (fun hc5 => ?_)
    refine y_getI fX9_218 hc5 rfl dX9_orders_75 ?_
    refine y_ite (fun h6 => ?_) (fun h6 => ?_)
    · refine y_icmp_ge_f dX9_orders_78 (t := 149) rfl h6 ?_
      refine y_iconst dX9_orders_81 (by decide) ?_
      refine y_istore_n dX9_orders_82 rfl (Nat.le_of_ble_eq_true rfl) (L' := [some (aR 0), none, some (aI x2), some (aI 0)]) rfl ?_
      exact tX9_orders_83 (vX9_orders_67 f) ih FU x2 0 K σ
    · refine y_icmp_ge_t dX9_orders_78 (t := 149) rfl h6 ?_
      refine y_aload_n dX9_orders_149 rfl rfl ?_
      refine y_ckP (fun hc7 => ?_)
      refine yb_getR fX9_28 hc7 rfl dX9_orders_150 (fun t8 ht8 => ?_)
      refine y_aload_n dX9_orders_153 rfl rfl ?_
      refine y_ckP (fun hc9 => ?_)
      refine yb_getR fX9_32 hc9 rfl dX9_orders_154 (fun t10 ht10 => ?_)
      refine y_ckP (fun hc11 => ?_)
      refine y_cvVK (qX8_addAll t8 t10 K σ (fun ou hou => (tX8_addAll (Γ := Γ) t8 t10 K σ ou hou).1)) kX9_228 rfl hc11 rfl (by decide) rfl (Nat.le_of_ble_eq_true rfl) dX9_orders_157 (fun K12 σ13 => ?_)
      refine y_aload_n dX9_orders_160 rfl rfl ?_
      refine y_aload_n dX9_orders_161 rfl rfl ?_
      refine y_ckP (fun hc14 => ?_)
      refine yb_getR fX9_72 hc14 rfl dX9_orders_162 (fun t15 ht15 => ?_)
      refine y_iconst dX9_orders_165 (by decide) ?_
      refine y_ckP (fun hc16 => ?_)
      refine yk_iaload hc16 (N := ((K12.2.1 t15).2 : Int)) rfl (j := 1) rfl dX9_orders_166 ?_
      refine y_ckP (fun hp17 => ?_)
      refine y_ckP (fun hc18 => ?_)
      refine y_cvIS (qX9_grant hp17 (σ13 t15 1) σ13) kX9_93 rfl hc18 rfl (by decide) rfl (Nat.le_of_ble_eq_true rfl) dX9_orders_167 (fun r19 σ20 => ?_)
      exact y_iret rfl rfl dX9_orders_170
noncomputable def vX9_orders (K : Kt) (σ : Sg) : Option (Int × Kt × Sg) := ckP (IsC K 0 9) ((K.1 0 7).bind (fun t2 => ckP (cLay K ∧ t2 = 63) (ckP (IsC K t2 4) (bd2 (vX4_reads K 0 σ) (fun r5 σ6 => ckP (IsC K 0 9) ((K.1 0 6).bind (fun t8 => ckP (IsC K t8 6) (nm (up2 σ6 t8 1 0) (fun σ10 => ckP (IsC K 0 9) (nm (up2 σ10 0 13 (-1)) (fun σ12 => if r5 = 0 then (ckP (cLay K) (ckP (IsC K 0 9) (bd2 (vX9_refuse K (-6) σ12) (fun r16 σ17 => some (r16, K, σ17))))) else (ckP (IsC K 0 9) ((K.1 0 4).bind (fun t19 => ckP (IsC K 0 9) ((K.1 0 1).bind (fun t21 => ckP (hallAt K t19) (ckP (hallAt K t21) (ckP (IsC K t19 1) ((vX1_copyFrom K t19 t21 σ12).bind (fun σ25 => ckP (IsC K 0 9) ((K.1 0 3).bind (fun t27 => ckP (uAt K t27) (ckP (IsC K t27 8) ((vX8_forget K t27 σ25).bind (fun σ30 => ckP (IsC K 0 9) ((K.1 0 10).bind (fun t32 => ckP (IsA K t32 20 (K.2.1 t32).2) (ck (0 ≤ (1 : Int) ∧ (1 : Int) < ((K.2.1 t32).2 : Int)) (nm (up2 σ30 t32 1 0) (fun σ34 => ckP (IsC K 0 9) ((K.1 0 10).bind (fun t36 => ckP (IsA K t36 20 (K.2.1 t36).2) (ck (0 ≤ (2 : Int) ∧ (2 : Int) < ((K.2.1 t36).2 : Int)) (nm (up2 σ34 t36 2 (-1)) (fun σ38 => vX9_orders_67 FU 0 K σ38)))))))))))))))))))))))))))))))))))
set_option maxRecDepth 100000 in
set_option maxHeartbeats 4000000 in
theorem tX9_orders {Γ : Gx} (K : Kt) (σ : Sg) : Y Γ MX9_orders K emIK K 0 [some (aR 0), none, none, none] [] σ (vX9_orders K σ) := by
  unfold vX9_orders
  refine y_aload_n dX9_orders_0 rfl rfl ?_
  refine y_ckP (fun hc1 => ?_)
  refine yb_getR fX9_53 hc1 rfl dX9_orders_1 (fun t2 ht2 => ?_)
  refine y_iconst dX9_orders_4 (by decide) ?_
  refine y_ckP (fun hp3 => ?_)
  refine y_ckP (fun hc4 => ?_)
  refine y_cvIS (by rw [hp3.2]; exact qX4_reads hp3.1 0 σ) kX9_198 rfl hc4 rfl (by decide) rfl (Nat.le_of_ble_eq_true rfl) dX9_orders_5 (fun r5 σ6 => ?_)
  refine y_istore_n dX9_orders_8 rfl (Nat.le_of_ble_eq_true rfl) (L' := [some (aR 0), some (aI r5), none, none]) rfl ?_
  refine y_aload_n dX9_orders_9 rfl rfl ?_
  refine y_ckP (fun hc7 => ?_)
  refine yb_getR fX9_44 hc7 rfl dX9_orders_10 (fun t8 ht8 => ?_)
  refine y_iconst dX9_orders_13 (by decide) ?_
  refine y_ckP (fun hc9 => ?_)
  refine yn_putI fX9_184 hc9 rfl rfl dX9_orders_14 (fun σ10 => ?_)
  refine y_aload_n dX9_orders_17 rfl rfl ?_
  refine y_iconst dX9_orders_18 (by decide) ?_
  refine y_ckP (fun hc11 => ?_)
  refine yn_putI fX9_83 hc11 rfl rfl dX9_orders_19 (fun σ12 => ?_)
  refine y_iload_n dX9_orders_22 rfl rfl ?_
  refine y_ite (fun h13 => ?_) (fun h13 => ?_)
  · refine y_if_ne_f dX9_orders_23 (t := 33) rfl h13 ?_
    refine y_aload_n dX9_orders_26 rfl rfl ?_
    refine y_bipush dX9_orders_27 (by decide) (by decide) ?_
    refine y_ckP (fun hp14 => ?_)
    refine y_ckP (fun hc15 => ?_)
    refine y_cvIS (qX9_refuse hp14 (-6) σ12) kX9_89 rfl hc15 rfl (by decide) rfl (Nat.le_of_ble_eq_true rfl) dX9_orders_29 (fun r16 σ17 => ?_)
    exact y_iret rfl rfl dX9_orders_32
  · refine y_if_ne_t dX9_orders_23 (t := 33) rfl h13 ?_
    refine y_aload_n dX9_orders_33 rfl rfl ?_
    refine y_ckP (fun hc18 => ?_)
    refine yb_getR fX9_35 hc18 rfl dX9_orders_34 (fun t19 ht19 => ?_)
    refine y_aload_n dX9_orders_37 rfl rfl ?_
    refine y_ckP (fun hc20 => ?_)
    refine yb_getR fX9_21 hc20 rfl dX9_orders_38 (fun t21 ht21 => ?_)
    refine y_ckP (fun hp22 => ?_)
    refine y_ckP (fun hp23 => ?_)
    refine y_ckP (fun hc24 => ?_)
    refine y_cvV (qX1_copyFrom hp22 hp23 σ12) kX9_215 rfl hc24 rfl (by decide) rfl (Nat.le_of_ble_eq_true rfl) dX9_orders_41 (fun σ25 => ?_)
    refine y_aload_n dX9_orders_44 rfl rfl ?_
    refine y_ckP (fun hc26 => ?_)
    refine yb_getR fX9_32 hc26 rfl dX9_orders_45 (fun t27 ht27 => ?_)
    refine y_ckP (fun hp28 => ?_)
    refine y_ckP (fun hc29 => ?_)
    refine y_cvV (qX8_forget hp28 σ25) kX9_107 rfl hc29 rfl (by decide) rfl (Nat.le_of_ble_eq_true rfl) dX9_orders_48 (fun σ30 => ?_)
    refine y_aload_n dX9_orders_51 rfl rfl ?_
    refine y_ckP (fun hc31 => ?_)
    refine yb_getR fX9_72 hc31 rfl dX9_orders_52 (fun t32 ht32 => ?_)
    refine y_iconst dX9_orders_55 (by decide) ?_
    refine y_iconst dX9_orders_56 (by decide) ?_
    refine y_ckP (fun hc33 => ?_)
    refine yk_iastore hc33 (N := ((K.2.1 t32).2 : Int)) rfl (j := 1) rfl dX9_orders_57 (fun σ34 => ?_)
    refine y_aload_n dX9_orders_58 rfl rfl ?_
    refine y_ckP (fun hc35 => ?_)
    refine yb_getR fX9_72 hc35 rfl dX9_orders_59 (fun t36 ht36 => ?_)
    refine y_iconst dX9_orders_62 (by decide) ?_
    refine y_iconst dX9_orders_63 (by decide) ?_
    refine y_ckP (fun hc37 => ?_)
    refine yk_iastore hc37 (N := ((K.2.1 t36).2 : Int)) rfl (j := 2) rfl dX9_orders_64 (fun σ38 => ?_)
    refine y_iconst dX9_orders_65 (by decide) ?_
    refine y_istore_n dX9_orders_66 rfl (Nat.le_of_ble_eq_true rfl) (L' := [some (aR 0), some (aI r5), some (aI 0), none]) rfl ?_
    refine y_fg [true, false, true, false] (L' := [some (aR 0), none, some (aI 0), none]) rfl ?_
    exact tX9_orders_67 FU 0 K σ38
theorem qX9_orders (K : Kt) (σ : Sg) (hg : ∀ ou, vX9_orders K σ = some ou → Gr K (emIK ou).2.1) : Cc MX9_orders K [aR 0] σ emIK (vX9_orders K σ) := cc_of plX9 (Nat.le_of_ble_eq_true rfl) hg (fun Γ => tX9_orders K σ)
noncomputable def vX9_law (K : Kt) (σ : Sg) : Option (Int × Kt × Sg) := ckP (IsC K 0 9) ((K.1 0 0).bind (fun t2 => ckP (IsC K t2 3) (if (σ t2 4) < 6 then (ckP (IsC K 0 9) ((K.1 0 7).bind (fun t6 => ckP (cLay K ∧ t6 = 63) (ckP (IsC K t6 4) (bd2 (vX4_reads K 1 σ) (fun r9 σ10 => ckP (IsC K 0 9) ((K.1 0 6).bind (fun t12 => ckP (IsC K t12 6) (nm (up2 σ10 t12 1 0) (fun σ14 => if r9 = 0 then (ckP (cLay K) (ckP (IsC K 0 9) (bd2 (vX9_refuse K (-6) σ14) (fun r18 σ19 => some (r18, K, σ19))))) else (ckP (IsC K 0 9) ((K.1 0 0).bind (fun t21 => ckP (IsC K 0 9) ((K.1 0 7).bind (fun t23 => ckP (IsC K t23 4) ((K.1 t23 1).bind (fun t25 => ckP (IsC K t25 7) (bdQK (vX7_copied t25 K σ14) (fun r27 K28 σ29 => r27.bind (fun t30 => ckP (IsC K28 t21 3) (bdIK (vX3_add t21 t30 K28 σ29) (fun r32 K33 σ34 => ckP (cLay K33) (ckP (IsC K33 0 9) (bd2 (vX9_grant K33 r32 σ34) (fun r37 σ38 => some (r37, K33, σ38)))))))))))))))))))))))))) else (ckP (IsC K 0 9) ((K.1 0 6).bind (fun t40 => ckP (IsC K t40 6) (nm (up2 σ t40 1 0) (fun σ42 => ckP (cLay K) (ckP (IsC K 0 9) (bd2 (vX9_refuse K (-5) σ42) (fun r45 σ46 => some (r45, K, σ46))))))))))))
set_option maxRecDepth 100000 in
set_option maxHeartbeats 4000000 in
theorem tX9_law {Γ : Gx} (K : Kt) (σ : Sg) : Y Γ MX9_law K emIK K 0 [some (aR 0), none] [] σ (vX9_law K σ) := by
  unfold vX9_law
  refine y_aload_n dX9_law_0 rfl rfl ?_
  refine y_ckP (fun hc1 => ?_)
  refine yb_getR fX9_12 hc1 rfl dX9_law_1 (fun t2 ht2 => ?_)
  refine y_ckP (fun hc3 => ?_)
  refine y_getI fX9_197 hc3 rfl dX9_law_4 ?_
  refine y_bipush dX9_law_7 (by decide) (by decide) ?_
  refine y_ite (fun h4 => ?_) (fun h4 => ?_)
  · refine y_icmp_lt_t dX9_law_9 (t := 27) rfl h4 ?_
    refine y_aload_n dX9_law_27 rfl rfl ?_
    refine y_ckP (fun hc5 => ?_)
    refine yb_getR fX9_53 hc5 rfl dX9_law_28 (fun t6 ht6 => ?_)
    refine y_iconst dX9_law_31 (by decide) ?_
    refine y_ckP (fun hp7 => ?_)
    refine y_ckP (fun hc8 => ?_)
    refine y_cvIS (by rw [hp7.2]; exact qX4_reads hp7.1 1 σ) kX9_198 rfl hc8 rfl (by decide) rfl (Nat.le_of_ble_eq_true rfl) dX9_law_32 (fun r9 σ10 => ?_)
    refine y_istore_n dX9_law_35 rfl (Nat.le_of_ble_eq_true rfl) (L' := [some (aR 0), some (aI r9)]) rfl ?_
    refine y_aload_n dX9_law_36 rfl rfl ?_
    refine y_ckP (fun hc11 => ?_)
    refine yb_getR fX9_44 hc11 rfl dX9_law_37 (fun t12 ht12 => ?_)
    refine y_iconst dX9_law_40 (by decide) ?_
    refine y_ckP (fun hc13 => ?_)
    refine yn_putI fX9_184 hc13 rfl rfl dX9_law_41 (fun σ14 => ?_)
    refine y_iload_n dX9_law_44 rfl rfl ?_
    refine y_ite (fun h15 => ?_) (fun h15 => ?_)
    · refine y_if_eq_t dX9_law_45 (t := 72) rfl h15 ?_
      refine y_aload_n dX9_law_72 rfl rfl ?_
      refine y_bipush dX9_law_73 (by decide) (by decide) ?_
      refine y_ckP (fun hp16 => ?_)
      refine y_ckP (fun hc17 => ?_)
      refine y_cvIS (qX9_refuse hp16 (-6) σ14) kX9_89 rfl hc17 rfl (by decide) rfl (Nat.le_of_ble_eq_true rfl) dX9_law_75 (fun r18 σ19 => ?_)
      exact y_iret rfl rfl dX9_law_78
    · refine y_if_eq_f dX9_law_45 (t := 72) rfl h15 ?_
      refine y_aload_n dX9_law_48 rfl rfl ?_
      refine y_aload_n dX9_law_49 rfl rfl ?_
      refine y_ckP (fun hc20 => ?_)
      refine yb_getR fX9_12 hc20 rfl dX9_law_50 (fun t21 ht21 => ?_)
      refine y_aload_n dX9_law_53 rfl rfl ?_
      refine y_ckP (fun hc22 => ?_)
      refine yb_getR fX9_53 hc22 rfl dX9_law_54 (fun t23 ht23 => ?_)
      refine y_ckP (fun hc24 => ?_)
      refine yb_getR fX9_202 hc24 rfl dX9_law_57 (fun t25 ht25 => ?_)
      refine y_ckP (fun hc26 => ?_)
      refine y_cvQK (qX7_copied t25 K σ14 (fun ou hou => (tX7_copied (Γ := Γ) t25 K σ14 ou hou).1)) kX9_206 rfl hc26 rfl (by decide) rfl (Nat.le_of_ble_eq_true rfl) dX9_law_60 (fun r27 K28 σ29 => ?_)
      refine y_nn (fun t30 ht30 => ?_)
      refine y_ckP (fun hc31 => ?_)
      refine y_cvIK (qX3_add t21 t30 K28 σ29 (fun ou hou => (tX3_add (Γ := Γ) t21 t30 K28 σ29 ou hou).1)) kX9_212 rfl hc31 rfl (by decide) rfl (Nat.le_of_ble_eq_true rfl) dX9_law_63 (fun r32 K33 σ34 => ?_)
      refine y_ckP (fun hp35 => ?_)
      refine y_ckP (fun hc36 => ?_)
      refine y_cvIS (qX9_grant hp35 r32 σ34) kX9_93 rfl hc36 rfl (by decide) rfl (Nat.le_of_ble_eq_true rfl) dX9_law_66 (fun r37 σ38 => ?_)
      refine y_goto dX9_law_69 (t := 78) rfl ?_
      exact y_iret rfl rfl dX9_law_78
  · refine y_icmp_lt_f dX9_law_9 (t := 27) rfl h4 ?_
    refine y_aload_n dX9_law_12 rfl rfl ?_
    refine y_ckP (fun hc39 => ?_)
    refine yb_getR fX9_44 hc39 rfl dX9_law_13 (fun t40 ht40 => ?_)
    refine y_iconst dX9_law_16 (by decide) ?_
    refine y_ckP (fun hc41 => ?_)
    refine yn_putI fX9_184 hc41 rfl rfl dX9_law_17 (fun σ42 => ?_)
    refine y_aload_n dX9_law_20 rfl rfl ?_
    refine y_bipush dX9_law_21 (by decide) (by decide) ?_
    refine y_ckP (fun hp43 => ?_)
    refine y_ckP (fun hc44 => ?_)
    refine y_cvIS (qX9_refuse hp43 (-5) σ42) kX9_89 rfl hc44 rfl (by decide) rfl (Nat.le_of_ble_eq_true rfl) dX9_law_23 (fun r45 σ46 => ?_)
    exact y_iret rfl rfl dX9_law_26
theorem qX9_law (K : Kt) (σ : Sg) (hg : ∀ ou, vX9_law K σ = some ou → Gr K (emIK ou).2.1) : Cc MX9_law K [aR 0] σ emIK (vX9_law K σ) := cc_of plX9 (Nat.le_of_ble_eq_true rfl) hg (fun Γ => tX9_law K σ)
noncomputable def vX9_image_37 (x1 : Int) (K : Kt) (σ : Sg) : Option (Int × Kt × Sg) := ckP (IsC K 0 9) ((K.1 0 9).bind (fun t2 => ckP (IsA K t2 25 (K.2.1 t2).2) (ck (0 ≤ x1 ∧ x1 < ((K.2.1 t2).2 : Int)) (((K.1 t2 x1.toNat)).bind (fun t4 => ckP (IsC K t4 2) ((K.1 t4 1).bind (fun t6 => ckP (IsC K 0 9) ((K.1 0 1).bind (fun t8 => ckP (hallAt K t6) (ckP (hallAt K t8) (ckP (IsC K t6 1) ((vX1_copyFrom K t6 t8 σ).bind (fun σ12 => ckP (IsC K 0 9) ((K.1 0 9).bind (fun t14 => ckP (IsA K t14 25 (K.2.1 t14).2) (ck (0 ≤ x1 ∧ x1 < ((K.2.1 t14).2 : Int)) (((K.1 t14 x1.toNat)).bind (fun t16 => ckP (IsC K t16 2) ((K.1 t16 0).bind (fun t18 => ckP (IsC K 0 9) ((K.1 0 0).bind (fun t20 => ckP (IsC K t18 3) (bdVK (vX3_copyFrom t18 t20 K σ12) (fun K22 σ23 => ckP (cLay K22) (ckP (IsC K22 0 9) (bd2 (vX9_grant K22 0 σ23) (fun r26 σ27 => some (r26, K22, σ27))))))))))))))))))))))))))))
set_option maxRecDepth 100000 in
set_option maxHeartbeats 4000000 in
theorem tX9_image_37 {Γ : Gx} {K0 : Kt} (x1 : Int) (K : Kt) (σ : Sg) : Y Γ MX9_image K0 emIK K 37 [some (aR 0), some (aI x1)] [] σ (vX9_image_37 x1 K σ) := by
  unfold vX9_image_37
  refine y_aload_n dX9_image_37 rfl rfl ?_
  refine y_ckP (fun hc1 => ?_)
  refine yb_getR fX9_68 hc1 rfl dX9_image_38 (fun t2 ht2 => ?_)
  refine y_iload_n dX9_image_41 rfl rfl ?_
  refine y_ckP (fun hc3 => ?_)
  refine yk_aaload (by decide) hc3 (N := ((K.2.1 t2).2 : Int)) rfl dX9_image_42 ?_
  refine y_nn (fun t4 ht4 => ?_)
  refine y_ckP (fun hc5 => ?_)
  refine yb_getR fX9_366 hc5 rfl dX9_image_43 (fun t6 ht6 => ?_)
  refine y_aload_n dX9_image_46 rfl rfl ?_
  refine y_ckP (fun hc7 => ?_)
  refine yb_getR fX9_21 hc7 rfl dX9_image_47 (fun t8 ht8 => ?_)
  refine y_ckP (fun hp9 => ?_)
  refine y_ckP (fun hp10 => ?_)
  refine y_ckP (fun hc11 => ?_)
  refine y_cvV (qX1_copyFrom hp9 hp10 σ) kX9_215 rfl hc11 rfl (by decide) rfl (Nat.le_of_ble_eq_true rfl) dX9_image_50 (fun σ12 => ?_)
  refine y_aload_n dX9_image_53 rfl rfl ?_
  refine y_ckP (fun hc13 => ?_)
  refine yb_getR fX9_68 hc13 rfl dX9_image_54 (fun t14 ht14 => ?_)
  refine y_iload_n dX9_image_57 rfl rfl ?_
  refine y_ckP (fun hc15 => ?_)
  refine yk_aaload (by decide) hc15 (N := ((K.2.1 t14).2 : Int)) rfl dX9_image_58 ?_
  refine y_nn (fun t16 ht16 => ?_)
  refine y_ckP (fun hc17 => ?_)
  refine yb_getR fX9_367 hc17 rfl dX9_image_59 (fun t18 ht18 => ?_)
  refine y_aload_n dX9_image_62 rfl rfl ?_
  refine y_ckP (fun hc19 => ?_)
  refine yb_getR fX9_12 hc19 rfl dX9_image_63 (fun t20 ht20 => ?_)
  refine y_ckP (fun hc21 => ?_)
  refine y_cvVK (qX3_copyFrom t18 t20 K σ12 (fun ou hou => (tX3_copyFrom (Γ := Γ) t18 t20 K σ12 ou hou).1)) kX9_368 rfl hc21 rfl (by decide) rfl (Nat.le_of_ble_eq_true rfl) dX9_image_66 (fun K22 σ23 => ?_)
  refine y_aload_n dX9_image_69 rfl rfl ?_
  refine y_iconst dX9_image_70 (by decide) ?_
  refine y_ckP (fun hp24 => ?_)
  refine y_ckP (fun hc25 => ?_)
  refine y_cvIS (qX9_grant hp24 0 σ23) kX9_93 rfl hc25 rfl (by decide) rfl (Nat.le_of_ble_eq_true rfl) dX9_image_71 (fun r26 σ27 => ?_)
  exact y_iret rfl rfl dX9_image_74
noncomputable def vX9_image (p1 : Int) (K : Kt) (σ : Sg) : Option (Int × Kt × Sg) := (vX9_within p1 0 1 σ).bind (fun r1 => if r1 = 0 then (ckP (cLay K) (ckP (IsC K 0 9) (bd2 (vX9_refuse K (-1) σ) (fun r5 σ6 => some (r5, K, σ6))))) else (ckP (IsC K 0 9) ((K.1 0 9).bind (fun t8 => ckP (IsA K t8 25 (K.2.1 t8).2) (ck (0 ≤ p1 ∧ p1 < ((K.2.1 t8).2 : Int)) ((K.1 t8 p1.toNat).elim (ckP (IsC K 0 9) ((K.1 0 9).bind (fun t12 => nw K.2.2.1 (kNew K 2 0 2) (sNew K σ) (fun q13 K14 σ15 => bdVK (vX2_init q13 K14 σ15) (fun K16 σ17 => ckP (IsA K16 t12 25 (K16.2.1 t12).2) (ckP (∀ x, (some q13) = some x → IsC K16 x 2) (ck (0 ≤ p1 ∧ p1 < ((K16.2.1 t12).2 : Int)) (nm (kRef K16 t12 p1.toNat (some q13)) (fun K19 => vX9_image_37 p1 K19 σ17))))))))) (fun t10 => vX9_image_37 p1 K σ)))))))
set_option maxRecDepth 100000 in
set_option maxHeartbeats 4000000 in
theorem tX9_image {Γ : Gx} (p1 : Int) (K : Kt) (σ : Sg) : Y Γ MX9_image K emIK K 0 [some (aR 0), some (aI p1)] [] σ (vX9_image p1 K σ) := by
  unfold vX9_image
  refine y_iload_n dX9_image_0 rfl rfl ?_
  refine y_iconst dX9_image_1 (by decide) ?_
  refine y_iconst dX9_image_2 (by decide) ?_
  refine y_csI (qX9_within (K := K) p1 0 1 σ) kX9_96 rfl (by decide) rfl (Nat.le_of_ble_eq_true rfl) dX9_image_3 (fun r1 => ?_)
  refine y_ite (fun h2 => ?_) (fun h2 => ?_)
  · refine y_if_ne_f dX9_image_6 (t := 15) rfl h2 ?_
    refine y_aload_n dX9_image_9 rfl rfl ?_
    refine y_iconst dX9_image_10 (by decide) ?_
    refine y_ckP (fun hp3 => ?_)
    refine y_ckP (fun hc4 => ?_)
    refine y_cvIS (qX9_refuse hp3 (-1) σ) kX9_89 rfl hc4 rfl (by decide) rfl (Nat.le_of_ble_eq_true rfl) dX9_image_11 (fun r5 σ6 => ?_)
    exact y_iret rfl rfl dX9_image_14
  · refine y_if_ne_t dX9_image_6 (t := 15) rfl h2 ?_
    refine y_aload_n dX9_image_15 rfl rfl ?_
    refine y_ckP (fun hc7 => ?_)
    refine yb_getR fX9_68 hc7 rfl dX9_image_16 (fun t8 ht8 => ?_)
    refine y_iload_n dX9_image_19 rfl rfl ?_
    refine y_ckP (fun hc9 => ?_)
    refine yk_aaload (by decide) hc9 (N := ((K.2.1 t8).2 : Int)) rfl dX9_image_20 ?_
    refine y_ifnonnull dX9_image_21 (t := 37) rfl (fun ht10 => ?_) (fun t10 ht10 => ?_)
    · refine y_aload_n dX9_image_24 rfl rfl ?_
      refine y_ckP (fun hc11 => ?_)
      refine yb_getR fX9_68 hc11 rfl dX9_image_25 (fun t12 ht12 => ?_)
      refine y_iload_n dX9_image_28 rfl rfl ?_
      refine yn_new nX9_66 (by decide) dX9_image_29 (fun q13 K14 σ15 => ?_)
      refine y_dup dX9_image_32 (fun _ => rfl) ?_
      refine y_ciN (qX2_init q13 K14 σ15 (fun ou hou => (tX2_init (Γ := Γ) q13 K14 σ15 ou hou).1)) iX9_365 rfl (by decide) rfl (Nat.le_of_ble_eq_true rfl) dX9_image_33 (fun K16 σ17 => ?_)
      refine y_ckP (fun hc18 => ?_)
      refine y_ckP (fun hc20 => ?_)
      refine yn_aastore (by decide) hc18 hc20 (N := ((K16.2.1 t12).2 : Int)) rfl dX9_image_36 (fun K19 => ?_)
      exact tX9_image_37 p1 K19 σ17
    · exact tX9_image_37 p1 K σ
theorem qX9_image (p1 : Int) (K : Kt) (σ : Sg) (hg : ∀ ou, vX9_image p1 K σ = some ou → Gr K (emIK ou).2.1) : Cc MX9_image K [aR 0, aI p1] σ emIK (vX9_image p1 K σ) := cc_of plX9 (Nat.le_of_ble_eq_true rfl) hg (fun Γ => tX9_image p1 K σ)
noncomputable def vX9_back (p1 : Int) (K : Kt) (σ : Sg) : Option (Int × Kt × Sg) := (vX9_within p1 0 1 σ).bind (fun r1 => if r1 = 0 then (ckP (cLay K) (ckP (IsC K 0 9) (bd2 (vX9_refuse K (-1) σ) (fun r5 σ6 => some (r5, K, σ6))))) else (ckP (IsC K 0 9) ((K.1 0 9).bind (fun t8 => ckP (IsA K t8 25 (K.2.1 t8).2) (ck (0 ≤ p1 ∧ p1 < ((K.2.1 t8).2 : Int)) ((K.1 t8 p1.toNat).elim (ckP (cLay K) (ckP (IsC K 0 9) (bd2 (vX9_refuse K (-2) σ) (fun r13 σ14 => some (r13, K, σ14))))) (fun t10 => ckP (IsC K 0 9) ((K.1 0 1).bind (fun t16 => ckP (IsC K 0 9) ((K.1 0 9).bind (fun t18 => ckP (IsA K t18 25 (K.2.1 t18).2) (ck (0 ≤ p1 ∧ p1 < ((K.2.1 t18).2 : Int)) (((K.1 t18 p1.toNat)).bind (fun t20 => ckP (IsC K t20 2) ((K.1 t20 1).bind (fun t22 => ckP (hallAt K t16) (ckP (hallAt K t22) (ckP (IsC K t16 1) ((vX1_copyFrom K t16 t22 σ).bind (fun σ26 => ckP (IsC K 0 9) ((K.1 0 0).bind (fun t28 => ckP (IsC K 0 9) ((K.1 0 9).bind (fun t30 => ckP (IsA K t30 25 (K.2.1 t30).2) (ck (0 ≤ p1 ∧ p1 < ((K.2.1 t30).2 : Int)) (((K.1 t30 p1.toNat)).bind (fun t32 => ckP (IsC K t32 2) ((K.1 t32 0).bind (fun t34 => ckP (IsC K t28 3) (bdVK (vX3_copyFrom t28 t34 K σ26) (fun K36 σ37 => ckP (IsC K36 0 9) ((K36.1 0 2).bind (fun t39 => ckP (uAt K36 t39) (ckP (IsC K36 t39 8) ((vX8_forget K36 t39 σ37).bind (fun σ42 => ckP (cLay K36) (ckP (IsC K36 0 9) (bd2 (vX9_grant K36 0 σ42) (fun r45 σ46 => some (r45, K36, σ46))))))))))))))))))))))))))))))))))))))))
set_option maxRecDepth 100000 in
set_option maxHeartbeats 4000000 in
theorem tX9_back {Γ : Gx} (p1 : Int) (K : Kt) (σ : Sg) : Y Γ MX9_back K emIK K 0 [some (aR 0), some (aI p1)] [] σ (vX9_back p1 K σ) := by
  unfold vX9_back
  refine y_iload_n dX9_back_0 rfl rfl ?_
  refine y_iconst dX9_back_1 (by decide) ?_
  refine y_iconst dX9_back_2 (by decide) ?_
  refine y_csI (qX9_within (K := K) p1 0 1 σ) kX9_96 rfl (by decide) rfl (Nat.le_of_ble_eq_true rfl) dX9_back_3 (fun r1 => ?_)
  refine y_ite (fun h2 => ?_) (fun h2 => ?_)
  · refine y_if_ne_f dX9_back_6 (t := 15) rfl h2 ?_
    refine y_aload_n dX9_back_9 rfl rfl ?_
    refine y_iconst dX9_back_10 (by decide) ?_
    refine y_ckP (fun hp3 => ?_)
    refine y_ckP (fun hc4 => ?_)
    refine y_cvIS (qX9_refuse hp3 (-1) σ) kX9_89 rfl hc4 rfl (by decide) rfl (Nat.le_of_ble_eq_true rfl) dX9_back_11 (fun r5 σ6 => ?_)
    exact y_iret rfl rfl dX9_back_14
  · refine y_if_ne_t dX9_back_6 (t := 15) rfl h2 ?_
    refine y_aload_n dX9_back_15 rfl rfl ?_
    refine y_ckP (fun hc7 => ?_)
    refine yb_getR fX9_68 hc7 rfl dX9_back_16 (fun t8 ht8 => ?_)
    refine y_iload_n dX9_back_19 rfl rfl ?_
    refine y_ckP (fun hc9 => ?_)
    refine yk_aaload (by decide) hc9 (N := ((K.2.1 t8).2 : Int)) rfl dX9_back_20 ?_
    refine y_ifnonnull dX9_back_21 (t := 31) rfl (fun ht10 => ?_) (fun t10 ht10 => ?_)
    · refine y_aload_n dX9_back_24 rfl rfl ?_
      refine y_bipush dX9_back_25 (by decide) (by decide) ?_
      refine y_ckP (fun hp11 => ?_)
      refine y_ckP (fun hc12 => ?_)
      refine y_cvIS (qX9_refuse hp11 (-2) σ) kX9_89 rfl hc12 rfl (by decide) rfl (Nat.le_of_ble_eq_true rfl) dX9_back_27 (fun r13 σ14 => ?_)
      exact y_iret rfl rfl dX9_back_30
    · refine y_aload_n dX9_back_31 rfl rfl ?_
      refine y_ckP (fun hc15 => ?_)
      refine yb_getR fX9_21 hc15 rfl dX9_back_32 (fun t16 ht16 => ?_)
      refine y_aload_n dX9_back_35 rfl rfl ?_
      refine y_ckP (fun hc17 => ?_)
      refine yb_getR fX9_68 hc17 rfl dX9_back_36 (fun t18 ht18 => ?_)
      refine y_iload_n dX9_back_39 rfl rfl ?_
      refine y_ckP (fun hc19 => ?_)
      refine yk_aaload (by decide) hc19 (N := ((K.2.1 t18).2 : Int)) rfl dX9_back_40 ?_
      refine y_nn (fun t20 ht20 => ?_)
      refine y_ckP (fun hc21 => ?_)
      refine yb_getR fX9_366 hc21 rfl dX9_back_41 (fun t22 ht22 => ?_)
      refine y_ckP (fun hp23 => ?_)
      refine y_ckP (fun hp24 => ?_)
      refine y_ckP (fun hc25 => ?_)
      refine y_cvV (qX1_copyFrom hp23 hp24 σ) kX9_215 rfl hc25 rfl (by decide) rfl (Nat.le_of_ble_eq_true rfl) dX9_back_44 (fun σ26 => ?_)
      refine y_aload_n dX9_back_47 rfl rfl ?_
      refine y_ckP (fun hc27 => ?_)
      refine yb_getR fX9_12 hc27 rfl dX9_back_48 (fun t28 ht28 => ?_)
      refine y_aload_n dX9_back_51 rfl rfl ?_
      refine y_ckP (fun hc29 => ?_)
      refine yb_getR fX9_68 hc29 rfl dX9_back_52 (fun t30 ht30 => ?_)
      refine y_iload_n dX9_back_55 rfl rfl ?_
      refine y_ckP (fun hc31 => ?_)
      refine yk_aaload (by decide) hc31 (N := ((K.2.1 t30).2 : Int)) rfl dX9_back_56 ?_
      refine y_nn (fun t32 ht32 => ?_)
      refine y_ckP (fun hc33 => ?_)
      refine yb_getR fX9_367 hc33 rfl dX9_back_57 (fun t34 ht34 => ?_)
      refine y_ckP (fun hc35 => ?_)
      refine y_cvVK (qX3_copyFrom t28 t34 K σ26 (fun ou hou => (tX3_copyFrom (Γ := Γ) t28 t34 K σ26 ou hou).1)) kX9_368 rfl hc35 rfl (by decide) rfl (Nat.le_of_ble_eq_true rfl) dX9_back_60 (fun K36 σ37 => ?_)
      refine y_aload_n dX9_back_63 rfl rfl ?_
      refine y_ckP (fun hc38 => ?_)
      refine yb_getR fX9_28 hc38 rfl dX9_back_64 (fun t39 ht39 => ?_)
      refine y_ckP (fun hp40 => ?_)
      refine y_ckP (fun hc41 => ?_)
      refine y_cvV (qX8_forget hp40 σ37) kX9_107 rfl hc41 rfl (by decide) rfl (Nat.le_of_ble_eq_true rfl) dX9_back_67 (fun σ42 => ?_)
      refine y_aload_n dX9_back_70 rfl rfl ?_
      refine y_iconst dX9_back_71 (by decide) ?_
      refine y_ckP (fun hp43 => ?_)
      refine y_ckP (fun hc44 => ?_)
      refine y_cvIS (qX9_grant hp43 0 σ42) kX9_93 rfl hc44 rfl (by decide) rfl (Nat.le_of_ble_eq_true rfl) dX9_back_72 (fun r45 σ46 => ?_)
      exact y_iret rfl rfl dX9_back_75
theorem qX9_back (p1 : Int) (K : Kt) (σ : Sg) (hg : ∀ ou, vX9_back p1 K σ = some ou → Gr K (emIK ou).2.1) : Cc MX9_back K [aR 0, aI p1] σ emIK (vX9_back p1 K σ) := cc_of plX9 (Nat.le_of_ble_eq_true rfl) hg (fun Γ => tX9_back p1 K σ)
