set_option maxRecDepth 100000 in
noncomputable def vX10_init (o : Nat) (K : Kt) (σ : Sg) : Option (Kt × Sg) := ck (0 ≤ (7 : Int) ∧ (7 : Int) ≤ 1000000) (nw K.2.2.1 (kNew K 20 (7 : Int).toNat (7 : Int).toNat) (sNew K σ) (fun q1 K2 σ3 => ckP (IsC K2 o 10) (nm (kRef K2 o 2 (some q1)) (fun K5 => ck (0 ≤ (5505 : Int) ∧ (5505 : Int) ≤ 1000000) (nw K5.2.2.1 (kNew K5 20 (5505 : Int).toNat (5505 : Int).toNat) (sNew K5 σ3) (fun q6 K7 σ8 => ckP (IsC K7 o 10) (nm (kRef K7 o 3 (some q6)) (fun K10 => ck (0 ≤ (11010 : Int) ∧ (11010 : Int) ≤ 1000000) (nw K10.2.2.1 (kNew K10 20 (11010 : Int).toNat (11010 : Int).toNat) (sNew K10 σ8) (fun q11 K12 σ13 => ckP (IsC K12 o 10) (nm (kRef K12 o 4 (some q11)) (fun K15 => ck (0 ≤ (2 : Int) ∧ (2 : Int) ≤ 1000000) (nw K15.2.2.1 (kNew K15 22 (2 : Int).toNat (2 : Int).toNat) (sNew K15 σ13) (fun q16 K17 σ18 => ckP (IsC K17 o 10) (nm (kRef K17 o 5 (some q16)) (fun K20 => ck (0 ≤ (1273 : Int) ∧ (1273 : Int) ≤ 1000000) (nw K20.2.2.1 (kNew K20 20 (1273 : Int).toNat (1273 : Int).toNat) (sNew K20 σ18) (fun q21 K22 σ23 => ckP (IsC K22 o 10) (nm (kRef K22 o 6 (some q21)) (fun K25 => ck (0 ≤ (16 : Int) ∧ (16 : Int) ≤ 1000000) (nw K25.2.2.1 (kNew K25 20 (16 : Int).toNat (16 : Int).toNat) (sNew K25 σ23) (fun q26 K27 σ28 => ckP (IsC K27 o 10) (nm (kRef K27 o 7 (some q26)) (fun K30 => ck (0 ≤ (1072 : Int) ∧ (1072 : Int) ≤ 1000000) (nw K30.2.2.1 (kNew K30 20 (1072 : Int).toNat (1072 : Int).toNat) (sNew K30 σ28) (fun q31 K32 σ33 => ckP (IsC K32 o 10) (nm (kRef K32 o 9 (some q31)) (fun K35 => ck (0 ≤ (16 : Int) ∧ (16 : Int) ≤ 1000000) (nw K35.2.2.1 (kNew K35 20 (16 : Int).toNat (16 : Int).toNat) (sNew K35 σ33) (fun q36 K37 σ38 => ckP (IsC K37 o 10) (nm (kRef K37 o 10 (some q36)) (fun K40 => ck (0 ≤ (400 : Int) ∧ (400 : Int) ≤ 1000000) (nw K40.2.2.1 (kNew K40 20 (400 : Int).toNat (400 : Int).toNat) (sNew K40 σ38) (fun q41 K42 σ43 => ckP (IsC K42 o 10) (nm (kRef K42 o 12 (some q41)) (fun K45 => ckP (IsC K45 o 10) (nm (up2 σ43 o 18 (-1)) (fun σ47 => ck (0 ≤ (96 : Int) ∧ (96 : Int) ≤ 1000000) (nw K45.2.2.1 (kNew K45 20 (96 : Int).toNat (96 : Int).toNat) (sNew K45 σ47) (fun q48 K49 σ50 => ckP (IsC K49 o 10) (nm (kRef K49 o 22 (some q48)) (fun K52 => ck (0 ≤ (400 : Int) ∧ (400 : Int) ≤ 1000000) (nw K52.2.2.1 (kNew K52 20 (400 : Int).toNat (400 : Int).toNat) (sNew K52 σ50) (fun q53 K54 σ55 => ckP (IsC K54 o 10) (nm (kRef K54 o 24 (some q53)) (fun K57 => ck (0 ≤ (400 : Int) ∧ (400 : Int) ≤ 1000000) (nw K57.2.2.1 (kNew K57 20 (400 : Int).toNat (400 : Int).toNat) (sNew K57 σ55) (fun q58 K59 σ60 => ckP (IsC K59 o 10) (nm (kRef K59 o 25 (some q58)) (fun K62 => ck (0 ≤ (400 : Int) ∧ (400 : Int) ≤ 1000000) (nw K62.2.2.1 (kNew K62 20 (400 : Int).toNat (400 : Int).toNat) (sNew K62 σ60) (fun q63 K64 σ65 => ckP (IsC K64 o 10) (nm (kRef K64 o 27 (some q63)) (fun K67 => ck (0 ≤ (400 : Int) ∧ (400 : Int) ≤ 1000000) (nw K67.2.2.1 (kNew K67 20 (400 : Int).toNat (400 : Int).toNat) (sNew K67 σ65) (fun q68 K69 σ70 => ckP (IsC K69 o 10) (nm (kRef K69 o 28 (some q68)) (fun K72 => ck (0 ≤ (9 : Int) ∧ (9 : Int) ≤ 1000000) (nw K72.2.2.1 (kNew K72 21 (9 : Int).toNat (9 : Int).toNat) (sNew K72 σ70) (fun q73 K74 σ75 => ckP (IsA K74 q73 21 (K74.2.1 q73).2) (ck (0 ≤ (0 : Int) ∧ (0 : Int) < ((K74.2.1 q73).2 : Int)) (nm (up2 σ75 q73 0 81387) (fun σ77 => ckP (IsA K74 q73 21 (K74.2.1 q73).2) (ck (0 ≤ (1 : Int) ∧ (1 : Int) < ((K74.2.1 q73).2 : Int)) (nm (up2 σ77 q73 1 408362632) (fun σ79 => ckP (IsA K74 q73 21 (K74.2.1 q73).2) (ck (0 ≤ (2 : Int) ∧ (2 : Int) < ((K74.2.1 q73).2 : Int)) (nm (up2 σ79 q73 2 17484389) (fun σ81 => ckP (IsA K74 q73 21 (K74.2.1 q73).2) (ck (0 ≤ (3 : Int) ∧ (3 : Int) < ((K74.2.1 q73).2 : Int)) (nm (up2 σ81 q73 3 609259698) (fun σ83 => ckP (IsA K74 q73 21 (K74.2.1 q73).2) (ck (0 ≤ (4 : Int) ∧ (4 : Int) < ((K74.2.1 q73).2 : Int)) (nm (up2 σ83 q73 4 690005651) (fun σ85 => ckP (IsA K74 q73 21 (K74.2.1 q73).2) (ck (0 ≤ (5 : Int) ∧ (5 : Int) < ((K74.2.1 q73).2 : Int)) (nm (up2 σ85 q73 5 769614) (fun σ87 => ckP (IsA K74 q73 21 (K74.2.1 q73).2) (ck (0 ≤ (6 : Int) ∧ (6 : Int) < ((K74.2.1 q73).2 : Int)) (nm (up2 σ87 q73 6 366100) (fun σ89 => ckP (IsA K74 q73 21 (K74.2.1 q73).2) (ck (0 ≤ (7 : Int) ∧ (7 : Int) < ((K74.2.1 q73).2 : Int)) (nm (up2 σ89 q73 7 758955) (fun σ91 => ckP (IsA K74 q73 21 (K74.2.1 q73).2) (ck (0 ≤ (8 : Int) ∧ (8 : Int) < ((K74.2.1 q73).2 : Int)) (nm (up2 σ91 q73 8 441828) (fun σ93 => ckP (IsC K74 o 10) (nm (kRef K74 o 31 (some q73)) (fun K95 => ck (0 ≤ (7 : Int) ∧ (7 : Int) ≤ 1000000) (nw K95.2.2.1 (kNew K95 21 (7 : Int).toNat (7 : Int).toNat) (sNew K95 σ93) (fun q96 K97 σ98 => ckP (IsA K97 q96 21 (K97.2.1 q96).2) (ck (0 ≤ (0 : Int) ∧ (0 : Int) < ((K97.2.1 q96).2 : Int)) (nm (up2 σ98 q96 0 758955) (fun σ100 => ckP (IsA K97 q96 21 (K97.2.1 q96).2) (ck (0 ≤ (1 : Int) ∧ (1 : Int) < ((K97.2.1 q96).2 : Int)) (nm (up2 σ100 q96 1 146885) (fun σ102 => ckP (IsA K97 q96 21 (K97.2.1 q96).2) (ck (0 ≤ (2 : Int) ∧ (2 : Int) < ((K97.2.1 q96).2 : Int)) (nm (up2 σ102 q96 2 404362868) (fun σ104 => ckP (IsA K97 q96 21 (K97.2.1 q96).2) (ck (0 ≤ (3 : Int) ∧ (3 : Int) < ((K97.2.1 q96).2 : Int)) (nm (up2 σ104 q96 3 24739718599) (fun σ106 => ckP (IsA K97 q96 21 (K97.2.1 q96).2) (ck (0 ≤ (4 : Int) ∧ (4 : Int) < ((K97.2.1 q96).2 : Int)) (nm (up2 σ106 q96 4 763528) (fun σ108 => ckP (IsA K97 q96 21 (K97.2.1 q96).2) (ck (0 ≤ (5 : Int) ∧ (5 : Int) < ((K97.2.1 q96).2 : Int)) (nm (up2 σ108 q96 5 769614) (fun σ110 => ckP (IsA K97 q96 21 (K97.2.1 q96).2) (ck (0 ≤ (6 : Int) ∧ (6 : Int) < ((K97.2.1 q96).2 : Int)) (nm (up2 σ110 q96 6 17484389) (fun σ112 => ckP (IsC K97 o 10) (nm (kRef K97 o 32 (some q96)) (fun K114 => ck (0 ≤ (4 : Int) ∧ (4 : Int) ≤ 1000000) (nw K114.2.2.1 (kNew K114 21 (4 : Int).toNat (4 : Int).toNat) (sNew K114 σ112) (fun q115 K116 σ117 => ckP (IsA K116 q115 21 (K116.2.1 q115).2) (ck (0 ≤ (0 : Int) ∧ (0 : Int) < ((K116.2.1 q115).2 : Int)) (nm (up2 σ117 q115 0 6600883) (fun σ119 => ckP (IsA K116 q115 21 (K116.2.1 q115).2) (ck (0 ≤ (1 : Int) ∧ (1 : Int) < ((K116.2.1 q115).2 : Int)) (nm (up2 σ119 q115 1 24282707) (fun σ121 => ckP (IsA K116 q115 21 (K116.2.1 q115).2) (ck (0 ≤ (2 : Int) ∧ (2 : Int) < ((K116.2.1 q115).2 : Int)) (nm (up2 σ121 q115 2 21015731) (fun σ123 => ckP (IsA K116 q115 21 (K116.2.1 q115).2) (ck (0 ≤ (3 : Int) ∧ (3 : Int) < ((K116.2.1 q115).2 : Int)) (nm (up2 σ123 q115 3 67155) (fun σ125 => ckP (IsC K116 o 10) (nm (kRef K116 o 33 (some q115)) (fun K127 => ck (0 ≤ (13 : Int) ∧ (13 : Int) ≤ 1000000) (nw K127.2.2.1 (kNew K127 21 (13 : Int).toNat (13 : Int).toNat) (sNew K127 σ125) (fun q128 K129 σ130 => ckP (IsC K129 o 10) (nm (kRef K129 o 35 (some q128)) (fun K132 => ck (0 ≤ (13 : Int) ∧ (13 : Int) ≤ 1000000) (nw K132.2.2.1 (kNew K132 21 (13 : Int).toNat (13 : Int).toNat) (sNew K132 σ130) (fun q133 K134 σ135 => ckP (IsC K134 o 10) (nm (kRef K134 o 36 (some q133)) (fun K137 => ck (0 ≤ (400 : Int) ∧ (400 : Int) ≤ 1000000) (nw K137.2.2.1 (kNew K137 21 (400 : Int).toNat (400 : Int).toNat) (sNew K137 σ135) (fun q138 K139 σ140 => ckP (IsC K139 o 10) (nm (kRef K139 o 37 (some q138)) (fun K142 => ck (0 ≤ (7 : Int) ∧ (7 : Int) ≤ 1000000) (nw K142.2.2.1 (kNew K142 20 (7 : Int).toNat (7 : Int).toNat) (sNew K142 σ140) (fun q143 K144 σ145 => ckP (IsC K144 o 10) (nm (kRef K144 o 41 (some q143)) (fun K147 => ck (0 ≤ (6 : Int) ∧ (6 : Int) ≤ 1000000) (nw K147.2.2.1 (kNew K147 20 (6 : Int).toNat (6 : Int).toNat) (sNew K147 σ145) (fun q148 K149 σ150 => ckP (IsC K149 o 10) (nm (kRef K149 o 42 (some q148)) (fun K152 => ck (0 ≤ (64 : Int) ∧ (64 : Int) ≤ 1000000) (nw K152.2.2.1 (kNew K152 20 (64 : Int).toNat (64 : Int).toNat) (sNew K152 σ150) (fun q153 K154 σ155 => ckP (IsC K154 o 10) (nm (kRef K154 o 43 (some q153)) (fun K157 => ck (0 ≤ (256 : Int) ∧ (256 : Int) ≤ 1000000) (nw K157.2.2.1 (kNew K157 22 (256 : Int).toNat (256 : Int).toNat) (sNew K157 σ155) (fun q158 K159 σ160 => ckP (IsC K159 o 10) (nm (kRef K159 o 44 (some q158)) (fun K162 => ck (0 ≤ (256 : Int) ∧ (256 : Int) ≤ 1000000) (nw K162.2.2.1 (kNew K162 20 (256 : Int).toNat (256 : Int).toNat) (sNew K162 σ160) (fun q163 K164 σ165 => ckP (IsC K164 o 10) (nm (kRef K164 o 45 (some q163)) (fun K167 => ck (0 ≤ (8 : Int) ∧ (8 : Int) ≤ 1000000) (nw K167.2.2.1 (kNew K167 20 (8 : Int).toNat (8 : Int).toNat) (sNew K167 σ165) (fun q168 K169 σ170 => ckP (IsC K169 o 10) (nm (kRef K169 o 46 (some q168)) (fun K172 => ck (0 ≤ (21 : Int) ∧ (21 : Int) ≤ 1000000) (nw K172.2.2.1 (kNew K172 21 (21 : Int).toNat (21 : Int).toNat) (sNew K172 σ170) (fun q173 K174 σ175 => ckP (IsC K174 o 10) (nm (kRef K174 o 47 (some q173)) (fun K177 => ck (0 ≤ (4 : Int) ∧ (4 : Int) ≤ 1000000) (nw K177.2.2.1 (kNew K177 21 (4 : Int).toNat (4 : Int).toNat) (sNew K177 σ175) (fun q178 K179 σ180 => ckP (IsA K179 q178 21 (K179.2.1 q178).2) (ck (0 ≤ (0 : Int) ∧ (0 : Int) < ((K179.2.1 q178).2 : Int)) (nm (up2 σ180 q178 0 398788) (fun σ182 => ckP (IsA K179 q178 21 (K179.2.1 q178).2) (ck (0 ≤ (1 : Int) ∧ (1 : Int) < ((K179.2.1 q178).2 : Int)) (nm (up2 σ182 q178 1 2696647) (fun σ184 => ckP (IsA K179 q178 21 (K179.2.1 q178).2) (ck (0 ≤ (2 : Int) ∧ (2 : Int) < ((K179.2.1 q178).2 : Int)) (nm (up2 σ184 q178 2 754996) (fun σ186 => ckP (IsA K179 q178 21 (K179.2.1 q178).2) (ck (0 ≤ (3 : Int) ∧ (3 : Int) < ((K179.2.1 q178).2 : Int)) (nm (up2 σ186 q178 3 525939) (fun σ188 => ckP (IsC K179 o 10) (nm (kRef K179 o 48 (some q178)) (fun K190 => ck (0 ≤ (96 : Int) ∧ (96 : Int) ≤ 1000000) (nw K190.2.2.1 (kNew K190 20 (96 : Int).toNat (96 : Int).toNat) (sNew K190 σ188) (fun q191 K192 σ193 => ckP (IsC K192 o 10) (nm (kRef K192 o 49 (some q191)) (fun K195 => ckP (IsC K195 o 10) (nm (up2 σ193 o 52 (-1)) (fun σ197 => ck (0 ≤ (26 : Int) ∧ (26 : Int) ≤ 1000000) (nw K195.2.2.1 (kNew K195 20 (26 : Int).toNat (26 : Int).toNat) (sNew K195 σ197) (fun q198 K199 σ200 => ckP (IsC K199 o 10) (nm (kRef K199 o 55 (some q198)) (fun K202 => ckP (IsC K202 o 10) (nm (up2 σ200 o 56 (-1)) (fun σ204 => ckP (IsC K202 o 10) (nm (up2 σ204 o 57 (-1)) (fun σ206 => ckP (IsC K202 o 10) ((K202.1 o 3).bind (fun t208 => ckP (IsA K202 t208 20 (K202.2.1 t208).2) (ck (0 ≤ (3 : Int) ∧ (3 : Int) < ((K202.2.1 t208).2 : Int)) (nm (up2 σ206 t208 3 (-1)) (fun σ210 => ckP (IsC K202 o 10) ((K202.1 o 3).bind (fun t212 => ckP (IsA K202 t212 20 (K202.2.1 t212).2) (ck (0 ≤ (5 : Int) ∧ (5 : Int) < ((K202.2.1 t212).2 : Int)) (nm (up2 σ210 t212 5 3) (fun σ214 => ckP (IsC K202 o 10) ((K202.1 o 3).bind (fun t216 => ckP (IsA K202 t216 20 (K202.2.1 t216).2) (ck (0 ≤ (6 : Int) ∧ (6 : Int) < ((K202.2.1 t216).2 : Int)) (nm (up2 σ214 t216 6 1) (fun σ218 => some (K202, σ218))))))))))))))))))))))))))))))))))))))))))))))))))))))))))))))))))))))))))))))))))))))))))))))))))))))))))))))))))))))))))))))))))))))))))))))))))))))))))))))))))))))))))))))))))))))))))))))))))))))))))))))))))))))))
set_option maxRecDepth 100000 in
set_option maxHeartbeats 4000000 in
theorem tX10_init {Γ : Gx} (o : Nat) (K : Kt) (σ : Sg) : Y Γ MX10_init K emVK K 0 [some (aR o)] [] σ (vX10_init o K σ) := by
  unfold vX10_init
  refine y_aload_n dX10_init_0 rfl rfl ?_
  refine y_objInit oX10_1 (by decide) (Nat.le_of_ble_eq_true rfl) dX10_init_1 ?_
  refine y_aload_n dX10_init_4 rfl rfl ?_
  refine y_bipush dX10_init_5 (by decide) (by decide) ?_
  refine yn_newarr_int wA_int dX10_init_7 (fun q1 K2 σ3 => ?_)
  refine y_ckP (fun hc4 => ?_)
  refine yn_putR fX10_7 hc4 rfl rfl rfl rfl dX10_init_9 (fun K5 => ?_)
  refine y_aload_n dX10_init_12 rfl rfl ?_
  refine y_sipush dX10_init_13 (by decide) (by decide) ?_
  refine yn_newarr_int wA_int dX10_init_16 (fun q6 K7 σ8 => ?_)
  refine y_ckP (fun hc9 => ?_)
  refine yn_putR fX10_13 hc9 rfl rfl rfl rfl dX10_init_18 (fun K10 => ?_)
  refine y_aload_n dX10_init_21 rfl rfl ?_
  refine y_sipush dX10_init_22 (by decide) (by decide) ?_
  refine yn_newarr_int wA_int dX10_init_25 (fun q11 K12 σ13 => ?_)
  refine y_ckP (fun hc14 => ?_)
  refine yn_putR fX10_16 hc14 rfl rfl rfl rfl dX10_init_27 (fun K15 => ?_)
  refine y_aload_n dX10_init_30 rfl rfl ?_
  refine y_iconst dX10_init_31 (by decide) ?_
  refine yn_newarr_boolean wA_boolean dX10_init_32 (fun q16 K17 σ18 => ?_)
  refine y_ckP (fun hc19 => ?_)
  refine yn_putR fX10_19 hc19 rfl rfl rfl rfl dX10_init_34 (fun K20 => ?_)
  refine y_aload_n dX10_init_37 rfl rfl ?_
  refine y_sipush dX10_init_38 (by decide) (by decide) ?_
  refine yn_newarr_int wA_int dX10_init_41 (fun q21 K22 σ23 => ?_)
  refine y_ckP (fun hc24 => ?_)
  refine yn_putR fX10_23 hc24 rfl rfl rfl rfl dX10_init_43 (fun K25 => ?_)
  refine y_aload_n dX10_init_46 rfl rfl ?_
  refine y_bipush dX10_init_47 (by decide) (by decide) ?_
  refine yn_newarr_int wA_int dX10_init_49 (fun q26 K27 σ28 => ?_)
  refine y_ckP (fun hc29 => ?_)
  refine yn_putR fX10_26 hc29 rfl rfl rfl rfl dX10_init_51 (fun K30 => ?_)
  refine y_aload_n dX10_init_54 rfl rfl ?_
  refine y_sipush dX10_init_55 (by decide) (by decide) ?_
  refine yn_newarr_int wA_int dX10_init_58 (fun q31 K32 σ33 => ?_)
  refine y_ckP (fun hc34 => ?_)
  refine yn_putR fX10_29 hc34 rfl rfl rfl rfl dX10_init_60 (fun K35 => ?_)
  refine y_aload_n dX10_init_63 rfl rfl ?_
  refine y_bipush dX10_init_64 (by decide) (by decide) ?_
  refine yn_newarr_int wA_int dX10_init_66 (fun q36 K37 σ38 => ?_)
  refine y_ckP (fun hc39 => ?_)
  refine yn_putR fX10_32 hc39 rfl rfl rfl rfl dX10_init_68 (fun K40 => ?_)
  refine y_aload_n dX10_init_71 rfl rfl ?_
  refine y_sipush dX10_init_72 (by decide) (by decide) ?_
  refine yn_newarr_int wA_int dX10_init_75 (fun q41 K42 σ43 => ?_)
  refine y_ckP (fun hc44 => ?_)
  refine yn_putR fX10_35 hc44 rfl rfl rfl rfl dX10_init_77 (fun K45 => ?_)
  refine y_aload_n dX10_init_80 rfl rfl ?_
  refine y_iconst dX10_init_81 (by decide) ?_
  refine y_ckP (fun hc46 => ?_)
  refine yn_putI fX10_38 hc46 rfl rfl dX10_init_82 (fun σ47 => ?_)
  refine y_aload_n dX10_init_85 rfl rfl ?_
  refine y_bipush dX10_init_86 (by decide) (by decide) ?_
  refine yn_newarr_int wA_int dX10_init_88 (fun q48 K49 σ50 => ?_)
  refine y_ckP (fun hc51 => ?_)
  refine yn_putR fX10_42 hc51 rfl rfl rfl rfl dX10_init_90 (fun K52 => ?_)
  refine y_aload_n dX10_init_93 rfl rfl ?_
  refine y_sipush dX10_init_94 (by decide) (by decide) ?_
  refine yn_newarr_int wA_int dX10_init_97 (fun q53 K54 σ55 => ?_)
  refine y_ckP (fun hc56 => ?_)
  refine yn_putR fX10_45 hc56 rfl rfl rfl rfl dX10_init_99 (fun K57 => ?_)
  refine y_aload_n dX10_init_102 rfl rfl ?_
  refine y_sipush dX10_init_103 (by decide) (by decide) ?_
  refine yn_newarr_int wA_int dX10_init_106 (fun q58 K59 σ60 => ?_)
  refine y_ckP (fun hc61 => ?_)
  refine yn_putR fX10_48 hc61 rfl rfl rfl rfl dX10_init_108 (fun K62 => ?_)
  refine y_aload_n dX10_init_111 rfl rfl ?_
  refine y_sipush dX10_init_112 (by decide) (by decide) ?_
  refine yn_newarr_int wA_int dX10_init_115 (fun q63 K64 σ65 => ?_)
  refine y_ckP (fun hc66 => ?_)
  refine yn_putR fX10_51 hc66 rfl rfl rfl rfl dX10_init_117 (fun K67 => ?_)
  refine y_aload_n dX10_init_120 rfl rfl ?_
  refine y_sipush dX10_init_121 (by decide) (by decide) ?_
  refine yn_newarr_int wA_int dX10_init_124 (fun q68 K69 σ70 => ?_)
  refine y_ckP (fun hc71 => ?_)
  refine yn_putR fX10_54 hc71 rfl rfl rfl rfl dX10_init_126 (fun K72 => ?_)
  refine y_aload_n dX10_init_129 rfl rfl ?_
  refine y_bipush dX10_init_130 (by decide) (by decide) ?_
  refine yn_newarr_long wA_long dX10_init_132 (fun q73 K74 σ75 => ?_)
  refine y_dup dX10_init_134 (fun _ => rfl) ?_
  refine y_iconst dX10_init_135 (by decide) ?_
  refine y_ldc2 81387 wX10_c57 dX10_init_136 (by decide) (by decide) ?_
  refine y_ckP (fun hc76 => ?_)
  refine yk_lastore hc76 (N := ((K74.2.1 q73).2 : Int)) rfl (j := 0) rfl dX10_init_139 (fun σ77 => ?_)
  refine y_dup dX10_init_140 (fun _ => rfl) ?_
  refine y_iconst dX10_init_141 (by decide) ?_
  refine y_ldc2 408362632 wX10_c59 dX10_init_142 (by decide) (by decide) ?_
  refine y_ckP (fun hc78 => ?_)
  refine yk_lastore hc78 (N := ((K74.2.1 q73).2 : Int)) rfl (j := 1) rfl dX10_init_145 (fun σ79 => ?_)
  refine y_dup dX10_init_146 (fun _ => rfl) ?_
  refine y_iconst dX10_init_147 (by decide) ?_
  refine y_ldc2 17484389 wX10_c61 dX10_init_148 (by decide) (by decide) ?_
  refine y_ckP (fun hc80 => ?_)
  refine yk_lastore hc80 (N := ((K74.2.1 q73).2 : Int)) rfl (j := 2) rfl dX10_init_151 (fun σ81 => ?_)
  refine y_dup dX10_init_152 (fun _ => rfl) ?_
  refine y_iconst dX10_init_153 (by decide) ?_
  refine y_ldc2 609259698 wX10_c63 dX10_init_154 (by decide) (by decide) ?_
  refine y_ckP (fun hc82 => ?_)
  refine yk_lastore hc82 (N := ((K74.2.1 q73).2 : Int)) rfl (j := 3) rfl dX10_init_157 (fun σ83 => ?_)
  refine y_dup dX10_init_158 (fun _ => rfl) ?_
  refine y_iconst dX10_init_159 (by decide) ?_
  refine y_ldc2 690005651 wX10_c65 dX10_init_160 (by decide) (by decide) ?_
  refine y_ckP (fun hc84 => ?_)
  refine yk_lastore hc84 (N := ((K74.2.1 q73).2 : Int)) rfl (j := 4) rfl dX10_init_163 (fun σ85 => ?_)
  refine y_dup dX10_init_164 (fun _ => rfl) ?_
  refine y_iconst dX10_init_165 (by decide) ?_
  refine y_ldc2 769614 wX10_c67 dX10_init_166 (by decide) (by decide) ?_
  refine y_ckP (fun hc86 => ?_)
  refine yk_lastore hc86 (N := ((K74.2.1 q73).2 : Int)) rfl (j := 5) rfl dX10_init_169 (fun σ87 => ?_)
  refine y_dup dX10_init_170 (fun _ => rfl) ?_
  refine y_bipush dX10_init_171 (by decide) (by decide) ?_
  refine y_ldc2 366100 wX10_c69 dX10_init_173 (by decide) (by decide) ?_
  refine y_ckP (fun hc88 => ?_)
  refine yk_lastore hc88 (N := ((K74.2.1 q73).2 : Int)) rfl (j := 6) rfl dX10_init_176 (fun σ89 => ?_)
  refine y_dup dX10_init_177 (fun _ => rfl) ?_
  refine y_bipush dX10_init_178 (by decide) (by decide) ?_
  refine y_ldc2 758955 wX10_c71 dX10_init_180 (by decide) (by decide) ?_
  refine y_ckP (fun hc90 => ?_)
  refine yk_lastore hc90 (N := ((K74.2.1 q73).2 : Int)) rfl (j := 7) rfl dX10_init_183 (fun σ91 => ?_)
  refine y_dup dX10_init_184 (fun _ => rfl) ?_
  refine y_bipush dX10_init_185 (by decide) (by decide) ?_
  refine y_ldc2 441828 wX10_c73 dX10_init_187 (by decide) (by decide) ?_
  refine y_ckP (fun hc92 => ?_)
  refine yk_lastore hc92 (N := ((K74.2.1 q73).2 : Int)) rfl (j := 8) rfl dX10_init_190 (fun σ93 => ?_)
  refine y_ckP (fun hc94 => ?_)
  refine yn_putR fX10_75 hc94 rfl rfl rfl rfl dX10_init_191 (fun K95 => ?_)
  refine y_aload_n dX10_init_194 rfl rfl ?_
  refine y_bipush dX10_init_195 (by decide) (by decide) ?_
  refine yn_newarr_long wA_long dX10_init_197 (fun q96 K97 σ98 => ?_)
  refine y_dup dX10_init_199 (fun _ => rfl) ?_
  refine y_iconst dX10_init_200 (by decide) ?_
  refine y_ldc2 758955 wX10_c71 dX10_init_201 (by decide) (by decide) ?_
  refine y_ckP (fun hc99 => ?_)
  refine yk_lastore hc99 (N := ((K97.2.1 q96).2 : Int)) rfl (j := 0) rfl dX10_init_204 (fun σ100 => ?_)
  refine y_dup dX10_init_205 (fun _ => rfl) ?_
  refine y_iconst dX10_init_206 (by decide) ?_
  refine y_ldc2 146885 wX10_c79 dX10_init_207 (by decide) (by decide) ?_
  refine y_ckP (fun hc101 => ?_)
  refine yk_lastore hc101 (N := ((K97.2.1 q96).2 : Int)) rfl (j := 1) rfl dX10_init_210 (fun σ102 => ?_)
  refine y_dup dX10_init_211 (fun _ => rfl) ?_
  refine y_iconst dX10_init_212 (by decide) ?_
  refine y_ldc2 404362868 wX10_c81 dX10_init_213 (by decide) (by decide) ?_
  refine y_ckP (fun hc103 => ?_)
  refine yk_lastore hc103 (N := ((K97.2.1 q96).2 : Int)) rfl (j := 2) rfl dX10_init_216 (fun σ104 => ?_)
  refine y_dup dX10_init_217 (fun _ => rfl) ?_
  refine y_iconst dX10_init_218 (by decide) ?_
  refine y_ldc2 24739718599 wX10_c83 dX10_init_219 (by decide) (by decide) ?_
  refine y_ckP (fun hc105 => ?_)
  refine yk_lastore hc105 (N := ((K97.2.1 q96).2 : Int)) rfl (j := 3) rfl dX10_init_222 (fun σ106 => ?_)
  refine y_dup dX10_init_223 (fun _ => rfl) ?_
  refine y_iconst dX10_init_224 (by decide) ?_
  refine y_ldc2 763528 wX10_c85 dX10_init_225 (by decide) (by decide) ?_
  refine y_ckP (fun hc107 => ?_)
  refine yk_lastore hc107 (N := ((K97.2.1 q96).2 : Int)) rfl (j := 4) rfl dX10_init_228 (fun σ108 => ?_)
  refine y_dup dX10_init_229 (fun _ => rfl) ?_
  refine y_iconst dX10_init_230 (by decide) ?_
  refine y_ldc2 769614 wX10_c67 dX10_init_231 (by decide) (by decide) ?_
  refine y_ckP (fun hc109 => ?_)
  refine yk_lastore hc109 (N := ((K97.2.1 q96).2 : Int)) rfl (j := 5) rfl dX10_init_234 (fun σ110 => ?_)
  refine y_dup dX10_init_235 (fun _ => rfl) ?_
  refine y_bipush dX10_init_236 (by decide) (by decide) ?_
  refine y_ldc2 17484389 wX10_c61 dX10_init_238 (by decide) (by decide) ?_
  refine y_ckP (fun hc111 => ?_)
  refine yk_lastore hc111 (N := ((K97.2.1 q96).2 : Int)) rfl (j := 6) rfl dX10_init_241 (fun σ112 => ?_)
  refine y_ckP (fun hc113 => ?_)
  refine yn_putR fX10_87 hc113 rfl rfl rfl rfl dX10_init_242 (fun K114 => ?_)
  refine y_aload_n dX10_init_245 rfl rfl ?_
  refine y_iconst dX10_init_246 (by decide) ?_
  refine yn_newarr_long wA_long dX10_init_247 (fun q115 K116 σ117 => ?_)
  refine y_dup dX10_init_249 (fun _ => rfl) ?_
  refine y_iconst dX10_init_250 (by decide) ?_
  refine y_ldc2 6600883 wX10_c90 dX10_init_251 (by decide) (by decide) ?_
  refine y_ckP (fun hc118 => ?_)
  refine yk_lastore hc118 (N := ((K116.2.1 q115).2 : Int)) rfl (j := 0) rfl dX10_init_254 (fun σ119 => ?_)
  refine y_dup dX10_init_255 (fun _ => rfl) ?_
  refine y_iconst dX10_init_256 (by decide) ?_
  refine y_ldc2 24282707 wX10_c92 dX10_init_257 (by decide) (by decide) ?_
  refine y_ckP (fun hc120 => ?_)
  refine yk_lastore hc120 (N := ((K116.2.1 q115).2 : Int)) rfl (j := 1) rfl dX10_init_260 (fun σ121 => ?_)
  refine y_dup dX10_init_261 (fun _ => rfl) ?_
  refine y_iconst dX10_init_262 (by decide) ?_
  refine y_ldc2 21015731 wX10_c94 dX10_init_263 (by decide) (by decide) ?_
  refine y_ckP (fun hc122 => ?_)
  refine yk_lastore hc122 (N := ((K116.2.1 q115).2 : Int)) rfl (j := 2) rfl dX10_init_266 (fun σ123 => ?_)
  refine y_dup dX10_init_267 (fun _ => rfl) ?_
  refine y_iconst dX10_init_268 (by decide) ?_
  refine y_ldc2 67155 wX10_c96 dX10_init_269 (by decide) (by decide) ?_
  refine y_ckP (fun hc124 => ?_)
  refine yk_lastore hc124 (N := ((K116.2.1 q115).2 : Int)) rfl (j := 3) rfl dX10_init_272 (fun σ125 => ?_)
  refine y_ckP (fun hc126 => ?_)
  refine yn_putR fX10_98 hc126 rfl rfl rfl rfl dX10_init_273 (fun K127 => ?_)
  refine y_aload_n dX10_init_276 rfl rfl ?_
  refine y_bipush dX10_init_277 (by decide) (by decide) ?_
  refine yn_newarr_long wA_long dX10_init_279 (fun q128 K129 σ130 => ?_)
  refine y_ckP (fun hc131 => ?_)
  refine yn_putR fX10_101 hc131 rfl rfl rfl rfl dX10_init_281 (fun K132 => ?_)
  refine y_aload_n dX10_init_284 rfl rfl ?_
  refine y_bipush dX10_init_285 (by decide) (by decide) ?_
  refine yn_newarr_long wA_long dX10_init_287 (fun q133 K134 σ135 => ?_)
  refine y_ckP (fun hc136 => ?_)
  refine yn_putR fX10_104 hc136 rfl rfl rfl rfl dX10_init_289 (fun K137 => ?_)
  refine y_aload_n dX10_init_292 rfl rfl ?_
  refine y_sipush dX10_init_293 (by decide) (by decide) ?_
  refine yn_newarr_long wA_long dX10_init_296 (fun q138 K139 σ140 => ?_)
  refine y_ckP (fun hc141 => ?_)
  refine yn_putR fX10_107 hc141 rfl rfl rfl rfl dX10_init_298 (fun K142 => ?_)
  refine y_aload_n dX10_init_301 rfl rfl ?_
  refine y_bipush dX10_init_302 (by decide) (by decide) ?_
  refine yn_newarr_int wA_int dX10_init_304 (fun q143 K144 σ145 => ?_)
  refine y_ckP (fun hc146 => ?_)
  refine yn_putR fX10_110 hc146 rfl rfl rfl rfl dX10_init_306 (fun K147 => ?_)
  refine y_aload_n dX10_init_309 rfl rfl ?_
  refine y_bipush dX10_init_310 (by decide) (by decide) ?_
  refine yn_newarr_int wA_int dX10_init_312 (fun q148 K149 σ150 => ?_)
  refine y_ckP (fun hc151 => ?_)
  refine yn_putR fX10_113 hc151 rfl rfl rfl rfl dX10_init_314 (fun K152 => ?_)
  refine y_aload_n dX10_init_317 rfl rfl ?_
  refine y_bipush dX10_init_318 (by decide) (by decide) ?_
  refine yn_newarr_int wA_int dX10_init_320 (fun q153 K154 σ155 => ?_)
  refine y_ckP (fun hc156 => ?_)
  refine yn_putR fX10_116 hc156 rfl rfl rfl rfl dX10_init_322 (fun K157 => ?_)
  refine y_aload_n dX10_init_325 rfl rfl ?_
  refine y_sipush dX10_init_326 (by decide) (by decide) ?_
  refine yn_newarr_boolean wA_boolean dX10_init_329 (fun q158 K159 σ160 => ?_)
  refine y_ckP (fun hc161 => ?_)
  refine yn_putR fX10_119 hc161 rfl rfl rfl rfl dX10_init_331 (fun K162 => ?_)
  refine y_aload_n dX10_init_334 rfl rfl ?_
  refine y_sipush dX10_init_335 (by decide) (by decide) ?_
  refine yn_newarr_int wA_int dX10_init_338 (fun q163 K164 σ165 => ?_)
  refine y_ckP (fun hc166 => ?_)
  refine yn_putR fX10_122 hc166 rfl rfl rfl rfl dX10_init_340 (fun K167 => ?_)
  refine y_aload_n dX10_init_343 rfl rfl ?_
  refine y_bipush dX10_init_344 (by decide) (by decide) ?_
  refine yn_newarr_int wA_int dX10_init_346 (fun q168 K169 σ170 => ?_)
  refine y_ckP (fun hc171 => ?_)
  refine yn_putR fX10_125 hc171 rfl rfl rfl rfl dX10_init_348 (fun K172 => ?_)
  refine y_aload_n dX10_init_351 rfl rfl ?_
  refine y_bipush dX10_init_352 (by decide) (by decide) ?_
  refine yn_newarr_long wA_long dX10_init_354 (fun q173 K174 σ175 => ?_)
  refine y_ckP (fun hc176 => ?_)
  refine yn_putR fX10_128 hc176 rfl rfl rfl rfl dX10_init_356 (fun K177 => ?_)
  refine y_aload_n dX10_init_359 rfl rfl ?_
  refine y_iconst dX10_init_360 (by decide) ?_
  refine yn_newarr_long wA_long dX10_init_361 (fun q178 K179 σ180 => ?_)
  refine y_dup dX10_init_363 (fun _ => rfl) ?_
  refine y_iconst dX10_init_364 (by decide) ?_
  refine y_ldc2 398788 wX10_c131 dX10_init_365 (by decide) (by decide) ?_
  refine y_ckP (fun hc181 => ?_)
  refine yk_lastore hc181 (N := ((K179.2.1 q178).2 : Int)) rfl (j := 0) rfl dX10_init_368 (fun σ182 => ?_)
  refine y_dup dX10_init_369 (fun _ => rfl) ?_
  refine y_iconst dX10_init_370 (by decide) ?_
  refine y_ldc2 2696647 wX10_c133 dX10_init_371 (by decide) (by decide) ?_
  refine y_ckP (fun hc183 => ?_)
  refine yk_lastore hc183 (N := ((K179.2.1 q178).2 : Int)) rfl (j := 1) rfl dX10_init_374 (fun σ184 => ?_)
  refine y_dup dX10_init_375 (fun _ => rfl) ?_
  refine y_iconst dX10_init_376 (by decide) ?_
  refine y_ldc2 754996 wX10_c135 dX10_init_377 (by decide) (by decide) ?_
  refine y_ckP (fun hc185 => ?_)
  refine yk_lastore hc185 (N := ((K179.2.1 q178).2 : Int)) rfl (j := 2) rfl dX10_init_380 (fun σ186 => ?_)
  refine y_dup dX10_init_381 (fun _ => rfl) ?_
  refine y_iconst dX10_init_382 (by decide) ?_
  refine y_ldc2 525939 wX10_c137 dX10_init_383 (by decide) (by decide) ?_
  refine y_ckP (fun hc187 => ?_)
  refine yk_lastore hc187 (N := ((K179.2.1 q178).2 : Int)) rfl (j := 3) rfl dX10_init_386 (fun σ188 => ?_)
  refine y_ckP (fun hc189 => ?_)
  refine yn_putR fX10_139 hc189 rfl rfl rfl rfl dX10_init_387 (fun K190 => ?_)
  refine y_aload_n dX10_init_390 rfl rfl ?_
  refine y_bipush dX10_init_391 (by decide) (by decide) ?_
  refine yn_newarr_int wA_int dX10_init_393 (fun q191 K192 σ193 => ?_)
  refine y_ckP (fun hc194 => ?_)
  refine yn_putR fX10_142 hc194 rfl rfl rfl rfl dX10_init_395 (fun K195 => ?_)
  refine y_aload_n dX10_init_398 rfl rfl ?_
  refine y_iconst dX10_init_399 (by decide) ?_
  refine y_ckP (fun hc196 => ?_)
  refine yn_putI fX10_145 hc196 rfl rfl dX10_init_400 (fun σ197 => ?_)
  refine y_aload_n dX10_init_403 rfl rfl ?_
  refine y_bipush dX10_init_404 (by decide) (by decide) ?_
  refine yn_newarr_int wA_int dX10_init_406 (fun q198 K199 σ200 => ?_)
  refine y_ckP (fun hc201 => ?_)
  refine yn_putR fX10_148 hc201 rfl rfl rfl rfl dX10_init_408 (fun K202 => ?_)
  refine y_aload_n dX10_init_411 rfl rfl ?_
  refine y_iconst dX10_init_412 (by decide) ?_
  refine y_ckP (fun hc203 => ?_)
  refine yn_putI fX10_151 hc203 rfl rfl dX10_init_413 (fun σ204 => ?_)
  refine y_aload_n dX10_init_416 rfl rfl ?_
  refine y_iconst dX10_init_417 (by decide) ?_
  refine y_ckP (fun hc205 => ?_)
  refine yn_putI fX10_154 hc205 rfl rfl dX10_init_418 (fun σ206 => ?_)
  refine y_aload_n dX10_init_421 rfl rfl ?_
  refine y_ckP (fun hc207 => ?_)
  refine yb_getR fX10_13 hc207 rfl dX10_init_422 (fun t208 ht208 => ?_)
  refine y_iconst dX10_init_425 (by decide) ?_
  refine y_iconst dX10_init_426 (by decide) ?_
  refine y_ckP (fun hc209 => ?_)
  refine yk_iastore hc209 (N := ((K202.2.1 t208).2 : Int)) rfl (j := 3) rfl dX10_init_427 (fun σ210 => ?_)
  refine y_aload_n dX10_init_428 rfl rfl ?_
  refine y_ckP (fun hc211 => ?_)
  refine yb_getR fX10_13 hc211 rfl dX10_init_429 (fun t212 ht212 => ?_)
  refine y_iconst dX10_init_432 (by decide) ?_
  refine y_iconst dX10_init_433 (by decide) ?_
  refine y_ckP (fun hc213 => ?_)
  refine yk_iastore hc213 (N := ((K202.2.1 t212).2 : Int)) rfl (j := 5) rfl dX10_init_434 (fun σ214 => ?_)
  refine y_aload_n dX10_init_435 rfl rfl ?_
  refine y_ckP (fun hc215 => ?_)
  refine yb_getR fX10_13 hc215 rfl dX10_init_436 (fun t216 ht216 => ?_)
  refine y_bipush dX10_init_439 (by decide) (by decide) ?_
  refine y_iconst dX10_init_441 (by decide) ?_
  refine y_ckP (fun hc217 => ?_)
  refine yk_iastore hc217 (N := ((K202.2.1 t216).2 : Int)) rfl (j := 6) rfl dX10_init_442 (fun σ218 => ?_)
  exact y_vret rfl rfl dX10_init_443
theorem qX10_init (o : Nat) (K : Kt) (σ : Sg) (hg : ∀ ou, vX10_init o K σ = some ou → Gr K (emVK ou).2.1) : Cc MX10_init K [aR o] σ emVK (vX10_init o K σ) := cc_of plX10 (Nat.le_of_ble_eq_true rfl) hg (fun Γ => tX10_init o K σ)
noncomputable def vX8_keep_39 (o : Nat) (x0 : Nat) (x1 : Nat) (x2 : Int) (x3 : Int) (K : Kt) (σ : Sg) : Option (Kt × Sg) := ckP (IsC K x0 8) ((K.1 x0 0).bind (fun t2 => ckP (IsA K t2 24 (K.2.1 t2).2) (ck (0 ≤ x3 ∧ x3 < ((K.2.1 t2).2 : Int)) (((K.1 t2 x3.toNat)).bind (fun t4 => ckP (hallAt K t4) (ckP (hallAt K x1) (ckP (IsC K t4 1) ((vX1_copyFrom K t4 x1 σ).bind (fun σ8 => ckP (IsC K x0 8) ((K.1 x0 1).bind (fun t10 => ckP (IsA K t10 20 (K.2.1 t10).2) (ck (0 ≤ x3 ∧ x3 < ((K.2.1 t10).2 : Int)) (nm (up2 σ8 t10 x3.toNat x2) (fun σ12 => ckP (IsC K x0 8) (if (σ12 x0 3) < 16 then (ckP (IsC K x0 8) (ck (in32 ((σ12 x0 3) + 1)) (ckP (IsC K x0 8) (nm (up2 σ12 x0 3 ((σ12 x0 3) + 1)) (fun σ17 => some (K, σ17)))))) else (ckP (IsC K x0 8) (ck (in32 ((σ12 x0 2) + 1)) (ck (¬ (16 : Int) = 0 ∧ in32 (Int.tmod ((σ12 x0 2) + 1) 16)) (ckP (IsC K x0 8) (nm (up2 σ12 x0 2 (Int.tmod ((σ12 x0 2) + 1) 16)) (fun σ20 => some (K, σ20))))))))))))))))))))))
set_option maxRecDepth 100000 in
set_option maxHeartbeats 4000000 in
theorem tX8_keep_39 {Γ : Gx} (o : Nat) {K0 : Kt} (x0 : Nat) (x1 : Nat) (x2 : Int) (x3 : Int) (K : Kt) (σ : Sg) : Y Γ MX8_keep K0 emVK K 39 [some (aR x0), some (aR x1), some (aI x2), some (aI x3)] [] σ (vX8_keep_39 o x0 x1 x2 x3 K σ) := by
  unfold vX8_keep_39
  refine y_aload_n dX8_keep_39 rfl rfl ?_
  refine y_ckP (fun hc1 => ?_)
  refine yb_getR fX8_11 hc1 rfl dX8_keep_40 (fun t2 ht2 => ?_)
  refine y_iload_n dX8_keep_43 rfl rfl ?_
  refine y_ckP (fun hc3 => ?_)
  refine yk_aaload (by decide) hc3 (N := ((K.2.1 t2).2 : Int)) rfl dX8_keep_44 ?_
  refine y_nn (fun t4 ht4 => ?_)
  refine y_aload_n dX8_keep_45 rfl rfl ?_
  refine y_ckP (fun hp5 => ?_)
  refine y_ckP (fun hp6 => ?_)
  refine y_ckP (fun hc7 => ?_)
  refine y_cvV (qX1_copyFrom hp5 hp6 σ) kX8_35 rfl hc7 rfl (by decide) rfl (Nat.le_of_ble_eq_true rfl) dX8_keep_46 (fun σ8 => ?_)
  refine y_aload_n dX8_keep_49 rfl rfl ?_
  refine y_ckP (fun hc9 => ?_)
  refine yb_getR fX8_17 hc9 rfl dX8_keep_50 (fun t10 ht10 => ?_)
  refine y_iload_n dX8_keep_53 rfl rfl ?_
  refine y_iload_n dX8_keep_54 rfl rfl ?_
  refine y_ckP (fun hc11 => ?_)
  refine yk_iastore hc11 (N := ((K.2.1 t10).2 : Int)) rfl (j := x3.toNat) rfl dX8_keep_55 (fun σ12 => ?_)
  refine y_aload_n dX8_keep_56 rfl rfl ?_
  refine y_ckP (fun hc13 => ?_)
  refine y_getI fX8_25 hc13 rfl dX8_keep_57 ?_
  refine y_bipush dX8_keep_60 (by decide) (by decide) ?_
  refine y_ite (fun h14 => ?_) (fun h14 => ?_)
  · refine y_icmp_ge_f dX8_keep_62 (t := 78) rfl h14 ?_
    refine y_aload_n dX8_keep_65 rfl rfl ?_
    refine y_dup dX8_keep_66 (fun _ => rfl) ?_
    refine y_ckP (fun hc15 => ?_)
    refine y_getI fX8_25 hc15 rfl dX8_keep_67 ?_
    refine y_iconst dX8_keep_70 (by decide) ?_
    refine yk_iadd dX8_keep_71 ?_
    refine y_ckP (fun hc16 => ?_)
    refine yn_putI fX8_25 hc16 rfl rfl dX8_keep_72 (fun σ17 => ?_)
    refine y_goto dX8_keep_75 (t := 91) rfl ?_
    exact y_vret rfl rfl dX8_keep_91
  · refine y_icmp_ge_t dX8_keep_62 (t := 78) rfl h14 ?_
    refine y_aload_n dX8_keep_78 rfl rfl ?_
    refine y_aload_n dX8_keep_79 rfl rfl ?_
    refine y_ckP (fun hc18 => ?_)
    refine y_getI fX8_21 hc18 rfl dX8_keep_80 ?_
    refine y_iconst dX8_keep_83 (by decide) ?_
    refine yk_iadd dX8_keep_84 ?_
    refine y_bipush dX8_keep_85 (by decide) (by decide) ?_
    refine yk_irem dX8_keep_87 ?_
    refine y_ckP (fun hc19 => ?_)
    refine yn_putI fX8_21 hc19 rfl rfl dX8_keep_88 (fun σ20 => ?_)
    exact y_vret rfl rfl dX8_keep_91
noncomputable def vX8_keep (o : Nat) (p1 : Nat) (p2 : Int) (K : Kt) (σ : Sg) : Option (Kt × Sg) := ckP (IsC K o 8) (ckP (IsC K o 8) (ck (in32 ((σ o 2) + (σ o 3))) (ck (¬ (16 : Int) = 0 ∧ in32 (Int.tmod ((σ o 2) + (σ o 3)) 16)) (nm (Int.tmod ((σ o 2) + (σ o 3)) 16) (fun z3 => ckP (IsC K o 8) ((K.1 o 0).bind (fun t5 => ckP (IsA K t5 24 (K.2.1 t5).2) (ck (0 ≤ z3 ∧ z3 < ((K.2.1 t5).2 : Int)) ((K.1 t5 z3.toNat).elim (ckP (IsC K o 8) ((K.1 o 0).bind (fun t9 => nw K.2.2.1 (kNew K 1 0 17) (sNew K σ) (fun q10 K11 σ12 => ckP (IsC K11 p1 1) ((K11.1 p1 0).bind (fun t14 => bdVK (vX1_init q10 t14 K11 σ12) (fun K15 σ16 => ckP (IsA K15 t9 24 (K15.2.1 t9).2) (ckP (∀ x, (some q10) = some x → IsC K15 x 1) (ck (0 ≤ z3 ∧ z3 < ((K15.2.1 t9).2 : Int)) (nm (kRef K15 t9 z3.toNat (some q10)) (fun K18 => vX8_keep_39 o o p1 p2 z3 K18 σ16))))))))))) (fun t7 => vX8_keep_39 o o p1 p2 z3 K σ))))))))))
set_option maxRecDepth 100000 in
set_option maxHeartbeats 4000000 in
theorem tX8_keep {Γ : Gx} (o : Nat) (p1 : Nat) (p2 : Int) (K : Kt) (σ : Sg) : Y Γ MX8_keep K emVK K 0 [some (aR o), some (aR p1), some (aI p2), none] [] σ (vX8_keep o p1 p2 K σ) := by
  unfold vX8_keep
  refine y_aload_n dX8_keep_0 rfl rfl ?_
  refine y_ckP (fun hc1 => ?_)
  refine y_getI fX8_21 hc1 rfl dX8_keep_1 ?_
  refine y_aload_n dX8_keep_4 rfl rfl ?_
  refine y_ckP (fun hc2 => ?_)
  refine y_getI fX8_25 hc2 rfl dX8_keep_5 ?_
  refine yk_iadd dX8_keep_8 ?_
  refine y_bipush dX8_keep_9 (by decide) (by decide) ?_
  refine yk_irem dX8_keep_11 ?_
  refine yn_istore_n dX8_keep_12 rfl (Nat.le_of_ble_eq_true rfl) (L' := fun z3 => [some (aR o), some (aR p1), some (aI p2), some (aI z3)]) (fun _ => rfl) (fun z3 => ?_)
  refine y_aload_n dX8_keep_13 rfl rfl ?_
  refine y_ckP (fun hc4 => ?_)
  refine yb_getR fX8_11 hc4 rfl dX8_keep_14 (fun t5 ht5 => ?_)
  refine y_iload_n dX8_keep_17 rfl rfl ?_
  refine y_ckP (fun hc6 => ?_)
  refine yk_aaload (by decide) hc6 (N := ((K.2.1 t5).2 : Int)) rfl dX8_keep_18 ?_
  refine y_ifnonnull dX8_keep_19 (t := 39) rfl (fun ht7 => ?_) (fun t7 ht7 => ?_)
  · refine y_aload_n dX8_keep_22 rfl rfl ?_
    refine y_ckP (fun hc8 => ?_)
    refine yb_getR fX8_11 hc8 rfl dX8_keep_23 (fun t9 ht9 => ?_)
    refine y_iload_n dX8_keep_26 rfl rfl ?_
    refine yn_new nX8_9 (by decide) dX8_keep_27 (fun q10 K11 σ12 => ?_)
    refine y_dup dX8_keep_30 (fun _ => rfl) ?_
    refine y_aload_n dX8_keep_31 rfl rfl ?_
    refine y_ckP (fun hc13 => ?_)
    refine yb_getR fX8_28 hc13 rfl dX8_keep_32 (fun t14 ht14 => ?_)
    refine y_ci (qX1_init q10 t14 K11 σ12 (fun ou hou => (tX1_init (Γ := Γ) q10 t14 K11 σ12 ou hou).1)) iX8_32 rfl (by decide) rfl (Nat.le_of_ble_eq_true rfl) dX8_keep_35 (fun K15 σ16 => ?_)
    refine y_ckP (fun hc17 => ?_)
    refine y_ckP (fun hc19 => ?_)
    refine yn_aastore (by decide) hc17 hc19 (N := ((K15.2.1 t9).2 : Int)) rfl dX8_keep_38 (fun K18 => ?_)
    exact tX8_keep_39 o o p1 p2 z3 K18 σ16
  · exact tX8_keep_39 o o p1 p2 z3 K σ
theorem qX8_keep (o : Nat) (p1 : Nat) (p2 : Int) (K : Kt) (σ : Sg) (hg : ∀ ou, vX8_keep o p1 p2 K σ = some ou → Gr K (emVK ou).2.1) : Cc MX8_keep K [aR o, aR p1, aI p2] σ emVK (vX8_keep o p1 p2 K σ) := cc_of plX8 (Nat.le_of_ble_eq_true rfl) hg (fun Γ => tX8_keep o p1 p2 K σ)
noncomputable def vX8_addAll_2 (o : Nat) : Nat → Nat → Nat → Int → Kt → Sg → Option (Kt × Sg)
  | 0, _, _, _, _, _ => none
  | f + 1, x0, x1, x2, K, σ => ckP (IsC K x1 8) (if x2 < (σ x1 3) then (ckP (IsC K x1 8) (ck (in32 ((σ x1 2) + x2)) (ck (¬ (16 : Int) = 0 ∧ in32 (Int.tmod ((σ x1 2) + x2) 16)) (nm (Int.tmod ((σ x1 2) + x2) 16) (fun z4 => ckP (IsC K x1 8) ((K.1 x1 0).bind (fun t6 => ckP (IsA K t6 24 (K.2.1 t6).2) (ck (0 ≤ z4 ∧ z4 < ((K.2.1 t6).2 : Int)) ((K.1 t6 z4.toNat).elim (ck (in32 (x2 + 1)) (vX8_addAll_2 o f x0 x1 (x2 + 1) K σ)) (fun t8 => ckP (IsC K x1 8) ((K.1 x1 0).bind (fun t10 => ckP (IsA K t10 24 (K.2.1 t10).2) (ck (0 ≤ z4 ∧ z4 < ((K.2.1 t10).2 : Int)) (((K.1 t10 z4.toNat)).bind (fun t12 => ckP (IsC K x1 8) ((K.1 x1 1).bind (fun t14 => ckP (IsA K t14 20 (K.2.1 t14).2) (ck (0 ≤ z4 ∧ z4 < ((K.2.1 t14).2 : Int)) (ckP (IsC K x0 8) (bdVK (vX8_keep x0 t12 (σ t14 z4.toNat) K σ) (fun K17 σ18 => ck (in32 (x2 + 1)) (vX8_addAll_2 o f x0 x1 (x2 + 1) K17 σ18)))))))))))))))))))))) else (some (K, σ)))
set_option maxRecDepth 100000 in
set_option maxHeartbeats 4000000 in
theorem tX8_addAll_2 {Γ : Gx} (o : Nat) {K0 : Kt} : ∀ (f : Nat) (x0 : Nat) (x1 : Nat) (x2 : Int) (K : Kt) (σ : Sg), Y Γ MX8_addAll K0 emVK K 2 [some (aR x0), some (aR x1), some (aI x2), none] [] σ (vX8_addAll_2 o f x0 x1 x2 K σ) := by
  intro f
  induction f with
  | zero => intro x0 x1 x2 K σ; exact y_none
  | succ f ih =>
    intro x0 x1 x2 K σ
    rw [vX8_addAll_2]
    refine y_iload_n dX8_addAll_2 rfl rfl ?_
    refine y_aload_n dX8_addAll_3 rfl rfl ?_
    refine y_ckP (fun hc1 => ?_)
    refine y_getI fX8_25 hc1 rfl dX8_addAll_4 ?_
    refine y_ite (fun h2 => ?_) (fun h2 => ?_)
    · refine y_icmp_ge_f dX8_addAll_7 (t := 51) rfl h2 ?_
      refine y_aload_n dX8_addAll_10 rfl rfl ?_
      refine y_ckP (fun hc3 => ?_)
      refine y_getI fX8_21 hc3 rfl dX8_addAll_11 ?_
      refine y_iload_n dX8_addAll_14 rfl rfl ?_
      refine yk_iadd dX8_addAll_15 ?_
      refine y_bipush dX8_addAll_16 (by decide) (by decide) ?_
      refine yk_irem dX8_addAll_18 ?_
      refine yn_istore_n dX8_addAll_19 rfl (Nat.le_of_ble_eq_true rfl) (L' := fun z4 => [some (aR x0), some (aR x1), some (aI x2), some (aI z4)]) (fun _ => rfl) (fun z4 => ?_)
      refine y_aload_n dX8_addAll_20 rfl rfl ?_
      refine y_ckP (fun hc5 => ?_)
      refine yb_getR fX8_11 hc5 rfl dX8_addAll_21 (fun t6 ht6 => ?_)
      refine y_iload_n dX8_addAll_24 rfl rfl ?_
      refine y_ckP (fun hc7 => ?_)
      refine yk_aaload (by decide) hc7 (N := ((K.2.1 t6).2 : Int)) rfl dX8_addAll_25 ?_
      refine y_ifnull dX8_addAll_26 (t := 45) rfl (fun ht8 => ?_) (fun t8 ht8 => ?_)
      · refine yk_iinc dX8_addAll_45 rfl (L' := [some (aR x0), some (aR x1), some (aI (x2 + 1)), some (aI z4)]) rfl ?_
        refine y_goto dX8_addAll_48 (t := 2) rfl ?_
        refine y_fg [true, true, true, false] (L' := [some (aR x0), some (aR x1), some (aI (x2 + 1)), none]) rfl ?_
        exact ih x0 x1 (x2 + 1) K σ
      · refine y_aload_n dX8_addAll_29 rfl rfl ?_
        refine y_aload_n dX8_addAll_30 rfl rfl ?_
        refine y_ckP (fun hc9 => ?_)
        refine yb_getR fX8_11 hc9 rfl dX8_addAll_31 (fun t10 ht10 => ?_)
        refine y_iload_n dX8_addAll_34 rfl rfl ?_
        refine y_ckP (fun hc11 => ?_)
        refine yk_aaload (by decide) hc11 (N := ((K.2.1 t10).2 : Int)) rfl dX8_addAll_35 ?_
        refine y_nn (fun t12 ht12 => ?_)
        refine y_aload_n dX8_addAll_36 rfl rfl ?_
        refine y_ckP (fun hc13 => ?_)
        refine yb_getR fX8_17 hc13 rfl dX8_addAll_37 (fun t14 ht14 => ?_)
        refine y_iload_n dX8_addAll_40 rfl rfl ?_
        refine y_ckP (fun hc15 => ?_)
        refine yk_iaload hc15 (N := ((K.2.1 t14).2 : Int)) rfl (j := z4.toNat) rfl dX8_addAll_41 ?_
        refine y_ckP (fun hc16 => ?_)
        refine y_cvVK (qX8_keep x0 t12 (σ t14 z4.toNat) K σ (fun ou hou => (tX8_keep (Γ := Γ) x0 t12 (σ t14 z4.toNat) K σ ou hou).1)) kX8_39 rfl hc16 rfl (by decide) rfl (Nat.le_of_ble_eq_true rfl) dX8_addAll_42 (fun K17 σ18 => ?_)
        refine yk_iinc dX8_addAll_45 rfl (L' := [some (aR x0), some (aR x1), some (aI (x2 + 1)), some (aI z4)]) rfl ?_
        refine y_goto dX8_addAll_48 (t := 2) rfl ?_
        refine y_fg [true, true, true, false] (L' := [some (aR x0), some (aR x1), some (aI (x2 + 1)), none]) rfl ?_
        exact ih x0 x1 (x2 + 1) K17 σ18
    · refine y_icmp_ge_t dX8_addAll_7 (t := 51) rfl h2 ?_
      exact y_vret rfl rfl dX8_addAll_51
noncomputable def vX8_addAll (o : Nat) (p1 : Nat) (K : Kt) (σ : Sg) : Option (Kt × Sg) := vX8_addAll_2 o FU o p1 0 K σ
set_option maxRecDepth 100000 in
set_option maxHeartbeats 4000000 in
theorem tX8_addAll {Γ : Gx} (o : Nat) (p1 : Nat) (K : Kt) (σ : Sg) : Y Γ MX8_addAll K emVK K 0 [some (aR o), some (aR p1), none, none] [] σ (vX8_addAll o p1 K σ) := by
  unfold vX8_addAll
  refine y_iconst dX8_addAll_0 (by decide) ?_
  refine y_istore_n dX8_addAll_1 rfl (Nat.le_of_ble_eq_true rfl) (L' := [some (aR o), some (aR p1), some (aI 0), none]) rfl ?_
  exact tX8_addAll_2 o FU o p1 0 K σ
theorem qX8_addAll (o : Nat) (p1 : Nat) (K : Kt) (σ : Sg) (hg : ∀ ou, vX8_addAll o p1 K σ = some ou → Gr K (emVK ou).2.1) : Cc MX8_addAll K [aR o, aR p1] σ emVK (vX8_addAll o p1 K σ) := cc_of plX8 (Nat.le_of_ble_eq_true rfl) hg (fun Γ => tX8_addAll o p1 K σ)
noncomputable def vX7_copied (o : Nat) (K : Kt) (σ : Sg) : Option (Option Nat × Kt × Sg) := nw K.2.2.1 (kNew K 7 0 8) (sNew K σ) (fun q1 K2 σ3 => ckP (IsC K2 o 7) (ckP (IsC K2 o 7) (bdVK (vX7_init q1 (σ3 o 6) (σ3 o 7) K2 σ3) (fun K6 σ7 => ckP (IsC K6 o 7) (ckP (IsC K6 q1 7) (nm (up2 σ7 q1 6 (σ7 o 6)) (fun σ10 => ckP (IsC K6 o 7) (ckP (IsC K6 q1 7) (nm (up2 σ10 q1 7 (σ10 o 7)) (fun σ13 => ckP (IsC K6 o 7) ((K6.1 o 0).bind (fun t15 => ckP (IsC K6 q1 7) ((K6.1 q1 0).bind (fun t17 => ckP (IsC K6 o 7) (ckP (IsA K6 t15 20 (K6.2.1 t15).2) (ckP (IsA K6 t17 20 (K6.2.1 t17).2) (ck (0 ≤ (0 : Int) ∧ 0 ≤ (0 : Int) ∧ 0 ≤ (σ13 o 6) ∧ (0 : Int) + (σ13 o 6) ≤ ((K6.2.1 t15).2 : Int) ∧ (0 : Int) + (σ13 o 6) ≤ ((K6.2.1 t17).2 : Int)) (nm (cpy2 σ13 t15 t17 (0 : Int).toNat (0 : Int).toNat (σ13 o 6).toNat) (fun σ21 => ckP (IsC K6 o 7) ((K6.1 o 1).bind (fun t23 => ckP (IsC K6 q1 7) ((K6.1 q1 1).bind (fun t25 => ckP (IsC K6 o 7) (ckP (IsA K6 t23 20 (K6.2.1 t23).2) (ckP (IsA K6 t25 20 (K6.2.1 t25).2) (ck (0 ≤ (0 : Int) ∧ 0 ≤ (0 : Int) ∧ 0 ≤ (σ21 o 6) ∧ (0 : Int) + (σ21 o 6) ≤ ((K6.2.1 t23).2 : Int) ∧ (0 : Int) + (σ21 o 6) ≤ ((K6.2.1 t25).2 : Int)) (nm (cpy2 σ21 t23 t25 (0 : Int).toNat (0 : Int).toNat (σ21 o 6).toNat) (fun σ29 => ckP (IsC K6 o 7) ((K6.1 o 2).bind (fun t31 => ckP (IsC K6 q1 7) ((K6.1 q1 2).bind (fun t33 => ckP (IsC K6 o 7) (ckP (IsA K6 t31 20 (K6.2.1 t31).2) (ckP (IsA K6 t33 20 (K6.2.1 t33).2) (ck (0 ≤ (0 : Int) ∧ 0 ≤ (0 : Int) ∧ 0 ≤ (σ29 o 6) ∧ (0 : Int) + (σ29 o 6) ≤ ((K6.2.1 t31).2 : Int) ∧ (0 : Int) + (σ29 o 6) ≤ ((K6.2.1 t33).2 : Int)) (nm (cpy2 σ29 t31 t33 (0 : Int).toNat (0 : Int).toNat (σ29 o 6).toNat) (fun σ37 => ckP (IsC K6 o 7) ((K6.1 o 3).bind (fun t39 => ckP (IsC K6 q1 7) ((K6.1 q1 3).bind (fun t41 => ckP (IsC K6 o 7) (ckP (IsA K6 t39 20 (K6.2.1 t39).2) (ckP (IsA K6 t41 20 (K6.2.1 t41).2) (ck (0 ≤ (0 : Int) ∧ 0 ≤ (0 : Int) ∧ 0 ≤ (σ37 o 6) ∧ (0 : Int) + (σ37 o 6) ≤ ((K6.2.1 t39).2 : Int) ∧ (0 : Int) + (σ37 o 6) ≤ ((K6.2.1 t41).2 : Int)) (nm (cpy2 σ37 t39 t41 (0 : Int).toNat (0 : Int).toNat (σ37 o 6).toNat) (fun σ45 => ckP (IsC K6 o 7) ((K6.1 o 4).bind (fun t47 => ckP (IsC K6 q1 7) ((K6.1 q1 4).bind (fun t49 => ckP (IsC K6 o 7) (ckP (IsA K6 t47 20 (K6.2.1 t47).2) (ckP (IsA K6 t49 20 (K6.2.1 t49).2) (ck (0 ≤ (0 : Int) ∧ 0 ≤ (0 : Int) ∧ 0 ≤ (σ45 o 6) ∧ (0 : Int) + (σ45 o 6) ≤ ((K6.2.1 t47).2 : Int) ∧ (0 : Int) + (σ45 o 6) ≤ ((K6.2.1 t49).2 : Int)) (nm (cpy2 σ45 t47 t49 (0 : Int).toNat (0 : Int).toNat (σ45 o 6).toNat) (fun σ53 => ckP (IsC K6 o 7) ((K6.1 o 5).bind (fun t55 => ckP (IsC K6 q1 7) ((K6.1 q1 5).bind (fun t57 => ckP (IsC K6 o 7) (ckP (IsA K6 t55 20 (K6.2.1 t55).2) (ckP (IsA K6 t57 20 (K6.2.1 t57).2) (ck (0 ≤ (0 : Int) ∧ 0 ≤ (0 : Int) ∧ 0 ≤ (σ53 o 7) ∧ (0 : Int) + (σ53 o 7) ≤ ((K6.2.1 t55).2 : Int) ∧ (0 : Int) + (σ53 o 7) ≤ ((K6.2.1 t57).2 : Int)) (nm (cpy2 σ53 t55 t57 (0 : Int).toNat (0 : Int).toNat (σ53 o 7).toNat) (fun σ61 => some ((some q1), K6, σ61)))))))))))))))))))))))))))))))))))))))))))))))))))))))))))))))))
set_option maxRecDepth 100000 in
set_option maxHeartbeats 4000000 in
theorem tX7_copied {Γ : Gx} (o : Nat) (K : Kt) (σ : Sg) : Y Γ MX7_copied K emQK K 0 [some (aR o), none] [] σ (vX7_copied o K σ) := by
  unfold vX7_copied
  refine yn_new nX7_10 (by decide) dX7_copied_0 (fun q1 K2 σ3 => ?_)
  refine y_dup dX7_copied_3 (fun _ => rfl) ?_
  refine y_aload_n dX7_copied_4 rfl rfl ?_
  refine y_ckP (fun hc4 => ?_)
  refine y_getI fX7_9 hc4 rfl dX7_copied_5 ?_
  refine y_aload_n dX7_copied_8 rfl rfl ?_
  refine y_ckP (fun hc5 => ?_)
  refine y_getI fX7_15 hc5 rfl dX7_copied_9 ?_
  refine y_ci (qX7_init q1 (σ3 o 6) (σ3 o 7) K2 σ3 (fun ou hou => (tX7_init (Γ := Γ) q1 (σ3 o 6) (σ3 o 7) K2 σ3 ou hou).1)) iX7_43 rfl (by decide) rfl (Nat.le_of_ble_eq_true rfl) dX7_copied_12 (fun K6 σ7 => ?_)
  refine y_astore_n dX7_copied_15 rfl (Nat.le_of_ble_eq_true rfl) (L' := [some (aR o), some (aR q1)]) rfl ?_
  refine y_aload_n dX7_copied_16 rfl rfl ?_
  refine y_aload_n dX7_copied_17 rfl rfl ?_
  refine y_ckP (fun hc8 => ?_)
  refine y_getI fX7_9 hc8 rfl dX7_copied_18 ?_
  refine y_ckP (fun hc9 => ?_)
  refine yn_putI fX7_9 hc9 rfl rfl dX7_copied_21 (fun σ10 => ?_)
  refine y_aload_n dX7_copied_24 rfl rfl ?_
  refine y_aload_n dX7_copied_25 rfl rfl ?_
  refine y_ckP (fun hc11 => ?_)
  refine y_getI fX7_15 hc11 rfl dX7_copied_26 ?_
  refine y_ckP (fun hc12 => ?_)
  refine yn_putI fX7_15 hc12 rfl rfl dX7_copied_29 (fun σ13 => ?_)
  refine y_aload_n dX7_copied_32 rfl rfl ?_
  refine y_ckP (fun hc14 => ?_)
  refine yb_getR fX7_24 hc14 rfl dX7_copied_33 (fun t15 ht15 => ?_)
  refine y_iconst dX7_copied_36 (by decide) ?_
  refine y_aload_n dX7_copied_37 rfl rfl ?_
  refine y_ckP (fun hc16 => ?_)
  refine yb_getR fX7_24 hc16 rfl dX7_copied_38 (fun t17 ht17 => ?_)
  refine y_iconst dX7_copied_41 (by decide) ?_
  refine y_aload_n dX7_copied_42 rfl rfl ?_
  refine y_ckP (fun hc18 => ?_)
  refine y_getI fX7_9 hc18 rfl dX7_copied_43 ?_
  refine y_ckP (fun hc19 => ?_)
  refine y_ckP (fun hc20 => ?_)
  refine yk_copy aX7_46 (by decide) hc19 hc20 (Nat.le_of_ble_eq_true rfl) dX7_copied_46 (fun σ21 => ?_)
  refine y_aload_n dX7_copied_49 rfl rfl ?_
  refine y_ckP (fun hc22 => ?_)
  refine yb_getR fX7_28 hc22 rfl dX7_copied_50 (fun t23 ht23 => ?_)
  refine y_iconst dX7_copied_53 (by decide) ?_
  refine y_aload_n dX7_copied_54 rfl rfl ?_
  refine y_ckP (fun hc24 => ?_)
  refine yb_getR fX7_28 hc24 rfl dX7_copied_55 (fun t25 ht25 => ?_)
  refine y_iconst dX7_copied_58 (by decide) ?_
  refine y_aload_n dX7_copied_59 rfl rfl ?_
  refine y_ckP (fun hc26 => ?_)
  refine y_getI fX7_9 hc26 rfl dX7_copied_60 ?_
  refine y_ckP (fun hc27 => ?_)
  refine y_ckP (fun hc28 => ?_)
  refine yk_copy aX7_46 (by decide) hc27 hc28 (Nat.le_of_ble_eq_true rfl) dX7_copied_63 (fun σ29 => ?_)
  refine y_aload_n dX7_copied_66 rfl rfl ?_
  refine y_ckP (fun hc30 => ?_)
  refine yb_getR fX7_31 hc30 rfl dX7_copied_67 (fun t31 ht31 => ?_)
  refine y_iconst dX7_copied_70 (by decide) ?_
  refine y_aload_n dX7_copied_71 rfl rfl ?_
  refine y_ckP (fun hc32 => ?_)
  refine yb_getR fX7_31 hc32 rfl dX7_copied_72 (fun t33 ht33 => ?_)
  refine y_iconst dX7_copied_75 (by decide) ?_
  refine y_aload_n dX7_copied_76 rfl rfl ?_
  refine y_ckP (fun hc34 => ?_)
  refine y_getI fX7_9 hc34 rfl dX7_copied_77 ?_
  refine y_ckP (fun hc35 => ?_)
  refine y_ckP (fun hc36 => ?_)
  refine yk_copy aX7_46 (by decide) hc35 hc36 (Nat.le_of_ble_eq_true rfl) dX7_copied_80 (fun σ37 => ?_)
  refine y_aload_n dX7_copied_83 rfl rfl ?_
  refine y_ckP (fun hc38 => ?_)
  refine yb_getR fX7_34 hc38 rfl dX7_copied_84 (fun t39 ht39 => ?_)
  refine y_iconst dX7_copied_87 (by decide) ?_
  refine y_aload_n dX7_copied_88 rfl rfl ?_
  refine y_ckP (fun hc40 => ?_)
  refine yb_getR fX7_34 hc40 rfl dX7_copied_89 (fun t41 ht41 => ?_)
  refine y_iconst dX7_copied_92 (by decide) ?_
  refine y_aload_n dX7_copied_93 rfl rfl ?_
  refine y_ckP (fun hc42 => ?_)
  refine y_getI fX7_9 hc42 rfl dX7_copied_94 ?_
  refine y_ckP (fun hc43 => ?_)
  refine y_ckP (fun hc44 => ?_)
  refine yk_copy aX7_46 (by decide) hc43 hc44 (Nat.le_of_ble_eq_true rfl) dX7_copied_97 (fun σ45 => ?_)
  refine y_aload_n dX7_copied_100 rfl rfl ?_
  refine y_ckP (fun hc46 => ?_)
  refine yb_getR fX7_37 hc46 rfl dX7_copied_101 (fun t47 ht47 => ?_)
  refine y_iconst dX7_copied_104 (by decide) ?_
  refine y_aload_n dX7_copied_105 rfl rfl ?_
  refine y_ckP (fun hc48 => ?_)
  refine yb_getR fX7_37 hc48 rfl dX7_copied_106 (fun t49 ht49 => ?_)
  refine y_iconst dX7_copied_109 (by decide) ?_
  refine y_aload_n dX7_copied_110 rfl rfl ?_
  refine y_ckP (fun hc50 => ?_)
  refine y_getI fX7_9 hc50 rfl dX7_copied_111 ?_
  refine y_ckP (fun hc51 => ?_)
  refine y_ckP (fun hc52 => ?_)
  refine yk_copy aX7_46 (by decide) hc51 hc52 (Nat.le_of_ble_eq_true rfl) dX7_copied_114 (fun σ53 => ?_)
  refine y_aload_n dX7_copied_117 rfl rfl ?_
  refine y_ckP (fun hc54 => ?_)
  refine yb_getR fX7_40 hc54 rfl dX7_copied_118 (fun t55 ht55 => ?_)
  refine y_iconst dX7_copied_121 (by decide) ?_
  refine y_aload_n dX7_copied_122 rfl rfl ?_
  refine y_ckP (fun hc56 => ?_)
  refine yb_getR fX7_40 hc56 rfl dX7_copied_123 (fun t57 ht57 => ?_)
  refine y_iconst dX7_copied_126 (by decide) ?_
  refine y_aload_n dX7_copied_127 rfl rfl ?_
  refine y_ckP (fun hc58 => ?_)
  refine y_getI fX7_15 hc58 rfl dX7_copied_128 ?_
  refine y_ckP (fun hc59 => ?_)
  refine y_ckP (fun hc60 => ?_)
  refine yk_copy aX7_46 (by decide) hc59 hc60 (Nat.le_of_ble_eq_true rfl) dX7_copied_131 (fun σ61 => ?_)
  refine y_aload_n dX7_copied_134 rfl rfl ?_
  exact y_aret rfl (by first | exact Or.inl ⟨_, rfl⟩ | exact Or.inr ⟨_, rfl⟩) rfl dX7_copied_135
theorem qX7_copied (o : Nat) (K : Kt) (σ : Sg) (hg : ∀ ou, vX7_copied o K σ = some ou → Gr K (emQK ou).2.1) : Cc MX7_copied K [aR o] σ emQK (vX7_copied o K σ) := cc_of plX7 (Nat.le_of_ble_eq_true rfl) hg (fun Γ => tX7_copied o K σ)
noncomputable def vX3_add (o : Nat) (p1 : Nat) (K : Kt) (σ : Sg) : Option (Int × Kt × Sg) := ckP (IsC K o 3) (if (σ o 4) < 6 then (ckP (IsC K o 3) ((K.1 o 1).bind (fun t4 => ckP (IsC K o 3) (ckP (IsA K t4 23 (K.2.1 t4).2) (ckP (∀ x, (some p1) = some x → IsC K x 7) (ck (0 ≤ (σ o 4) ∧ (σ o 4) < ((K.2.1 t4).2 : Int)) (nm (kRef K t4 (σ o 4).toNat (some p1)) (fun K7 => ckP (IsC K7 o 3) (ck (in32 ((σ o 4) + 1)) (ckP (IsC K7 o 3) (nm (up2 σ o 4 ((σ o 4) + 1)) (fun σ11 => ckP (IsC K7 o 3) (ck (in32 ((σ11 o 4) - 1)) (some (((σ11 o 4) - 1), K7, σ11))))))))))))))) else (some ((-1), K, σ)))
set_option maxRecDepth 100000 in
set_option maxHeartbeats 4000000 in
theorem tX3_add {Γ : Gx} (o : Nat) (p1 : Nat) (K : Kt) (σ : Sg) : Y Γ MX3_add K emIK K 0 [some (aR o), some (aR p1)] [] σ (vX3_add o p1 K σ) := by
  unfold vX3_add
  refine y_aload_n dX3_add_0 rfl rfl ?_
  refine y_ckP (fun hc1 => ?_)
  refine y_getI fX3_35 hc1 rfl dX3_add_1 ?_
  refine y_bipush dX3_add_4 (by decide) (by decide) ?_
  refine y_ite (fun h2 => ?_) (fun h2 => ?_)
  · refine y_icmp_lt_t dX3_add_6 (t := 11) rfl h2 ?_
    refine y_aload_n dX3_add_11 rfl rfl ?_
    refine y_ckP (fun hc3 => ?_)
    refine yb_getR fX3_20 hc3 rfl dX3_add_12 (fun t4 ht4 => ?_)
    refine y_aload_n dX3_add_15 rfl rfl ?_
    refine y_ckP (fun hc5 => ?_)
    refine y_getI fX3_35 hc5 rfl dX3_add_16 ?_
    refine y_aload_n dX3_add_19 rfl rfl ?_
    refine y_ckP (fun hc6 => ?_)
    refine y_ckP (fun hc8 => ?_)
    refine yn_aastore (by decide) hc6 hc8 (N := ((K.2.1 t4).2 : Int)) rfl dX3_add_20 (fun K7 => ?_)
    refine y_aload_n dX3_add_21 rfl rfl ?_
    refine y_dup dX3_add_22 (fun _ => rfl) ?_
    refine y_ckP (fun hc9 => ?_)
    refine y_getI fX3_35 hc9 rfl dX3_add_23 ?_
    refine y_iconst dX3_add_26 (by decide) ?_
    refine yk_iadd dX3_add_27 ?_
    refine y_ckP (fun hc10 => ?_)
    refine yn_putI fX3_35 hc10 rfl rfl dX3_add_28 (fun σ11 => ?_)
    refine y_aload_n dX3_add_31 rfl rfl ?_
    refine y_ckP (fun hc12 => ?_)
    refine y_getI fX3_35 hc12 rfl dX3_add_32 ?_
    refine y_iconst dX3_add_35 (by decide) ?_
    refine yk_isub dX3_add_36 ?_
    exact y_iret rfl rfl dX3_add_37
  · refine y_icmp_lt_f dX3_add_6 (t := 11) rfl h2 ?_
    refine y_iconst dX3_add_9 (by decide) ?_
    exact y_iret rfl rfl dX3_add_10
theorem qX3_add (o : Nat) (p1 : Nat) (K : Kt) (σ : Sg) (hg : ∀ ou, vX3_add o p1 K σ = some ou → Gr K (emIK ou).2.1) : Cc MX3_add K [aR o, aR p1] σ emIK (vX3_add o p1 K σ) := cc_of plX3 (Nat.le_of_ble_eq_true rfl) hg (fun Γ => tX3_add o p1 K σ)
noncomputable def vX3_copyFrom_18 (o : Nat) : Nat → Nat → Nat → Int → Kt → Sg → Option (Kt × Sg)
  | 0, _, _, _, _, _ => none
  | f + 1, x0, x1, x2, K, σ => if x2 < 6 then (ckP (IsC K x0 3) ((K.1 x0 1).bind (fun t3 => ckP (IsC K x1 3) ((K.1 x1 1).bind (fun t5 => ckP (IsA K t5 23 (K.2.1 t5).2) (ck (0 ≤ x2 ∧ x2 < ((K.2.1 t5).2 : Int)) (ckP (IsA K t3 23 (K.2.1 t3).2) (ckP (∀ x, (K.1 t5 x2.toNat) = some x → IsC K x 7) (ck (0 ≤ x2 ∧ x2 < ((K.2.1 t3).2 : Int)) (nm (kRef K t3 x2.toNat (K.1 t5 x2.toNat)) (fun K8 => ck (in32 (x2 + 1)) (vX3_copyFrom_18 o f x0 x1 (x2 + 1) K8 σ)))))))))))) else (some (K, σ))
set_option maxRecDepth 100000 in
set_option maxHeartbeats 4000000 in
theorem tX3_copyFrom_18 {Γ : Gx} (o : Nat) {K0 : Kt} : ∀ (f : Nat) (x0 : Nat) (x1 : Nat) (x2 : Int) (K : Kt) (σ : Sg), Y Γ MX3_copyFrom K0 emVK K 18 [some (aR x0), some (aR x1), some (aI x2)] [] σ (vX3_copyFrom_18 o f x0 x1 x2 K σ) := by
  intro f
  induction f with
  | zero => intro x0 x1 x2 K σ; exact y_none
  | succ f ih =>
    intro x0 x1 x2 K σ
    rw [vX3_copyFrom_18]
    refine y_iload_n dX3_copyFrom_18 rfl rfl ?_
    refine y_bipush dX3_copyFrom_19 (by decide) (by decide) ?_
    refine y_ite (fun h1 => ?_) (fun h1 => ?_)
    · refine y_icmp_ge_f dX3_copyFrom_21 (t := 42) rfl h1 ?_
      refine y_aload_n dX3_copyFrom_24 rfl rfl ?_
      refine y_ckP (fun hc2 => ?_)
      refine yb_getR fX3_20 hc2 rfl dX3_copyFrom_25 (fun t3 ht3 => ?_)
      refine y_iload_n dX3_copyFrom_28 rfl rfl ?_
      refine y_aload_n dX3_copyFrom_29 rfl rfl ?_
      refine y_ckP (fun hc4 => ?_)
      refine yb_getR fX3_20 hc4 rfl dX3_copyFrom_30 (fun t5 ht5 => ?_)
      refine y_iload_n dX3_copyFrom_33 rfl rfl ?_
      refine y_ckP (fun hc6 => ?_)
      refine yk_aaload (by decide) hc6 (N := ((K.2.1 t5).2 : Int)) rfl dX3_copyFrom_34 ?_
      refine y_ckP (fun hc7 => ?_)
      refine y_ckP (fun hc9 => ?_)
      refine yn_aastore (by decide) hc7 hc9 (N := ((K.2.1 t3).2 : Int)) rfl dX3_copyFrom_35 (fun K8 => ?_)
      refine yk_iinc dX3_copyFrom_36 rfl (L' := [some (aR x0), some (aR x1), some (aI (x2 + 1))]) rfl ?_
      refine y_goto dX3_copyFrom_39 (t := 18) rfl ?_
      exact ih x0 x1 (x2 + 1) K8 σ
    · refine y_icmp_ge_t dX3_copyFrom_21 (t := 42) rfl h1 ?_
      exact y_vret rfl rfl dX3_copyFrom_42
noncomputable def vX3_copyFrom (o : Nat) (p1 : Nat) (K : Kt) (σ : Sg) : Option (Kt × Sg) := ckP (IsC K p1 3) (ckP (IsC K o 3) (nm (up2 σ o 4 (σ p1 4)) (fun σ3 => ckP (IsC K p1 3) (ckP (IsC K o 3) (nm (up2 σ3 o 5 (σ3 p1 5)) (fun σ6 => vX3_copyFrom_18 o FU o p1 0 K σ6))))))
set_option maxRecDepth 100000 in
set_option maxHeartbeats 4000000 in
theorem tX3_copyFrom {Γ : Gx} (o : Nat) (p1 : Nat) (K : Kt) (σ : Sg) : Y Γ MX3_copyFrom K emVK K 0 [some (aR o), some (aR p1), none] [] σ (vX3_copyFrom o p1 K σ) := by
  unfold vX3_copyFrom
  refine y_aload_n dX3_copyFrom_0 rfl rfl ?_
  refine y_aload_n dX3_copyFrom_1 rfl rfl ?_
  refine y_ckP (fun hc1 => ?_)
  refine y_getI fX3_35 hc1 rfl dX3_copyFrom_2 ?_
  refine y_ckP (fun hc2 => ?_)
  refine yn_putI fX3_35 hc2 rfl rfl dX3_copyFrom_5 (fun σ3 => ?_)
  refine y_aload_n dX3_copyFrom_8 rfl rfl ?_
  refine y_aload_n dX3_copyFrom_9 rfl rfl ?_
  refine y_ckP (fun hc4 => ?_)
  refine y_getI fX3_39 hc4 rfl dX3_copyFrom_10 ?_
  refine y_ckP (fun hc5 => ?_)
  refine yn_putI fX3_39 hc5 rfl rfl dX3_copyFrom_13 (fun σ6 => ?_)
  refine y_iconst dX3_copyFrom_16 (by decide) ?_
  refine y_istore_n dX3_copyFrom_17 rfl (Nat.le_of_ble_eq_true rfl) (L' := [some (aR o), some (aR p1), some (aI 0)]) rfl ?_
  exact tX3_copyFrom_18 o FU o p1 0 K σ6
theorem qX3_copyFrom (o : Nat) (p1 : Nat) (K : Kt) (σ : Sg) (hg : ∀ ou, vX3_copyFrom o p1 K σ = some ou → Gr K (emVK ou).2.1) : Cc MX3_copyFrom K [aR o, aR p1] σ emVK (vX3_copyFrom o p1 K σ) := cc_of plX3 (Nat.le_of_ble_eq_true rfl) hg (fun Γ => tX3_copyFrom o p1 K σ)
