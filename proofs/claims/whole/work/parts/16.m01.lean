noncomputable def vX10_next_227 (rec_149 : Sg → Option (Sg)) (y1 : Int) (σ : Sg) : Option (Sg) := nm (up2 σ 84 17 y1) (fun σ1 => ck (in32 ((σ1 84 15) + 1)) (nm (up2 σ1 84 15 ((σ1 84 15) + 1)) (fun σ2 => rec_149 σ2)))
set_option maxRecDepth 100000 in
theorem tX10_next_227 {Γ : Gx} {K : Kt} (hM : mLay K)  (rec_149 : Sg → Option (Sg)) (hrec_149 : ∀ (σ : Sg), Y Γ MX10_next K (emV K) K 149 [some (aR 84)] [] σ (rec_149  σ)) (y1 : Int) (σ : Sg) : Y Γ MX10_next K (emV K) K 227 [some (aR 84)] [aL y1, aR 84] σ (vX10_next_227 rec_149 y1 σ) := by
  unfold vX10_next_227
  refine yn_putJ fX10_234 hM.1 rfl rfl dX10_next_227 (fun σ1 => ?_)
  refine y_aload_n dX10_next_230 rfl rfl ?_
  refine y_dup dX10_next_231 (fun _ => rfl) ?_
  refine y_getI fX10_221 hM.1 rfl dX10_next_232 ?_
  refine y_iconst dX10_next_235 (by decide) ?_
  refine yk_iadd dX10_next_236 ?_
  refine yn_putI fX10_221 hM.1 rfl rfl dX10_next_237 (fun σ2 => ?_)
  refine y_goto dX10_next_240 (t := 149) rfl ?_
  exact hrec_149 σ2
noncomputable def vX10_next_319 (rec_243 : Sg → Option (Sg)) (y1 : Int) (σ : Sg) : Option (Sg) := nm (up2 σ 84 17 y1) (fun σ1 => ck (in32 ((σ1 84 15) + 1)) (nm (up2 σ1 84 15 ((σ1 84 15) + 1)) (fun σ2 => rec_243 σ2)))
set_option maxRecDepth 100000 in
theorem tX10_next_319 {Γ : Gx} {K : Kt} (hM : mLay K)  (rec_243 : Sg → Option (Sg)) (hrec_243 : ∀ (σ : Sg), Y Γ MX10_next K (emV K) K 243 [some (aR 84)] [] σ (rec_243  σ)) (y1 : Int) (σ : Sg) : Y Γ MX10_next K (emV K) K 319 [some (aR 84)] [aL y1, aR 84] σ (vX10_next_319 rec_243 y1 σ) := by
  unfold vX10_next_319
  refine yn_putJ fX10_234 hM.1 rfl rfl dX10_next_319 (fun σ1 => ?_)
  refine y_aload_n dX10_next_322 rfl rfl ?_
  refine y_dup dX10_next_323 (fun _ => rfl) ?_
  refine y_getI fX10_221 hM.1 rfl dX10_next_324 ?_
  refine y_iconst dX10_next_327 (by decide) ?_
  refine yk_iadd dX10_next_328 ?_
  refine yn_putI fX10_221 hM.1 rfl rfl dX10_next_329 (fun σ2 => ?_)
  refine y_goto dX10_next_332 (t := 243) rfl ?_
  exact hrec_243 σ2
noncomputable def vX10_next_243 : Nat → Sg → Option (Sg)
  | 0, _ => none
  | f + 1, σ => if (σ 84 16) = 2 then (if (σ 84 15) < (σ 84 13) then (ck (0 ≤ (σ 84 15) ∧ (σ 84 15) < 400) ((vX10_isDigit (σ 93 (σ 84 15).toNat) σ).bind (fun r3 => if r3 = 0 then (some σ) else (if 1000000 < (σ 84 17) then (vX10_next_319 (vX10_next_243 f) (σ 84 17) σ) else (ck (in64 ((σ 84 17) * 10)) (ck (0 ≤ (σ 84 15) ∧ (σ 84 15) < 400) (ck (in64 (((σ 84 17) * 10) + (σ 93 (σ 84 15).toNat))) (ck (in64 ((((σ 84 17) * 10) + (σ 93 (σ 84 15).toNat)) - 48)) (vX10_next_319 (vX10_next_243 f) ((((σ 84 17) * 10) + (σ 93 (σ 84 15).toNat)) - 48) σ))))))))) else (some σ)) else (some σ)
set_option maxRecDepth 100000 in
theorem tX10_next_243 {Γ : Gx} {K : Kt} (hM : mLay K)  : ∀ (f : Nat) (σ : Sg), Y Γ MX10_next K (emV K) K 243 [some (aR 84)] [] σ (vX10_next_243 f  σ) := by
  intro f
  induction f with
  | zero => intro  σ; exact y_none
  | succ f ih =>
    intro  σ
    rw [vX10_next_243]
    refine y_aload_n dX10_next_243 rfl rfl ?_
    refine y_getI fX10_244 hM.1 rfl dX10_next_244 ?_
    refine y_iconst dX10_next_247 (by decide) ?_
    refine y_ite (fun h1 => ?_) (fun h1 => ?_)
    · refine y_icmp_ne_f dX10_next_248 (t := 335) rfl h1 ?_
      refine y_aload_n dX10_next_251 rfl rfl ?_
      refine y_getI fX10_221 hM.1 rfl dX10_next_252 ?_
      refine y_aload_n dX10_next_255 rfl rfl ?_
      refine y_getI fX10_212 hM.1 rfl dX10_next_256 ?_
      refine y_ite (fun h2 => ?_) (fun h2 => ?_)
      · refine y_icmp_ge_f dX10_next_259 (t := 335) rfl h2 ?_
        refine y_aload_n dX10_next_262 rfl rfl ?_
        refine y_getR fX10_35 hM.1 rfl (lM_12 hM).1 dX10_next_263 ?_
        refine y_aload_n dX10_next_266 rfl rfl ?_
        refine y_getI fX10_221 hM.1 rfl dX10_next_267 ?_
        refine yk_iaload (lM_12 hM).2 (N := 400) rfl (j := (σ 84 15).toNat) rfl dX10_next_270 ?_
        refine y_csI (qX10_isDigit (K := K) (σ 93 (σ 84 15).toNat) σ) kX10_241 rfl (by decide) rfl (Nat.le_of_ble_eq_true rfl) dX10_next_271 (fun r3 => ?_)
        refine y_ite (fun h4 => ?_) (fun h4 => ?_)
        · refine y_if_eq_t dX10_next_274 (t := 335) rfl h4 ?_
          exact y_vret rfl rfl dX10_next_335
        · refine y_if_eq_f dX10_next_274 (t := 335) rfl h4 ?_
          refine y_aload_n dX10_next_277 rfl rfl ?_
          refine y_aload_n dX10_next_278 rfl rfl ?_
          refine y_getJ fX10_234 hM.1 rfl dX10_next_279 ?_
          refine y_ldc2 1000000 wX10_c253 dX10_next_282 (by decide) (by decide) ?_
          refine y_lcmp dX10_next_285 ?_
          refine y_ite (fun h5 => ?_) (fun h5 => ?_)
          · refine y_if_le_f dX10_next_286 (t := 296) rfl (cmp3_gt.mpr h5) ?_
            refine y_aload_n dX10_next_289 rfl rfl ?_
            refine y_getJ fX10_234 hM.1 rfl dX10_next_290 ?_
            refine y_goto dX10_next_293 (t := 319) rfl ?_
            exact tX10_next_319 hM (vX10_next_243 f) ih (σ 84 17) σ
          · refine y_if_le_t dX10_next_286 (t := 296) rfl (fun z => h5 (cmp3_gt.mp z)) ?_
            refine y_aload_n dX10_next_296 rfl rfl ?_
            refine y_getJ fX10_234 hM.1 rfl dX10_next_297 ?_
            refine y_ldc2 10 wX10_c206 dX10_next_300 (by decide) (by decide) ?_
            refine yk_lmul dX10_next_303 ?_
            refine y_aload_n dX10_next_304 rfl rfl ?_
            refine y_getR fX10_35 hM.1 rfl (lM_12 hM).1 dX10_next_305 ?_
            refine y_aload_n dX10_next_308 rfl rfl ?_
            refine y_getI fX10_221 hM.1 rfl dX10_next_309 ?_
            refine yk_iaload (lM_12 hM).2 (N := 400) rfl (j := (σ 84 15).toNat) rfl dX10_next_312 ?_
            refine y_i2l dX10_next_313 ?_
            refine yk_ladd dX10_next_314 ?_
            refine y_ldc2 48 wX10_c255 dX10_next_315 (by decide) (by decide) ?_
            refine yk_lsub dX10_next_318 ?_
            exact tX10_next_319 hM (vX10_next_243 f) ih ((((σ 84 17) * 10) + (σ 93 (σ 84 15).toNat)) - 48) σ
      · refine y_icmp_ge_t dX10_next_259 (t := 335) rfl h2 ?_
        exact y_vret rfl rfl dX10_next_335
    · refine y_icmp_ne_t dX10_next_248 (t := 335) rfl h1 ?_
      exact y_vret rfl rfl dX10_next_335
noncomputable def vX10_next_149 : Nat → Sg → Option (Sg)
  | 0, _ => none
  | f + 1, σ => if (σ 84 16) = 1 then (if (σ 84 15) < (σ 84 13) then (ck (0 ≤ (σ 84 15) ∧ (σ 84 15) < 400) ((vX10_isSmall (σ 93 (σ 84 15).toNat) σ).bind (fun r3 => if r3 = 0 then (vX10_next_243 FU σ) else (ck (in32 ((σ 84 15) - (σ 84 14))) (if ((σ 84 15) - (σ 84 14)) < 10 then (ck (in64 ((σ 84 17) * 32)) (ck (0 ≤ (σ 84 15) ∧ (σ 84 15) < 400) (ck (in64 (((σ 84 17) * 32) + (σ 93 (σ 84 15).toNat))) (ck (in64 ((((σ 84 17) * 32) + (σ 93 (σ 84 15).toNat)) - 96)) (vX10_next_227 (vX10_next_149 f) ((((σ 84 17) * 32) + (σ 93 (σ 84 15).toNat)) - 96) σ))))) else (vX10_next_227 (vX10_next_149 f) (-1) σ)))))) else (vX10_next_243 FU σ)) else (vX10_next_243 FU σ)
set_option maxRecDepth 100000 in
theorem tX10_next_149 {Γ : Gx} {K : Kt} (hM : mLay K)  : ∀ (f : Nat) (σ : Sg), Y Γ MX10_next K (emV K) K 149 [some (aR 84)] [] σ (vX10_next_149 f  σ) := by
  intro f
  induction f with
  | zero => intro  σ; exact y_none
  | succ f ih =>
    intro  σ
    rw [vX10_next_149]
    refine y_aload_n dX10_next_149 rfl rfl ?_
    refine y_getI fX10_244 hM.1 rfl dX10_next_150 ?_
    refine y_iconst dX10_next_153 (by decide) ?_
    refine y_ite (fun h1 => ?_) (fun h1 => ?_)
    · refine y_icmp_ne_f dX10_next_154 (t := 243) rfl h1 ?_
      refine y_aload_n dX10_next_157 rfl rfl ?_
      refine y_getI fX10_221 hM.1 rfl dX10_next_158 ?_
      refine y_aload_n dX10_next_161 rfl rfl ?_
      refine y_getI fX10_212 hM.1 rfl dX10_next_162 ?_
      refine y_ite (fun h2 => ?_) (fun h2 => ?_)
      · refine y_icmp_ge_f dX10_next_165 (t := 243) rfl h2 ?_
        refine y_aload_n dX10_next_168 rfl rfl ?_
        refine y_getR fX10_35 hM.1 rfl (lM_12 hM).1 dX10_next_169 ?_
        refine y_aload_n dX10_next_172 rfl rfl ?_
        refine y_getI fX10_221 hM.1 rfl dX10_next_173 ?_
        refine yk_iaload (lM_12 hM).2 (N := 400) rfl (j := (σ 84 15).toNat) rfl dX10_next_176 ?_
        refine y_csI (qX10_isSmall (K := K) (σ 93 (σ 84 15).toNat) σ) kX10_238 rfl (by decide) rfl (Nat.le_of_ble_eq_true rfl) dX10_next_177 (fun r3 => ?_)
        refine y_ite (fun h4 => ?_) (fun h4 => ?_)
        · refine y_if_eq_t dX10_next_180 (t := 243) rfl h4 ?_
          exact tX10_next_243 hM FU σ
        · refine y_if_eq_f dX10_next_180 (t := 243) rfl h4 ?_
          refine y_aload_n dX10_next_183 rfl rfl ?_
          refine y_aload_n dX10_next_184 rfl rfl ?_
          refine y_getI fX10_221 hM.1 rfl dX10_next_185 ?_
          refine y_aload_n dX10_next_188 rfl rfl ?_
          refine y_getI fX10_231 hM.1 rfl dX10_next_189 ?_
          refine yk_isub dX10_next_192 ?_
          refine y_bipush dX10_next_193 (by decide) (by decide) ?_
          refine y_ite (fun h5 => ?_) (fun h5 => ?_)
          · refine y_icmp_ge_f dX10_next_195 (t := 224) rfl h5 ?_
            refine y_aload_n dX10_next_198 rfl rfl ?_
            refine y_getJ fX10_234 hM.1 rfl dX10_next_199 ?_
            refine y_ldc2 32 wX10_c247 dX10_next_202 (by decide) (by decide) ?_
            refine yk_lmul dX10_next_205 ?_
            refine y_aload_n dX10_next_206 rfl rfl ?_
            refine y_getR fX10_35 hM.1 rfl (lM_12 hM).1 dX10_next_207 ?_
            refine y_aload_n dX10_next_210 rfl rfl ?_
            refine y_getI fX10_221 hM.1 rfl dX10_next_211 ?_
            refine yk_iaload (lM_12 hM).2 (N := 400) rfl (j := (σ 84 15).toNat) rfl dX10_next_214 ?_
            refine y_i2l dX10_next_215 ?_
            refine yk_ladd dX10_next_216 ?_
            refine y_ldc2 96 wX10_c249 dX10_next_217 (by decide) (by decide) ?_
            refine yk_lsub dX10_next_220 ?_
            refine y_goto dX10_next_221 (t := 227) rfl ?_
            exact tX10_next_227 hM (vX10_next_149 f) ih ((((σ 84 17) * 32) + (σ 93 (σ 84 15).toNat)) - 96) σ
          · refine y_icmp_ge_t dX10_next_195 (t := 224) rfl h5 ?_
            refine y_ldc2 (-1) wX10_c251 dX10_next_224 (by decide) (by decide) ?_
            exact tX10_next_227 hM (vX10_next_149 f) ih (-1) σ
      · refine y_icmp_ge_t dX10_next_165 (t := 243) rfl h2 ?_
        exact tX10_next_243 hM FU σ
    · refine y_icmp_ne_t dX10_next_154 (t := 243) rfl h1 ?_
      exact tX10_next_243 hM FU σ
noncomputable def vX10_next_114 (y1 : Int) (σ : Sg) : Option (Sg) := nm (up2 σ 84 16 y1) (fun σ1 => if (σ1 84 16) = 3 then (ck (0 ≤ (σ1 84 14) ∧ (σ1 84 14) < 400) (nm (up2 σ1 84 17 (σ1 93 (σ1 84 14).toNat)) (fun σ3 => ck (in32 ((σ3 84 15) + 1)) (nm (up2 σ3 84 15 ((σ3 84 15) + 1)) (fun σ4 => vX10_next_149 FU σ4))))) else (vX10_next_149 FU σ1))
set_option maxRecDepth 100000 in
theorem tX10_next_114 {Γ : Gx} {K : Kt} (hM : mLay K)  (y1 : Int) (σ : Sg) : Y Γ MX10_next K (emV K) K 114 [some (aR 84)] [aI y1, aR 84] σ (vX10_next_114 y1 σ) := by
  unfold vX10_next_114
  refine yn_putI fX10_244 hM.1 rfl rfl dX10_next_114 (fun σ1 => ?_)
  refine y_aload_n dX10_next_117 rfl rfl ?_
  refine y_getI fX10_244 hM.1 rfl dX10_next_118 ?_
  refine y_iconst dX10_next_121 (by decide) ?_
  refine y_ite (fun h2 => ?_) (fun h2 => ?_)
  · refine y_icmp_ne_f dX10_next_122 (t := 149) rfl h2 ?_
    refine y_aload_n dX10_next_125 rfl rfl ?_
    refine y_aload_n dX10_next_126 rfl rfl ?_
    refine y_getR fX10_35 hM.1 rfl (lM_12 hM).1 dX10_next_127 ?_
    refine y_aload_n dX10_next_130 rfl rfl ?_
    refine y_getI fX10_231 hM.1 rfl dX10_next_131 ?_
    refine yk_iaload (lM_12 hM).2 (N := 400) rfl (j := (σ1 84 14).toNat) rfl dX10_next_134 ?_
    refine y_i2l dX10_next_135 ?_
    refine yn_putJ fX10_234 hM.1 rfl rfl dX10_next_136 (fun σ3 => ?_)
    refine y_aload_n dX10_next_139 rfl rfl ?_
    refine y_dup dX10_next_140 (fun _ => rfl) ?_
    refine y_getI fX10_221 hM.1 rfl dX10_next_141 ?_
    refine y_iconst dX10_next_144 (by decide) ?_
    refine yk_iadd dX10_next_145 ?_
    refine yn_putI fX10_221 hM.1 rfl rfl dX10_next_146 (fun σ4 => ?_)
    exact tX10_next_149 hM FU σ4
  · refine y_icmp_ne_t dX10_next_122 (t := 149) rfl h2 ?_
    exact tX10_next_149 hM FU σ1
noncomputable def vX10_next_46 (σ : Sg) : Option (Sg) := nm (up2 σ 84 15 (σ 84 14)) (fun σ1 => nm (up2 σ1 84 17 0) (fun σ2 => if (σ2 84 14) = (σ2 84 13) then (vX10_next_114 0 σ2) else (ck (0 ≤ (σ2 84 14) ∧ (σ2 84 14) < 400) ((vX10_isSmall (σ2 93 (σ2 84 14).toNat) σ2).bind (fun r4 => if r4 = 0 then (ck (0 ≤ (σ2 84 14) ∧ (σ2 84 14) < 400) ((vX10_isDigit (σ2 93 (σ2 84 14).toNat) σ2).bind (fun r6 => if r6 = 0 then (vX10_next_114 3 σ2) else (vX10_next_114 2 σ2)))) else (vX10_next_114 1 σ2))))))
set_option maxRecDepth 100000 in
theorem tX10_next_46 {Γ : Gx} {K : Kt} (hM : mLay K)  (σ : Sg) : Y Γ MX10_next K (emV K) K 46 [some (aR 84)] [] σ (vX10_next_46  σ) := by
  unfold vX10_next_46
  refine y_aload_n dX10_next_46 rfl rfl ?_
  refine y_aload_n dX10_next_47 rfl rfl ?_
  refine y_getI fX10_231 hM.1 rfl dX10_next_48 ?_
  refine yn_putI fX10_221 hM.1 rfl rfl dX10_next_51 (fun σ1 => ?_)
  refine y_aload_n dX10_next_54 rfl rfl ?_
  refine y_lconst 0 dX10_next_55 (by decide) (by decide) ?_
  refine yn_putJ fX10_234 hM.1 rfl rfl dX10_next_56 (fun σ2 => ?_)
  refine y_aload_n dX10_next_59 rfl rfl ?_
  refine y_aload_n dX10_next_60 rfl rfl ?_
  refine y_getI fX10_231 hM.1 rfl dX10_next_61 ?_
  refine y_aload_n dX10_next_64 rfl rfl ?_
  refine y_getI fX10_212 hM.1 rfl dX10_next_65 ?_
  refine y_ite (fun h3 => ?_) (fun h3 => ?_)
  · refine y_icmp_ne_f dX10_next_68 (t := 75) rfl h3 ?_
    refine y_iconst dX10_next_71 (by decide) ?_
    refine y_goto dX10_next_72 (t := 114) rfl ?_
    exact tX10_next_114 hM 0 σ2
  · refine y_icmp_ne_t dX10_next_68 (t := 75) rfl h3 ?_
    refine y_aload_n dX10_next_75 rfl rfl ?_
    refine y_getR fX10_35 hM.1 rfl (lM_12 hM).1 dX10_next_76 ?_
    refine y_aload_n dX10_next_79 rfl rfl ?_
    refine y_getI fX10_231 hM.1 rfl dX10_next_80 ?_
    refine yk_iaload (lM_12 hM).2 (N := 400) rfl (j := (σ2 84 14).toNat) rfl dX10_next_83 ?_
    refine y_csI (qX10_isSmall (K := K) (σ2 93 (σ2 84 14).toNat) σ2) kX10_238 rfl (by decide) rfl (Nat.le_of_ble_eq_true rfl) dX10_next_84 (fun r4 => ?_)
    refine y_ite (fun h5 => ?_) (fun h5 => ?_)
    · refine y_if_eq_t dX10_next_87 (t := 94) rfl h5 ?_
      refine y_aload_n dX10_next_94 rfl rfl ?_
      refine y_getR fX10_35 hM.1 rfl (lM_12 hM).1 dX10_next_95 ?_
      refine y_aload_n dX10_next_98 rfl rfl ?_
      refine y_getI fX10_231 hM.1 rfl dX10_next_99 ?_
      refine yk_iaload (lM_12 hM).2 (N := 400) rfl (j := (σ2 84 14).toNat) rfl dX10_next_102 ?_
      refine y_csI (qX10_isDigit (K := K) (σ2 93 (σ2 84 14).toNat) σ2) kX10_241 rfl (by decide) rfl (Nat.le_of_ble_eq_true rfl) dX10_next_103 (fun r6 => ?_)
      refine y_ite (fun h7 => ?_) (fun h7 => ?_)
      · refine y_if_eq_t dX10_next_106 (t := 113) rfl h7 ?_
        refine y_iconst dX10_next_113 (by decide) ?_
        exact tX10_next_114 hM 3 σ2
      · refine y_if_eq_f dX10_next_106 (t := 113) rfl h7 ?_
        refine y_iconst dX10_next_109 (by decide) ?_
        refine y_goto dX10_next_110 (t := 114) rfl ?_
        exact tX10_next_114 hM 2 σ2
    · refine y_if_eq_f dX10_next_87 (t := 94) rfl h5 ?_
      refine y_iconst dX10_next_90 (by decide) ?_
      refine y_goto dX10_next_91 (t := 114) rfl ?_
      exact tX10_next_114 hM 1 σ2
noncomputable def vX10_next_8 : Nat → Sg → Option (Sg)
  | 0, _ => none
  | f + 1, σ => if (σ 84 14) < (σ 84 13) then (ck (0 ≤ (σ 84 14) ∧ (σ 84 14) < 400) (if (σ 93 (σ 84 14).toNat) = 32 then (ck (in32 ((σ 84 14) + 1)) (nm (up2 σ 84 14 ((σ 84 14) + 1)) (fun σ3 => vX10_next_8 f σ3))) else (vX10_next_46 σ))) else (vX10_next_46 σ)
set_option maxRecDepth 100000 in
theorem tX10_next_8 {Γ : Gx} {K : Kt} (hM : mLay K)  : ∀ (f : Nat) (σ : Sg), Y Γ MX10_next K (emV K) K 8 [some (aR 84)] [] σ (vX10_next_8 f  σ) := by
  intro f
  induction f with
  | zero => intro  σ; exact y_none
  | succ f ih =>
    intro  σ
    rw [vX10_next_8]
    refine y_aload_n dX10_next_8 rfl rfl ?_
    refine y_getI fX10_231 hM.1 rfl dX10_next_9 ?_
    refine y_aload_n dX10_next_12 rfl rfl ?_
    refine y_getI fX10_212 hM.1 rfl dX10_next_13 ?_
    refine y_ite (fun h1 => ?_) (fun h1 => ?_)
    · refine y_icmp_ge_f dX10_next_16 (t := 46) rfl h1 ?_
      refine y_aload_n dX10_next_19 rfl rfl ?_
      refine y_getR fX10_35 hM.1 rfl (lM_12 hM).1 dX10_next_20 ?_
      refine y_aload_n dX10_next_23 rfl rfl ?_
      refine y_getI fX10_231 hM.1 rfl dX10_next_24 ?_
      refine yk_iaload (lM_12 hM).2 (N := 400) rfl (j := (σ 84 14).toNat) rfl dX10_next_27 ?_
      refine y_bipush dX10_next_28 (by decide) (by decide) ?_
      refine y_ite (fun h2 => ?_) (fun h2 => ?_)
      · refine y_icmp_ne_f dX10_next_30 (t := 46) rfl h2 ?_
        refine y_aload_n dX10_next_33 rfl rfl ?_
        refine y_dup dX10_next_34 (fun _ => rfl) ?_
        refine y_getI fX10_231 hM.1 rfl dX10_next_35 ?_
        refine y_iconst dX10_next_38 (by decide) ?_
        refine yk_iadd dX10_next_39 ?_
        refine yn_putI fX10_231 hM.1 rfl rfl dX10_next_40 (fun σ3 => ?_)
        refine y_goto dX10_next_43 (t := 8) rfl ?_
        exact ih σ3
      · refine y_icmp_ne_t dX10_next_30 (t := 46) rfl h2 ?_
        exact tX10_next_46 hM σ
    · refine y_icmp_ge_t dX10_next_16 (t := 46) rfl h1 ?_
      exact tX10_next_46 hM σ
noncomputable def vX10_next (σ : Sg) : Option (Sg) := nm (up2 σ 84 14 (σ 84 15)) (fun σ1 => vX10_next_8 FU σ1)
set_option maxRecDepth 100000 in
theorem tX10_next {Γ : Gx} {K : Kt} (hM : mLay K) (σ : Sg) : Y Γ MX10_next K (emV K) K 0 [some (aR 84)] [] σ (vX10_next σ) := by
  unfold vX10_next
  refine y_aload_n dX10_next_0 rfl rfl ?_
  refine y_aload_n dX10_next_1 rfl rfl ?_
  refine y_getI fX10_221 hM.1 rfl dX10_next_2 ?_
  refine yn_putI fX10_231 hM.1 rfl rfl dX10_next_5 (fun σ1 => ?_)
  exact tX10_next_8 hM FU σ1
theorem qX10_next {K : Kt} (hM : mLay K) (σ : Sg) : Cc MX10_next K [aR 84] σ (emV K) (vX10_next σ) := cc_of plX10 (Nat.le_of_ble_eq_true rfl) (fun o _ => ⟨Nat.le_refl _, Nat.le_refl _⟩) (fun Γ => tX10_next hM σ)
noncomputable def vX10_begin (σ : Sg) : Option (Sg) := nm (up2 σ 84 15 0) (fun σ1 => nm (up2 σ1 84 19 0) (fun σ2 => nm (up2 σ2 84 18 (-1)) (fun σ3 => (vX10_next σ3).bind (fun σ4 => some σ4))))
set_option maxRecDepth 100000 in
theorem tX10_begin {Γ : Gx} {K : Kt} (hM : mLay K) (σ : Sg) : Y Γ MX10_begin K (emV K) K 0 [some (aR 84)] [] σ (vX10_begin σ) := by
  unfold vX10_begin
  refine y_aload_n dX10_begin_0 rfl rfl ?_
  refine y_iconst dX10_begin_1 (by decide) ?_
  refine yn_putI fX10_221 hM.1 rfl rfl dX10_begin_2 (fun σ1 => ?_)
  refine y_aload_n dX10_begin_5 rfl rfl ?_
  refine y_iconst dX10_begin_6 (by decide) ?_
  refine yn_putZ (by decide) fX10_224 hM.1 rfl rfl dX10_begin_7 (fun σ2 => ?_)
  refine y_aload_n dX10_begin_10 rfl rfl ?_
  refine y_iconst dX10_begin_11 (by decide) ?_
  refine yn_putI fX10_38 hM.1 rfl rfl dX10_begin_12 (fun σ3 => ?_)
  refine y_aload_n dX10_begin_15 rfl rfl ?_
  refine y_cvV (qX10_next hM σ3) kX10_228 rfl hM.1 rfl (by decide) rfl (Nat.le_of_ble_eq_true rfl) dX10_begin_16 (fun σ4 => ?_)
  exact y_vret rfl rfl dX10_begin_19
theorem qX10_begin {K : Kt} (hM : mLay K) (σ : Sg) : Cc MX10_begin K [aR 84] σ (emV K) (vX10_begin σ) := cc_of plX10 (Nat.le_of_ble_eq_true rfl) (fun o _ => ⟨Nat.le_refl _, Nat.le_refl _⟩) (fun Γ => tX10_begin hM σ)
noncomputable def vX10_isWord (p1 : Int) (σ : Sg) : Option (Int) := if (σ 84 16) = 1 then (if (σ 84 17) = p1 then (some 1) else (some 0)) else (some 0)
set_option maxRecDepth 100000 in
theorem tX10_isWord {Γ : Gx} {K : Kt} (hM : mLay K) (p1 : Int) (σ : Sg) : Y Γ MX10_isWord K (emI K σ) K 0 [some (aR 84), some (aL p1), none] [] σ (vX10_isWord p1 σ) := by
  unfold vX10_isWord
  refine y_aload_n dX10_isWord_0 rfl rfl ?_
  refine y_getI fX10_244 hM.1 rfl dX10_isWord_1 ?_
  refine y_iconst dX10_isWord_4 (by decide) ?_
  refine y_ite (fun h1 => ?_) (fun h1 => ?_)
  · refine y_icmp_ne_f dX10_isWord_5 (t := 21) rfl h1 ?_
    refine y_aload_n dX10_isWord_8 rfl rfl ?_
    refine y_getJ fX10_234 hM.1 rfl dX10_isWord_9 ?_
    refine y_lload_n dX10_isWord_12 rfl rfl ?_
    refine y_lcmp dX10_isWord_13 ?_
    refine y_ite (fun h2 => ?_) (fun h2 => ?_)
    · refine y_if_ne_f dX10_isWord_14 (t := 21) rfl (cmp3_eq.mpr h2) ?_
      refine y_iconst dX10_isWord_17 (by decide) ?_
      refine y_goto dX10_isWord_18 (t := 22) rfl ?_
      exact y_zret (by decide) rfl rfl dX10_isWord_22
    · refine y_if_ne_t dX10_isWord_14 (t := 21) rfl (fun z => h2 (cmp3_eq.mp z)) ?_
      refine y_iconst dX10_isWord_21 (by decide) ?_
      exact y_zret (by decide) rfl rfl dX10_isWord_22
  · refine y_icmp_ne_t dX10_isWord_5 (t := 21) rfl h1 ?_
    refine y_iconst dX10_isWord_21 (by decide) ?_
    exact y_zret (by decide) rfl rfl dX10_isWord_22
theorem qX10_isWord {K : Kt} (hM : mLay K) (p1 : Int) (σ : Sg) : Cc MX10_isWord K [aR 84, aL p1] σ (emI K σ) (vX10_isWord p1 σ) := cc_of plX10 (Nat.le_of_ble_eq_true rfl) (fun o _ => ⟨Nat.le_refl _, Nat.le_refl _⟩) (fun Γ => tX10_isWord hM p1 σ)
noncomputable def vX10_isSign (p1 : Int) (σ : Sg) : Option (Int) := if (σ 84 16) = 3 then (if (σ 84 17) = p1 then (some 1) else (some 0)) else (some 0)
set_option maxRecDepth 100000 in
theorem tX10_isSign {Γ : Gx} {K : Kt} (hM : mLay K) (p1 : Int) (σ : Sg) : Y Γ MX10_isSign K (emI K σ) K 0 [some (aR 84), some (aI p1)] [] σ (vX10_isSign p1 σ) := by
  unfold vX10_isSign
  refine y_aload_n dX10_isSign_0 rfl rfl ?_
  refine y_getI fX10_244 hM.1 rfl dX10_isSign_1 ?_
  refine y_iconst dX10_isSign_4 (by decide) ?_
  refine y_ite (fun h1 => ?_) (fun h1 => ?_)
  · refine y_icmp_ne_f dX10_isSign_5 (t := 22) rfl h1 ?_
    refine y_aload_n dX10_isSign_8 rfl rfl ?_
    refine y_getJ fX10_234 hM.1 rfl dX10_isSign_9 ?_
    refine y_iload_n dX10_isSign_12 rfl rfl ?_
    refine y_i2l dX10_isSign_13 ?_
    refine y_lcmp dX10_isSign_14 ?_
    refine y_ite (fun h2 => ?_) (fun h2 => ?_)
    · refine y_if_ne_f dX10_isSign_15 (t := 22) rfl (cmp3_eq.mpr h2) ?_
      refine y_iconst dX10_isSign_18 (by decide) ?_
      refine y_goto dX10_isSign_19 (t := 23) rfl ?_
      exact y_zret (by decide) rfl rfl dX10_isSign_23
    · refine y_if_ne_t dX10_isSign_15 (t := 22) rfl (fun z => h2 (cmp3_eq.mp z)) ?_
      refine y_iconst dX10_isSign_22 (by decide) ?_
      exact y_zret (by decide) rfl rfl dX10_isSign_23
  · refine y_icmp_ne_t dX10_isSign_5 (t := 22) rfl h1 ?_
    refine y_iconst dX10_isSign_22 (by decide) ?_
    exact y_zret (by decide) rfl rfl dX10_isSign_23
theorem qX10_isSign {K : Kt} (hM : mLay K) (p1 : Int) (σ : Sg) : Cc MX10_isSign K [aR 84, aI p1] σ (emI K σ) (vX10_isSign p1 σ) := cc_of plX10 (Nat.le_of_ble_eq_true rfl) (fun o _ => ⟨Nat.le_refl _, Nat.le_refl _⟩) (fun Γ => tX10_isSign hM p1 σ)
noncomputable def vX10_must_24 (σ : Sg) : Option (Sg) := if (σ 84 19) = 0 then ((vX10_next σ).bind (fun σ2 => some σ2)) else (some σ)
set_option maxRecDepth 100000 in
theorem tX10_must_24 {Γ : Gx} {K : Kt} (hM : mLay K)  (σ : Sg) : Y Γ MX10_must K (emV K) K 24 [some (aR 84), none] [] σ (vX10_must_24  σ) := by
  unfold vX10_must_24
  refine y_aload_n dX10_must_24 rfl rfl ?_
  refine y_getI fX10_224 hM.1 rfl dX10_must_25 ?_
  refine y_ite (fun h1 => ?_) (fun h1 => ?_)
  · refine y_if_ne_f dX10_must_28 (t := 35) rfl h1 ?_
    refine y_aload_n dX10_must_31 rfl rfl ?_
    refine y_cvV (qX10_next hM σ) kX10_228 rfl hM.1 rfl (by decide) rfl (Nat.le_of_ble_eq_true rfl) dX10_must_32 (fun σ2 => ?_)
    exact y_vret rfl rfl dX10_must_35
  · refine y_if_ne_t dX10_must_28 (t := 35) rfl h1 ?_
    exact y_vret rfl rfl dX10_must_35
noncomputable def vX10_must (p1 : Int) (σ : Sg) : Option (Sg) := if (σ 84 19) = 0 then (if p1 = 0 then (nm (up2 σ 84 19 1) (fun σ3 => nm (up2 σ3 84 18 (σ3 84 14)) (fun σ4 => vX10_must_24 σ4))) else (vX10_must_24 σ)) else (vX10_must_24 σ)
set_option maxRecDepth 100000 in
theorem tX10_must {Γ : Gx} {K : Kt} (hM : mLay K) (p1 : Int) (σ : Sg) : Y Γ MX10_must K (emV K) K 0 [some (aR 84), some (aI p1)] [] σ (vX10_must p1 σ) := by
  unfold vX10_must
  refine y_aload_n dX10_must_0 rfl rfl ?_
  refine y_getI fX10_224 hM.1 rfl dX10_must_1 ?_
  refine y_ite (fun h1 => ?_) (fun h1 => ?_)
  · refine y_if_ne_f dX10_must_4 (t := 24) rfl h1 ?_
    refine y_iload_n dX10_must_7 rfl rfl ?_
    refine y_ite (fun h2 => ?_) (fun h2 => ?_)
    · refine y_if_ne_f dX10_must_8 (t := 24) rfl h2 ?_
      refine y_aload_n dX10_must_11 rfl rfl ?_
      refine y_iconst dX10_must_12 (by decide) ?_
      refine yn_putZ (by decide) fX10_224 hM.1 rfl rfl dX10_must_13 (fun σ3 => ?_)
      refine y_aload_n dX10_must_16 rfl rfl ?_
      refine y_aload_n dX10_must_17 rfl rfl ?_
      refine y_getI fX10_231 hM.1 rfl dX10_must_18 ?_
      refine yn_putI fX10_38 hM.1 rfl rfl dX10_must_21 (fun σ4 => ?_)
      refine y_fg [true, false] (L' := [some (aR 84), none]) rfl ?_
      exact tX10_must_24 hM σ4
    · refine y_if_ne_t dX10_must_8 (t := 24) rfl h2 ?_
      refine y_fg [true, false] (L' := [some (aR 84), none]) rfl ?_
      exact tX10_must_24 hM σ
  · refine y_if_ne_t dX10_must_4 (t := 24) rfl h1 ?_
    refine y_fg [true, false] (L' := [some (aR 84), none]) rfl ?_
    exact tX10_must_24 hM σ
theorem qX10_must {K : Kt} (hM : mLay K) (p1 : Int) (σ : Sg) : Cc MX10_must K [aR 84, aI p1] σ (emV K) (vX10_must p1 σ) := cc_of plX10 (Nat.le_of_ble_eq_true rfl) (fun o _ => ⟨Nat.le_refl _, Nat.le_refl _⟩) (fun Γ => tX10_must hM p1 σ)
noncomputable def vX10_number_33 (x5 y1 : Int) (σ : Sg) : Option (Int × Sg) := (vX10_must y1 σ).bind (fun σ1 => some (x5, σ1))
set_option maxRecDepth 100000 in
theorem tX10_number_33 {Γ : Gx} {K : Kt} (hM : mLay K)  (x5 y1 : Int) (σ : Sg) : Y Γ MX10_number K (emIS K) K 33 [none, none, none, none, none, some (aI x5)] [aI y1, aR 84] σ (vX10_number_33 x5 y1 σ) := by
  unfold vX10_number_33
  refine y_cvV (qX10_must hM y1 σ) kX10_257 rfl hM.1 rfl (by decide) rfl (Nat.le_of_ble_eq_true rfl) dX10_number_33 (fun σ1 => ?_)
  refine y_iload dX10_number_36 rfl ?_
  exact y_iret rfl rfl dX10_number_38
noncomputable def vX10_number_32 (x5 : Int) (σ : Sg) : Option (Int × Sg) := vX10_number_33 x5 0 σ
set_option maxRecDepth 100000 in
theorem tX10_number_32 {Γ : Gx} {K : Kt} (hM : mLay K)  (x5 : Int) (σ : Sg) : Y Γ MX10_number K (emIS K) K 32 [none, none, none, none, none, some (aI x5)] [aR 84] σ (vX10_number_32 x5 σ) := by
  unfold vX10_number_32
  refine y_iconst dX10_number_32 (by decide) ?_
  exact tX10_number_33 hM x5 0 σ
noncomputable def vX10_number (p1 : Int) (p2 : Int) (σ : Sg) : Option (Int × Sg) := nm (w32 (σ 84 17)) (fun z1 => if (σ 84 16) = 2 then ((vX10_in (σ 84 17) p1 p2 σ).bind (fun r3 => if r3 = 0 then (vX10_number_32 z1 σ) else (vX10_number_33 z1 1 σ))) else (vX10_number_32 z1 σ))
set_option maxRecDepth 100000 in
theorem tX10_number {Γ : Gx} {K : Kt} (hM : mLay K) (p1 : Int) (p2 : Int) (σ : Sg) : Y Γ MX10_number K (emIS K) K 0 [some (aR 84), some (aL p1), none, some (aL p2), none, none] [] σ (vX10_number p1 p2 σ) := by
  unfold vX10_number
  refine y_aload_n dX10_number_0 rfl rfl ?_
  refine y_getJ fX10_234 hM.1 rfl dX10_number_1 ?_
  refine y_l2i dX10_number_4 ?_
  refine yn_istore dX10_number_5 (Nat.le_of_ble_eq_true rfl) (L' := fun z1 => [some (aR 84), some (aL p1), none, some (aL p2), none, some (aI z1)]) (fun _ => rfl) (fun z1 => ?_)
  refine y_aload_n dX10_number_7 rfl rfl ?_
  refine y_aload_n dX10_number_8 rfl rfl ?_
  refine y_getI fX10_244 hM.1 rfl dX10_number_9 ?_
  refine y_iconst dX10_number_12 (by decide) ?_
  refine y_ite (fun h2 => ?_) (fun h2 => ?_)
  · refine y_icmp_ne_f dX10_number_13 (t := 32) rfl h2 ?_
    refine y_aload_n dX10_number_16 rfl rfl ?_
    refine y_getJ fX10_234 hM.1 rfl dX10_number_17 ?_
    refine y_lload_n dX10_number_20 rfl rfl ?_
    refine y_lload_n dX10_number_21 rfl rfl ?_
    refine y_csI (qX10_in (K := K) (σ 84 17) p1 p2 σ) kX10_177 rfl (by decide) rfl (Nat.le_of_ble_eq_true rfl) dX10_number_22 (fun r3 => ?_)
    refine y_ite (fun h4 => ?_) (fun h4 => ?_)
    · refine y_if_eq_t dX10_number_25 (t := 32) rfl h4 ?_
      refine y_fg [false, false, false, false, false, true] (L' := [none, none, none, none, none, some (aI z1)]) rfl ?_
      exact tX10_number_32 hM z1 σ
    · refine y_if_eq_f dX10_number_25 (t := 32) rfl h4 ?_
      refine y_iconst dX10_number_28 (by decide) ?_
      refine y_goto dX10_number_29 (t := 33) rfl ?_
      refine y_fg [false, false, false, false, false, true] (L' := [none, none, none, none, none, some (aI z1)]) rfl ?_
      exact tX10_number_33 hM z1 1 σ
  · refine y_icmp_ne_t dX10_number_13 (t := 32) rfl h2 ?_
    refine y_fg [false, false, false, false, false, true] (L' := [none, none, none, none, none, some (aI z1)]) rfl ?_
    exact tX10_number_32 hM z1 σ
theorem qX10_number {K : Kt} (hM : mLay K) (p1 : Int) (p2 : Int) (σ : Sg) : Cc MX10_number K [aR 84, aL p1, aL p2] σ (emIS K) (vX10_number p1 p2 σ) := cc_of plX10 (Nat.le_of_ble_eq_true rfl) (fun o _ => ⟨Nat.le_refl _, Nat.le_refl _⟩) (fun Γ => tX10_number hM p1 p2 σ)
noncomputable def vX10_fault (σ : Sg) : Option (Int × Sg) := nm (up2 σ 84 0 0) (fun σ1 => some ((σ1 84 18), σ1))
set_option maxRecDepth 100000 in
theorem tX10_fault {Γ : Gx} {K : Kt} (hM : mLay K) (σ : Sg) : Y Γ MX10_fault K (emIS K) K 0 [some (aR 84)] [] σ (vX10_fault σ) := by
  unfold vX10_fault
  refine y_aload_n dX10_fault_0 rfl rfl ?_
  refine y_iconst dX10_fault_1 (by decide) ?_
  refine yn_putI fX10_157 hM.1 rfl rfl dX10_fault_2 (fun σ1 => ?_)
  refine y_aload_n dX10_fault_5 rfl rfl ?_
  refine y_getI fX10_38 hM.1 rfl dX10_fault_6 ?_
  exact y_iret rfl rfl dX10_fault_9
theorem qX10_fault {K : Kt} (hM : mLay K) (σ : Sg) : Cc MX10_fault K [aR 84] σ (emIS K) (vX10_fault σ) := cc_of plX10 (Nat.le_of_ble_eq_true rfl) (fun o _ => ⟨Nat.le_refl _, Nat.le_refl _⟩) (fun Γ => tX10_fault hM σ)
noncomputable def vX10_emit (p1 : Int) (p2 : Int) (σ : Sg) : Option (Sg) := ck (0 ≤ (σ 84 23) ∧ (σ 84 23) < 400) (nm (up2 σ 95 (σ 84 23).toNat p1) (fun σ1 => ck (0 ≤ (σ1 84 23) ∧ (σ1 84 23) < 400) (nm (up2 σ1 96 (σ1 84 23).toNat p2) (fun σ2 => ck (in32 ((σ2 84 23) + 1)) (nm (up2 σ2 84 23 ((σ2 84 23) + 1)) (fun σ3 => some σ3))))))
set_option maxRecDepth 100000 in
theorem tX10_emit {Γ : Gx} {K : Kt} (hM : mLay K) (p1 : Int) (p2 : Int) (σ : Sg) : Y Γ MX10_emit K (emV K) K 0 [some (aR 84), some (aI p1), some (aI p2)] [] σ (vX10_emit p1 p2 σ) := by
  unfold vX10_emit
  refine y_aload_n dX10_emit_0 rfl rfl ?_
  refine y_getR fX10_45 hM.1 rfl (lM_24 hM).1 dX10_emit_1 ?_
  refine y_aload_n dX10_emit_4 rfl rfl ?_
  refine y_getI fX10_261 hM.1 rfl dX10_emit_5 ?_
  refine y_iload_n dX10_emit_8 rfl rfl ?_
  refine yk_iastore (lM_24 hM).2 (N := 400) rfl (j := (σ 84 23).toNat) rfl dX10_emit_9 (fun σ1 => ?_)
  refine y_aload_n dX10_emit_10 rfl rfl ?_
  refine y_getR fX10_48 hM.1 rfl (lM_25 hM).1 dX10_emit_11 ?_
  refine y_aload_n dX10_emit_14 rfl rfl ?_
  refine y_getI fX10_261 hM.1 rfl dX10_emit_15 ?_
  refine y_iload_n dX10_emit_18 rfl rfl ?_
  refine yk_iastore (lM_25 hM).2 (N := 400) rfl (j := (σ1 84 23).toNat) rfl dX10_emit_19 (fun σ2 => ?_)
  refine y_aload_n dX10_emit_20 rfl rfl ?_
  refine y_dup dX10_emit_21 (fun _ => rfl) ?_
  refine y_getI fX10_261 hM.1 rfl dX10_emit_22 ?_
  refine y_iconst dX10_emit_25 (by decide) ?_
  refine yk_iadd dX10_emit_26 ?_
  refine yn_putI fX10_261 hM.1 rfl rfl dX10_emit_27 (fun σ3 => ?_)
  exact y_vret rfl rfl dX10_emit_30
theorem qX10_emit {K : Kt} (hM : mLay K) (p1 : Int) (p2 : Int) (σ : Sg) : Cc MX10_emit K [aR 84, aI p1, aI p2] σ (emV K) (vX10_emit p1 p2 σ) := cc_of plX10 (Nat.le_of_ble_eq_true rfl) (fun o _ => ⟨Nat.le_refl _, Nat.le_refl _⟩) (fun Γ => tX10_emit hM p1 p2 σ)
noncomputable def vX10_push (p1 : Int) (p2 : Int) (σ : Sg) : Option (Sg) := ck (0 ≤ (σ 84 29) ∧ (σ 84 29) < 400) (nm (up2 σ 97 (σ 84 29).toNat p1) (fun σ1 => ck (0 ≤ (σ1 84 29) ∧ (σ1 84 29) < 400) (nm (up2 σ1 98 (σ1 84 29).toNat p2) (fun σ2 => ck (in32 ((σ2 84 29) + 1)) (nm (up2 σ2 84 29 ((σ2 84 29) + 1)) (fun σ3 => some σ3))))))
set_option maxRecDepth 100000 in
theorem tX10_push {Γ : Gx} {K : Kt} (hM : mLay K) (p1 : Int) (p2 : Int) (σ : Sg) : Y Γ MX10_push K (emV K) K 0 [some (aR 84), some (aI p1), some (aI p2)] [] σ (vX10_push p1 p2 σ) := by
  unfold vX10_push
  refine y_aload_n dX10_push_0 rfl rfl ?_
  refine y_getR fX10_51 hM.1 rfl (lM_27 hM).1 dX10_push_1 ?_
  refine y_aload_n dX10_push_4 rfl rfl ?_
  refine y_getI fX10_264 hM.1 rfl dX10_push_5 ?_
  refine y_iload_n dX10_push_8 rfl rfl ?_
  refine yk_iastore (lM_27 hM).2 (N := 400) rfl (j := (σ 84 29).toNat) rfl dX10_push_9 (fun σ1 => ?_)
  refine y_aload_n dX10_push_10 rfl rfl ?_
  refine y_getR fX10_54 hM.1 rfl (lM_28 hM).1 dX10_push_11 ?_
  refine y_aload_n dX10_push_14 rfl rfl ?_
  refine y_getI fX10_264 hM.1 rfl dX10_push_15 ?_
  refine y_iload_n dX10_push_18 rfl rfl ?_
  refine yk_iastore (lM_28 hM).2 (N := 400) rfl (j := (σ1 84 29).toNat) rfl dX10_push_19 (fun σ2 => ?_)
  refine y_aload_n dX10_push_20 rfl rfl ?_
  refine y_dup dX10_push_21 (fun _ => rfl) ?_
  refine y_getI fX10_264 hM.1 rfl dX10_push_22 ?_
  refine y_iconst dX10_push_25 (by decide) ?_
  refine yk_iadd dX10_push_26 ?_
  refine yn_putI fX10_264 hM.1 rfl rfl dX10_push_27 (fun σ3 => ?_)
  exact y_vret rfl rfl dX10_push_30
theorem qX10_push {K : Kt} (hM : mLay K) (p1 : Int) (p2 : Int) (σ : Sg) : Cc MX10_push K [aR 84, aI p1, aI p2] σ (emV K) (vX10_push p1 p2 σ) := cc_of plX10 (Nat.le_of_ble_eq_true rfl) (fun o _ => ⟨Nat.le_refl _, Nat.le_refl _⟩) (fun Γ => tX10_push hM p1 p2 σ)
noncomputable def vX10_binds (p1 : Int) (σ : Sg) : Option (Int) := if p1 < 31 then (if p1 = 30 then (some 1) else (if p1 = 29 then (some 2) else (if p1 = 28 then (some 3) else (if p1 < 25 then (if p1 < 22 then (some 5) else (some 6)) else (some 4))))) else (some 0)
set_option maxRecDepth 100000 in
theorem tX10_binds {Γ : Gx} {K : Kt} (p1 : Int) (σ : Sg) : Y Γ MX10_binds K (emI K σ) K 0 [some (aI p1)] [] σ (vX10_binds p1 σ) := by
  unfold vX10_binds
  refine y_iload_n dX10_binds_0 rfl rfl ?_
  refine y_bipush dX10_binds_1 (by decide) (by decide) ?_
  refine y_ite (fun h1 => ?_) (fun h1 => ?_)
  · refine y_icmp_lt_t dX10_binds_3 (t := 10) rfl h1 ?_
    refine y_iload_n dX10_binds_10 rfl rfl ?_
    refine y_bipush dX10_binds_11 (by decide) (by decide) ?_
    refine y_ite (fun h2 => ?_) (fun h2 => ?_)
    · refine y_icmp_ne_f dX10_binds_13 (t := 20) rfl h2 ?_
      refine y_iconst dX10_binds_16 (by decide) ?_
      refine y_goto dX10_binds_17 (t := 62) rfl ?_
      exact y_iret rfl rfl dX10_binds_62
    · refine y_icmp_ne_t dX10_binds_13 (t := 20) rfl h2 ?_
      refine y_iload_n dX10_binds_20 rfl rfl ?_
      refine y_bipush dX10_binds_21 (by decide) (by decide) ?_
      refine y_ite (fun h3 => ?_) (fun h3 => ?_)
      · refine y_icmp_ne_f dX10_binds_23 (t := 30) rfl h3 ?_
        refine y_iconst dX10_binds_26 (by decide) ?_
        refine y_goto dX10_binds_27 (t := 62) rfl ?_
        exact y_iret rfl rfl dX10_binds_62
      · refine y_icmp_ne_t dX10_binds_23 (t := 30) rfl h3 ?_
        refine y_iload_n dX10_binds_30 rfl rfl ?_
        refine y_bipush dX10_binds_31 (by decide) (by decide) ?_
        refine y_ite (fun h4 => ?_) (fun h4 => ?_)
        · refine y_icmp_ne_f dX10_binds_33 (t := 40) rfl h4 ?_
          refine y_iconst dX10_binds_36 (by decide) ?_
          refine y_goto dX10_binds_37 (t := 62) rfl ?_
          exact y_iret rfl rfl dX10_binds_62
        · refine y_icmp_ne_t dX10_binds_33 (t := 40) rfl h4 ?_
          refine y_iload_n dX10_binds_40 rfl rfl ?_
          refine y_bipush dX10_binds_41 (by decide) (by decide) ?_
          refine y_ite (fun h5 => ?_) (fun h5 => ?_)
          · refine y_icmp_lt_t dX10_binds_43 (t := 50) rfl h5 ?_
            refine y_iload_n dX10_binds_50 rfl rfl ?_
            refine y_bipush dX10_binds_51 (by decide) (by decide) ?_
            refine y_ite (fun h6 => ?_) (fun h6 => ?_)
            · refine y_icmp_lt_t dX10_binds_53 (t := 61) rfl h6 ?_
              refine y_iconst dX10_binds_61 (by decide) ?_
              exact y_iret rfl rfl dX10_binds_62
            · refine y_icmp_lt_f dX10_binds_53 (t := 61) rfl h6 ?_
              refine y_bipush dX10_binds_56 (by decide) (by decide) ?_
              refine y_goto dX10_binds_58 (t := 62) rfl ?_
              exact y_iret rfl rfl dX10_binds_62
          · refine y_icmp_lt_f dX10_binds_43 (t := 50) rfl h5 ?_
            refine y_iconst dX10_binds_46 (by decide) ?_
            refine y_goto dX10_binds_47 (t := 62) rfl ?_
            exact y_iret rfl rfl dX10_binds_62
  · refine y_icmp_lt_f dX10_binds_3 (t := 10) rfl h1 ?_
    refine y_iconst dX10_binds_6 (by decide) ?_
    refine y_goto dX10_binds_7 (t := 62) rfl ?_
    exact y_iret rfl rfl dX10_binds_62
theorem qX10_binds {K : Kt} (p1 : Int) (σ : Sg) : Cc MX10_binds K [aI p1] σ (emI K σ) (vX10_binds p1 σ) := cc_of plX10 (Nat.le_of_ble_eq_true rfl) (fun o _ => ⟨Nat.le_refl _, Nat.le_refl _⟩) (fun Γ => tX10_binds p1 σ)
noncomputable def vX10_settle_63 (rec_0 : Int → Sg → Option (Sg)) (x1 : Int) (σ : Sg) : Option (Sg) := ck (0 ≤ (σ 84 29) ∧ (σ 84 29) < 400) (ck (0 ≤ (σ 98 (σ 84 29).toNat) ∧ (σ 98 (σ 84 29).toNat) < 400) (nm (up2 σ 96 (σ 98 (σ 84 29).toNat).toNat (σ 84 23)) (fun σ1 => rec_0 x1 σ1)))
set_option maxRecDepth 100000 in
theorem tX10_settle_63 {Γ : Gx} {K : Kt} (hM : mLay K)  (rec_0 : Int → Sg → Option (Sg)) (hrec_0 : ∀ (x1 : Int) (σ : Sg), Y Γ MX10_settle K (emV K) K 0 [some (aR 84), some (aI x1)] [] σ (rec_0 x1 σ)) (x1 : Int) (σ : Sg) : Y Γ MX10_settle K (emV K) K 63 [some (aR 84), some (aI x1)] [] σ (vX10_settle_63 rec_0 x1 σ) := by
  unfold vX10_settle_63
  refine y_aload_n dX10_settle_63 rfl rfl ?_
  refine y_getR fX10_48 hM.1 rfl (lM_25 hM).1 dX10_settle_64 ?_
  refine y_aload_n dX10_settle_67 rfl rfl ?_
  refine y_getR fX10_54 hM.1 rfl (lM_28 hM).1 dX10_settle_68 ?_
  refine y_aload_n dX10_settle_71 rfl rfl ?_
  refine y_getI fX10_264 hM.1 rfl dX10_settle_72 ?_
  refine yk_iaload (lM_28 hM).2 (N := 400) rfl (j := (σ 84 29).toNat) rfl dX10_settle_75 ?_
  refine y_aload_n dX10_settle_76 rfl rfl ?_
  refine y_getI fX10_261 hM.1 rfl dX10_settle_77 ?_
  refine yk_iastore (lM_25 hM).2 (N := 400) rfl (j := (σ 98 (σ 84 29).toNat).toNat) rfl dX10_settle_80 (fun σ1 => ?_)
  refine y_goto dX10_settle_81 (t := 0) rfl ?_
  exact hrec_0 x1 σ1
noncomputable def vX10_settle_0 : Nat → Int → Sg → Option (Sg)
  | 0, _, _ => none
  | f + 1, x1, σ => if 0 < (σ 84 29) then (ck (in32 ((σ 84 29) - 1)) (ck (0 ≤ ((σ 84 29) - 1) ∧ ((σ 84 29) - 1) < 400) ((vX10_binds (σ 97 ((σ 84 29) - 1).toNat) σ).bind (fun r2 => if r2 < x1 then (some σ) else (ck (in32 ((σ 84 29) - 1)) (nm (up2 σ 84 29 ((σ 84 29) - 1)) (fun σ4 => ck (0 ≤ (σ4 84 29) ∧ (σ4 84 29) < 400) (if (σ4 97 (σ4 84 29).toNat) = 29 then (vX10_settle_63 (vX10_settle_0 f) x1 σ4) else (ck (0 ≤ (σ4 84 29) ∧ (σ4 84 29) < 400) (if (σ4 97 (σ4 84 29).toNat) = 30 then (vX10_settle_63 (vX10_settle_0 f) x1 σ4) else (ck (0 ≤ (σ4 84 29) ∧ (σ4 84 29) < 400) ((vX10_emit (σ4 97 (σ4 84 29).toNat) 0 σ4).bind (fun σ7 => vX10_settle_0 f x1 σ7))))))))))))) else (some σ)
set_option maxRecDepth 100000 in
theorem tX10_settle_0 {Γ : Gx} {K : Kt} (hM : mLay K)  : ∀ (f : Nat) (x1 : Int) (σ : Sg), Y Γ MX10_settle K (emV K) K 0 [some (aR 84), some (aI x1)] [] σ (vX10_settle_0 f x1 σ) := by
  intro f
  induction f with
  | zero => intro x1 σ; exact y_none
  | succ f ih =>
    intro x1 σ
    rw [vX10_settle_0]
    refine y_aload_n dX10_settle_0 rfl rfl ?_
    refine y_getI fX10_264 hM.1 rfl dX10_settle_1 ?_
    refine y_ite (fun h1 => ?_) (fun h1 => ?_)
    · refine y_if_le_f dX10_settle_4 (t := 101) rfl h1 ?_
      refine y_aload_n dX10_settle_7 rfl rfl ?_
      refine y_getR fX10_51 hM.1 rfl (lM_27 hM).1 dX10_settle_8 ?_
      refine y_aload_n dX10_settle_11 rfl rfl ?_
      refine y_getI fX10_264 hM.1 rfl dX10_settle_12 ?_
      refine y_iconst dX10_settle_15 (by decide) ?_
      refine yk_isub dX10_settle_16 ?_
      refine yk_iaload (lM_27 hM).2 (N := 400) rfl (j := ((σ 84 29) - 1).toNat) rfl dX10_settle_17 ?_
      refine y_csI (qX10_binds (K := K) (σ 97 ((σ 84 29) - 1).toNat) σ) kX10_267 rfl (by decide) rfl (Nat.le_of_ble_eq_true rfl) dX10_settle_18 (fun r2 => ?_)
      refine y_iload_n dX10_settle_21 rfl rfl ?_
      refine y_ite (fun h3 => ?_) (fun h3 => ?_)
      · refine y_icmp_lt_t dX10_settle_22 (t := 101) rfl h3 ?_
        exact y_vret rfl rfl dX10_settle_101
      · refine y_icmp_lt_f dX10_settle_22 (t := 101) rfl h3 ?_
        refine y_aload_n dX10_settle_25 rfl rfl ?_
        refine y_dup dX10_settle_26 (fun _ => rfl) ?_
        refine y_getI fX10_264 hM.1 rfl dX10_settle_27 ?_
        refine y_iconst dX10_settle_30 (by decide) ?_
        refine yk_isub dX10_settle_31 ?_
        refine yn_putI fX10_264 hM.1 rfl rfl dX10_settle_32 (fun σ4 => ?_)
        refine y_aload_n dX10_settle_35 rfl rfl ?_
        refine y_getR fX10_51 hM.1 rfl (lM_27 hM).1 dX10_settle_36 ?_
        refine y_aload_n dX10_settle_39 rfl rfl ?_
        refine y_getI fX10_264 hM.1 rfl dX10_settle_40 ?_
        refine yk_iaload (lM_27 hM).2 (N := 400) rfl (j := (σ4 84 29).toNat) rfl dX10_settle_43 ?_
        refine y_bipush dX10_settle_44 (by decide) (by decide) ?_
        refine y_ite (fun h5 => ?_) (fun h5 => ?_)
        · refine y_icmp_eq_t dX10_settle_46 (t := 63) rfl h5 ?_
          exact tX10_settle_63 hM (vX10_settle_0 f) ih x1 σ4
        · refine y_icmp_eq_f dX10_settle_46 (t := 63) rfl h5 ?_
          refine y_aload_n dX10_settle_49 rfl rfl ?_
          refine y_getR fX10_51 hM.1 rfl (lM_27 hM).1 dX10_settle_50 ?_
          refine y_aload_n dX10_settle_53 rfl rfl ?_
          refine y_getI fX10_264 hM.1 rfl dX10_settle_54 ?_
          refine yk_iaload (lM_27 hM).2 (N := 400) rfl (j := (σ4 84 29).toNat) rfl dX10_settle_57 ?_
          refine y_bipush dX10_settle_58 (by decide) (by decide) ?_
          refine y_ite (fun h6 => ?_) (fun h6 => ?_)
          · refine y_icmp_ne_f dX10_settle_60 (t := 84) rfl h6 ?_
            exact tX10_settle_63 hM (vX10_settle_0 f) ih x1 σ4
          · refine y_icmp_ne_t dX10_settle_60 (t := 84) rfl h6 ?_
            refine y_aload_n dX10_settle_84 rfl rfl ?_
            refine y_aload_n dX10_settle_85 rfl rfl ?_
            refine y_getR fX10_51 hM.1 rfl (lM_27 hM).1 dX10_settle_86 ?_
            refine y_aload_n dX10_settle_89 rfl rfl ?_
            refine y_getI fX10_264 hM.1 rfl dX10_settle_90 ?_
            refine yk_iaload (lM_27 hM).2 (N := 400) rfl (j := (σ4 84 29).toNat) rfl dX10_settle_93 ?_
            refine y_iconst dX10_settle_94 (by decide) ?_
            refine y_cvV (qX10_emit hM (σ4 97 (σ4 84 29).toNat) 0 σ4) kX10_270 rfl hM.1 rfl (by decide) rfl (Nat.le_of_ble_eq_true rfl) dX10_settle_95 (fun σ7 => ?_)
            refine y_goto dX10_settle_98 (t := 0) rfl ?_
            exact ih x1 σ7
    · refine y_if_le_t dX10_settle_4 (t := 101) rfl h1 ?_
      exact y_vret rfl rfl dX10_settle_101
noncomputable def vX10_settle (p1 : Int) (σ : Sg) : Option (Sg) := vX10_settle_0 FU p1 σ
set_option maxRecDepth 100000 in
theorem tX10_settle {Γ : Gx} {K : Kt} (hM : mLay K) (p1 : Int) (σ : Sg) : Y Γ MX10_settle K (emV K) K 0 [some (aR 84), some (aI p1)] [] σ (vX10_settle p1 σ) := by
  unfold vX10_settle
  exact tX10_settle_0 hM FU p1 σ
theorem qX10_settle {K : Kt} (hM : mLay K) (p1 : Int) (σ : Sg) : Cc MX10_settle K [aR 84, aI p1] σ (emV K) (vX10_settle p1 σ) := cc_of plX10 (Nat.le_of_ble_eq_true rfl) (fun o _ => ⟨Nat.le_refl _, Nat.le_refl _⟩) (fun Γ => tX10_settle hM p1 σ)
noncomputable def vX10_inner_4 (σ : Sg) : Nat → Int → Int → Option (Int)
  | 0, _, _ => none
  | f + 1, x1, x2 => if x2 < (σ 84 29) then (ck (0 ≤ x2 ∧ x2 < 400) (if (σ 97 x2.toNat) < 31 then (ck (in32 (x2 + 1)) (vX10_inner_4 σ f x1 (x2 + 1))) else (ck (0 ≤ x2 ∧ x2 < 400) (nm (σ 97 x2.toNat) (fun z3 => ck (in32 (x2 + 1)) (vX10_inner_4 σ f z3 (x2 + 1))))))) else (some x1)
set_option maxRecDepth 100000 in
theorem tX10_inner_4 {Γ : Gx} {K : Kt} (hM : mLay K) (σ : Sg)  : ∀ (f : Nat) (x1 x2 : Int), Y Γ MX10_inner K (emI K σ) K 4 [some (aR 84), some (aI x1), some (aI x2)] [] σ (vX10_inner_4 σ f x1 x2) := by
  intro f
  induction f with
  | zero => intro x1 x2; exact y_none
  | succ f ih =>
    intro x1 x2
    rw [vX10_inner_4]
    refine y_iload_n dX10_inner_4 rfl rfl ?_
    refine y_aload_n dX10_inner_5 rfl rfl ?_
    refine y_getI fX10_264 hM.1 rfl dX10_inner_6 ?_
    refine y_ite (fun h1 => ?_) (fun h1 => ?_)
    · refine y_icmp_ge_f dX10_inner_9 (t := 40) rfl h1 ?_
      refine y_aload_n dX10_inner_12 rfl rfl ?_
      refine y_getR fX10_51 hM.1 rfl (lM_27 hM).1 dX10_inner_13 ?_
      refine y_iload_n dX10_inner_16 rfl rfl ?_
      refine yk_iaload (lM_27 hM).2 (N := 400) rfl (j := x2.toNat) rfl dX10_inner_17 ?_
      refine y_bipush dX10_inner_18 (by decide) (by decide) ?_
      refine y_ite (fun h2 => ?_) (fun h2 => ?_)
      · refine y_icmp_lt_t dX10_inner_20 (t := 32) rfl h2 ?_
        refine y_iload_n dX10_inner_32 rfl rfl ?_
        refine y_istore_n dX10_inner_33 rfl (Nat.le_of_ble_eq_true rfl) (L' := [some (aR 84), some (aI x1), some (aI x2)]) rfl ?_
        refine yk_iinc dX10_inner_34 rfl (L' := [some (aR 84), some (aI x1), some (aI (x2 + 1))]) rfl ?_
        refine y_goto dX10_inner_37 (t := 4) rfl ?_
        exact ih x1 (x2 + 1)
      · refine y_icmp_lt_f dX10_inner_20 (t := 32) rfl h2 ?_
        refine y_aload_n dX10_inner_23 rfl rfl ?_
        refine y_getR fX10_51 hM.1 rfl (lM_27 hM).1 dX10_inner_24 ?_
        refine y_iload_n dX10_inner_27 rfl rfl ?_
        refine yk_iaload (lM_27 hM).2 (N := 400) rfl (j := x2.toNat) rfl dX10_inner_28 ?_
        refine y_goto dX10_inner_29 (t := 33) rfl ?_
        refine yn_istore_n dX10_inner_33 rfl (Nat.le_of_ble_eq_true rfl) (L' := fun z3 => [some (aR 84), some (aI z3), some (aI x2)]) (fun _ => rfl) (fun z3 => ?_)
        refine yk_iinc dX10_inner_34 rfl (L' := [some (aR 84), some (aI z3), some (aI (x2 + 1))]) rfl ?_
        refine y_goto dX10_inner_37 (t := 4) rfl ?_
        exact ih z3 (x2 + 1)
    · refine y_icmp_ge_t dX10_inner_9 (t := 40) rfl h1 ?_
      refine y_iload_n dX10_inner_40 rfl rfl ?_
      exact y_iret rfl rfl dX10_inner_41
noncomputable def vX10_inner (σ : Sg) : Option (Int) := vX10_inner_4 σ FU (-1) 0
set_option maxRecDepth 100000 in
theorem tX10_inner {Γ : Gx} {K : Kt} (hM : mLay K) (σ : Sg) : Y Γ MX10_inner K (emI K σ) K 0 [some (aR 84), none, none] [] σ (vX10_inner σ) := by
  unfold vX10_inner
  refine y_iconst dX10_inner_0 (by decide) ?_
  refine y_istore_n dX10_inner_1 rfl (Nat.le_of_ble_eq_true rfl) (L' := [some (aR 84), some (aI (-1)), none]) rfl ?_
  refine y_iconst dX10_inner_2 (by decide) ?_
  refine y_istore_n dX10_inner_3 rfl (Nat.le_of_ble_eq_true rfl) (L' := [some (aR 84), some (aI (-1)), some (aI 0)]) rfl ?_
  exact tX10_inner_4 hM σ FU (-1) 0
theorem qX10_inner {K : Kt} (hM : mLay K) (σ : Sg) : Cc MX10_inner K [aR 84] σ (emI K σ) (vX10_inner σ) := cc_of plX10 (Nat.le_of_ble_eq_true rfl) (fun o _ => ⟨Nat.le_refl _, Nat.le_refl _⟩) (fun Γ => tX10_inner hM σ)
noncomputable def vX10_isCompared_36 (σ : Sg) (x1 : Int) : Option (Int) := if x1 < 0 then (some 0) else (ck (0 ≤ x1 ∧ x1 < 400) ((vX10_in (σ 97 x1.toNat) 25 27 σ).bind (fun r2 => if r2 = 0 then (some 0) else (some 1))))
set_option maxRecDepth 100000 in
theorem tX10_isCompared_36 {Γ : Gx} {K : Kt} (hM : mLay K) (σ : Sg)  (x1 : Int) : Y Γ MX10_isCompared K (emI K σ) K 36 [some (aR 84), some (aI x1)] [] σ (vX10_isCompared_36 σ x1) := by
  unfold vX10_isCompared_36
  refine y_iload_n dX10_isCompared_36 rfl rfl ?_
  refine y_ite (fun h1 => ?_) (fun h1 => ?_)
  · refine y_if_lt_t dX10_isCompared_37 (t := 63) rfl h1 ?_
    refine y_iconst dX10_isCompared_63 (by decide) ?_
    exact y_zret (by decide) rfl rfl dX10_isCompared_64
  · refine y_if_lt_f dX10_isCompared_37 (t := 63) rfl h1 ?_
    refine y_aload_n dX10_isCompared_40 rfl rfl ?_
    refine y_getR fX10_51 hM.1 rfl (lM_27 hM).1 dX10_isCompared_41 ?_
    refine y_iload_n dX10_isCompared_44 rfl rfl ?_
    refine yk_iaload (lM_27 hM).2 (N := 400) rfl (j := x1.toNat) rfl dX10_isCompared_45 ?_
    refine y_i2l dX10_isCompared_46 ?_
    refine y_ldc2 25 wX10_c276 dX10_isCompared_47 (by decide) (by decide) ?_
    refine y_ldc2 27 wX10_c278 dX10_isCompared_50 (by decide) (by decide) ?_
    refine y_csI (qX10_in (K := K) (σ 97 x1.toNat) 25 27 σ) kX10_177 rfl (by decide) rfl (Nat.le_of_ble_eq_true rfl) dX10_isCompared_53 (fun r2 => ?_)
    refine y_ite (fun h3 => ?_) (fun h3 => ?_)
    · refine y_if_eq_t dX10_isCompared_56 (t := 63) rfl h3 ?_
      refine y_iconst dX10_isCompared_63 (by decide) ?_
      exact y_zret (by decide) rfl rfl dX10_isCompared_64
    · refine y_if_eq_f dX10_isCompared_56 (t := 63) rfl h3 ?_
      refine y_iconst dX10_isCompared_59 (by decide) ?_
      refine y_goto dX10_isCompared_60 (t := 64) rfl ?_
      exact y_zret (by decide) rfl rfl dX10_isCompared_64
noncomputable def vX10_isCompared_7 (σ : Sg) : Nat → Int → Option (Int)
  | 0, _ => none
  | f + 1, x1 => if x1 < 0 then (vX10_isCompared_36 σ x1) else (ck (0 ≤ x1 ∧ x1 < 400) ((vX10_in (σ 97 x1.toNat) 20 24 σ).bind (fun r2 => if r2 = 0 then (vX10_isCompared_36 σ x1) else (ck (in32 (x1 + (-1))) (vX10_isCompared_7 σ f (x1 + (-1)))))))
set_option maxRecDepth 100000 in
theorem tX10_isCompared_7 {Γ : Gx} {K : Kt} (hM : mLay K) (σ : Sg)  : ∀ (f : Nat) (x1 : Int), Y Γ MX10_isCompared K (emI K σ) K 7 [some (aR 84), some (aI x1)] [] σ (vX10_isCompared_7 σ f x1) := by
  intro f
  induction f with
  | zero => intro x1; exact y_none
  | succ f ih =>
    intro x1
    rw [vX10_isCompared_7]
    refine y_iload_n dX10_isCompared_7 rfl rfl ?_
    refine y_ite (fun h1 => ?_) (fun h1 => ?_)
    · refine y_if_lt_t dX10_isCompared_8 (t := 36) rfl h1 ?_
      exact tX10_isCompared_36 hM σ x1
    · refine y_if_lt_f dX10_isCompared_8 (t := 36) rfl h1 ?_
      refine y_aload_n dX10_isCompared_11 rfl rfl ?_
      refine y_getR fX10_51 hM.1 rfl (lM_27 hM).1 dX10_isCompared_12 ?_
      refine y_iload_n dX10_isCompared_15 rfl rfl ?_
      refine yk_iaload (lM_27 hM).2 (N := 400) rfl (j := x1.toNat) rfl dX10_isCompared_16 ?_
      refine y_i2l dX10_isCompared_17 ?_
      refine y_ldc2 20 wX10_c204 dX10_isCompared_18 (by decide) (by decide) ?_
      refine y_ldc2 24 wX10_c274 dX10_isCompared_21 (by decide) (by decide) ?_
      refine y_csI (qX10_in (K := K) (σ 97 x1.toNat) 20 24 σ) kX10_177 rfl (by decide) rfl (Nat.le_of_ble_eq_true rfl) dX10_isCompared_24 (fun r2 => ?_)
      refine y_ite (fun h3 => ?_) (fun h3 => ?_)
      · refine y_if_eq_t dX10_isCompared_27 (t := 36) rfl h3 ?_
        exact tX10_isCompared_36 hM σ x1
      · refine y_if_eq_f dX10_isCompared_27 (t := 36) rfl h3 ?_
        refine yk_iinc dX10_isCompared_30 rfl (L' := [some (aR 84), some (aI (x1 + (-1)))]) rfl ?_
        refine y_goto dX10_isCompared_33 (t := 7) rfl ?_
        exact ih (x1 + (-1))
noncomputable def vX10_isCompared (σ : Sg) : Option (Int) := ck (in32 ((σ 84 29) - 1)) (nm ((σ 84 29) - 1) (fun z1 => vX10_isCompared_7 σ FU z1))
set_option maxRecDepth 100000 in
theorem tX10_isCompared {Γ : Gx} {K : Kt} (hM : mLay K) (σ : Sg) : Y Γ MX10_isCompared K (emI K σ) K 0 [some (aR 84), none] [] σ (vX10_isCompared σ) := by
  unfold vX10_isCompared
  refine y_aload_n dX10_isCompared_0 rfl rfl ?_
  refine y_getI fX10_264 hM.1 rfl dX10_isCompared_1 ?_
  refine y_iconst dX10_isCompared_4 (by decide) ?_
  refine yk_isub dX10_isCompared_5 ?_
  refine yn_istore_n dX10_isCompared_6 rfl (Nat.le_of_ble_eq_true rfl) (L' := fun z1 => [some (aR 84), some (aI z1)]) (fun _ => rfl) (fun z1 => ?_)
  exact tX10_isCompared_7 hM σ FU z1
theorem qX10_isCompared {K : Kt} (hM : mLay K) (σ : Sg) : Cc MX10_isCompared K [aR 84] σ (emI K σ) (vX10_isCompared σ) := cc_of plX10 (Nat.le_of_ble_eq_true rfl) (fun o _ => ⟨Nat.le_refl _, Nat.le_refl _⟩) (fun Γ => tX10_isCompared hM σ)
noncomputable def vX10_partAt_4 (σ : Sg) : Nat → Int → Int → Option (Int)
  | 0, _, _ => none
  | f + 1, x1, x2 => if x2 < 9 then (ck (0 ≤ x2 ∧ x2 < 9) ((vX10_isWord (σ 99 x2.toNat) σ).bind (fun r2 => if r2 = 0 then (ck (in32 (x2 + 1)) (vX10_partAt_4 σ f x1 (x2 + 1))) else (ck (in32 (x2 + 1)) (nm (x2 + 1) (fun z4 => ck (in32 (x2 + 1)) (vX10_partAt_4 σ f z4 (x2 + 1)))))))) else (some x1)
set_option maxRecDepth 100000 in
theorem tX10_partAt_4 {Γ : Gx} {K : Kt} (hM : mLay K) (σ : Sg)  : ∀ (f : Nat) (x1 x2 : Int), Y Γ MX10_partAt K (emI K σ) K 4 [some (aR 84), some (aI x1), some (aI x2)] [] σ (vX10_partAt_4 σ f x1 x2) := by
  intro f
  induction f with
  | zero => intro x1 x2; exact y_none
  | succ f ih =>
    intro x1 x2
    rw [vX10_partAt_4]
    refine y_iload_n dX10_partAt_4 rfl rfl ?_
    refine y_bipush dX10_partAt_5 (by decide) (by decide) ?_
    refine y_ite (fun h1 => ?_) (fun h1 => ?_)
    · refine y_icmp_ge_f dX10_partAt_7 (t := 37) rfl h1 ?_
      refine y_aload_n dX10_partAt_10 rfl rfl ?_
      refine y_aload_n dX10_partAt_11 rfl rfl ?_
      refine y_getR fX10_75 hM.1 rfl (lM_31 hM).1 dX10_partAt_12 ?_
      refine y_iload_n dX10_partAt_15 rfl rfl ?_
      refine yk_laload (lM_31 hM).2 (N := 9) rfl (j := x2.toNat) rfl dX10_partAt_16 ?_
      refine y_cvI (qX10_isWord hM (σ 99 x2.toNat) σ) kX10_280 rfl hM.1 rfl (by decide) rfl (Nat.le_of_ble_eq_true rfl) dX10_partAt_17 (fun r2 => ?_)
      refine y_ite (fun h3 => ?_) (fun h3 => ?_)
      · refine y_if_eq_t dX10_partAt_20 (t := 29) rfl h3 ?_
        refine y_iload_n dX10_partAt_29 rfl rfl ?_
        refine y_istore_n dX10_partAt_30 rfl (Nat.le_of_ble_eq_true rfl) (L' := [some (aR 84), some (aI x1), some (aI x2)]) rfl ?_
        refine yk_iinc dX10_partAt_31 rfl (L' := [some (aR 84), some (aI x1), some (aI (x2 + 1))]) rfl ?_
        refine y_goto dX10_partAt_34 (t := 4) rfl ?_
        exact ih x1 (x2 + 1)
      · refine y_if_eq_f dX10_partAt_20 (t := 29) rfl h3 ?_
        refine y_iload_n dX10_partAt_23 rfl rfl ?_
        refine y_iconst dX10_partAt_24 (by decide) ?_
        refine yk_iadd dX10_partAt_25 ?_
        refine y_goto dX10_partAt_26 (t := 30) rfl ?_
        refine yn_istore_n dX10_partAt_30 rfl (Nat.le_of_ble_eq_true rfl) (L' := fun z4 => [some (aR 84), some (aI z4), some (aI x2)]) (fun _ => rfl) (fun z4 => ?_)
        refine yk_iinc dX10_partAt_31 rfl (L' := [some (aR 84), some (aI z4), some (aI (x2 + 1))]) rfl ?_
        refine y_goto dX10_partAt_34 (t := 4) rfl ?_
        exact ih z4 (x2 + 1)
    · refine y_icmp_ge_t dX10_partAt_7 (t := 37) rfl h1 ?_
      refine y_iload_n dX10_partAt_37 rfl rfl ?_
      exact y_iret rfl rfl dX10_partAt_38
noncomputable def vX10_partAt (σ : Sg) : Option (Int) := vX10_partAt_4 σ FU (-1) 0
set_option maxRecDepth 100000 in
theorem tX10_partAt {Γ : Gx} {K : Kt} (hM : mLay K) (σ : Sg) : Y Γ MX10_partAt K (emI K σ) K 0 [some (aR 84), none, none] [] σ (vX10_partAt σ) := by
  unfold vX10_partAt
  refine y_iconst dX10_partAt_0 (by decide) ?_
  refine y_istore_n dX10_partAt_1 rfl (Nat.le_of_ble_eq_true rfl) (L' := [some (aR 84), some (aI (-1)), none]) rfl ?_
  refine y_iconst dX10_partAt_2 (by decide) ?_
  refine y_istore_n dX10_partAt_3 rfl (Nat.le_of_ble_eq_true rfl) (L' := [some (aR 84), some (aI (-1)), some (aI 0)]) rfl ?_
  exact tX10_partAt_4 hM σ FU (-1) 0
theorem qX10_partAt {K : Kt} (hM : mLay K) (σ : Sg) : Cc MX10_partAt K [aR 84] σ (emI K σ) (vX10_partAt σ) := cc_of plX10 (Nat.le_of_ble_eq_true rfl) (fun o _ => ⟨Nat.le_refl _, Nat.le_refl _⟩) (fun Γ => tX10_partAt hM σ)
noncomputable def vX10_orderPartAt_4 (σ : Sg) : Nat → Int → Int → Option (Int)
  | 0, _, _ => none
  | f + 1, x1, x2 => if x2 < 7 then (ck (0 ≤ x2 ∧ x2 < 7) ((vX10_isWord (σ 100 x2.toNat) σ).bind (fun r2 => if r2 = 0 then (ck (in32 (x2 + 1)) (vX10_orderPartAt_4 σ f x1 (x2 + 1))) else (ck (in32 (x2 + 1)) (nm (x2 + 1) (fun z4 => ck (in32 (x2 + 1)) (vX10_orderPartAt_4 σ f z4 (x2 + 1)))))))) else (some x1)
set_option maxRecDepth 100000 in
theorem tX10_orderPartAt_4 {Γ : Gx} {K : Kt} (hM : mLay K) (σ : Sg)  : ∀ (f : Nat) (x1 x2 : Int), Y Γ MX10_orderPartAt K (emI K σ) K 4 [some (aR 84), some (aI x1), some (aI x2)] [] σ (vX10_orderPartAt_4 σ f x1 x2) := by
  intro f
  induction f with
  | zero => intro x1 x2; exact y_none
  | succ f ih =>
    intro x1 x2
    rw [vX10_orderPartAt_4]
    refine y_iload_n dX10_orderPartAt_4 rfl rfl ?_
    refine y_bipush dX10_orderPartAt_5 (by decide) (by decide) ?_
    refine y_ite (fun h1 => ?_) (fun h1 => ?_)
    · refine y_icmp_ge_f dX10_orderPartAt_7 (t := 37) rfl h1 ?_
      refine y_aload_n dX10_orderPartAt_10 rfl rfl ?_
      refine y_aload_n dX10_orderPartAt_11 rfl rfl ?_
      refine y_getR fX10_87 hM.1 rfl (lM_32 hM).1 dX10_orderPartAt_12 ?_
      refine y_iload_n dX10_orderPartAt_15 rfl rfl ?_
      refine yk_laload (lM_32 hM).2 (N := 7) rfl (j := x2.toNat) rfl dX10_orderPartAt_16 ?_
      refine y_cvI (qX10_isWord hM (σ 100 x2.toNat) σ) kX10_280 rfl hM.1 rfl (by decide) rfl (Nat.le_of_ble_eq_true rfl) dX10_orderPartAt_17 (fun r2 => ?_)
      refine y_ite (fun h3 => ?_) (fun h3 => ?_)
      · refine y_if_eq_t dX10_orderPartAt_20 (t := 29) rfl h3 ?_
        refine y_iload_n dX10_orderPartAt_29 rfl rfl ?_
        refine y_istore_n dX10_orderPartAt_30 rfl (Nat.le_of_ble_eq_true rfl) (L' := [some (aR 84), some (aI x1), some (aI x2)]) rfl ?_
        refine yk_iinc dX10_orderPartAt_31 rfl (L' := [some (aR 84), some (aI x1), some (aI (x2 + 1))]) rfl ?_
        refine y_goto dX10_orderPartAt_34 (t := 4) rfl ?_
        exact ih x1 (x2 + 1)
      · refine y_if_eq_f dX10_orderPartAt_20 (t := 29) rfl h3 ?_
        refine y_iload_n dX10_orderPartAt_23 rfl rfl ?_
        refine y_iconst dX10_orderPartAt_24 (by decide) ?_
        refine yk_iadd dX10_orderPartAt_25 ?_
        refine y_goto dX10_orderPartAt_26 (t := 30) rfl ?_
        refine yn_istore_n dX10_orderPartAt_30 rfl (Nat.le_of_ble_eq_true rfl) (L' := fun z4 => [some (aR 84), some (aI z4), some (aI x2)]) (fun _ => rfl) (fun z4 => ?_)
        refine yk_iinc dX10_orderPartAt_31 rfl (L' := [some (aR 84), some (aI z4), some (aI (x2 + 1))]) rfl ?_
        refine y_goto dX10_orderPartAt_34 (t := 4) rfl ?_
        exact ih z4 (x2 + 1)
    · refine y_icmp_ge_t dX10_orderPartAt_7 (t := 37) rfl h1 ?_
      refine y_iload_n dX10_orderPartAt_37 rfl rfl ?_
      exact y_iret rfl rfl dX10_orderPartAt_38
noncomputable def vX10_orderPartAt (σ : Sg) : Option (Int) := vX10_orderPartAt_4 σ FU (-1) 0
set_option maxRecDepth 100000 in
theorem tX10_orderPartAt {Γ : Gx} {K : Kt} (hM : mLay K) (σ : Sg) : Y Γ MX10_orderPartAt K (emI K σ) K 0 [some (aR 84), none, none] [] σ (vX10_orderPartAt σ) := by
  unfold vX10_orderPartAt
  refine y_iconst dX10_orderPartAt_0 (by decide) ?_
  refine y_istore_n dX10_orderPartAt_1 rfl (Nat.le_of_ble_eq_true rfl) (L' := [some (aR 84), some (aI (-1)), none]) rfl ?_
  refine y_iconst dX10_orderPartAt_2 (by decide) ?_
  refine y_istore_n dX10_orderPartAt_3 rfl (Nat.le_of_ble_eq_true rfl) (L' := [some (aR 84), some (aI (-1)), some (aI 0)]) rfl ?_
  exact tX10_orderPartAt_4 hM σ FU (-1) 0
theorem qX10_orderPartAt {K : Kt} (hM : mLay K) (σ : Sg) : Cc MX10_orderPartAt K [aR 84] σ (emI K σ) (vX10_orderPartAt σ) := cc_of plX10 (Nat.le_of_ble_eq_true rfl) (fun o _ => ⟨Nat.le_refl _, Nat.le_refl _⟩) (fun Γ => tX10_orderPartAt hM σ)
noncomputable def vX10_openBracket_15 (x1 y1 : Int) (σ : Sg) : Option (Sg) := (vX10_must y1 σ).bind (fun σ1 => if (σ1 84 19) = 0 then (ck (in32 ((σ1 84 30) + 1)) (nm (up2 σ1 84 30 ((σ1 84 30) + 1)) (fun σ3 => (vX10_push x1 0 σ3).bind (fun σ4 => some σ4)))) else (some σ1))
set_option maxRecDepth 100000 in
theorem tX10_openBracket_15 {Γ : Gx} {K : Kt} (hM : mLay K)  (x1 y1 : Int) (σ : Sg) : Y Γ MX10_openBracket K (emV K) K 15 [some (aR 84), some (aI x1)] [aI y1, aR 84] σ (vX10_openBracket_15 x1 y1 σ) := by
  unfold vX10_openBracket_15
  refine y_cvV (qX10_must hM y1 σ) kX10_257 rfl hM.1 rfl (by decide) rfl (Nat.le_of_ble_eq_true rfl) dX10_openBracket_15 (fun σ1 => ?_)
  refine y_aload_n dX10_openBracket_18 rfl rfl ?_
  refine y_getI fX10_224 hM.1 rfl dX10_openBracket_19 ?_
  refine y_ite (fun h2 => ?_) (fun h2 => ?_)
  · refine y_if_ne_f dX10_openBracket_22 (t := 41) rfl h2 ?_
    refine y_aload_n dX10_openBracket_25 rfl rfl ?_
    refine y_dup dX10_openBracket_26 (fun _ => rfl) ?_
    refine y_getI fX10_284 hM.1 rfl dX10_openBracket_27 ?_
    refine y_iconst dX10_openBracket_30 (by decide) ?_
    refine yk_iadd dX10_openBracket_31 ?_
    refine yn_putI fX10_284 hM.1 rfl rfl dX10_openBracket_32 (fun σ3 => ?_)
    refine y_aload_n dX10_openBracket_35 rfl rfl ?_
    refine y_iload_n dX10_openBracket_36 rfl rfl ?_
    refine y_iconst dX10_openBracket_37 (by decide) ?_
    refine y_cvV (qX10_push hM x1 0 σ3) kX10_287 rfl hM.1 rfl (by decide) rfl (Nat.le_of_ble_eq_true rfl) dX10_openBracket_38 (fun σ4 => ?_)
    exact y_vret rfl rfl dX10_openBracket_41
  · refine y_if_ne_t dX10_openBracket_22 (t := 41) rfl h2 ?_
    exact y_vret rfl rfl dX10_openBracket_41
noncomputable def vX10_openBracket (p1 : Int) (σ : Sg) : Option (Sg) := if (σ 84 30) < 8 then (vX10_openBracket_15 p1 1 σ) else (vX10_openBracket_15 p1 0 σ)
set_option maxRecDepth 100000 in
theorem tX10_openBracket {Γ : Gx} {K : Kt} (hM : mLay K) (p1 : Int) (σ : Sg) : Y Γ MX10_openBracket K (emV K) K 0 [some (aR 84), some (aI p1)] [] σ (vX10_openBracket p1 σ) := by
  unfold vX10_openBracket
  refine y_aload_n dX10_openBracket_0 rfl rfl ?_
  refine y_aload_n dX10_openBracket_1 rfl rfl ?_
  refine y_getI fX10_284 hM.1 rfl dX10_openBracket_2 ?_
  refine y_bipush dX10_openBracket_5 (by decide) (by decide) ?_
  refine y_ite (fun h1 => ?_) (fun h1 => ?_)
  · refine y_icmp_ge_f dX10_openBracket_7 (t := 14) rfl h1 ?_
    refine y_iconst dX10_openBracket_10 (by decide) ?_
    refine y_goto dX10_openBracket_11 (t := 15) rfl ?_
    exact tX10_openBracket_15 hM p1 1 σ
  · refine y_icmp_ge_t dX10_openBracket_7 (t := 14) rfl h1 ?_
    refine y_iconst dX10_openBracket_14 (by decide) ?_
    exact tX10_openBracket_15 hM p1 0 σ
theorem qX10_openBracket {K : Kt} (hM : mLay K) (p1 : Int) (σ : Sg) : Cc MX10_openBracket K [aR 84, aI p1] σ (emV K) (vX10_openBracket p1 σ) := cc_of plX10 (Nat.le_of_ble_eq_true rfl) (fun o _ => ⟨Nat.le_refl _, Nat.le_refl _⟩) (fun Γ => tX10_openBracket hM p1 σ)
noncomputable def vX10_leaf_19 (x2 x3 y1 : Int) (σ : Sg) : Option (Sg) := (vX10_must y1 σ).bind (fun σ1 => if (σ1 84 19) = 0 then ((vX10_emit x2 x3 σ1).bind (fun σ3 => ck (in32 ((σ3 84 26) + 1)) (nm (up2 σ3 84 26 ((σ3 84 26) + 1)) (fun σ4 => some σ4)))) else (some σ1))
set_option maxRecDepth 100000 in
theorem tX10_leaf_19 {Γ : Gx} {K : Kt} (hM : mLay K)  (x2 x3 y1 : Int) (σ : Sg) : Y Γ MX10_leaf K (emV K) K 19 [some (aR 84), none, some (aI x2), some (aI x3)] [aI y1, aR 84] σ (vX10_leaf_19 x2 x3 y1 σ) := by
  unfold vX10_leaf_19
  refine y_cvV (qX10_must hM y1 σ) kX10_257 rfl hM.1 rfl (by decide) rfl (Nat.le_of_ble_eq_true rfl) dX10_leaf_19 (fun σ1 => ?_)
  refine y_aload_n dX10_leaf_22 rfl rfl ?_
  refine y_getI fX10_224 hM.1 rfl dX10_leaf_23 ?_
  refine y_ite (fun h2 => ?_) (fun h2 => ?_)
  · refine y_if_ne_f dX10_leaf_26 (t := 45) rfl h2 ?_
    refine y_aload_n dX10_leaf_29 rfl rfl ?_
    refine y_iload_n dX10_leaf_30 rfl rfl ?_
    refine y_iload_n dX10_leaf_31 rfl rfl ?_
    refine y_cvV (qX10_emit hM x2 x3 σ1) kX10_270 rfl hM.1 rfl (by decide) rfl (Nat.le_of_ble_eq_true rfl) dX10_leaf_32 (fun σ3 => ?_)
    refine y_aload_n dX10_leaf_35 rfl rfl ?_
    refine y_dup dX10_leaf_36 (fun _ => rfl) ?_
    refine y_getI fX10_290 hM.1 rfl dX10_leaf_37 ?_
    refine y_iconst dX10_leaf_40 (by decide) ?_
    refine yk_iadd dX10_leaf_41 ?_
    refine yn_putI fX10_290 hM.1 rfl rfl dX10_leaf_42 (fun σ4 => ?_)
    exact y_vret rfl rfl dX10_leaf_45
  · refine y_if_ne_t dX10_leaf_26 (t := 45) rfl h2 ?_
    exact y_vret rfl rfl dX10_leaf_45
noncomputable def vX10_leaf_18 (x2 x3 : Int) (σ : Sg) : Option (Sg) := vX10_leaf_19 x2 x3 0 σ
set_option maxRecDepth 100000 in
theorem tX10_leaf_18 {Γ : Gx} {K : Kt} (hM : mLay K)  (x2 x3 : Int) (σ : Sg) : Y Γ MX10_leaf K (emV K) K 18 [some (aR 84), none, some (aI x2), some (aI x3)] [aR 84] σ (vX10_leaf_18 x2 x3 σ) := by
  unfold vX10_leaf_18
  refine y_iconst dX10_leaf_18 (by decide) ?_
  exact tX10_leaf_19 hM x2 x3 0 σ
noncomputable def vX10_leaf (p1 : Int) (p2 : Int) (p3 : Int) (σ : Sg) : Option (Sg) := if p1 = 0 then (vX10_leaf_18 p2 p3 σ) else (if (σ 84 26) < 50 then (vX10_leaf_19 p2 p3 1 σ) else (vX10_leaf_18 p2 p3 σ))
set_option maxRecDepth 100000 in
theorem tX10_leaf {Γ : Gx} {K : Kt} (hM : mLay K) (p1 : Int) (p2 : Int) (p3 : Int) (σ : Sg) : Y Γ MX10_leaf K (emV K) K 0 [some (aR 84), some (aI p1), some (aI p2), some (aI p3)] [] σ (vX10_leaf p1 p2 p3 σ) := by
  unfold vX10_leaf
  refine y_aload_n dX10_leaf_0 rfl rfl ?_
  refine y_iload_n dX10_leaf_1 rfl rfl ?_
  refine y_ite (fun h1 => ?_) (fun h1 => ?_)
  · refine y_if_eq_t dX10_leaf_2 (t := 18) rfl h1 ?_
    refine y_fg [true, false, true, true] (L' := [some (aR 84), none, some (aI p2), some (aI p3)]) rfl ?_
    exact tX10_leaf_18 hM p2 p3 σ
  · refine y_if_eq_f dX10_leaf_2 (t := 18) rfl h1 ?_
    refine y_aload_n dX10_leaf_5 rfl rfl ?_
    refine y_getI fX10_290 hM.1 rfl dX10_leaf_6 ?_
    refine y_bipush dX10_leaf_9 (by decide) (by decide) ?_
    refine y_ite (fun h2 => ?_) (fun h2 => ?_)
    · refine y_icmp_ge_f dX10_leaf_11 (t := 18) rfl h2 ?_
      refine y_iconst dX10_leaf_14 (by decide) ?_
      refine y_goto dX10_leaf_15 (t := 19) rfl ?_
      refine y_fg [true, false, true, true] (L' := [some (aR 84), none, some (aI p2), some (aI p3)]) rfl ?_
      exact tX10_leaf_19 hM p2 p3 1 σ
    · refine y_icmp_ge_t dX10_leaf_11 (t := 18) rfl h2 ?_
      refine y_fg [true, false, true, true] (L' := [some (aR 84), none, some (aI p2), some (aI p3)]) rfl ?_
      exact tX10_leaf_18 hM p2 p3 σ
theorem qX10_leaf {K : Kt} (hM : mLay K) (p1 : Int) (p2 : Int) (p3 : Int) (σ : Sg) : Cc MX10_leaf K [aR 84, aI p1, aI p2, aI p3] σ (emV K) (vX10_leaf p1 p2 p3 σ) := cc_of plX10 (Nat.le_of_ble_eq_true rfl) (fun o _ => ⟨Nat.le_refl _, Nat.le_refl _⟩) (fun Γ => tX10_leaf hM p1 p2 p3 σ)
noncomputable def vX10_readPart_150 (y1 y3 y4 : Int) (σ : Sg) : Option (Int × Sg) := bd2 (vX10_number y3 y4 σ) (fun r1 σ2 => ck (0 ≤ y1 ∧ y1 < 400) (nm (up2 σ2 96 y1.toNat r1) (fun σ3 => some (3, σ3))))
set_option maxRecDepth 100000 in
theorem tX10_readPart_150 {Γ : Gx} {K : Kt} (hM : mLay K)  (y1 y3 y4 : Int) (σ : Sg) : Y Γ MX10_readPart K (emIS K) K 150 [none, none, none, none] [aL y4, aL y3, aR 84, aI y1, aR 96] σ (vX10_readPart_150 y1 y3 y4 σ) := by
  unfold vX10_readPart_150
  refine y_cvIS (qX10_number hM y3 y4 σ) kX10_319 rfl hM.1 rfl (by decide) rfl (Nat.le_of_ble_eq_true rfl) dX10_readPart_150 (fun r1 σ2 => ?_)
  refine yk_iastore (lM_25 hM).2 (N := 400) rfl (j := y1.toNat) rfl dX10_readPart_153 (fun σ3 => ?_)
  refine y_iconst dX10_readPart_154 (by decide) ?_
  exact y_iret rfl rfl dX10_readPart_155
noncomputable def vX10_readPart_99 (x1 y1 y2 y3 : Int) (σ : Sg) : Option (Int × Sg) := (vX10_leaf y1 y2 y3 σ).bind (fun σ1 => if (σ1 84 20) = 0 then (some (3, σ1)) else (if x1 < 5 then (some (3, σ1)) else (if (σ1 84 19) = 0 then (ck (in32 ((σ1 84 23) - 1)) (nm ((σ1 84 23) - 1) (fun z5 => if x1 = 7 then (vX10_readPart_150 z5 0 7 σ1) else (vX10_readPart_150 z5 0 5 σ1)))) else (some (3, σ1)))))
set_option maxRecDepth 100000 in
theorem tX10_readPart_99 {Γ : Gx} {K : Kt} (hM : mLay K)  (x1 y1 y2 y3 : Int) (σ : Sg) : Y Γ MX10_readPart K (emIS K) K 99 [some (aR 84), some (aI x1), none, none] [aI y3, aI y2, aI y1, aR 84] σ (vX10_readPart_99 x1 y1 y2 y3 σ) := by
  unfold vX10_readPart_99
  refine y_cvV (qX10_leaf hM y1 y2 y3 σ) kX10_311 rfl hM.1 rfl (by decide) rfl (Nat.le_of_ble_eq_true rfl) dX10_readPart_99 (fun σ1 => ?_)
  refine y_aload_n dX10_readPart_102 rfl rfl ?_
  refine y_getI fX10_299 hM.1 rfl dX10_readPart_103 ?_
  refine y_ite (fun h2 => ?_) (fun h2 => ?_)
  · refine y_if_eq_t dX10_readPart_106 (t := 154) rfl h2 ?_
    refine y_iconst dX10_readPart_154 (by decide) ?_
    exact y_iret rfl rfl dX10_readPart_155
  · refine y_if_eq_f dX10_readPart_106 (t := 154) rfl h2 ?_
    refine y_iload_n dX10_readPart_109 rfl rfl ?_
    refine y_iconst dX10_readPart_110 (by decide) ?_
    refine y_ite (fun h3 => ?_) (fun h3 => ?_)
    · refine y_icmp_lt_t dX10_readPart_111 (t := 154) rfl h3 ?_
      refine y_iconst dX10_readPart_154 (by decide) ?_
      exact y_iret rfl rfl dX10_readPart_155
    · refine y_icmp_lt_f dX10_readPart_111 (t := 154) rfl h3 ?_
      refine y_aload_n dX10_readPart_114 rfl rfl ?_
      refine y_getI fX10_224 hM.1 rfl dX10_readPart_115 ?_
      refine y_ite (fun h4 => ?_) (fun h4 => ?_)
      · refine y_if_ne_f dX10_readPart_118 (t := 154) rfl h4 ?_
        refine y_aload_n dX10_readPart_121 rfl rfl ?_
        refine y_getI fX10_261 hM.1 rfl dX10_readPart_122 ?_
        refine y_iconst dX10_readPart_125 (by decide) ?_
        refine yk_isub dX10_readPart_126 ?_
        refine yn_istore_n dX10_readPart_127 rfl (Nat.le_of_ble_eq_true rfl) (L' := fun z5 => [some (aR 84), some (aI x1), none, some (aI z5)]) (fun _ => rfl) (fun z5 => ?_)
        refine y_aload_n dX10_readPart_128 rfl rfl ?_
        refine y_getR fX10_48 hM.1 rfl (lM_25 hM).1 dX10_readPart_129 ?_
        refine y_iload_n dX10_readPart_132 rfl rfl ?_
        refine y_aload_n dX10_readPart_133 rfl rfl ?_
        refine y_lconst 0 dX10_readPart_134 (by decide) (by decide) ?_
        refine y_iload_n dX10_readPart_135 rfl rfl ?_
        refine y_bipush dX10_readPart_136 (by decide) (by decide) ?_
        refine y_ite (fun h6 => ?_) (fun h6 => ?_)
        · refine y_icmp_ne_f dX10_readPart_138 (t := 147) rfl h6 ?_
          refine y_ldc2 7 wX10_c315 dX10_readPart_141 (by decide) (by decide) ?_
          refine y_goto dX10_readPart_144 (t := 150) rfl ?_
          refine y_fg [false, false, false, false] (L' := [none, none, none, none]) rfl ?_
          exact tX10_readPart_150 hM z5 0 7 σ1
        · refine y_icmp_ne_t dX10_readPart_138 (t := 147) rfl h6 ?_
          refine y_ldc2 5 wX10_c317 dX10_readPart_147 (by decide) (by decide) ?_
          refine y_fg [false, false, false, false] (L' := [none, none, none, none]) rfl ?_
          exact tX10_readPart_150 hM z5 0 5 σ1
      · refine y_if_ne_t dX10_readPart_118 (t := 154) rfl h4 ?_
        refine y_iconst dX10_readPart_154 (by decide) ?_
        exact y_iret rfl rfl dX10_readPart_155
noncomputable def vX10_readPart_86 (x1 x2 y1 y2 : Int) (σ : Sg) : Option (Int × Sg) := if x2 = 0 then (vX10_readPart_99 x1 y1 y2 0 σ) else (vX10_readPart_99 x1 y1 y2 (w32 (σ 84 17)) σ)
set_option maxRecDepth 100000 in
theorem tX10_readPart_86 {Γ : Gx} {K : Kt} (hM : mLay K)  (x1 x2 y1 y2 : Int) (σ : Sg) : Y Γ MX10_readPart K (emIS K) K 86 [some (aR 84), some (aI x1), some (aI x2), none] [aI y2, aI y1, aR 84] σ (vX10_readPart_86 x1 x2 y1 y2 σ) := by
  unfold vX10_readPart_86
  refine y_iload_n dX10_readPart_86 rfl rfl ?_
  refine y_ite (fun h1 => ?_) (fun h1 => ?_)
  · refine y_if_eq_t dX10_readPart_87 (t := 98) rfl h1 ?_
    refine y_iconst dX10_readPart_98 (by decide) ?_
    refine y_fg [true, true, false, false] (L' := [some (aR 84), some (aI x1), none, none]) rfl ?_
    exact tX10_readPart_99 hM x1 y1 y2 0 σ
  · refine y_if_eq_f dX10_readPart_87 (t := 98) rfl h1 ?_
    refine y_aload_n dX10_readPart_90 rfl rfl ?_
    refine y_getJ fX10_234 hM.1 rfl dX10_readPart_91 ?_
    refine y_l2i dX10_readPart_94 ?_
    refine y_goto dX10_readPart_95 (t := 99) rfl ?_
    refine y_fg [true, true, false, false] (L' := [some (aR 84), some (aI x1), none, none]) rfl ?_
    exact tX10_readPart_99 hM x1 y1 y2 (w32 (σ 84 17)) σ
noncomputable def vX10_readPart_76 (x1 x2 y1 : Int) (σ : Sg) : Option (Int × Sg) := if x1 = (-1) then (vX10_readPart_86 x1 x2 y1 0 σ) else (vX10_readPart_86 x1 x2 y1 x1 σ)
set_option maxRecDepth 100000 in
theorem tX10_readPart_76 {Γ : Gx} {K : Kt} (hM : mLay K)  (x1 x2 y1 : Int) (σ : Sg) : Y Γ MX10_readPart K (emIS K) K 76 [some (aR 84), some (aI x1), some (aI x2), none] [aI y1, aR 84] σ (vX10_readPart_76 x1 x2 y1 σ) := by
  unfold vX10_readPart_76
  refine y_iload_n dX10_readPart_76 rfl rfl ?_
  refine y_iconst dX10_readPart_77 (by decide) ?_
  refine y_ite (fun h1 => ?_) (fun h1 => ?_)
  · refine y_icmp_ne_f dX10_readPart_78 (t := 85) rfl h1 ?_
    refine y_iconst dX10_readPart_81 (by decide) ?_
    refine y_goto dX10_readPart_82 (t := 86) rfl ?_
    exact tX10_readPart_86 hM x1 x2 y1 0 σ
  · refine y_icmp_ne_t dX10_readPart_78 (t := 85) rfl h1 ?_
    refine y_iload_n dX10_readPart_85 rfl rfl ?_
    exact tX10_readPart_86 hM x1 x2 y1 x1 σ
noncomputable def vX10_readPart_71 (x1 x2 : Int) (σ : Sg) : Option (Int × Sg) := vX10_readPart_76 x1 x2 1 σ
set_option maxRecDepth 100000 in
theorem tX10_readPart_71 {Γ : Gx} {K : Kt} (hM : mLay K)  (x1 x2 : Int) (σ : Sg) : Y Γ MX10_readPart K (emIS K) K 71 [some (aR 84), some (aI x1), some (aI x2), none] [aR 84] σ (vX10_readPart_71 x1 x2 σ) := by
  unfold vX10_readPart_71
  refine y_iconst dX10_readPart_71 (by decide) ?_
  refine y_goto dX10_readPart_72 (t := 76) rfl ?_
  exact tX10_readPart_76 hM x1 x2 1 σ
noncomputable def vX10_readPart_60 (x1 y0 : Int) (σ : Sg) : Option (Int × Sg) := if x1 = (-1) then (if y0 = 0 then (vX10_readPart_76 x1 y0 0 σ) else (vX10_readPart_71 x1 y0 σ)) else (vX10_readPart_71 x1 y0 σ)
set_option maxRecDepth 100000 in
theorem tX10_readPart_60 {Γ : Gx} {K : Kt} (hM : mLay K)  (x1 y0 : Int) (σ : Sg) : Y Γ MX10_readPart K (emIS K) K 60 [some (aR 84), some (aI x1), none, none] [aI y0] σ (vX10_readPart_60 x1 y0 σ) := by
  unfold vX10_readPart_60
  refine y_istore_n dX10_readPart_60 rfl (Nat.le_of_ble_eq_true rfl) (L' := [some (aR 84), some (aI x1), some (aI y0), none]) rfl ?_
  refine y_aload_n dX10_readPart_61 rfl rfl ?_
  refine y_iload_n dX10_readPart_62 rfl rfl ?_
  refine y_iconst dX10_readPart_63 (by decide) ?_
  refine y_ite (fun h1 => ?_) (fun h1 => ?_)
  · refine y_icmp_ne_f dX10_readPart_64 (t := 71) rfl h1 ?_
    refine y_iload_n dX10_readPart_67 rfl rfl ?_
    refine y_ite (fun h2 => ?_) (fun h2 => ?_)
    · refine y_if_eq_t dX10_readPart_68 (t := 75) rfl h2 ?_
      refine y_iconst dX10_readPart_75 (by decide) ?_
      exact tX10_readPart_76 hM x1 y0 0 σ
    · refine y_if_eq_f dX10_readPart_68 (t := 75) rfl h2 ?_
      exact tX10_readPart_71 hM x1 y0 σ
  · refine y_icmp_ne_t dX10_readPart_64 (t := 71) rfl h1 ?_
    exact tX10_readPart_71 hM x1 y0 σ
noncomputable def vX10_readPart_59 (x1 : Int) (σ : Sg) : Option (Int × Sg) := vX10_readPart_60 x1 0 σ
set_option maxRecDepth 100000 in
theorem tX10_readPart_59 {Γ : Gx} {K : Kt} (hM : mLay K)  (x1 : Int) (σ : Sg) : Y Γ MX10_readPart K (emIS K) K 59 [some (aR 84), some (aI x1), none, none] [] σ (vX10_readPart_59 x1 σ) := by
  unfold vX10_readPart_59
  refine y_iconst dX10_readPart_59 (by decide) ?_
  exact tX10_readPart_60 hM x1 0 σ
noncomputable def vX10_readPart_35 (y0 : Int) (σ : Sg) : Option (Int × Sg) := if (σ 84 16) = 2 then (if 1000 < (σ 84 17) then (vX10_readPart_59 y0 σ) else (vX10_readPart_60 y0 1 σ)) else (vX10_readPart_59 y0 σ)
set_option maxRecDepth 100000 in
theorem tX10_readPart_35 {Γ : Gx} {K : Kt} (hM : mLay K)  (y0 : Int) (σ : Sg) : Y Γ MX10_readPart K (emIS K) K 35 [some (aR 84), none, none, none] [aI y0] σ (vX10_readPart_35 y0 σ) := by
  unfold vX10_readPart_35
  refine y_istore_n dX10_readPart_35 rfl (Nat.le_of_ble_eq_true rfl) (L' := [some (aR 84), some (aI y0), none, none]) rfl ?_
  refine y_aload_n dX10_readPart_36 rfl rfl ?_
  refine y_getI fX10_244 hM.1 rfl dX10_readPart_37 ?_
  refine y_iconst dX10_readPart_40 (by decide) ?_
  refine y_ite (fun h1 => ?_) (fun h1 => ?_)
  · refine y_icmp_ne_f dX10_readPart_41 (t := 59) rfl h1 ?_
    refine y_aload_n dX10_readPart_44 rfl rfl ?_
    refine y_getJ fX10_234 hM.1 rfl dX10_readPart_45 ?_
    refine y_ldc2 1000 wX10_c309 dX10_readPart_48 (by decide) (by decide) ?_
    refine y_lcmp dX10_readPart_51 ?_
    refine y_ite (fun h2 => ?_) (fun h2 => ?_)
    · refine y_if_gt_t dX10_readPart_52 (t := 59) rfl (cmp3_gt.mpr h2) ?_
      exact tX10_readPart_59 hM y0 σ
    · refine y_if_gt_f dX10_readPart_52 (t := 59) rfl (fun z => h2 (cmp3_gt.mp z)) ?_
      refine y_iconst dX10_readPart_55 (by decide) ?_
      refine y_goto dX10_readPart_56 (t := 60) rfl ?_
      exact tX10_readPart_60 hM y0 1 σ
  · refine y_icmp_ne_t dX10_readPart_41 (t := 59) rfl h1 ?_
    exact tX10_readPart_59 hM y0 σ
noncomputable def vX10_readPart (σ : Sg) : Option (Int × Sg) := (vX10_isSign 91 σ).bind (fun r1 => if r1 = 0 then (if (σ 84 20) = 0 then ((vX10_partAt σ).bind (fun r4 => vX10_readPart_35 r4 σ)) else ((vX10_orderPartAt σ).bind (fun r5 => vX10_readPart_35 r5 σ))) else ((vX10_openBracket 32 σ).bind (fun σ6 => some (1, σ6))))
set_option maxRecDepth 100000 in
theorem tX10_readPart {Γ : Gx} {K : Kt} (hM : mLay K) (σ : Sg) : Y Γ MX10_readPart K (emIS K) K 0 [some (aR 84), none, none, none] [] σ (vX10_readPart σ) := by
  unfold vX10_readPart
  refine y_aload_n dX10_readPart_0 rfl rfl ?_
  refine y_bipush dX10_readPart_1 (by decide) (by decide) ?_
  refine y_cvI (qX10_isSign hM 91 σ) kX10_293 rfl hM.1 rfl (by decide) rfl (Nat.le_of_ble_eq_true rfl) dX10_readPart_3 (fun r1 => ?_)
  refine y_ite (fun h2 => ?_) (fun h2 => ?_)
  · refine y_if_eq_t dX10_readPart_6 (t := 17) rfl h2 ?_
    refine y_aload_n dX10_readPart_17 rfl rfl ?_
    refine y_getI fX10_299 hM.1 rfl dX10_readPart_18 ?_
    refine y_ite (fun h3 => ?_) (fun h3 => ?_)
    · refine y_if_eq_t dX10_readPart_21 (t := 31) rfl h3 ?_
      refine y_aload_n dX10_readPart_31 rfl rfl ?_
      refine y_cvI (qX10_partAt hM σ) kX10_306 rfl hM.1 rfl (by decide) rfl (Nat.le_of_ble_eq_true rfl) dX10_readPart_32 (fun r4 => ?_)
      exact tX10_readPart_35 hM r4 σ
    · refine y_if_eq_f dX10_readPart_21 (t := 31) rfl h3 ?_
      refine y_aload_n dX10_readPart_24 rfl rfl ?_
      refine y_cvI (qX10_orderPartAt hM σ) kX10_302 rfl hM.1 rfl (by decide) rfl (Nat.le_of_ble_eq_true rfl) dX10_readPart_25 (fun r5 => ?_)
      refine y_goto dX10_readPart_28 (t := 35) rfl ?_
      exact tX10_readPart_35 hM r5 σ
  · refine y_if_eq_f dX10_readPart_6 (t := 17) rfl h2 ?_
    refine y_aload_n dX10_readPart_9 rfl rfl ?_
    refine y_bipush dX10_readPart_10 (by decide) (by decide) ?_
    refine y_cvV (qX10_openBracket hM 32 σ) kX10_296 rfl hM.1 rfl (by decide) rfl (Nat.le_of_ble_eq_true rfl) dX10_readPart_12 (fun σ6 => ?_)
    refine y_iconst dX10_readPart_15 (by decide) ?_
    exact y_iret rfl rfl dX10_readPart_16
theorem qX10_readPart {K : Kt} (hM : mLay K) (σ : Sg) : Cc MX10_readPart K [aR 84] σ (emIS K) (vX10_readPart σ) := cc_of plX10 (Nat.le_of_ble_eq_true rfl) (fun o _ => ⟨Nat.le_refl _, Nat.le_refl _⟩) (fun Γ => tX10_readPart hM σ)
noncomputable def vX10_readPlain (σ : Sg) : Option (Int × Sg) := (vX10_isWord 14836 σ).bind (fun r1 => if r1 = 0 then ((vX10_isSign 40 σ).bind (fun r3 => if r3 = 0 then (bd2 (vX10_readPart σ) (fun r5 σ6 => some (r5, σ6))) else ((vX10_openBracket 31 σ).bind (fun σ7 => some (0, σ7))))) else ((vX10_push 28 0 σ).bind (fun σ8 => (vX10_next σ8).bind (fun σ9 => some (0, σ9)))))
set_option maxRecDepth 100000 in
theorem tX10_readPlain {Γ : Gx} {K : Kt} (hM : mLay K) (σ : Sg) : Y Γ MX10_readPlain K (emIS K) K 0 [some (aR 84)] [] σ (vX10_readPlain σ) := by
  unfold vX10_readPlain
  refine y_aload_n dX10_readPlain_0 rfl rfl ?_
  refine y_ldc2 14836 wX10_c323 dX10_readPlain_1 (by decide) (by decide) ?_
  refine y_cvI (qX10_isWord hM 14836 σ) kX10_280 rfl hM.1 rfl (by decide) rfl (Nat.le_of_ble_eq_true rfl) dX10_readPlain_4 (fun r1 => ?_)
  refine y_ite (fun h2 => ?_) (fun h2 => ?_)
  · refine y_if_eq_t dX10_readPlain_7 (t := 23) rfl h2 ?_
    refine y_aload_n dX10_readPlain_23 rfl rfl ?_
    refine y_bipush dX10_readPlain_24 (by decide) (by decide) ?_
    refine y_cvI (qX10_isSign hM 40 σ) kX10_293 rfl hM.1 rfl (by decide) rfl (Nat.le_of_ble_eq_true rfl) dX10_readPlain_26 (fun r3 => ?_)
    refine y_ite (fun h4 => ?_) (fun h4 => ?_)
    · refine y_if_eq_t dX10_readPlain_29 (t := 40) rfl h4 ?_
      refine y_aload_n dX10_readPlain_40 rfl rfl ?_
      refine y_cvIS (qX10_readPart hM σ) kX10_325 rfl hM.1 rfl (by decide) rfl (Nat.le_of_ble_eq_true rfl) dX10_readPlain_41 (fun r5 σ6 => ?_)
      exact y_iret rfl rfl dX10_readPlain_44
    · refine y_if_eq_f dX10_readPlain_29 (t := 40) rfl h4 ?_
      refine y_aload_n dX10_readPlain_32 rfl rfl ?_
      refine y_bipush dX10_readPlain_33 (by decide) (by decide) ?_
      refine y_cvV (qX10_openBracket hM 31 σ) kX10_296 rfl hM.1 rfl (by decide) rfl (Nat.le_of_ble_eq_true rfl) dX10_readPlain_35 (fun σ7 => ?_)
      refine y_iconst dX10_readPlain_38 (by decide) ?_
      exact y_iret rfl rfl dX10_readPlain_39
  · refine y_if_eq_f dX10_readPlain_7 (t := 23) rfl h2 ?_
    refine y_aload_n dX10_readPlain_10 rfl rfl ?_
    refine y_bipush dX10_readPlain_11 (by decide) (by decide) ?_
    refine y_iconst dX10_readPlain_13 (by decide) ?_
    refine y_cvV (qX10_push hM 28 0 σ) kX10_287 rfl hM.1 rfl (by decide) rfl (Nat.le_of_ble_eq_true rfl) dX10_readPlain_14 (fun σ8 => ?_)
    refine y_aload_n dX10_readPlain_17 rfl rfl ?_
    refine y_cvV (qX10_next hM σ8) kX10_228 rfl hM.1 rfl (by decide) rfl (Nat.le_of_ble_eq_true rfl) dX10_readPlain_18 (fun σ9 => ?_)
    refine y_iconst dX10_readPlain_21 (by decide) ?_
    exact y_iret rfl rfl dX10_readPlain_22
theorem qX10_readPlain {K : Kt} (hM : mLay K) (σ : Sg) : Cc MX10_readPlain K [aR 84] σ (emIS K) (vX10_readPlain σ) := cc_of plX10 (Nat.le_of_ble_eq_true rfl) (fun o _ => ⟨Nat.le_refl _, Nat.le_refl _⟩) (fun Γ => tX10_readPlain hM σ)
noncomputable def vX10_behindSum_224 (x2 y1 : Int) (σ : Sg) : Option (Int × Sg) := (vX10_must y1 σ).bind (fun σ1 => if (σ1 84 19) = 0 then ((vX10_settle 5 σ1).bind (fun σ3 => (vX10_push x2 0 σ3).bind (fun σ4 => some (1, σ4)))) else (some (1, σ1)))
set_option maxRecDepth 100000 in
theorem tX10_behindSum_224 {Γ : Gx} {K : Kt} (hM : mLay K)  (x2 y1 : Int) (σ : Sg) : Y Γ MX10_behindSum K (emIS K) K 224 [some (aR 84), none, some (aI x2), none] [aI y1, aR 84] σ (vX10_behindSum_224 x2 y1 σ) := by
  unfold vX10_behindSum_224
  refine y_cvV (qX10_must hM y1 σ) kX10_257 rfl hM.1 rfl (by decide) rfl (Nat.le_of_ble_eq_true rfl) dX10_behindSum_224 (fun σ1 => ?_)
  refine y_aload_n dX10_behindSum_227 rfl rfl ?_
  refine y_getI fX10_224 hM.1 rfl dX10_behindSum_228 ?_
  refine y_ite (fun h2 => ?_) (fun h2 => ?_)
  · refine y_if_ne_f dX10_behindSum_231 (t := 245) rfl h2 ?_
    refine y_aload_n dX10_behindSum_234 rfl rfl ?_
    refine y_iconst dX10_behindSum_235 (by decide) ?_
    refine y_cvV (qX10_settle hM 5 σ1) kX10_328 rfl hM.1 rfl (by decide) rfl (Nat.le_of_ble_eq_true rfl) dX10_behindSum_236 (fun σ3 => ?_)
    refine y_aload_n dX10_behindSum_239 rfl rfl ?_
    refine y_iload_n dX10_behindSum_240 rfl rfl ?_
    refine y_iconst dX10_behindSum_241 (by decide) ?_
    refine y_cvV (qX10_push hM x2 0 σ3) kX10_287 rfl hM.1 rfl (by decide) rfl (Nat.le_of_ble_eq_true rfl) dX10_behindSum_242 (fun σ4 => ?_)
    refine y_iconst dX10_behindSum_245 (by decide) ?_
    exact y_iret rfl rfl dX10_behindSum_246
  · refine y_if_ne_t dX10_behindSum_231 (t := 245) rfl h2 ?_
    refine y_iconst dX10_behindSum_245 (by decide) ?_
    exact y_iret rfl rfl dX10_behindSum_246
noncomputable def vX10_behindSum_219 (x2 : Int) (σ : Sg) : Option (Int × Sg) := vX10_behindSum_224 x2 1 σ
set_option maxRecDepth 100000 in
theorem tX10_behindSum_219 {Γ : Gx} {K : Kt} (hM : mLay K)  (x2 : Int) (σ : Sg) : Y Γ MX10_behindSum K (emIS K) K 219 [some (aR 84), none, some (aI x2), none] [aR 84] σ (vX10_behindSum_219 x2 σ) := by
  unfold vX10_behindSum_219
  refine y_iconst dX10_behindSum_219 (by decide) ?_
  refine y_goto dX10_behindSum_220 (t := 224) rfl ?_
  exact tX10_behindSum_224 hM x2 1 σ
noncomputable def vX10_behindSum_202 (y0 : Int) (σ : Sg) : Option (Int × Sg) := if y0 = 27 then ((vX10_isSign 61 σ).bind (fun r2 => if r2 = 0 then (vX10_behindSum_224 y0 0 σ) else (vX10_behindSum_219 y0 σ))) else (vX10_behindSum_219 y0 σ)
set_option maxRecDepth 100000 in
theorem tX10_behindSum_202 {Γ : Gx} {K : Kt} (hM : mLay K)  (y0 : Int) (σ : Sg) : Y Γ MX10_behindSum K (emIS K) K 202 [some (aR 84), none, none, none] [aI y0] σ (vX10_behindSum_202 y0 σ) := by
  unfold vX10_behindSum_202
  refine y_istore_n dX10_behindSum_202 rfl (Nat.le_of_ble_eq_true rfl) (L' := [some (aR 84), none, some (aI y0), none]) rfl ?_
  refine y_aload_n dX10_behindSum_203 rfl rfl ?_
  refine y_iload_n dX10_behindSum_204 rfl rfl ?_
  refine y_bipush dX10_behindSum_205 (by decide) (by decide) ?_
  refine y_ite (fun h1 => ?_) (fun h1 => ?_)
  · refine y_icmp_ne_f dX10_behindSum_207 (t := 219) rfl h1 ?_
    refine y_aload_n dX10_behindSum_210 rfl rfl ?_
    refine y_bipush dX10_behindSum_211 (by decide) (by decide) ?_
    refine y_cvI (qX10_isSign hM 61 σ) kX10_293 rfl hM.1 rfl (by decide) rfl (Nat.le_of_ble_eq_true rfl) dX10_behindSum_213 (fun r2 => ?_)
    refine y_ite (fun h3 => ?_) (fun h3 => ?_)
    · refine y_if_eq_t dX10_behindSum_216 (t := 223) rfl h3 ?_
      refine y_iconst dX10_behindSum_223 (by decide) ?_
      exact tX10_behindSum_224 hM y0 0 σ
    · refine y_if_eq_f dX10_behindSum_216 (t := 223) rfl h3 ?_
      exact tX10_behindSum_219 hM y0 σ
  · refine y_icmp_ne_t dX10_behindSum_207 (t := 219) rfl h1 ?_
    exact tX10_behindSum_219 hM y0 σ
noncomputable def vX10_behindSum_163 (σ : Sg) : Option (Int × Sg) := (vX10_isCompared σ).bind (fun r1 => if r1 = 0 then ((vX10_isSign 60 σ).bind (fun r3 => if r3 = 0 then ((vX10_isSign 62 σ).bind (fun r5 => if r5 = 0 then (vX10_behindSum_202 27 σ) else (vX10_behindSum_202 26 σ))) else (vX10_behindSum_202 25 σ))) else (some (2, σ)))
set_option maxRecDepth 100000 in
theorem tX10_behindSum_163 {Γ : Gx} {K : Kt} (hM : mLay K)  (σ : Sg) : Y Γ MX10_behindSum K (emIS K) K 163 [some (aR 84), none, none, none] [] σ (vX10_behindSum_163  σ) := by
  unfold vX10_behindSum_163
  refine y_aload_n dX10_behindSum_163 rfl rfl ?_
  refine y_cvI (qX10_isCompared hM σ) kX10_334 rfl hM.1 rfl (by decide) rfl (Nat.le_of_ble_eq_true rfl) dX10_behindSum_164 (fun r1 => ?_)
  refine y_ite (fun h2 => ?_) (fun h2 => ?_)
  · refine y_if_eq_t dX10_behindSum_167 (t := 172) rfl h2 ?_
    refine y_aload_n dX10_behindSum_172 rfl rfl ?_
    refine y_bipush dX10_behindSum_173 (by decide) (by decide) ?_
    refine y_cvI (qX10_isSign hM 60 σ) kX10_293 rfl hM.1 rfl (by decide) rfl (Nat.le_of_ble_eq_true rfl) dX10_behindSum_175 (fun r3 => ?_)
    refine y_ite (fun h4 => ?_) (fun h4 => ?_)
    · refine y_if_eq_t dX10_behindSum_178 (t := 186) rfl h4 ?_
      refine y_aload_n dX10_behindSum_186 rfl rfl ?_
      refine y_bipush dX10_behindSum_187 (by decide) (by decide) ?_
      refine y_cvI (qX10_isSign hM 62 σ) kX10_293 rfl hM.1 rfl (by decide) rfl (Nat.le_of_ble_eq_true rfl) dX10_behindSum_189 (fun r5 => ?_)
      refine y_ite (fun h6 => ?_) (fun h6 => ?_)
      · refine y_if_eq_t dX10_behindSum_192 (t := 200) rfl h6 ?_
        refine y_bipush dX10_behindSum_200 (by decide) (by decide) ?_
        exact tX10_behindSum_202 hM 27 σ
      · refine y_if_eq_f dX10_behindSum_192 (t := 200) rfl h6 ?_
        refine y_bipush dX10_behindSum_195 (by decide) (by decide) ?_
        refine y_goto dX10_behindSum_197 (t := 202) rfl ?_
        exact tX10_behindSum_202 hM 26 σ
    · refine y_if_eq_f dX10_behindSum_178 (t := 186) rfl h4 ?_
      refine y_bipush dX10_behindSum_181 (by decide) (by decide) ?_
      refine y_goto dX10_behindSum_183 (t := 202) rfl ?_
      exact tX10_behindSum_202 hM 25 σ
  · refine y_if_eq_f dX10_behindSum_167 (t := 172) rfl h2 ?_
    refine y_iconst dX10_behindSum_170 (by decide) ?_
    exact y_iret rfl rfl dX10_behindSum_171
noncomputable def vX10_behindSum_71 (x1 y0 : Int) (σ : Sg) : Option (Int × Sg) := if y0 = (-1) then ((vX10_inner σ).bind (fun r2 => if r2 = 32 then ((vX10_isSign 93 σ).bind (fun r4 => (vX10_must r4 σ).bind (fun σ5 => if (σ5 84 19) = 0 then ((vX10_settle 5 σ5).bind (fun σ7 => ck (in32 ((σ7 84 29) - 1)) (nm (up2 σ7 84 29 ((σ7 84 29) - 1)) (fun σ8 => ck (in32 ((σ8 84 30) - 1)) (nm (up2 σ8 84 30 ((σ8 84 30) - 1)) (fun σ9 => some (3, σ9))))))) else (some (3, σ5))))) else (if r2 = (-1) then (if x1 = 0 then (some (4, σ)) else (vX10_behindSum_163 σ)) else (vX10_behindSum_163 σ)))) else ((vX10_binds y0 σ).bind (fun r12 => (vX10_settle r12 σ).bind (fun σ13 => (vX10_push y0 0 σ13).bind (fun σ14 => (vX10_next σ14).bind (fun σ15 => some (1, σ15))))))
set_option maxRecDepth 100000 in
theorem tX10_behindSum_71 {Γ : Gx} {K : Kt} (hM : mLay K)  (x1 y0 : Int) (σ : Sg) : Y Γ MX10_behindSum K (emIS K) K 71 [some (aR 84), some (aI x1), none, none] [aI y0] σ (vX10_behindSum_71 x1 y0 σ) := by
  unfold vX10_behindSum_71
  refine y_istore_n dX10_behindSum_71 rfl (Nat.le_of_ble_eq_true rfl) (L' := [some (aR 84), some (aI x1), some (aI y0), none]) rfl ?_
  refine y_iload_n dX10_behindSum_72 rfl rfl ?_
  refine y_iconst dX10_behindSum_73 (by decide) ?_
  refine y_ite (fun h1 => ?_) (fun h1 => ?_)
  · refine y_icmp_eq_t dX10_behindSum_74 (t := 97) rfl h1 ?_
    refine y_aload_n dX10_behindSum_97 rfl rfl ?_
    refine y_cvI (qX10_inner hM σ) kX10_331 rfl hM.1 rfl (by decide) rfl (Nat.le_of_ble_eq_true rfl) dX10_behindSum_98 (fun r2 => ?_)
    refine y_istore_n dX10_behindSum_101 rfl (Nat.le_of_ble_eq_true rfl) (L' := [some (aR 84), some (aI x1), some (aI y0), some (aI r2)]) rfl ?_
    refine y_iload_n dX10_behindSum_102 rfl rfl ?_
    refine y_bipush dX10_behindSum_103 (by decide) (by decide) ?_
    refine y_ite (fun h3 => ?_) (fun h3 => ?_)
    · refine y_icmp_ne_f dX10_behindSum_105 (t := 152) rfl h3 ?_
      refine y_aload_n dX10_behindSum_108 rfl rfl ?_
      refine y_aload_n dX10_behindSum_109 rfl rfl ?_
      refine y_bipush dX10_behindSum_110 (by decide) (by decide) ?_
      refine y_cvI (qX10_isSign hM 93 σ) kX10_293 rfl hM.1 rfl (by decide) rfl (Nat.le_of_ble_eq_true rfl) dX10_behindSum_112 (fun r4 => ?_)
      refine y_cvV (qX10_must hM r4 σ) kX10_257 rfl hM.1 rfl (by decide) rfl (Nat.le_of_ble_eq_true rfl) dX10_behindSum_115 (fun σ5 => ?_)
      refine y_aload_n dX10_behindSum_118 rfl rfl ?_
      refine y_getI fX10_224 hM.1 rfl dX10_behindSum_119 ?_
      refine y_ite (fun h6 => ?_) (fun h6 => ?_)
      · refine y_if_ne_f dX10_behindSum_122 (t := 150) rfl h6 ?_
        refine y_aload_n dX10_behindSum_125 rfl rfl ?_
        refine y_iconst dX10_behindSum_126 (by decide) ?_
        refine y_cvV (qX10_settle hM 5 σ5) kX10_328 rfl hM.1 rfl (by decide) rfl (Nat.le_of_ble_eq_true rfl) dX10_behindSum_127 (fun σ7 => ?_)
        refine y_aload_n dX10_behindSum_130 rfl rfl ?_
        refine y_dup dX10_behindSum_131 (fun _ => rfl) ?_
        refine y_getI fX10_264 hM.1 rfl dX10_behindSum_132 ?_
        refine y_iconst dX10_behindSum_135 (by decide) ?_
        refine yk_isub dX10_behindSum_136 ?_
        refine yn_putI fX10_264 hM.1 rfl rfl dX10_behindSum_137 (fun σ8 => ?_)
        refine y_aload_n dX10_behindSum_140 rfl rfl ?_
        refine y_dup dX10_behindSum_141 (fun _ => rfl) ?_
        refine y_getI fX10_284 hM.1 rfl dX10_behindSum_142 ?_
        refine y_iconst dX10_behindSum_145 (by decide) ?_
        refine yk_isub dX10_behindSum_146 ?_
        refine yn_putI fX10_284 hM.1 rfl rfl dX10_behindSum_147 (fun σ9 => ?_)
        refine y_iconst dX10_behindSum_150 (by decide) ?_
        exact y_iret rfl rfl dX10_behindSum_151
      · refine y_if_ne_t dX10_behindSum_122 (t := 150) rfl h6 ?_
        refine y_iconst dX10_behindSum_150 (by decide) ?_
        exact y_iret rfl rfl dX10_behindSum_151
    · refine y_icmp_ne_t dX10_behindSum_105 (t := 152) rfl h3 ?_
      refine y_iload_n dX10_behindSum_152 rfl rfl ?_
      refine y_iconst dX10_behindSum_153 (by decide) ?_
      refine y_ite (fun h10 => ?_) (fun h10 => ?_)
      · refine y_icmp_ne_f dX10_behindSum_154 (t := 163) rfl h10 ?_
        refine y_iload_n dX10_behindSum_157 rfl rfl ?_
        refine y_ite (fun h11 => ?_) (fun h11 => ?_)
        · refine y_if_ne_f dX10_behindSum_158 (t := 163) rfl h11 ?_
          refine y_iconst dX10_behindSum_161 (by decide) ?_
          exact y_iret rfl rfl dX10_behindSum_162
        · refine y_if_ne_t dX10_behindSum_158 (t := 163) rfl h11 ?_
          refine y_fg [true, false, false, false] (L' := [some (aR 84), none, none, none]) rfl ?_
          exact tX10_behindSum_163 hM σ
      · refine y_icmp_ne_t dX10_behindSum_154 (t := 163) rfl h10 ?_
        refine y_fg [true, false, false, false] (L' := [some (aR 84), none, none, none]) rfl ?_
        exact tX10_behindSum_163 hM σ
  · refine y_icmp_eq_f dX10_behindSum_74 (t := 97) rfl h1 ?_
    refine y_aload_n dX10_behindSum_77 rfl rfl ?_
    refine y_iload_n dX10_behindSum_78 rfl rfl ?_
    refine y_csI (qX10_binds (K := K) y0 σ) kX10_267 rfl (by decide) rfl (Nat.le_of_ble_eq_true rfl) dX10_behindSum_79 (fun r12 => ?_)
    refine y_cvV (qX10_settle hM r12 σ) kX10_328 rfl hM.1 rfl (by decide) rfl (Nat.le_of_ble_eq_true rfl) dX10_behindSum_82 (fun σ13 => ?_)
    refine y_aload_n dX10_behindSum_85 rfl rfl ?_
    refine y_iload_n dX10_behindSum_86 rfl rfl ?_
    refine y_iconst dX10_behindSum_87 (by decide) ?_
    refine y_cvV (qX10_push hM y0 0 σ13) kX10_287 rfl hM.1 rfl (by decide) rfl (Nat.le_of_ble_eq_true rfl) dX10_behindSum_88 (fun σ14 => ?_)
    refine y_aload_n dX10_behindSum_91 rfl rfl ?_
    refine y_cvV (qX10_next hM σ14) kX10_228 rfl hM.1 rfl (by decide) rfl (Nat.le_of_ble_eq_true rfl) dX10_behindSum_92 (fun σ15 => ?_)
    refine y_iconst dX10_behindSum_95 (by decide) ?_
    exact y_iret rfl rfl dX10_behindSum_96
noncomputable def vX10_behindSum (p1 : Int) (σ : Sg) : Option (Int × Sg) := (vX10_isSign 43 σ).bind (fun r1 => if r1 = 0 then ((vX10_isSign 45 σ).bind (fun r3 => if r3 = 0 then ((vX10_isSign 42 σ).bind (fun r5 => if r5 = 0 then ((vX10_isSign 47 σ).bind (fun r7 => if r7 = 0 then ((vX10_isSign 37 σ).bind (fun r9 => if r9 = 0 then (vX10_behindSum_71 p1 (-1) σ) else (vX10_behindSum_71 p1 24 σ))) else (vX10_behindSum_71 p1 23 σ))) else (vX10_behindSum_71 p1 22 σ))) else (vX10_behindSum_71 p1 21 σ))) else (vX10_behindSum_71 p1 20 σ))
set_option maxRecDepth 100000 in
theorem tX10_behindSum {Γ : Gx} {K : Kt} (hM : mLay K) (p1 : Int) (σ : Sg) : Y Γ MX10_behindSum K (emIS K) K 0 [some (aR 84), some (aI p1), none, none] [] σ (vX10_behindSum p1 σ) := by
  unfold vX10_behindSum
  refine y_aload_n dX10_behindSum_0 rfl rfl ?_
  refine y_bipush dX10_behindSum_1 (by decide) (by decide) ?_
  refine y_cvI (qX10_isSign hM 43 σ) kX10_293 rfl hM.1 rfl (by decide) rfl (Nat.le_of_ble_eq_true rfl) dX10_behindSum_3 (fun r1 => ?_)
  refine y_ite (fun h2 => ?_) (fun h2 => ?_)
  · refine y_if_eq_t dX10_behindSum_6 (t := 14) rfl h2 ?_
    refine y_aload_n dX10_behindSum_14 rfl rfl ?_
    refine y_bipush dX10_behindSum_15 (by decide) (by decide) ?_
    refine y_cvI (qX10_isSign hM 45 σ) kX10_293 rfl hM.1 rfl (by decide) rfl (Nat.le_of_ble_eq_true rfl) dX10_behindSum_17 (fun r3 => ?_)
    refine y_ite (fun h4 => ?_) (fun h4 => ?_)
    · refine y_if_eq_t dX10_behindSum_20 (t := 28) rfl h4 ?_
      refine y_aload_n dX10_behindSum_28 rfl rfl ?_
      refine y_bipush dX10_behindSum_29 (by decide) (by decide) ?_
      refine y_cvI (qX10_isSign hM 42 σ) kX10_293 rfl hM.1 rfl (by decide) rfl (Nat.le_of_ble_eq_true rfl) dX10_behindSum_31 (fun r5 => ?_)
      refine y_ite (fun h6 => ?_) (fun h6 => ?_)
      · refine y_if_eq_t dX10_behindSum_34 (t := 42) rfl h6 ?_
        refine y_aload_n dX10_behindSum_42 rfl rfl ?_
        refine y_bipush dX10_behindSum_43 (by decide) (by decide) ?_
        refine y_cvI (qX10_isSign hM 47 σ) kX10_293 rfl hM.1 rfl (by decide) rfl (Nat.le_of_ble_eq_true rfl) dX10_behindSum_45 (fun r7 => ?_)
        refine y_ite (fun h8 => ?_) (fun h8 => ?_)
        · refine y_if_eq_t dX10_behindSum_48 (t := 56) rfl h8 ?_
          refine y_aload_n dX10_behindSum_56 rfl rfl ?_
          refine y_bipush dX10_behindSum_57 (by decide) (by decide) ?_
          refine y_cvI (qX10_isSign hM 37 σ) kX10_293 rfl hM.1 rfl (by decide) rfl (Nat.le_of_ble_eq_true rfl) dX10_behindSum_59 (fun r9 => ?_)
          refine y_ite (fun h10 => ?_) (fun h10 => ?_)
          · refine y_if_eq_t dX10_behindSum_62 (t := 70) rfl h10 ?_
            refine y_iconst dX10_behindSum_70 (by decide) ?_
            exact tX10_behindSum_71 hM p1 (-1) σ
          · refine y_if_eq_f dX10_behindSum_62 (t := 70) rfl h10 ?_
            refine y_bipush dX10_behindSum_65 (by decide) (by decide) ?_
            refine y_goto dX10_behindSum_67 (t := 71) rfl ?_
            exact tX10_behindSum_71 hM p1 24 σ
        · refine y_if_eq_f dX10_behindSum_48 (t := 56) rfl h8 ?_
          refine y_bipush dX10_behindSum_51 (by decide) (by decide) ?_
          refine y_goto dX10_behindSum_53 (t := 71) rfl ?_
          exact tX10_behindSum_71 hM p1 23 σ
      · refine y_if_eq_f dX10_behindSum_34 (t := 42) rfl h6 ?_
        refine y_bipush dX10_behindSum_37 (by decide) (by decide) ?_
        refine y_goto dX10_behindSum_39 (t := 71) rfl ?_
        exact tX10_behindSum_71 hM p1 22 σ
    · refine y_if_eq_f dX10_behindSum_20 (t := 28) rfl h4 ?_
      refine y_bipush dX10_behindSum_23 (by decide) (by decide) ?_
      refine y_goto dX10_behindSum_25 (t := 71) rfl ?_
      exact tX10_behindSum_71 hM p1 21 σ
  · refine y_if_eq_f dX10_behindSum_6 (t := 14) rfl h2 ?_
    refine y_bipush dX10_behindSum_9 (by decide) (by decide) ?_
    refine y_goto dX10_behindSum_11 (t := 71) rfl ?_
    exact tX10_behindSum_71 hM p1 20 σ
theorem qX10_behindSum {K : Kt} (hM : mLay K) (p1 : Int) (σ : Sg) : Cc MX10_behindSum K [aR 84, aI p1] σ (emIS K) (vX10_behindSum p1 σ) := cc_of plX10 (Nat.le_of_ble_eq_true rfl) (fun o _ => ⟨Nat.le_refl _, Nat.le_refl _⟩) (fun Γ => tX10_behindSum hM p1 σ)
noncomputable def vX10_behindTest_66 (y1 : Int) (σ : Sg) : Option (Int × Sg) := (vX10_emit y1 0 σ).bind (fun σ1 => (vX10_next σ1).bind (fun σ2 => some (0, σ2)))
set_option maxRecDepth 100000 in
theorem tX10_behindTest_66 {Γ : Gx} {K : Kt} (hM : mLay K)  (y1 : Int) (σ : Sg) : Y Γ MX10_behindTest K (emIS K) K 66 [some (aR 84), none] [aI y1, aR 84] σ (vX10_behindTest_66 y1 σ) := by
  unfold vX10_behindTest_66
  refine y_iconst dX10_behindTest_66 (by decide) ?_
  refine y_cvV (qX10_emit hM y1 0 σ) kX10_270 rfl hM.1 rfl (by decide) rfl (Nat.le_of_ble_eq_true rfl) dX10_behindTest_67 (fun σ1 => ?_)
  refine y_aload_n dX10_behindTest_70 rfl rfl ?_
  refine y_cvV (qX10_next hM σ1) kX10_228 rfl hM.1 rfl (by decide) rfl (Nat.le_of_ble_eq_true rfl) dX10_behindTest_71 (fun σ2 => ?_)
  refine y_iconst dX10_behindTest_74 (by decide) ?_
  exact y_iret rfl rfl dX10_behindTest_75
noncomputable def vX10_behindTest_47 (x1 y1 : Int) (σ : Sg) : Option (Int × Sg) := (vX10_push y1 (σ 84 23) σ).bind (fun σ1 => if x1 = 0 then (vX10_behindTest_66 30 σ1) else (vX10_behindTest_66 29 σ1))
set_option maxRecDepth 100000 in
theorem tX10_behindTest_47 {Γ : Gx} {K : Kt} (hM : mLay K)  (x1 y1 : Int) (σ : Sg) : Y Γ MX10_behindTest K (emIS K) K 47 [some (aR 84), some (aI x1)] [aI y1, aR 84] σ (vX10_behindTest_47 x1 y1 σ) := by
  unfold vX10_behindTest_47
  refine y_aload_n dX10_behindTest_47 rfl rfl ?_
  refine y_getI fX10_261 hM.1 rfl dX10_behindTest_48 ?_
  refine y_cvV (qX10_push hM y1 (σ 84 23) σ) kX10_287 rfl hM.1 rfl (by decide) rfl (Nat.le_of_ble_eq_true rfl) dX10_behindTest_51 (fun σ1 => ?_)
  refine y_aload_n dX10_behindTest_54 rfl rfl ?_
  refine y_iload_n dX10_behindTest_55 rfl rfl ?_
  refine y_ite (fun h2 => ?_) (fun h2 => ?_)
  · refine y_if_eq_t dX10_behindTest_56 (t := 64) rfl h2 ?_
    refine y_bipush dX10_behindTest_64 (by decide) (by decide) ?_
    refine y_fg [true, false] (L' := [some (aR 84), none]) rfl ?_
    exact tX10_behindTest_66 hM 30 σ1
  · refine y_if_eq_f dX10_behindTest_56 (t := 64) rfl h2 ?_
    refine y_bipush dX10_behindTest_59 (by decide) (by decide) ?_
    refine y_goto dX10_behindTest_61 (t := 66) rfl ?_
    refine y_fg [true, false] (L' := [some (aR 84), none]) rfl ?_
    exact tX10_behindTest_66 hM 29 σ1
noncomputable def vX10_behindTest_32 (x1 y1 : Int) (σ : Sg) : Option (Int × Sg) := (vX10_settle y1 σ).bind (fun σ1 => if x1 = 0 then (vX10_behindTest_47 x1 30 σ1) else (vX10_behindTest_47 x1 29 σ1))
set_option maxRecDepth 100000 in
theorem tX10_behindTest_32 {Γ : Gx} {K : Kt} (hM : mLay K)  (x1 y1 : Int) (σ : Sg) : Y Γ MX10_behindTest K (emIS K) K 32 [some (aR 84), some (aI x1)] [aI y1, aR 84] σ (vX10_behindTest_32 x1 y1 σ) := by
  unfold vX10_behindTest_32
  refine y_cvV (qX10_settle hM y1 σ) kX10_328 rfl hM.1 rfl (by decide) rfl (Nat.le_of_ble_eq_true rfl) dX10_behindTest_32 (fun σ1 => ?_)
  refine y_aload_n dX10_behindTest_35 rfl rfl ?_
  refine y_iload_n dX10_behindTest_36 rfl rfl ?_
  refine y_ite (fun h2 => ?_) (fun h2 => ?_)
  · refine y_if_eq_t dX10_behindTest_37 (t := 45) rfl h2 ?_
    refine y_bipush dX10_behindTest_45 (by decide) (by decide) ?_
    exact tX10_behindTest_47 hM x1 30 σ1
  · refine y_if_eq_f dX10_behindTest_37 (t := 45) rfl h2 ?_
    refine y_bipush dX10_behindTest_40 (by decide) (by decide) ?_
    refine y_goto dX10_behindTest_42 (t := 47) rfl ?_
    exact tX10_behindTest_47 hM x1 29 σ1
noncomputable def vX10_behindTest_22 (x1 : Int) (σ : Sg) : Option (Int × Sg) := if x1 = 0 then (vX10_behindTest_32 x1 1 σ) else (vX10_behindTest_32 x1 2 σ)
set_option maxRecDepth 100000 in
theorem tX10_behindTest_22 {Γ : Gx} {K : Kt} (hM : mLay K)  (x1 : Int) (σ : Sg) : Y Γ MX10_behindTest K (emIS K) K 22 [some (aR 84), some (aI x1)] [] σ (vX10_behindTest_22 x1 σ) := by
  unfold vX10_behindTest_22
  refine y_aload_n dX10_behindTest_22 rfl rfl ?_
  refine y_iload_n dX10_behindTest_23 rfl rfl ?_
  refine y_ite (fun h1 => ?_) (fun h1 => ?_)
  · refine y_if_eq_t dX10_behindTest_24 (t := 31) rfl h1 ?_
    refine y_iconst dX10_behindTest_31 (by decide) ?_
    exact tX10_behindTest_32 hM x1 1 σ
  · refine y_if_eq_f dX10_behindTest_24 (t := 31) rfl h1 ?_
    refine y_iconst dX10_behindTest_27 (by decide) ?_
    refine y_goto dX10_behindTest_28 (t := 32) rfl ?_
    exact tX10_behindTest_32 hM x1 2 σ
noncomputable def vX10_behindTest (σ : Sg) : Option (Int × Sg) := (vX10_isWord 1476 σ).bind (fun r1 => if r1 = 0 then ((vX10_isWord 498 σ).bind (fun r3 => if r3 = 0 then ((vX10_inner σ).bind (fun r5 => if r5 = (-1) then (some (4, σ)) else ((vX10_isSign 41 σ).bind (fun r7 => (vX10_must r7 σ).bind (fun σ8 => if (σ8 84 19) = 0 then ((vX10_settle 1 σ8).bind (fun σ10 => ck (in32 ((σ10 84 29) - 1)) (nm (up2 σ10 84 29 ((σ10 84 29) - 1)) (fun σ11 => ck (in32 ((σ11 84 30) - 1)) (nm (up2 σ11 84 30 ((σ11 84 30) - 1)) (fun σ12 => some (2, σ12))))))) else (some (2, σ8))))))) else (vX10_behindTest_22 r1 σ))) else (vX10_behindTest_22 r1 σ))
set_option maxRecDepth 100000 in
theorem tX10_behindTest {Γ : Gx} {K : Kt} (hM : mLay K) (σ : Sg) : Y Γ MX10_behindTest K (emIS K) K 0 [some (aR 84), none] [] σ (vX10_behindTest σ) := by
  unfold vX10_behindTest
  refine y_aload_n dX10_behindTest_0 rfl rfl ?_
  refine y_ldc2 1476 wX10_c338 dX10_behindTest_1 (by decide) (by decide) ?_
  refine y_cvI (qX10_isWord hM 1476 σ) kX10_280 rfl hM.1 rfl (by decide) rfl (Nat.le_of_ble_eq_true rfl) dX10_behindTest_4 (fun r1 => ?_)
  refine y_istore_n dX10_behindTest_7 rfl (Nat.le_of_ble_eq_true rfl) (L' := [some (aR 84), some (aI r1)]) rfl ?_
  refine y_iload_n dX10_behindTest_8 rfl rfl ?_
  refine y_ite (fun h2 => ?_) (fun h2 => ?_)
  · refine y_if_ne_f dX10_behindTest_9 (t := 22) rfl h2 ?_
    refine y_aload_n dX10_behindTest_12 rfl rfl ?_
    refine y_ldc2 498 wX10_c340 dX10_behindTest_13 (by decide) (by decide) ?_
    refine y_cvI (qX10_isWord hM 498 σ) kX10_280 rfl hM.1 rfl (by decide) rfl (Nat.le_of_ble_eq_true rfl) dX10_behindTest_16 (fun r3 => ?_)
    refine y_ite (fun h4 => ?_) (fun h4 => ?_)
    · refine y_if_eq_t dX10_behindTest_19 (t := 76) rfl h4 ?_
      refine y_aload_n dX10_behindTest_76 rfl rfl ?_
      refine y_cvI (qX10_inner hM σ) kX10_331 rfl hM.1 rfl (by decide) rfl (Nat.le_of_ble_eq_true rfl) dX10_behindTest_77 (fun r5 => ?_)
      refine y_iconst dX10_behindTest_80 (by decide) ?_
      refine y_ite (fun h6 => ?_) (fun h6 => ?_)
      · refine y_icmp_ne_f dX10_behindTest_81 (t := 86) rfl h6 ?_
        refine y_iconst dX10_behindTest_84 (by decide) ?_
        exact y_iret rfl rfl dX10_behindTest_85
      · refine y_icmp_ne_t dX10_behindTest_81 (t := 86) rfl h6 ?_
        refine y_aload_n dX10_behindTest_86 rfl rfl ?_
        refine y_aload_n dX10_behindTest_87 rfl rfl ?_
        refine y_bipush dX10_behindTest_88 (by decide) (by decide) ?_
        refine y_cvI (qX10_isSign hM 41 σ) kX10_293 rfl hM.1 rfl (by decide) rfl (Nat.le_of_ble_eq_true rfl) dX10_behindTest_90 (fun r7 => ?_)
        refine y_cvV (qX10_must hM r7 σ) kX10_257 rfl hM.1 rfl (by decide) rfl (Nat.le_of_ble_eq_true rfl) dX10_behindTest_93 (fun σ8 => ?_)
        refine y_aload_n dX10_behindTest_96 rfl rfl ?_
        refine y_getI fX10_224 hM.1 rfl dX10_behindTest_97 ?_
        refine y_ite (fun h9 => ?_) (fun h9 => ?_)
        · refine y_if_ne_f dX10_behindTest_100 (t := 128) rfl h9 ?_
          refine y_aload_n dX10_behindTest_103 rfl rfl ?_
          refine y_iconst dX10_behindTest_104 (by decide) ?_
          refine y_cvV (qX10_settle hM 1 σ8) kX10_328 rfl hM.1 rfl (by decide) rfl (Nat.le_of_ble_eq_true rfl) dX10_behindTest_105 (fun σ10 => ?_)
          refine y_aload_n dX10_behindTest_108 rfl rfl ?_
          refine y_dup dX10_behindTest_109 (fun _ => rfl) ?_
          refine y_getI fX10_264 hM.1 rfl dX10_behindTest_110 ?_
          refine y_iconst dX10_behindTest_113 (by decide) ?_
          refine yk_isub dX10_behindTest_114 ?_
          refine yn_putI fX10_264 hM.1 rfl rfl dX10_behindTest_115 (fun σ11 => ?_)
          refine y_aload_n dX10_behindTest_118 rfl rfl ?_
          refine y_dup dX10_behindTest_119 (fun _ => rfl) ?_
          refine y_getI fX10_284 hM.1 rfl dX10_behindTest_120 ?_
          refine y_iconst dX10_behindTest_123 (by decide) ?_
          refine yk_isub dX10_behindTest_124 ?_
          refine yn_putI fX10_284 hM.1 rfl rfl dX10_behindTest_125 (fun σ12 => ?_)
          refine y_iconst dX10_behindTest_128 (by decide) ?_
          exact y_iret rfl rfl dX10_behindTest_129
        · refine y_if_ne_t dX10_behindTest_100 (t := 128) rfl h9 ?_
          refine y_iconst dX10_behindTest_128 (by decide) ?_
          exact y_iret rfl rfl dX10_behindTest_129
    · refine y_if_eq_f dX10_behindTest_19 (t := 76) rfl h4 ?_
      exact tX10_behindTest_22 hM r1 σ
  · refine y_if_ne_t dX10_behindTest_9 (t := 22) rfl h2 ?_
    exact tX10_behindTest_22 hM r1 σ
theorem qX10_behindTest {K : Kt} (hM : mLay K) (σ : Sg) : Cc MX10_behindTest K [aR 84] σ (emIS K) (vX10_behindTest σ) := cc_of plX10 (Nat.le_of_ble_eq_true rfl) (fun o _ => ⟨Nat.le_refl _, Nat.le_refl _⟩) (fun Γ => tX10_behindTest hM σ)
noncomputable def vX10_readExpression_76 (σ : Sg) : Option (Sg) := (vX10_settle 1 σ).bind (fun σ1 => some σ1)
set_option maxRecDepth 100000 in
theorem tX10_readExpression_76 {Γ : Gx} {K : Kt} (hM : mLay K)  (σ : Sg) : Y Γ MX10_readExpression K (emV K) K 76 [some (aR 84), none, none] [] σ (vX10_readExpression_76  σ) := by
  unfold vX10_readExpression_76
  refine y_aload_n dX10_readExpression_76 rfl rfl ?_
  refine y_iconst dX10_readExpression_77 (by decide) ?_
  refine y_cvV (qX10_settle hM 1 σ) kX10_328 rfl hM.1 rfl (by decide) rfl (Nat.le_of_ble_eq_true rfl) dX10_readExpression_78 (fun σ1 => ?_)
  exact y_vret rfl rfl dX10_readExpression_81
noncomputable def vX10_readExpression_20 : Nat → Int → Int → Sg → Option (Sg)
  | 0, _, _, _ => none
  | f + 1, x1, x2, σ => if (σ 84 19) = 0 then (if x2 = 4 then (vX10_readExpression_76 σ) else (if x2 = 0 then (bd2 (vX10_readPlain σ) (fun r4 σ5 => vX10_readExpression_20 f x1 r4 σ5)) else (if x2 = 1 then (bd2 (vX10_readPart σ) (fun r7 σ8 => vX10_readExpression_20 f x1 r7 σ8)) else (if x2 = 3 then (bd2 (vX10_behindSum x1 σ) (fun r10 σ11 => vX10_readExpression_20 f x1 r10 σ11)) else (bd2 (vX10_behindTest σ) (fun r12 σ13 => vX10_readExpression_20 f x1 r12 σ13)))))) else (vX10_readExpression_76 σ)
set_option maxRecDepth 100000 in
theorem tX10_readExpression_20 {Γ : Gx} {K : Kt} (hM : mLay K)  : ∀ (f : Nat) (x1 x2 : Int) (σ : Sg), Y Γ MX10_readExpression K (emV K) K 20 [some (aR 84), some (aI x1), some (aI x2)] [] σ (vX10_readExpression_20 f x1 x2 σ) := by
  intro f
  induction f with
  | zero => intro x1 x2 σ; exact y_none
  | succ f ih =>
    intro x1 x2 σ
    rw [vX10_readExpression_20]
    refine y_aload_n dX10_readExpression_20 rfl rfl ?_
    refine y_getI fX10_224 hM.1 rfl dX10_readExpression_21 ?_
    refine y_ite (fun h1 => ?_) (fun h1 => ?_)
    · refine y_if_ne_f dX10_readExpression_24 (t := 76) rfl h1 ?_
      refine y_iload_n dX10_readExpression_27 rfl rfl ?_
      refine y_iconst dX10_readExpression_28 (by decide) ?_
      refine y_ite (fun h2 => ?_) (fun h2 => ?_)
      · refine y_icmp_eq_t dX10_readExpression_29 (t := 76) rfl h2 ?_
        refine y_fg [true, false, false] (L' := [some (aR 84), none, none]) rfl ?_
        exact tX10_readExpression_76 hM σ
      · refine y_icmp_eq_f dX10_readExpression_29 (t := 76) rfl h2 ?_
        refine y_iload_n dX10_readExpression_32 rfl rfl ?_
        refine y_ite (fun h3 => ?_) (fun h3 => ?_)
        · refine y_if_ne_f dX10_readExpression_33 (t := 43) rfl h3 ?_
          refine y_aload_n dX10_readExpression_36 rfl rfl ?_
          refine y_cvIS (qX10_readPlain hM σ) kX10_342 rfl hM.1 rfl (by decide) rfl (Nat.le_of_ble_eq_true rfl) dX10_readExpression_37 (fun r4 σ5 => ?_)
          refine y_goto dX10_readExpression_40 (t := 72) rfl ?_
          refine y_istore_n dX10_readExpression_72 rfl (Nat.le_of_ble_eq_true rfl) (L' := [some (aR 84), some (aI x1), some (aI r4)]) rfl ?_
          refine y_goto dX10_readExpression_73 (t := 20) rfl ?_
          exact ih x1 r4 σ5
        · refine y_if_ne_t dX10_readExpression_33 (t := 43) rfl h3 ?_
          refine y_iload_n dX10_readExpression_43 rfl rfl ?_
          refine y_iconst dX10_readExpression_44 (by decide) ?_
          refine y_ite (fun h6 => ?_) (fun h6 => ?_)
          · refine y_icmp_ne_f dX10_readExpression_45 (t := 55) rfl h6 ?_
            refine y_aload_n dX10_readExpression_48 rfl rfl ?_
            refine y_cvIS (qX10_readPart hM σ) kX10_325 rfl hM.1 rfl (by decide) rfl (Nat.le_of_ble_eq_true rfl) dX10_readExpression_49 (fun r7 σ8 => ?_)
            refine y_goto dX10_readExpression_52 (t := 72) rfl ?_
            refine y_istore_n dX10_readExpression_72 rfl (Nat.le_of_ble_eq_true rfl) (L' := [some (aR 84), some (aI x1), some (aI r7)]) rfl ?_
            refine y_goto dX10_readExpression_73 (t := 20) rfl ?_
            exact ih x1 r7 σ8
          · refine y_icmp_ne_t dX10_readExpression_45 (t := 55) rfl h6 ?_
            refine y_iload_n dX10_readExpression_55 rfl rfl ?_
            refine y_iconst dX10_readExpression_56 (by decide) ?_
            refine y_ite (fun h9 => ?_) (fun h9 => ?_)
            · refine y_icmp_ne_f dX10_readExpression_57 (t := 68) rfl h9 ?_
              refine y_aload_n dX10_readExpression_60 rfl rfl ?_
              refine y_iload_n dX10_readExpression_61 rfl rfl ?_
              refine y_cvIS (qX10_behindSum hM x1 σ) kX10_345 rfl hM.1 rfl (by decide) rfl (Nat.le_of_ble_eq_true rfl) dX10_readExpression_62 (fun r10 σ11 => ?_)
              refine y_goto dX10_readExpression_65 (t := 72) rfl ?_
              refine y_istore_n dX10_readExpression_72 rfl (Nat.le_of_ble_eq_true rfl) (L' := [some (aR 84), some (aI x1), some (aI r10)]) rfl ?_
              refine y_goto dX10_readExpression_73 (t := 20) rfl ?_
              exact ih x1 r10 σ11
            · refine y_icmp_ne_t dX10_readExpression_57 (t := 68) rfl h9 ?_
              refine y_aload_n dX10_readExpression_68 rfl rfl ?_
              refine y_cvIS (qX10_behindTest hM σ) kX10_349 rfl hM.1 rfl (by decide) rfl (Nat.le_of_ble_eq_true rfl) dX10_readExpression_69 (fun r12 σ13 => ?_)
              refine y_istore_n dX10_readExpression_72 rfl (Nat.le_of_ble_eq_true rfl) (L' := [some (aR 84), some (aI x1), some (aI r12)]) rfl ?_
              refine y_goto dX10_readExpression_73 (t := 20) rfl ?_
              exact ih x1 r12 σ13
    · refine y_if_ne_t dX10_readExpression_24 (t := 76) rfl h1 ?_
      refine y_fg [true, false, false] (L' := [some (aR 84), none, none]) rfl ?_
      exact tX10_readExpression_76 hM σ
noncomputable def vX10_readExpression (p1 : Int) (σ : Sg) : Option (Sg) := nm (up2 σ 84 29 0) (fun σ1 => nm (up2 σ1 84 30 0) (fun σ2 => if p1 = 0 then (vX10_readExpression_20 FU p1 1 σ2) else (vX10_readExpression_20 FU p1 0 σ2)))
set_option maxRecDepth 100000 in
theorem tX10_readExpression {Γ : Gx} {K : Kt} (hM : mLay K) (p1 : Int) (σ : Sg) : Y Γ MX10_readExpression K (emV K) K 0 [some (aR 84), some (aI p1), none] [] σ (vX10_readExpression p1 σ) := by
  unfold vX10_readExpression
  refine y_aload_n dX10_readExpression_0 rfl rfl ?_
  refine y_iconst dX10_readExpression_1 (by decide) ?_
  refine yn_putI fX10_264 hM.1 rfl rfl dX10_readExpression_2 (fun σ1 => ?_)
  refine y_aload_n dX10_readExpression_5 rfl rfl ?_
  refine y_iconst dX10_readExpression_6 (by decide) ?_
  refine yn_putI fX10_284 hM.1 rfl rfl dX10_readExpression_7 (fun σ2 => ?_)
  refine y_iload_n dX10_readExpression_10 rfl rfl ?_
  refine y_ite (fun h3 => ?_) (fun h3 => ?_)
  · refine y_if_eq_t dX10_readExpression_11 (t := 18) rfl h3 ?_
    refine y_iconst dX10_readExpression_18 (by decide) ?_
    refine y_istore_n dX10_readExpression_19 rfl (Nat.le_of_ble_eq_true rfl) (L' := [some (aR 84), some (aI p1), some (aI 1)]) rfl ?_
    exact tX10_readExpression_20 hM FU p1 1 σ2
  · refine y_if_eq_f dX10_readExpression_11 (t := 18) rfl h3 ?_
    refine y_iconst dX10_readExpression_14 (by decide) ?_
    refine y_goto dX10_readExpression_15 (t := 19) rfl ?_
    refine y_istore_n dX10_readExpression_19 rfl (Nat.le_of_ble_eq_true rfl) (L' := [some (aR 84), some (aI p1), some (aI 0)]) rfl ?_
    exact tX10_readExpression_20 hM FU p1 0 σ2
theorem qX10_readExpression {K : Kt} (hM : mLay K) (p1 : Int) (σ : Sg) : Cc MX10_readExpression K [aR 84, aI p1] σ (emV K) (vX10_readExpression p1 σ) := cc_of plX10 (Nat.le_of_ble_eq_true rfl) (fun o _ => ⟨Nat.le_refl _, Nat.le_refl _⟩) (fun Γ => tX10_readExpression hM p1 σ)
noncomputable def vX10_beginText (p1 : Int) (σ : Sg) : Option (Sg) := ck (p1 = 0 ∨ p1 = 1) (nm (up2 σ 84 20 p1) (fun σ1 => (vX10_begin σ1).bind (fun σ2 => nm (up2 σ2 84 21 0) (fun σ3 => nm (up2 σ3 84 23 0) (fun σ4 => nm (up2 σ4 84 26 0) (fun σ5 => some σ5))))))
set_option maxRecDepth 100000 in
theorem tX10_beginText {Γ : Gx} {K : Kt} (hM : mLay K) (p1 : Int) (σ : Sg) : Y Γ MX10_beginText K (emV K) K 0 [some (aR 84), some (aI p1)] [] σ (vX10_beginText p1 σ) := by
  unfold vX10_beginText
  refine y_aload_n dX10_beginText_0 rfl rfl ?_
  refine y_iload_n dX10_beginText_1 rfl rfl ?_
  refine yk_putZ fX10_299 hM.1 rfl rfl dX10_beginText_2 (fun σ1 => ?_)
  refine y_aload_n dX10_beginText_5 rfl rfl ?_
  refine y_cvV (qX10_begin hM σ1) kX10_352 rfl hM.1 rfl (by decide) rfl (Nat.le_of_ble_eq_true rfl) dX10_beginText_6 (fun σ2 => ?_)
  refine y_aload_n dX10_beginText_9 rfl rfl ?_
  refine y_iconst dX10_beginText_10 (by decide) ?_
  refine yn_putI fX10_355 hM.1 rfl rfl dX10_beginText_11 (fun σ3 => ?_)
  refine y_aload_n dX10_beginText_14 rfl rfl ?_
  refine y_iconst dX10_beginText_15 (by decide) ?_
  refine yn_putI fX10_261 hM.1 rfl rfl dX10_beginText_16 (fun σ4 => ?_)
  refine y_aload_n dX10_beginText_19 rfl rfl ?_
  refine y_iconst dX10_beginText_20 (by decide) ?_
  refine yn_putI fX10_290 hM.1 rfl rfl dX10_beginText_21 (fun σ5 => ?_)
  exact y_vret rfl rfl dX10_beginText_24
theorem qX10_beginText {K : Kt} (hM : mLay K) (p1 : Int) (σ : Sg) : Cc MX10_beginText K [aR 84, aI p1] σ (emV K) (vX10_beginText p1 σ) := cc_of plX10 (Nat.le_of_ble_eq_true rfl) (fun o _ => ⟨Nat.le_refl _, Nat.le_refl _⟩) (fun Γ => tX10_beginText hM p1 σ)
