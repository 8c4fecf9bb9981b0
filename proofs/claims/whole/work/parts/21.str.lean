theorem sJ0_9 : Cond.fieldLink RJ0 9 RJ0 "value" "[B" ∈ gwt := gwt_mem (tbT_8 _ (List.mem_of_getElem? (i := 49) rfl)) rfl
theorem sJ0_15 : Cond.fieldLink RJ0 15 RJ0 "coder" "B" ∈ gwt := gwt_mem (tbT_8 _ (List.mem_of_getElem? (i := 50) rfl)) rfl
theorem sJ0_38 : Cond.fieldLink RJ0 38 RJ0 "COMPACT_STRINGS" "Z" ∈ gwt := gwt_mem (tbT_3 _ (List.mem_of_getElem? (i := 64) rfl)) rfl
theorem sJ0_1053 : Cond.fieldLink RJ0 1053 RJ3 "SIOOBE_FORMATTER" "Ljava/util/function/BiFunction;" ∈ gwt := gwt_mem (tbT_3 _ (List.mem_of_getElem? (i := 80) rfl)) rfl
theorem plJ0 : plainName RJ0 = true := by decide +kernel
theorem plJ1 : plainName RJ1 = true := by decide +kernel
theorem plJ3 : plainName RJ3 = true := by decide +kernel
theorem wB_all : ∀ z ∈ wordsB, 0 ≤ z ∧ z ≤ 127 := by decide +kernel
theorem wB_in (j : Nat) : 0 ≤ wordsB.getD j 0 ∧ wordsB.getD j 0 ≤ 127 := by
  by_cases h : j < wordsB.length
  · rw [List.getD_eq_getElem?_getD, List.getElem?_eq_getElem h]
    exact wB_all _ (List.getElem_mem h)
  · rw [List.getD_eq_getElem?_getD, List.getElem?_eq_none (by omega)]
    decide
/-- a call on the known text -/
def CT (own : String) (idx n : Nat) (M2 : Mt) : Prop := CB own idx n M2 ∧ Cond.methodLink own idx M2.1 ∈ gwt ∧ Cond.instanceMethod M2.1 ∈ gwt ∧ Cond.selects RJ0 M2.1 M2.1 ∈ gwt
section YS
variable {α β : Type} {Γ : Gx} {M : Mt} {K0 K : Kt} {em : α → Out} {pc : Nat} {L : List (Option AV)} {S S0 : List AV} {σ : Sg} {v : Option α}
theorem y_ldcS (hM : M.1.cls = RX4) (hd : decode M.2.1 pc = .ok (.ldc 86, 2)) (k : Y Γ M K0 em K (pc + 2) L (aT 4 :: S) σ v) : Y Γ M K0 em K pc L S σ v := by
  refine y_st k (fun oL oK h => okS_c.mpr ⟨trivial, h⟩) (fun out hB oS => ?_)
  obtain ⟨p, l, e, s, m, args, below, meth, c0, ω⟩ := Γ
  intro H locs ls cells slots Q hL oL oK hP hS w
  exact va_ldcS hB.1 hB.2.1 (own := RX4) (by rw [← hM]; exact hB.2.2.2.1) hB.2.2.2.2.2.2.2.2.2.2.2.1.1 hd w
theorem y_getTv (hM : M.1.cls = RJ0) (hd : decode M.2.1 pc = .ok (.getfield 9, 3)) (k : Y Γ M K0 em K (pc + 3) L (aT 5 :: S) σ v) : Y Γ M K0 em K pc L (aT 4 :: S) σ v := by
  refine y_st k (fun oL oK h => okS_c.mpr ⟨trivial, (okS_c.mp h).2⟩) (fun out hB oS => ?_)
  obtain ⟨p, l, e, s, m, args, below, meth, c0, ω⟩ := Γ
  intro H locs ls cells slots Q hL oL oK hP hS w
  exact vk_getf hB.1 hB.2.1 hB.2.2.2.2.2.2.2.2.2.2.2.1.2.2.2.1 hS (own := RJ0) (by rw [← hM]; exact hB.2.2.2.1) (hB.2.2.2.2.2.2.2.1 _ sJ0_9) (fun _ h => h) hd w
theorem y_getTc (hM : M.1.cls = RJ0) (hd : decode M.2.1 pc = .ok (.getfield 15, 3)) (k : Y Γ M K0 em K (pc + 3) L (aI 0 :: S) σ v) : Y Γ M K0 em K pc L (aT 4 :: S) σ v := by
  refine y_st k (fun oL oK h => okS_c.mpr ⟨by show in32 0; decide, (okS_c.mp h).2⟩) (fun out hB oS => ?_)
  obtain ⟨p, l, e, s, m, args, below, meth, c0, ω⟩ := Γ
  intro H locs ls cells slots Q hL oL oK hP hS w
  exact vk_getf hB.1 hB.2.1 hB.2.2.2.2.2.2.2.2.2.2.2.1.2.2.1 hS (own := RJ0) (by rw [← hM]; exact hB.2.2.2.1) (hB.2.2.2.2.2.2.2.1 _ sJ0_15) (fun _ h => h) hd w
theorem y_getTz (hM : M.1.cls = RJ0) (hd : decode M.2.1 pc = .ok (.getstatic 38, 3)) (k : Y Γ M K0 em K (pc + 3) L (aI 1 :: S) σ v) : Y Γ M K0 em K pc L S σ v := by
  refine y_st k (fun oL oK h => okS_c.mpr ⟨by show in32 1; decide, h⟩) (fun out hB oS => ?_)
  obtain ⟨p, l, e, s, m, args, below, meth, c0, ω⟩ := Γ
  intro H locs ls cells slots Q hL oL oK hP hS w
  exact va_gets hB.1 hB.2.1 hB.2.2.2.2.2.2.2.2.2.2.2.1.2.2.2.2.2.1 hS (own := RJ0) (by rw [← hM]; exact hB.2.2.2.1) (hB.2.2.2.2.2.2.2.1 _ sJ0_38) (fun _ h => h) hd w
theorem y_alenT (hd : decode M.2.1 pc = .ok (.arraylength, 1)) (k : Y Γ M K0 em K (pc + 1) L (aI 148 :: S) σ v) : Y Γ M K0 em K pc L (aT 5 :: S) σ v := by
  refine y_st k (fun oL oK h => okS_c.mpr ⟨by show in32 148; decide, (okS_c.mp h).2⟩) (fun out hB oS => ?_)
  obtain ⟨p, l, e, s, m, args, below, meth, c0, ω⟩ := Γ
  intro H locs ls cells slots Q hL oL oK hP hS w
  exact va_tlen hB.1 hB.2.1 hB.2.2.2.2.2.2.2.2.2.2.2.1.2.2.2.2.1 hS (v := Int32.ofInt 148) rfl hd w
theorem y_baldT {i : Int} (hi : 0 ≤ i ∧ i < 148) (hd : decode M.2.1 pc = .ok (.baload, 1)) (k : Y Γ M K0 em K (pc + 1) L (aI (wordsB.getD i.toNat 0) :: S) σ v) : Y Γ M K0 em K pc L (aI i :: aT 5 :: S) σ v := by
  refine y_st k (fun oL oK h => okS_c.mpr ⟨by have := wB_in i.toNat; show in32 _; constructor <;> omega, (okS_c.mp (okS_c.mp h).2).2⟩) (fun out hB oS => ?_)
  obtain ⟨p, l, e, s, m, args, below, meth, c0, ω⟩ := Γ
  intro H locs ls cells slots Q hL oL oK hP hS w
  obtain ⟨oi, -⟩ := okS_c.mp oS
  exact va_tb hB.1 hB.2.1 hB.2.2.2.2.2.2.2.2.2.2.2.1.2.2.2.2.1 hS (n32_in oi hi.1 hi.2) (v := .int (Int32.ofInt (wordsB.getD i.toNat 0))) (by rw [n32_cl oi]) hd w
theorem y_i2c {z : Int} (hz : 0 ≤ z ∧ z < 65536) (hd : decode M.2.1 pc = .ok (.i2c, 1)) (k : Y Γ M K0 em K (pc + 1) L (aI z :: S) σ v) : Y Γ M K0 em K pc L (aI z :: S) σ v := by
  refine y_st k (fun oL oK h => h) (fun out hB oS => ?_)
  obtain ⟨p, l, e, s, m, args, below, meth, c0, ω⟩ := Γ
  intro H locs ls cells slots Q hL oL oK hP hS w
  obtain ⟨oz, -⟩ := okS_c.mp oS
  exact lv_i2c hB.1 hB.2.1 hd (lg_i2c_word (by rw [n32_t oz]; exact hz.1) (by rw [n32_t oz]; exact hz.2)) w
theorem nar_c {z : Int} (h : 0 ≤ z ∧ z < 65536) : narrow .char (.int (Int32.ofInt z)) = .int (Int32.ofInt z) := by
  have e : Int32.ofInt z = nI z.toNat := by
    show Int32.ofInt z = Int32.ofNat z.toNat
    rw [← Int32.ofInt_eq_ofNat]
    congr 1
    omega
  rw [e]
  exact (pk_charN (by omega)).1
theorem y_tret {o : α} {r : Int} {ty : FieldType} (hn : narrow ty (.int (Int32.ofInt r)) = .int (Int32.ofInt r)) (hM : M.2.2.2.1 = some ty) (ho : em o = (some (aI r), K, σ)) (hd : decode M.2.1 pc = .ok (.ireturn, 1)) : Y Γ M K0 em K pc L [aI r] σ (some o) := by
  intro o' h
  cases h
  rw [ho]
  refine ⟨⟨Nat.le_refl _, Nat.le_refl _⟩, fun h0 hB => ?_⟩
  obtain ⟨p, l, e, s, m, args, below, meth, c0, ω⟩ := Γ
  intro H locs ls hz hL oL oS oK hH hP hS
  have hr : meth.sig.returnType = some ty := hB.2.2.2.2.1.trans hM
  have hlocks : meth.locks = false := hB.2.2.2.2.2.1
  exact W.zret hB.1 hB.2.1 hr hn (fun t ht hW => ⟨⟨rfl, fun w hw => by cases hw; exact (okS_c.mp oS).1, Rep.fin oK hH hP hS hB.2.2.2.2.2.2.2.2.1 hB.2.2.2.2.2.2.2.2.2.2 ht hW⟩, hS.F ht⟩) hS.2.2 hd hlocks
theorem rn_T {M2 : Mt} {idx n : Nat} {As : List AV} (h : CT M.1.cls idx n M2) (hy : M2.1.cls = RJ0) (hn : As.length = n) (hdep : M2.2.2.2.2 + 1 ≤ M.2.2.2.2) (hS0 : S0 = As.reverse ++ aT 4 :: S) (hcat : (S.map catA).sum ≤ 8) (hd : decode M.2.1 pc = .ok (.invokevirtual idx, 3)) : Rn Γ M K0 K pc S0 S σ M2 (aT 4 :: As) := by
  intro outc out2 h0 hg2 hgo hB
  obtain ⟨p, l, e, s, m, args, below, meth, c0, ω⟩ := Γ
  intro H locs ls hls oK hH hP hS hM2
  obtain ⟨⟨h1, h2, h3, h4⟩, h5, h6, h7⟩ := h
  have hts := hB.2.2.2.2.2.2.2.1
  subst hS0
  have hT : GoodIn gwt (wsV M.1.cls idx RJ0 M2.1 (.code M2.1 M2.2.1 M2.2.2.1 M2.2.2.2.1 :: gwt)) := by
    intro w hw
    rcases List.mem_append.mp hw with hw | hw
    · simp only [List.mem_cons, List.not_mem_nil, or_false] at hw
      rcases hw with rfl | rfl | rfl | rfl
      · exact gwt_good _ h5
      · exact gwt_good _ h6
      · exact gwt_good _ h7
      · rw [← hy]; exact gwt_good _ h2
    · exact good_ws h1 w hw
  obtain ⟨cell, u1, u2, u3, -⟩ := hB.2.2.2.2.2.2.2.2.2.2.2.1.2.1.kept hS.2.1
  refine va_runV (Ts := gwt) (own := M.1.cls) (C := RJ0) (cc := M.2.1) (nL := M.2.2.1) (b := ω.2.2.2 4) (As := As.map (cv ω)) ⟨hB.1, hB.2.1, hB.2.2.1, hB.2.2.2.1, hts⟩ hM2 (cwV n hts hT rfl rfl rfl ⟨hy, h3⟩ ⟨hdep, ?_⟩) ⟨Rep.blind, ⟨cell, u1, u2, u3⟩, fun U hU hW => ⟨rfl, Rep.fin oK hH hP hS hB.2.2.2.2.2.2.2.2.1 hB.2.2.2.2.2.2.2.2.2.2 hU hW⟩⟩ rfl (by simp [hn]) hls (by simp [cv]) ?_ hd ?_
  · show 8 + (M2.2.2.1 + 11) + 40 * M2.2.2.2.2 ≤ 40 * M.2.2.2.2
    omega
  · exact lv_room (by rw [cat_sum]; exact hcat)
  · have a1 := h0.1; have a2 := h0.2; have b1 := hg2.1; have b2 := hg2.2; have c1 := hgo.1; have c2 := hgo.2
    refine ⟨?_, ?_⟩
    · show K.2.2.1 - K0.2.2.1 + (out2.2.1.2.2.1 - K.2.2.1) ≤ outc.2.1.2.2.1 - K0.2.2.1
      omega
    · show K.2.2.2 - K0.2.2.2 + (out2.2.1.2.2.2 - K.2.2.2) ≤ outc.2.1.2.2.2 - K0.2.2.2
      omega
theorem y_cTI {M2 : Mt} {idx n : Nat} {As : List AV} {v2 : Option Int} {kk : Int → Option α} (hC : Cc M2 K (aT 4 :: As) σ (emI K σ) v2) (h : CT M.1.cls idx n M2) (hy : M2.1.cls = RJ0) (hn : As.length = n) (hdep : M2.2.2.2.2 + 1 ≤ M.2.2.2.2) (hS0 : S0 = As.reverse ++ aT 4 :: S) (hcat : (S.map catA).sum ≤ 8) (hd : decode M.2.1 pc = .ok (.invokevirtual idx, 3)) (k : ∀ r, Y Γ M K0 em K (pc + 3) L (aI r :: S) σ (kk r)) : Y Γ M K0 em K pc L S0 σ (v2.bind kk) := by
  refine y_call (rn_T h hy hn hdep hS0 hcat hd) hC ?_ ?_ (fun b _ => k b)
  · intro a ha
    rw [hS0]
    rcases List.mem_cons.mp ha with rfl | ha
    · exact List.mem_append_right _ List.mem_cons_self
    · exact List.mem_append_left _ (List.mem_reverse.mpr ha)
  · intro a ha
    rw [hS0]
    exact List.mem_append_right _ (List.mem_cons_of_mem _ ha)
/-- the static that nobody asks for: it is null or some old cell -/
theorem y_getTf (hM : M.1.cls = RJ0) (hd : decode M.2.1 pc = .ok (.getstatic 1053, 3)) (k1 : Y Γ M K0 em K (pc + 3) L (aQ none :: S) σ v) (k2 : Y Γ M K0 em K (pc + 3) L (aT 6 :: S) σ v) : Y Γ M K0 em K pc L S σ v := by
  intro o ho
  obtain ⟨hn1, hk1⟩ := k1 o ho
  obtain ⟨hn2, hk2⟩ := k2 o ho
  refine ⟨hn1, fun h0 hB => ?_⟩
  have j1 := hk1 h0 hB
  have j2 := hk2 h0 hB
  obtain ⟨p, l, e, s, m, args, below, meth, c0, ω⟩ := Γ
  intro H locs ls hz hL oL oS oK hH hP hS
  rcases hB.2.2.2.2.2.2.2.2.2.2.2.1.2.2.2.2.2.2 with hZ | hZ
  · exact va_gets hB.1 hB.2.1 hZ hS (own := RJ0) (by rw [← hM]; exact hB.2.2.2.1) (hB.2.2.2.2.2.2.2.1 _ sJ0_1053) (fun _ h => h) hd (j1 H locs ls hz hL oL (okS_c.mpr ⟨trivial, oS⟩) oK hH hP hS)
  · exact va_gets hB.1 hB.2.1 hZ hS (own := RJ0) (by rw [← hM]; exact hB.2.2.2.1) (hB.2.2.2.2.2.2.2.1 _ sJ0_1053) (fun _ h => h) hd (j2 H locs ls hz hL oL (okS_c.mpr ⟨trivial, oS⟩) oK hH hP hS)
end YS
theorem ctJ0_335 : CT RJ0 335 0 MJ0_coder_7d493 := ⟨bJ0_coder_7d493.1, kJ0_335, bJ0_coder_7d493.2.1, bJ0_coder_7d493.2.2⟩
theorem ctJ0_492 : CT RJ0 492 0 MJ0_isLatin1_aae02 := ⟨bJ0_isLatin1_aae02.1, kJ0_492, bJ0_isLatin1_aae02.2.1, bJ0_isLatin1_aae02.2.2⟩
theorem ctX4_88 : CT RX4 88 0 MJ0_length_8abf5 := ⟨bJ0_length_8abf5.1, kX4_88, bJ0_length_8abf5.2.1, bJ0_length_8abf5.2.2⟩
theorem ctX4_94 : CT RX4 94 1 MJ0_charAt_5068e := ⟨bJ0_charAt_5068e.1, kX4_94, bJ0_charAt_5068e.2.1, bJ0_charAt_5068e.2.2⟩
theorem qJ0_coder {K : Kt} (σ : Sg) : Cc MJ0_coder_7d493 K [aT 4] σ (emI K σ) (some 0) := by
  refine cc_of plJ0 (Nat.le_of_ble_eq_true rfl) (fun o _ => ⟨Nat.le_refl _, Nat.le_refl _⟩) (fun Γ => ?_)
  show Y Γ _ K _ K 0 [some (aT 4)] [] σ _
  refine y_getTz rfl dJ0_coder_7d493_0 ?_
  refine y_if_eq_f dJ0_coder_7d493_3 (t := 13) rfl (by decide) ?_
  refine y_aload_nT dJ0_coder_7d493_6 rfl rfl ?_
  refine y_getTc rfl dJ0_coder_7d493_7 ?_
  refine y_goto dJ0_coder_7d493_10 (t := 14) rfl ?_
  exact y_tret (by decide) rfl rfl dJ0_coder_7d493_14
theorem qJ0_isLatin1 {K : Kt} (σ : Sg) : Cc MJ0_isLatin1_aae02 K [aT 4] σ (emI K σ) (some 1) := by
  refine cc_of plJ0 (Nat.le_of_ble_eq_true rfl) (fun o _ => ⟨Nat.le_refl _, Nat.le_refl _⟩) (fun Γ => ?_)
  show Y Γ _ K _ K 0 [some (aT 4)] [] σ _
  refine y_getTz rfl dJ0_isLatin1_aae02_0 ?_
  refine y_if_eq_f dJ0_isLatin1_aae02_3 (t := 17) rfl (by decide) ?_
  refine y_aload_nT dJ0_isLatin1_aae02_6 rfl rfl ?_
  refine y_getTc rfl dJ0_isLatin1_aae02_7 ?_
  refine y_if_ne_f dJ0_isLatin1_aae02_10 (t := 17) rfl (by decide) ?_
  refine y_iconst dJ0_isLatin1_aae02_13 (by decide) ?_
  refine y_goto dJ0_isLatin1_aae02_14 (t := 18) rfl ?_
  exact y_zret (by decide) rfl rfl dJ0_isLatin1_aae02_18
noncomputable def vJ0_length : Option Int := (some (0 : Int)).bind (fun r => some (bShr 148 r))
theorem qJ0_length {K : Kt} (σ : Sg) : Cc MJ0_length_8abf5 K [aT 4] σ (emI K σ) vJ0_length := by
  refine cc_of plJ0 (Nat.le_of_ble_eq_true rfl) (fun o _ => ⟨Nat.le_refl _, Nat.le_refl _⟩) (fun Γ => ?_)
  show Y Γ _ K _ K 0 [some (aT 4)] [] σ _
  unfold vJ0_length
  refine y_aload_nT dJ0_length_8abf5_0 rfl rfl ?_
  refine y_getTv rfl dJ0_length_8abf5_1 ?_
  refine y_alenT dJ0_length_8abf5_4 ?_
  refine y_aload_nT dJ0_length_8abf5_5 rfl rfl ?_
  refine y_cTI (qJ0_coder σ) ctJ0_335 rfl rfl (by decide) rfl (Nat.le_of_ble_eq_true rfl) dJ0_length_8abf5_6 (fun r => ?_)
  refine y_ishr dJ0_length_8abf5_9 ?_
  exact y_iret rfl rfl dJ0_length_8abf5_10
theorem qJ3_checkIndex {K : Kt} (i n : Int) (a : AV) (ha : ∀ z, a ≠ aL z) (σ : Sg) : Cc MJ3_checkIndex_8e157 K [aI i, aI n, a] σ (emI K σ) (ck (0 ≤ i ∧ i < n) (some i)) := by
  refine cc_of plJ3 (by rw [ents_c _ (by simp), ents_c _ (by simp), ents_c _ ha]; exact Nat.le_of_ble_eq_true rfl) (fun o _ => ⟨Nat.le_refl _, Nat.le_refl _⟩) (fun Γ => ?_)
  refine y_ck (fun h => ?_)
  have e : entL (MJ3_checkIndex_8e157).2.2.1 [aI i, aI n, a] = [some (aI i), some (aI n), some a] := by unfold entL; rw [ents_c _ (by simp), ents_c _ (by simp), ents_c _ ha]; rfl
  rw [e]
  refine y_iload_n dJ3_checkIndex_8e157_0 rfl rfl ?_
  refine y_if_lt_f dJ3_checkIndex_8e157_1 (t := 9) rfl (by omega) ?_
  refine y_iload_n dJ3_checkIndex_8e157_4 rfl rfl ?_
  refine y_iload_n dJ3_checkIndex_8e157_5 rfl rfl ?_
  refine y_icmp_lt_t dJ3_checkIndex_8e157_6 (t := 16) rfl (by omega) ?_
  refine y_iload_n dJ3_checkIndex_8e157_16 rfl rfl ?_
  exact y_iret rfl rfl dJ3_checkIndex_8e157_17
noncomputable def vJ0_checkIndex (i n : Int) (σ : Sg) : Option Sg := (ck (0 ≤ i ∧ i < n) (some i)).bind (fun _ => some σ)
theorem qJ0_checkIndex {K : Kt} (i n : Int) (σ : Sg) : Cc MJ0_checkIndex_df160 K [aI i, aI n] σ (emV K) (vJ0_checkIndex i n σ) := by
  refine cc_of plJ0 (Nat.le_of_ble_eq_true rfl) (fun o _ => ⟨Nat.le_refl _, Nat.le_refl _⟩) (fun Γ => ?_)
  show Y Γ _ K _ K 0 [some (aI i), some (aI n)] [] σ _
  unfold vJ0_checkIndex
  refine y_iload_n dJ0_checkIndex_df160_0 rfl rfl ?_
  refine y_iload_n dJ0_checkIndex_df160_1 rfl rfl ?_
  refine y_getTf rfl dJ0_checkIndex_df160_2 ?_ ?_
  · refine y_csI (qJ3_checkIndex i n (aQ none) (by simp) σ) kJ0_1059 rfl (by decide) rfl (Nat.le_of_ble_eq_true rfl) dJ0_checkIndex_df160_5 (fun r => ?_)
    refine y_pop dJ0_checkIndex_df160_8 (fun _ => rfl) ?_
    exact y_vret rfl rfl dJ0_checkIndex_df160_9
  · refine y_csI (qJ3_checkIndex i n (aT 6) (by simp) σ) kJ0_1059 rfl (by decide) rfl (Nat.le_of_ble_eq_true rfl) dJ0_checkIndex_df160_5 (fun r => ?_)
    refine y_pop dJ0_checkIndex_df160_8 (fun _ => rfl) ?_
    exact y_vret rfl rfl dJ0_checkIndex_df160_9
noncomputable def vJ1_charAt (i : Int) (σ : Sg) : Option Int := (vJ0_checkIndex i 148 σ).bind (fun _ => ck (0 ≤ i ∧ i < 148) (ck (0 ≤ bAnd (wordsB.getD i.toNat 0) 255 ∧ bAnd (wordsB.getD i.toNat 0) 255 < 65536) (some (bAnd (wordsB.getD i.toNat 0) 255))))
theorem vJ0_ci {i n : Int} {σ σ1 : Sg} (h : vJ0_checkIndex i n σ = some σ1) : σ1 = σ := by
  unfold vJ0_checkIndex ck at h
  split at h
  · exact (Option.some.inj h).symm
  · cases h
theorem qJ1_charAt {K : Kt} (i : Int) (σ : Sg) : Cc MJ1_charAt_3b067 K [aT 5, aI i] σ (emI K σ) (vJ1_charAt i σ) := by
  refine cc_of plJ1 (Nat.le_of_ble_eq_true rfl) (fun o _ => ⟨Nat.le_refl _, Nat.le_refl _⟩) (fun Γ => ?_)
  show Y Γ _ K _ K 0 [some (aT 5), some (aI i)] [] σ _
  unfold vJ1_charAt
  refine y_iload_n dJ1_charAt_3b067_0 rfl rfl ?_
  refine y_aload_nT dJ1_charAt_3b067_1 rfl rfl ?_
  refine y_alenT dJ1_charAt_3b067_2 ?_
  refine y_cs (qJ0_checkIndex i 148 σ) kJ1_9 rfl (by decide) rfl (Nat.le_of_ble_eq_true rfl) dJ1_charAt_3b067_3 (fun σ1 hσ => ?_)
  obtain rfl := vJ0_ci hσ
  show Y Γ _ K _ K 6 [some (aT 5), some (aI i)] [] σ1 _
  refine y_aload_nT dJ1_charAt_3b067_6 rfl rfl ?_
  refine y_iload_n dJ1_charAt_3b067_7 rfl rfl ?_
  refine y_ck (fun h => ?_)
  refine y_baldT h dJ1_charAt_3b067_8 ?_
  refine y_sipush dJ1_charAt_3b067_9 (by decide) (by decide) ?_
  refine y_iand dJ1_charAt_3b067_12 ?_
  refine y_ck (fun h2 => ?_)
  refine y_i2c h2 dJ1_charAt_3b067_13 ?_
  exact y_tret (nar_c h2) rfl rfl dJ1_charAt_3b067_14
noncomputable def vJ0_charAt (i : Int) (σ : Sg) : Option Int := (some (1 : Int)).bind (fun r => if r = 0 then none else (vJ1_charAt i σ).bind (fun z => ck (0 ≤ z ∧ z < 65536) (some z)))
theorem qJ0_charAt {K : Kt} (i : Int) (σ : Sg) : Cc MJ0_charAt_5068e K [aT 4, aI i] σ (emI K σ) (vJ0_charAt i σ) := by
  refine cc_of plJ0 (Nat.le_of_ble_eq_true rfl) (fun o _ => ⟨Nat.le_refl _, Nat.le_refl _⟩) (fun Γ => ?_)
  show Y Γ _ K _ K 0 [some (aT 4), some (aI i)] [] σ _
  unfold vJ0_charAt
  refine y_aload_nT dJ0_charAt_5068e_0 rfl rfl ?_
  refine y_cTI (qJ0_isLatin1 σ) ctJ0_492 rfl rfl (by decide) rfl (Nat.le_of_ble_eq_true rfl) dJ0_charAt_5068e_1 (fun r => ?_)
  refine y_ite (fun h => y_none) (fun h => ?_)
  refine y_if_eq_f dJ0_charAt_5068e_4 (t := 16) rfl h ?_
  refine y_aload_nT dJ0_charAt_5068e_7 rfl rfl ?_
  refine y_getTv rfl dJ0_charAt_5068e_8 ?_
  refine y_iload_n dJ0_charAt_5068e_11 rfl rfl ?_
  refine y_csI (qJ1_charAt i σ) kJ0_495 rfl (by decide) rfl (Nat.le_of_ble_eq_true rfl) dJ0_charAt_5068e_12 (fun z => ?_)
  refine y_ck (fun h2 => ?_)
  exact y_tret (nar_c h2) rfl rfl dJ0_charAt_5068e_15
