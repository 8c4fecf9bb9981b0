theorem nar_zz {z : Int} (h : z = 0 ∨ z = 1) : vp_nar .boolean (Int32.ofInt z) = Int32.ofInt z := by
  rcases h with rfl | rfl <;> decide
section YD
variable {α : Type} {Γ : Gx} {M : Mt} {K0 K : Kt} {em : α → Out} {pc : Nat} {L : List (Option AV)} {S : List AV} {σ : Sg} {v : Option α}
theorem y_bastore {q n : Nat} {i z : Int} (hz : z = 0 ∨ z = 1) (hq : IsA K q 22 n) (hi : 0 ≤ i ∧ i < (n : Int)) (hd : decode M.2.1 pc = .ok (.bastore, 1)) (k : Y Γ M K0 em K (pc + 1) L S (up2 σ q i.toNat z) v) : Y Γ M K0 em K pc L (aI z :: aI i :: aR q :: S) σ v := by
  refine y_wr k (fun h => ⟨(okS_c.mp (okS_c.mp (okS_c.mp h).2).2).2, in64_of (okS_c.mp h).1, fun _ => (okS_c.mp h).1⟩) (fun out hB oS => ?_)
  obtain ⟨p, l, e, s, m, args, below, meth, c0, ω⟩ := Γ
  intro H locs ls cells slots Q hP hS w
  obtain ⟨oz, oS1⟩ := okS_c.mp oS
  obtain ⟨oi, -⟩ := okS_c.mp oS1
  have he := ww_get (ω := ω) (σ := σ) hq.1
  rw [cellE_z hq.2] at he
  refine va_zast (D := ω.2.1) (tys := tys6 ω) hB.1 hB.2.1 hB.2.2.2.2.2.2.2.2.1 hP ww_D hS q 2 he rfl (n32_in oi hi.1 hi.2) hd (fun H1 locs1 hP1 hD1 hS1 => ?_)
  rw [n32_cl oi, nar_zz hz, ww_set (K' := K) (σ' := up2 σ q i.toNat z) rfl (by rw [cellE_z hq.2, upd_i]) (fun a ha => cellE_ne ha)] at hP1
  exact w H1 locs1 hP1 hS1
theorem y_alen {q n : Nat} (hq : IsA K q 20 n) (hn : n < 2147483648) (hd : decode M.2.1 pc = .ok (.arraylength, 1)) (k : Y Γ M K0 em K (pc + 1) L (aI (n : Int) :: S) σ v) : Y Γ M K0 em K pc L (aR q :: S) σ v := by
  refine y_st k (fun oL oK h => okS_c.mpr ⟨by show in32 (n : Int); constructor <;> omega, (okS_c.mp h).2⟩) (fun out hB oS => ?_)
  obtain ⟨p, l, e, s, m, args, below, meth, c0, ω⟩ := Γ
  intro H locs ls cells slots Q hL oL oK hP hS w
  have he := ww_get (ω := ω) (σ := σ) hq.1
  rw [cellE_i hq.2] at he
  exact va_alen (D := ω.2.1) (tys := tys6 ω) hB.1 hB.2.1 hB.2.2.2.2.2.2.2.2.1 hP q 0 he (ty := .int) rfl (v := Int32.ofInt (n : Int)) Int32.ofInt_eq_ofNat.symm hd w
theorem y_ifnull_t {off : Int} {t : Nat} (hd : decode M.2.1 pc = .ok (.ifnull off, 3)) (ht : (pc : Int) + off = (t : Int)) (k : Y Γ M K0 em K t L S σ v) : Y Γ M K0 em K pc L (aQ none :: S) σ v := by
  refine y_st k (fun oL oK h => (okS_c.mp h).2) (fun out hB oS => ?_)
  obtain ⟨p, l, e, s, m, args, below, meth, c0, ω⟩ := Γ
  intro H locs ls cells slots Q hL oL oK hP hS w
  exact lv_ifnullN hB.1 hB.2.1 hd ht w
theorem y_ifnull_f {off : Int} {x : Nat} (hd : decode M.2.1 pc = .ok (.ifnull off, 3)) (k : Y Γ M K0 em K (pc + 3) L S σ v) : Y Γ M K0 em K pc L (aR x :: S) σ v := by
  refine y_st k (fun oL oK h => (okS_c.mp h).2) (fun out hB oS => ?_)
  obtain ⟨p, l, e, s, m, args, below, meth, c0, ω⟩ := Γ
  intro H locs ls cells slots Q hL oL oK hP hS w
  exact lv_ifnull hB.1 hB.2.1 hd w
theorem y_ifnonnull_f {off : Int} (hd : decode M.2.1 pc = .ok (.ifnonnull off, 3)) (k : Y Γ M K0 em K (pc + 3) L S σ v) : Y Γ M K0 em K pc L (aQ none :: S) σ v := by
  refine y_st k (fun oL oK h => (okS_c.mp h).2) (fun out hB oS => ?_)
  obtain ⟨p, l, e, s, m, args, below, meth, c0, ω⟩ := Γ
  intro H locs ls cells slots Q hL oL oK hP hS w
  exact lv_ifnonnullN hB.1 hB.2.1 hd w
theorem y_ifnonnull_t {off : Int} {t x : Nat} (hd : decode M.2.1 pc = .ok (.ifnonnull off, 3)) (ht : (pc : Int) + off = (t : Int)) (k : Y Γ M K0 em K t L S σ v) : Y Γ M K0 em K pc L (aR x :: S) σ v := by
  refine y_st k (fun oL oK h => (okS_c.mp h).2) (fun out hB oS => ?_)
  obtain ⟨p, l, e, s, m, args, below, meth, c0, ω⟩ := Γ
  intro H locs ls cells slots Q hL oL oK hP hS w
  exact lv_ifnonnull hB.1 hB.2.1 hd ht w
def cmp3 (a b : Int) : Int := if b < a then 1 else if a = b then 0 else -1
theorem cmp3_in (a b : Int) : in32 (cmp3 a b) := by
  unfold cmp3
  split
  · decide
  · split <;> decide
theorem y_lcmp {a b : Int} (hd : decode M.2.1 pc = .ok (.lcmp, 1)) (k : Y Γ M K0 em K (pc + 1) L (aI (cmp3 a b) :: S) σ v) : Y Γ M K0 em K pc L (aL b :: aL a :: S) σ v := by
  refine y_st k (fun oL oK h => okS_c.mpr ⟨cmp3_in a b, (okS_c.mp (okS_c.mp h).2).2⟩) (fun out hB oS => ?_)
  obtain ⟨p, l, e, s, m, args, below, meth, c0, ω⟩ := Γ
  intro H locs ls cells slots Q hL oL oK hP hS w
  obtain ⟨ob, oS1⟩ := okS_c.mp oS
  obtain ⟨oa, -⟩ := okS_c.mp oS1
  have h3 : lg_cmp (Int64.ofInt a) (Int64.ofInt b) = Int32.ofInt (cmp3 a b) := by
    unfold lg_cmp cmp3
    by_cases h1 : b < a
    · simp [h1, (n64_lt ob oa).mpr h1]
    · by_cases h2 : a = b
      · subst h2; simp
      · simp [h1, h2, n64_lt ob oa, n64_eq oa ob]
  refine W.lcmp hB.1 hB.2.1 hd ?_
  rw [h3]
  exact w
theorem cmp3_lt {a b : Int} : cmp3 a b < 0 ↔ a < b := by unfold cmp3; (repeat (first | omega | split))
theorem cmp3_gt {a b : Int} : 0 < cmp3 a b ↔ b < a := by unfold cmp3; (repeat (first | omega | split))
theorem cmp3_eq {a b : Int} : cmp3 a b = 0 ↔ a = b := by unfold cmp3; (repeat (first | omega | split))
theorem y_tab_in {dflt lo hi : Int} {offs : Array Int} {len t : Nat} {x off : Int} (hd : decode M.2.1 pc = .ok (.tableswitch dflt lo hi offs, len)) (hx : lo ≤ x ∧ x ≤ hi) (ho : offs[(x - lo).toNat]? = some off) (ht : (pc : Int) + off = (t : Int)) (k : Y Γ M K0 em K t L S σ v) : Y Γ M K0 em K pc L (aI x :: S) σ v := by
  refine y_st k (fun oL oK h => (okS_c.mp h).2) (fun out hB oS => ?_)
  obtain ⟨p, l, e, s, m, args, below, meth, c0, ω⟩ := Γ
  intro H locs ls cells slots Q hL oL oK hP hS w
  obtain ⟨ox, -⟩ := okS_c.mp oS
  have e1 := n32_t ox
  exact lv_tableIn hB.1 hB.2.1 hd (by rw [e1]; omega) (by rw [e1]; omega) (off := off) (by rw [e1]; exact ho) ht w
theorem y_tab_out {dflt lo hi : Int} {offs : Array Int} {len t : Nat} {x : Int} (hd : decode M.2.1 pc = .ok (.tableswitch dflt lo hi offs, len)) (hx : x < lo ∨ hi < x) (ht : (pc : Int) + dflt = (t : Int)) (k : Y Γ M K0 em K t L S σ v) : Y Γ M K0 em K pc L (aI x :: S) σ v := by
  refine y_st k (fun oL oK h => (okS_c.mp h).2) (fun out hB oS => ?_)
  obtain ⟨p, l, e, s, m, args, below, meth, c0, ω⟩ := Γ
  intro H locs ls cells slots Q hL oL oK hP hS w
  obtain ⟨ox, -⟩ := okS_c.mp oS
  have e1 := n32_t ox
  exact lv_tableOut hB.1 hB.2.1 hd (by rw [e1]; omega) ht w
theorem y_lookup {dflt : Int} {ps : Array (Int × Int)} {len t : Nat} {x off : Int} (hd : decode M.2.1 pc = .ok (.lookupswitch dflt ps, len)) (hp : (ps.toList.zip (ps.toList.drop 1)).all (fun (a, next) => a.1 < next.1) = true) (ho : Op.lookupswitch.offset ps.toList dflt x = off) (ht : (pc : Int) + off = (t : Int)) (k : Y Γ M K0 em K t L S σ v) : Y Γ M K0 em K pc L (aI x :: S) σ v := by
  refine y_st k (fun oL oK h => (okS_c.mp h).2) (fun out hB oS => ?_)
  obtain ⟨p, l, e, s, m, args, below, meth, c0, ω⟩ := Γ
  intro H locs ls cells slots Q hL oL oK hP hS w
  obtain ⟨ox, -⟩ := okS_c.mp oS
  have e1 := n32_t ox
  exact lv_lookup hB.1 hB.2.1 hd hp (off := off) (by rw [e1]; exact ho) ht w
/-- a static table of ours -/
theorem y_gets {idx i : Nat} (hi : i < 4) (hf : Cond.fieldLink M.1.cls idx RX9 (stN i) "[I" ∈ gwt) (hd : decode M.2.1 pc = .ok (.getstatic idx, 3)) (k : Y Γ M K0 em K (pc + 3) L (aT i :: S) σ v) : Y Γ M K0 em K pc L S σ v := by
  refine y_st k (fun oL oK h => okS_c.mpr ⟨trivial, h⟩) (fun out hB oS => ?_)
  obtain ⟨p, l, e, s, m, args, below, meth, c0, ω⟩ := Γ
  intro H locs ls cells slots Q hL oL oK hP hS w
  exact va_gets hB.1 hB.2.1 (hB.2.2.2.2.2.2.2.2.2.2.1 i hi).1 hS hB.2.2.2.1 (hB.2.2.2.2.2.2.2.1 _ hf) (fun _ h => h) hd w
theorem y_getsN {idx i : Nat} (hi : i < 4) (hf : (M.1.cls, idx, stN i) ∈ nstF) (hd : decode M.2.1 pc = .ok (.getstatic idx, 3)) (k : Y Γ M K0 em K (pc + 3) L (aT i :: S) σ v) : Y Γ M K0 em K pc L S σ v := by
  refine y_st k (fun oL oK h => okS_c.mpr ⟨trivial, h⟩) (fun out hB oS => ?_)
  obtain ⟨p, l, e, s, m, args, below, meth, c0, ω⟩ := Γ
  intro H locs ls cells slots Q hL oL oK hP hS w
  exact va_getsN hB.1 hB.2.1 (hB.2.2.2.2.2.2.2.2.2.2.1 i hi).1 hS hB.2.2.2.1 (va_Nw.use rfl (hB.2.2.2.2.2.2.2.2.2.2.2.2.1.2 _ hf)) (fun _ h => h) hd w
theorem stV_in (i j : Nat) : in32 (stV i j) := by
  unfold stV
  split <;> decide
theorem y_taload {i : Nat} {x : Int} (hi : i < 4) (hx : 0 ≤ x ∧ x < 4) (hd : decode M.2.1 pc = .ok (.iaload, 1)) (k : Y Γ M K0 em K (pc + 1) L (aI (stV i x.toNat) :: S) σ v) : Y Γ M K0 em K pc L (aI x :: aT i :: S) σ v := by
  refine y_st k (fun oL oK h => okS_c.mpr ⟨stV_in _ _, (okS_c.mp (okS_c.mp h).2).2⟩) (fun out hB oS => ?_)
  obtain ⟨p, l, e, s, m, args, below, meth, c0, ω⟩ := Γ
  intro H locs ls cells slots Q hL oL oK hP hS w
  obtain ⟨ox, -⟩ := okS_c.mp oS
  refine va_ti hB.1 hB.2.1 (hB.2.2.2.2.2.2.2.2.2.2.1 i hi).2 hS (n32_in ox hx.1 hx.2) (v := .int (Int32.ofInt (stV i x.toNat))) ?_ hd w
  rw [n32_cl ox]
end YD
section YE
variable {α : Type} {Γ : Gx} {M : Mt} {K0 K : Kt} {em : α → Out} {pc : Nat} {L : List (Option AV)} {S : List AV} {σ : Sg} {v : Option α}
theorem Rep.fin {ω : Wd} {K : Kt} {σ : Sg} {s t : State} {H : Heap} {locs : List Loc} (oK : oks K σ) (hH : H.size = ω.1 + K.2.2.1) (hP : va_P ω.2.1 vwCl (ww ω K σ) H) (hS : va_S (fun q => ω.1 ≤ q) s.heap H locs) (hK : va_K ω.2.1 vwCl (tys6 ω) s) (hC : Stc ω s) (ht : t.heap = H) (hW : s.WarmedH t.vm) : Rep ω K σ t :=
  ⟨by rw [ht]; exact hH, by rw [ht]; exact hP, va_K.moved hW.alike hK, oK, hC.go hS ht hW⟩
/-- the end: an int -/
theorem y_iret {o : α} {r : Int} (hM : M.2.2.2.1 = some .int) (ho : em o = (some (aI r), K, σ)) (hd : decode M.2.1 pc = .ok (.ireturn, 1)) : Y Γ M K0 em K pc L [aI r] σ (some o) := by
  intro o' h
  cases h
  rw [ho]
  refine ⟨⟨Nat.le_refl _, Nat.le_refl _⟩, fun h0 hB => ?_⟩
  obtain ⟨p, l, e, s, m, args, below, meth, c0, ω⟩ := Γ
  intro H locs ls hz hL oL oS oK hH hP hS
  have hr : meth.sig.returnType = some .int := hB.2.2.2.2.1.trans hM
  have hlocks : meth.locks = false := hB.2.2.2.2.2.1
  exact W.iret hB.1 hB.2.1 hr (fun t ht hW => ⟨⟨rfl, fun w hw => by cases hw; exact (okS_c.mp oS).1, Rep.fin oK hH hP hS hB.2.2.2.2.2.2.2.2.1 hB.2.2.2.2.2.2.2.2.2.2 ht hW⟩, hS.F ht⟩) hS.2.2 hd hlocks
theorem y_zret {o : α} {r : Int} (hr01 : r = 0 ∨ r = 1) (hM : M.2.2.2.1 = some .boolean) (ho : em o = (some (aI r), K, σ)) (hd : decode M.2.1 pc = .ok (.ireturn, 1)) : Y Γ M K0 em K pc L [aI r] σ (some o) := by
  intro o' h
  cases h
  rw [ho]
  refine ⟨⟨Nat.le_refl _, Nat.le_refl _⟩, fun h0 hB => ?_⟩
  obtain ⟨p, l, e, s, m, args, below, meth, c0, ω⟩ := Γ
  intro H locs ls hz hL oL oS oK hH hP hS
  have hr : meth.sig.returnType = some .boolean := hB.2.2.2.2.1.trans hM
  have hlocks : meth.locks = false := hB.2.2.2.2.2.1
  exact W.zret hB.1 hB.2.1 hr (nar_z hr01) (fun t ht hW => ⟨⟨rfl, fun w hw => by cases hw; exact (okS_c.mp oS).1, Rep.fin oK hH hP hS hB.2.2.2.2.2.2.2.2.1 hB.2.2.2.2.2.2.2.2.2.2 ht hW⟩, hS.F ht⟩) hS.2.2 hd hlocks
theorem y_lret {o : α} {r : Int} (hM : M.2.2.2.1 = some .long) (ho : em o = (some (aL r), K, σ)) (hd : decode M.2.1 pc = .ok (.lreturn, 1)) : Y Γ M K0 em K pc L [aL r] σ (some o) := by
  intro o' h
  cases h
  rw [ho]
  refine ⟨⟨Nat.le_refl _, Nat.le_refl _⟩, fun h0 hB => ?_⟩
  obtain ⟨p, l, e, s, m, args, below, meth, c0, ω⟩ := Γ
  intro H locs ls hz hL oL oS oK hH hP hS
  have hr : meth.sig.returnType = some .long := hB.2.2.2.2.1.trans hM
  have hlocks : meth.locks = false := hB.2.2.2.2.2.1
  exact W.lret hB.1 hB.2.1 hr (fun t ht hW => ⟨⟨rfl, fun w hw => by cases hw; exact (okS_c.mp oS).1, Rep.fin oK hH hP hS hB.2.2.2.2.2.2.2.2.1 hB.2.2.2.2.2.2.2.2.2.2 ht hW⟩, hS.F ht⟩) hS.2.2 hd hlocks
theorem y_vret {o : α} (hM : M.2.2.2.1 = none) (ho : em o = (none, K, σ)) (hd : decode M.2.1 pc = .ok (.return_, 1)) : Y Γ M K0 em K pc L [] σ (some o) := by
  intro o' h
  cases h
  rw [ho]
  refine ⟨⟨Nat.le_refl _, Nat.le_refl _⟩, fun h0 hB => ?_⟩
  obtain ⟨p, l, e, s, m, args, below, meth, c0, ω⟩ := Γ
  intro H locs ls hz hL oL oS oK hH hP hS
  have hr : meth.sig.returnType = none := hB.2.2.2.2.1.trans hM
  have hlocks : meth.locks = false := hB.2.2.2.2.2.1
  exact W.vret hB.1 hB.2.1 hr (fun t ht hW => ⟨⟨rfl, fun w hw => (by cases hw), Rep.fin oK hH hP hS hB.2.2.2.2.2.2.2.2.1 hB.2.2.2.2.2.2.2.2.2.2 ht hW⟩, hS.F ht⟩) hS.2.2 hd hlocks
theorem y_aret {o : α} {r : Option Nat} {rt : FieldType} (hM : M.2.2.2.1 = some rt) (hrt : (∃ n, rt = .object n) ∨ ∃ t, rt = .array t) (ho : em o = (some (aQ r), K, σ)) (hd : decode M.2.1 pc = .ok (.areturn, 1)) : Y Γ M K0 em K pc L [aQ r] σ (some o) := by
  intro o' h
  cases h
  rw [ho]
  refine ⟨⟨Nat.le_refl _, Nat.le_refl _⟩, fun h0 hB => ?_⟩
  obtain ⟨p, l, e, s, m, args, below, meth, c0, ω⟩ := Γ
  intro H locs ls hz hL oL oS oK hH hP hS
  have hr : meth.sig.returnType = some rt := hB.2.2.2.2.1.trans hM
  have hlocks : meth.locks = false := hB.2.2.2.2.2.1
  exact W.aret (v := va_rf (r.map (fun k => ω.1 + k))) hB.1 hB.2.1 hr hrt (by cases r <;> first | exact Or.inl rfl | exact Or.inr ⟨_, rfl⟩) (fun t ht hW => ⟨⟨rfl, fun w hw => by cases hw; trivial, Rep.fin oK hH hP hS hB.2.2.2.2.2.2.2.2.1 hB.2.2.2.2.2.2.2.2.2.2 ht hW⟩, hS.F ht⟩) hS.2.2 hd hlocks
end YE
