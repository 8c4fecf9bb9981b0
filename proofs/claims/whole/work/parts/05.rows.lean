section YR
variable {α : Type} {Γ : Gx} {M : Mt} {K0 K : Kt} {em : α → Out} {pc : Nat} {L : List (Option AV)} {S : List AV} {σ : Sg} {v : Option α}
theorem y_iconst {n : Int} (hd : decode M.2.1 pc = .ok (.iconst n, 1)) (hr : in32 n) (k : Y Γ M K0 em K (pc + 1) L (aI n :: S) σ v) : Y Γ M K0 em K pc L (S) σ v := by
  refine y_st k (fun oL oK h => okS_c.mpr ⟨hr, h⟩) (fun out hB oS => ?_)
  obtain ⟨p, l, e, s, m, args, below, meth, c, ω⟩ := Γ
  intro H locs ls cells slots Q hL oL oK hP hS w
  exact lv_iconst hB.1 hB.2.1 hd rfl w
theorem y_bipush {n : Int} (hd : decode M.2.1 pc = .ok (.bipush n, 2)) (hr : in32 n) (hv : (Int8.ofInt n).toInt32 = Int32.ofInt n) (k : Y Γ M K0 em K (pc + 2) L (aI n :: S) σ v) : Y Γ M K0 em K pc L (S) σ v := by
  refine y_st k (fun oL oK h => okS_c.mpr ⟨hr, h⟩) (fun out hB oS => ?_)
  obtain ⟨p, l, e, s, m, args, below, meth, c, ω⟩ := Γ
  intro H locs ls cells slots Q hL oL oK hP hS w
  exact lv_bipush hB.1 hB.2.1 hd hv w
theorem y_sipush {n : Int} (hd : decode M.2.1 pc = .ok (.sipush n, 3)) (hr : in32 n) (hv : (Int16.ofInt n).toInt32 = Int32.ofInt n) (k : Y Γ M K0 em K (pc + 3) L (aI n :: S) σ v) : Y Γ M K0 em K pc L (S) σ v := by
  refine y_st k (fun oL oK h => okS_c.mpr ⟨hr, h⟩) (fun out hB oS => ?_)
  obtain ⟨p, l, e, s, m, args, below, meth, c, ω⟩ := Γ
  intro H locs ls cells slots Q hL oL oK hP hS w
  exact lv_sipush hB.1 hB.2.1 hd hv w
theorem y_lconst {n : Fin 2} (z : Int) (hd : decode M.2.1 pc = .ok (.lconst n, 1)) (hr : in64 z) (hv : Int64.ofNat (n : Nat) = Int64.ofInt z) (k : Y Γ M K0 em K (pc + 1) L (aL z :: S) σ v) : Y Γ M K0 em K pc L (S) σ v := by
  refine y_st k (fun oL oK h => okS_c.mpr ⟨hr, h⟩) (fun out hB oS => ?_)
  obtain ⟨p, l, e, s, m, args, below, meth, c, ω⟩ := Γ
  intro H locs ls cells slots Q hL oL oK hP hS w
  exact lv_lconst hB.1 hB.2.1 hd hv w
theorem y_ldc {i : Nat} {x : Int32} (z : Int) (hw : Cond.constant M.1.cls i x ∈ gwt) (hd : decode M.2.1 pc = .ok (.ldc i, 2)) (hr : in32 z) (hv : x = Int32.ofInt z) (k : Y Γ M K0 em K (pc + 2) L (aI z :: S) σ v) : Y Γ M K0 em K pc L (S) σ v := by
  refine y_st k (fun oL oK h => okS_c.mpr ⟨hr, h⟩) (fun out hB oS => ?_)
  obtain ⟨p, l, e, s, m, args, below, meth, c, ω⟩ := Γ
  intro H locs ls cells slots Q hL oL oK hP hS w
  refine lv_ldc hB.1 hB.2.1 hB.2.2.2.1 (hB.2.2.2.2.2.2.2.1 _ hw) hd ?_
  rw [hv]
  exact w
theorem y_ldcw {i : Nat} {x : Int32} (z : Int) (hw : Cond.constant M.1.cls i x ∈ gwt) (hd : decode M.2.1 pc = .ok (.ldc_w i, 3)) (hr : in32 z) (hv : x = Int32.ofInt z) (k : Y Γ M K0 em K (pc + 3) L (aI z :: S) σ v) : Y Γ M K0 em K pc L (S) σ v := by
  refine y_st k (fun oL oK h => okS_c.mpr ⟨hr, h⟩) (fun out hB oS => ?_)
  obtain ⟨p, l, e, s, m, args, below, meth, c, ω⟩ := Γ
  intro H locs ls cells slots Q hL oL oK hP hS w
  refine lv_ldcw hB.1 hB.2.1 hB.2.2.2.1 (hB.2.2.2.2.2.2.2.1 _ hw) hd ?_
  rw [hv]
  exact w
theorem y_ldc2 {i : Nat} {x : Int64} (z : Int) (hw : Cond.constantLong M.1.cls i x ∈ gwt) (hd : decode M.2.1 pc = .ok (.ldc2_w i, 3)) (hr : in64 z) (hv : x = Int64.ofInt z) (k : Y Γ M K0 em K (pc + 3) L (aL z :: S) σ v) : Y Γ M K0 em K pc L (S) σ v := by
  refine y_st k (fun oL oK h => okS_c.mpr ⟨hr, h⟩) (fun out hB oS => ?_)
  obtain ⟨p, l, e, s, m, args, below, meth, c, ω⟩ := Γ
  intro H locs ls cells slots Q hL oL oK hP hS w
  refine lv_ldc2 hB.1 hB.2.1 hB.2.2.2.1 (hB.2.2.2.2.2.2.2.1 _ hw) hd ?_
  rw [hv]
  exact w
theorem y_iload_n {j : Fin 4} {i : Nat} {x : Int} (hd : decode M.2.1 pc = .ok (.iload_n j, 1)) (hi : (j : Nat) = i) (hl : L[i]? = some (some (aI x))) (k : Y Γ M K0 em K (pc + 1) L (aI x :: S) σ v) : Y Γ M K0 em K pc L (S) σ v := by
  refine y_st k (fun oL oK h => okS_c.mpr ⟨oL _ (List.mem_of_getElem? hl), h⟩) (fun out hB oS => ?_)
  obtain ⟨p, l, e, s, m, args, below, meth, c, ω⟩ := Γ
  intro H locs ls cells slots Q hL oL oK hP hS w
  exact lv_iload_n hB.1 hB.2.1 hd hi (hL.2.2 i _ hl) w
theorem y_iload {i : Nat} {x : Int} (hd : decode M.2.1 pc = .ok (.iload i, 2)) (hl : L[i]? = some (some (aI x))) (k : Y Γ M K0 em K (pc + 2) L (aI x :: S) σ v) : Y Γ M K0 em K pc L (S) σ v := by
  refine y_st k (fun oL oK h => okS_c.mpr ⟨oL _ (List.mem_of_getElem? hl), h⟩) (fun out hB oS => ?_)
  obtain ⟨p, l, e, s, m, args, below, meth, c, ω⟩ := Γ
  intro H locs ls cells slots Q hL oL oK hP hS w
  exact lv_iload hB.1 hB.2.1 hd (hL.2.2 i _ hl) w
theorem y_lload_n {j : Fin 4} {i : Nat} {x : Int} (hd : decode M.2.1 pc = .ok (.lload_n j, 1)) (hi : (j : Nat) = i) (hl : L[i]? = some (some (aL x))) (k : Y Γ M K0 em K (pc + 1) L (aL x :: S) σ v) : Y Γ M K0 em K pc L (S) σ v := by
  refine y_st k (fun oL oK h => okS_c.mpr ⟨oL _ (List.mem_of_getElem? hl), h⟩) (fun out hB oS => ?_)
  obtain ⟨p, l, e, s, m, args, below, meth, c, ω⟩ := Γ
  intro H locs ls cells slots Q hL oL oK hP hS w
  exact lv_lload_n hB.1 hB.2.1 hd hi (hL.2.2 i _ hl) w
theorem y_lload {i : Nat} {x : Int} (hd : decode M.2.1 pc = .ok (.lload i, 2)) (hl : L[i]? = some (some (aL x))) (k : Y Γ M K0 em K (pc + 2) L (aL x :: S) σ v) : Y Γ M K0 em K pc L (S) σ v := by
  refine y_st k (fun oL oK h => okS_c.mpr ⟨oL _ (List.mem_of_getElem? hl), h⟩) (fun out hB oS => ?_)
  obtain ⟨p, l, e, s, m, args, below, meth, c, ω⟩ := Γ
  intro H locs ls cells slots Q hL oL oK hP hS w
  exact lv_lload hB.1 hB.2.1 hd (hL.2.2 i _ hl) w
theorem y_aload_n {j : Fin 4} {i x : Nat} (hd : decode M.2.1 pc = .ok (.aload_n j, 1)) (hi : (j : Nat) = i) (hl : L[i]? = some (some (aR x))) (k : Y Γ M K0 em K (pc + 1) L (aR x :: S) σ v) : Y Γ M K0 em K pc L (S) σ v := by
  refine y_st k (fun oL oK h => okS_c.mpr ⟨trivial, h⟩) (fun out hB oS => ?_)
  obtain ⟨p, l, e, s, m, args, below, meth, c, ω⟩ := Γ
  intro H locs ls cells slots Q hL oL oK hP hS w
  exact lv_aload_n hB.1 hB.2.1 hd hi (hL.2.2 i _ hl) w
theorem y_aload {i x : Nat} (hd : decode M.2.1 pc = .ok (.aload i, 2)) (hl : L[i]? = some (some (aR x))) (k : Y Γ M K0 em K (pc + 2) L (aR x :: S) σ v) : Y Γ M K0 em K pc L (S) σ v := by
  refine y_st k (fun oL oK h => okS_c.mpr ⟨trivial, h⟩) (fun out hB oS => ?_)
  obtain ⟨p, l, e, s, m, args, below, meth, c, ω⟩ := Γ
  intro H locs ls cells slots Q hL oL oK hP hS w
  exact lv_aload hB.1 hB.2.1 hd (hL.2.2 i _ hl) w
theorem y_aload_nT {j : Fin 4} {i x : Nat} (hd : decode M.2.1 pc = .ok (.aload_n j, 1)) (hi : (j : Nat) = i) (hl : L[i]? = some (some (aT x))) (k : Y Γ M K0 em K (pc + 1) L (aT x :: S) σ v) : Y Γ M K0 em K pc L (S) σ v := by
  refine y_st k (fun oL oK h => okS_c.mpr ⟨trivial, h⟩) (fun out hB oS => ?_)
  obtain ⟨p, l, e, s, m, args, below, meth, c, ω⟩ := Γ
  intro H locs ls cells slots Q hL oL oK hP hS w
  exact lv_aload_n hB.1 hB.2.1 hd hi (hL.2.2 i _ hl) w
theorem y_iadd {a b : Int} (hd : decode M.2.1 pc = .ok (.iadd, 1)) (hr : in32 (a + b)) (k : Y Γ M K0 em K (pc + 1) L (aI (a + b) :: S) σ v) : Y Γ M K0 em K pc L (aI b :: aI a :: S) σ v := by
  refine y_st k (fun oL oK h => okS_c.mpr ⟨hr, (okS_c.mp (okS_c.mp h).2).2⟩) (fun out hB oS => ?_)
  obtain ⟨p, l, e, s, m, args, below, meth, c, ω⟩ := Γ
  intro H locs ls cells slots Q hL oL oK hP hS w
  refine lv_iadd hB.1 hB.2.1 hd ?_
  rw [← Int32.ofInt_add]
  exact w
theorem y_ladd {a b : Int} (hd : decode M.2.1 pc = .ok (.ladd, 1)) (hr : in64 (a + b)) (k : Y Γ M K0 em K (pc + 1) L (aL (a + b) :: S) σ v) : Y Γ M K0 em K pc L (aL b :: aL a :: S) σ v := by
  refine y_st k (fun oL oK h => okS_c.mpr ⟨hr, (okS_c.mp (okS_c.mp h).2).2⟩) (fun out hB oS => ?_)
  obtain ⟨p, l, e, s, m, args, below, meth, c, ω⟩ := Γ
  intro H locs ls cells slots Q hL oL oK hP hS w
  refine lv_ladd hB.1 hB.2.1 hd ?_
  rw [← Int64.ofInt_add]
  exact w
theorem y_isub {a b : Int} (hd : decode M.2.1 pc = .ok (.isub, 1)) (hr : in32 (a - b)) (k : Y Γ M K0 em K (pc + 1) L (aI (a - b) :: S) σ v) : Y Γ M K0 em K pc L (aI b :: aI a :: S) σ v := by
  refine y_st k (fun oL oK h => okS_c.mpr ⟨hr, (okS_c.mp (okS_c.mp h).2).2⟩) (fun out hB oS => ?_)
  obtain ⟨p, l, e, s, m, args, below, meth, c, ω⟩ := Γ
  intro H locs ls cells slots Q hL oL oK hP hS w
  refine lv_isub hB.1 hB.2.1 hd ?_
  rw [← Int32.ofInt_sub]
  exact w
theorem y_lsub {a b : Int} (hd : decode M.2.1 pc = .ok (.lsub, 1)) (hr : in64 (a - b)) (k : Y Γ M K0 em K (pc + 1) L (aL (a - b) :: S) σ v) : Y Γ M K0 em K pc L (aL b :: aL a :: S) σ v := by
  refine y_st k (fun oL oK h => okS_c.mpr ⟨hr, (okS_c.mp (okS_c.mp h).2).2⟩) (fun out hB oS => ?_)
  obtain ⟨p, l, e, s, m, args, below, meth, c, ω⟩ := Γ
  intro H locs ls cells slots Q hL oL oK hP hS w
  refine lv_lsub hB.1 hB.2.1 hd ?_
  rw [← Int64.ofInt_sub]
  exact w
theorem y_imul {a b : Int} (hd : decode M.2.1 pc = .ok (.imul, 1)) (hr : in32 (a * b)) (k : Y Γ M K0 em K (pc + 1) L (aI (a * b) :: S) σ v) : Y Γ M K0 em K pc L (aI b :: aI a :: S) σ v := by
  refine y_st k (fun oL oK h => okS_c.mpr ⟨hr, (okS_c.mp (okS_c.mp h).2).2⟩) (fun out hB oS => ?_)
  obtain ⟨p, l, e, s, m, args, below, meth, c, ω⟩ := Γ
  intro H locs ls cells slots Q hL oL oK hP hS w
  refine lv_imul hB.1 hB.2.1 hd ?_
  rw [← Int32.ofInt_mul]
  exact w
theorem y_lmul {a b : Int} (hd : decode M.2.1 pc = .ok (.lmul, 1)) (hr : in64 (a * b)) (k : Y Γ M K0 em K (pc + 1) L (aL (a * b) :: S) σ v) : Y Γ M K0 em K pc L (aL b :: aL a :: S) σ v := by
  refine y_st k (fun oL oK h => okS_c.mpr ⟨hr, (okS_c.mp (okS_c.mp h).2).2⟩) (fun out hB oS => ?_)
  obtain ⟨p, l, e, s, m, args, below, meth, c, ω⟩ := Γ
  intro H locs ls cells slots Q hL oL oK hP hS w
  refine lv_lmul hB.1 hB.2.1 hd ?_
  rw [← Int64.ofInt_mul]
  exact w
theorem y_idiv {a b : Int} (hd : decode M.2.1 pc = .ok (.idiv, 1)) (hne : ¬ b = 0) (hr : in32 (a.tdiv b)) (k : Y Γ M K0 em K (pc + 1) L (aI (a.tdiv b) :: S) σ v) : Y Γ M K0 em K pc L (aI b :: aI a :: S) σ v := by
  refine y_st k (fun oL oK h => okS_c.mpr ⟨hr, (okS_c.mp (okS_c.mp h).2).2⟩) (fun out hB oS => ?_)
  obtain ⟨p, l, e, s, m, args, below, meth, c, ω⟩ := Γ
  intro H locs ls cells slots Q hL oL oK hP hS w
  obtain ⟨ob, oS1⟩ := okS_c.mp oS
  obtain ⟨oa, -⟩ := okS_c.mp oS1
  refine lv_idiv hB.1 hB.2.1 hd (fun z => hne ((n32_eq ob (by decide)).mp z)) ?_
  rw [n32_div oa ob]
  exact w
theorem y_ldiv {a b : Int} (hd : decode M.2.1 pc = .ok (.ldiv, 1)) (hne : ¬ b = 0) (hr : in64 (a.tdiv b)) (k : Y Γ M K0 em K (pc + 1) L (aL (a.tdiv b) :: S) σ v) : Y Γ M K0 em K pc L (aL b :: aL a :: S) σ v := by
  refine y_st k (fun oL oK h => okS_c.mpr ⟨hr, (okS_c.mp (okS_c.mp h).2).2⟩) (fun out hB oS => ?_)
  obtain ⟨p, l, e, s, m, args, below, meth, c, ω⟩ := Γ
  intro H locs ls cells slots Q hL oL oK hP hS w
  obtain ⟨ob, oS1⟩ := okS_c.mp oS
  obtain ⟨oa, -⟩ := okS_c.mp oS1
  refine lv_ldiv hB.1 hB.2.1 hd (fun z => hne ((n64_eq ob (by decide)).mp z)) ?_
  rw [n64_div oa ob]
  exact w
theorem y_irem {a b : Int} (hd : decode M.2.1 pc = .ok (.irem, 1)) (hne : ¬ b = 0) (hr : in32 (a.tmod b)) (k : Y Γ M K0 em K (pc + 1) L (aI (a.tmod b) :: S) σ v) : Y Γ M K0 em K pc L (aI b :: aI a :: S) σ v := by
  refine y_st k (fun oL oK h => okS_c.mpr ⟨hr, (okS_c.mp (okS_c.mp h).2).2⟩) (fun out hB oS => ?_)
  obtain ⟨p, l, e, s, m, args, below, meth, c, ω⟩ := Γ
  intro H locs ls cells slots Q hL oL oK hP hS w
  obtain ⟨ob, oS1⟩ := okS_c.mp oS
  obtain ⟨oa, -⟩ := okS_c.mp oS1
  refine lv_irem hB.1 hB.2.1 hd (fun z => hne ((n32_eq ob (by decide)).mp z)) ?_
  rw [n32_rem oa ob]
  exact w
theorem y_lrem {a b : Int} (hd : decode M.2.1 pc = .ok (.lrem, 1)) (hne : ¬ b = 0) (hr : in64 (a.tmod b)) (k : Y Γ M K0 em K (pc + 1) L (aL (a.tmod b) :: S) σ v) : Y Γ M K0 em K pc L (aL b :: aL a :: S) σ v := by
  refine y_st k (fun oL oK h => okS_c.mpr ⟨hr, (okS_c.mp (okS_c.mp h).2).2⟩) (fun out hB oS => ?_)
  obtain ⟨p, l, e, s, m, args, below, meth, c, ω⟩ := Γ
  intro H locs ls cells slots Q hL oL oK hP hS w
  obtain ⟨ob, oS1⟩ := okS_c.mp oS
  obtain ⟨oa, -⟩ := okS_c.mp oS1
  refine lv_lrem hB.1 hB.2.1 hd (fun z => hne ((n64_eq ob (by decide)).mp z)) ?_
  rw [n64_rem oa ob]
  exact w
theorem y_ineg {a : Int} (hd : decode M.2.1 pc = .ok (.ineg, 1)) (hr : in32 (-a)) (k : Y Γ M K0 em K (pc + 1) L (aI (-a) :: S) σ v) : Y Γ M K0 em K pc L (aI a :: S) σ v := by
  refine y_st k (fun oL oK h => okS_c.mpr ⟨hr, (okS_c.mp h).2⟩) (fun out hB oS => ?_)
  obtain ⟨p, l, e, s, m, args, below, meth, c, ω⟩ := Γ
  intro H locs ls cells slots Q hL oL oK hP hS w
  refine lv_ineg hB.1 hB.2.1 hd ?_
  rw [← Int32.ofInt_neg]
  exact w
theorem y_iand {a b : Int} (hd : decode M.2.1 pc = .ok (.iand, 1)) (k : Y Γ M K0 em K (pc + 1) L (aI (bAnd a b) :: S) σ v) : Y Γ M K0 em K pc L (aI b :: aI a :: S) σ v := by
  refine y_st k (fun oL oK h => okS_c.mpr ⟨t32_in _, (okS_c.mp (okS_c.mp h).2).2⟩) (fun out hB oS => ?_)
  obtain ⟨p, l, e, s, m, args, below, meth, c, ω⟩ := Γ
  intro H locs ls cells slots Q hL oL oK hP hS w
  refine lv_iand hB.1 hB.2.1 hd ?_
  have e1 : cv ω (aI (bAnd a b)) = _ := congrArg Value.int (Int32.ofInt_toInt _)
  rw [List.map_cons, e1] at w
  exact w
theorem y_ior {a b : Int} (hd : decode M.2.1 pc = .ok (.ior, 1)) (k : Y Γ M K0 em K (pc + 1) L (aI (bOr a b) :: S) σ v) : Y Γ M K0 em K pc L (aI b :: aI a :: S) σ v := by
  refine y_st k (fun oL oK h => okS_c.mpr ⟨t32_in _, (okS_c.mp (okS_c.mp h).2).2⟩) (fun out hB oS => ?_)
  obtain ⟨p, l, e, s, m, args, below, meth, c, ω⟩ := Γ
  intro H locs ls cells slots Q hL oL oK hP hS w
  refine lv_ior hB.1 hB.2.1 hd ?_
  have e1 : cv ω (aI (bOr a b)) = _ := congrArg Value.int (Int32.ofInt_toInt _)
  rw [List.map_cons, e1] at w
  exact w
theorem y_ixor {a b : Int} (hd : decode M.2.1 pc = .ok (.ixor, 1)) (k : Y Γ M K0 em K (pc + 1) L (aI (bXor a b) :: S) σ v) : Y Γ M K0 em K pc L (aI b :: aI a :: S) σ v := by
  refine y_st k (fun oL oK h => okS_c.mpr ⟨t32_in _, (okS_c.mp (okS_c.mp h).2).2⟩) (fun out hB oS => ?_)
  obtain ⟨p, l, e, s, m, args, below, meth, c, ω⟩ := Γ
  intro H locs ls cells slots Q hL oL oK hP hS w
  refine lv_ixor hB.1 hB.2.1 hd ?_
  have e1 : cv ω (aI (bXor a b)) = _ := congrArg Value.int (Int32.ofInt_toInt _)
  rw [List.map_cons, e1] at w
  exact w
theorem y_ishl {a b : Int} (hd : decode M.2.1 pc = .ok (.ishl, 1)) (k : Y Γ M K0 em K (pc + 1) L (aI (bShl a b) :: S) σ v) : Y Γ M K0 em K pc L (aI b :: aI a :: S) σ v := by
  refine y_st k (fun oL oK h => okS_c.mpr ⟨t32_in _, (okS_c.mp (okS_c.mp h).2).2⟩) (fun out hB oS => ?_)
  obtain ⟨p, l, e, s, m, args, below, meth, c, ω⟩ := Γ
  intro H locs ls cells slots Q hL oL oK hP hS w
  refine lv_ishl hB.1 hB.2.1 hd ?_
  have e1 : cv ω (aI (bShl a b)) = _ := congrArg Value.int (Int32.ofInt_toInt _)
  rw [List.map_cons, e1] at w
  exact w
theorem y_ishr {a b : Int} (hd : decode M.2.1 pc = .ok (.ishr, 1)) (k : Y Γ M K0 em K (pc + 1) L (aI (bShr a b) :: S) σ v) : Y Γ M K0 em K pc L (aI b :: aI a :: S) σ v := by
  refine y_st k (fun oL oK h => okS_c.mpr ⟨t32_in _, (okS_c.mp (okS_c.mp h).2).2⟩) (fun out hB oS => ?_)
  obtain ⟨p, l, e, s, m, args, below, meth, c, ω⟩ := Γ
  intro H locs ls cells slots Q hL oL oK hP hS w
  refine lv_ishr hB.1 hB.2.1 hd ?_
  have e1 : cv ω (aI (bShr a b)) = _ := congrArg Value.int (Int32.ofInt_toInt _)
  rw [List.map_cons, e1] at w
  exact w
theorem y_iushr {a b : Int} (hd : decode M.2.1 pc = .ok (.iushr, 1)) (k : Y Γ M K0 em K (pc + 1) L (aI (bUsh a b) :: S) σ v) : Y Γ M K0 em K pc L (aI b :: aI a :: S) σ v := by
  refine y_st k (fun oL oK h => okS_c.mpr ⟨t32_in _, (okS_c.mp (okS_c.mp h).2).2⟩) (fun out hB oS => ?_)
  obtain ⟨p, l, e, s, m, args, below, meth, c, ω⟩ := Γ
  intro H locs ls cells slots Q hL oL oK hP hS w
  refine lv_iushr hB.1 hB.2.1 hd rfl ?_
  have e1 : cv ω (aI (bUsh a b)) = _ := congrArg Value.int (Int32.ofInt_toInt _)
  rw [List.map_cons, e1] at w
  exact w
theorem y_i2l {a : Int} (hd : decode M.2.1 pc = .ok (.i2l, 1)) (k : Y Γ M K0 em K (pc + 1) L (aL a :: S) σ v) : Y Γ M K0 em K pc L (aI a :: S) σ v := by
  refine y_st k (fun oL oK h => okS_c.mpr ⟨by have h1 : in32 a := (okS_c.mp h).1; show in64 a; constructor <;> omega, (okS_c.mp h).2⟩) (fun out hB oS => ?_)
  obtain ⟨p, l, e, s, m, args, below, meth, c, ω⟩ := Γ
  intro H locs ls cells slots Q hL oL oK hP hS w
  obtain ⟨oa, -⟩ := okS_c.mp oS
  exact lv_i2l hB.1 hB.2.1 hd (n32_i2l oa) w
theorem y_l2i {a : Int} (hd : decode M.2.1 pc = .ok (.l2i, 1)) (k : Y Γ M K0 em K (pc + 1) L (aI (w32 a) :: S) σ v) : Y Γ M K0 em K pc L (aL a :: S) σ v := by
  refine y_st k (fun oL oK h => okS_c.mpr ⟨w32_in _, (okS_c.mp h).2⟩) (fun out hB oS => ?_)
  obtain ⟨p, l, e, s, m, args, below, meth, c, ω⟩ := Γ
  intro H locs ls cells slots Q hL oL oK hP hS w
  refine lv_l2i hB.1 hB.2.1 hd (v := Int32.ofInt (w32 a)) ?_ w
  rw [w32_of]
  exact Int64.toInt32_ofInt
theorem y_dup {a : AV} (hd : decode M.2.1 pc = .ok (.dup, 1)) (hc : ∀ ω, (cv ω a).category = 1) (k : Y Γ M K0 em K (pc + 1) L (a :: a :: S) σ v) : Y Γ M K0 em K pc L (a :: S) σ v := by
  refine y_st k (fun oL oK h => okS_c.mpr ⟨(okS_c.mp h).1, h⟩) (fun out hB oS => ?_)
  obtain ⟨p, l, e, s, m, args, below, meth, c, ω⟩ := Γ
  intro H locs ls cells slots Q hL oL oK hP hS w
  exact lv_dup hB.1 hB.2.1 hd (hc ω) w
theorem y_dup2 {a b : AV} (hd : decode M.2.1 pc = .ok (.dup2, 1)) (hc : ∀ ω, (cv ω a).category = 1) (hc2 : ∀ ω, (cv ω b).category = 1) (k : Y Γ M K0 em K (pc + 1) L (a :: b :: a :: b :: S) σ v) : Y Γ M K0 em K pc L (a :: b :: S) σ v := by
  refine y_st k (fun oL oK h => okS_c.mpr ⟨(okS_c.mp h).1, okS_c.mpr ⟨(okS_c.mp (okS_c.mp h).2).1, h⟩⟩) (fun out hB oS => ?_)
  obtain ⟨p, l, e, s, m, args, below, meth, c, ω⟩ := Γ
  intro H locs ls cells slots Q hL oL oK hP hS w
  exact lv_dup2_11 hB.1 hB.2.1 hd (hc ω) (hc2 ω) w
theorem y_pop {a : AV} (hd : decode M.2.1 pc = .ok (.pop, 1)) (hc : ∀ ω, (cv ω a).category = 1) (k : Y Γ M K0 em K (pc + 1) L (S) σ v) : Y Γ M K0 em K pc L (a :: S) σ v := by
  refine y_st k (fun oL oK h => (okS_c.mp h).2) (fun out hB oS => ?_)
  obtain ⟨p, l, e, s, m, args, below, meth, c, ω⟩ := Γ
  intro H locs ls cells slots Q hL oL oK hP hS w
  exact lv_pop hB.1 hB.2.1 hd (hc ω) w
theorem y_goto {off : Int} {t : Nat} (hd : decode M.2.1 pc = .ok (.goto off, 3)) (ht : (pc : Int) + off = (t : Int)) (k : Y Γ M K0 em K (t) L (S) σ v) : Y Γ M K0 em K pc L (S) σ v := by
  refine y_st k (fun oL oK h => h) (fun out hB oS => ?_)
  obtain ⟨p, l, e, s, m, args, below, meth, c, ω⟩ := Γ
  intro H locs ls cells slots Q hL oL oK hP hS w
  exact lv_goto hB.1 hB.2.1 hd ht w
theorem y_icmp_eq_t {a b : Int} {off : Int} {t : Nat} (hd : decode M.2.1 pc = .ok (.if_icmp .eq off, 3)) (ht : (pc : Int) + off = (t : Int)) (hc : a = b) (k : Y Γ M K0 em K (t) L (S) σ v) : Y Γ M K0 em K pc L (aI b :: aI a :: S) σ v := by
  refine y_st k (fun oL oK h => (okS_c.mp (okS_c.mp h).2).2) (fun out hB oS => ?_)
  obtain ⟨p, l, e, s, m, args, below, meth, c, ω⟩ := Γ
  intro H locs ls cells slots Q hL oL oK hP hS w
  obtain ⟨ob, oS1⟩ := okS_c.mp oS
  obtain ⟨oa, -⟩ := okS_c.mp oS1
  have hq : Int32.ofInt a = Int32.ofInt b := by rw [n32_eq oa ob]; omega
  exact lv_icmp_eq hB.1 hB.2.1 hd ht (fun _ => w) (fun z => absurd hq z)
theorem y_if_eq_t {a : Int} {off : Int} {t : Nat} (hd : decode M.2.1 pc = .ok (.ifCond .eq off, 3)) (ht : (pc : Int) + off = (t : Int)) (hc : a = 0) (k : Y Γ M K0 em K (t) L (S) σ v) : Y Γ M K0 em K pc L (aI a :: S) σ v := by
  refine y_st k (fun oL oK h => (okS_c.mp h).2) (fun out hB oS => ?_)
  obtain ⟨p, l, e, s, m, args, below, meth, c, ω⟩ := Γ
  intro H locs ls cells slots Q hL oL oK hP hS w
  obtain ⟨oa, -⟩ := okS_c.mp oS
  have ob : in32 (0 : Int) := by decide
  have hq : Int32.ofInt a = 0 := by rw [n32_0, n32_eq oa ob]; omega
  exact lv_if_eq hB.1 hB.2.1 hd ht (fun _ => w) (fun z => absurd hq z)
theorem y_icmp_eq_f {a b : Int} {off : Int} {t : Nat} (hd : decode M.2.1 pc = .ok (.if_icmp .eq off, 3)) (ht : (pc : Int) + off = (t : Int)) (hc : ¬ a = b) (k : Y Γ M K0 em K (pc + 3) L (S) σ v) : Y Γ M K0 em K pc L (aI b :: aI a :: S) σ v := by
  refine y_st k (fun oL oK h => (okS_c.mp (okS_c.mp h).2).2) (fun out hB oS => ?_)
  obtain ⟨p, l, e, s, m, args, below, meth, c, ω⟩ := Γ
  intro H locs ls cells slots Q hL oL oK hP hS w
  obtain ⟨ob, oS1⟩ := okS_c.mp oS
  obtain ⟨oa, -⟩ := okS_c.mp oS1
  have hq : ¬ (Int32.ofInt a = Int32.ofInt b) := by rw [n32_eq oa ob]; omega
  exact lv_icmp_eq hB.1 hB.2.1 hd ht (fun z => absurd z hq) (fun _ => w)
theorem y_if_eq_f {a : Int} {off : Int} {t : Nat} (hd : decode M.2.1 pc = .ok (.ifCond .eq off, 3)) (ht : (pc : Int) + off = (t : Int)) (hc : ¬ a = 0) (k : Y Γ M K0 em K (pc + 3) L (S) σ v) : Y Γ M K0 em K pc L (aI a :: S) σ v := by
  refine y_st k (fun oL oK h => (okS_c.mp h).2) (fun out hB oS => ?_)
  obtain ⟨p, l, e, s, m, args, below, meth, c, ω⟩ := Γ
  intro H locs ls cells slots Q hL oL oK hP hS w
  obtain ⟨oa, -⟩ := okS_c.mp oS
  have ob : in32 (0 : Int) := by decide
  have hq : ¬ (Int32.ofInt a = 0) := by rw [n32_0, n32_eq oa ob]; omega
  exact lv_if_eq hB.1 hB.2.1 hd ht (fun z => absurd z hq) (fun _ => w)
theorem y_icmp_ne_t {a b : Int} {off : Int} {t : Nat} (hd : decode M.2.1 pc = .ok (.if_icmp .ne off, 3)) (ht : (pc : Int) + off = (t : Int)) (hc : ¬ a = b) (k : Y Γ M K0 em K (t) L (S) σ v) : Y Γ M K0 em K pc L (aI b :: aI a :: S) σ v := by
  refine y_st k (fun oL oK h => (okS_c.mp (okS_c.mp h).2).2) (fun out hB oS => ?_)
  obtain ⟨p, l, e, s, m, args, below, meth, c, ω⟩ := Γ
  intro H locs ls cells slots Q hL oL oK hP hS w
  obtain ⟨ob, oS1⟩ := okS_c.mp oS
  obtain ⟨oa, -⟩ := okS_c.mp oS1
  have hq : ¬ Int32.ofInt a = Int32.ofInt b := by rw [n32_eq oa ob]; omega
  exact lv_icmp_ne hB.1 hB.2.1 hd ht (fun _ => w) (fun z => absurd z hq)
theorem y_if_ne_t {a : Int} {off : Int} {t : Nat} (hd : decode M.2.1 pc = .ok (.ifCond .ne off, 3)) (ht : (pc : Int) + off = (t : Int)) (hc : ¬ a = 0) (k : Y Γ M K0 em K (t) L (S) σ v) : Y Γ M K0 em K pc L (aI a :: S) σ v := by
  refine y_st k (fun oL oK h => (okS_c.mp h).2) (fun out hB oS => ?_)
  obtain ⟨p, l, e, s, m, args, below, meth, c, ω⟩ := Γ
  intro H locs ls cells slots Q hL oL oK hP hS w
  obtain ⟨oa, -⟩ := okS_c.mp oS
  have ob : in32 (0 : Int) := by decide
  have hq : ¬ Int32.ofInt a = 0 := by rw [n32_0, n32_eq oa ob]; omega
  exact lv_if_ne hB.1 hB.2.1 hd ht (fun _ => w) (fun z => absurd z hq)
theorem y_icmp_ne_f {a b : Int} {off : Int} {t : Nat} (hd : decode M.2.1 pc = .ok (.if_icmp .ne off, 3)) (ht : (pc : Int) + off = (t : Int)) (hc : a = b) (k : Y Γ M K0 em K (pc + 3) L (S) σ v) : Y Γ M K0 em K pc L (aI b :: aI a :: S) σ v := by
  refine y_st k (fun oL oK h => (okS_c.mp (okS_c.mp h).2).2) (fun out hB oS => ?_)
  obtain ⟨p, l, e, s, m, args, below, meth, c, ω⟩ := Γ
  intro H locs ls cells slots Q hL oL oK hP hS w
  obtain ⟨ob, oS1⟩ := okS_c.mp oS
  obtain ⟨oa, -⟩ := okS_c.mp oS1
  have hq : Int32.ofInt a = Int32.ofInt b := by rw [n32_eq oa ob]; omega
  exact lv_icmp_ne hB.1 hB.2.1 hd ht (fun z => absurd hq z) (fun _ => w)
theorem y_if_ne_f {a : Int} {off : Int} {t : Nat} (hd : decode M.2.1 pc = .ok (.ifCond .ne off, 3)) (ht : (pc : Int) + off = (t : Int)) (hc : a = 0) (k : Y Γ M K0 em K (pc + 3) L (S) σ v) : Y Γ M K0 em K pc L (aI a :: S) σ v := by
  refine y_st k (fun oL oK h => (okS_c.mp h).2) (fun out hB oS => ?_)
  obtain ⟨p, l, e, s, m, args, below, meth, c, ω⟩ := Γ
  intro H locs ls cells slots Q hL oL oK hP hS w
  obtain ⟨oa, -⟩ := okS_c.mp oS
  have ob : in32 (0 : Int) := by decide
  have hq : Int32.ofInt a = 0 := by rw [n32_0, n32_eq oa ob]; omega
  exact lv_if_ne hB.1 hB.2.1 hd ht (fun z => absurd hq z) (fun _ => w)
theorem y_icmp_lt_t {a b : Int} {off : Int} {t : Nat} (hd : decode M.2.1 pc = .ok (.if_icmp .lt off, 3)) (ht : (pc : Int) + off = (t : Int)) (hc : a < b) (k : Y Γ M K0 em K (t) L (S) σ v) : Y Γ M K0 em K pc L (aI b :: aI a :: S) σ v := by
  refine y_st k (fun oL oK h => (okS_c.mp (okS_c.mp h).2).2) (fun out hB oS => ?_)
  obtain ⟨p, l, e, s, m, args, below, meth, c, ω⟩ := Γ
  intro H locs ls cells slots Q hL oL oK hP hS w
  obtain ⟨ob, oS1⟩ := okS_c.mp oS
  obtain ⟨oa, -⟩ := okS_c.mp oS1
  have hq : Int32.ofInt a < Int32.ofInt b := by rw [n32_lt oa ob]; omega
  exact lv_icmp_lt hB.1 hB.2.1 hd ht (fun _ => w) (fun z => absurd hq z)
theorem y_if_lt_t {a : Int} {off : Int} {t : Nat} (hd : decode M.2.1 pc = .ok (.ifCond .lt off, 3)) (ht : (pc : Int) + off = (t : Int)) (hc : a < 0) (k : Y Γ M K0 em K (t) L (S) σ v) : Y Γ M K0 em K pc L (aI a :: S) σ v := by
  refine y_st k (fun oL oK h => (okS_c.mp h).2) (fun out hB oS => ?_)
  obtain ⟨p, l, e, s, m, args, below, meth, c, ω⟩ := Γ
  intro H locs ls cells slots Q hL oL oK hP hS w
  obtain ⟨oa, -⟩ := okS_c.mp oS
  have ob : in32 (0 : Int) := by decide
  have hq : Int32.ofInt a < 0 := by rw [n32_0, n32_lt oa ob]; omega
  exact lv_if_lt hB.1 hB.2.1 hd ht (fun _ => w) (fun z => absurd hq z)
theorem y_icmp_lt_f {a b : Int} {off : Int} {t : Nat} (hd : decode M.2.1 pc = .ok (.if_icmp .lt off, 3)) (ht : (pc : Int) + off = (t : Int)) (hc : ¬ a < b) (k : Y Γ M K0 em K (pc + 3) L (S) σ v) : Y Γ M K0 em K pc L (aI b :: aI a :: S) σ v := by
  refine y_st k (fun oL oK h => (okS_c.mp (okS_c.mp h).2).2) (fun out hB oS => ?_)
  obtain ⟨p, l, e, s, m, args, below, meth, c, ω⟩ := Γ
  intro H locs ls cells slots Q hL oL oK hP hS w
  obtain ⟨ob, oS1⟩ := okS_c.mp oS
  obtain ⟨oa, -⟩ := okS_c.mp oS1
  have hq : ¬ (Int32.ofInt a < Int32.ofInt b) := by rw [n32_lt oa ob]; omega
  exact lv_icmp_lt hB.1 hB.2.1 hd ht (fun z => absurd z hq) (fun _ => w)
theorem y_if_lt_f {a : Int} {off : Int} {t : Nat} (hd : decode M.2.1 pc = .ok (.ifCond .lt off, 3)) (ht : (pc : Int) + off = (t : Int)) (hc : ¬ a < 0) (k : Y Γ M K0 em K (pc + 3) L (S) σ v) : Y Γ M K0 em K pc L (aI a :: S) σ v := by
  refine y_st k (fun oL oK h => (okS_c.mp h).2) (fun out hB oS => ?_)
  obtain ⟨p, l, e, s, m, args, below, meth, c, ω⟩ := Γ
  intro H locs ls cells slots Q hL oL oK hP hS w
  obtain ⟨oa, -⟩ := okS_c.mp oS
  have ob : in32 (0 : Int) := by decide
  have hq : ¬ (Int32.ofInt a < 0) := by rw [n32_0, n32_lt oa ob]; omega
  exact lv_if_lt hB.1 hB.2.1 hd ht (fun z => absurd z hq) (fun _ => w)
theorem y_icmp_ge_t {a b : Int} {off : Int} {t : Nat} (hd : decode M.2.1 pc = .ok (.if_icmp .ge off, 3)) (ht : (pc : Int) + off = (t : Int)) (hc : ¬ a < b) (k : Y Γ M K0 em K (t) L (S) σ v) : Y Γ M K0 em K pc L (aI b :: aI a :: S) σ v := by
  refine y_st k (fun oL oK h => (okS_c.mp (okS_c.mp h).2).2) (fun out hB oS => ?_)
  obtain ⟨p, l, e, s, m, args, below, meth, c, ω⟩ := Γ
  intro H locs ls cells slots Q hL oL oK hP hS w
  obtain ⟨ob, oS1⟩ := okS_c.mp oS
  obtain ⟨oa, -⟩ := okS_c.mp oS1
  have hq : Int32.ofInt b ≤ Int32.ofInt a := by rw [n32_le ob oa]; omega
  exact lv_icmp_ge hB.1 hB.2.1 hd ht (fun _ => w) (fun z => absurd hq z)
theorem y_if_ge_t {a : Int} {off : Int} {t : Nat} (hd : decode M.2.1 pc = .ok (.ifCond .ge off, 3)) (ht : (pc : Int) + off = (t : Int)) (hc : ¬ a < 0) (k : Y Γ M K0 em K (t) L (S) σ v) : Y Γ M K0 em K pc L (aI a :: S) σ v := by
  refine y_st k (fun oL oK h => (okS_c.mp h).2) (fun out hB oS => ?_)
  obtain ⟨p, l, e, s, m, args, below, meth, c, ω⟩ := Γ
  intro H locs ls cells slots Q hL oL oK hP hS w
  obtain ⟨oa, -⟩ := okS_c.mp oS
  have ob : in32 (0 : Int) := by decide
  have hq : 0 ≤ Int32.ofInt a := by rw [n32_0, n32_le ob oa]; omega
  exact lv_if_ge hB.1 hB.2.1 hd ht (fun _ => w) (fun z => absurd hq z)
theorem y_icmp_ge_f {a b : Int} {off : Int} {t : Nat} (hd : decode M.2.1 pc = .ok (.if_icmp .ge off, 3)) (ht : (pc : Int) + off = (t : Int)) (hc : a < b) (k : Y Γ M K0 em K (pc + 3) L (S) σ v) : Y Γ M K0 em K pc L (aI b :: aI a :: S) σ v := by
  refine y_st k (fun oL oK h => (okS_c.mp (okS_c.mp h).2).2) (fun out hB oS => ?_)
  obtain ⟨p, l, e, s, m, args, below, meth, c, ω⟩ := Γ
  intro H locs ls cells slots Q hL oL oK hP hS w
  obtain ⟨ob, oS1⟩ := okS_c.mp oS
  obtain ⟨oa, -⟩ := okS_c.mp oS1
  have hq : ¬ (Int32.ofInt b ≤ Int32.ofInt a) := by rw [n32_le ob oa]; omega
  exact lv_icmp_ge hB.1 hB.2.1 hd ht (fun z => absurd z hq) (fun _ => w)
theorem y_if_ge_f {a : Int} {off : Int} {t : Nat} (hd : decode M.2.1 pc = .ok (.ifCond .ge off, 3)) (ht : (pc : Int) + off = (t : Int)) (hc : a < 0) (k : Y Γ M K0 em K (pc + 3) L (S) σ v) : Y Γ M K0 em K pc L (aI a :: S) σ v := by
  refine y_st k (fun oL oK h => (okS_c.mp h).2) (fun out hB oS => ?_)
  obtain ⟨p, l, e, s, m, args, below, meth, c, ω⟩ := Γ
  intro H locs ls cells slots Q hL oL oK hP hS w
  obtain ⟨oa, -⟩ := okS_c.mp oS
  have ob : in32 (0 : Int) := by decide
  have hq : ¬ (0 ≤ Int32.ofInt a) := by rw [n32_0, n32_le ob oa]; omega
  exact lv_if_ge hB.1 hB.2.1 hd ht (fun z => absurd z hq) (fun _ => w)
theorem y_icmp_gt_t {a b : Int} {off : Int} {t : Nat} (hd : decode M.2.1 pc = .ok (.if_icmp .gt off, 3)) (ht : (pc : Int) + off = (t : Int)) (hc : b < a) (k : Y Γ M K0 em K (t) L (S) σ v) : Y Γ M K0 em K pc L (aI b :: aI a :: S) σ v := by
  refine y_st k (fun oL oK h => (okS_c.mp (okS_c.mp h).2).2) (fun out hB oS => ?_)
  obtain ⟨p, l, e, s, m, args, below, meth, c, ω⟩ := Γ
  intro H locs ls cells slots Q hL oL oK hP hS w
  obtain ⟨ob, oS1⟩ := okS_c.mp oS
  obtain ⟨oa, -⟩ := okS_c.mp oS1
  have hq : Int32.ofInt b < Int32.ofInt a := by rw [n32_lt ob oa]; omega
  exact lv_icmp_gt hB.1 hB.2.1 hd ht (fun _ => w) (fun z => absurd hq z)
theorem y_if_gt_t {a : Int} {off : Int} {t : Nat} (hd : decode M.2.1 pc = .ok (.ifCond .gt off, 3)) (ht : (pc : Int) + off = (t : Int)) (hc : 0 < a) (k : Y Γ M K0 em K (t) L (S) σ v) : Y Γ M K0 em K pc L (aI a :: S) σ v := by
  refine y_st k (fun oL oK h => (okS_c.mp h).2) (fun out hB oS => ?_)
  obtain ⟨p, l, e, s, m, args, below, meth, c, ω⟩ := Γ
  intro H locs ls cells slots Q hL oL oK hP hS w
  obtain ⟨oa, -⟩ := okS_c.mp oS
  have ob : in32 (0 : Int) := by decide
  have hq : 0 < Int32.ofInt a := by rw [n32_0, n32_lt ob oa]; omega
  exact lv_if_gt hB.1 hB.2.1 hd ht (fun _ => w) (fun z => absurd hq z)
theorem y_icmp_gt_f {a b : Int} {off : Int} {t : Nat} (hd : decode M.2.1 pc = .ok (.if_icmp .gt off, 3)) (ht : (pc : Int) + off = (t : Int)) (hc : ¬ b < a) (k : Y Γ M K0 em K (pc + 3) L (S) σ v) : Y Γ M K0 em K pc L (aI b :: aI a :: S) σ v := by
  refine y_st k (fun oL oK h => (okS_c.mp (okS_c.mp h).2).2) (fun out hB oS => ?_)
  obtain ⟨p, l, e, s, m, args, below, meth, c, ω⟩ := Γ
  intro H locs ls cells slots Q hL oL oK hP hS w
  obtain ⟨ob, oS1⟩ := okS_c.mp oS
  obtain ⟨oa, -⟩ := okS_c.mp oS1
  have hq : ¬ (Int32.ofInt b < Int32.ofInt a) := by rw [n32_lt ob oa]; omega
  exact lv_icmp_gt hB.1 hB.2.1 hd ht (fun z => absurd z hq) (fun _ => w)
theorem y_if_gt_f {a : Int} {off : Int} {t : Nat} (hd : decode M.2.1 pc = .ok (.ifCond .gt off, 3)) (ht : (pc : Int) + off = (t : Int)) (hc : ¬ 0 < a) (k : Y Γ M K0 em K (pc + 3) L (S) σ v) : Y Γ M K0 em K pc L (aI a :: S) σ v := by
  refine y_st k (fun oL oK h => (okS_c.mp h).2) (fun out hB oS => ?_)
  obtain ⟨p, l, e, s, m, args, below, meth, c, ω⟩ := Γ
  intro H locs ls cells slots Q hL oL oK hP hS w
  obtain ⟨oa, -⟩ := okS_c.mp oS
  have ob : in32 (0 : Int) := by decide
  have hq : ¬ (0 < Int32.ofInt a) := by rw [n32_0, n32_lt ob oa]; omega
  exact lv_if_gt hB.1 hB.2.1 hd ht (fun z => absurd z hq) (fun _ => w)
theorem y_icmp_le_t {a b : Int} {off : Int} {t : Nat} (hd : decode M.2.1 pc = .ok (.if_icmp .le off, 3)) (ht : (pc : Int) + off = (t : Int)) (hc : ¬ b < a) (k : Y Γ M K0 em K (t) L (S) σ v) : Y Γ M K0 em K pc L (aI b :: aI a :: S) σ v := by
  refine y_st k (fun oL oK h => (okS_c.mp (okS_c.mp h).2).2) (fun out hB oS => ?_)
  obtain ⟨p, l, e, s, m, args, below, meth, c, ω⟩ := Γ
  intro H locs ls cells slots Q hL oL oK hP hS w
  obtain ⟨ob, oS1⟩ := okS_c.mp oS
  obtain ⟨oa, -⟩ := okS_c.mp oS1
  have hq : Int32.ofInt a ≤ Int32.ofInt b := by rw [n32_le oa ob]; omega
  exact lv_icmp_le hB.1 hB.2.1 hd ht (fun _ => w) (fun z => absurd hq z)
theorem y_if_le_t {a : Int} {off : Int} {t : Nat} (hd : decode M.2.1 pc = .ok (.ifCond .le off, 3)) (ht : (pc : Int) + off = (t : Int)) (hc : ¬ 0 < a) (k : Y Γ M K0 em K (t) L (S) σ v) : Y Γ M K0 em K pc L (aI a :: S) σ v := by
  refine y_st k (fun oL oK h => (okS_c.mp h).2) (fun out hB oS => ?_)
  obtain ⟨p, l, e, s, m, args, below, meth, c, ω⟩ := Γ
  intro H locs ls cells slots Q hL oL oK hP hS w
  obtain ⟨oa, -⟩ := okS_c.mp oS
  have ob : in32 (0 : Int) := by decide
  have hq : Int32.ofInt a ≤ 0 := by rw [n32_0, n32_le oa ob]; omega
  exact lv_if_le hB.1 hB.2.1 hd ht (fun _ => w) (fun z => absurd hq z)
theorem y_icmp_le_f {a b : Int} {off : Int} {t : Nat} (hd : decode M.2.1 pc = .ok (.if_icmp .le off, 3)) (ht : (pc : Int) + off = (t : Int)) (hc : b < a) (k : Y Γ M K0 em K (pc + 3) L (S) σ v) : Y Γ M K0 em K pc L (aI b :: aI a :: S) σ v := by
  refine y_st k (fun oL oK h => (okS_c.mp (okS_c.mp h).2).2) (fun out hB oS => ?_)
  obtain ⟨p, l, e, s, m, args, below, meth, c, ω⟩ := Γ
  intro H locs ls cells slots Q hL oL oK hP hS w
  obtain ⟨ob, oS1⟩ := okS_c.mp oS
  obtain ⟨oa, -⟩ := okS_c.mp oS1
  have hq : ¬ (Int32.ofInt a ≤ Int32.ofInt b) := by rw [n32_le oa ob]; omega
  exact lv_icmp_le hB.1 hB.2.1 hd ht (fun z => absurd z hq) (fun _ => w)
theorem y_if_le_f {a : Int} {off : Int} {t : Nat} (hd : decode M.2.1 pc = .ok (.ifCond .le off, 3)) (ht : (pc : Int) + off = (t : Int)) (hc : 0 < a) (k : Y Γ M K0 em K (pc + 3) L (S) σ v) : Y Γ M K0 em K pc L (aI a :: S) σ v := by
  refine y_st k (fun oL oK h => (okS_c.mp h).2) (fun out hB oS => ?_)
  obtain ⟨p, l, e, s, m, args, below, meth, c, ω⟩ := Γ
  intro H locs ls cells slots Q hL oL oK hP hS w
  obtain ⟨oa, -⟩ := okS_c.mp oS
  have ob : in32 (0 : Int) := by decide
  have hq : ¬ (Int32.ofInt a ≤ 0) := by rw [n32_0, n32_le oa ob]; omega
  exact lv_if_le hB.1 hB.2.1 hd ht (fun z => absurd z hq) (fun _ => w)
end YR
