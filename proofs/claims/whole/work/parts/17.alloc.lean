/-! ===== making cells ===== -/
def kNew (K : Kt) (t n sl : Nat) : Kt := (fun a b => if a = K.2.2.1 then none else K.1 a b, fun a => if a = K.2.2.1 then (t, n) else K.2.1 a, K.2.2.1 + 1, K.2.2.2 + sl)
def sNew (K : Kt) (σ : Sg) : Sg := fun a b => if a = K.2.2.1 then 0 else σ a b
def kRef (K : Kt) (q j : Nat) (r : Option Nat) : Kt := (upR K.1 q j r, K.2)
theorem kNew_ne {ω : Wd} {K : Kt} {σ : Sg} {t n sl j : Nat} (h : j < K.2.2.1) : cellE ω (kNew K t n sl) (sNew K σ) j = cellE ω K σ j := by
  have hj : ¬ j = K.2.2.1 := by omega
  have e1 : (kNew K t n sl).2.1 j = K.2.1 j := if_neg hj
  have e2 : ∀ b, sNew K σ j b = σ j b := fun b => if_neg hj
  have e3 : ∀ b, (kNew K t n sl).1 j b = K.1 j b := fun b => if_neg hj
  unfold cellE
  simp only [e1, e2, e3]
theorem oks_new {K : Kt} {σ : Sg} {t n sl : Nat} (h : oks K σ) : oks (kNew K t n sl) (sNew K σ) := by
  intro k j
  by_cases hk : k = K.2.2.1
  · have e : sNew K σ k j = 0 := if_pos hk
    rw [e]
    exact ⟨by decide, fun _ => by decide⟩
  · have e : sNew K σ k j = σ k j := if_neg hk
    have e1 : (kNew K t n sl).2.1 k = K.2.1 k := if_neg hk
    have e2 : lng (kNew K t n sl) k j = lng K k j := by unfold lng; rw [e1]
    rw [e, e2]
    exact h k j
theorem wqq {p : Program} {l : Launch} {e : Env} {R : Room} {s : State} {m : MethodId} {args : Array Value} {below : List Frame} {meth : Method} {c : Code} {H : Heap} {locs : List Loc} {slots q : Nat} {Q : State → Prop} {g : JFrame} {ω : Wd} {K0 K : Kt} {σ : Sg} {x : va_E}
    (hs : s.heap.size = ω.1 + K0.2.2.1) (hg : Gr K0 K) (hP : va_P ω.2.1 vwCl (ww ω K σ ++ [(q, x)]) H) (hD : va_D (fun q => ω.1 ≤ q) (ww ω K σ ++ [(q, x)]))
    (k : q = ω.1 + K.2.2.1 → W p l e R s m args below meth c H locs (K.2.2.1 - K0.2.2.1 + 1) slots Q g) : W p l e R s m args below meth c H locs (K.2.2.1 - K0.2.2.1 + 1) slots Q g := by
  intro T hT X
  refine k ?_ T hT X
  have h1 := X.heapSize
  rw [hT] at h1
  have h2 := hg.1
  have hlen : (ww ω K σ).length = K.2.2.1 := by simp [ww]
  have hq : (ww ω K σ ++ [(q, x)])[K.2.2.1]? = some (q, x) := by rw [List.getElem?_append_right (by omega)]; simp [hlen]
  have h3 : q < H.size := (hP K.2.2.1 _ hq).lt
  have h4 : ω.1 ≤ q := hD.2 K.2.2.1 _ hq
  by_cases h5 : q - ω.1 < K.2.2.1
  · have h6 : (ww ω K σ ++ [(q, x)])[q - ω.1]? = some (ω.1 + (q - ω.1), cellE ω K σ (q - ω.1)) := by rw [List.getElem?_append_left (by omega)]; exact ww_get h5
    have h7 := hD.1 K.2.2.1 (q - ω.1) _ _ hq h6 (by show q = ω.1 + (q - ω.1); omega)
    omega
  · omega
def okT (t : FieldType) : Bool := match t with
  | .int => true
  | .boolean => true
  | .long => true
  | .object _ => true
  | .array _ => true
  | _ => false
theorem okT_all : ∀ c, c < 11 → ∀ j, j < nfs c → okT (tyOf c j) = true := by decide +kernel
theorem dflt_fld {ω : Wd} {t : FieldType} (h : okT t = true) : defaultValue t = fldV ω t 0 none := by
  cases t <;> first | rfl | cases h
section YN
variable {α : Type} {Γ : Gx} {M : Mt} {K0 K : Kt} {em : α → Out} {pc : Nat} {L : List (Option AV)} {S : List AV} {σ : Sg} {v : Option α}
theorem y_new {idx c : Nat} (hcl : Cond.classLink M.1.cls idx (clR c) ∈ gwt) (hin : Cond.instantiable (clR c) (nfs c) ∈ gwt) (hini : Cond.initialized (clR c) ∈ gwt) (hc : c < 11) (hd : decode M.2.1 pc = .ok (.new idx, 3)) (k : Y Γ M K0 em (kNew K c 0 (nfs c)) (pc + 3) L (aR K.2.2.1 :: S) (sNew K σ) v) : Y Γ M K0 em K pc L S σ v := by
  intro o ho
  obtain ⟨hn, hk⟩ := k o ho
  have n1 : K.2.2.1 + 1 ≤ (em o).2.1.2.2.1 := hn.1
  have n2 : K.2.2.2 + nfs c ≤ (em o).2.1.2.2.2 := hn.2
  refine ⟨⟨by omega, by omega⟩, fun h0 hB => ?_⟩
  have g1 := h0.1
  have g2 := h0.2
  have g0 : Gr K0 (kNew K c 0 (nfs c)) := ⟨by show _ ≤ K.2.2.1 + 1; omega, by show _ ≤ K.2.2.2 + nfs c; omega⟩
  have hk2 := hk g0 hB
  obtain ⟨p, l, e, s, m, args, below, meth, c0, ω⟩ := Γ
  intro H locs ls hz hL oL oS oK hH hP hS
  have hts := hB.2.2.2.2.2.2.2.1
  have hsz := hB.2.2.2.2.2.2.2.2.2.1
  refine va_new (D := ω.2.1) (tys := tys6 ω) (own := M.1.cls) (C := clR c) (T := clT c) (N := nfs c) (fs := (List.range (nfs c)).map (fun j => fldV ω (tyOf c j) 0 none)) hB.1 hB.2.1 hts (cl_in c hc) (tyOf c) (cl_ty c hc) hB.2.2.2.1 (hts _ hcl) (hts _ hin) (hts _ hini) hB.2.2.2.2.2.2.2.2.1 hP ww_D hS (fun q h => by show ω.1 ≤ q; omega) (cl_at hc) (fun j hj => ?_) ?_ ?_ hd (fun q H1 hP1 hD1 hS1 => ?_)
  · rw [dflt_fld (ω := ω) (okT_all c hc j hj)]
    simp [vp_V, hj]
  · show K.2.2.1 - K0.2.2.1 + 1 ≤ (em o).2.1.2.2.1 - K0.2.2.1
    omega
  · show K.2.2.2 - K0.2.2.2 + nfs c ≤ (em o).2.1.2.2.2 - K0.2.2.2
    omega
  · refine wqq hsz h0 hP1 hD1 (fun hq => ?_)
    have e1 : (kNew K c 0 (nfs c)).2.1 K.2.2.1 = (c, 0) := if_pos rfl
    rw [ww_push (K' := kNew K c 0 (nfs c)) (σ' := sNew K σ) rfl hq (by rw [cellE_o (c := c) (by rw [e1]) hc]; simp [sNew, kNew]) (fun j hj => kNew_ne hj)] at hP1
    refine W.cs (cells' := (kNew K c 0 (nfs c)).2.2.1 - K0.2.2.1) (slots' := (kNew K c 0 (nfs c)).2.2.2 - K0.2.2.2) (by show _ = K.2.2.1 + 1 - K0.2.2.1; omega) (by show _ = K.2.2.2 + nfs c - K0.2.2.2; omega) ?_
    refine wsz hsz g0 hP1 hS1 (fun hH1 => ?_)
    have := hk2 H1 locs ls hz hL oL (okS_c.mpr ⟨trivial, oS⟩) (oks_new oK) hH1 hP1 hS1
    rw [hq]
    exact this
end YN
section YO
variable {α β : Type} {Γ : Gx} {M : Mt} {K0 K : Kt} {em : α → Out} {pc : Nat} {L : List (Option AV)} {S S0 : List AV} {σ : Sg} {v : Option α}
theorem y_newarr_int {z : Int} (hz0 : 0 ≤ z ∧ z ≤ 1000000) (hw : Cond.arrayClass .int ∈ gwt) (hd : decode M.2.1 pc = .ok (.newarray .int, 2)) (k : Y Γ M K0 em (kNew K 20 z.toNat z.toNat) (pc + 2) L (aR K.2.2.1 :: S) (sNew K σ) v) : Y Γ M K0 em K pc L (aI z :: S) σ v := by
  intro o ho
  obtain ⟨hn, hk⟩ := k o ho
  have n1 : K.2.2.1 + 1 ≤ (em o).2.1.2.2.1 := hn.1
  have n2 : K.2.2.2 + z.toNat ≤ (em o).2.1.2.2.2 := hn.2
  refine ⟨⟨by omega, by omega⟩, fun h0 hB => ?_⟩
  have g1 := h0.1
  have g2 := h0.2
  have g0 : Gr K0 (kNew K 20 z.toNat z.toNat) := ⟨by show _ ≤ K.2.2.1 + 1; omega, by show _ ≤ K.2.2.2 + z.toNat; omega⟩
  have hk2 := hk g0 hB
  obtain ⟨p, l, e, s, m, args, below, meth, c0, ω⟩ := Γ
  intro H locs ls hz hL oL oS oK hH hP hS
  have hts := hB.2.2.2.2.2.2.2.1
  have hsz := hB.2.2.2.2.2.2.2.2.2.1
  have hKs := hB.2.2.2.2.2.2.2.2.1
  obtain ⟨oz, oS1⟩ := okS_c.mp oS
  refine va_newa (D := ω.2.1) (tys := tys6 ω) (ty := .int) hB.1 hB.2.1 (atype := .int) (hts _ hw) rfl hKs hP ww_D hS (fun q h => by show ω.1 ≤ q; omega) (N' := z.toNat) (a0 := (z.toNat, .inl (fun _ => Int32.ofInt 0))) (fun cA => rfl) (fun hh => ?_) (n32_cl oz) (by show z.toNat * 4 ≤ 536870912; omega) ?_ ?_ hd (fun q cA H1 hK1 hP1 hD1 hS1 => ?_)
  · rw [n32_0, n32_lt oz (by decide)] at hh
    omega
  · show K.2.2.1 - K0.2.2.1 + 1 ≤ (em o).2.1.2.2.1 - K0.2.2.1
    omega
  · show K.2.2.2 - K0.2.2.2 + z.toNat ≤ (em o).2.1.2.2.2 - K0.2.2.2
    omega
  · have hcA : cA = ω.2.2.1 0 := Option.some.inj ((hK1.2 6 (cA, .int) rfl).2.symm.trans (hKs.2 0 (ω.2.2.1 0, .int) rfl).2)
    subst hcA
    refine wqq hsz h0 hP1 hD1 (fun hq => ?_)
    have e1 : (kNew K 20 z.toNat z.toNat).2.1 K.2.2.1 = (20, z.toNat) := if_pos rfl
    rw [ww_push (K' := kNew K 20 z.toNat z.toNat) (σ' := sNew K σ) rfl hq (by rw [cellE_i e1]; simp [sNew]) (fun j hj => kNew_ne hj)] at hP1
    refine W.cs (cells' := (kNew K 20 z.toNat z.toNat).2.2.1 - K0.2.2.1) (slots' := (kNew K 20 z.toNat z.toNat).2.2.2 - K0.2.2.2) (by show _ = K.2.2.1 + 1 - K0.2.2.1; omega) (by show _ = K.2.2.2 + z.toNat - K0.2.2.2; omega) ?_
    refine wsz hsz g0 hP1 hS1 (fun hH1 => ?_)
    have := hk2 H1 locs ls hz hL oL (okS_c.mpr ⟨trivial, oS1⟩) (oks_new oK) hH1 hP1 hS1
    rw [hq]
    exact this
theorem y_newarr_long {z : Int} (hz0 : 0 ≤ z ∧ z ≤ 1000000) (hw : Cond.arrayClass .long ∈ gwt) (hd : decode M.2.1 pc = .ok (.newarray .long, 2)) (k : Y Γ M K0 em (kNew K 21 z.toNat z.toNat) (pc + 2) L (aR K.2.2.1 :: S) (sNew K σ) v) : Y Γ M K0 em K pc L (aI z :: S) σ v := by
  intro o ho
  obtain ⟨hn, hk⟩ := k o ho
  have n1 : K.2.2.1 + 1 ≤ (em o).2.1.2.2.1 := hn.1
  have n2 : K.2.2.2 + z.toNat ≤ (em o).2.1.2.2.2 := hn.2
  refine ⟨⟨by omega, by omega⟩, fun h0 hB => ?_⟩
  have g1 := h0.1
  have g2 := h0.2
  have g0 : Gr K0 (kNew K 21 z.toNat z.toNat) := ⟨by show _ ≤ K.2.2.1 + 1; omega, by show _ ≤ K.2.2.2 + z.toNat; omega⟩
  have hk2 := hk g0 hB
  obtain ⟨p, l, e, s, m, args, below, meth, c0, ω⟩ := Γ
  intro H locs ls hz hL oL oS oK hH hP hS
  have hts := hB.2.2.2.2.2.2.2.1
  have hsz := hB.2.2.2.2.2.2.2.2.2.1
  have hKs := hB.2.2.2.2.2.2.2.2.1
  obtain ⟨oz, oS1⟩ := okS_c.mp oS
  refine va_newa (D := ω.2.1) (tys := tys6 ω) (ty := .long) hB.1 hB.2.1 (atype := .long) (hts _ hw) rfl hKs hP ww_D hS (fun q h => by show ω.1 ≤ q; omega) (N' := z.toNat) (a0 := (z.toNat, .inr (.inl (fun _ => Int64.ofInt 0)))) (fun cA => rfl) (fun hh => ?_) (n32_cl oz) (by show z.toNat * 8 ≤ 536870912; omega) ?_ ?_ hd (fun q cA H1 hK1 hP1 hD1 hS1 => ?_)
  · rw [n32_0, n32_lt oz (by decide)] at hh
    omega
  · show K.2.2.1 - K0.2.2.1 + 1 ≤ (em o).2.1.2.2.1 - K0.2.2.1
    omega
  · show K.2.2.2 - K0.2.2.2 + z.toNat ≤ (em o).2.1.2.2.2 - K0.2.2.2
    omega
  · have hcA : cA = ω.2.2.1 1 := Option.some.inj ((hK1.2 6 (cA, .long) rfl).2.symm.trans (hKs.2 1 (ω.2.2.1 1, .long) rfl).2)
    subst hcA
    refine wqq hsz h0 hP1 hD1 (fun hq => ?_)
    have e1 : (kNew K 21 z.toNat z.toNat).2.1 K.2.2.1 = (21, z.toNat) := if_pos rfl
    rw [ww_push (K' := kNew K 21 z.toNat z.toNat) (σ' := sNew K σ) rfl hq (by rw [cellE_l e1]; simp [sNew]) (fun j hj => kNew_ne hj)] at hP1
    refine W.cs (cells' := (kNew K 21 z.toNat z.toNat).2.2.1 - K0.2.2.1) (slots' := (kNew K 21 z.toNat z.toNat).2.2.2 - K0.2.2.2) (by show _ = K.2.2.1 + 1 - K0.2.2.1; omega) (by show _ = K.2.2.2 + z.toNat - K0.2.2.2; omega) ?_
    refine wsz hsz g0 hP1 hS1 (fun hH1 => ?_)
    have := hk2 H1 locs ls hz hL oL (okS_c.mpr ⟨trivial, oS1⟩) (oks_new oK) hH1 hP1 hS1
    rw [hq]
    exact this
theorem y_newarr_boolean {z : Int} (hz0 : 0 ≤ z ∧ z ≤ 1000000) (hw : Cond.arrayClass .boolean ∈ gwt) (hd : decode M.2.1 pc = .ok (.newarray .boolean, 2)) (k : Y Γ M K0 em (kNew K 22 z.toNat z.toNat) (pc + 2) L (aR K.2.2.1 :: S) (sNew K σ) v) : Y Γ M K0 em K pc L (aI z :: S) σ v := by
  intro o ho
  obtain ⟨hn, hk⟩ := k o ho
  have n1 : K.2.2.1 + 1 ≤ (em o).2.1.2.2.1 := hn.1
  have n2 : K.2.2.2 + z.toNat ≤ (em o).2.1.2.2.2 := hn.2
  refine ⟨⟨by omega, by omega⟩, fun h0 hB => ?_⟩
  have g1 := h0.1
  have g2 := h0.2
  have g0 : Gr K0 (kNew K 22 z.toNat z.toNat) := ⟨by show _ ≤ K.2.2.1 + 1; omega, by show _ ≤ K.2.2.2 + z.toNat; omega⟩
  have hk2 := hk g0 hB
  obtain ⟨p, l, e, s, m, args, below, meth, c0, ω⟩ := Γ
  intro H locs ls hz hL oL oS oK hH hP hS
  have hts := hB.2.2.2.2.2.2.2.1
  have hsz := hB.2.2.2.2.2.2.2.2.2.1
  have hKs := hB.2.2.2.2.2.2.2.2.1
  obtain ⟨oz, oS1⟩ := okS_c.mp oS
  refine va_newa (D := ω.2.1) (tys := tys6 ω) (ty := .boolean) hB.1 hB.2.1 (atype := .boolean) (hts _ hw) rfl hKs hP ww_D hS (fun q h => by show ω.1 ≤ q; omega) (N' := z.toNat) (a0 := (z.toNat, .inl (fun _ => Int32.ofInt 0))) (fun cA => rfl) (fun hh => ?_) (n32_cl oz) (by show z.toNat * 1 ≤ 536870912; omega) ?_ ?_ hd (fun q cA H1 hK1 hP1 hD1 hS1 => ?_)
  · rw [n32_0, n32_lt oz (by decide)] at hh
    omega
  · show K.2.2.1 - K0.2.2.1 + 1 ≤ (em o).2.1.2.2.1 - K0.2.2.1
    omega
  · show K.2.2.2 - K0.2.2.2 + z.toNat ≤ (em o).2.1.2.2.2 - K0.2.2.2
    omega
  · have hcA : cA = ω.2.2.1 2 := Option.some.inj ((hK1.2 6 (cA, .boolean) rfl).2.symm.trans (hKs.2 2 (ω.2.2.1 2, .boolean) rfl).2)
    subst hcA
    refine wqq hsz h0 hP1 hD1 (fun hq => ?_)
    have e1 : (kNew K 22 z.toNat z.toNat).2.1 K.2.2.1 = (22, z.toNat) := if_pos rfl
    rw [ww_push (K' := kNew K 22 z.toNat z.toNat) (σ' := sNew K σ) rfl hq (by rw [cellE_z e1]; simp [sNew]) (fun j hj => kNew_ne hj)] at hP1
    refine W.cs (cells' := (kNew K 22 z.toNat z.toNat).2.2.1 - K0.2.2.1) (slots' := (kNew K 22 z.toNat z.toNat).2.2.2 - K0.2.2.2) (by show _ = K.2.2.1 + 1 - K0.2.2.1; omega) (by show _ = K.2.2.2 + z.toNat - K0.2.2.2; omega) ?_
    refine wsz hsz g0 hP1 hS1 (fun hH1 => ?_)
    have := hk2 H1 locs ls hz hL oL (okS_c.mpr ⟨trivial, oS1⟩) (oks_new oK) hH1 hP1 hS1
    rw [hq]
    exact this
theorem y_anew_23 {z : Int} {idx : Nat} (hz0 : 0 ≤ z ∧ z ≤ 1000000) (hw : Cond.classLink M.1.cls idx RX7 ∈ gwt) (hd : decode M.2.1 pc = .ok (.anewarray idx, 3)) (k : Y Γ M K0 em (kNew K 23 z.toNat z.toNat) (pc + 3) L (aR K.2.2.1 :: S) (sNew K σ) v) : Y Γ M K0 em K pc L (aI z :: S) σ v := by
  intro o ho
  obtain ⟨hn, hk⟩ := k o ho
  have n1 : K.2.2.1 + 1 ≤ (em o).2.1.2.2.1 := hn.1
  have n2 : K.2.2.2 + z.toNat ≤ (em o).2.1.2.2.2 := hn.2
  refine ⟨⟨by omega, by omega⟩, fun h0 hB => ?_⟩
  have g1 := h0.1
  have g2 := h0.2
  have g0 : Gr K0 (kNew K 23 z.toNat z.toNat) := ⟨by show _ ≤ K.2.2.1 + 1; omega, by show _ ≤ K.2.2.2 + z.toNat; omega⟩
  have hk2 := hk g0 hB
  obtain ⟨p, l, e, s, m, args, below, meth, c0, ω⟩ := Γ
  intro H locs ls hz hL oL oS oK hH hP hS
  have hts := hB.2.2.2.2.2.2.2.1
  have hsz := hB.2.2.2.2.2.2.2.2.2.1
  have hKs := hB.2.2.2.2.2.2.2.2.1
  obtain ⟨oz, oS1⟩ := okS_c.mp oS
  refine va_newq (D := ω.2.1) (tys := tys6 ω) hB.1 hB.2.1 hB.2.2.2.1 (hts _ hw) (hB.2.2.2.2.2.2.2.2.2.2.2.2.2.1) hKs hP ww_D hS (fun q h => by show ω.1 ≤ q; omega) (N' := z.toNat) (fun hh => ?_) (n32_cl oz) (by omega) ?_ ?_ hd (fun q cA H1 hK1 hP1 hD1 hS1 => ?_)
  · rw [n32_0, n32_lt oz (by decide)] at hh
    omega
  · show K.2.2.1 - K0.2.2.1 + 1 ≤ (em o).2.1.2.2.1 - K0.2.2.1
    omega
  · show K.2.2.2 - K0.2.2.2 + z.toNat ≤ (em o).2.1.2.2.2 - K0.2.2.2
    omega
  · have hcA : cA = ω.2.2.1 3 := by
      obtain ⟨_, _, -, -, -, u1⟩ := (hK1.2 6 (cA, .object RX7) rfl).2
      obtain ⟨_, _, -, -, -, u2⟩ := (hKs.2 3 (ω.2.2.1 3, .object RX7) rfl).2
      exact Option.some.inj (u1.symm.trans u2)
    subst hcA
    refine wqq hsz h0 hP1 hD1 (fun hq => ?_)
    have e1 : (kNew K 23 z.toNat z.toNat).2.1 K.2.2.1 = (23, z.toNat) := if_pos rfl
    rw [ww_push (K' := kNew K 23 z.toNat z.toNat) (σ' := sNew K σ) rfl hq (by rw [cellE_q e1 (by decide)]; simp [kNew]) (fun j hj => kNew_ne hj)] at hP1
    refine W.cs (cells' := (kNew K 23 z.toNat z.toNat).2.2.1 - K0.2.2.1) (slots' := (kNew K 23 z.toNat z.toNat).2.2.2 - K0.2.2.2) (by show _ = K.2.2.1 + 1 - K0.2.2.1; omega) (by show _ = K.2.2.2 + z.toNat - K0.2.2.2; omega) ?_
    refine wsz hsz g0 hP1 hS1 (fun hH1 => ?_)
    have := hk2 H1 locs ls hz hL oL (okS_c.mpr ⟨trivial, oS1⟩) (oks_new oK) hH1 hP1 hS1
    rw [hq]
    exact this
theorem y_anew_24 {z : Int} {idx : Nat} (hz0 : 0 ≤ z ∧ z ≤ 1000000) (hw : Cond.classLink M.1.cls idx RX1 ∈ gwt) (hd : decode M.2.1 pc = .ok (.anewarray idx, 3)) (k : Y Γ M K0 em (kNew K 24 z.toNat z.toNat) (pc + 3) L (aR K.2.2.1 :: S) (sNew K σ) v) : Y Γ M K0 em K pc L (aI z :: S) σ v := by
  intro o ho
  obtain ⟨hn, hk⟩ := k o ho
  have n1 : K.2.2.1 + 1 ≤ (em o).2.1.2.2.1 := hn.1
  have n2 : K.2.2.2 + z.toNat ≤ (em o).2.1.2.2.2 := hn.2
  refine ⟨⟨by omega, by omega⟩, fun h0 hB => ?_⟩
  have g1 := h0.1
  have g2 := h0.2
  have g0 : Gr K0 (kNew K 24 z.toNat z.toNat) := ⟨by show _ ≤ K.2.2.1 + 1; omega, by show _ ≤ K.2.2.2 + z.toNat; omega⟩
  have hk2 := hk g0 hB
  obtain ⟨p, l, e, s, m, args, below, meth, c0, ω⟩ := Γ
  intro H locs ls hz hL oL oS oK hH hP hS
  have hts := hB.2.2.2.2.2.2.2.1
  have hsz := hB.2.2.2.2.2.2.2.2.2.1
  have hKs := hB.2.2.2.2.2.2.2.2.1
  obtain ⟨oz, oS1⟩ := okS_c.mp oS
  refine va_newq (D := ω.2.1) (tys := tys6 ω) hB.1 hB.2.1 hB.2.2.2.1 (hts _ hw) (hB.2.2.2.2.2.2.2.2.2.2.2.2.2.2.1) hKs hP ww_D hS (fun q h => by show ω.1 ≤ q; omega) (N' := z.toNat) (fun hh => ?_) (n32_cl oz) (by omega) ?_ ?_ hd (fun q cA H1 hK1 hP1 hD1 hS1 => ?_)
  · rw [n32_0, n32_lt oz (by decide)] at hh
    omega
  · show K.2.2.1 - K0.2.2.1 + 1 ≤ (em o).2.1.2.2.1 - K0.2.2.1
    omega
  · show K.2.2.2 - K0.2.2.2 + z.toNat ≤ (em o).2.1.2.2.2 - K0.2.2.2
    omega
  · have hcA : cA = ω.2.2.1 4 := by
      obtain ⟨_, _, -, -, -, u1⟩ := (hK1.2 6 (cA, .object RX1) rfl).2
      obtain ⟨_, _, -, -, -, u2⟩ := (hKs.2 4 (ω.2.2.1 4, .object RX1) rfl).2
      exact Option.some.inj (u1.symm.trans u2)
    subst hcA
    refine wqq hsz h0 hP1 hD1 (fun hq => ?_)
    have e1 : (kNew K 24 z.toNat z.toNat).2.1 K.2.2.1 = (24, z.toNat) := if_pos rfl
    rw [ww_push (K' := kNew K 24 z.toNat z.toNat) (σ' := sNew K σ) rfl hq (by rw [cellE_q e1 (by decide)]; simp [kNew]) (fun j hj => kNew_ne hj)] at hP1
    refine W.cs (cells' := (kNew K 24 z.toNat z.toNat).2.2.1 - K0.2.2.1) (slots' := (kNew K 24 z.toNat z.toNat).2.2.2 - K0.2.2.2) (by show _ = K.2.2.1 + 1 - K0.2.2.1; omega) (by show _ = K.2.2.2 + z.toNat - K0.2.2.2; omega) ?_
    refine wsz hsz g0 hP1 hS1 (fun hH1 => ?_)
    have := hk2 H1 locs ls hz hL oL (okS_c.mpr ⟨trivial, oS1⟩) (oks_new oK) hH1 hP1 hS1
    rw [hq]
    exact this
theorem y_anew_25 {z : Int} {idx : Nat} (hz0 : 0 ≤ z ∧ z ≤ 1000000) (hw : Cond.classLink M.1.cls idx RX2 ∈ gwt) (hd : decode M.2.1 pc = .ok (.anewarray idx, 3)) (k : Y Γ M K0 em (kNew K 25 z.toNat z.toNat) (pc + 3) L (aR K.2.2.1 :: S) (sNew K σ) v) : Y Γ M K0 em K pc L (aI z :: S) σ v := by
  intro o ho
  obtain ⟨hn, hk⟩ := k o ho
  have n1 : K.2.2.1 + 1 ≤ (em o).2.1.2.2.1 := hn.1
  have n2 : K.2.2.2 + z.toNat ≤ (em o).2.1.2.2.2 := hn.2
  refine ⟨⟨by omega, by omega⟩, fun h0 hB => ?_⟩
  have g1 := h0.1
  have g2 := h0.2
  have g0 : Gr K0 (kNew K 25 z.toNat z.toNat) := ⟨by show _ ≤ K.2.2.1 + 1; omega, by show _ ≤ K.2.2.2 + z.toNat; omega⟩
  have hk2 := hk g0 hB
  obtain ⟨p, l, e, s, m, args, below, meth, c0, ω⟩ := Γ
  intro H locs ls hz hL oL oS oK hH hP hS
  have hts := hB.2.2.2.2.2.2.2.1
  have hsz := hB.2.2.2.2.2.2.2.2.2.1
  have hKs := hB.2.2.2.2.2.2.2.2.1
  obtain ⟨oz, oS1⟩ := okS_c.mp oS
  refine va_newq (D := ω.2.1) (tys := tys6 ω) hB.1 hB.2.1 hB.2.2.2.1 (hts _ hw) (hB.2.2.2.2.2.2.2.2.2.2.2.2.2.2.2) hKs hP ww_D hS (fun q h => by show ω.1 ≤ q; omega) (N' := z.toNat) (fun hh => ?_) (n32_cl oz) (by omega) ?_ ?_ hd (fun q cA H1 hK1 hP1 hD1 hS1 => ?_)
  · rw [n32_0, n32_lt oz (by decide)] at hh
    omega
  · show K.2.2.1 - K0.2.2.1 + 1 ≤ (em o).2.1.2.2.1 - K0.2.2.1
    omega
  · show K.2.2.2 - K0.2.2.2 + z.toNat ≤ (em o).2.1.2.2.2 - K0.2.2.2
    omega
  · have hcA : cA = ω.2.2.1 5 := by
      obtain ⟨_, _, -, -, -, u1⟩ := (hK1.2 6 (cA, .object RX2) rfl).2
      obtain ⟨_, _, -, -, -, u2⟩ := (hKs.2 5 (ω.2.2.1 5, .object RX2) rfl).2
      exact Option.some.inj (u1.symm.trans u2)
    subst hcA
    refine wqq hsz h0 hP1 hD1 (fun hq => ?_)
    have e1 : (kNew K 25 z.toNat z.toNat).2.1 K.2.2.1 = (25, z.toNat) := if_pos rfl
    rw [ww_push (K' := kNew K 25 z.toNat z.toNat) (σ' := sNew K σ) rfl hq (by rw [cellE_q e1 (by decide)]; simp [kNew]) (fun j hj => kNew_ne hj)] at hP1
    refine W.cs (cells' := (kNew K 25 z.toNat z.toNat).2.2.1 - K0.2.2.1) (slots' := (kNew K 25 z.toNat z.toNat).2.2.2 - K0.2.2.2) (by show _ = K.2.2.1 + 1 - K0.2.2.1; omega) (by show _ = K.2.2.2 + z.toNat - K0.2.2.2; omega) ?_
    refine wsz hsz g0 hP1 hS1 (fun hH1 => ?_)
    have := hk2 H1 locs ls hz hL oL (okS_c.mpr ⟨trivial, oS1⟩) (oks_new oK) hH1 hP1 hS1
    rw [hq]
    exact this
end YO
theorem cellE_kr {ω : Wd} {K : Kt} {σ : Sg} {q j a : Nat} {r : Option Nat} (h : a ≠ q) : cellE ω (kRef K q j r) σ a = cellE ω K σ a := by
  have e1 : ∀ b, (kRef K q j r).1 a b = K.1 a b := fun b => if_neg (fun z => h z.1)
  have e2 : (kRef K q j r).2.1 a = K.2.1 a := rfl
  unfold cellE
  simp only [e1, e2]
theorem map_set_r {ω : Wd} {K : Kt} {σ : Sg} {q c j : Nat} {r : Option Nat} {x : Value} (hx : fldV ω (tyOf c j) (σ q j) r = x) : ((List.range (nfs c)).map (fun j => fldV ω (tyOf c j) (σ q j) (K.1 q j))).set j x = (List.range (nfs c)).map (fun i => fldV ω (tyOf c i) (σ q i) ((kRef K q j r).1 q i)) := by
  apply List.ext_getElem?
  intro i
  by_cases hi : i < nfs c
  · by_cases hij : i = j
    · subst hij
      rw [List.getElem?_set_self (by simp [hi])]
      simp [hi, kRef, upR, hx]
    · rw [List.getElem?_set_ne (Ne.symm hij)]
      simp [hi, kRef, upR, hij]
  · rw [List.getElem?_eq_none (by simp; omega), List.getElem?_eq_none (by simp; omega)]
section YP
variable {α β : Type} {Γ : Gx} {M : Mt} {K0 K : Kt} {em : α → Out} {pc : Nat} {L : List (Option AV)} {S S0 : List AV} {σ : Sg} {v : Option α}
/-- a step that writes a reference -/
theorem y_wrR {pc' : Nat} {S' : List AV} {q j : Nat} {r : Option Nat} (k : Y Γ M K0 em (kRef K q j r) pc' L S' σ v) (hok : okS S → okS S') (h : ∀ (out : Out), Bd Γ M K0 → okS S → match Γ with
    | (p, l, e, s, m, args, below, meth, c, ω) => ∀ (H : Heap) (locs : List Loc) (ls : Array Slot) (cells slots : Nat) (Q : State → Prop), va_P ω.2.1 vwCl (ww ω K σ) H → va_S (fun q => ω.1 ≤ q) s.heap H locs → (∀ (H1 : Heap) (locs1 : List Loc), va_P ω.2.1 vwCl (ww ω (kRef K q j r) σ) H1 → va_S (fun q => ω.1 ≤ q) s.heap H1 locs1 → W p l e (rmo M.2.2.2.2 K0 out.2.1) s m args below meth c H1 locs1 cells slots Q (F0 m pc' ls (S'.map (cv ω)))) → W p l e (rmo M.2.2.2.2 K0 out.2.1) s m args below meth c H locs cells slots Q (F0 m pc ls (S.map (cv ω)))) : Y Γ M K0 em K pc L S σ v := by
  intro o ho
  obtain ⟨hn, hk⟩ := k o ho
  refine ⟨hn, fun h0 hB => ?_⟩
  have h1 := h (em o) hB
  have h2 := hk h0 hB
  obtain ⟨p, l, e, s, m, args, below, meth, c, ω⟩ := Γ
  intro H locs ls hz hL oL oS oK hH hP hS
  exact h1 oS H locs ls _ _ _ hP hS (fun H1 locs1 hP1 hS1 => wsz (K := kRef K q j r) hB.2.2.2.2.2.2.2.2.2.1 h0 hP1 hS1 (fun hH1 => h2 H1 locs1 ls hz hL oL (hok oS) oK hH1 hP1 hS1))
theorem y_putR {idx c j q : Nat} {r : Option Nat} (hf : FA M.1.cls idx c j) (hq : IsC K q c) (ht : refT (tyOf c j) = true) (hfin : (clT c j).2.2.2 = true) (hi : M.1.name = "<init>") (hdecl : (clT c j).1 = M.1.cls) (hd : decode M.2.1 pc = .ok (.putfield idx, 3)) (k : Y Γ M K0 em (kRef K q j r) (pc + 3) L S σ v) : Y Γ M K0 em K pc L (aQ r :: aR q :: S) σ v := by
  obtain ⟨hf, hc, hj⟩ := hf
  refine y_wrR k (fun h => (okS_c.mp (okS_c.mp h).2).2) (fun out hB oS => ?_)
  obtain ⟨p, l, e, s, m, args, below, meth, c0, ω⟩ := Γ
  intro H locs ls cells slots Q hP hS w
  have he := ww_get (ω := ω) (σ := σ) hq.1
  rw [cellE_o hq.2 hc] at he
  have hnar : narrow (tyOf c j) (va_rf (r.map (fun k => ω.1 + k))) = va_rf (r.map (fun k => ω.1 + k)) ∧ fits (tyOf c j) (va_rf (r.map (fun k => ω.1 + k))) = true := by
    generalize tyOf c j = t at ht
    cases t <;> first | (cases ht; done) | (cases r <;> exact ⟨rfl, rfl⟩)
  refine va_putF (D := ω.2.1) (tys := tys6 ω) (own := M.1.cls) (ref := (clT c j).1) (ty := tyOf c j) hB.1 hB.2.1 hB.2.2.2.2.2.2.2.1 (cl_in c hc) (tyOf c) (cl_ty c hc) (cl_nm c hc) hB.2.2.2.1 hB.2.2.2.2.2.2.2.2.1 hP ww_D hS q he (cl_at hc) j hj (hB.2.2.2.2.2.2.2.1 _ hf) (fun _ h => h) hfin (hB.2.2.2.2.2.2.1.trans hi) hdecl (cl_ty c hc j hj) hnar.1 hnar.2 (by simp [hj]) hd (fun H1 locs1 hP1 hD1 hS1 => ?_)
  rw [ww_set (K := K) (σ := σ) (K' := kRef K q j r) (σ' := σ) rfl (by rw [cellE_o (K := kRef K q j r) (show ((kRef K q j r).2.1 q).1 = c from hq.2) hc, map_set_r (x := cv ω (aQ r)) (r := r) (fldV_r ht)]) (fun a ha => cellE_kr ha)] at hP1
  exact w H1 locs1 hP1 hS1
theorem kr_arr {ω : Wd} (K : Kt) (q n : Nat) (r : Option Nat) : (fun i => ((kRef K q n r).1 q i).map (fun x => ω.1 + x)) = va_up (fun i => (K.1 q i).map (fun x => ω.1 + x)) n (r.map (fun x => ω.1 + x)) := by
  funext i
  by_cases hi : i = n
  · subst hi; simp [kRef, upR, va_up]
  · simp [kRef, upR, va_up, hi]
theorem y_aastore {q n t c x : Nat} {i : Int} (ht : (t = 23 ∧ c = 7) ∨ (t = 24 ∧ c = 1) ∨ (t = 25 ∧ c = 2)) (hq : IsA K q t n) (hx : IsC K x c) (hi : 0 ≤ i ∧ i < (n : Int)) (hd : decode M.2.1 pc = .ok (.aastore, 1)) (k : Y Γ M K0 em (kRef K q i.toNat (some x)) (pc + 1) L S σ v) : Y Γ M K0 em K pc L (aR x :: aI i :: aR q :: S) σ v := by
  refine y_wrR k (fun h => (okS_c.mp (okS_c.mp (okS_c.mp h).2).2).2) (fun out hB oS => ?_)
  obtain ⟨p, l, e, s, m, args, below, meth, c0, ω⟩ := Γ
  intro H locs ls cells slots Q hP hS w
  obtain ⟨-, oS1⟩ := okS_c.mp oS
  obtain ⟨oi, -⟩ := okS_c.mp oS1
  have ht3 : t = 23 ∨ t = 24 ∨ t = 25 := by omega
  have hc : c < 11 := by omega
  have he := ww_get (ω := ω) (σ := σ) hq.1
  rw [cellE_q hq.2 ht3] at he
  have hex := ww_get (ω := ω) (σ := σ) hx.1
  rw [cellE_o hx.2 hc] at hex
  have hC : (tys6 ω)[t - 20]? = some (ω.2.2.1 (t - 20), .object (clR c)) := by
    rcases ht with ⟨rfl, rfl⟩ | ⟨rfl, rfl⟩ | ⟨rfl, rfl⟩ <;> rfl
  refine va_astq (D := ω.2.1) (tys := tys6 ω) (r := (clR c, clT c, nfs c)) hB.1 hB.2.1 hB.2.2.2.2.2.2.2.2.1 hP ww_D hS q (t - 20) x c he hC hex (cl_at hc) (n32_in oi hi.1 hi.2) hd (fun H1 locs1 hP1 hD1 hS1 => ?_)
  rw [n32_cl oi, ww_set (K := K) (σ := σ) (K' := kRef K q i.toNat (some x)) (σ' := σ) rfl (by rw [cellE_q (K := kRef K q i.toNat (some x)) (show (kRef K q i.toNat (some x)).2.1 q = (t, n) from hq.2) ht3, kr_arr]; rfl) (fun a ha => cellE_kr ha)] at hP1
  exact w H1 locs1 hP1 hS1
theorem y_aastoreN {q n t c : Nat} {i : Int} (ht : (t = 23 ∧ c = 7) ∨ (t = 24 ∧ c = 1) ∨ (t = 25 ∧ c = 2)) (hq : IsA K q t n) (hi : 0 ≤ i ∧ i < (n : Int)) (hd : decode M.2.1 pc = .ok (.aastore, 1)) (k : Y Γ M K0 em (kRef K q i.toNat none) (pc + 1) L S σ v) : Y Γ M K0 em K pc L (aQ none :: aI i :: aR q :: S) σ v := by
  refine y_wrR k (fun h => (okS_c.mp (okS_c.mp (okS_c.mp h).2).2).2) (fun out hB oS => ?_)
  obtain ⟨p, l, e, s, m, args, below, meth, c0, ω⟩ := Γ
  intro H locs ls cells slots Q hP hS w
  obtain ⟨-, oS1⟩ := okS_c.mp oS
  obtain ⟨oi, -⟩ := okS_c.mp oS1
  have ht3 : t = 23 ∨ t = 24 ∨ t = 25 := by omega
  have he := ww_get (ω := ω) (σ := σ) hq.1
  rw [cellE_q hq.2 ht3] at he
  have hC : (tys6 ω)[t - 20]? = some (ω.2.2.1 (t - 20), .object (clR c)) := by
    rcases ht with ⟨rfl, rfl⟩ | ⟨rfl, rfl⟩ | ⟨rfl, rfl⟩ <;> rfl
  refine va_astqN (D := ω.2.1) (tys := tys6 ω) hB.1 hB.2.1 hB.2.2.2.2.2.2.2.2.1 hP ww_D hS q (t - 20) he hC (n32_in oi hi.1 hi.2) hd (fun H1 locs1 hP1 hD1 hS1 => ?_)
  rw [n32_cl oi, ww_set (K := K) (σ := σ) (K' := kRef K q i.toNat none) (σ' := σ) rfl (by rw [cellE_q (K := kRef K q i.toNat none) (show (kRef K q i.toNat none).2.1 q = (t, n) from hq.2) ht3, kr_arr]; rfl) (fun a ha => cellE_kr ha)] at hP1
  exact w H1 locs1 hP1 hS1
end YP
section YQ
variable {α β : Type} {Γ : Gx} {M : Mt} {K0 K : Kt} {em : α → Out} {pc : Nat} {L : List (Option AV)} {S S0 : List AV} {σ : Sg} {v : Option α}
/-- a call of a constructor of ours -/
def CI (own : String) (idx n : Nat) (M2 : Mt) : Prop := CB own idx n M2 ∧ Cond.methodLink own idx M2.1 ∈ gwt ∧ Cond.instanceMethod M2.1 ∈ gwt ∧ M2.1.name = "<init>" ∧ M2.2.2.2.1 = none
def CIN (own : String) (idx n : Nat) (M2 : Mt) : Prop := CB own idx n M2 ∧ (own, idx, M2.1) ∈ nstM ∧ Cond.instanceMethod M2.1 ∈ gwt ∧ M2.1.name = "<init>" ∧ M2.2.2.2.1 = none
theorem rn_I {M2 : Mt} {idx n q : Nat} {As : List AV} (h : CI M.1.cls idx n M2) (hn : As.length = n) (hdep : M2.2.2.2.2 + 1 ≤ M.2.2.2.2) (hS0 : S0 = As.reverse ++ aR q :: S) (hcat : (S.map catA).sum ≤ 8) (hd : decode M.2.1 pc = .ok (.invokespecial idx, 3)) : Rn Γ M K0 K pc S0 S σ M2 (aR q :: As) := by
  intro outc out2 h0 hg2 hgo hB
  obtain ⟨p, l, e, s, m, args, below, meth, c0, ω⟩ := Γ
  intro H locs ls hls oK hH hP hS hM2
  obtain ⟨⟨h1, h2, h3, h4⟩, h5, h6, h7, h8⟩ := h
  have hts := hB.2.2.2.2.2.2.2.1
  subst hS0
  rw [h8] at hM2 h1
  refine va_runI (Ts := gwt) (own := M.1.cls) (cc := M.2.1) (nL := M.2.2.1) (b := ω.1 + q) (As := As.map (cv ω)) ⟨hB.1, hB.2.1, hB.2.2.1, hB.2.2.2.1, hts⟩ hM2 (cwI n hts (by intro w hw; rcases List.mem_cons.mp hw with rfl | hw; exact gwt_good _ h1; exact gwt_good w hw) rfl rfl rfl (hts _ h2) (hts _ h5) (hts _ h6) h7 h3 ⟨hdep, ?_⟩) ⟨Rep.blind, fun U hU hW => ⟨rfl, Rep.fin oK hH hP hS hB.2.2.2.2.2.2.2.2.1 hB.2.2.2.2.2.2.2.2.2.2 hU hW⟩⟩ rfl (by simp [hn]) hls (by simp [cv, va_rf]) ?_ hd ?_
  · show 8 + (M2.2.2.1 + 11) + 40 * M2.2.2.2.2 ≤ 40 * M.2.2.2.2
    omega
  · exact lv_room (by rw [cat_sum]; exact hcat)
  · have a1 := h0.1; have a2 := h0.2; have b1 := hg2.1; have b2 := hg2.2; have c1 := hgo.1; have c2 := hgo.2
    refine ⟨?_, ?_⟩
    · show K.2.2.1 - K0.2.2.1 + (out2.2.1.2.2.1 - K.2.2.1) ≤ outc.2.1.2.2.1 - K0.2.2.1
      omega
    · show K.2.2.2 - K0.2.2.2 + (out2.2.1.2.2.2 - K.2.2.2) ≤ outc.2.1.2.2.2 - K0.2.2.2
      omega
theorem rn_IN {M2 : Mt} {idx n q : Nat} {As : List AV} (h : CIN M.1.cls idx n M2) (hn : As.length = n) (hdep : M2.2.2.2.2 + 1 ≤ M.2.2.2.2) (hS0 : S0 = As.reverse ++ aR q :: S) (hcat : (S.map catA).sum ≤ 8) (hd : decode M.2.1 pc = .ok (.invokespecial idx, 3)) : Rn Γ M K0 K pc S0 S σ M2 (aR q :: As) := by
  intro outc out2 h0 hg2 hgo hB
  obtain ⟨p, l, e, s, m, args, below, meth, c0, ω⟩ := Γ
  intro H locs ls hls oK hH hP hS hM2
  obtain ⟨⟨h1, h2, h3, h4⟩, h5, h6, h7, h8⟩ := h
  have hts := hB.2.2.2.2.2.2.2.1
  subst hS0
  rw [h8] at hM2 h1
  refine va_runIN (Ts := gwt) (own := M.1.cls) (host := RX9) (cc := M.2.1) (nL := M.2.2.1) (b := ω.1 + q) (As := As.map (cv ω)) ⟨hB.1, hB.2.1, hB.2.2.1, hB.2.2.2.1, hts⟩ hM2 ⟨va_cnB n hts (by intro w hw; rcases List.mem_cons.mp hw with rfl | hw; exact gwt_good _ h1; exact gwt_good w hw) rfl rfl rfl (hB.2.2.2.2.2.2.2.2.2.2.2.2.1.1 _ h5) (hts _ h2) h3 ⟨hdep, ?_⟩, h7, hts _ h6⟩ ⟨Rep.blind, fun U hU hW => ⟨rfl, Rep.fin oK hH hP hS hB.2.2.2.2.2.2.2.2.1 hB.2.2.2.2.2.2.2.2.2.2 hU hW⟩⟩ rfl (by simp [hn]) hls (by simp [cv, va_rf]) ?_ hd ?_
  · show 8 + (M2.2.2.1 + 11) + 40 * M2.2.2.2.2 ≤ 40 * M.2.2.2.2
    omega
  · exact lv_room (by rw [cat_sum]; exact hcat)
  · have a1 := h0.1; have a2 := h0.2; have b1 := hg2.1; have b2 := hg2.2; have c1 := hgo.1; have c2 := hgo.2
    refine ⟨?_, ?_⟩
    · show K.2.2.1 - K0.2.2.1 + (out2.2.1.2.2.1 - K.2.2.1) ≤ outc.2.1.2.2.1 - K0.2.2.1
      omega
    · show K.2.2.2 - K0.2.2.2 + (out2.2.1.2.2.2 - K.2.2.2) ≤ outc.2.1.2.2.2 - K0.2.2.2
      omega
/-- a step that leaves cells, locals alone, and knows how much room is left -/
theorem y_st2 {pc' : Nat} {S' : List AV} (k : Y Γ M K0 em K pc' L S' σ v) (hok : okL L → oks K σ → okS S → okS S') (h : ∀ (out : Out), Bd Γ M K0 → okS S → Gr K0 K → Gr K out.2.1 → match Γ with
    | (p, l, e, s, m, args, below, meth, c, ω) => ∀ (H : Heap) (locs : List Loc) (ls : Array Slot) (Q : State → Prop), ls.size = M.2.2.1 → W p l e (rmo M.2.2.2.2 K0 out.2.1) s m args below meth c H locs (K.2.2.1 - K0.2.2.1) (K.2.2.2 - K0.2.2.2) Q (F0 m pc' ls (S'.map (cv ω))) → W p l e (rmo M.2.2.2.2 K0 out.2.1) s m args below meth c H locs (K.2.2.1 - K0.2.2.1) (K.2.2.2 - K0.2.2.2) Q (F0 m pc ls (S.map (cv ω)))) : Y Γ M K0 em K pc L S σ v := by
  intro o ho
  obtain ⟨hn, hk⟩ := k o ho
  refine ⟨hn, fun h0 hB => ?_⟩
  have h1 := fun oS => h (em o) hB oS h0 hn
  have h2 := hk h0 hB
  obtain ⟨p, l, e, s, m, args, below, meth, c, ω⟩ := Γ
  intro H locs ls hz hL oL oS oK hH hP hS
  exact h1 oS H locs ls _ (hL.1.trans hz) (h2 H locs ls hz hL oL (hok oL oK oS) oK hH hP hS)
theorem y_max {a b : Int} {idx : Nat} (hw : Cond.methodLink M.1.cls idx Lib.Math.max.name ∈ gwt ∧ Cond.static Lib.Math.max.name ∈ gwt ∧ Cond.initialized "java/lang/Math" ∈ gwt ∧ Cond.code Lib.Math.max.name Lib.Math.max.code 2 (some .int) ∈ gwt) (hdep : 2 ≤ M.2.2.2.2) (hcat : (S.map catA).sum ≤ 8) (hd : decode M.2.1 pc = .ok (.invokestatic idx, 3)) (k : Y Γ M K0 em K (pc + 3) L (aI (if a < b then b else a) :: S) σ v) : Y Γ M K0 em K pc L (aI b :: aI a :: S) σ v := by
  refine y_st2 k (fun oL oK h => okS_c.mpr ⟨by obtain ⟨x, y⟩ := okS_c.mp h; show in32 (if a < b then b else a); split; exact x; exact (okS_c.mp y).1, (okS_c.mp (okS_c.mp h).2).2⟩) (fun out hB oS h0 hg => ?_)
  obtain ⟨p, l, e, s, m, args, below, meth, c0, ω⟩ := Γ
  intro H locs ls Q hls w
  obtain ⟨ob, oS1⟩ := okS_c.mp oS
  obtain ⟨oa, -⟩ := okS_c.mp oS1
  have hts := hB.2.2.2.2.2.2.2.1
  have a1 := h0.1; have a2 := h0.2; have b1 := hg.1; have b2 := hg.2
  refine va_mmax hB.1 hB.2.1 (hB.2.2.1.trans hls.symm) hB.2.2.2.1 (hts _ hw.1) (hts _ hw.2.1) (hts _ hw.2.2.1) (hts _ hw.2.2.2) (by show 1 ≤ M.2.2.2.2; omega) (by rw [cat_sum]; show _ + 13 ≤ 40 * M.2.2.2.2; omega) (by show _ ≤ out.2.1.2.2.1 - K0.2.2.1; omega) (by show _ ≤ out.2.1.2.2.2 - K0.2.2.2; omega) hd ?_
  have e1 : (if Int32.ofInt a < Int32.ofInt b then Int32.ofInt b else Int32.ofInt a) = Int32.ofInt (if a < b then b else a) := by
    by_cases h : a < b
    · rw [if_pos h, if_pos ((n32_lt oa ob).mpr h)]
    · rw [if_neg h, if_neg (fun z => h ((n32_lt oa ob).mp z))]
  rw [e1]
  exact w
theorem y_min {a b : Int} {idx : Nat} (hw : Cond.methodLink M.1.cls idx Lib.Math.min.name ∈ gwt ∧ Cond.static Lib.Math.min.name ∈ gwt ∧ Cond.initialized "java/lang/Math" ∈ gwt ∧ Cond.code Lib.Math.min.name Lib.Math.min.code 2 (some .int) ∈ gwt) (hdep : 2 ≤ M.2.2.2.2) (hcat : (S.map catA).sum ≤ 8) (hd : decode M.2.1 pc = .ok (.invokestatic idx, 3)) (k : Y Γ M K0 em K (pc + 3) L (aI (if b < a then b else a) :: S) σ v) : Y Γ M K0 em K pc L (aI b :: aI a :: S) σ v := by
  refine y_st2 k (fun oL oK h => okS_c.mpr ⟨by obtain ⟨x, y⟩ := okS_c.mp h; show in32 (if b < a then b else a); split; exact x; exact (okS_c.mp y).1, (okS_c.mp (okS_c.mp h).2).2⟩) (fun out hB oS h0 hg => ?_)
  obtain ⟨p, l, e, s, m, args, below, meth, c0, ω⟩ := Γ
  intro H locs ls Q hls w
  obtain ⟨ob, oS1⟩ := okS_c.mp oS
  obtain ⟨oa, -⟩ := okS_c.mp oS1
  have hts := hB.2.2.2.2.2.2.2.1
  have a1 := h0.1; have a2 := h0.2; have b1 := hg.1; have b2 := hg.2
  refine va_mmin hB.1 hB.2.1 (hB.2.2.1.trans hls.symm) hB.2.2.2.1 (hts _ hw.1) (hts _ hw.2.1) (hts _ hw.2.2.1) (hts _ hw.2.2.2) (by show 1 ≤ M.2.2.2.2; omega) (by rw [cat_sum]; show _ + 13 ≤ 40 * M.2.2.2.2; omega) (by show _ ≤ out.2.1.2.2.1 - K0.2.2.1; omega) (by show _ ≤ out.2.1.2.2.2 - K0.2.2.2; omega) hd ?_
  have e1 : (if Int32.ofInt b < Int32.ofInt a then Int32.ofInt b else Int32.ofInt a) = Int32.ofInt (if b < a then b else a) := by
    by_cases h : b < a
    · rw [if_pos h, if_pos ((n32_lt ob oa).mpr h)]
    · rw [if_neg h, if_neg (fun z => h ((n32_lt ob oa).mp z))]
  rw [e1]
  exact w
theorem y_objInit {idx q : Nat} (hw : Cond.methodLink M.1.cls idx Lib.objectInit ∈ gwt ∧ Cond.instanceMethod Lib.objectInit ∈ gwt ∧ Cond.code Lib.objectInit ⟨#[0xb1]⟩ 1 none ∈ gwt) (hdep : 1 ≤ M.2.2.2.2) (hcat : (S.map catA).sum ≤ 8) (hd : decode M.2.1 pc = .ok (.invokespecial idx, 3)) (k : Y Γ M K0 em K (pc + 3) L S σ v) : Y Γ M K0 em K pc L (aR q :: S) σ v := by
  refine y_st2 k (fun oL oK h => (okS_c.mp h).2) (fun out hB oS h0 hg => ?_)
  obtain ⟨p, l, e, s, m, args, below, meth, c0, ω⟩ := Γ
  intro H locs ls Q hls w
  have hts := hB.2.2.2.2.2.2.2.1
  have hrm := lv_room (m := m) (pc := pc) (ls := ls) (rest := (aR q :: S).map (cv ω)) (st := S.map (cv ω)) (by rw [cat_sum]; exact hcat)
  exact W.objInit hB.1 hB.2.1 hB.2.2.2.1 (hts _ hw.1) (hts _ hw.2.1) (hts _ hw.2.2) rfl (hls.trans hB.2.2.1.symm) rfl hd (by show 1 ≤ M.2.2.2.2; omega) (by show _ ≤ 40 * M.2.2.2.2; omega) w
end YQ
