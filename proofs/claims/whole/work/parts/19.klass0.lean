def imax (a b : Int) : Int := if a < b then b else a
def imin (a b : Int) : Int := if b < a then b else a
def nw {γ : Type} (q : Nat) (K : Kt) (σ : Sg) (k : Nat → Kt → Sg → γ) : γ := k q K σ
abbrev emVK : Kt × Sg → Out := fun r => (none, r.1, r.2)
abbrev emIK : Int × Kt × Sg → Out := fun r => (some (aI r.1), r.2.1, r.2.2)
abbrev emQK : Option Nat × Kt × Sg → Out := fun r => (some (aQ r.1), r.2.1, r.2.2)
def bdVK {α : Type} (v : Option (Kt × Sg)) (k : Kt → Sg → Option α) : Option α := v.bind (fun p => k p.1 p.2)
def bdIK {α : Type} (v : Option (Int × Kt × Sg)) (k : Int → Kt → Sg → Option α) : Option α := v.bind (fun p => k p.1 p.2.1 p.2.2)
def bdQK {α : Type} (v : Option (Option Nat × Kt × Sg)) (k : Option Nat → Kt → Sg → Option α) : Option α := v.bind (fun p => k p.1 p.2.1 p.2.2)
/-- what making an object of class c needs of the tables -/
def NWd (own : String) (idx c : Nat) : Prop := Cond.classLink own idx (clR c) ∈ gwt ∧ Cond.instantiable (clR c) (nfs c) ∈ gwt ∧ Cond.initialized (clR c) ∈ gwt
section YZ
variable {α β : Type} {Γ : Gx} {M : Mt} {K0 K : Kt} {em : α → Out} {pc : Nat} {L : List (Option AV)} {S S0 : List AV} {σ : Sg} {v : Option α}
theorem y_imax {a b : Int} {idx : Nat} (hw : Cond.methodLink M.1.cls idx Lib.Math.max.name ∈ gwt ∧ Cond.static Lib.Math.max.name ∈ gwt ∧ Cond.initialized "java/lang/Math" ∈ gwt ∧ Cond.code Lib.Math.max.name Lib.Math.max.code 2 (some .int) ∈ gwt) (hdep : 2 ≤ M.2.2.2.2) (hcat : (S.map catA).sum ≤ 8) (hd : decode M.2.1 pc = .ok (.invokestatic idx, 3)) (k : Y Γ M K0 em K (pc + 3) L (aI (imax a b) :: S) σ v) : Y Γ M K0 em K pc L (aI b :: aI a :: S) σ v := y_max hw hdep hcat hd k
theorem y_imin {a b : Int} {idx : Nat} (hw : Cond.methodLink M.1.cls idx Lib.Math.min.name ∈ gwt ∧ Cond.static Lib.Math.min.name ∈ gwt ∧ Cond.initialized "java/lang/Math" ∈ gwt ∧ Cond.code Lib.Math.min.name Lib.Math.min.code 2 (some .int) ∈ gwt) (hdep : 2 ≤ M.2.2.2.2) (hcat : (S.map catA).sum ≤ 8) (hd : decode M.2.1 pc = .ok (.invokestatic idx, 3)) (k : Y Γ M K0 em K (pc + 3) L (aI (imin a b) :: S) σ v) : Y Γ M K0 em K pc L (aI b :: aI a :: S) σ v := y_min hw hdep hcat hd k
theorem yn_new {idx c : Nat} {kk : Nat → Kt → Sg → Option α} (h : NWd M.1.cls idx c) (hc : c < 11) (hd : decode M.2.1 pc = .ok (.new idx, 3)) (k : ∀ q K1 σ1, Y Γ M K0 em K1 (pc + 3) L (aR q :: S) σ1 (kk q K1 σ1)) : Y Γ M K0 em K pc L S σ (nw K.2.2.1 (kNew K c 0 (nfs c)) (sNew K σ) kk) := y_new h.1 h.2.1 h.2.2 hc hd (k _ _ _)
theorem yn_putR {idx c j q : Nat} {r : Option Nat} {kk : Kt → Option α} (hf : FA M.1.cls idx c j) (hq : IsC K q c) (ht : refT (tyOf c j) = true) (hfin : (clT c j).2.2.2 = true) (hi : M.1.name = "<init>") (hdecl : (clT c j).1 = M.1.cls) (hd : decode M.2.1 pc = .ok (.putfield idx, 3)) (k : ∀ K1, Y Γ M K0 em K1 (pc + 3) L S σ (kk K1)) : Y Γ M K0 em K pc L (aQ r :: aR q :: S) σ (nm (kRef K q j r) kk) := y_putR hf hq ht hfin hi hdecl hd (k _)
theorem yn_aastore {q n t c : Nat} {r : Option Nat} {i N : Int} {kk : Kt → Option α} (ht : (t = 23 ∧ c = 7) ∨ (t = 24 ∧ c = 1) ∨ (t = 25 ∧ c = 2)) (hq : IsA K q t n) (hx : ∀ x, r = some x → IsC K x c) (hN : (n : Int) = N) (hd : decode M.2.1 pc = .ok (.aastore, 1)) (k : ∀ K1, Y Γ M K0 em K1 (pc + 1) L S σ (kk K1)) : Y Γ M K0 em K pc L (aQ r :: aI i :: aR q :: S) σ (ck (0 ≤ i ∧ i < N) (nm (kRef K q i.toNat r) kk)) := by
  refine y_ck (fun h => ?_)
  rw [← hN] at h
  cases r with
  | none => exact y_aastoreN ht hq h hd (k _)
  | some x => exact y_aastore ht hq (hx x rfl) h hd (k _)
theorem yn_newarr_int {z : Int} {kk : Nat → Kt → Sg → Option α} (hw : Cond.arrayClass .int ∈ gwt) (hd : decode M.2.1 pc = .ok (.newarray .int, 2)) (k : ∀ q K1 σ1, Y Γ M K0 em K1 (pc + 2) L (aR q :: S) σ1 (kk q K1 σ1)) : Y Γ M K0 em K pc L (aI z :: S) σ (ck (0 ≤ z ∧ z ≤ 1000000) (nw K.2.2.1 (kNew K 20 z.toNat z.toNat) (sNew K σ) kk)) := y_ck (fun h => y_newarr_int h hw hd (k _ _ _))
theorem yn_newarr_long {z : Int} {kk : Nat → Kt → Sg → Option α} (hw : Cond.arrayClass .long ∈ gwt) (hd : decode M.2.1 pc = .ok (.newarray .long, 2)) (k : ∀ q K1 σ1, Y Γ M K0 em K1 (pc + 2) L (aR q :: S) σ1 (kk q K1 σ1)) : Y Γ M K0 em K pc L (aI z :: S) σ (ck (0 ≤ z ∧ z ≤ 1000000) (nw K.2.2.1 (kNew K 21 z.toNat z.toNat) (sNew K σ) kk)) := y_ck (fun h => y_newarr_long h hw hd (k _ _ _))
theorem yn_newarr_boolean {z : Int} {kk : Nat → Kt → Sg → Option α} (hw : Cond.arrayClass .boolean ∈ gwt) (hd : decode M.2.1 pc = .ok (.newarray .boolean, 2)) (k : ∀ q K1 σ1, Y Γ M K0 em K1 (pc + 2) L (aR q :: S) σ1 (kk q K1 σ1)) : Y Γ M K0 em K pc L (aI z :: S) σ (ck (0 ≤ z ∧ z ≤ 1000000) (nw K.2.2.1 (kNew K 22 z.toNat z.toNat) (sNew K σ) kk)) := y_ck (fun h => y_newarr_boolean h hw hd (k _ _ _))
theorem yn_anew_23 {z : Int} {idx : Nat} {kk : Nat → Kt → Sg → Option α} (hw : Cond.classLink M.1.cls idx RX7 ∈ gwt) (hd : decode M.2.1 pc = .ok (.anewarray idx, 3)) (k : ∀ q K1 σ1, Y Γ M K0 em K1 (pc + 3) L (aR q :: S) σ1 (kk q K1 σ1)) : Y Γ M K0 em K pc L (aI z :: S) σ (ck (0 ≤ z ∧ z ≤ 1000000) (nw K.2.2.1 (kNew K 23 z.toNat z.toNat) (sNew K σ) kk)) := y_ck (fun h => y_anew_23 h hw hd (k _ _ _))
theorem yn_anew_24 {z : Int} {idx : Nat} {kk : Nat → Kt → Sg → Option α} (hw : Cond.classLink M.1.cls idx RX1 ∈ gwt) (hd : decode M.2.1 pc = .ok (.anewarray idx, 3)) (k : ∀ q K1 σ1, Y Γ M K0 em K1 (pc + 3) L (aR q :: S) σ1 (kk q K1 σ1)) : Y Γ M K0 em K pc L (aI z :: S) σ (ck (0 ≤ z ∧ z ≤ 1000000) (nw K.2.2.1 (kNew K 24 z.toNat z.toNat) (sNew K σ) kk)) := y_ck (fun h => y_anew_24 h hw hd (k _ _ _))
theorem yn_anew_25 {z : Int} {idx : Nat} {kk : Nat → Kt → Sg → Option α} (hw : Cond.classLink M.1.cls idx RX2 ∈ gwt) (hd : decode M.2.1 pc = .ok (.anewarray idx, 3)) (k : ∀ q K1 σ1, Y Γ M K0 em K1 (pc + 3) L (aR q :: S) σ1 (kk q K1 σ1)) : Y Γ M K0 em K pc L (aI z :: S) σ (ck (0 ≤ z ∧ z ≤ 1000000) (nw K.2.2.1 (kNew K 25 z.toNat z.toNat) (sNew K σ) kk)) := y_ck (fun h => y_anew_25 h hw hd (k _ _ _))
theorem y_ci {M2 : Mt} {idx n q : Nat} {As : List AV} {v2 : Option (Kt × Sg)} {kk : Kt → Sg → Option α} (hC : Cc M2 K (aR q :: As) σ emVK v2) (h : CI M.1.cls idx n M2) (hn : As.length = n) (hdep : M2.2.2.2.2 + 1 ≤ M.2.2.2.2) (hS0 : S0 = As.reverse ++ aR q :: S) (hcat : (S.map catA).sum ≤ 8) (hd : decode M.2.1 pc = .ok (.invokespecial idx, 3)) (k : ∀ K1 σ1, Y Γ M K0 em K1 (pc + 3) L S σ1 (kk K1 σ1)) : Y Γ M K0 em K pc L S0 σ (bdVK v2 kk) := by
  refine y_call (kk := fun p => kk p.1 p.2) (rn_I h hn hdep hS0 hcat hd) hC ?_ ?_ (fun b _ => k b.1 b.2)
  · intro a ha
    rw [hS0]
    rcases List.mem_cons.mp ha with rfl | ha
    · exact List.mem_append_right _ List.mem_cons_self
    · exact List.mem_append_left _ (List.mem_reverse.mpr ha)
  · intro a ha
    rw [hS0]
    exact List.mem_append_right _ (List.mem_cons_of_mem _ ha)
theorem y_ciN {M2 : Mt} {idx n q : Nat} {As : List AV} {v2 : Option (Kt × Sg)} {kk : Kt → Sg → Option α} (hC : Cc M2 K (aR q :: As) σ emVK v2) (h : CIN M.1.cls idx n M2) (hn : As.length = n) (hdep : M2.2.2.2.2 + 1 ≤ M.2.2.2.2) (hS0 : S0 = As.reverse ++ aR q :: S) (hcat : (S.map catA).sum ≤ 8) (hd : decode M.2.1 pc = .ok (.invokespecial idx, 3)) (k : ∀ K1 σ1, Y Γ M K0 em K1 (pc + 3) L S σ1 (kk K1 σ1)) : Y Γ M K0 em K pc L S0 σ (bdVK v2 kk) := by
  refine y_call (kk := fun p => kk p.1 p.2) (rn_IN h hn hdep hS0 hcat hd) hC ?_ ?_ (fun b _ => k b.1 b.2)
  · intro a ha
    rw [hS0]
    rcases List.mem_cons.mp ha with rfl | ha
    · exact List.mem_append_right _ List.mem_cons_self
    · exact List.mem_append_left _ (List.mem_reverse.mpr ha)
  · intro a ha
    rw [hS0]
    exact List.mem_append_right _ (List.mem_cons_of_mem _ ha)
theorem y_cvVK {M2 : Mt} {idx n c q : Nat} {As : List AV} {v2 : Option (Kt × Sg)} {kk : Kt → Sg → Option α} (hC : Cc M2 K (aR q :: As) σ emVK v2) (h : CV M.1.cls idx n c M2) (hy : M2.1.cls = clR c) (hq : IsC K q c) (hn : As.length = n) (hdep : M2.2.2.2.2 + 1 ≤ M.2.2.2.2) (hS0 : S0 = As.reverse ++ aR q :: S) (hcat : (S.map catA).sum ≤ 8) (hd : decode M.2.1 pc = .ok (.invokevirtual idx, 3)) (k : ∀ K1 σ1, Y Γ M K0 em K1 (pc + 3) L S σ1 (kk K1 σ1)) : Y Γ M K0 em K pc L S0 σ (bdVK v2 kk) := y_cv (kk := fun p => kk p.1 p.2) hC h hy hq hn hdep hS0 hcat hd (fun b _ => k b.1 b.2)
theorem y_cvIK {M2 : Mt} {idx n c q : Nat} {As : List AV} {v2 : Option (Int × Kt × Sg)} {kk : Int → Kt → Sg → Option α} (hC : Cc M2 K (aR q :: As) σ emIK v2) (h : CV M.1.cls idx n c M2) (hy : M2.1.cls = clR c) (hq : IsC K q c) (hn : As.length = n) (hdep : M2.2.2.2.2 + 1 ≤ M.2.2.2.2) (hS0 : S0 = As.reverse ++ aR q :: S) (hcat : (S.map catA).sum ≤ 8) (hd : decode M.2.1 pc = .ok (.invokevirtual idx, 3)) (k : ∀ r K1 σ1, Y Γ M K0 em K1 (pc + 3) L (aI r :: S) σ1 (kk r K1 σ1)) : Y Γ M K0 em K pc L S0 σ (bdIK v2 kk) := y_cv (kk := fun p => kk p.1 p.2.1 p.2.2) hC h hy hq hn hdep hS0 hcat hd (fun b _ => k b.1 b.2.1 b.2.2)
theorem y_cvQK {M2 : Mt} {idx n c q : Nat} {As : List AV} {v2 : Option (Option Nat × Kt × Sg)} {kk : Option Nat → Kt → Sg → Option α} (hC : Cc M2 K (aR q :: As) σ emQK v2) (h : CV M.1.cls idx n c M2) (hy : M2.1.cls = clR c) (hq : IsC K q c) (hn : As.length = n) (hdep : M2.2.2.2.2 + 1 ≤ M.2.2.2.2) (hS0 : S0 = As.reverse ++ aR q :: S) (hcat : (S.map catA).sum ≤ 8) (hd : decode M.2.1 pc = .ok (.invokevirtual idx, 3)) (k : ∀ r K1 σ1, Y Γ M K0 em K1 (pc + 3) L (aQ r :: S) σ1 (kk r K1 σ1)) : Y Γ M K0 em K pc L S0 σ (bdQK v2 kk) := y_cv (kk := fun p => kk p.1 p.2.1 p.2.2) hC h hy hq hn hdep hS0 hcat hd (fun b _ => k b.1 b.2.1 b.2.2)
end YZ
theorem wA_int : Cond.arrayClass .int ∈ gwt := gwt_mem (tbT_1 _ (List.mem_of_getElem? (i := 84) rfl)) rfl
theorem wA_long : Cond.arrayClass .long ∈ gwt := gwt_mem (tbT_2 _ (List.mem_of_getElem? (i := 67) rfl)) rfl
theorem wA_boolean : Cond.arrayClass .boolean ∈ gwt := gwt_mem (tbT_2 _ (List.mem_of_getElem? (i := 66) rfl)) rfl
theorem nX9_9 : NWd RX9 9 3 := ⟨gwt_mem (tbT_1 _ (List.mem_of_getElem? (i := 27) rfl)) rfl, gwt_mem (tbT_1 _ (List.mem_of_getElem? (i := 28) rfl)) rfl, gwt_mem (tbT_1 _ (List.mem_of_getElem? (i := 2) rfl)) rfl⟩
theorem nX9_16 : NWd RX9 16 1 := ⟨gwt_mem (tbT_1 _ (List.mem_of_getElem? (i := 121) rfl)) rfl, gwt_mem (tbT_1 _ (List.mem_of_getElem? (i := 122) rfl)) rfl, gwt_mem (tbT_1 _ (List.mem_of_getElem? (i := 6) rfl)) rfl⟩
theorem nX9_25 : NWd RX9 25 8 := ⟨gwt_mem (tbT_1 _ (List.mem_of_getElem? (i := 201) rfl)) rfl, gwt_mem (tbT_1 _ (List.mem_of_getElem? (i := 202) rfl)) rfl, gwt_mem (tbT_1 _ (List.mem_of_getElem? (i := 7) rfl)) rfl⟩
theorem nX9_41 : NWd RX9 41 6 := ⟨gwt_mem (tbT_1 _ (List.mem_of_getElem? (i := 223) rfl)) rfl, gwt_mem (tbT_1 _ (List.mem_of_getElem? (i := 224) rfl)) rfl, gwt_mem (tbT_1 _ (List.mem_of_getElem? (i := 8) rfl)) rfl⟩
theorem nX9_48 : NWd RX9 48 4 := ⟨gwt_mem (tbT_2 _ (List.mem_of_getElem? (i := 0) rfl)) rfl, gwt_mem (tbT_2 _ (List.mem_of_getElem? (i := 1) rfl)) rfl, gwt_mem (tbT_1 _ (List.mem_of_getElem? (i := 9) rfl)) rfl⟩
theorem nX9_57 : NWd RX9 57 0 := ⟨gwt_mem (tbT_2 _ (List.mem_of_getElem? (i := 35) rfl)) rfl, gwt_mem (tbT_2 _ (List.mem_of_getElem? (i := 36) rfl)) rfl, gwt_mem (tbT_1 _ (List.mem_of_getElem? (i := 10) rfl)) rfl⟩
theorem nX9_66 : NWd RX9 66 2 := ⟨gwt_mem (tbT_2 _ (List.mem_of_getElem? (i := 68) rfl)) rfl, gwt_mem (tbT_5 _ (List.mem_of_getElem? (i := 25) rfl)) rfl, gwt_mem (tbT_1 _ (List.mem_of_getElem? (i := 18) rfl)) rfl⟩
theorem nX2_7 : NWd RX2 7 3 := ⟨gwt_mem (tbT_5 _ (List.mem_of_getElem? (i := 30) rfl)) rfl, gwt_mem (tbT_1 _ (List.mem_of_getElem? (i := 28) rfl)) rfl, gwt_mem (tbT_1 _ (List.mem_of_getElem? (i := 2) rfl)) rfl⟩
theorem nX2_16 : NWd RX2 16 1 := ⟨gwt_mem (tbT_5 _ (List.mem_of_getElem? (i := 32) rfl)) rfl, gwt_mem (tbT_1 _ (List.mem_of_getElem? (i := 122) rfl)) rfl, gwt_mem (tbT_1 _ (List.mem_of_getElem? (i := 6) rfl)) rfl⟩
theorem nX3_9 : NWd RX3 9 7 := ⟨gwt_mem (tbT_1 _ (List.mem_of_getElem? (i := 33) rfl)) rfl, gwt_mem (tbT_1 _ (List.mem_of_getElem? (i := 34) rfl)) rfl, gwt_mem (tbT_1 _ (List.mem_of_getElem? (i := 3) rfl)) rfl⟩
theorem nX3_24 : NWd RX3 24 5 := ⟨gwt_mem (tbT_1 _ (List.mem_of_getElem? (i := 86) rfl)) rfl, gwt_mem (tbT_1 _ (List.mem_of_getElem? (i := 87) rfl)) rfl, gwt_mem (tbT_1 _ (List.mem_of_getElem? (i := 5) rfl)) rfl⟩
theorem nX4_11 : NWd RX4 11 7 := ⟨gwt_mem (tbT_2 _ (List.mem_of_getElem? (i := 6) rfl)) rfl, gwt_mem (tbT_1 _ (List.mem_of_getElem? (i := 34) rfl)) rfl, gwt_mem (tbT_1 _ (List.mem_of_getElem? (i := 3) rfl)) rfl⟩
theorem nX7_10 : NWd RX7 10 7 := ⟨gwt_mem (tbT_3 _ (List.mem_of_getElem? (i := 204) rfl)) rfl, gwt_mem (tbT_1 _ (List.mem_of_getElem? (i := 34) rfl)) rfl, gwt_mem (tbT_1 _ (List.mem_of_getElem? (i := 3) rfl)) rfl⟩
theorem nX8_9 : NWd RX8 9 1 := ⟨gwt_mem (tbT_1 _ (List.mem_of_getElem? (i := 207) rfl)) rfl, gwt_mem (tbT_1 _ (List.mem_of_getElem? (i := 122) rfl)) rfl, gwt_mem (tbT_1 _ (List.mem_of_getElem? (i := 6) rfl)) rfl⟩
theorem oX9_3 : Cond.methodLink RX9 3 Lib.objectInit ∈ gwt ∧ Cond.instanceMethod Lib.objectInit ∈ gwt ∧ Cond.code Lib.objectInit ⟨#[0xb1]⟩ 1 none ∈ gwt := ⟨gwt_mem (tbT_1 _ (List.mem_of_getElem? (i := 24) rfl)) rfl, gwt_mem (tbT_1 _ (List.mem_of_getElem? (i := 25) rfl)) rfl, gwt_mem (tbT_1 _ (List.mem_of_getElem? (i := 26) rfl)) rfl⟩
theorem iX9_18 : CI RX9 18 1 MX1_init := ⟨bX1_init.1, gwt_mem (tbT_1 _ (List.mem_of_getElem? (i := 123) rfl)) rfl, bX1_init.2, rfl, rfl⟩
theorem iX9_50 : CI RX9 50 1 MX4_init := ⟨bX4_init.1, gwt_mem (tbT_2 _ (List.mem_of_getElem? (i := 2) rfl)) rfl, bX4_init.2, rfl, rfl⟩
theorem iX9_59 : CI RX9 59 1 MX0_init := ⟨bX0_init.1, gwt_mem (tbT_2 _ (List.mem_of_getElem? (i := 37) rfl)) rfl, bX0_init.2, rfl, rfl⟩
theorem oX0_3 : Cond.methodLink RX0 3 Lib.objectInit ∈ gwt ∧ Cond.instanceMethod Lib.objectInit ∈ gwt ∧ Cond.code Lib.objectInit ⟨#[0xb1]⟩ 1 none ∈ gwt := ⟨gwt_mem (tbT_2 _ (List.mem_of_getElem? (i := 40) rfl)) rfl, gwt_mem (tbT_1 _ (List.mem_of_getElem? (i := 25) rfl)) rfl, gwt_mem (tbT_1 _ (List.mem_of_getElem? (i := 26) rfl)) rfl⟩
theorem mX0_66 : Cond.methodLink RX0 66 Lib.Math.min.name ∈ gwt ∧ Cond.static Lib.Math.min.name ∈ gwt ∧ Cond.initialized "java/lang/Math" ∈ gwt ∧ Cond.code Lib.Math.min.name Lib.Math.min.code 2 (some .int) ∈ gwt := ⟨gwt_mem (tbT_4 _ (List.mem_of_getElem? (i := 118) rfl)) rfl, gwt_mem (tbT_2 _ (List.mem_of_getElem? (i := 212) rfl)) rfl, gwt_mem (tbT_1 _ (List.mem_of_getElem? (i := 4) rfl)) rfl, gwt_mem (tbT_2 _ (List.mem_of_getElem? (i := 213) rfl)) rfl⟩
theorem mX0_97 : Cond.methodLink RX0 97 Lib.Math.max.name ∈ gwt ∧ Cond.static Lib.Math.max.name ∈ gwt ∧ Cond.initialized "java/lang/Math" ∈ gwt ∧ Cond.code Lib.Math.max.name Lib.Math.max.code 2 (some .int) ∈ gwt := ⟨gwt_mem (tbT_4 _ (List.mem_of_getElem? (i := 182) rfl)) rfl, gwt_mem (tbT_1 _ (List.mem_of_getElem? (i := 40) rfl)) rfl, gwt_mem (tbT_1 _ (List.mem_of_getElem? (i := 4) rfl)) rfl, gwt_mem (tbT_1 _ (List.mem_of_getElem? (i := 41) rfl)) rfl⟩
theorem oX1_3 : Cond.methodLink RX1 3 Lib.objectInit ∈ gwt ∧ Cond.instanceMethod Lib.objectInit ∈ gwt ∧ Cond.code Lib.objectInit ⟨#[0xb1]⟩ 1 none ∈ gwt := ⟨gwt_mem (tbT_1 _ (List.mem_of_getElem? (i := 126) rfl)) rfl, gwt_mem (tbT_1 _ (List.mem_of_getElem? (i := 25) rfl)) rfl, gwt_mem (tbT_1 _ (List.mem_of_getElem? (i := 26) rfl)) rfl⟩
theorem aX1_65 : Cond.methodLink RX1 65 arraycopyName ∈ gwt ∧ Cond.native arraycopyName ∈ gwt ∧ Cond.static arraycopyName ∈ gwt ∧ Cond.initialized "java/lang/System" ∈ gwt := ⟨gwt_mem (tbT_3 _ (List.mem_of_getElem? (i := 222) rfl)) rfl, gwt_mem (tbT_3 _ (List.mem_of_getElem? (i := 208) rfl)) rfl, gwt_mem (tbT_3 _ (List.mem_of_getElem? (i := 207) rfl)) rfl, gwt_mem (tbT_1 _ (List.mem_of_getElem? (i := 16) rfl)) rfl⟩
theorem mX1_119 : Cond.methodLink RX1 119 Lib.Math.min.name ∈ gwt ∧ Cond.static Lib.Math.min.name ∈ gwt ∧ Cond.initialized "java/lang/Math" ∈ gwt ∧ Cond.code Lib.Math.min.name Lib.Math.min.code 2 (some .int) ∈ gwt := ⟨gwt_mem (tbT_2 _ (List.mem_of_getElem? (i := 211) rfl)) rfl, gwt_mem (tbT_2 _ (List.mem_of_getElem? (i := 212) rfl)) rfl, gwt_mem (tbT_1 _ (List.mem_of_getElem? (i := 4) rfl)) rfl, gwt_mem (tbT_2 _ (List.mem_of_getElem? (i := 213) rfl)) rfl⟩
theorem mX1_124 : Cond.methodLink RX1 124 Lib.Math.max.name ∈ gwt ∧ Cond.static Lib.Math.max.name ∈ gwt ∧ Cond.initialized "java/lang/Math" ∈ gwt ∧ Cond.code Lib.Math.max.name Lib.Math.max.code 2 (some .int) ∈ gwt := ⟨gwt_mem (tbT_2 _ (List.mem_of_getElem? (i := 214) rfl)) rfl, gwt_mem (tbT_1 _ (List.mem_of_getElem? (i := 40) rfl)) rfl, gwt_mem (tbT_1 _ (List.mem_of_getElem? (i := 4) rfl)) rfl, gwt_mem (tbT_1 _ (List.mem_of_getElem? (i := 41) rfl)) rfl⟩
theorem oX2_1 : Cond.methodLink RX2 1 Lib.objectInit ∈ gwt ∧ Cond.instanceMethod Lib.objectInit ∈ gwt ∧ Cond.code Lib.objectInit ⟨#[0xb1]⟩ 1 none ∈ gwt := ⟨gwt_mem (tbT_5 _ (List.mem_of_getElem? (i := 29) rfl)) rfl, gwt_mem (tbT_1 _ (List.mem_of_getElem? (i := 25) rfl)) rfl, gwt_mem (tbT_1 _ (List.mem_of_getElem? (i := 26) rfl)) rfl⟩
theorem iX2_18 : CI RX2 18 1 MX1_init := ⟨bX1_init.1, gwt_mem (tbT_5 _ (List.mem_of_getElem? (i := 33) rfl)) rfl, bX1_init.2, rfl, rfl⟩
theorem oX3_3 : Cond.methodLink RX3 3 Lib.objectInit ∈ gwt ∧ Cond.instanceMethod Lib.objectInit ∈ gwt ∧ Cond.code Lib.objectInit ⟨#[0xb1]⟩ 1 none ∈ gwt := ⟨gwt_mem (tbT_1 _ (List.mem_of_getElem? (i := 32) rfl)) rfl, gwt_mem (tbT_1 _ (List.mem_of_getElem? (i := 25) rfl)) rfl, gwt_mem (tbT_1 _ (List.mem_of_getElem? (i := 26) rfl)) rfl⟩
theorem iX3_11 : CI RX3 11 2 MX7_init := ⟨bX7_init.1, gwt_mem (tbT_1 _ (List.mem_of_getElem? (i := 35) rfl)) rfl, bX7_init.2, rfl, rfl⟩
theorem oX4_5 : Cond.methodLink RX4 5 Lib.objectInit ∈ gwt ∧ Cond.instanceMethod Lib.objectInit ∈ gwt ∧ Cond.code Lib.objectInit ⟨#[0xb1]⟩ 1 none ∈ gwt := ⟨gwt_mem (tbT_2 _ (List.mem_of_getElem? (i := 5) rfl)) rfl, gwt_mem (tbT_1 _ (List.mem_of_getElem? (i := 25) rfl)) rfl, gwt_mem (tbT_1 _ (List.mem_of_getElem? (i := 26) rfl)) rfl⟩
theorem iX4_13 : CI RX4 13 2 MX7_init := ⟨bX7_init.1, gwt_mem (tbT_2 _ (List.mem_of_getElem? (i := 7) rfl)) rfl, bX7_init.2, rfl, rfl⟩
theorem mX4_98 : Cond.methodLink RX4 98 Lib.Math.min.name ∈ gwt ∧ Cond.static Lib.Math.min.name ∈ gwt ∧ Cond.initialized "java/lang/Math" ∈ gwt ∧ Cond.code Lib.Math.min.name Lib.Math.min.code 2 (some .int) ∈ gwt := ⟨gwt_mem (tbT_3 _ (List.mem_of_getElem? (i := 111) rfl)) rfl, gwt_mem (tbT_2 _ (List.mem_of_getElem? (i := 212) rfl)) rfl, gwt_mem (tbT_1 _ (List.mem_of_getElem? (i := 4) rfl)) rfl, gwt_mem (tbT_2 _ (List.mem_of_getElem? (i := 213) rfl)) rfl⟩
theorem oX5_3 : Cond.methodLink RX5 3 Lib.objectInit ∈ gwt ∧ Cond.instanceMethod Lib.objectInit ∈ gwt ∧ Cond.code Lib.objectInit ⟨#[0xb1]⟩ 1 none ∈ gwt := ⟨gwt_mem (tbT_1 _ (List.mem_of_getElem? (i := 91) rfl)) rfl, gwt_mem (tbT_1 _ (List.mem_of_getElem? (i := 25) rfl)) rfl, gwt_mem (tbT_1 _ (List.mem_of_getElem? (i := 26) rfl)) rfl⟩
theorem mX5_15 : Cond.methodLink RX5 15 Lib.Math.max.name ∈ gwt ∧ Cond.static Lib.Math.max.name ∈ gwt ∧ Cond.initialized "java/lang/Math" ∈ gwt ∧ Cond.code Lib.Math.max.name Lib.Math.max.code 2 (some .int) ∈ gwt := ⟨gwt_mem (tbT_2 _ (List.mem_of_getElem? (i := 198) rfl)) rfl, gwt_mem (tbT_1 _ (List.mem_of_getElem? (i := 40) rfl)) rfl, gwt_mem (tbT_1 _ (List.mem_of_getElem? (i := 4) rfl)) rfl, gwt_mem (tbT_1 _ (List.mem_of_getElem? (i := 41) rfl)) rfl⟩
theorem oX6_3 : Cond.methodLink RX6 3 Lib.objectInit ∈ gwt ∧ Cond.instanceMethod Lib.objectInit ∈ gwt ∧ Cond.code Lib.objectInit ⟨#[0xb1]⟩ 1 none ∈ gwt := ⟨gwt_mem (tbT_1 _ (List.mem_of_getElem? (i := 228) rfl)) rfl, gwt_mem (tbT_1 _ (List.mem_of_getElem? (i := 25) rfl)) rfl, gwt_mem (tbT_1 _ (List.mem_of_getElem? (i := 26) rfl)) rfl⟩
theorem oX7_3 : Cond.methodLink RX7 3 Lib.objectInit ∈ gwt ∧ Cond.instanceMethod Lib.objectInit ∈ gwt ∧ Cond.code Lib.objectInit ⟨#[0xb1]⟩ 1 none ∈ gwt := ⟨gwt_mem (tbT_1 _ (List.mem_of_getElem? (i := 38) rfl)) rfl, gwt_mem (tbT_1 _ (List.mem_of_getElem? (i := 25) rfl)) rfl, gwt_mem (tbT_1 _ (List.mem_of_getElem? (i := 26) rfl)) rfl⟩
theorem mX7_18 : Cond.methodLink RX7 18 Lib.Math.max.name ∈ gwt ∧ Cond.static Lib.Math.max.name ∈ gwt ∧ Cond.initialized "java/lang/Math" ∈ gwt ∧ Cond.code Lib.Math.max.name Lib.Math.max.code 2 (some .int) ∈ gwt := ⟨gwt_mem (tbT_1 _ (List.mem_of_getElem? (i := 39) rfl)) rfl, gwt_mem (tbT_1 _ (List.mem_of_getElem? (i := 40) rfl)) rfl, gwt_mem (tbT_1 _ (List.mem_of_getElem? (i := 4) rfl)) rfl, gwt_mem (tbT_1 _ (List.mem_of_getElem? (i := 41) rfl)) rfl⟩
theorem iX7_43 : CI RX7 43 2 MX7_init := ⟨bX7_init.1, gwt_mem (tbT_3 _ (List.mem_of_getElem? (i := 205) rfl)) rfl, bX7_init.2, rfl, rfl⟩
theorem aX7_46 : Cond.methodLink RX7 46 arraycopyName ∈ gwt ∧ Cond.native arraycopyName ∈ gwt ∧ Cond.static arraycopyName ∈ gwt ∧ Cond.initialized "java/lang/System" ∈ gwt := ⟨gwt_mem (tbT_3 _ (List.mem_of_getElem? (i := 206) rfl)) rfl, gwt_mem (tbT_3 _ (List.mem_of_getElem? (i := 208) rfl)) rfl, gwt_mem (tbT_3 _ (List.mem_of_getElem? (i := 207) rfl)) rfl, gwt_mem (tbT_1 _ (List.mem_of_getElem? (i := 16) rfl)) rfl⟩
theorem oX8_3 : Cond.methodLink RX8 3 Lib.objectInit ∈ gwt ∧ Cond.instanceMethod Lib.objectInit ∈ gwt ∧ Cond.code Lib.objectInit ⟨#[0xb1]⟩ 1 none ∈ gwt := ⟨gwt_mem (tbT_1 _ (List.mem_of_getElem? (i := 206) rfl)) rfl, gwt_mem (tbT_1 _ (List.mem_of_getElem? (i := 25) rfl)) rfl, gwt_mem (tbT_1 _ (List.mem_of_getElem? (i := 26) rfl)) rfl⟩
theorem iX8_32 : CI RX8 32 1 MX1_init := ⟨bX1_init.1, gwt_mem (tbT_4 _ (List.mem_of_getElem? (i := 22) rfl)) rfl, bX1_init.2, rfl, rfl⟩
theorem oX10_1 : Cond.methodLink RX10 1 Lib.objectInit ∈ gwt ∧ Cond.instanceMethod Lib.objectInit ∈ gwt ∧ Cond.code Lib.objectInit ⟨#[0xb1]⟩ 1 none ∈ gwt := ⟨gwt_mem (tbT_5 _ (List.mem_of_getElem? (i := 68) rfl)) rfl, gwt_mem (tbT_1 _ (List.mem_of_getElem? (i := 25) rfl)) rfl, gwt_mem (tbT_1 _ (List.mem_of_getElem? (i := 26) rfl)) rfl⟩
theorem iX9_11 : CIN RX9 11 0 MX3_init := ⟨bX3_init.1, List.mem_of_getElem? (i := 0) rfl, bX3_init.2, rfl, rfl⟩
theorem iX3_26 : CIN RX3 26 0 MX5_init := ⟨bX5_init.1, List.mem_of_getElem? (i := 1) rfl, bX5_init.2, rfl, rfl⟩
theorem iX9_27 : CIN RX9 27 0 MX8_init := ⟨bX8_init.1, List.mem_of_getElem? (i := 2) rfl, bX8_init.2, rfl, rfl⟩
theorem iX9_43 : CIN RX9 43 0 MX6_init := ⟨bX6_init.1, List.mem_of_getElem? (i := 3) rfl, bX6_init.2, rfl, rfl⟩
theorem iX9_365 : CIN RX9 365 0 MX2_init := ⟨bX2_init.1, List.mem_of_getElem? (i := 4) rfl, bX2_init.2, rfl, rfl⟩
theorem iX2_9 : CIN RX2 9 0 MX3_init := ⟨bX3_init.1, List.mem_of_getElem? (i := 5) rfl, bX3_init.2, rfl, rfl⟩
/-- the class object and all that its constructor makes -/
def cObj : List (Nat × Nat) := [(0, 9), (1, 3), (2, 7), (10, 5), (13, 1), (27, 8), (30, 8), (33, 1), (47, 1), (61, 6), (63, 4), (64, 7), (73, 0)]
def cRef : List (Nat × Nat × Nat) := [(0, 0, 1), (0, 1, 13), (0, 2, 27), (0, 3, 30), (0, 4, 33), (0, 5, 47), (0, 6, 61), (0, 7, 63), (0, 8, 73), (0, 9, 81), (0, 10, 82), (0, 11, 83), (1, 0, 2), (1, 1, 9), (1, 2, 10), (1, 3, 12), (2, 0, 3), (2, 1, 4), (2, 2, 5), (2, 3, 6), (2, 4, 7), (2, 5, 8), (10, 0, 11), (13, 0, 1), (13, 4, 14), (13, 5, 15), (13, 6, 16), (13, 7, 17), (13, 8, 18), (13, 9, 19), (13, 10, 20), (13, 11, 21), (13, 12, 22), (13, 13, 23), (13, 14, 24), (13, 15, 25), (13, 16, 26), (27, 0, 28), (27, 1, 29), (30, 0, 31), (30, 1, 32), (33, 0, 1), (33, 4, 34), (33, 5, 35), (33, 6, 36), (33, 7, 37), (33, 8, 38), (33, 9, 39), (33, 10, 40), (33, 11, 41), (33, 12, 42), (33, 13, 43), (33, 14, 44), (33, 15, 45), (33, 16, 46), (47, 0, 1), (47, 4, 48), (47, 5, 49), (47, 6, 50), (47, 7, 51), (47, 8, 52), (47, 9, 53), (47, 10, 54), (47, 11, 55), (47, 12, 56), (47, 13, 57), (47, 14, 58), (47, 15, 59), (47, 16, 60), (61, 0, 62), (63, 0, 61), (63, 1, 64), (63, 3, 71), (63, 4, 72), (64, 0, 65), (64, 1, 66), (64, 2, 67), (64, 3, 68), (64, 4, 69), (64, 5, 70), (73, 0, 13), (73, 1, 74), (73, 2, 75), (73, 3, 76), (73, 4, 77), (73, 5, 78), (73, 6, 79), (73, 7, 80)]
def cArr : List (Nat × Nat × Nat) := [(3, 20, 0), (4, 20, 0), (5, 20, 0), (6, 20, 0), (7, 20, 0), (8, 20, 0), (9, 23, 6), (11, 20, 50), (12, 20, 9), (14, 20, 8), (15, 20, 8), (16, 20, 8), (17, 20, 8), (18, 20, 6), (19, 20, 6), (20, 20, 6), (21, 20, 6), (22, 20, 6), (23, 20, 6), (24, 20, 12), (25, 20, 12), (26, 20, 4), (28, 24, 16), (29, 20, 16), (31, 24, 16), (32, 20, 16), (34, 20, 8), (35, 20, 8), (36, 20, 8), (37, 20, 8), (38, 20, 6), (39, 20, 6), (40, 20, 6), (41, 20, 6), (42, 20, 6), (43, 20, 6), (44, 20, 12), (45, 20, 12), (46, 20, 4), (48, 20, 8), (49, 20, 8), (50, 20, 8), (51, 20, 8), (52, 20, 6), (53, 20, 6), (54, 20, 6), (55, 20, 6), (56, 20, 6), (57, 20, 6), (58, 20, 12), (59, 20, 12), (60, 20, 4), (62, 20, 400), (65, 20, 12), (66, 20, 12), (67, 20, 12), (68, 20, 12), (69, 20, 12), (70, 20, 400), (71, 20, 401), (72, 20, 401), (74, 20, 64), (75, 20, 64), (76, 22, 256), (77, 22, 256), (78, 20, 256), (79, 20, 8), (80, 21, 20), (81, 25, 2), (82, 20, 24), (83, 20, 7)]
def cLay (K : Kt) : Prop := (∀ p ∈ cObj, IsC K p.1 p.2) ∧ (∀ p ∈ cRef, K.1 p.1 p.2.1 = some p.2.2) ∧ ∀ p ∈ cArr, IsA K p.1 p.2.1 p.2.2
theorem lcO_0 {K : Kt} (h : cLay K) : IsC K 0 9 := h.1 (0, 9) (List.mem_of_getElem? (i := 0) rfl)
theorem lcO_1 {K : Kt} (h : cLay K) : IsC K 1 3 := h.1 (1, 3) (List.mem_of_getElem? (i := 1) rfl)
theorem lcO_2 {K : Kt} (h : cLay K) : IsC K 2 7 := h.1 (2, 7) (List.mem_of_getElem? (i := 2) rfl)
theorem lcO_10 {K : Kt} (h : cLay K) : IsC K 10 5 := h.1 (10, 5) (List.mem_of_getElem? (i := 3) rfl)
theorem lcO_13 {K : Kt} (h : cLay K) : IsC K 13 1 := h.1 (13, 1) (List.mem_of_getElem? (i := 4) rfl)
theorem lcO_27 {K : Kt} (h : cLay K) : IsC K 27 8 := h.1 (27, 8) (List.mem_of_getElem? (i := 5) rfl)
theorem lcO_30 {K : Kt} (h : cLay K) : IsC K 30 8 := h.1 (30, 8) (List.mem_of_getElem? (i := 6) rfl)
theorem lcO_33 {K : Kt} (h : cLay K) : IsC K 33 1 := h.1 (33, 1) (List.mem_of_getElem? (i := 7) rfl)
theorem lcO_47 {K : Kt} (h : cLay K) : IsC K 47 1 := h.1 (47, 1) (List.mem_of_getElem? (i := 8) rfl)
theorem lcO_61 {K : Kt} (h : cLay K) : IsC K 61 6 := h.1 (61, 6) (List.mem_of_getElem? (i := 9) rfl)
theorem lcO_63 {K : Kt} (h : cLay K) : IsC K 63 4 := h.1 (63, 4) (List.mem_of_getElem? (i := 10) rfl)
theorem lcO_64 {K : Kt} (h : cLay K) : IsC K 64 7 := h.1 (64, 7) (List.mem_of_getElem? (i := 11) rfl)
theorem lcO_73 {K : Kt} (h : cLay K) : IsC K 73 0 := h.1 (73, 0) (List.mem_of_getElem? (i := 12) rfl)
theorem lcR_0_0 {K : Kt} (h : cLay K) : K.1 0 0 = some 1 := h.2.1 (0, 0, 1) (List.mem_of_getElem? (i := 0) rfl)
theorem lcR_0_1 {K : Kt} (h : cLay K) : K.1 0 1 = some 13 := h.2.1 (0, 1, 13) (List.mem_of_getElem? (i := 1) rfl)
theorem lcR_0_2 {K : Kt} (h : cLay K) : K.1 0 2 = some 27 := h.2.1 (0, 2, 27) (List.mem_of_getElem? (i := 2) rfl)
theorem lcR_0_3 {K : Kt} (h : cLay K) : K.1 0 3 = some 30 := h.2.1 (0, 3, 30) (List.mem_of_getElem? (i := 3) rfl)
theorem lcR_0_4 {K : Kt} (h : cLay K) : K.1 0 4 = some 33 := h.2.1 (0, 4, 33) (List.mem_of_getElem? (i := 4) rfl)
theorem lcR_0_5 {K : Kt} (h : cLay K) : K.1 0 5 = some 47 := h.2.1 (0, 5, 47) (List.mem_of_getElem? (i := 5) rfl)
theorem lcR_0_6 {K : Kt} (h : cLay K) : K.1 0 6 = some 61 := h.2.1 (0, 6, 61) (List.mem_of_getElem? (i := 6) rfl)
theorem lcR_0_7 {K : Kt} (h : cLay K) : K.1 0 7 = some 63 := h.2.1 (0, 7, 63) (List.mem_of_getElem? (i := 7) rfl)
theorem lcR_0_8 {K : Kt} (h : cLay K) : K.1 0 8 = some 73 := h.2.1 (0, 8, 73) (List.mem_of_getElem? (i := 8) rfl)
theorem lcR_0_9 {K : Kt} (h : cLay K) : K.1 0 9 = some 81 := h.2.1 (0, 9, 81) (List.mem_of_getElem? (i := 9) rfl)
theorem lcR_0_10 {K : Kt} (h : cLay K) : K.1 0 10 = some 82 := h.2.1 (0, 10, 82) (List.mem_of_getElem? (i := 10) rfl)
theorem lcR_0_11 {K : Kt} (h : cLay K) : K.1 0 11 = some 83 := h.2.1 (0, 11, 83) (List.mem_of_getElem? (i := 11) rfl)
theorem lcR_1_0 {K : Kt} (h : cLay K) : K.1 1 0 = some 2 := h.2.1 (1, 0, 2) (List.mem_of_getElem? (i := 12) rfl)
theorem lcR_1_1 {K : Kt} (h : cLay K) : K.1 1 1 = some 9 := h.2.1 (1, 1, 9) (List.mem_of_getElem? (i := 13) rfl)
theorem lcR_1_2 {K : Kt} (h : cLay K) : K.1 1 2 = some 10 := h.2.1 (1, 2, 10) (List.mem_of_getElem? (i := 14) rfl)
theorem lcR_1_3 {K : Kt} (h : cLay K) : K.1 1 3 = some 12 := h.2.1 (1, 3, 12) (List.mem_of_getElem? (i := 15) rfl)
theorem lcR_2_0 {K : Kt} (h : cLay K) : K.1 2 0 = some 3 := h.2.1 (2, 0, 3) (List.mem_of_getElem? (i := 16) rfl)
theorem lcR_2_1 {K : Kt} (h : cLay K) : K.1 2 1 = some 4 := h.2.1 (2, 1, 4) (List.mem_of_getElem? (i := 17) rfl)
theorem lcR_2_2 {K : Kt} (h : cLay K) : K.1 2 2 = some 5 := h.2.1 (2, 2, 5) (List.mem_of_getElem? (i := 18) rfl)
theorem lcR_2_3 {K : Kt} (h : cLay K) : K.1 2 3 = some 6 := h.2.1 (2, 3, 6) (List.mem_of_getElem? (i := 19) rfl)
theorem lcR_2_4 {K : Kt} (h : cLay K) : K.1 2 4 = some 7 := h.2.1 (2, 4, 7) (List.mem_of_getElem? (i := 20) rfl)
theorem lcR_2_5 {K : Kt} (h : cLay K) : K.1 2 5 = some 8 := h.2.1 (2, 5, 8) (List.mem_of_getElem? (i := 21) rfl)
theorem lcR_10_0 {K : Kt} (h : cLay K) : K.1 10 0 = some 11 := h.2.1 (10, 0, 11) (List.mem_of_getElem? (i := 22) rfl)
theorem lcR_13_0 {K : Kt} (h : cLay K) : K.1 13 0 = some 1 := h.2.1 (13, 0, 1) (List.mem_of_getElem? (i := 23) rfl)
theorem lcR_13_4 {K : Kt} (h : cLay K) : K.1 13 4 = some 14 := h.2.1 (13, 4, 14) (List.mem_of_getElem? (i := 24) rfl)
theorem lcR_13_5 {K : Kt} (h : cLay K) : K.1 13 5 = some 15 := h.2.1 (13, 5, 15) (List.mem_of_getElem? (i := 25) rfl)
theorem lcR_13_6 {K : Kt} (h : cLay K) : K.1 13 6 = some 16 := h.2.1 (13, 6, 16) (List.mem_of_getElem? (i := 26) rfl)
theorem lcR_13_7 {K : Kt} (h : cLay K) : K.1 13 7 = some 17 := h.2.1 (13, 7, 17) (List.mem_of_getElem? (i := 27) rfl)
theorem lcR_13_8 {K : Kt} (h : cLay K) : K.1 13 8 = some 18 := h.2.1 (13, 8, 18) (List.mem_of_getElem? (i := 28) rfl)
theorem lcR_13_9 {K : Kt} (h : cLay K) : K.1 13 9 = some 19 := h.2.1 (13, 9, 19) (List.mem_of_getElem? (i := 29) rfl)
theorem lcR_13_10 {K : Kt} (h : cLay K) : K.1 13 10 = some 20 := h.2.1 (13, 10, 20) (List.mem_of_getElem? (i := 30) rfl)
theorem lcR_13_11 {K : Kt} (h : cLay K) : K.1 13 11 = some 21 := h.2.1 (13, 11, 21) (List.mem_of_getElem? (i := 31) rfl)
theorem lcR_13_12 {K : Kt} (h : cLay K) : K.1 13 12 = some 22 := h.2.1 (13, 12, 22) (List.mem_of_getElem? (i := 32) rfl)
theorem lcR_13_13 {K : Kt} (h : cLay K) : K.1 13 13 = some 23 := h.2.1 (13, 13, 23) (List.mem_of_getElem? (i := 33) rfl)
theorem lcR_13_14 {K : Kt} (h : cLay K) : K.1 13 14 = some 24 := h.2.1 (13, 14, 24) (List.mem_of_getElem? (i := 34) rfl)
theorem lcR_13_15 {K : Kt} (h : cLay K) : K.1 13 15 = some 25 := h.2.1 (13, 15, 25) (List.mem_of_getElem? (i := 35) rfl)
theorem lcR_13_16 {K : Kt} (h : cLay K) : K.1 13 16 = some 26 := h.2.1 (13, 16, 26) (List.mem_of_getElem? (i := 36) rfl)
theorem lcR_27_0 {K : Kt} (h : cLay K) : K.1 27 0 = some 28 := h.2.1 (27, 0, 28) (List.mem_of_getElem? (i := 37) rfl)
theorem lcR_27_1 {K : Kt} (h : cLay K) : K.1 27 1 = some 29 := h.2.1 (27, 1, 29) (List.mem_of_getElem? (i := 38) rfl)
theorem lcR_30_0 {K : Kt} (h : cLay K) : K.1 30 0 = some 31 := h.2.1 (30, 0, 31) (List.mem_of_getElem? (i := 39) rfl)
theorem lcR_30_1 {K : Kt} (h : cLay K) : K.1 30 1 = some 32 := h.2.1 (30, 1, 32) (List.mem_of_getElem? (i := 40) rfl)
theorem lcR_33_0 {K : Kt} (h : cLay K) : K.1 33 0 = some 1 := h.2.1 (33, 0, 1) (List.mem_of_getElem? (i := 41) rfl)
theorem lcR_33_4 {K : Kt} (h : cLay K) : K.1 33 4 = some 34 := h.2.1 (33, 4, 34) (List.mem_of_getElem? (i := 42) rfl)
theorem lcR_33_5 {K : Kt} (h : cLay K) : K.1 33 5 = some 35 := h.2.1 (33, 5, 35) (List.mem_of_getElem? (i := 43) rfl)
theorem lcR_33_6 {K : Kt} (h : cLay K) : K.1 33 6 = some 36 := h.2.1 (33, 6, 36) (List.mem_of_getElem? (i := 44) rfl)
theorem lcR_33_7 {K : Kt} (h : cLay K) : K.1 33 7 = some 37 := h.2.1 (33, 7, 37) (List.mem_of_getElem? (i := 45) rfl)
theorem lcR_33_8 {K : Kt} (h : cLay K) : K.1 33 8 = some 38 := h.2.1 (33, 8, 38) (List.mem_of_getElem? (i := 46) rfl)
theorem lcR_33_9 {K : Kt} (h : cLay K) : K.1 33 9 = some 39 := h.2.1 (33, 9, 39) (List.mem_of_getElem? (i := 47) rfl)
theorem lcR_33_10 {K : Kt} (h : cLay K) : K.1 33 10 = some 40 := h.2.1 (33, 10, 40) (List.mem_of_getElem? (i := 48) rfl)
theorem lcR_33_11 {K : Kt} (h : cLay K) : K.1 33 11 = some 41 := h.2.1 (33, 11, 41) (List.mem_of_getElem? (i := 49) rfl)
theorem lcR_33_12 {K : Kt} (h : cLay K) : K.1 33 12 = some 42 := h.2.1 (33, 12, 42) (List.mem_of_getElem? (i := 50) rfl)
theorem lcR_33_13 {K : Kt} (h : cLay K) : K.1 33 13 = some 43 := h.2.1 (33, 13, 43) (List.mem_of_getElem? (i := 51) rfl)
theorem lcR_33_14 {K : Kt} (h : cLay K) : K.1 33 14 = some 44 := h.2.1 (33, 14, 44) (List.mem_of_getElem? (i := 52) rfl)
theorem lcR_33_15 {K : Kt} (h : cLay K) : K.1 33 15 = some 45 := h.2.1 (33, 15, 45) (List.mem_of_getElem? (i := 53) rfl)
theorem lcR_33_16 {K : Kt} (h : cLay K) : K.1 33 16 = some 46 := h.2.1 (33, 16, 46) (List.mem_of_getElem? (i := 54) rfl)
theorem lcR_47_0 {K : Kt} (h : cLay K) : K.1 47 0 = some 1 := h.2.1 (47, 0, 1) (List.mem_of_getElem? (i := 55) rfl)
theorem lcR_47_4 {K : Kt} (h : cLay K) : K.1 47 4 = some 48 := h.2.1 (47, 4, 48) (List.mem_of_getElem? (i := 56) rfl)
theorem lcR_47_5 {K : Kt} (h : cLay K) : K.1 47 5 = some 49 := h.2.1 (47, 5, 49) (List.mem_of_getElem? (i := 57) rfl)
theorem lcR_47_6 {K : Kt} (h : cLay K) : K.1 47 6 = some 50 := h.2.1 (47, 6, 50) (List.mem_of_getElem? (i := 58) rfl)
theorem lcR_47_7 {K : Kt} (h : cLay K) : K.1 47 7 = some 51 := h.2.1 (47, 7, 51) (List.mem_of_getElem? (i := 59) rfl)
theorem lcR_47_8 {K : Kt} (h : cLay K) : K.1 47 8 = some 52 := h.2.1 (47, 8, 52) (List.mem_of_getElem? (i := 60) rfl)
theorem lcR_47_9 {K : Kt} (h : cLay K) : K.1 47 9 = some 53 := h.2.1 (47, 9, 53) (List.mem_of_getElem? (i := 61) rfl)
theorem lcR_47_10 {K : Kt} (h : cLay K) : K.1 47 10 = some 54 := h.2.1 (47, 10, 54) (List.mem_of_getElem? (i := 62) rfl)
theorem lcR_47_11 {K : Kt} (h : cLay K) : K.1 47 11 = some 55 := h.2.1 (47, 11, 55) (List.mem_of_getElem? (i := 63) rfl)
theorem lcR_47_12 {K : Kt} (h : cLay K) : K.1 47 12 = some 56 := h.2.1 (47, 12, 56) (List.mem_of_getElem? (i := 64) rfl)
theorem lcR_47_13 {K : Kt} (h : cLay K) : K.1 47 13 = some 57 := h.2.1 (47, 13, 57) (List.mem_of_getElem? (i := 65) rfl)
theorem lcR_47_14 {K : Kt} (h : cLay K) : K.1 47 14 = some 58 := h.2.1 (47, 14, 58) (List.mem_of_getElem? (i := 66) rfl)
theorem lcR_47_15 {K : Kt} (h : cLay K) : K.1 47 15 = some 59 := h.2.1 (47, 15, 59) (List.mem_of_getElem? (i := 67) rfl)
theorem lcR_47_16 {K : Kt} (h : cLay K) : K.1 47 16 = some 60 := h.2.1 (47, 16, 60) (List.mem_of_getElem? (i := 68) rfl)
theorem lcR_61_0 {K : Kt} (h : cLay K) : K.1 61 0 = some 62 := h.2.1 (61, 0, 62) (List.mem_of_getElem? (i := 69) rfl)
theorem lcR_63_0 {K : Kt} (h : cLay K) : K.1 63 0 = some 61 := h.2.1 (63, 0, 61) (List.mem_of_getElem? (i := 70) rfl)
theorem lcR_63_1 {K : Kt} (h : cLay K) : K.1 63 1 = some 64 := h.2.1 (63, 1, 64) (List.mem_of_getElem? (i := 71) rfl)
theorem lcR_63_3 {K : Kt} (h : cLay K) : K.1 63 3 = some 71 := h.2.1 (63, 3, 71) (List.mem_of_getElem? (i := 72) rfl)
theorem lcR_63_4 {K : Kt} (h : cLay K) : K.1 63 4 = some 72 := h.2.1 (63, 4, 72) (List.mem_of_getElem? (i := 73) rfl)
theorem lcR_64_0 {K : Kt} (h : cLay K) : K.1 64 0 = some 65 := h.2.1 (64, 0, 65) (List.mem_of_getElem? (i := 74) rfl)
theorem lcR_64_1 {K : Kt} (h : cLay K) : K.1 64 1 = some 66 := h.2.1 (64, 1, 66) (List.mem_of_getElem? (i := 75) rfl)
theorem lcR_64_2 {K : Kt} (h : cLay K) : K.1 64 2 = some 67 := h.2.1 (64, 2, 67) (List.mem_of_getElem? (i := 76) rfl)
theorem lcR_64_3 {K : Kt} (h : cLay K) : K.1 64 3 = some 68 := h.2.1 (64, 3, 68) (List.mem_of_getElem? (i := 77) rfl)
theorem lcR_64_4 {K : Kt} (h : cLay K) : K.1 64 4 = some 69 := h.2.1 (64, 4, 69) (List.mem_of_getElem? (i := 78) rfl)
theorem lcR_64_5 {K : Kt} (h : cLay K) : K.1 64 5 = some 70 := h.2.1 (64, 5, 70) (List.mem_of_getElem? (i := 79) rfl)
theorem lcR_73_0 {K : Kt} (h : cLay K) : K.1 73 0 = some 13 := h.2.1 (73, 0, 13) (List.mem_of_getElem? (i := 80) rfl)
theorem lcR_73_1 {K : Kt} (h : cLay K) : K.1 73 1 = some 74 := h.2.1 (73, 1, 74) (List.mem_of_getElem? (i := 81) rfl)
theorem lcR_73_2 {K : Kt} (h : cLay K) : K.1 73 2 = some 75 := h.2.1 (73, 2, 75) (List.mem_of_getElem? (i := 82) rfl)
theorem lcR_73_3 {K : Kt} (h : cLay K) : K.1 73 3 = some 76 := h.2.1 (73, 3, 76) (List.mem_of_getElem? (i := 83) rfl)
theorem lcR_73_4 {K : Kt} (h : cLay K) : K.1 73 4 = some 77 := h.2.1 (73, 4, 77) (List.mem_of_getElem? (i := 84) rfl)
theorem lcR_73_5 {K : Kt} (h : cLay K) : K.1 73 5 = some 78 := h.2.1 (73, 5, 78) (List.mem_of_getElem? (i := 85) rfl)
theorem lcR_73_6 {K : Kt} (h : cLay K) : K.1 73 6 = some 79 := h.2.1 (73, 6, 79) (List.mem_of_getElem? (i := 86) rfl)
theorem lcR_73_7 {K : Kt} (h : cLay K) : K.1 73 7 = some 80 := h.2.1 (73, 7, 80) (List.mem_of_getElem? (i := 87) rfl)
theorem lcA_3 {K : Kt} (h : cLay K) : IsA K 3 20 0 := h.2.2 (3, 20, 0) (List.mem_of_getElem? (i := 0) rfl)
theorem lcA_4 {K : Kt} (h : cLay K) : IsA K 4 20 0 := h.2.2 (4, 20, 0) (List.mem_of_getElem? (i := 1) rfl)
theorem lcA_5 {K : Kt} (h : cLay K) : IsA K 5 20 0 := h.2.2 (5, 20, 0) (List.mem_of_getElem? (i := 2) rfl)
theorem lcA_6 {K : Kt} (h : cLay K) : IsA K 6 20 0 := h.2.2 (6, 20, 0) (List.mem_of_getElem? (i := 3) rfl)
theorem lcA_7 {K : Kt} (h : cLay K) : IsA K 7 20 0 := h.2.2 (7, 20, 0) (List.mem_of_getElem? (i := 4) rfl)
theorem lcA_8 {K : Kt} (h : cLay K) : IsA K 8 20 0 := h.2.2 (8, 20, 0) (List.mem_of_getElem? (i := 5) rfl)
theorem lcA_9 {K : Kt} (h : cLay K) : IsA K 9 23 6 := h.2.2 (9, 23, 6) (List.mem_of_getElem? (i := 6) rfl)
theorem lcA_11 {K : Kt} (h : cLay K) : IsA K 11 20 50 := h.2.2 (11, 20, 50) (List.mem_of_getElem? (i := 7) rfl)
theorem lcA_12 {K : Kt} (h : cLay K) : IsA K 12 20 9 := h.2.2 (12, 20, 9) (List.mem_of_getElem? (i := 8) rfl)
theorem lcA_14 {K : Kt} (h : cLay K) : IsA K 14 20 8 := h.2.2 (14, 20, 8) (List.mem_of_getElem? (i := 9) rfl)
theorem lcA_15 {K : Kt} (h : cLay K) : IsA K 15 20 8 := h.2.2 (15, 20, 8) (List.mem_of_getElem? (i := 10) rfl)
theorem lcA_16 {K : Kt} (h : cLay K) : IsA K 16 20 8 := h.2.2 (16, 20, 8) (List.mem_of_getElem? (i := 11) rfl)
theorem lcA_17 {K : Kt} (h : cLay K) : IsA K 17 20 8 := h.2.2 (17, 20, 8) (List.mem_of_getElem? (i := 12) rfl)
theorem lcA_18 {K : Kt} (h : cLay K) : IsA K 18 20 6 := h.2.2 (18, 20, 6) (List.mem_of_getElem? (i := 13) rfl)
theorem lcA_19 {K : Kt} (h : cLay K) : IsA K 19 20 6 := h.2.2 (19, 20, 6) (List.mem_of_getElem? (i := 14) rfl)
theorem lcA_20 {K : Kt} (h : cLay K) : IsA K 20 20 6 := h.2.2 (20, 20, 6) (List.mem_of_getElem? (i := 15) rfl)
theorem lcA_21 {K : Kt} (h : cLay K) : IsA K 21 20 6 := h.2.2 (21, 20, 6) (List.mem_of_getElem? (i := 16) rfl)
theorem lcA_22 {K : Kt} (h : cLay K) : IsA K 22 20 6 := h.2.2 (22, 20, 6) (List.mem_of_getElem? (i := 17) rfl)
theorem lcA_23 {K : Kt} (h : cLay K) : IsA K 23 20 6 := h.2.2 (23, 20, 6) (List.mem_of_getElem? (i := 18) rfl)
theorem lcA_24 {K : Kt} (h : cLay K) : IsA K 24 20 12 := h.2.2 (24, 20, 12) (List.mem_of_getElem? (i := 19) rfl)
theorem lcA_25 {K : Kt} (h : cLay K) : IsA K 25 20 12 := h.2.2 (25, 20, 12) (List.mem_of_getElem? (i := 20) rfl)
theorem lcA_26 {K : Kt} (h : cLay K) : IsA K 26 20 4 := h.2.2 (26, 20, 4) (List.mem_of_getElem? (i := 21) rfl)
theorem lcA_28 {K : Kt} (h : cLay K) : IsA K 28 24 16 := h.2.2 (28, 24, 16) (List.mem_of_getElem? (i := 22) rfl)
theorem lcA_29 {K : Kt} (h : cLay K) : IsA K 29 20 16 := h.2.2 (29, 20, 16) (List.mem_of_getElem? (i := 23) rfl)
theorem lcA_31 {K : Kt} (h : cLay K) : IsA K 31 24 16 := h.2.2 (31, 24, 16) (List.mem_of_getElem? (i := 24) rfl)
theorem lcA_32 {K : Kt} (h : cLay K) : IsA K 32 20 16 := h.2.2 (32, 20, 16) (List.mem_of_getElem? (i := 25) rfl)
theorem lcA_34 {K : Kt} (h : cLay K) : IsA K 34 20 8 := h.2.2 (34, 20, 8) (List.mem_of_getElem? (i := 26) rfl)
theorem lcA_35 {K : Kt} (h : cLay K) : IsA K 35 20 8 := h.2.2 (35, 20, 8) (List.mem_of_getElem? (i := 27) rfl)
theorem lcA_36 {K : Kt} (h : cLay K) : IsA K 36 20 8 := h.2.2 (36, 20, 8) (List.mem_of_getElem? (i := 28) rfl)
theorem lcA_37 {K : Kt} (h : cLay K) : IsA K 37 20 8 := h.2.2 (37, 20, 8) (List.mem_of_getElem? (i := 29) rfl)
theorem lcA_38 {K : Kt} (h : cLay K) : IsA K 38 20 6 := h.2.2 (38, 20, 6) (List.mem_of_getElem? (i := 30) rfl)
theorem lcA_39 {K : Kt} (h : cLay K) : IsA K 39 20 6 := h.2.2 (39, 20, 6) (List.mem_of_getElem? (i := 31) rfl)
theorem lcA_40 {K : Kt} (h : cLay K) : IsA K 40 20 6 := h.2.2 (40, 20, 6) (List.mem_of_getElem? (i := 32) rfl)
theorem lcA_41 {K : Kt} (h : cLay K) : IsA K 41 20 6 := h.2.2 (41, 20, 6) (List.mem_of_getElem? (i := 33) rfl)
theorem lcA_42 {K : Kt} (h : cLay K) : IsA K 42 20 6 := h.2.2 (42, 20, 6) (List.mem_of_getElem? (i := 34) rfl)
theorem lcA_43 {K : Kt} (h : cLay K) : IsA K 43 20 6 := h.2.2 (43, 20, 6) (List.mem_of_getElem? (i := 35) rfl)
theorem lcA_44 {K : Kt} (h : cLay K) : IsA K 44 20 12 := h.2.2 (44, 20, 12) (List.mem_of_getElem? (i := 36) rfl)
theorem lcA_45 {K : Kt} (h : cLay K) : IsA K 45 20 12 := h.2.2 (45, 20, 12) (List.mem_of_getElem? (i := 37) rfl)
theorem lcA_46 {K : Kt} (h : cLay K) : IsA K 46 20 4 := h.2.2 (46, 20, 4) (List.mem_of_getElem? (i := 38) rfl)
theorem lcA_48 {K : Kt} (h : cLay K) : IsA K 48 20 8 := h.2.2 (48, 20, 8) (List.mem_of_getElem? (i := 39) rfl)
theorem lcA_49 {K : Kt} (h : cLay K) : IsA K 49 20 8 := h.2.2 (49, 20, 8) (List.mem_of_getElem? (i := 40) rfl)
theorem lcA_50 {K : Kt} (h : cLay K) : IsA K 50 20 8 := h.2.2 (50, 20, 8) (List.mem_of_getElem? (i := 41) rfl)
theorem lcA_51 {K : Kt} (h : cLay K) : IsA K 51 20 8 := h.2.2 (51, 20, 8) (List.mem_of_getElem? (i := 42) rfl)
theorem lcA_52 {K : Kt} (h : cLay K) : IsA K 52 20 6 := h.2.2 (52, 20, 6) (List.mem_of_getElem? (i := 43) rfl)
theorem lcA_53 {K : Kt} (h : cLay K) : IsA K 53 20 6 := h.2.2 (53, 20, 6) (List.mem_of_getElem? (i := 44) rfl)
theorem lcA_54 {K : Kt} (h : cLay K) : IsA K 54 20 6 := h.2.2 (54, 20, 6) (List.mem_of_getElem? (i := 45) rfl)
theorem lcA_55 {K : Kt} (h : cLay K) : IsA K 55 20 6 := h.2.2 (55, 20, 6) (List.mem_of_getElem? (i := 46) rfl)
theorem lcA_56 {K : Kt} (h : cLay K) : IsA K 56 20 6 := h.2.2 (56, 20, 6) (List.mem_of_getElem? (i := 47) rfl)
theorem lcA_57 {K : Kt} (h : cLay K) : IsA K 57 20 6 := h.2.2 (57, 20, 6) (List.mem_of_getElem? (i := 48) rfl)
theorem lcA_58 {K : Kt} (h : cLay K) : IsA K 58 20 12 := h.2.2 (58, 20, 12) (List.mem_of_getElem? (i := 49) rfl)
theorem lcA_59 {K : Kt} (h : cLay K) : IsA K 59 20 12 := h.2.2 (59, 20, 12) (List.mem_of_getElem? (i := 50) rfl)
theorem lcA_60 {K : Kt} (h : cLay K) : IsA K 60 20 4 := h.2.2 (60, 20, 4) (List.mem_of_getElem? (i := 51) rfl)
theorem lcA_62 {K : Kt} (h : cLay K) : IsA K 62 20 400 := h.2.2 (62, 20, 400) (List.mem_of_getElem? (i := 52) rfl)
theorem lcA_65 {K : Kt} (h : cLay K) : IsA K 65 20 12 := h.2.2 (65, 20, 12) (List.mem_of_getElem? (i := 53) rfl)
theorem lcA_66 {K : Kt} (h : cLay K) : IsA K 66 20 12 := h.2.2 (66, 20, 12) (List.mem_of_getElem? (i := 54) rfl)
theorem lcA_67 {K : Kt} (h : cLay K) : IsA K 67 20 12 := h.2.2 (67, 20, 12) (List.mem_of_getElem? (i := 55) rfl)
theorem lcA_68 {K : Kt} (h : cLay K) : IsA K 68 20 12 := h.2.2 (68, 20, 12) (List.mem_of_getElem? (i := 56) rfl)
theorem lcA_69 {K : Kt} (h : cLay K) : IsA K 69 20 12 := h.2.2 (69, 20, 12) (List.mem_of_getElem? (i := 57) rfl)
theorem lcA_70 {K : Kt} (h : cLay K) : IsA K 70 20 400 := h.2.2 (70, 20, 400) (List.mem_of_getElem? (i := 58) rfl)
theorem lcA_71 {K : Kt} (h : cLay K) : IsA K 71 20 401 := h.2.2 (71, 20, 401) (List.mem_of_getElem? (i := 59) rfl)
theorem lcA_72 {K : Kt} (h : cLay K) : IsA K 72 20 401 := h.2.2 (72, 20, 401) (List.mem_of_getElem? (i := 60) rfl)
theorem lcA_74 {K : Kt} (h : cLay K) : IsA K 74 20 64 := h.2.2 (74, 20, 64) (List.mem_of_getElem? (i := 61) rfl)
theorem lcA_75 {K : Kt} (h : cLay K) : IsA K 75 20 64 := h.2.2 (75, 20, 64) (List.mem_of_getElem? (i := 62) rfl)
theorem lcA_76 {K : Kt} (h : cLay K) : IsA K 76 22 256 := h.2.2 (76, 22, 256) (List.mem_of_getElem? (i := 63) rfl)
theorem lcA_77 {K : Kt} (h : cLay K) : IsA K 77 22 256 := h.2.2 (77, 22, 256) (List.mem_of_getElem? (i := 64) rfl)
theorem lcA_78 {K : Kt} (h : cLay K) : IsA K 78 20 256 := h.2.2 (78, 20, 256) (List.mem_of_getElem? (i := 65) rfl)
theorem lcA_79 {K : Kt} (h : cLay K) : IsA K 79 20 8 := h.2.2 (79, 20, 8) (List.mem_of_getElem? (i := 66) rfl)
theorem lcA_80 {K : Kt} (h : cLay K) : IsA K 80 21 20 := h.2.2 (80, 21, 20) (List.mem_of_getElem? (i := 67) rfl)
theorem lcA_81 {K : Kt} (h : cLay K) : IsA K 81 25 2 := h.2.2 (81, 25, 2) (List.mem_of_getElem? (i := 68) rfl)
theorem lcA_82 {K : Kt} (h : cLay K) : IsA K 82 20 24 := h.2.2 (82, 20, 24) (List.mem_of_getElem? (i := 69) rfl)
theorem lcA_83 {K : Kt} (h : cLay K) : IsA K 83 20 7 := h.2.2 (83, 20, 7) (List.mem_of_getElem? (i := 70) rfl)
/-- a Hall at cell o, its arrays behind it -/
def hTab : List (Nat × Nat × Nat) := [(4, 1, 8), (5, 2, 8), (6, 3, 8), (7, 4, 8), (8, 5, 6), (9, 6, 6), (10, 7, 6), (11, 8, 6), (12, 9, 6), (13, 10, 6), (14, 11, 12), (15, 12, 12), (16, 13, 4)]
def hallAt (K : Kt) (o : Nat) : Prop := IsC K o 1 ∧ ∀ p ∈ hTab, K.1 o p.1 = some (o + p.2.1) ∧ IsA K (o + p.2.1) 20 p.2.2
theorem lH_4 {K : Kt} {o : Nat} (h : hallAt K o) : K.1 o 4 = some (o + 1) ∧ IsA K (o + 1) 20 8 := h.2 (4, 1, 8) (List.mem_of_getElem? (i := 0) rfl)
theorem lH_5 {K : Kt} {o : Nat} (h : hallAt K o) : K.1 o 5 = some (o + 2) ∧ IsA K (o + 2) 20 8 := h.2 (5, 2, 8) (List.mem_of_getElem? (i := 1) rfl)
theorem lH_6 {K : Kt} {o : Nat} (h : hallAt K o) : K.1 o 6 = some (o + 3) ∧ IsA K (o + 3) 20 8 := h.2 (6, 3, 8) (List.mem_of_getElem? (i := 2) rfl)
theorem lH_7 {K : Kt} {o : Nat} (h : hallAt K o) : K.1 o 7 = some (o + 4) ∧ IsA K (o + 4) 20 8 := h.2 (7, 4, 8) (List.mem_of_getElem? (i := 3) rfl)
theorem lH_8 {K : Kt} {o : Nat} (h : hallAt K o) : K.1 o 8 = some (o + 5) ∧ IsA K (o + 5) 20 6 := h.2 (8, 5, 6) (List.mem_of_getElem? (i := 4) rfl)
theorem lH_9 {K : Kt} {o : Nat} (h : hallAt K o) : K.1 o 9 = some (o + 6) ∧ IsA K (o + 6) 20 6 := h.2 (9, 6, 6) (List.mem_of_getElem? (i := 5) rfl)
theorem lH_10 {K : Kt} {o : Nat} (h : hallAt K o) : K.1 o 10 = some (o + 7) ∧ IsA K (o + 7) 20 6 := h.2 (10, 7, 6) (List.mem_of_getElem? (i := 6) rfl)
theorem lH_11 {K : Kt} {o : Nat} (h : hallAt K o) : K.1 o 11 = some (o + 8) ∧ IsA K (o + 8) 20 6 := h.2 (11, 8, 6) (List.mem_of_getElem? (i := 7) rfl)
theorem lH_12 {K : Kt} {o : Nat} (h : hallAt K o) : K.1 o 12 = some (o + 9) ∧ IsA K (o + 9) 20 6 := h.2 (12, 9, 6) (List.mem_of_getElem? (i := 8) rfl)
theorem lH_13 {K : Kt} {o : Nat} (h : hallAt K o) : K.1 o 13 = some (o + 10) ∧ IsA K (o + 10) 20 6 := h.2 (13, 10, 6) (List.mem_of_getElem? (i := 9) rfl)
theorem lH_14 {K : Kt} {o : Nat} (h : hallAt K o) : K.1 o 14 = some (o + 11) ∧ IsA K (o + 11) 20 12 := h.2 (14, 11, 12) (List.mem_of_getElem? (i := 10) rfl)
theorem lH_15 {K : Kt} {o : Nat} (h : hallAt K o) : K.1 o 15 = some (o + 12) ∧ IsA K (o + 12) 20 12 := h.2 (15, 12, 12) (List.mem_of_getElem? (i := 11) rfl)
theorem lH_16 {K : Kt} {o : Nat} (h : hallAt K o) : K.1 o 16 = some (o + 13) ∧ IsA K (o + 13) 20 4 := h.2 (16, 13, 4) (List.mem_of_getElem? (i := 12) rfl)
/-- a Hall whose laws are the class object's own -/
def hPre (K : Kt) (o : Nat) : Prop := cLay K ∧ hallAt K o ∧ K.1 o 0 = some 1
theorem hPre_13 {K : Kt} (h : cLay K) : hPre K 13 := by
  refine ⟨h, ⟨lcO_13 h, ?_⟩, lcR_13_0 h⟩
  intro p hp
  simp only [hTab, List.mem_cons, List.not_mem_nil, or_false] at hp
  rcases hp with rfl | rfl | rfl | rfl | rfl | rfl | rfl | rfl | rfl | rfl | rfl | rfl | rfl
  · exact ⟨lcR_13_4 h, lcA_14 h⟩
  · exact ⟨lcR_13_5 h, lcA_15 h⟩
  · exact ⟨lcR_13_6 h, lcA_16 h⟩
  · exact ⟨lcR_13_7 h, lcA_17 h⟩
  · exact ⟨lcR_13_8 h, lcA_18 h⟩
  · exact ⟨lcR_13_9 h, lcA_19 h⟩
  · exact ⟨lcR_13_10 h, lcA_20 h⟩
  · exact ⟨lcR_13_11 h, lcA_21 h⟩
  · exact ⟨lcR_13_12 h, lcA_22 h⟩
  · exact ⟨lcR_13_13 h, lcA_23 h⟩
  · exact ⟨lcR_13_14 h, lcA_24 h⟩
  · exact ⟨lcR_13_15 h, lcA_25 h⟩
  · exact ⟨lcR_13_16 h, lcA_26 h⟩
theorem hPre_33 {K : Kt} (h : cLay K) : hPre K 33 := by
  refine ⟨h, ⟨lcO_33 h, ?_⟩, lcR_33_0 h⟩
  intro p hp
  simp only [hTab, List.mem_cons, List.not_mem_nil, or_false] at hp
  rcases hp with rfl | rfl | rfl | rfl | rfl | rfl | rfl | rfl | rfl | rfl | rfl | rfl | rfl
  · exact ⟨lcR_33_4 h, lcA_34 h⟩
  · exact ⟨lcR_33_5 h, lcA_35 h⟩
  · exact ⟨lcR_33_6 h, lcA_36 h⟩
  · exact ⟨lcR_33_7 h, lcA_37 h⟩
  · exact ⟨lcR_33_8 h, lcA_38 h⟩
  · exact ⟨lcR_33_9 h, lcA_39 h⟩
  · exact ⟨lcR_33_10 h, lcA_40 h⟩
  · exact ⟨lcR_33_11 h, lcA_41 h⟩
  · exact ⟨lcR_33_12 h, lcA_42 h⟩
  · exact ⟨lcR_33_13 h, lcA_43 h⟩
  · exact ⟨lcR_33_14 h, lcA_44 h⟩
  · exact ⟨lcR_33_15 h, lcA_45 h⟩
  · exact ⟨lcR_33_16 h, lcA_46 h⟩
theorem hPre_47 {K : Kt} (h : cLay K) : hPre K 47 := by
  refine ⟨h, ⟨lcO_47 h, ?_⟩, lcR_47_0 h⟩
  intro p hp
  simp only [hTab, List.mem_cons, List.not_mem_nil, or_false] at hp
  rcases hp with rfl | rfl | rfl | rfl | rfl | rfl | rfl | rfl | rfl | rfl | rfl | rfl | rfl
  · exact ⟨lcR_47_4 h, lcA_48 h⟩
  · exact ⟨lcR_47_5 h, lcA_49 h⟩
  · exact ⟨lcR_47_6 h, lcA_50 h⟩
  · exact ⟨lcR_47_7 h, lcA_51 h⟩
  · exact ⟨lcR_47_8 h, lcA_52 h⟩
  · exact ⟨lcR_47_9 h, lcA_53 h⟩
  · exact ⟨lcR_47_10 h, lcA_54 h⟩
  · exact ⟨lcR_47_11 h, lcA_55 h⟩
  · exact ⟨lcR_47_12 h, lcA_56 h⟩
  · exact ⟨lcR_47_13 h, lcA_57 h⟩
  · exact ⟨lcR_47_14 h, lcA_58 h⟩
  · exact ⟨lcR_47_15 h, lcA_59 h⟩
  · exact ⟨lcR_47_16 h, lcA_60 h⟩
def uAt (K : Kt) (u : Nat) : Prop := IsC K u 8 ∧ K.1 u 0 = some (u + 1) ∧ IsA K (u + 1) 24 16 ∧ K.1 u 1 = some (u + 2) ∧ IsA K (u + 2) 20 16
theorem uAt_27 {K : Kt} (h : cLay K) : uAt K 27 := ⟨lcO_27 h, lcR_27_0 h, lcA_28 h, lcR_27_1 h, lcA_29 h⟩
theorem uAt_30 {K : Kt} (h : cLay K) : uAt K 30 := ⟨lcO_30 h, lcR_30_0 h, lcA_31 h, lcR_30_1 h, lcA_32 h⟩
theorem plX0 : plainName RX0 = true := by decide +kernel
theorem plX1 : plainName RX1 = true := by decide +kernel
theorem plX2 : plainName RX2 = true := by decide +kernel
theorem plX3 : plainName RX3 = true := by decide +kernel
theorem plX4 : plainName RX4 = true := by decide +kernel
theorem plX5 : plainName RX5 = true := by decide +kernel
theorem plX6 : plainName RX6 = true := by decide +kernel
theorem plX7 : plainName RX7 = true := by decide +kernel
theorem plX8 : plainName RX8 = true := by decide +kernel
theorem plX9 : plainName RX9 = true := by decide +kernel
