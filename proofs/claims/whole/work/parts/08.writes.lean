theorem nar_z {z : Int} (h : z = 0 ∨ z = 1) : narrow .boolean (.int (Int32.ofInt z)) = .int (Int32.ofInt z) := by
  rcases h with rfl | rfl <;> decide
theorem fit_z {z : Int} (h : z = 0 ∨ z = 1) : fits .boolean (.int (Int32.ofInt z)) = true := by
  rcases h with rfl | rfl <;> decide
theorem in32_z {z : Int} (h : z = 0 ∨ z = 1) : in32 z := by
  rcases h with rfl | rfl <;> decide
theorem upd_i (σ : Sg) (q n : Nat) (z : Int) : (fun j => Int32.ofInt (up2 σ q n z q j)) = upd (fun j => Int32.ofInt (σ q j)) n (Int32.ofInt z) := by
  funext j
  by_cases hj : j = n
  · subst hj; simp [up2, upd]
  · simp [up2, upd, hj]
theorem upd_l (σ : Sg) (q n : Nat) (z : Int) : (fun j => Int64.ofInt (up2 σ q n z q j)) = vp_updL (fun j => Int64.ofInt (σ q j)) n (Int64.ofInt z) := by
  funext j
  by_cases hj : j = n
  · subst hj; simp [up2, vp_updL]
  · simp [up2, vp_updL, hj]
theorem lng_l {K : Kt} {q n j : Nat} (h : K.2.1 q = (21, n)) : lng K q j = true := by
  unfold lng
  rw [h]
  rfl
section YC
variable {α : Type} {Γ : Gx} {M : Mt} {K0 K : Kt} {em : α → Out} {pc : Nat} {L : List (Option AV)} {S : List AV} {σ : Sg} {v : Option α}
theorem y_putI {idx c j q : Nat} {z : Int} (hf : FA M.1.cls idx c j) (hq : IsC K q c) (ht : tyOf c j = .int) (hfin : (clT c j).2.2.2 = false) (hd : decode M.2.1 pc = .ok (.putfield idx, 3)) (k : Y Γ M K0 em K (pc + 3) L S (up2 σ q j z) v) : Y Γ M K0 em K pc L (aI z :: aR q :: S) σ v := by
  obtain ⟨hf, hc, hj⟩ := hf
  refine y_wr k (fun h => ⟨(okS_c.mp (okS_c.mp h).2).2, in64_of (okS_c.mp h).1, fun _ => (okS_c.mp h).1⟩) (fun out hB oS => ?_)
  obtain ⟨p, l, e, s, m, args, below, meth, c0, ω⟩ := Γ
  intro H locs ls cells slots Q hP hS w
  have he := ww_get (ω := ω) (σ := σ) hq.1
  rw [cellE_o hq.2 hc] at he
  refine va_put (D := ω.2.1) (tys := tys6 ω) (own := M.1.cls) (ref := (clT c j).1) (ty := .int) hB.1 hB.2.1 hB.2.2.2.2.2.2.2.1 (cl_in c hc) (tyOf c) (cl_ty c hc) (cl_nm c hc) hB.2.2.2.1 hB.2.2.2.2.2.2.2.2.1 hP ww_D hS q he (cl_at hc) j hj (hB.2.2.2.2.2.2.2.1 _ hf) (fun _ h => h) hfin (by rw [cl_ty c hc j hj, ht]) rfl rfl (by simp [hj]) hd (fun H1 locs1 hP1 hD1 hS1 => ?_)
  rw [ww_set (K' := K) (σ' := up2 σ q j z) rfl (by rw [cellE_o hq.2 hc, map_set_o (z := z) (by rw [ht]; rfl)]) (fun a ha => cellE_ne ha)] at hP1
  exact w H1 locs1 hP1 hS1
theorem y_putZ {idx c j q : Nat} {z : Int} (hz : z = 0 ∨ z = 1) (hf : FA M.1.cls idx c j) (hq : IsC K q c) (ht : tyOf c j = .boolean) (hfin : (clT c j).2.2.2 = false) (hd : decode M.2.1 pc = .ok (.putfield idx, 3)) (k : Y Γ M K0 em K (pc + 3) L S (up2 σ q j z) v) : Y Γ M K0 em K pc L (aI z :: aR q :: S) σ v := by
  obtain ⟨hf, hc, hj⟩ := hf
  refine y_wr k (fun h => ⟨(okS_c.mp (okS_c.mp h).2).2, in64_of (okS_c.mp h).1, fun _ => (okS_c.mp h).1⟩) (fun out hB oS => ?_)
  obtain ⟨p, l, e, s, m, args, below, meth, c0, ω⟩ := Γ
  intro H locs ls cells slots Q hP hS w
  have he := ww_get (ω := ω) (σ := σ) hq.1
  rw [cellE_o hq.2 hc] at he
  refine va_put (D := ω.2.1) (tys := tys6 ω) (own := M.1.cls) (ref := (clT c j).1) (ty := .boolean) hB.1 hB.2.1 hB.2.2.2.2.2.2.2.1 (cl_in c hc) (tyOf c) (cl_ty c hc) (cl_nm c hc) hB.2.2.2.1 hB.2.2.2.2.2.2.2.2.1 hP ww_D hS q he (cl_at hc) j hj (hB.2.2.2.2.2.2.2.1 _ hf) (fun _ h => h) hfin (by rw [cl_ty c hc j hj, ht]) (nar_z hz) (fit_z hz) (by simp [hj]) hd (fun H1 locs1 hP1 hD1 hS1 => ?_)
  rw [ww_set (K' := K) (σ' := up2 σ q j z) rfl (by rw [cellE_o hq.2 hc, map_set_o (z := z) (by rw [ht]; rfl)]) (fun a ha => cellE_ne ha)] at hP1
  exact w H1 locs1 hP1 hS1
theorem lng_j {K : Kt} {k c j : Nat} (h : (K.2.1 k).1 = c) (hc : c < 11) (ht : tyOf c j = .long) : lng K k j = true := by
  subst h
  unfold lng
  split <;> first | (exfalso; omega) | rfl | (rw [ht])
theorem y_putJ {idx c j q : Nat} {z : Int} (hf : FA M.1.cls idx c j) (hq : IsC K q c) (ht : tyOf c j = .long) (hfin : (clT c j).2.2.2 = false) (hd : decode M.2.1 pc = .ok (.putfield idx, 3)) (k : Y Γ M K0 em K (pc + 3) L S (up2 σ q j z) v) : Y Γ M K0 em K pc L (aL z :: aR q :: S) σ v := by
  obtain ⟨hf, hc, hj⟩ := hf
  refine y_wr k (fun h => ⟨(okS_c.mp (okS_c.mp h).2).2, (okS_c.mp h).1, fun h2 => by rw [lng_j hq.2 hc ht] at h2; cases h2⟩) (fun out hB oS => ?_)
  obtain ⟨p, l, e, s, m, args, below, meth, c0, ω⟩ := Γ
  intro H locs ls cells slots Q hP hS w
  have he := ww_get (ω := ω) (σ := σ) hq.1
  rw [cellE_o hq.2 hc] at he
  refine va_put (D := ω.2.1) (tys := tys6 ω) (own := M.1.cls) (ref := (clT c j).1) (ty := .long) hB.1 hB.2.1 hB.2.2.2.2.2.2.2.1 (cl_in c hc) (tyOf c) (cl_ty c hc) (cl_nm c hc) hB.2.2.2.1 hB.2.2.2.2.2.2.2.2.1 hP ww_D hS q he (cl_at hc) j hj (hB.2.2.2.2.2.2.2.1 _ hf) (fun _ h => h) hfin (by rw [cl_ty c hc j hj, ht]) rfl rfl (by simp [hj]) hd (fun H1 locs1 hP1 hD1 hS1 => ?_)
  rw [ww_set (K' := K) (σ' := up2 σ q j z) rfl (by rw [cellE_o hq.2 hc, map_set_o (z := z) (by rw [ht]; rfl)]) (fun a ha => cellE_ne ha)] at hP1
  exact w H1 locs1 hP1 hS1
theorem lng_i {K : Kt} {q n j : Nat} (h : K.2.1 q = (20, n)) : lng K q j = false := by
  unfold lng
  rw [h]
  rfl
theorem lng_z {K : Kt} {q n j : Nat} (h : K.2.1 q = (22, n)) : lng K q j = false := by
  unfold lng
  rw [h]
  rfl
theorem y_iaload {q n : Nat} {i : Int} (hq : IsA K q 20 n) (hi : 0 ≤ i ∧ i < (n : Int)) (hd : decode M.2.1 pc = .ok (.iaload, 1)) (k : Y Γ M K0 em K (pc + 1) L (aI (σ q i.toNat) :: S) σ v) : Y Γ M K0 em K pc L (aI i :: aR q :: S) σ v := by
  refine y_st k (fun oL oK h => okS_c.mpr ⟨(oK q _).2 (lng_i hq.2), (okS_c.mp (okS_c.mp h).2).2⟩) (fun out hB oS => ?_)
  obtain ⟨p, l, e, s, m, args, below, meth, c0, ω⟩ := Γ
  intro H locs ls cells slots Q hL oL oK hP hS w
  obtain ⟨oi, -⟩ := okS_c.mp oS
  have he := ww_get (ω := ω) (σ := σ) hq.1
  rw [cellE_i hq.2] at he
  refine va_iald (D := ω.2.1) (tys := tys6 ω) hB.1 hB.2.1 hB.2.2.2.2.2.2.2.2.1 hP q 0 he rfl (n32_in oi hi.1 hi.2) hd ?_
  rw [n32_cl oi]
  exact w
theorem y_laload {q n : Nat} {i : Int} (hq : IsA K q 21 n) (hi : 0 ≤ i ∧ i < (n : Int)) (hd : decode M.2.1 pc = .ok (.laload, 1)) (k : Y Γ M K0 em K (pc + 1) L (aL (σ q i.toNat) :: S) σ v) : Y Γ M K0 em K pc L (aI i :: aR q :: S) σ v := by
  refine y_st k (fun oL oK h => okS_c.mpr ⟨(oK q _).1, (okS_c.mp (okS_c.mp h).2).2⟩) (fun out hB oS => ?_)
  obtain ⟨p, l, e, s, m, args, below, meth, c0, ω⟩ := Γ
  intro H locs ls cells slots Q hL oL oK hP hS w
  obtain ⟨oi, -⟩ := okS_c.mp oS
  have he := ww_get (ω := ω) (σ := σ) hq.1
  rw [cellE_l hq.2] at he
  refine va_lald (D := ω.2.1) (tys := tys6 ω) hB.1 hB.2.1 hB.2.2.2.2.2.2.2.2.1 hP q 1 he rfl (n32_in oi hi.1 hi.2) hd ?_
  rw [n32_cl oi]
  exact w
theorem y_baload {q n : Nat} {i : Int} (hq : IsA K q 22 n) (hi : 0 ≤ i ∧ i < (n : Int)) (hd : decode M.2.1 pc = .ok (.baload, 1)) (k : Y Γ M K0 em K (pc + 1) L (aI (σ q i.toNat) :: S) σ v) : Y Γ M K0 em K pc L (aI i :: aR q :: S) σ v := by
  refine y_st k (fun oL oK h => okS_c.mpr ⟨(oK q _).2 (lng_z hq.2), (okS_c.mp (okS_c.mp h).2).2⟩) (fun out hB oS => ?_)
  obtain ⟨p, l, e, s, m, args, below, meth, c0, ω⟩ := Γ
  intro H locs ls cells slots Q hL oL oK hP hS w
  obtain ⟨oi, -⟩ := okS_c.mp oS
  have he := ww_get (ω := ω) (σ := σ) hq.1
  rw [cellE_z hq.2] at he
  refine va_zald (D := ω.2.1) (tys := tys6 ω) hB.1 hB.2.1 hB.2.2.2.2.2.2.2.2.1 hP q 2 he rfl (n32_in oi hi.1 hi.2) hd ?_
  rw [n32_cl oi]
  exact w
theorem y_aaload {q n t : Nat} {i : Int} {r : Option Nat} (ht : t = 23 ∨ t = 24 ∨ t = 25) (hq : IsA K q t n) (hi : 0 ≤ i ∧ i < (n : Int)) (hr : K.1 q i.toNat = r) (hd : decode M.2.1 pc = .ok (.aaload, 1)) (k : Y Γ M K0 em K (pc + 1) L (aQ r :: S) σ v) : Y Γ M K0 em K pc L (aI i :: aR q :: S) σ v := by
  refine y_st k (fun oL oK h => okS_c.mpr ⟨trivial, (okS_c.mp (okS_c.mp h).2).2⟩) (fun out hB oS => ?_)
  obtain ⟨p, l, e, s, m, args, below, meth, c0, ω⟩ := Γ
  intro H locs ls cells slots Q hL oL oK hP hS w
  obtain ⟨oi, -⟩ := okS_c.mp oS
  have he := ww_get (ω := ω) (σ := σ) hq.1
  rw [cellE_q hq.2 ht] at he
  have ht2 : ∃ C : String, (tys6 ω)[t - 20]? = some (ω.2.2.1 (t - 20), .object C) := by
    rcases ht with rfl | rfl | rfl
    · exact ⟨_, rfl⟩
    · exact ⟨_, rfl⟩
    · exact ⟨_, rfl⟩
  obtain ⟨C, hC⟩ := ht2
  refine va_aldq (D := ω.2.1) (tys := tys6 ω) hB.1 hB.2.1 hB.2.2.2.2.2.2.2.2.1 hP q (t - 20) he hC (n32_in oi hi.1 hi.2) hd ?_
  rw [n32_cl oi, hr]
  exact w
theorem y_iastore {q n : Nat} {i z : Int} (hq : IsA K q 20 n) (hi : 0 ≤ i ∧ i < (n : Int)) (hd : decode M.2.1 pc = .ok (.iastore, 1)) (k : Y Γ M K0 em K (pc + 1) L S (up2 σ q i.toNat z) v) : Y Γ M K0 em K pc L (aI z :: aI i :: aR q :: S) σ v := by
  refine y_wr k (fun h => ⟨(okS_c.mp (okS_c.mp (okS_c.mp h).2).2).2, in64_of (okS_c.mp h).1, fun _ => (okS_c.mp h).1⟩) (fun out hB oS => ?_)
  obtain ⟨p, l, e, s, m, args, below, meth, c0, ω⟩ := Γ
  intro H locs ls cells slots Q hP hS w
  obtain ⟨oz, oS1⟩ := okS_c.mp oS
  obtain ⟨oi, -⟩ := okS_c.mp oS1
  have he := ww_get (ω := ω) (σ := σ) hq.1
  rw [cellE_i hq.2] at he
  refine va_iast (D := ω.2.1) (tys := tys6 ω) hB.1 hB.2.1 hB.2.2.2.2.2.2.2.2.1 hP ww_D hS q 0 he rfl (n32_in oi hi.1 hi.2) hd (fun H1 locs1 hP1 hD1 hS1 => ?_)
  rw [n32_cl oi, ww_set (K' := K) (σ' := up2 σ q i.toNat z) rfl (by rw [cellE_i hq.2, upd_i]) (fun a ha => cellE_ne ha)] at hP1
  exact w H1 locs1 hP1 hS1
theorem y_lastore {q n : Nat} {i z : Int} (hq : IsA K q 21 n) (hi : 0 ≤ i ∧ i < (n : Int)) (hd : decode M.2.1 pc = .ok (.lastore, 1)) (k : Y Γ M K0 em K (pc + 1) L S (up2 σ q i.toNat z) v) : Y Γ M K0 em K pc L (aL z :: aI i :: aR q :: S) σ v := by
  refine y_wr k (fun h => ⟨(okS_c.mp (okS_c.mp (okS_c.mp h).2).2).2, (okS_c.mp h).1, fun h2 => by rw [lng_l hq.2] at h2; cases h2⟩) (fun out hB oS => ?_)
  obtain ⟨p, l, e, s, m, args, below, meth, c0, ω⟩ := Γ
  intro H locs ls cells slots Q hP hS w
  obtain ⟨oz, oS1⟩ := okS_c.mp oS
  obtain ⟨oi, -⟩ := okS_c.mp oS1
  have he := ww_get (ω := ω) (σ := σ) hq.1
  rw [cellE_l hq.2] at he
  refine va_last (D := ω.2.1) (tys := tys6 ω) hB.1 hB.2.1 hB.2.2.2.2.2.2.2.2.1 hP ww_D hS q 1 he rfl (n32_in oi hi.1 hi.2) hd (fun H1 locs1 hP1 hD1 hS1 => ?_)
  rw [n32_cl oi, ww_set (K' := K) (σ' := up2 σ q i.toNat z) rfl (by rw [cellE_l hq.2, upd_l]) (fun a ha => cellE_ne ha)] at hP1
  exact w H1 locs1 hP1 hS1
end YC
