/-! ===== checks of shapes, references that are found at run time ===== -/
noncomputable def ckP {α : Type} (c : Prop) (v : Option α) : Option α := @ck α c (Classical.propDecidable c) v
theorem ckP_p {α : Type} {c : Prop} (h : c) (v : Option α) : ckP c v = v := @ck_p α c (Classical.propDecidable c) h v
def cpy2 (σ : Sg) (q0 q1 sp dp n : Nat) : Sg := fun a b => if a = q1 ∧ dp ≤ b ∧ b < dp + n then σ q0 (sp + (b - dp)) else σ a b
section YX
variable {α β : Type} {Γ : Gx} {M : Mt} {K0 K : Kt} {em : α → Out} {pc : Nat} {L : List (Option AV)} {S S0 : List AV} {σ : Sg} {v : Option α}
theorem y_ckP {c : Prop} (k : c → Y Γ M K0 em K pc L S σ v) : Y Γ M K0 em K pc L S σ (ckP c v) := @y_ck α Γ M K0 K em pc L S σ v c (Classical.propDecidable c) k
theorem yb_getR {idx c j q : Nat} {kk : Nat → Option α} (hf : FA M.1.cls idx c j) (hq : IsC K q c) (ht : refT (tyOf c j) = true) (hd : decode M.2.1 pc = .ok (.getfield idx, 3)) (k : ∀ r, K.1 q j = some r → Y Γ M K0 em K (pc + 3) L (aR r :: S) σ (kk r)) : Y Γ M K0 em K pc L (aR q :: S) σ ((K.1 q j).bind kk) := by
  intro o ho
  cases h : K.1 q j with
  | none => rw [h] at ho; cases ho
  | some r => rw [h] at ho; exact y_getR hf hq ht h hd (k r h) o ho
theorem y_nn {r : Option Nat} {kk : Nat → Option α} (k : ∀ t, r = some t → Y Γ M K0 em K pc L (aR t :: S) σ (kk t)) : Y Γ M K0 em K pc L (aQ r :: S) σ (r.bind kk) := by
  intro o ho
  cases r with
  | none => cases ho
  | some t => exact k t rfl o ho
theorem y_ifnull {r : Option Nat} {off : Int} {t : Nat} {v1 : Option α} {kk : Nat → Option α} (hd : decode M.2.1 pc = .ok (.ifnull off, 3)) (ht : (pc : Int) + off = (t : Int)) (k1 : r = none → Y Γ M K0 em K t L S σ v1) (k2 : ∀ x, r = some x → Y Γ M K0 em K (pc + 3) L S σ (kk x)) : Y Γ M K0 em K pc L (aQ r :: S) σ (r.elim v1 kk) := by
  cases r with
  | none => exact y_ifnull_t hd ht (k1 rfl)
  | some x => exact y_ifnull_f hd (k2 x rfl)
theorem y_ifnonnull {r : Option Nat} {off : Int} {t : Nat} {v1 : Option α} {kk : Nat → Option α} (hd : decode M.2.1 pc = .ok (.ifnonnull off, 3)) (ht : (pc : Int) + off = (t : Int)) (k1 : r = none → Y Γ M K0 em K (pc + 3) L S σ v1) (k2 : ∀ x, r = some x → Y Γ M K0 em K t L S σ (kk x)) : Y Γ M K0 em K pc L (aQ r :: S) σ (r.elim v1 kk) := by
  cases r with
  | none => exact y_ifnonnull_f hd (k1 rfl)
  | some x => exact y_ifnonnull_t hd ht (k2 x rfl)
theorem yk_aaload {q n t : Nat} {i N : Int} (ht : t = 23 ∨ t = 24 ∨ t = 25) (hq : IsA K q t n) (hN : (n : Int) = N) (hd : decode M.2.1 pc = .ok (.aaload, 1)) (k : Y Γ M K0 em K (pc + 1) L (aQ (K.1 q i.toNat) :: S) σ v) : Y Γ M K0 em K pc L (aI i :: aR q :: S) σ (ck (0 ≤ i ∧ i < N) v) := y_ck (fun h => y_aaload ht hq (by rw [hN]; exact h) rfl hd k)
/-- a step that writes words -/
theorem y_wrS {pc' : Nat} {S' : List AV} {σ' : Sg} (k : Y Γ M K0 em K pc' L S' σ' v) (hok : okS S → oks K σ → okS S' ∧ oks K σ') (h : ∀ (out : Out), Bd Γ M K0 → okS S → match Γ with
    | (p, l, e, s, m, args, below, meth, c, ω) => ∀ (H : Heap) (locs : List Loc) (ls : Array Slot) (cells slots : Nat) (Q : State → Prop), ls.size = M.2.2.1 → va_P ω.2.1 vwCl (ww ω K σ) H → va_S (fun q => ω.1 ≤ q) s.heap H locs → (∀ (H1 : Heap) (locs1 : List Loc), va_P ω.2.1 vwCl (ww ω K σ') H1 → va_S (fun q => ω.1 ≤ q) s.heap H1 locs1 → W p l e (rmo M.2.2.2.2 K0 out.2.1) s m args below meth c H1 locs1 cells slots Q (F0 m pc' ls (S'.map (cv ω)))) → W p l e (rmo M.2.2.2.2 K0 out.2.1) s m args below meth c H locs cells slots Q (F0 m pc ls (S.map (cv ω)))) : Y Γ M K0 em K pc L S σ v := by
  intro o ho
  obtain ⟨hn, hk⟩ := k o ho
  refine ⟨hn, fun h0 hB => ?_⟩
  have h1 := h (em o) hB
  have h2 := hk h0 hB
  obtain ⟨p, l, e, s, m, args, below, meth, c, ω⟩ := Γ
  intro H locs ls hz hL oL oS oK hH hP hS
  obtain ⟨g1, g2⟩ := hok oS oK
  exact h1 oS H locs ls _ _ _ (hL.1.trans hz) hP hS (fun H1 locs1 hP1 hS1 => wsz hB.2.2.2.2.2.2.2.2.2.1 h0 hP1 hS1 (fun hH1 => h2 H1 locs1 ls hz hL oL g1 g2 hH1 hP1 hS1))
theorem cpy_row {σ : Sg} {q0 q1 sp dp n : Nat} : (fun i => Int32.ofInt (cpy2 σ q0 q1 sp dp n q1 i)) = va_cpy (fun i => Int32.ofInt (σ q0 i)) (fun i => Int32.ofInt (σ q1 i)) sp dp n := by
  funext i
  unfold cpy2 va_cpy
  by_cases h : dp ≤ i ∧ i < dp + n
  · rw [if_pos ⟨rfl, h⟩, if_pos h]
  · rw [if_neg (fun z => h z.2), if_neg h]
theorem cpy_ne {ω : Wd} {σ : Sg} {q0 q1 sp dp n a : Nat} (h : a ≠ q1) : cellE ω K (cpy2 σ q0 q1 sp dp n) a = cellE ω K σ a := by
  have e : ∀ b, cpy2 σ q0 q1 sp dp n a b = σ a b := fun b => if_neg (fun z => h z.1)
  unfold cellE
  simp only [e]
/-- System.arraycopy of int arrays -/
theorem yk_copy {idx q0 q1 n0 n1 : Nat} {sp dp n : Int} {kk : Sg → Option α} (hw : Cond.methodLink M.1.cls idx arraycopyName ∈ gwt ∧ Cond.native arraycopyName ∈ gwt ∧ Cond.static arraycopyName ∈ gwt ∧ Cond.initialized "java/lang/System" ∈ gwt) (hdep : 2 ≤ M.2.2.2.2) (hq0 : IsA K q0 20 n0) (hq1 : IsA K q1 20 n1) (hcat : (S.map catA).sum ≤ 8) (hd : decode M.2.1 pc = .ok (.invokestatic idx, 3)) (k : ∀ σ1, Y Γ M K0 em K (pc + 3) L S σ1 (kk σ1)) : Y Γ M K0 em K pc L (aI n :: aI dp :: aR q1 :: aI sp :: aR q0 :: S) σ (ck (0 ≤ sp ∧ 0 ≤ dp ∧ 0 ≤ n ∧ sp + n ≤ (n0 : Int) ∧ dp + n ≤ (n1 : Int)) (nm (cpy2 σ q0 q1 sp.toNat dp.toNat n.toNat) kk)) := by
  refine y_ck (fun hc => ?_)
  refine y_wrS (k _) (fun h oK => ⟨(okS_c.mp (okS_c.mp (okS_c.mp (okS_c.mp (okS_c.mp h).2).2).2).2).2, fun a b => ?_⟩) (fun out hB oS => ?_)
  · unfold cpy2
    split
    · rename_i hab
      obtain ⟨rfl, -⟩ := hab
      exact ⟨(oK q0 _).1, fun _ => (oK q0 _).2 (lng_i hq0.2)⟩
    · exact oK a b
  obtain ⟨p, l, e, s, m, args, below, meth, c0, ω⟩ := Γ
  intro H locs ls cells slots Q hls hP hS w
  obtain ⟨on, oS1⟩ := okS_c.mp oS
  obtain ⟨od, oS2⟩ := okS_c.mp oS1
  obtain ⟨-, oS3⟩ := okS_c.mp oS2
  obtain ⟨os, -⟩ := okS_c.mp oS3
  have hts := hB.2.2.2.2.2.2.2.1
  have he0 := ww_get (ω := ω) (σ := σ) hq0.1
  rw [cellE_i hq0.2] at he0
  have he1 := ww_get (ω := ω) (σ := σ) hq1.1
  rw [cellE_i hq1.2] at he1
  have ng : ∀ z : Int, in32 z → 0 ≤ z → ¬ Int32.ofInt z < 0 := fun z h1 h2 h3 => by rw [n32_0, n32_lt h1 (by decide)] at h3; omega
  refine va_copyi (D := ω.2.1) (tys := tys6 ω) hB.1 hB.2.1 (hB.2.2.1.trans hls.symm) hB.2.2.2.1 (hts _ hw.1) (hts _ hw.2.1) (hts _ hw.2.2.1) (hts _ hw.2.2.2) hB.2.2.2.2.2.2.2.2.1 hP ww_D hS q0 q1 0 0 he0 he1 (ty := .int) rfl rfl rfl (ng sp os hc.1) (ng dp od hc.2.1) (ng n on hc.2.2.1) (by rw [n32_cl os, n32_cl on]; omega) (by rw [n32_cl od, n32_cl on]; omega) (fun _ _ => rfl) (by show 1 ≤ M.2.2.2.2; omega) ?_ hd (fun H1 locs1 hP1 hD1 hS1 => ?_)
  · rw [cat_sum]
    have e1 : nativeFrameWords "java/lang/System" "arraycopy" 5 = 7 := by decide +kernel
    rw [e1]
    show _ ≤ 40 * M.2.2.2.2
    omega
  · rw [n32_cl os, n32_cl od, n32_cl on, ww_set (K' := K) (σ' := cpy2 σ q0 q1 sp.toNat dp.toNat n.toNat) rfl (by rw [cellE_i hq1.2, cpy_row]) (fun a ha => cpy_ne ha)] at hP1
    exact w H1 locs1 hP1 hS1
end YX
