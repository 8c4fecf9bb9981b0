/-- an instruction's own field: class c, place j -/
def FA (own : String) (idx c j : Nat) : Prop := Cond.fieldLink own idx (clT c j).1 (clT c j).2.1 (clT c j).2.2.1 ∈ gwt ∧ c < 11 ∧ j < nfs c
/-- cell k is an object of class c -/
def IsC (K : Kt) (k c : Nat) : Prop := k < K.2.2.1 ∧ (K.2.1 k).1 = c
/-- cell k is an array of kind t and length n -/
def IsA (K : Kt) (k t n : Nat) : Prop := k < K.2.2.1 ∧ K.2.1 k = (t, n)
theorem cellE_o {ω : Wd} {K : Kt} {σ : Sg} {k c : Nat} (h : (K.2.1 k).1 = c) (hc : c < 11) : cellE ω K σ k = .inr (c, (List.range (nfs c)).map (fun j => fldV ω (tyOf c j) (σ k j) (K.1 k j))) := by
  subst h
  unfold cellE
  split <;> first | (exfalso; omega) | rfl
theorem cellE_i {ω : Wd} {K : Kt} {σ : Sg} {k n : Nat} (h : K.2.1 k = (20, n)) : cellE ω K σ k = .inl (ω.2.2.1 0, n, .inl (fun i => Int32.ofInt (σ k i))) := by
  unfold cellE
  rw [h]
  rfl
theorem cellE_l {ω : Wd} {K : Kt} {σ : Sg} {k n : Nat} (h : K.2.1 k = (21, n)) : cellE ω K σ k = .inl (ω.2.2.1 1, n, .inr (.inl (fun i => Int64.ofInt (σ k i)))) := by
  unfold cellE
  rw [h]
  rfl
theorem cellE_z {ω : Wd} {K : Kt} {σ : Sg} {k n : Nat} (h : K.2.1 k = (22, n)) : cellE ω K σ k = .inl (ω.2.2.1 2, n, .inl (fun i => Int32.ofInt (σ k i))) := by
  unfold cellE
  rw [h]
  rfl
theorem cellE_q {ω : Wd} {K : Kt} {σ : Sg} {k n t : Nat} (h : K.2.1 k = (t, n)) (ht : t = 23 ∨ t = 24 ∨ t = 25) : cellE ω K σ k = .inl (ω.2.2.1 (t - 20), n, .inr (.inr (.inr (.inr (fun i => (K.1 k i).map (fun q => ω.1 + q)))))) := by
  unfold cellE
  rw [h]
  rcases ht with rfl | rfl | rfl <;> rfl
theorem cellE_ne {ω : Wd} {K : Kt} {σ : Sg} {k j : Nat} {z : Int} {a : Nat} (h : a ≠ k) : cellE ω K (up2 σ k j z) a = cellE ω K σ a := by
  have e : ∀ b, up2 σ k j z a b = σ a b := fun b => by simp [up2, h]
  unfold cellE
  simp only [e]
def intT (t : FieldType) : Bool := match t with
  | .int => true
  | .boolean => true
  | _ => false
def refT (t : FieldType) : Bool := match t with
  | .object _ => true
  | .array _ => true
  | _ => false
theorem fldV_i {ω : Wd} {t : FieldType} {z : Int} {r : Option Nat} (h : intT t = true) : fldV ω t z r = .int (Int32.ofInt z) := by
  cases t <;> first | rfl | cases h
theorem fldV_r {ω : Wd} {t : FieldType} {z : Int} {r : Option Nat} (h : refT t = true) : fldV ω t z r = va_rf (r.map (fun k => ω.1 + k)) := by
  cases t <;> first | rfl | cases h
theorem lng_o {K : Kt} {k c j : Nat} (h : (K.2.1 k).1 = c) (hc : c < 11) (ht : intT (tyOf c j) = true) : lng K k j = false := by
  subst h
  unfold lng
  split <;> first | (exfalso; omega) | rfl | (split <;> first | rfl | (rename_i h2; rw [h2] at ht; cases ht))
theorem oks_up {K : Kt} {σ : Sg} {k j : Nat} {z : Int} (h : oks K σ) (h1 : in64 z) (h2 : lng K k j = false → in32 z) : oks K (up2 σ k j z) := by
  intro a b
  unfold up2
  by_cases hab : a = k ∧ b = j
  · rw [if_pos hab]
    obtain ⟨rfl, rfl⟩ := hab
    exact ⟨h1, h2⟩
  · rw [if_neg hab]
    exact h a b
theorem in64_of {z : Int} (h : in32 z) : in64 z := by constructor <;> omega
theorem map_set_o {ω : Wd} {K : Kt} {σ : Sg} {k c j : Nat} {z : Int} {x : Value} (hx : fldV ω (tyOf c j) z (K.1 k j) = x) : ((List.range (nfs c)).map (fun j => fldV ω (tyOf c j) (σ k j) (K.1 k j))).set j x = (List.range (nfs c)).map (fun i => fldV ω (tyOf c i) (up2 σ k j z k i) (K.1 k i)) := by
  apply List.ext_getElem?
  intro i
  by_cases hi : i < nfs c
  · by_cases hij : i = j
    · subst hij
      rw [List.getElem?_set_self (by simp [hi])]
      simp [hi, up2, hx]
    · rw [List.getElem?_set_ne (Ne.symm hij)]
      simp [hi, up2, hij]
  · rw [List.getElem?_eq_none (by simp; omega), List.getElem?_eq_none (by simp; omega)]
section YC
variable {α : Type} {Γ : Gx} {M : Mt} {K0 K : Kt} {em : α → Out} {pc : Nat} {L : List (Option AV)} {S : List AV} {σ : Sg} {v : Option α}
theorem y_getI {idx c j q : Nat} (hf : FA M.1.cls idx c j) (hq : IsC K q c) (ht : intT (tyOf c j) = true) (hd : decode M.2.1 pc = .ok (.getfield idx, 3)) (k : Y Γ M K0 em K (pc + 3) L (aI (σ q j) :: S) σ v) : Y Γ M K0 em K pc L (aR q :: S) σ v := by
  obtain ⟨hf, hc, hj⟩ := hf
  refine y_st k (fun oL oK h => okS_c.mpr ⟨(oK q j).2 (lng_o hq.2 hc ht), (okS_c.mp h).2⟩) (fun out hB oS => ?_)
  obtain ⟨p, l, e, s, m, args, below, meth, c0, ω⟩ := Γ
  intro H locs ls cells slots Q hL oL oK hP hS w
  have he := ww_get (ω := ω) (σ := σ) hq.1
  rw [cellE_o hq.2 hc] at he
  refine va_get (D := ω.2.1) (tys := tys6 ω) (own := M.1.cls) (ref := (clT c j).1) hB.1 hB.2.1 hB.2.2.2.2.2.2.2.1 (cl_in c hc) hB.2.2.2.1 hB.2.2.2.2.2.2.2.2.1 hP q he (cl_at hc) j hj (hB.2.2.2.2.2.2.2.1 _ hf) (fun _ h => h) (v := .int (Int32.ofInt (σ q j))) ?_ hd w
  simp [hj, fldV_i ht]
theorem y_getJ {idx c j q : Nat} (hf : FA M.1.cls idx c j) (hq : IsC K q c) (ht : tyOf c j = .long) (hd : decode M.2.1 pc = .ok (.getfield idx, 3)) (k : Y Γ M K0 em K (pc + 3) L (aL (σ q j) :: S) σ v) : Y Γ M K0 em K pc L (aR q :: S) σ v := by
  obtain ⟨hf, hc, hj⟩ := hf
  refine y_st k (fun oL oK h => okS_c.mpr ⟨(oK q j).1, (okS_c.mp h).2⟩) (fun out hB oS => ?_)
  obtain ⟨p, l, e, s, m, args, below, meth, c0, ω⟩ := Γ
  intro H locs ls cells slots Q hL oL oK hP hS w
  have he := ww_get (ω := ω) (σ := σ) hq.1
  rw [cellE_o hq.2 hc] at he
  refine va_get (D := ω.2.1) (tys := tys6 ω) (own := M.1.cls) (ref := (clT c j).1) hB.1 hB.2.1 hB.2.2.2.2.2.2.2.1 (cl_in c hc) hB.2.2.2.1 hB.2.2.2.2.2.2.2.2.1 hP q he (cl_at hc) j hj (hB.2.2.2.2.2.2.2.1 _ hf) (fun _ h => h) (v := .long (Int64.ofInt (σ q j))) ?_ hd w
  simp [hj, ht, fldV]
theorem y_getR {idx c j q : Nat} {r : Option Nat} (hf : FA M.1.cls idx c j) (hq : IsC K q c) (ht : refT (tyOf c j) = true) (hr : K.1 q j = r) (hd : decode M.2.1 pc = .ok (.getfield idx, 3)) (k : Y Γ M K0 em K (pc + 3) L (aQ r :: S) σ v) : Y Γ M K0 em K pc L (aR q :: S) σ v := by
  obtain ⟨hf, hc, hj⟩ := hf
  refine y_st k (fun oL oK h => okS_c.mpr ⟨trivial, (okS_c.mp h).2⟩) (fun out hB oS => ?_)
  obtain ⟨p, l, e, s, m, args, below, meth, c0, ω⟩ := Γ
  intro H locs ls cells slots Q hL oL oK hP hS w
  have he := ww_get (ω := ω) (σ := σ) hq.1
  rw [cellE_o hq.2 hc] at he
  refine va_get (D := ω.2.1) (tys := tys6 ω) (own := M.1.cls) (ref := (clT c j).1) hB.1 hB.2.1 hB.2.2.2.2.2.2.2.1 (cl_in c hc) hB.2.2.2.1 hB.2.2.2.2.2.2.2.2.1 hP q he (cl_at hc) j hj (hB.2.2.2.2.2.2.2.1 _ hf) (fun _ h => h) (v := va_rf (r.map (fun k => ω.1 + k))) ?_ hd w
  simp [hj, fldV_r ht, hr]
end YC
theorem wsz {p : Program} {l : Launch} {e : Env} {R : Room} {s : State} {m : MethodId} {args : Array Value} {below : List Frame} {meth : Method} {c : Code} {H : Heap} {locs : List Loc} {slots : Nat} {Q : State → Prop} {g : JFrame} {ω : Wd} {K0 K : Kt} {σ : Sg}
    (hs : s.heap.size = ω.1 + K0.2.2.1) (hg : Gr K0 K) (hP : va_P ω.2.1 vwCl (ww ω K σ) H) (hS : va_S (fun q => ω.1 ≤ q) s.heap H locs)
    (k : H.size = ω.1 + K.2.2.1 → W p l e R s m args below meth c H locs (K.2.2.1 - K0.2.2.1) slots Q g) : W p l e R s m args below meth c H locs (K.2.2.1 - K0.2.2.1) slots Q g := by
  intro T hT X
  refine k ?_ T hT X
  have h1 := X.heapSize
  rw [hT] at h1
  have h2 := hg.1
  have h3 := hS.1
  have h4 : ω.1 + K.2.2.1 ≤ H.size := by
    by_cases h0 : K.2.2.1 = 0
    · omega
    · have h5 := (hP (K.2.2.1 - 1) _ (ww_get (by omega))).lt
      have h6 : ω.1 + (K.2.2.1 - 1) < H.size := h5
      omega
  omega
section YC
variable {α : Type} {Γ : Gx} {M : Mt} {K0 K : Kt} {em : α → Out} {pc : Nat} {L : List (Option AV)} {S : List AV} {σ : Sg} {v : Option α}
/-- a step that writes a word -/
theorem y_wr {pc' : Nat} {S' : List AV} {q j : Nat} {z : Int} (k : Y Γ M K0 em K pc' L S' (up2 σ q j z) v) (hok : okS S → okS S' ∧ in64 z ∧ (lng K q j = false → in32 z)) (h : ∀ (out : Out), Bd Γ M K0 → okS S → match Γ with
    | (p, l, e, s, m, args, below, meth, c, ω) => ∀ (H : Heap) (locs : List Loc) (ls : Array Slot) (cells slots : Nat) (Q : State → Prop), va_P ω.2.1 vwCl (ww ω K σ) H → va_S (fun q => ω.1 ≤ q) s.heap H locs → (∀ (H1 : Heap) (locs1 : List Loc), va_P ω.2.1 vwCl (ww ω K (up2 σ q j z)) H1 → va_S (fun q => ω.1 ≤ q) s.heap H1 locs1 → W p l e (rmo M.2.2.2.2 K0 out.2.1) s m args below meth c H1 locs1 cells slots Q (F0 m pc' ls (S'.map (cv ω)))) → W p l e (rmo M.2.2.2.2 K0 out.2.1) s m args below meth c H locs cells slots Q (F0 m pc ls (S.map (cv ω)))) : Y Γ M K0 em K pc L S σ v := by
  intro o ho
  obtain ⟨hn, hk⟩ := k o ho
  refine ⟨hn, fun h0 hB => ?_⟩
  have h1 := h (em o) hB
  have h2 := hk h0 hB
  obtain ⟨p, l, e, s, m, args, below, meth, c, ω⟩ := Γ
  intro H locs ls hz hL oL oS oK hH hP hS
  obtain ⟨g1, g2, g3⟩ := hok oS
  exact h1 oS H locs ls _ _ _ hP hS (fun H1 locs1 hP1 hS1 => wsz hB.2.2.2.2.2.2.2.2.2.1 h0 hP1 hS1 (fun hH1 => h2 H1 locs1 ls hz hL oL g1 (oks_up oK g2 g3) hH1 hP1 hS1))
end YC
