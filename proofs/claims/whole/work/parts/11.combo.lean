/-! ===== rows that go with the pure functions' own words ===== -/
abbrev emI (K : Kt) (σ : Sg) : Int → Out := fun r => (some (aI r), K, σ)
abbrev emL (K : Kt) (σ : Sg) : Int → Out := fun r => (some (aL r), K, σ)
abbrev emQ (K : Kt) (σ : Sg) : Option Nat → Out := fun r => (some (aQ r), K, σ)
abbrev emIS (K : Kt) : Int × Sg → Out := fun r => (some (aI r.1), K, r.2)
abbrev emLS (K : Kt) : Int × Sg → Out := fun r => (some (aL r.1), K, r.2)
abbrev emV (K : Kt) : Sg → Out := fun r => (none, K, r)
def bd2 {α : Type} (o : Option (Int × Sg)) (k : Int → Sg → Option α) : Option α := o.bind (fun p => k p.1 p.2)
theorem bd2_some {α : Type} (a : Int) (s : Sg) (k : Int → Sg → Option α) : bd2 (some (a, s)) k = k a s := rfl
/-- fuel of every loop -/
def FU : Nat := 1000000000
def fgt : List Bool → List (Option AV) → List (Option AV)
  | true :: m, a :: t => a :: fgt m t
  | false :: m, _ :: t => none :: fgt m t
  | _, t => t
theorem fgt_len : ∀ (m : List Bool) (L : List (Option AV)), (fgt m L).length = L.length
  | [], L => by cases L <;> rfl
  | true :: m, [] => rfl
  | false :: m, [] => rfl
  | true :: m, a :: t => by show (fgt m t).length + 1 = t.length + 1; rw [fgt_len m t]
  | false :: m, a :: t => by show (fgt m t).length + 1 = t.length + 1; rw [fgt_len m t]
theorem fgt_get : ∀ (m : List Bool) (L : List (Option AV)) (i : Nat) (w : AV), (fgt m L)[i]? = some (some w) → L[i]? = some (some w)
  | [], L, i, w, h => by cases L <;> exact h
  | true :: m, [], i, w, h => h
  | false :: m, [], i, w, h => h
  | true :: m, a :: t, 0, w, h => h
  | true :: m, a :: t, i + 1, w, h => fgt_get m t i w h
  | false :: m, a :: t, 0, w, h => by have h : some (none : Option AV) = some (some w) := h; cases h
  | false :: m, a :: t, i + 1, w, h => fgt_get m t i w h
section YK
variable {α : Type} {Γ : Gx} {M : Mt} {K0 K : Kt} {em : α → Out} {pc : Nat} {L : List (Option AV)} {S : List AV} {σ : Sg} {v : Option α}
/-- locals that nobody asks for any more -/
theorem y_fg (m : List Bool) {L' : List (Option AV)} (hL : fgt m L = L') (k : Y Γ M K0 em K pc L' S σ v) : Y Γ M K0 em K pc L S σ v := by
  subst hL
  intro o ho
  obtain ⟨hn, hk⟩ := k o ho
  refine ⟨hn, fun h0 hB => ?_⟩
  have h2 := hk h0 hB
  obtain ⟨p, l, e, s, mm, args, below, meth, c, ω⟩ := Γ
  intro H locs ls hz hL oL oS oK hH hP hS
  refine h2 H locs ls (by rw [fgt_len]; exact hz) ⟨by rw [fgt_len]; exact hL.1, hL.2.1, fun i w hw => hL.2.2 i w (fgt_get m L i w hw)⟩ (fun w hw => ?_) oS oK hH hP hS
  obtain ⟨i, hi⟩ := List.getElem?_of_mem hw
  exact oL w (List.mem_of_getElem? (fgt_get m L i w hi))
theorem yk_iadd {a b : Int} (hd : decode M.2.1 pc = .ok (.iadd, 1)) (k : Y Γ M K0 em K (pc + 1) L (aI (a + b) :: S) σ v) : Y Γ M K0 em K pc L (aI b :: aI a :: S) σ (ck (in32 (a + b)) v) := y_ck (fun h => y_iadd hd h k)
theorem yk_isub {a b : Int} (hd : decode M.2.1 pc = .ok (.isub, 1)) (k : Y Γ M K0 em K (pc + 1) L (aI (a - b) :: S) σ v) : Y Γ M K0 em K pc L (aI b :: aI a :: S) σ (ck (in32 (a - b)) v) := y_ck (fun h => y_isub hd h k)
theorem yk_imul {a b : Int} (hd : decode M.2.1 pc = .ok (.imul, 1)) (k : Y Γ M K0 em K (pc + 1) L (aI (a * b) :: S) σ v) : Y Γ M K0 em K pc L (aI b :: aI a :: S) σ (ck (in32 (a * b)) v) := y_ck (fun h => y_imul hd h k)
theorem yk_ladd {a b : Int} (hd : decode M.2.1 pc = .ok (.ladd, 1)) (k : Y Γ M K0 em K (pc + 1) L (aL (a + b) :: S) σ v) : Y Γ M K0 em K pc L (aL b :: aL a :: S) σ (ck (in64 (a + b)) v) := y_ck (fun h => y_ladd hd h k)
theorem yk_lsub {a b : Int} (hd : decode M.2.1 pc = .ok (.lsub, 1)) (k : Y Γ M K0 em K (pc + 1) L (aL (a - b) :: S) σ v) : Y Γ M K0 em K pc L (aL b :: aL a :: S) σ (ck (in64 (a - b)) v) := y_ck (fun h => y_lsub hd h k)
theorem yk_lmul {a b : Int} (hd : decode M.2.1 pc = .ok (.lmul, 1)) (k : Y Γ M K0 em K (pc + 1) L (aL (a * b) :: S) σ v) : Y Γ M K0 em K pc L (aL b :: aL a :: S) σ (ck (in64 (a * b)) v) := y_ck (fun h => y_lmul hd h k)
theorem yk_idiv {a b : Int} (hd : decode M.2.1 pc = .ok (.idiv, 1)) (k : Y Γ M K0 em K (pc + 1) L (aI (a.tdiv b) :: S) σ v) : Y Γ M K0 em K pc L (aI b :: aI a :: S) σ (ck (¬ b = 0 ∧ in32 (a.tdiv b)) v) := y_ck (fun h => y_idiv hd h.1 h.2 k)
theorem yk_irem {a b : Int} (hd : decode M.2.1 pc = .ok (.irem, 1)) (k : Y Γ M K0 em K (pc + 1) L (aI (a.tmod b) :: S) σ v) : Y Γ M K0 em K pc L (aI b :: aI a :: S) σ (ck (¬ b = 0 ∧ in32 (a.tmod b)) v) := y_ck (fun h => y_irem hd h.1 h.2 k)
theorem yk_ldiv {a b : Int} (hd : decode M.2.1 pc = .ok (.ldiv, 1)) (k : Y Γ M K0 em K (pc + 1) L (aL (a.tdiv b) :: S) σ v) : Y Γ M K0 em K pc L (aL b :: aL a :: S) σ (ck (¬ b = 0 ∧ in64 (a.tdiv b)) v) := y_ck (fun h => y_ldiv hd h.1 h.2 k)
theorem yk_lrem {a b : Int} (hd : decode M.2.1 pc = .ok (.lrem, 1)) (k : Y Γ M K0 em K (pc + 1) L (aL (a.tmod b) :: S) σ v) : Y Γ M K0 em K pc L (aL b :: aL a :: S) σ (ck (¬ b = 0 ∧ in64 (a.tmod b)) v) := y_ck (fun h => y_lrem hd h.1 h.2 k)
theorem yk_ineg {a : Int} (hd : decode M.2.1 pc = .ok (.ineg, 1)) (k : Y Γ M K0 em K (pc + 1) L (aI (-a) :: S) σ v) : Y Γ M K0 em K pc L (aI a :: S) σ (ck (in32 (-a)) v) := y_ck (fun h => y_ineg hd h k)
theorem yk_iinc {i : Nat} {n a : Int} {L' : List (Option AV)} (hd : decode M.2.1 pc = .ok (.iinc i n, 3)) (hl : L[i]? = some (some (aI a))) (hL' : sti i (aI (a + n)) L = L') (k : Y Γ M K0 em K (pc + 3) L' S σ v) : Y Γ M K0 em K pc L S σ (ck (in32 (a + n)) v) := y_ck (fun h => y_iinc hd hl h hL' k)
theorem yk_iaload {q n j : Nat} {i N : Int} (hq : IsA K q 20 n) (hN : (n : Int) = N) (hj : i.toNat = j) (hd : decode M.2.1 pc = .ok (.iaload, 1)) (k : Y Γ M K0 em K (pc + 1) L (aI (σ q j) :: S) σ v) : Y Γ M K0 em K pc L (aI i :: aR q :: S) σ (ck (0 ≤ i ∧ i < N) v) := y_ck (fun h => y_iaload hq (by rw [hN]; exact h) hd (by rw [hj]; exact k))
theorem yl_iaload {q n j : Nat} {i : Int} (hq : IsA K q 20 n) (h : 0 ≤ i ∧ i < (n : Int)) (hj : i.toNat = j) (hd : decode M.2.1 pc = .ok (.iaload, 1)) (k : Y Γ M K0 em K (pc + 1) L (aI (σ q j) :: S) σ v) : Y Γ M K0 em K pc L (aI i :: aR q :: S) σ v := y_iaload hq h hd (by rw [hj]; exact k)
theorem yk_laload {q n j : Nat} {i N : Int} (hq : IsA K q 21 n) (hN : (n : Int) = N) (hj : i.toNat = j) (hd : decode M.2.1 pc = .ok (.laload, 1)) (k : Y Γ M K0 em K (pc + 1) L (aL (σ q j) :: S) σ v) : Y Γ M K0 em K pc L (aI i :: aR q :: S) σ (ck (0 ≤ i ∧ i < N) v) := y_ck (fun h => y_laload hq (by rw [hN]; exact h) hd (by rw [hj]; exact k))
theorem yl_laload {q n j : Nat} {i : Int} (hq : IsA K q 21 n) (h : 0 ≤ i ∧ i < (n : Int)) (hj : i.toNat = j) (hd : decode M.2.1 pc = .ok (.laload, 1)) (k : Y Γ M K0 em K (pc + 1) L (aL (σ q j) :: S) σ v) : Y Γ M K0 em K pc L (aI i :: aR q :: S) σ v := y_laload hq h hd (by rw [hj]; exact k)
theorem yk_baload {q n j : Nat} {i N : Int} (hq : IsA K q 22 n) (hN : (n : Int) = N) (hj : i.toNat = j) (hd : decode M.2.1 pc = .ok (.baload, 1)) (k : Y Γ M K0 em K (pc + 1) L (aI (σ q j) :: S) σ v) : Y Γ M K0 em K pc L (aI i :: aR q :: S) σ (ck (0 ≤ i ∧ i < N) v) := y_ck (fun h => y_baload hq (by rw [hN]; exact h) hd (by rw [hj]; exact k))
theorem yl_baload {q n j : Nat} {i : Int} (hq : IsA K q 22 n) (h : 0 ≤ i ∧ i < (n : Int)) (hj : i.toNat = j) (hd : decode M.2.1 pc = .ok (.baload, 1)) (k : Y Γ M K0 em K (pc + 1) L (aI (σ q j) :: S) σ v) : Y Γ M K0 em K pc L (aI i :: aR q :: S) σ v := y_baload hq h hd (by rw [hj]; exact k)
theorem yk_iastore {q n j : Nat} {i z N : Int} {kk : Sg → Option α} (hq : IsA K q 20 n) (hN : (n : Int) = N) (hj : i.toNat = j) (hd : decode M.2.1 pc = .ok (.iastore, 1)) (k : ∀ σ1, Y Γ M K0 em K (pc + 1) L S σ1 (kk σ1)) : Y Γ M K0 em K pc L (aI z :: aI i :: aR q :: S) σ (ck (0 ≤ i ∧ i < N) (nm (up2 σ q j z) kk)) := y_ck (fun h => y_iastore hq (by rw [hN]; exact h) hd (by rw [hj]; exact k _))
theorem yl_iastore {q n j : Nat} {i z : Int} {kk : Sg → Option α} (hq : IsA K q 20 n) (h : 0 ≤ i ∧ i < (n : Int)) (hj : i.toNat = j) (hd : decode M.2.1 pc = .ok (.iastore, 1)) (k : ∀ σ1, Y Γ M K0 em K (pc + 1) L S σ1 (kk σ1)) : Y Γ M K0 em K pc L (aI z :: aI i :: aR q :: S) σ (nm (up2 σ q j z) kk) := y_iastore hq h hd (by rw [hj]; exact k _)
theorem yk_lastore {q n j : Nat} {i z N : Int} {kk : Sg → Option α} (hq : IsA K q 21 n) (hN : (n : Int) = N) (hj : i.toNat = j) (hd : decode M.2.1 pc = .ok (.lastore, 1)) (k : ∀ σ1, Y Γ M K0 em K (pc + 1) L S σ1 (kk σ1)) : Y Γ M K0 em K pc L (aL z :: aI i :: aR q :: S) σ (ck (0 ≤ i ∧ i < N) (nm (up2 σ q j z) kk)) := y_ck (fun h => y_lastore hq (by rw [hN]; exact h) hd (by rw [hj]; exact k _))
theorem yl_lastore {q n j : Nat} {i z : Int} {kk : Sg → Option α} (hq : IsA K q 21 n) (h : 0 ≤ i ∧ i < (n : Int)) (hj : i.toNat = j) (hd : decode M.2.1 pc = .ok (.lastore, 1)) (k : ∀ σ1, Y Γ M K0 em K (pc + 1) L S σ1 (kk σ1)) : Y Γ M K0 em K pc L (aL z :: aI i :: aR q :: S) σ (nm (up2 σ q j z) kk) := y_lastore hq h hd (by rw [hj]; exact k _)
theorem yk_bastore {q n j : Nat} {i z N : Int} {kk : Sg → Option α} (hq : IsA K q 22 n) (hN : (n : Int) = N) (hj : i.toNat = j) (hd : decode M.2.1 pc = .ok (.bastore, 1)) (k : ∀ σ1, Y Γ M K0 em K (pc + 1) L S σ1 (kk σ1)) : Y Γ M K0 em K pc L (aI z :: aI i :: aR q :: S) σ (ck ((z = 0 ∨ z = 1) ∧ 0 ≤ i ∧ i < N) (nm (up2 σ q j z) kk)) := y_ck (fun h => y_bastore h.1 hq (by rw [hN]; exact h.2) hd (by rw [hj]; exact k _))
theorem yn_putI {idx c j q : Nat} {z : Int} {kk : Sg → Option α} (hf : FA M.1.cls idx c j) (hq : IsC K q c) (ht : tyOf c j = .int) (hfin : (clT c j).2.2.2 = false) (hd : decode M.2.1 pc = .ok (.putfield idx, 3)) (k : ∀ σ1, Y Γ M K0 em K (pc + 3) L S σ1 (kk σ1)) : Y Γ M K0 em K pc L (aI z :: aR q :: S) σ (nm (up2 σ q j z) kk) := y_putI hf hq ht hfin hd (k _)
theorem yn_putJ {idx c j q : Nat} {z : Int} {kk : Sg → Option α} (hf : FA M.1.cls idx c j) (hq : IsC K q c) (ht : tyOf c j = .long) (hfin : (clT c j).2.2.2 = false) (hd : decode M.2.1 pc = .ok (.putfield idx, 3)) (k : ∀ σ1, Y Γ M K0 em K (pc + 3) L S σ1 (kk σ1)) : Y Γ M K0 em K pc L (aL z :: aR q :: S) σ (nm (up2 σ q j z) kk) := y_putJ hf hq ht hfin hd (k _)
theorem yn_putZ {idx c j q : Nat} {z : Int} {kk : Sg → Option α} (hz : z = 0 ∨ z = 1) (hf : FA M.1.cls idx c j) (hq : IsC K q c) (ht : tyOf c j = .boolean) (hfin : (clT c j).2.2.2 = false) (hd : decode M.2.1 pc = .ok (.putfield idx, 3)) (k : ∀ σ1, Y Γ M K0 em K (pc + 3) L S σ1 (kk σ1)) : Y Γ M K0 em K pc L (aI z :: aR q :: S) σ (nm (up2 σ q j z) kk) := y_putZ hz hf hq ht hfin hd (k _)
theorem yk_putZ {idx c j q : Nat} {z : Int} {kk : Sg → Option α} (hf : FA M.1.cls idx c j) (hq : IsC K q c) (ht : tyOf c j = .boolean) (hfin : (clT c j).2.2.2 = false) (hd : decode M.2.1 pc = .ok (.putfield idx, 3)) (k : ∀ σ1, Y Γ M K0 em K (pc + 3) L S σ1 (kk σ1)) : Y Γ M K0 em K pc L (aI z :: aR q :: S) σ (ck (z = 0 ∨ z = 1) (nm (up2 σ q j z) kk)) := y_ck (fun h => y_putZ h hf hq ht hfin hd (k _))
theorem yn_istore_n {j : Fin 4} {i : Nat} {a : Int} {L' : Int → List (Option AV)} {kk : Int → Option α} (hd : decode M.2.1 pc = .ok (.istore_n j, 1)) (hi : (j : Nat) = i) (hn : i < L.length) (hL' : ∀ x, sti i (aI x) L = L' x) (k : ∀ x, Y Γ M K0 em K (pc + 1) (L' x) S σ (kk x)) : Y Γ M K0 em K pc L (aI a :: S) σ (nm a kk) := y_istore_n hd hi hn (hL' a) (k a)
theorem yn_istore {i : Nat} {a : Int} {L' : Int → List (Option AV)} {kk : Int → Option α} (hd : decode M.2.1 pc = .ok (.istore i, 2)) (hn : i < L.length) (hL' : ∀ x, sti i (aI x) L = L' x) (k : ∀ x, Y Γ M K0 em K (pc + 2) (L' x) S σ (kk x)) : Y Γ M K0 em K pc L (aI a :: S) σ (nm a kk) := y_istore hd hn (hL' a) (k a)
theorem yn_lstore_n {j : Fin 4} {i : Nat} {a : Int} {L' : Int → List (Option AV)} {kk : Int → Option α} (hd : decode M.2.1 pc = .ok (.lstore_n j, 1)) (hi : (j : Nat) = i) (hn : i + 1 < L.length) (hL' : ∀ x, stl i (aL x) L = L' x) (k : ∀ x, Y Γ M K0 em K (pc + 1) (L' x) S σ (kk x)) : Y Γ M K0 em K pc L (aL a :: S) σ (nm a kk) := y_lstore_n hd hi hn (hL' a) (k a)
theorem yn_lstore {i : Nat} {a : Int} {L' : Int → List (Option AV)} {kk : Int → Option α} (hd : decode M.2.1 pc = .ok (.lstore i, 2)) (hn : i + 1 < L.length) (hL' : ∀ x, stl i (aL x) L = L' x) (k : ∀ x, Y Γ M K0 em K (pc + 2) (L' x) S σ (kk x)) : Y Γ M K0 em K pc L (aL a :: S) σ (nm a kk) := y_lstore hd hn (hL' a) (k a)
theorem yk_zret {o : α} {r : Int} (hM : M.2.2.2.1 = some .boolean) (ho : em o = (some (aI r), K, σ)) (hd : decode M.2.1 pc = .ok (.ireturn, 1)) : Y Γ M K0 em K pc L [aI r] σ (ck (r = 0 ∨ r = 1) (some o)) := y_ck (fun h => y_zret h hM ho hd)
end YK
section YG
variable {α β : Type} {Γ : Gx} {M : Mt} {K0 K : Kt} {em : α → Out} {pc : Nat} {L : List (Option AV)} {S S0 : List AV} {σ : Sg}
theorem y_cv {M2 : Mt} {idx n c q : Nat} {As : List AV} {em2 : β → Out} {v2 : Option β} {kk : β → Option α} (hC : Cc M2 K (aR q :: As) σ em2 v2) (h : CV M.1.cls idx n c M2) (hy : M2.1.cls = clR c) (hq : IsC K q c) (hn : As.length = n) (hdep : M2.2.2.2.2 + 1 ≤ M.2.2.2.2) (hS0 : S0 = As.reverse ++ aR q :: S) (hcat : (S.map catA).sum ≤ 8) (hd : decode M.2.1 pc = .ok (.invokevirtual idx, 3)) (k : ∀ b, v2 = some b → Y Γ M K0 em (em2 b).2.1 (pc + 3) L ((em2 b).1.toList ++ S) (em2 b).2.2 (kk b)) : Y Γ M K0 em K pc L S0 σ (v2.bind kk) := by
  refine y_call (rn_V h hy hq hn hdep hS0 hcat hd) hC ?_ ?_ k
  · intro a ha
    rw [hS0]
    rcases List.mem_cons.mp ha with rfl | ha
    · exact List.mem_append_right _ List.mem_cons_self
    · exact List.mem_append_left _ (List.mem_reverse.mpr ha)
  · intro a ha
    rw [hS0]
    exact List.mem_append_right _ (List.mem_cons_of_mem _ ha)
theorem y_cs {M2 : Mt} {idx n : Nat} {As : List AV} {em2 : β → Out} {v2 : Option β} {kk : β → Option α} (hC : Cc M2 K As σ em2 v2) (h : CS M.1.cls idx n M2) (hn : As.length = n) (hdep : M2.2.2.2.2 + 1 ≤ M.2.2.2.2) (hS0 : S0 = As.reverse ++ S) (hcat : (S.map catA).sum ≤ 8) (hd : decode M.2.1 pc = .ok (.invokestatic idx, 3)) (k : ∀ b, v2 = some b → Y Γ M K0 em (em2 b).2.1 (pc + 3) L ((em2 b).1.toList ++ S) (em2 b).2.2 (kk b)) : Y Γ M K0 em K pc L S0 σ (v2.bind kk) := by
  refine y_call (rn_S h hn hdep hS0 hcat hd) hC ?_ ?_ k
  · intro a ha
    rw [hS0]
    exact List.mem_append_left _ (List.mem_reverse.mpr ha)
  · intro a ha
    rw [hS0]
    exact List.mem_append_right _ ha
theorem y_cvI {M2 : Mt} {idx n c q : Nat} {As : List AV} {v2 : Option (Int)} {kk : Int → Option α} (hC : Cc M2 K (aR q :: As) σ (emI K σ) v2) (h : CV M.1.cls idx n c M2) (hy : M2.1.cls = clR c) (hq : IsC K q c) (hn : As.length = n) (hdep : M2.2.2.2.2 + 1 ≤ M.2.2.2.2) (hS0 : S0 = As.reverse ++ aR q :: S) (hcat : (S.map catA).sum ≤ 8) (hd : decode M.2.1 pc = .ok (.invokevirtual idx, 3)) (k : ∀ r, Y Γ M K0 em K (pc + 3) L (aI r :: S) σ (kk r)) : Y Γ M K0 em K pc L S0 σ (v2.bind kk) := y_cv hC h hy hq hn hdep hS0 hcat hd (fun b _ => k b)
theorem y_csI {M2 : Mt} {idx n : Nat} {As : List AV} {v2 : Option (Int)} {kk : Int → Option α} (hC : Cc M2 K As σ (emI K σ) v2) (h : CS M.1.cls idx n M2) (hn : As.length = n) (hdep : M2.2.2.2.2 + 1 ≤ M.2.2.2.2) (hS0 : S0 = As.reverse ++ S) (hcat : (S.map catA).sum ≤ 8) (hd : decode M.2.1 pc = .ok (.invokestatic idx, 3)) (k : ∀ r, Y Γ M K0 em K (pc + 3) L (aI r :: S) σ (kk r)) : Y Γ M K0 em K pc L S0 σ (v2.bind kk) := y_cs hC h hn hdep hS0 hcat hd (fun b _ => k b)
theorem y_cvL {M2 : Mt} {idx n c q : Nat} {As : List AV} {v2 : Option (Int)} {kk : Int → Option α} (hC : Cc M2 K (aR q :: As) σ (emL K σ) v2) (h : CV M.1.cls idx n c M2) (hy : M2.1.cls = clR c) (hq : IsC K q c) (hn : As.length = n) (hdep : M2.2.2.2.2 + 1 ≤ M.2.2.2.2) (hS0 : S0 = As.reverse ++ aR q :: S) (hcat : (S.map catA).sum ≤ 8) (hd : decode M.2.1 pc = .ok (.invokevirtual idx, 3)) (k : ∀ r, Y Γ M K0 em K (pc + 3) L (aL r :: S) σ (kk r)) : Y Γ M K0 em K pc L S0 σ (v2.bind kk) := y_cv hC h hy hq hn hdep hS0 hcat hd (fun b _ => k b)
theorem y_csL {M2 : Mt} {idx n : Nat} {As : List AV} {v2 : Option (Int)} {kk : Int → Option α} (hC : Cc M2 K As σ (emL K σ) v2) (h : CS M.1.cls idx n M2) (hn : As.length = n) (hdep : M2.2.2.2.2 + 1 ≤ M.2.2.2.2) (hS0 : S0 = As.reverse ++ S) (hcat : (S.map catA).sum ≤ 8) (hd : decode M.2.1 pc = .ok (.invokestatic idx, 3)) (k : ∀ r, Y Γ M K0 em K (pc + 3) L (aL r :: S) σ (kk r)) : Y Γ M K0 em K pc L S0 σ (v2.bind kk) := y_cs hC h hn hdep hS0 hcat hd (fun b _ => k b)
theorem y_cvQ {M2 : Mt} {idx n c q : Nat} {As : List AV} {v2 : Option (Option Nat)} {kk : Option Nat → Option α} (hC : Cc M2 K (aR q :: As) σ (emQ K σ) v2) (h : CV M.1.cls idx n c M2) (hy : M2.1.cls = clR c) (hq : IsC K q c) (hn : As.length = n) (hdep : M2.2.2.2.2 + 1 ≤ M.2.2.2.2) (hS0 : S0 = As.reverse ++ aR q :: S) (hcat : (S.map catA).sum ≤ 8) (hd : decode M.2.1 pc = .ok (.invokevirtual idx, 3)) (k : ∀ r, v2 = some r → Y Γ M K0 em K (pc + 3) L (aQ r :: S) σ (kk r)) : Y Γ M K0 em K pc L S0 σ (v2.bind kk) := y_cv hC h hy hq hn hdep hS0 hcat hd (k)
theorem y_csQ {M2 : Mt} {idx n : Nat} {As : List AV} {v2 : Option (Option Nat)} {kk : Option Nat → Option α} (hC : Cc M2 K As σ (emQ K σ) v2) (h : CS M.1.cls idx n M2) (hn : As.length = n) (hdep : M2.2.2.2.2 + 1 ≤ M.2.2.2.2) (hS0 : S0 = As.reverse ++ S) (hcat : (S.map catA).sum ≤ 8) (hd : decode M.2.1 pc = .ok (.invokestatic idx, 3)) (k : ∀ r, v2 = some r → Y Γ M K0 em K (pc + 3) L (aQ r :: S) σ (kk r)) : Y Γ M K0 em K pc L S0 σ (v2.bind kk) := y_cs hC h hn hdep hS0 hcat hd (k)
theorem y_cvIS {M2 : Mt} {idx n c q : Nat} {As : List AV} {v2 : Option (Int × Sg)} {kk : Int → Sg → Option α} (hC : Cc M2 K (aR q :: As) σ (emIS K) v2) (h : CV M.1.cls idx n c M2) (hy : M2.1.cls = clR c) (hq : IsC K q c) (hn : As.length = n) (hdep : M2.2.2.2.2 + 1 ≤ M.2.2.2.2) (hS0 : S0 = As.reverse ++ aR q :: S) (hcat : (S.map catA).sum ≤ 8) (hd : decode M.2.1 pc = .ok (.invokevirtual idx, 3)) (k : ∀ r σ1, Y Γ M K0 em K (pc + 3) L (aI r :: S) σ1 (kk r σ1)) : Y Γ M K0 em K pc L S0 σ (bd2 v2 kk) := y_cv (kk := fun p => kk p.1 p.2) hC h hy hq hn hdep hS0 hcat hd (fun b _ => k b.1 b.2)
theorem y_csIS {M2 : Mt} {idx n : Nat} {As : List AV} {v2 : Option (Int × Sg)} {kk : Int → Sg → Option α} (hC : Cc M2 K As σ (emIS K) v2) (h : CS M.1.cls idx n M2) (hn : As.length = n) (hdep : M2.2.2.2.2 + 1 ≤ M.2.2.2.2) (hS0 : S0 = As.reverse ++ S) (hcat : (S.map catA).sum ≤ 8) (hd : decode M.2.1 pc = .ok (.invokestatic idx, 3)) (k : ∀ r σ1, Y Γ M K0 em K (pc + 3) L (aI r :: S) σ1 (kk r σ1)) : Y Γ M K0 em K pc L S0 σ (bd2 v2 kk) := y_cs (kk := fun p => kk p.1 p.2) hC h hn hdep hS0 hcat hd (fun b _ => k b.1 b.2)
theorem y_cvLS {M2 : Mt} {idx n c q : Nat} {As : List AV} {v2 : Option (Int × Sg)} {kk : Int → Sg → Option α} (hC : Cc M2 K (aR q :: As) σ (emLS K) v2) (h : CV M.1.cls idx n c M2) (hy : M2.1.cls = clR c) (hq : IsC K q c) (hn : As.length = n) (hdep : M2.2.2.2.2 + 1 ≤ M.2.2.2.2) (hS0 : S0 = As.reverse ++ aR q :: S) (hcat : (S.map catA).sum ≤ 8) (hd : decode M.2.1 pc = .ok (.invokevirtual idx, 3)) (k : ∀ r σ1, Y Γ M K0 em K (pc + 3) L (aL r :: S) σ1 (kk r σ1)) : Y Γ M K0 em K pc L S0 σ (bd2 v2 kk) := y_cv (kk := fun p => kk p.1 p.2) hC h hy hq hn hdep hS0 hcat hd (fun b _ => k b.1 b.2)
theorem y_csLS {M2 : Mt} {idx n : Nat} {As : List AV} {v2 : Option (Int × Sg)} {kk : Int → Sg → Option α} (hC : Cc M2 K As σ (emLS K) v2) (h : CS M.1.cls idx n M2) (hn : As.length = n) (hdep : M2.2.2.2.2 + 1 ≤ M.2.2.2.2) (hS0 : S0 = As.reverse ++ S) (hcat : (S.map catA).sum ≤ 8) (hd : decode M.2.1 pc = .ok (.invokestatic idx, 3)) (k : ∀ r σ1, Y Γ M K0 em K (pc + 3) L (aL r :: S) σ1 (kk r σ1)) : Y Γ M K0 em K pc L S0 σ (bd2 v2 kk) := y_cs (kk := fun p => kk p.1 p.2) hC h hn hdep hS0 hcat hd (fun b _ => k b.1 b.2)
theorem y_cvV {M2 : Mt} {idx n c q : Nat} {As : List AV} {v2 : Option (Sg)} {kk : Sg → Option α} (hC : Cc M2 K (aR q :: As) σ (emV K) v2) (h : CV M.1.cls idx n c M2) (hy : M2.1.cls = clR c) (hq : IsC K q c) (hn : As.length = n) (hdep : M2.2.2.2.2 + 1 ≤ M.2.2.2.2) (hS0 : S0 = As.reverse ++ aR q :: S) (hcat : (S.map catA).sum ≤ 8) (hd : decode M.2.1 pc = .ok (.invokevirtual idx, 3)) (k : ∀ σ1, Y Γ M K0 em K (pc + 3) L S σ1 (kk σ1)) : Y Γ M K0 em K pc L S0 σ (v2.bind kk) := y_cv hC h hy hq hn hdep hS0 hcat hd (fun b _ => k b)
theorem y_csV {M2 : Mt} {idx n : Nat} {As : List AV} {v2 : Option (Sg)} {kk : Sg → Option α} (hC : Cc M2 K As σ (emV K) v2) (h : CS M.1.cls idx n M2) (hn : As.length = n) (hdep : M2.2.2.2.2 + 1 ≤ M.2.2.2.2) (hS0 : S0 = As.reverse ++ S) (hcat : (S.map catA).sum ≤ 8) (hd : decode M.2.1 pc = .ok (.invokestatic idx, 3)) (k : ∀ σ1, Y Γ M K0 em K (pc + 3) L S σ1 (kk σ1)) : Y Γ M K0 em K pc L S0 σ (v2.bind kk) := y_cs hC h hn hdep hS0 hcat hd (fun b _ => k b)
end YG
