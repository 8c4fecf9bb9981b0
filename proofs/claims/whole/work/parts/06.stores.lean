section YR
variable {α : Type} {Γ : Gx} {M : Mt} {K0 K : Kt} {em : α → Out} {pc : Nat} {L : List (Option AV)} {S : List AV} {σ : Sg} {v : Option α}
theorem y_istore_n {j : Fin 4} {i : Nat} {a : Int} (hd : decode M.2.1 pc = .ok (.istore_n j, 1)) (hi : (j : Nat) = i) (hn : i < L.length) {L' : List (Option AV)} (hL' : sti i (aI a) L = L') (k : Y Γ M K0 em K (pc + 1) L' (S) σ v) : Y Γ M K0 em K pc L (aI a :: S) σ v := by
  subst hL'
  refine y_sto k (sti_len _ _ _) (fun oL h => ⟨okL_sti oL (okS_c.mp h).1, (okS_c.mp h).2⟩) (fun out hB oS => ?_)
  obtain ⟨p, l, e, s, m, args, below, meth, c, ω⟩ := Γ
  intro H locs ls cells slots Q hL w
  exact lv_istore_n hB.1 hB.2.1 hd hi (lps_has hL) hn rfl (fun ls' h' => w ls' (LR_sti h'))
theorem y_istore {i : Nat} {a : Int} (hd : decode M.2.1 pc = .ok (.istore i, 2)) (hn : i < L.length) {L' : List (Option AV)} (hL' : sti i (aI a) L = L') (k : Y Γ M K0 em K (pc + 2) L' (S) σ v) : Y Γ M K0 em K pc L (aI a :: S) σ v := by
  subst hL'
  refine y_sto k (sti_len _ _ _) (fun oL h => ⟨okL_sti oL (okS_c.mp h).1, (okS_c.mp h).2⟩) (fun out hB oS => ?_)
  obtain ⟨p, l, e, s, m, args, below, meth, c, ω⟩ := Γ
  intro H locs ls cells slots Q hL w
  exact lv_istore hB.1 hB.2.1 hd (lps_has hL) hn rfl (fun ls' h' => w ls' (LR_sti h'))
theorem y_lstore_n {j : Fin 4} {i : Nat} {a : Int} (hd : decode M.2.1 pc = .ok (.lstore_n j, 1)) (hi : (j : Nat) = i) (hn : i + 1 < L.length) {L' : List (Option AV)} (hL' : stl i (aL a) L = L') (k : Y Γ M K0 em K (pc + 1) L' (S) σ v) : Y Γ M K0 em K pc L (aL a :: S) σ v := by
  subst hL'
  refine y_sto k (stl_len _ _ _) (fun oL h => ⟨okL_stl oL (okS_c.mp h).1, (okS_c.mp h).2⟩) (fun out hB oS => ?_)
  obtain ⟨p, l, e, s, m, args, below, meth, c, ω⟩ := Γ
  intro H locs ls cells slots Q hL w
  exact lv_lstore_n hB.1 hB.2.1 hd hi (lps_has hL) hn rfl (fun ls' h' => w ls' (LR_stl h'))
theorem y_lstore {i : Nat} {a : Int} (hd : decode M.2.1 pc = .ok (.lstore i, 2)) (hn : i + 1 < L.length) {L' : List (Option AV)} (hL' : stl i (aL a) L = L') (k : Y Γ M K0 em K (pc + 2) L' (S) σ v) : Y Γ M K0 em K pc L (aL a :: S) σ v := by
  subst hL'
  refine y_sto k (stl_len _ _ _) (fun oL h => ⟨okL_stl oL (okS_c.mp h).1, (okS_c.mp h).2⟩) (fun out hB oS => ?_)
  obtain ⟨p, l, e, s, m, args, below, meth, c, ω⟩ := Γ
  intro H locs ls cells slots Q hL w
  exact lv_lstore hB.1 hB.2.1 hd (lps_has hL) hn rfl (fun ls' h' => w ls' (LR_stl h'))
theorem y_astore_n {j : Fin 4} {i a : Nat} (hd : decode M.2.1 pc = .ok (.astore_n j, 1)) (hi : (j : Nat) = i) (hn : i < L.length) {L' : List (Option AV)} (hL' : sti i (aR a) L = L') (k : Y Γ M K0 em K (pc + 1) L' (S) σ v) : Y Γ M K0 em K pc L (aR a :: S) σ v := by
  subst hL'
  refine y_sto k (sti_len _ _ _) (fun oL h => ⟨okL_sti oL (okS_c.mp h).1, (okS_c.mp h).2⟩) (fun out hB oS => ?_)
  obtain ⟨p, l, e, s, m, args, below, meth, c, ω⟩ := Γ
  intro H locs ls cells slots Q hL w
  exact lv_astore_n hB.1 hB.2.1 hd hi (lps_has hL) hn rfl (fun ls' h' => w ls' (LR_sti h'))
theorem y_astore {i a : Nat} (hd : decode M.2.1 pc = .ok (.astore i, 2)) (hn : i < L.length) {L' : List (Option AV)} (hL' : sti i (aR a) L = L') (k : Y Γ M K0 em K (pc + 2) L' (S) σ v) : Y Γ M K0 em K pc L (aR a :: S) σ v := by
  subst hL'
  refine y_sto k (sti_len _ _ _) (fun oL h => ⟨okL_sti oL (okS_c.mp h).1, (okS_c.mp h).2⟩) (fun out hB oS => ?_)
  obtain ⟨p, l, e, s, m, args, below, meth, c, ω⟩ := Γ
  intro H locs ls cells slots Q hL w
  exact lv_astore hB.1 hB.2.1 hd (lps_has hL) hn rfl (fun ls' h' => w ls' (LR_sti h'))
theorem y_iinc {i : Nat} {n a : Int} (hd : decode M.2.1 pc = .ok (.iinc i n, 3)) (hl : L[i]? = some (some (aI a))) (hr : in32 (a + n)) {L' : List (Option AV)} (hL' : sti i (aI (a + n)) L = L') (k : Y Γ M K0 em K (pc + 3) L' (S) σ v) : Y Γ M K0 em K pc L (S) σ v := by
  subst hL'
  refine y_sto k (sti_len _ _ _) (fun oL h => ⟨okL_sti oL hr, h⟩) (fun out hB oS => ?_)
  obtain ⟨p, l, e, s, m, args, below, meth, c, ω⟩ := Γ
  intro H locs ls cells slots Q hL w
  have hn : i < L.length := (List.getElem?_eq_some_iff.mp hl).1
  obtain ⟨q, hq⟩ := List.getElem?_of_mem (lps_mem (ω := ω) hl)
  exact lv_iinc hB.1 hB.2.1 hd (lps_has hL) (k := q) (x := Int32.ofInt a) hq (v := Int32.ofInt (a + n)) (Int32.ofInt_add a n).symm hn rfl (fun ls' h' => w ls' (LR_sti h'))
/-- a computed number gets a name: it is forgotten how it came -/
theorem y_nm {β : Type} {e : β} {kk : β → Option α} (k : Y Γ M K0 em K pc L S σ (kk e)) : Y Γ M K0 em K pc L S σ (nm e kk) := k
end YR
