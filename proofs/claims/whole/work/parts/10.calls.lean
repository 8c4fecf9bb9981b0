/-! ===== contracts and calls ===== -/
def Cc {α : Type} (M : Mt) (K : Kt) (As : List AV) (σ : Sg) (em : α → Out) (v : Option α) : Prop := ∀ o, v = some o → Gr K (em o).2.1 ∧ (okS As → ∀ (l : Launch) (ω : Wd), Met l M.1 (.code M.1 M.2.1 M.2.2.1 M.2.2.2.1 :: gwt) (rmo M.2.2.2.2 K (em o).2.1) (va_Pc (As.map (cv ω)) (Rep ω K σ)) (Qo ω (em o)) ((em o).2.1.2.2.1 - K.2.2.1) ((em o).2.1.2.2.2 - K.2.2.2) (fun q => ω.1 ≤ q))
def ents : List AV → List (Option AV)
  | [] => []
  | .inr (.inl z) :: t => some (aL z) :: none :: ents t
  | a :: t => some a :: ents t
def entL (n : Nat) (As : List AV) : List (Option AV) := ents As ++ List.replicate (n - (ents As).length) none
theorem ents_c {a : AV} (t : List AV) (h : ∀ z, a ≠ aL z) : ents (a :: t) = some a :: ents t := by
  rcases a with z | z | r
  · rfl
  · exact absurd rfl (h z)
  · rfl
theorem cat_l (ω : Wd) (z : Int) : (cv ω (aL z)).category = 2 := rfl
theorem ents_len (ω : Wd) : ∀ (As : List AV), (lg_sl (As.map (cv ω))).length = (ents As).length
  | [] => rfl
  | a :: t => by
    have ih := ents_len ω t
    unfold lg_sl at ih ⊢
    by_cases h : ∃ z, a = aL z
    · obtain ⟨z, rfl⟩ := h
      rw [List.map_cons, List.flatMap_cons, List.length_append, ih, if_pos (cat_l ω z)]
      show 2 + (ents t).length = (ents t).length + 1 + 1
      omega
    · have h1 : ∀ z, a ≠ aL z := fun z hz => h ⟨z, hz⟩
      rw [List.map_cons, List.flatMap_cons, List.length_append, ih, ents_c t h1, if_neg (by rw [cat_long h1]; decide)]
      show 1 + (ents t).length = (ents t).length + 1
      omega
theorem ents_get (ω : Wd) : ∀ (As : List AV) (off i : Nat) (w : AV), (ents As)[i]? = some (some w) → (off + i, cv ω w) ∈ lv_args off (As.map (cv ω))
  | [], off, i, w, h => by simp [ents] at h
  | a :: t, off, i, w, h => by
    by_cases hz : ∃ z, a = aL z
    · obtain ⟨z, rfl⟩ := hz
      have h : (some (aL z) :: none :: ents t)[i]? = some (some w) := h
      show _ ∈ (off, cv ω (aL z)) :: lv_args (if (cv ω (aL z)).category = 2 then off + 2 else off + 1) (t.map (cv ω))
      rw [if_pos (cat_l ω z)]
      match i, h with
      | 0, h => have h : some (some (aL z)) = some (some w) := h; cases h; exact List.mem_cons_self
      | 1, h => have h : some (none : Option AV) = some (some w) := h; cases h
      | i + 2, h =>
        have h : (ents t)[i]? = some (some w) := h
        have := ents_get ω t (off + 2) i w h
        rw [show off + (i + 2) = off + 2 + i by omega]
        exact List.mem_cons_of_mem _ this
    · have h1 : ∀ z, a ≠ aL z := fun z hh => hz ⟨z, hh⟩
      rw [ents_c t h1] at h
      show _ ∈ (off, cv ω a) :: lv_args (if (cv ω a).category = 2 then off + 2 else off + 1) (t.map (cv ω))
      rw [if_neg (by rw [cat_long h1]; decide)]
      match i, h with
      | 0, h => have h : some (some a) = some (some w) := h; cases h; exact List.mem_cons_self
      | i + 1, h =>
        have h : (ents t)[i]? = some (some w) := h
        have := ents_get ω t (off + 1) i w h
        rw [show off + (i + 1) = off + 1 + i by omega]
        exact List.mem_cons_of_mem _ this
theorem entL_len {n : Nat} {As : List AV} (h : (ents As).length ≤ n) : (entL n As).length = n := by
  simp [entL]
  omega
theorem entL_get {n : Nat} {As : List AV} {i : Nat} {w : AV} (h : (entL n As)[i]? = some (some w)) : (ents As)[i]? = some (some w) := by
  unfold entL at h
  by_cases hi : i < (ents As).length
  · rwa [List.getElem?_append_left hi] at h
  · rw [List.getElem?_append_right (by omega)] at h
    have := List.eq_of_mem_replicate (List.mem_of_getElem? h)
    cases this
theorem ents_mem : ∀ {As : List AV} {w : AV}, some w ∈ ents As → w ∈ As
  | [], w, h => by simp [ents] at h
  | a :: t, w, h => by
    by_cases hz : ∃ z, a = aL z
    · obtain ⟨z, rfl⟩ := hz
      have h : some w ∈ some (aL z) :: none :: ents t := h
      rcases List.mem_cons.mp h with h | h
      · cases h; exact List.mem_cons_self
      · rcases List.mem_cons.mp h with h | h
        · cases h
        · exact List.mem_cons_of_mem _ (ents_mem h)
    · rw [ents_c t (fun z hh => hz ⟨z, hh⟩)] at h
      rcases List.mem_cons.mp h with h | h
      · cases h; exact List.mem_cons_self
      · exact List.mem_cons_of_mem _ (ents_mem h)
theorem entL_ok {n : Nat} {As : List AV} (h : okS As) : okL (entL n As) := by
  intro w hw
  unfold entL at hw
  rcases List.mem_append.mp hw with h1 | h1
  · exact h w (ents_mem h1)
  · have := List.eq_of_mem_replicate h1
    cases this
theorem cc_of {α : Type} {M : Mt} {K : Kt} {As : List AV} {σ : Sg} {em : α → Out} {v : Option α} (hpl : plainName M.1.cls = true) (hlen : (ents As).length ≤ M.2.2.1) (hg : ∀ o, v = some o → Gr K (em o).2.1) (h : ∀ Γ, Y Γ M K em K 0 (entL M.2.2.1 As) [] σ v) : Cc M K As σ em v := by
  intro o ho
  refine ⟨hg o ho, fun oA l ω => ?_⟩
  refine Met.ofW (cc := M.2.1) (maxL := M.2.2.1) (ret := M.2.2.2.1) hpl rfl ?_
  intro p e s m args below meth c s₁ B hml hv
  obtain ⟨hargs, hz, hP, hK, oK, hC⟩ := hv
  have hts := atoms_spec (ws := .code M.1 M.2.1 M.2.2.1 M.2.2.2.1 :: gwt) B.pre
  have hB : Bd (p, l, e, s, m, args, below, meth, c, ω) M K := ⟨B.exec, B.bytes, hml, findClass_of_methodNamed B.named, B.returns, B.notSynchronized, (name_of_methodNamed B.named B.method).1, fun w hw => hts w (List.mem_cons_of_mem _ hw), hK, hz, hC⟩
  have k := (h (p, l, e, s, m, args, below, meth, c, ω) o ho).2 ⟨Nat.le_refl _, Nat.le_refl _⟩ hB
  have hl := lv_entry (As.map (cv ω)) (n := M.2.2.1) (by rw [ents_len]; exact hlen)
  have hLR : LR ω ((lg_sl (As.map (cv ω)) ++ List.replicate (M.2.2.1 - (lg_sl (As.map (cv ω))).length) Slot.unset).toArray) (entL M.2.2.1 As) := ⟨by rw [entL_len hlen]; exact hl.1, hl.2.1, fun i w hw => hl.2.2 (i, cv ω w) (by have := ents_get ω As 0 i w (entL_get hw); rwa [Nat.zero_add] at this)⟩
  have k2 := k s.heap [] _ (entL_len hlen) hLR (entL_ok oA) (fun w hw => by cases hw) oK hz hP va_S.rf
  rw [Nat.sub_self, Nat.sub_self] at k2
  rw [hargs, lg_entry_eq, ← hargs]
  exact k2
theorem run_W {p : Program} {l : Launch} {e : Env} {R : Room} {s : State} {m : MethodId} {args : Array Value} {below : List Frame} {meth : Method} {c : Code} {H : Heap} {locs : List Loc} {cells slots mc ms cells' slots' : Nat} {Q : State → Prop} {pc : Nat} {ls : Array Slot} {rest st0 : List Value} {a : Array Value} {ω : Wd} {out : Out}
    (hr : va_Run p l e R s m args below meth c H locs cells slots mc ms (F0 m pc ls st0) rest (Qo ω out a) (fun q => ω.1 ≤ q)) (hS : va_S (fun q => ω.1 ≤ q) s.heap H locs) (hc : cells + mc = cells') (hs : slots + ms = slots')
    (kk : ∀ (H1 : Heap) (locs1 : List Loc), H1.size = ω.1 + out.2.1.2.2.1 → va_P ω.2.1 vwCl (ww ω out.2.1 out.2.2) H1 → oks out.2.1 out.2.2 → (∀ v, out.1 = some v → okv v) → va_S (fun q => ω.1 ≤ q) s.heap H1 locs1 → W p l e R s m args below meth c H1 locs1 cells' slots' Q (F0 m (pc + 3) ls ((out.1.map (cv ω)).toList ++ rest))) : W p l e R s m args below meth c H locs cells slots Q (F0 m pc ls st0) := by
  subst hc; subst hs
  intro T hT X
  obtain ⟨v, st₀, t, T', L, h0, X', hL, e1, e2, ⟨⟨hv, hok, hz, hP, -, oK, -⟩, hz2, hk⟩, st⟩ := hr T hT X
  cases hv
  rw [h0] at hz2 hk
  obtain ⟨t2, a1, b1⟩ := kk T'.heap (locs ++ L) (by rw [e1]; exact hz) (by rw [e1]; exact hP) oK hok
    ⟨Nat.le_trans hS.1 (by rw [e1]; exact hz2), fun q h1 h2 => by rw [e1, hk q (Nat.lt_of_lt_of_le h1 hS.1) h2]; exact hS.2.1 q h1 h2, fun q hq => by
      rcases List.mem_append.mp hq with h | h
      · exact hS.2.2 q h
      · exact hL q h⟩ T' rfl X'
  exact ⟨t2, st t2 a1, b1⟩
def catA : AV → Nat
  | .inr (.inl _) => 2
  | _ => 1
theorem catA_eq (ω : Wd) (a : AV) : (cv ω a).category = catA a := by
  rcases a with z | z | r | t
  · rfl
  · rfl
  · cases r <;> rfl
  · rfl
theorem cat_sum (ω : Wd) (S : List AV) : ((S.map (cv ω)).map fun v => v.category).sum = (S.map catA).sum := by
  rw [List.map_map]
  congr 1
  apply List.map_congr_left
  intro a _
  exact catA_eq ω a
/-- what a call of M2 needs of the tables, whatever its kind -/
def CB (own : String) (idx n : Nat) (M2 : Mt) : Prop := Cond.code M2.1 M2.2.1 M2.2.2.1 M2.2.2.2.1 ∈ gwt ∧ Cond.initialized M2.1.cls ∈ gwt ∧ (M2.1.cls ≠ "java/lang/invoke/MethodHandle" ∧ M2.1.cls ≠ "java/lang/invoke/VarHandle" ∧ (parseMethodDescriptor M2.1.desc).map (fun d => d.parameters.length) = some n) ∧ M2.2.2.1 ≤ 21
def CV (own : String) (idx n c : Nat) (M2 : Mt) : Prop := CB own idx n M2 ∧ Cond.methodLink own idx M2.1 ∈ gwt ∧ Cond.instanceMethod M2.1 ∈ gwt ∧ Cond.selects (clR c) M2.1 M2.1 ∈ gwt ∧ c < 11
def CS (own : String) (idx n : Nat) (M2 : Mt) : Prop := CB own idx n M2 ∧ Cond.methodLink own idx M2.1 ∈ gwt ∧ Cond.static M2.1 ∈ gwt
theorem Rep.blind {ω : Wd} {K : Kt} {σ : Sg} {av : List Value} : FrameBlind (va_Pc av (Rep ω K σ)) := by
  intro a U g mk h
  obtain ⟨h1, h2, h3, h4, h5, h6⟩ := h
  exact ⟨h1, h2, h3, va_K.moved (u := U) (U := U.calling g mk a) (Vm.Alike.refl U.vm) h4, h5, h6.calling⟩
theorem good_ws {M2 : Mt} (h : Cond.code M2.1 M2.2.1 M2.2.2.1 M2.2.2.2.1 ∈ gwt) : GoodIn gwt (.code M2.1 M2.2.1 M2.2.2.1 M2.2.2.2.1 :: gwt) := by
  intro w hw
  rcases List.mem_cons.mp hw with rfl | hw
  · exact gwt_good _ h
  · exact gwt_good w hw
section YF
variable {α β : Type} {Γ : Gx} {M : Mt} {K0 K : Kt} {em : α → Out} {pc : Nat} {L : List (Option AV)} {S S0 : List AV} {σ : Sg}
/-- the machine can make this call, if the callee keeps a contract -/
def Rn (Γ : Gx) (M : Mt) (K0 K : Kt) (pc : Nat) (S0 S : List AV) (σ : Sg) (M2 : Mt) (As : List AV) : Prop := ∀ (outc out2 : Out), Gr K0 K → Gr K out2.2.1 → Gr out2.2.1 outc.2.1 → Bd Γ M K0 → match Γ with
  | (p, l, e, s, m, args, below, meth, c, ω) => ∀ (H : Heap) (locs : List Loc) (ls : Array Slot), ls.size = M.2.2.1 → oks K σ → H.size = ω.1 + K.2.2.1 → va_P ω.2.1 vwCl (ww ω K σ) H → va_S (fun q => ω.1 ≤ q) s.heap H locs → Met l M2.1 (.code M2.1 M2.2.1 M2.2.2.1 M2.2.2.2.1 :: gwt) (rmo M2.2.2.2.2 K out2.2.1) (va_Pc (As.map (cv ω)) (Rep ω K σ)) (Qo ω out2) (out2.2.1.2.2.1 - K.2.2.1) (out2.2.1.2.2.2 - K.2.2.2) (fun q => ω.1 ≤ q) →
    va_Run p l e (rmo M.2.2.2.2 K0 outc.2.1) s m args below meth c H locs (K.2.2.1 - K0.2.2.1) (K.2.2.2 - K0.2.2.2) (out2.2.1.2.2.1 - K.2.2.1) (out2.2.1.2.2.2 - K.2.2.2) (F0 m pc ls (S0.map (cv ω))) (S.map (cv ω)) (Qo ω out2 (As.map (cv ω)).toArray) (fun q => ω.1 ≤ q)
theorem y_call {M2 : Mt} {As : List AV} {em2 : β → Out} {v2 : Option β} {kk : β → Option α} (hR : Rn Γ M K0 K pc S0 S σ M2 As) (hC : Cc M2 K As σ em2 v2) (hA : ∀ a, a ∈ As → a ∈ S0) (hS : ∀ a, a ∈ S → a ∈ S0) (k : ∀ b, v2 = some b → Y Γ M K0 em (em2 b).2.1 (pc + 3) L ((em2 b).1.toList ++ S) (em2 b).2.2 (kk b)) : Y Γ M K0 em K pc L S0 σ (v2.bind kk) := by
  intro o ho
  cases h2 : v2 with
  | none => rw [h2] at ho; cases ho
  | some b =>
    rw [h2] at ho
    have ho : kk b = some o := ho
    obtain ⟨hg2, hM2⟩ := hC b h2
    obtain ⟨hn, hk⟩ := k b h2 o ho
    refine ⟨⟨Nat.le_trans hg2.1 hn.1, Nat.le_trans hg2.2 hn.2⟩, fun h0 hB => ?_⟩
    have hr := hR (em o) (em2 b) h0 hg2 hn hB
    have hk2 := hk ⟨Nat.le_trans h0.1 hg2.1, Nat.le_trans h0.2 hg2.2⟩ hB
    obtain ⟨p, l, e, s, m, args, below, meth, c, ω⟩ := Γ
    intro H locs ls hz hL oL oS oK hH hP hS1
    refine run_W (cells' := (em2 b).2.1.2.2.1 - K0.2.2.1) (slots' := (em2 b).2.1.2.2.2 - K0.2.2.2) (hr H locs ls (hL.1.trans hz) oK hH hP hS1 (hM2 (fun a ha => oS a (hA a ha)) l ω)) hS1 ?_ ?_ (fun H1 locs1 hH1 hP1 oK1 hok hS2 => ?_)
    · have := h0.1; have := hg2.1; omega
    · have := h0.2; have := hg2.2; omega
    · have := hk2 H1 locs1 ls hz hL oL (fun a ha => by
        rcases List.mem_append.mp ha with h | h
        · exact hok a (by simpa using h)
        · exact oS a (hS a h)) oK1 hH1 hP1 hS2
      rw [List.map_append] at this
      have e1 : ((em2 b).1.toList).map (cv ω) = ((em2 b).1.map (cv ω)).toList := by cases (em2 b).1 <;> rfl
      rw [e1] at this
      exact this
theorem rn_V {M2 : Mt} {idx n c q : Nat} {As : List AV} (h : CV M.1.cls idx n c M2) (hy : M2.1.cls = clR c) (hq : IsC K q c) (hn : As.length = n) (hdep : M2.2.2.2.2 + 1 ≤ M.2.2.2.2) (hS0 : S0 = As.reverse ++ aR q :: S) (hcat : (S.map catA).sum ≤ 8) (hd : decode M.2.1 pc = .ok (.invokevirtual idx, 3)) : Rn Γ M K0 K pc S0 S σ M2 (aR q :: As) := by
  intro outc out2 h0 hg2 hgo hB
  obtain ⟨p, l, e, s, m, args, below, meth, c0, ω⟩ := Γ
  intro H locs ls hls oK hH hP hS hM2
  obtain ⟨⟨h1, h2, h3, h4⟩, h5, h6, h7, h8⟩ := h
  have hts := hB.2.2.2.2.2.2.2.1
  have he := ww_get (ω := ω) (σ := σ) hq.1
  rw [cellE_o hq.2 h8] at he
  subst hS0
  have hT : GoodIn gwt (wsV M.1.cls idx (clR c) M2.1 (.code M2.1 M2.2.1 M2.2.2.1 M2.2.2.2.1 :: gwt)) := by
    intro w hw
    rcases List.mem_append.mp hw with hw | hw
    · simp only [List.mem_cons, List.not_mem_nil, or_false] at hw
      rcases hw with rfl | rfl | rfl | rfl
      · exact gwt_good _ h5
      · exact gwt_good _ h6
      · exact gwt_good _ h7
      · rw [← hy]; exact gwt_good _ h2
    · exact good_ws h1 w hw
  refine va_runV (Ts := gwt) (own := M.1.cls) (C := clR c) (cc := M.2.1) (nL := M.2.2.1) ⟨hB.1, hB.2.1, hB.2.2.1, hB.2.2.2.1, hts⟩ hM2 (cwV n hts hT rfl rfl rfl ⟨hy, h3⟩ ⟨hdep, ?_⟩) ⟨Rep.blind, va_recv hB.2.2.2.2.2.2.2.2.1 hP (cl_at h8) he, fun U hU hW => ⟨rfl, Rep.fin oK hH hP hS hB.2.2.2.2.2.2.2.2.1 hB.2.2.2.2.2.2.2.2.2.2 hU hW⟩⟩ rfl (by simp [hn]) hls (by simp [cv, va_rf]) ?_ hd ?_
  · show 8 + (M2.2.2.1 + 11) + 40 * M2.2.2.2.2 ≤ 40 * M.2.2.2.2
    omega
  · exact lv_room (by rw [cat_sum]; exact hcat)
  · have a1 := h0.1; have a2 := h0.2; have b1 := hg2.1; have b2 := hg2.2; have c1 := hgo.1; have c2 := hgo.2
    refine ⟨?_, ?_⟩
    · show K.2.2.1 - K0.2.2.1 + (out2.2.1.2.2.1 - K.2.2.1) ≤ outc.2.1.2.2.1 - K0.2.2.1
      omega
    · show K.2.2.2 - K0.2.2.2 + (out2.2.1.2.2.2 - K.2.2.2) ≤ outc.2.1.2.2.2 - K0.2.2.2
      omega
theorem rn_S {M2 : Mt} {idx n : Nat} {As : List AV} (h : CS M.1.cls idx n M2) (hn : As.length = n) (hdep : M2.2.2.2.2 + 1 ≤ M.2.2.2.2) (hS0 : S0 = As.reverse ++ S) (hcat : (S.map catA).sum ≤ 8) (hd : decode M.2.1 pc = .ok (.invokestatic idx, 3)) : Rn Γ M K0 K pc S0 S σ M2 As := by
  intro outc out2 h0 hg2 hgo hB
  obtain ⟨p, l, e, s, m, args, below, meth, c0, ω⟩ := Γ
  intro H locs ls hls oK hH hP hS hM2
  obtain ⟨⟨h1, h2, h3, h4⟩, h5, h6⟩ := h
  have hts := hB.2.2.2.2.2.2.2.1
  subst hS0
  have hT : GoodIn gwt (va_wsS M.1.cls idx M2.1 (.code M2.1 M2.2.1 M2.2.2.1 M2.2.2.2.1 :: gwt)) := by
    intro w hw
    rcases List.mem_append.mp hw with hw | hw
    · simp only [List.mem_cons, List.not_mem_nil, or_false] at hw
      rcases hw with rfl | rfl | rfl
      · exact gwt_good _ h5
      · exact gwt_good _ h6
      · exact gwt_good _ h2
    · exact good_ws h1 w hw
  refine va_runS (Ts := gwt) (own := M.1.cls) (cc := M.2.1) (nL := M.2.2.1) ⟨hB.1, hB.2.1, hB.2.2.1, hB.2.2.2.1, hts⟩ hM2 (va_cwS n hts hT rfl rfl rfl h3 ⟨hdep, ?_⟩) ⟨Rep.blind, fun U hU hW => ⟨rfl, Rep.fin oK hH hP hS hB.2.2.2.2.2.2.2.2.1 hB.2.2.2.2.2.2.2.2.2.2 hU hW⟩⟩ rfl (by simp [hn]) hls (by simp) ?_ hd ?_
  · show 8 + (M2.2.2.1 + 11) + 40 * M2.2.2.2.2 ≤ 40 * M.2.2.2.2
    omega
  · exact lv_room (by rw [cat_sum]; exact hcat)
  · have a1 := h0.1; have a2 := h0.2; have b1 := hg2.1; have b2 := hg2.2; have c1 := hgo.1; have c2 := hgo.2
    refine ⟨?_, ?_⟩
    · show K.2.2.1 - K0.2.2.1 + (out2.2.1.2.2.1 - K.2.2.1) ≤ outc.2.1.2.2.1 - K0.2.2.1
      omega
    · show K.2.2.2 - K0.2.2.2 + (out2.2.1.2.2.2 - K.2.2.2) ≤ outc.2.1.2.2.2 - K0.2.2.2
      omega
end YF
