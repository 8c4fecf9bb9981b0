/-! ===== what is known of old cells, and of words that only a launch knows ===== -/
def stN (i : Nat) : String := match i with
  | 0 => "TERM_LEAST" | 1 => "TERM_MOST" | 2 => "TOLD_LEAST" | _ => "TOLD_MOST"
def stV (i j : Nat) : Int := match i, j with
  | 0, 1 => 1 | 0, _ => 0
  | 1, 0 => 999 | 1, 1 => 20 | 1, 2 => 10 | 1, _ => 9
  | 2, 2 => 1 | 2, _ => 0
  | _, 0 => 99 | _, 1 => 20 | _, 2 => 99 | _, _ => 1
def wordsT : String := "fines wears takes bars lend bring wait pass book length purse reader traits worn kept week mood done latest waiting with or and not if times to for "
def wordsB : List Int := [102, 105, 110, 101, 115, 32, 119, 101, 97, 114, 115, 32, 116, 97, 107, 101, 115, 32, 98, 97, 114, 115, 32, 108, 101, 110, 100, 32, 98, 114, 105, 110, 103, 32, 119, 97, 105, 116, 32, 112, 97, 115, 115, 32, 98, 111, 111, 107, 32, 108, 101, 110, 103, 116, 104, 32, 112, 117, 114, 115, 101, 32, 114, 101, 97, 100, 101, 114, 32, 116, 114, 97, 105, 116, 115, 32, 119, 111, 114, 110, 32, 107, 101, 112, 116, 32, 119, 101, 101, 107, 32, 109, 111, 111, 100, 32, 100, 111, 110, 101, 32, 108, 97, 116, 101, 115, 116, 32, 119, 97, 105, 116, 105, 110, 103, 32, 119, 105, 116, 104, 32, 111, 114, 32, 97, 110, 100, 32, 110, 111, 116, 32, 105, 102, 32, 116, 105, 109, 101, 115, 32, 116, 111, 32, 102, 111, 114, 32]
def nstM : List (String × Nat × MethodName) := [(RX9, 11, yX3_init), (RX3, 26, yX5_init), (RX9, 27, yX8_init), (RX9, 43, yX6_init), (RX9, 365, yX2_init), (RX2, 9, yX3_init)]
def nstF : List (String × Nat × String) := [(RX1, 113, "TOLD_LEAST"), (RX1, 116, "TOLD_MOST")]
def Stc (ω : Wd) (U : State) : Prop :=
  (∀ i, i < 4 → va_Z RX9 (stN i) "[I" (.ref (ω.2.2.2 i)) (fun q => ω.1 ≤ q) U U.heap ∧ va_T .int (ω.2.2.2 i) 4 (fun j => .int (Int32.ofInt (stV i j))) (fun q => ω.1 ≤ q) U U.heap) ∧
  (vk_R RX4 86 wordsT (ω.2.2.2 4) U ∧ va_O RJ0 (ω.2.2.2 4) (fun q => ω.1 ≤ q) U U.heap ∧ va_OF RJ0 "coder" "B" (.int 0) (ω.2.2.2 4) (fun q => ω.1 ≤ q) U U.heap ∧ va_OF RJ0 "value" "[B" (.ref (ω.2.2.2 5)) (ω.2.2.2 4) (fun q => ω.1 ≤ q) U U.heap ∧ va_T .byte (ω.2.2.2 5) 148 (fun j => .int (Int32.ofInt (wordsB.getD j 0))) (fun q => ω.1 ≤ q) U U.heap ∧ va_Z RJ0 "COMPACT_STRINGS" "Z" (.int 1) (fun q => ω.1 ≤ q) U U.heap ∧ (va_Z RJ3 "SIOOBE_FORMATTER" "Ljava/util/function/BiFunction;" .null (fun q => ω.1 ≤ q) U U.heap ∨ va_Z RJ3 "SIOOBE_FORMATTER" "Ljava/util/function/BiFunction;" (.ref (ω.2.2.2 6)) (fun q => ω.1 ≤ q) U U.heap)) ∧
  ((∀ w ∈ nstM, va_Nw (.methodLinkNest w.1 w.2.1 w.2.2 RX9) U) ∧ (∀ w ∈ nstF, va_Nw (.fieldLinkNest w.1 w.2.1 RX9 w.2.2 "[I" RX9) U)) ∧
  (va_AO RX7 U ∧ va_AO RX1 U ∧ va_AO RX2 U)
theorem Stc.go {ω : Wd} {s U : State} {H : Heap} {locs : List Loc} (h : Stc ω s) (hS : va_S (fun q => ω.1 ≤ q) s.heap H locs) (hU : U.heap = H) (hW : s.WarmedH U.vm) : Stc ω U := by
  obtain ⟨h1, ⟨h2, h3, h4, h5, h6, h7, h13⟩, ⟨h8, h9⟩, ⟨h10, h11, h12⟩⟩ := h
  have hq : ∀ a : Nat, a < s.heap.size → ¬ ω.1 ≤ a → U.heap[a]? = s.heap[a]? := fun a b c => by rw [hU]; exact hS.2.1 a b c
  refine ⟨fun i hi => ⟨((h1 i hi).1.kept hq).moved hW.alike, ((h1 i hi).2.kept hq).moved hW.alike⟩, ⟨h2.warm hW, (h3.kept hq).moved hW.alike, (h4.kept hq).moved hW.alike, (h5.kept hq).moved hW.alike, (h6.kept hq).moved hW.alike, (h7.kept hq).moved hW.alike, h13.imp (fun h => (h.kept hq).moved hW.alike) (fun h => (h.kept hq).moved hW.alike)⟩, ⟨fun w hw => (h8 w hw).warmM hW, fun w hw => (h9 w hw).warmF hW⟩, ⟨h10.moved hW.alike, h11.moved hW.alike, h12.moved hW.alike⟩⟩
theorem Stc.calling {ω : Wd} {U : State} {g : JFrame} {mk : MethodId} {a : Array Value} (h : Stc ω U) : Stc ω (U.calling g mk a) := by
  obtain ⟨h1, ⟨h2, h3, h4, h5, h6, h7, h13⟩, ⟨h8, h9⟩, ⟨h10, h11, h12⟩⟩ := h
  have hA : U.vm.Alike (U.calling g mk a).vm := Vm.Alike.refl U.vm
  exact ⟨fun i hi => ⟨(h1 i hi).1.moved hA, (h1 i hi).2.moved hA⟩, ⟨vk_R.same (u := U) (U := U.calling g mk a) rfl h2, h3.moved hA, h4.moved hA, h5.moved hA, h6.moved hA, h7.moved hA, h13.imp (fun h => h.moved hA) (fun h => h.moved hA)⟩, ⟨fun w hw => va_Nw.same (u := U) (U := U.calling g mk a) rfl rfl (h8 w hw), fun w hw => va_Nw.same (u := U) (U := U.calling g mk a) rfl rfl (h9 w hw)⟩, ⟨h10.moved hA, h11.moved hA, h12.moved hA⟩⟩
/-! ===== the judgement ===== -/
def gwt : List Cond := lw_tbl.filter goodWord
theorem gwt_mem {w : Cond} (h : w ∈ lw_tbl) (hg : goodWord w = true) : w ∈ gwt := List.mem_filter.mpr ⟨h, hg⟩
theorem gwt_good : GoodIn gwt gwt := fun w hw => ⟨hw, good_of_word (List.mem_filter.mp hw).2⟩
/-- name, bytes, locals, what it returns, how deep it calls -/
abbrev Mt : Type := MethodName × ByteArray × Nat × Option FieldType × Nat
abbrev Gx : Type := Program × Launch × Env × State × MethodId × Array Value × List Frame × Method × Code × Wd
def rmo (d : Nat) (K0 K1 : Kt) : Room := { frames := d, cells := K1.2.2.1 - K0.2.2.1, slots := K1.2.2.2 - K0.2.2.2, locals := 40 * d }
def okS (S : List AV) : Prop := ∀ v ∈ S, okv v
def okL (L : List (Option AV)) : Prop := ∀ v, some v ∈ L → okv v
def Rep (ω : Wd) (K : Kt) (σ : Sg) (U : State) : Prop := U.heap.size = ω.1 + K.2.2.1 ∧ va_P ω.2.1 vwCl (ww ω K σ) U.heap ∧ va_K ω.2.1 vwCl (tys6 ω) U ∧ oks K σ ∧ Stc ω U
def Qo (ω : Wd) (out : Out) : Array Value → State → Outcome → State → Prop := fun _ st oc t => (oc = .returned (out.1.map (cv ω)) ∧ (∀ v, out.1 = some v → okv v) ∧ Rep ω out.2.1 out.2.2 t) ∧ va_F (fun q => ω.1 ≤ q) st t
def LR (ω : Wd) (ls : Array Slot) (L : List (Option AV)) : Prop := ls.size = L.length ∧ lv_wf ls ∧ ∀ (i : Nat) (v : AV), L[i]? = some (some v) → ls[i]? = some (.val (cv ω v))
def Bd (Γ : Gx) (M : Mt) (K0 : Kt) : Prop := match Γ with
  | (p, _, _, s, m, args, _, meth, c, ω) => p.tables.exec = Jvm.exec ∧ c.code = M.2.1 ∧ c.maxLocals = M.2.2.1 ∧ s.vm.findClass M.1.cls = some m.cls ∧ meth.sig.returnType = M.2.2.2.1 ∧ meth.locks = false ∧ meth.name = M.1.name ∧ (∀ w ∈ gwt, w.before args s = true) ∧ va_K ω.2.1 vwCl (tys6 ω) s ∧ s.heap.size = ω.1 + K0.2.2.1 ∧ Stc ω s
def Gr (K K' : Kt) : Prop := K.2.2.1 ≤ K'.2.2.1 ∧ K.2.2.2 ≤ K'.2.2.2
def X (Γ : Gx) (M : Mt) (K0 : Kt) (out : Out) (K : Kt) (pc : Nat) (L : List (Option AV)) (S : List AV) (σ : Sg) : Prop := Gr K out.2.1 ∧ (Gr K0 K → Bd Γ M K0 → match Γ with
  | (p, l, e, s, m, args, below, meth, c, ω) => ∀ (H : Heap) (locs : List Loc) (ls : Array Slot), L.length = M.2.2.1 → LR ω ls L → okL L → okS S → oks K σ → H.size = ω.1 + K.2.2.1 → va_P ω.2.1 vwCl (ww ω K σ) H → va_S (fun q => ω.1 ≤ q) s.heap H locs →
    W p l e (rmo M.2.2.2.2 K0 out.2.1) s m args below meth c H locs (K.2.2.1 - K0.2.2.1) (K.2.2.2 - K0.2.2.2) (MQ below (Qo ω out) args s (out.2.1.2.2.1 - K0.2.2.1) (out.2.1.2.2.2 - K0.2.2.2) (fun q => ω.1 ≤ q)) (F0 m pc ls (S.map (cv ω))))
section YY
variable {α : Type} {Γ : Gx} {M : Mt} {K0 K : Kt} {em : α → Out} {pc : Nat} {L : List (Option AV)} {S : List AV} {σ : Sg} {v : Option α}
def Y (Γ : Gx) (M : Mt) (K0 : Kt) (em : α → Out) (K : Kt) (pc : Nat) (L : List (Option AV)) (S : List AV) (σ : Sg) (v : Option α) : Prop := ∀ o, v = some o → X Γ M K0 (em o) K pc L S σ
def ck (c : Prop) [Decidable c] (v : Option α) : Option α := if c then v else none
def nm {β γ : Type} (e : β) (k : β → γ) : γ := k e
theorem ck_p {c : Prop} [Decidable c] (h : c) (v : Option α) : ck c v = v := if_pos h
theorem ck_some {c : Prop} [Decidable c] {v : Option α} {o : α} (h : ck c v = some o) : c ∧ v = some o := by
  unfold ck at h
  split at h
  · exact ⟨by assumption, h⟩
  · cases h
theorem y_ck {c : Prop} [Decidable c] (k : c → Y Γ M K0 em K pc L S σ v) : Y Γ M K0 em K pc L S σ (ck c v) := by
  intro o ho
  obtain ⟨h1, h2⟩ := ck_some ho
  exact k h1 o h2
theorem y_ite {c : Prop} [Decidable c] {v1 v2 : Option α} (k1 : c → Y Γ M K0 em K pc L S σ v1) (k2 : ¬ c → Y Γ M K0 em K pc L S σ v2) : Y Γ M K0 em K pc L S σ (if c then v1 else v2) := by
  by_cases h : c
  · rw [if_pos h]; exact k1 h
  · rw [if_neg h]; exact k2 h
theorem y_none : Y Γ M K0 em K pc L S σ (none : Option α) := fun o ho => by cases ho
theorem okS_c {a : AV} {S : List AV} : okS (a :: S) ↔ okv a ∧ okS S := List.forall_mem_cons
/-- a step that leaves cells, locals alone -/
theorem y_st {pc' : Nat} {S' : List AV} (k : Y Γ M K0 em K pc' L S' σ v) (hok : okL L → oks K σ → okS S → okS S') (h : ∀ (out : Out), Bd Γ M K0 → okS S → match Γ with
    | (p, l, e, s, m, args, below, meth, c, ω) => ∀ (H : Heap) (locs : List Loc) (ls : Array Slot) (cells slots : Nat) (Q : State → Prop), LR ω ls L → okL L → oks K σ → va_P ω.2.1 vwCl (ww ω K σ) H → va_S (fun q => ω.1 ≤ q) s.heap H locs → W p l e (rmo M.2.2.2.2 K0 out.2.1) s m args below meth c H locs cells slots Q (F0 m pc' ls (S'.map (cv ω))) → W p l e (rmo M.2.2.2.2 K0 out.2.1) s m args below meth c H locs cells slots Q (F0 m pc ls (S.map (cv ω)))) : Y Γ M K0 em K pc L S σ v := by
  intro o ho
  obtain ⟨hn, hk⟩ := k o ho
  refine ⟨hn, fun h0 hB => ?_⟩
  have h1 := h (em o) hB
  have h2 := hk h0 hB
  obtain ⟨p, l, e, s, m, args, below, meth, c, ω⟩ := Γ
  intro H locs ls hz hL oL oS oK hH hP hS
  exact h1 oS H locs ls _ _ _ hL oL oK hP hS (h2 H locs ls hz hL oL (hok oL oK oS) oK hH hP hS)
end YY
/-! ===== locals ===== -/
def clr : Option AV → Option AV
  | some (.inr (.inl _)) => none
  | x => x
def sti : Nat → AV → List (Option AV) → List (Option AV)
  | _, _, [] => []
  | 0, a, _ :: t => some a :: t
  | 1, a, x :: t => clr x :: sti 0 a t
  | n + 2, a, x :: t => x :: sti (n + 1) a t
def sec : List (Option AV) → List (Option AV)
  | [] => []
  | _ :: t => none :: t
def stl : Nat → AV → List (Option AV) → List (Option AV)
  | _, _, [] => []
  | 0, a, _ :: t => some a :: sec t
  | 1, a, x :: t => clr x :: stl 0 a t
  | n + 2, a, x :: t => x :: stl (n + 1) a t
theorem clr_some {x : Option AV} {w : AV} (h : clr x = some w) : x = some w ∧ ∀ z, w ≠ aL z := by
  unfold clr at h
  split at h
  · cases h
  · subst h
    refine ⟨rfl, fun z hz => ?_⟩
    subst hz
    rename_i h1
    exact h1 z rfl
theorem sti_len : ∀ (i : Nat) (a : AV) (L : List (Option AV)), (sti i a L).length = L.length
  | _, _, [] => by unfold sti; rfl
  | 0, a, x :: t => rfl
  | 1, a, x :: t => by show (sti 0 a t).length + 1 = t.length + 1; rw [sti_len 0 a t]
  | n + 2, a, x :: t => by show (sti (n + 1) a t).length + 1 = t.length + 1; rw [sti_len (n + 1) a t]
theorem sti_get : ∀ (i : Nat) (a : AV) (L : List (Option AV)) (j : Nat) (w : AV), (sti i a L)[j]? = some (some w) → (j = i ∧ w = a) ∨ (j ≠ i ∧ L[j]? = some (some w) ∧ (j + 1 = i → ∀ z, w ≠ aL z))
  | _, _, [], j, w, h => by unfold sti at h; simp at h
  | 0, a, x :: t, 0, w, h => by left; have h : some (some a) = some (some w) := h; cases h; exact ⟨rfl, rfl⟩
  | 0, a, x :: t, j + 1, w, h => by right; exact ⟨by omega, h, fun z => by omega⟩
  | 1, a, x :: t, 0, w, h => by
    right
    have h : some (clr x) = some (some w) := h
    obtain ⟨h1, h2⟩ := clr_some (Option.some.inj h)
    exact ⟨by omega, by rw [h1]; rfl, fun _ => h2⟩
  | 1, a, x :: t, j + 1, w, h => by
    have h : (sti 0 a t)[j]? = some (some w) := h
    rcases sti_get 0 a t j w h with ⟨h1, h2⟩ | ⟨h1, h2, h3⟩
    · left; exact ⟨by omega, h2⟩
    · right; exact ⟨by omega, h2, fun z => by omega⟩
  | n + 2, a, x :: t, 0, w, h => by right; exact ⟨by omega, h, fun z => by omega⟩
  | n + 2, a, x :: t, j + 1, w, h => by
    have h : (sti (n + 1) a t)[j]? = some (some w) := h
    rcases sti_get (n + 1) a t j w h with ⟨h1, h2⟩ | ⟨h1, h2, h3⟩
    · left; exact ⟨by omega, h2⟩
    · right; exact ⟨by omega, h2, fun z => h3 (by omega)⟩
theorem stl_len : ∀ (i : Nat) (a : AV) (L : List (Option AV)), (stl i a L).length = L.length
  | _, _, [] => by unfold stl; rfl
  | 0, a, x :: t => by cases t <;> rfl
  | 1, a, x :: t => by show (stl 0 a t).length + 1 = t.length + 1; rw [stl_len 0 a t]
  | n + 2, a, x :: t => by show (stl (n + 1) a t).length + 1 = t.length + 1; rw [stl_len (n + 1) a t]
theorem stl_get : ∀ (i : Nat) (a : AV) (L : List (Option AV)) (j : Nat) (w : AV), (stl i a L)[j]? = some (some w) → (j = i ∧ w = a) ∨ (j ≠ i ∧ j ≠ i + 1 ∧ L[j]? = some (some w) ∧ (j + 1 = i → ∀ z, w ≠ aL z))
  | _, _, [], j, w, h => by unfold stl at h; simp at h
  | 0, a, x :: t, 0, w, h => by left; have h : some (some a) = some (some w) := h; cases h; exact ⟨rfl, rfl⟩
  | 0, a, x :: t, j + 1, w, h => by
    have h : (sec t)[j]? = some (some w) := h
    cases t with
    | nil => simp [sec] at h
    | cons y t =>
      cases j with
      | zero => have h : some (none : Option AV) = some (some w) := h; cases h
      | succ j => right; exact ⟨by omega, by omega, h, fun z => by omega⟩
  | 1, a, x :: t, 0, w, h => by
    right
    have h : some (clr x) = some (some w) := h
    obtain ⟨h1, h2⟩ := clr_some (Option.some.inj h)
    exact ⟨by omega, by omega, by rw [h1]; rfl, fun _ => h2⟩
  | 1, a, x :: t, j + 1, w, h => by
    have h : (stl 0 a t)[j]? = some (some w) := h
    rcases stl_get 0 a t j w h with ⟨h1, h2⟩ | ⟨h1, h0, h2, h3⟩
    · left; exact ⟨by omega, h2⟩
    · right; exact ⟨by omega, by omega, h2, fun z => by omega⟩
  | n + 2, a, x :: t, 0, w, h => by right; exact ⟨by omega, by omega, h, fun z => by omega⟩
  | n + 2, a, x :: t, j + 1, w, h => by
    have h : (stl (n + 1) a t)[j]? = some (some w) := h
    rcases stl_get (n + 1) a t j w h with ⟨h1, h2⟩ | ⟨h1, h0, h2, h3⟩
    · left; exact ⟨by omega, h2⟩
    · right; exact ⟨by omega, by omega, h2, fun z => h3 (by omega)⟩
def lps (ω : Wd) (L : List (Option AV)) : List (Nat × Value) := (List.range L.length).filterMap (fun i => match L[i]? with
  | some (some v) => some (i, cv ω v)
  | _ => none)
theorem lps_mem {ω : Wd} {L : List (Option AV)} {i : Nat} {v : AV} (h : L[i]? = some (some v)) : (i, cv ω v) ∈ lps ω L := by
  refine List.mem_filterMap.mpr ⟨i, List.mem_range.mpr (List.getElem?_eq_some_iff.mp h).1, ?_⟩
  rw [h]
theorem lps_has {ω : Wd} {ls : Array Slot} {L : List (Option AV)} (h : LR ω ls L) : lv_has ls L.length (lps ω L) := by
  refine ⟨h.1, h.2.1, fun q hq => ?_⟩
  obtain ⟨i, -, hi⟩ := List.mem_filterMap.mp hq
  split at hi
  · rename_i v hv
    cases hi
    exact h.2.2 i v hv
  · cases hi
theorem cat_long {ω : Wd} {w : AV} (h : ∀ z, w ≠ aL z) : (cv ω w).category = 1 := by
  rcases w with z | z | r | t
  · rfl
  · exact absurd rfl (h z)
  · cases r <;> rfl
  · rfl
theorem LR_sti {ω : Wd} {ls' : Array Slot} {L : List (Option AV)} {i : Nat} {a : AV} (h : lv_has ls' L.length ((i, cv ω a) :: (lps ω L).filter (fun q => !(q.1 == i) && !(q.1 + 1 == i && q.2.category == 2)))) : LR ω ls' (sti i a L) := by
  refine ⟨by rw [sti_len]; exact h.1, h.2.1, fun j w hw => ?_⟩
  rcases sti_get i a L j w hw with ⟨rfl, rfl⟩ | ⟨h1, h2, h3⟩
  · exact h.2.2 (j, cv ω w) List.mem_cons_self
  · refine h.2.2 (j, cv ω w) (List.mem_cons_of_mem _ (List.mem_filter.mpr ⟨lps_mem h2, ?_⟩))
    by_cases hj : j + 1 = i
    · simp [h1, cat_long (h3 hj)]
    · simp [h1, hj]
theorem LR_stl {ω : Wd} {ls' : Array Slot} {L : List (Option AV)} {i : Nat} {a : AV} (h : lv_has ls' L.length ((i, cv ω a) :: (lps ω L).filter (fun q => !(q.1 == i) && (!(q.1 == i + 1) && !(q.1 + 1 == i && q.2.category == 2))))) : LR ω ls' (stl i a L) := by
  refine ⟨by rw [stl_len]; exact h.1, h.2.1, fun j w hw => ?_⟩
  rcases stl_get i a L j w hw with ⟨rfl, rfl⟩ | ⟨h1, h0, h2, h3⟩
  · exact h.2.2 (j, cv ω w) List.mem_cons_self
  · refine h.2.2 (j, cv ω w) (List.mem_cons_of_mem _ (List.mem_filter.mpr ⟨lps_mem h2, ?_⟩))
    by_cases hj : j + 1 = i
    · simp [h1, h0, cat_long (h3 hj)]
    · simp [h1, h0, hj]
theorem okL_sti {i : Nat} {a : AV} {L : List (Option AV)} (h : okL L) (ha : okv a) : okL (sti i a L) := by
  intro w hw
  obtain ⟨j, hj⟩ := List.getElem?_of_mem hw
  rcases sti_get i a L j w hj with ⟨rfl, rfl⟩ | ⟨h1, h2, h3⟩
  · exact ha
  · exact h w (List.mem_of_getElem? h2)
theorem okL_stl {i : Nat} {a : AV} {L : List (Option AV)} (h : okL L) (ha : okv a) : okL (stl i a L) := by
  intro w hw
  obtain ⟨j, hj⟩ := List.getElem?_of_mem hw
  rcases stl_get i a L j w hj with ⟨rfl, rfl⟩ | ⟨h1, h0, h2, h3⟩
  · exact ha
  · exact h w (List.mem_of_getElem? h2)
section YT
variable {α : Type} {Γ : Gx} {M : Mt} {K0 K : Kt} {em : α → Out} {pc : Nat} {L : List (Option AV)} {S : List AV} {σ : Sg} {v : Option α}
/-- a step that writes a local -/
theorem y_sto {pc' : Nat} {L' : List (Option AV)} {S' : List AV} (k : Y Γ M K0 em K pc' L' S' σ v) (hlen : L'.length = L.length) (hok : okL L → okS S → okL L' ∧ okS S') (h : ∀ (out : Out), Bd Γ M K0 → okS S → match Γ with
    | (p, l, e, s, m, args, below, meth, c, ω) => ∀ (H : Heap) (locs : List Loc) (ls : Array Slot) (cells slots : Nat) (Q : State → Prop), LR ω ls L → (∀ ls' : Array Slot, LR ω ls' L' → W p l e (rmo M.2.2.2.2 K0 out.2.1) s m args below meth c H locs cells slots Q (F0 m pc' ls' (S'.map (cv ω)))) → W p l e (rmo M.2.2.2.2 K0 out.2.1) s m args below meth c H locs cells slots Q (F0 m pc ls (S.map (cv ω)))) : Y Γ M K0 em K pc L S σ v := by
  intro o ho
  obtain ⟨hn, hk⟩ := k o ho
  refine ⟨hn, fun h0 hB => ?_⟩
  have h1 := h (em o) hB
  have h2 := hk h0 hB
  obtain ⟨p, l, e, s, m, args, below, meth, c, ω⟩ := Γ
  intro H locs ls hz hL oL oS oK hH hP hS
  exact h1 oS H locs ls _ _ _ hL (fun ls' hL' => h2 H locs ls' (hlen.trans hz) hL' (hok oL oS).1 (hok oL oS).2 oK hH hP hS)
end YT
