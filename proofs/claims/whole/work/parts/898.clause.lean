/-! ===== clauses ===== -/
def SegAt (cd : List Int) (s : Nat) (cs : List Int) : Prop := (∀ j y, cs[j]? = some y → cd[s + j]? = some y) ∧ cd[s + cs.length]? = some (-1)
theorem SegAt_a {cd x : List Int} {s : Nat} {cs : List Int} (h : SegAt cd s cs) : SegAt (cd ++ x) s cs := by
  refine ⟨fun j y hy => ?_, ?_⟩
  · have := h.1 j y hy
    rw [List.getElem?_append_left (List.getElem?_eq_some_iff.mp this).1]; exact this
  · have := h.2
    rw [List.getElem?_append_left (List.getElem?_eq_some_iff.mp this).1]; exact this
theorem SegAt_n {cd cs : List Int} : SegAt ((cd ++ cs) ++ [-1]) cd.length cs := by
  refine ⟨fun j y hy => ?_, ?_⟩
  · have hl := (List.getElem?_eq_some_iff.mp hy).1
    rw [List.append_assoc, List.getElem?_append_right (by omega), show cd.length + j - cd.length = j by omega, List.getElem?_append_left hl]
    exact hy
  · rw [List.getElem?_append_right (by rw [List.length_append]; omega), List.length_append, Nat.sub_self]
    rfl
theorem CFr_r {σ : Sg} : CFr σ σ := ⟨fun _ _ _ _ => rfl, fun _ _ _ _ => rfl, fun _ _ => rfl⟩
theorem CSt_r {N i l : Nat} {σc σ : Sg} {cd : List Int} (h : CSt N σc σ i l cd) : CSt N σ σ i l cd := ⟨CFr_r, h.2⟩
theorem CZ_r {tk : Nat → Int} {pl : Nat → Nat} {N : Nat} {ord : Int} {σc σ : Sg} (cz : CZ tk pl N ord σc) (h71 : σ 71 = σc 71) (h72 : σ 72 = σc 72) (h5 : σ 63 5 = σc 63 5) : CZ tk pl N ord σ := ⟨cz.1, fun k hk => by rw [h71, h72]; exact cz.2.1 k hk, by rw [h5]; exact cz.2.2.1, cz.2.2.2⟩
theorem cx_add {pl : Nat → Nat} {σc σ : Sg} {k : Nat} {K : Kt} {y : Int} (h : CX pl σc σ k) : T (vX7_add K y σ) (fun σ' => CX pl σc σ' k) := by
  obtain ⟨h1, h2, h3⟩ := h
  unfold vX7_add
  refine T_ite (fun q => ?_) (fun q => T_some ⟨h1, h2, h3⟩)
  have e : up2 σ 70 (σ 64 7).toNat y 64 7 = σ 64 7 := by rw [up2_o (by omega)]
  refine T_ck (by omega) (T_nm ?_)
  refine T_ck (by omega) (T_nm (T_some ⟨CFr_u (CFr_u h1 (by omega)) (by omega), ?_, ?_⟩))
  · rw [up2_o (by omega), up2_o (by omega)]; exact h2
  · rw [up2_c, upw_s, e]; omega
