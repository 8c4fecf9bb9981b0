/-! ===== clauses ===== -/
def SegAt (cd : List Int) (s : Nat) (cs : List Int) : Prop := (∀ j y, cs[j]? = some y → cd[s + j]? = some y) ∧ cd[s + cs.length]? = some (-1)
theorem SegAt_a {cd x : List Int} {s : Nat} {cs : List Int} (h : SegAt cd s cs) : SegAt (cd ++ x) s cs := by
  refine ⟨fun j y hy => ?_, ?_⟩
  · have := h.1 j y hy
    rw [List.getElem?_append_left (List.getElem?_eq_some_iff.mp this).1]; exact this
  · have := h.2
    rw [List.getElem?_append_left (List.getElem?_eq_some_iff.mp this).1]; exact this
theorem SegAt_n {cd cs : List Int} : SegAt ((cd ++ cs) ++ [-1]) cd.length cs := by
  refine ⟨fun j y hy => ?_, ?_⟩
  · have hl := (List.getElem?_eq_some_iff.mp hy).1
    rw [List.append_assoc, List.getElem?_append_right (by omega), show cd.length + j - cd.length = j by omega, List.getElem?_append_left hl]
    exact hy
  · rw [List.getElem?_append_right (by rw [List.length_append]; omega), List.length_append, Nat.sub_self]
    rfl
