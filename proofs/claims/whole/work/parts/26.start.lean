theorem room_mono {s : State} {pl : Platform} {r r' : Room} (hf : r.frames ≤ r'.frames) (hl : r.locals ≤ r'.locals) (hc : r.cells ≤ r'.cells) (hs : r.slots ≤ r'.slots) (h : s.hasRoom pl r' = true) : s.hasRoom pl r = true := by
  simp only [State.hasRoom, Bool.and_eq_true, decide_eq_true_eq] at h ⊢
  obtain ⟨⟨⟨⟨h1, h2, h3, h4, h5, h6⟩, h7⟩, h8⟩, h9⟩ := h
  exact ⟨⟨⟨⟨by omega, by omega, by omega, by omega, by omega, h6⟩, by omega⟩, by omega⟩, h9⟩
theorem W_to {p : Program} {l : Launch} {e : Env} {R R' : Room} {s : State} {m : MethodId} {args : Array Value} {below : List Frame} {meth : Method} {c : Code} {H : Heap} {locs : List Loc} {cells slots : Nat} {Q Q' : State → Prop} {g : JFrame} (hf : R.frames ≤ R'.frames) (hl : R.locals ≤ R'.locals) (hc : R.cells ≤ R'.cells) (hs : R.slots ≤ R'.slots) (hQ : ∀ t, Q t → Q' t) (w : W p l e R s m args below meth c H locs cells slots Q g) : W p l e R' s m args below meth c H locs cells slots Q' g := by
  intro T hT X
  obtain ⟨t, a, b⟩ := w T hT { X with room := room_mono hf hl hc hs X.room }
  exact ⟨t, a, hQ t b⟩
theorem cl_inst : ∀ c, c < 11 → Cond.instantiable (clR c) (nfs c) ∈ lw_tbl := by decide +kernel
theorem gwt_of {b : Nat} {s : State} (hts : ∀ w ∈ lw_tbl, w.before #[Value.ref b] s = true) : ∀ w ∈ gwt, w.before #[Value.ref b] s = true := fun w hw => hts w (List.mem_filter.mp hw).1
/-- what the Statement gives of the start -/
abbrev g1 : Cond := Jvm.Cond.and given_1 narrow_1
theorem st_0 {b : Nat} {s : State} (hts : ∀ w ∈ lw_tbl, w.before #[Value.ref b] s = true) (hs : ∀ c ∈ flatC g1, c.before #[Value.ref b] s = true) : ∃ t : Nat, va_Z RX9 (stN 0) "[I" (.ref t) (fun q => s.heap.size ≤ q) s s.heap ∧ va_T .int t 4 (fun j => .int (Int32.ofInt (stV 0 j))) (fun q => s.heap.size ≤ q) s s.heap := by
  have hA : ∀ a : Nat, a < s.heap.size → ¬ s.heap.size ≤ a := fun a h h2 => by omega
  obtain ⟨t, e, hT⟩ := va_Tof (tm := (.static RX9 "TERM_LEAST" "[I")) (ty := .int) (N := 4) (f := fun j => .int (Int32.ofInt (stV 0 j))) (A := fun q => s.heap.size ≤ q) (by decide) (hs (.arrayOf (.static RX9 "TERM_LEAST" "[I") .int) (by decide +kernel)) (va_eqt (hs (.eq (.length (.static RX9 "TERM_LEAST" "[I")) (.int 4)) (by decide +kernel))) (fun j hj => by
    match j, hj with
    | 0, _ => exact va_eqt (hs (.eq (.elem (.static RX9 "TERM_LEAST" "[I") (.int 0)) (.int 0)) (by decide +kernel))
    | 1, _ => exact va_eqt (hs (.eq (.elem (.static RX9 "TERM_LEAST" "[I") (.int 1)) (.int 1)) (by decide +kernel))
    | 2, _ => exact va_eqt (hs (.eq (.elem (.static RX9 "TERM_LEAST" "[I") (.int 2)) (.int 0)) (by decide +kernel))
    | 3, _ => exact va_eqt (hs (.eq (.elem (.static RX9 "TERM_LEAST" "[I") (.int 3)) (.int 0)) (by decide +kernel))) hA
  exact ⟨t, va_Zref (hts _ (tbT_3 _ (List.mem_of_getElem? (i := 9) rfl))) (hts _ (tbT_1 _ (List.mem_of_getElem? (i := 1) rfl))) e hA, hT⟩
theorem st_1 {b : Nat} {s : State} (hts : ∀ w ∈ lw_tbl, w.before #[Value.ref b] s = true) (hs : ∀ c ∈ flatC g1, c.before #[Value.ref b] s = true) : ∃ t : Nat, va_Z RX9 (stN 1) "[I" (.ref t) (fun q => s.heap.size ≤ q) s s.heap ∧ va_T .int t 4 (fun j => .int (Int32.ofInt (stV 1 j))) (fun q => s.heap.size ≤ q) s s.heap := by
  have hA : ∀ a : Nat, a < s.heap.size → ¬ s.heap.size ≤ a := fun a h h2 => by omega
  obtain ⟨t, e, hT⟩ := va_Tof (tm := (.static RX9 "TERM_MOST" "[I")) (ty := .int) (N := 4) (f := fun j => .int (Int32.ofInt (stV 1 j))) (A := fun q => s.heap.size ≤ q) (by decide) (hs (.arrayOf (.static RX9 "TERM_MOST" "[I") .int) (by decide +kernel)) (va_eqt (hs (.eq (.length (.static RX9 "TERM_MOST" "[I")) (.int 4)) (by decide +kernel))) (fun j hj => by
    match j, hj with
    | 0, _ => exact va_eqt (hs (.eq (.elem (.static RX9 "TERM_MOST" "[I") (.int 0)) (.int 999)) (by decide +kernel))
    | 1, _ => exact va_eqt (hs (.eq (.elem (.static RX9 "TERM_MOST" "[I") (.int 1)) (.int 20)) (by decide +kernel))
    | 2, _ => exact va_eqt (hs (.eq (.elem (.static RX9 "TERM_MOST" "[I") (.int 2)) (.int 10)) (by decide +kernel))
    | 3, _ => exact va_eqt (hs (.eq (.elem (.static RX9 "TERM_MOST" "[I") (.int 3)) (.int 9)) (by decide +kernel))) hA
  exact ⟨t, va_Zref (hts _ (tbT_3 _ (List.mem_of_getElem? (i := 11) rfl))) (hts _ (tbT_1 _ (List.mem_of_getElem? (i := 1) rfl))) e hA, hT⟩
theorem st_2 {b : Nat} {s : State} (hts : ∀ w ∈ lw_tbl, w.before #[Value.ref b] s = true) (hs : ∀ c ∈ flatC g1, c.before #[Value.ref b] s = true) : ∃ t : Nat, va_Z RX9 (stN 2) "[I" (.ref t) (fun q => s.heap.size ≤ q) s s.heap ∧ va_T .int t 4 (fun j => .int (Int32.ofInt (stV 2 j))) (fun q => s.heap.size ≤ q) s s.heap := by
  have hA : ∀ a : Nat, a < s.heap.size → ¬ s.heap.size ≤ a := fun a h h2 => by omega
  obtain ⟨t, e, hT⟩ := va_Tof (tm := (.static RX9 "TOLD_LEAST" "[I")) (ty := .int) (N := 4) (f := fun j => .int (Int32.ofInt (stV 2 j))) (A := fun q => s.heap.size ≤ q) (by decide) (hs (.arrayOf (.static RX9 "TOLD_LEAST" "[I") .int) (by decide +kernel)) (va_eqt (hs (.eq (.length (.static RX9 "TOLD_LEAST" "[I")) (.int 4)) (by decide +kernel))) (fun j hj => by
    match j, hj with
    | 0, _ => exact va_eqt (hs (.eq (.elem (.static RX9 "TOLD_LEAST" "[I") (.int 0)) (.int 0)) (by decide +kernel))
    | 1, _ => exact va_eqt (hs (.eq (.elem (.static RX9 "TOLD_LEAST" "[I") (.int 1)) (.int 0)) (by decide +kernel))
    | 2, _ => exact va_eqt (hs (.eq (.elem (.static RX9 "TOLD_LEAST" "[I") (.int 2)) (.int 1)) (by decide +kernel))
    | 3, _ => exact va_eqt (hs (.eq (.elem (.static RX9 "TOLD_LEAST" "[I") (.int 3)) (.int 0)) (by decide +kernel))) hA
  exact ⟨t, va_Zref (hts _ (tbT_2 _ (List.mem_of_getElem? (i := 208) rfl))) (hts _ (tbT_1 _ (List.mem_of_getElem? (i := 1) rfl))) e hA, hT⟩
theorem st_3 {b : Nat} {s : State} (hts : ∀ w ∈ lw_tbl, w.before #[Value.ref b] s = true) (hs : ∀ c ∈ flatC g1, c.before #[Value.ref b] s = true) : ∃ t : Nat, va_Z RX9 (stN 3) "[I" (.ref t) (fun q => s.heap.size ≤ q) s s.heap ∧ va_T .int t 4 (fun j => .int (Int32.ofInt (stV 3 j))) (fun q => s.heap.size ≤ q) s s.heap := by
  have hA : ∀ a : Nat, a < s.heap.size → ¬ s.heap.size ≤ a := fun a h h2 => by omega
  obtain ⟨t, e, hT⟩ := va_Tof (tm := (.static RX9 "TOLD_MOST" "[I")) (ty := .int) (N := 4) (f := fun j => .int (Int32.ofInt (stV 3 j))) (A := fun q => s.heap.size ≤ q) (by decide) (hs (.arrayOf (.static RX9 "TOLD_MOST" "[I") .int) (by decide +kernel)) (va_eqt (hs (.eq (.length (.static RX9 "TOLD_MOST" "[I")) (.int 4)) (by decide +kernel))) (fun j hj => by
    match j, hj with
    | 0, _ => exact va_eqt (hs (.eq (.elem (.static RX9 "TOLD_MOST" "[I") (.int 0)) (.int 99)) (by decide +kernel))
    | 1, _ => exact va_eqt (hs (.eq (.elem (.static RX9 "TOLD_MOST" "[I") (.int 1)) (.int 20)) (by decide +kernel))
    | 2, _ => exact va_eqt (hs (.eq (.elem (.static RX9 "TOLD_MOST" "[I") (.int 2)) (.int 99)) (by decide +kernel))
    | 3, _ => exact va_eqt (hs (.eq (.elem (.static RX9 "TOLD_MOST" "[I") (.int 3)) (.int 1)) (by decide +kernel))) hA
  exact ⟨t, va_Zref (hts _ (tbT_2 _ (List.mem_of_getElem? (i := 210) rfl))) (hts _ (tbT_1 _ (List.mem_of_getElem? (i := 1) rfl))) e hA, hT⟩
theorem st_s0 : Cond.eq (.elem (.field (.string RX4 86) RJ0 "value" "[B") (.int (Int32.ofNat 0))) (.int ((wordsB.map Int32.ofInt).getD 0 0)) ∈ flatC g1 := List.mem_of_getElem? (i := 74) rfl
theorem st_s1 : Cond.eq (.elem (.field (.string RX4 86) RJ0 "value" "[B") (.int (Int32.ofNat 1))) (.int ((wordsB.map Int32.ofInt).getD 1 0)) ∈ flatC g1 := List.mem_of_getElem? (i := 75) rfl
theorem st_s2 : Cond.eq (.elem (.field (.string RX4 86) RJ0 "value" "[B") (.int (Int32.ofNat 2))) (.int ((wordsB.map Int32.ofInt).getD 2 0)) ∈ flatC g1 := List.mem_of_getElem? (i := 76) rfl
theorem st_s3 : Cond.eq (.elem (.field (.string RX4 86) RJ0 "value" "[B") (.int (Int32.ofNat 3))) (.int ((wordsB.map Int32.ofInt).getD 3 0)) ∈ flatC g1 := List.mem_of_getElem? (i := 77) rfl
theorem st_s4 : Cond.eq (.elem (.field (.string RX4 86) RJ0 "value" "[B") (.int (Int32.ofNat 4))) (.int ((wordsB.map Int32.ofInt).getD 4 0)) ∈ flatC g1 := List.mem_of_getElem? (i := 78) rfl
theorem st_s5 : Cond.eq (.elem (.field (.string RX4 86) RJ0 "value" "[B") (.int (Int32.ofNat 5))) (.int ((wordsB.map Int32.ofInt).getD 5 0)) ∈ flatC g1 := List.mem_of_getElem? (i := 79) rfl
theorem st_s6 : Cond.eq (.elem (.field (.string RX4 86) RJ0 "value" "[B") (.int (Int32.ofNat 6))) (.int ((wordsB.map Int32.ofInt).getD 6 0)) ∈ flatC g1 := List.mem_of_getElem? (i := 80) rfl
theorem st_s7 : Cond.eq (.elem (.field (.string RX4 86) RJ0 "value" "[B") (.int (Int32.ofNat 7))) (.int ((wordsB.map Int32.ofInt).getD 7 0)) ∈ flatC g1 := List.mem_of_getElem? (i := 81) rfl
theorem st_s8 : Cond.eq (.elem (.field (.string RX4 86) RJ0 "value" "[B") (.int (Int32.ofNat 8))) (.int ((wordsB.map Int32.ofInt).getD 8 0)) ∈ flatC g1 := List.mem_of_getElem? (i := 82) rfl
theorem st_s9 : Cond.eq (.elem (.field (.string RX4 86) RJ0 "value" "[B") (.int (Int32.ofNat 9))) (.int ((wordsB.map Int32.ofInt).getD 9 0)) ∈ flatC g1 := List.mem_of_getElem? (i := 83) rfl
theorem st_s10 : Cond.eq (.elem (.field (.string RX4 86) RJ0 "value" "[B") (.int (Int32.ofNat 10))) (.int ((wordsB.map Int32.ofInt).getD 10 0)) ∈ flatC g1 := List.mem_of_getElem? (i := 84) rfl
theorem st_s11 : Cond.eq (.elem (.field (.string RX4 86) RJ0 "value" "[B") (.int (Int32.ofNat 11))) (.int ((wordsB.map Int32.ofInt).getD 11 0)) ∈ flatC g1 := List.mem_of_getElem? (i := 85) rfl
theorem st_s12 : Cond.eq (.elem (.field (.string RX4 86) RJ0 "value" "[B") (.int (Int32.ofNat 12))) (.int ((wordsB.map Int32.ofInt).getD 12 0)) ∈ flatC g1 := List.mem_of_getElem? (i := 86) rfl
theorem st_s13 : Cond.eq (.elem (.field (.string RX4 86) RJ0 "value" "[B") (.int (Int32.ofNat 13))) (.int ((wordsB.map Int32.ofInt).getD 13 0)) ∈ flatC g1 := List.mem_of_getElem? (i := 87) rfl
theorem st_s14 : Cond.eq (.elem (.field (.string RX4 86) RJ0 "value" "[B") (.int (Int32.ofNat 14))) (.int ((wordsB.map Int32.ofInt).getD 14 0)) ∈ flatC g1 := List.mem_of_getElem? (i := 88) rfl
theorem st_s15 : Cond.eq (.elem (.field (.string RX4 86) RJ0 "value" "[B") (.int (Int32.ofNat 15))) (.int ((wordsB.map Int32.ofInt).getD 15 0)) ∈ flatC g1 := List.mem_of_getElem? (i := 89) rfl
theorem st_s16 : Cond.eq (.elem (.field (.string RX4 86) RJ0 "value" "[B") (.int (Int32.ofNat 16))) (.int ((wordsB.map Int32.ofInt).getD 16 0)) ∈ flatC g1 := List.mem_of_getElem? (i := 90) rfl
theorem st_s17 : Cond.eq (.elem (.field (.string RX4 86) RJ0 "value" "[B") (.int (Int32.ofNat 17))) (.int ((wordsB.map Int32.ofInt).getD 17 0)) ∈ flatC g1 := List.mem_of_getElem? (i := 91) rfl
theorem st_s18 : Cond.eq (.elem (.field (.string RX4 86) RJ0 "value" "[B") (.int (Int32.ofNat 18))) (.int ((wordsB.map Int32.ofInt).getD 18 0)) ∈ flatC g1 := List.mem_of_getElem? (i := 92) rfl
theorem st_s19 : Cond.eq (.elem (.field (.string RX4 86) RJ0 "value" "[B") (.int (Int32.ofNat 19))) (.int ((wordsB.map Int32.ofInt).getD 19 0)) ∈ flatC g1 := List.mem_of_getElem? (i := 93) rfl
theorem st_s20 : Cond.eq (.elem (.field (.string RX4 86) RJ0 "value" "[B") (.int (Int32.ofNat 20))) (.int ((wordsB.map Int32.ofInt).getD 20 0)) ∈ flatC g1 := List.mem_of_getElem? (i := 94) rfl
theorem st_s21 : Cond.eq (.elem (.field (.string RX4 86) RJ0 "value" "[B") (.int (Int32.ofNat 21))) (.int ((wordsB.map Int32.ofInt).getD 21 0)) ∈ flatC g1 := List.mem_of_getElem? (i := 95) rfl
theorem st_s22 : Cond.eq (.elem (.field (.string RX4 86) RJ0 "value" "[B") (.int (Int32.ofNat 22))) (.int ((wordsB.map Int32.ofInt).getD 22 0)) ∈ flatC g1 := List.mem_of_getElem? (i := 96) rfl
theorem st_s23 : Cond.eq (.elem (.field (.string RX4 86) RJ0 "value" "[B") (.int (Int32.ofNat 23))) (.int ((wordsB.map Int32.ofInt).getD 23 0)) ∈ flatC g1 := List.mem_of_getElem? (i := 97) rfl
theorem st_s24 : Cond.eq (.elem (.field (.string RX4 86) RJ0 "value" "[B") (.int (Int32.ofNat 24))) (.int ((wordsB.map Int32.ofInt).getD 24 0)) ∈ flatC g1 := List.mem_of_getElem? (i := 98) rfl
theorem st_s25 : Cond.eq (.elem (.field (.string RX4 86) RJ0 "value" "[B") (.int (Int32.ofNat 25))) (.int ((wordsB.map Int32.ofInt).getD 25 0)) ∈ flatC g1 := List.mem_of_getElem? (i := 99) rfl
theorem st_s26 : Cond.eq (.elem (.field (.string RX4 86) RJ0 "value" "[B") (.int (Int32.ofNat 26))) (.int ((wordsB.map Int32.ofInt).getD 26 0)) ∈ flatC g1 := List.mem_of_getElem? (i := 100) rfl
theorem st_s27 : Cond.eq (.elem (.field (.string RX4 86) RJ0 "value" "[B") (.int (Int32.ofNat 27))) (.int ((wordsB.map Int32.ofInt).getD 27 0)) ∈ flatC g1 := List.mem_of_getElem? (i := 101) rfl
theorem st_s28 : Cond.eq (.elem (.field (.string RX4 86) RJ0 "value" "[B") (.int (Int32.ofNat 28))) (.int ((wordsB.map Int32.ofInt).getD 28 0)) ∈ flatC g1 := List.mem_of_getElem? (i := 102) rfl
theorem st_s29 : Cond.eq (.elem (.field (.string RX4 86) RJ0 "value" "[B") (.int (Int32.ofNat 29))) (.int ((wordsB.map Int32.ofInt).getD 29 0)) ∈ flatC g1 := List.mem_of_getElem? (i := 103) rfl
theorem st_s30 : Cond.eq (.elem (.field (.string RX4 86) RJ0 "value" "[B") (.int (Int32.ofNat 30))) (.int ((wordsB.map Int32.ofInt).getD 30 0)) ∈ flatC g1 := List.mem_of_getElem? (i := 104) rfl
theorem st_s31 : Cond.eq (.elem (.field (.string RX4 86) RJ0 "value" "[B") (.int (Int32.ofNat 31))) (.int ((wordsB.map Int32.ofInt).getD 31 0)) ∈ flatC g1 := List.mem_of_getElem? (i := 105) rfl
theorem st_s32 : Cond.eq (.elem (.field (.string RX4 86) RJ0 "value" "[B") (.int (Int32.ofNat 32))) (.int ((wordsB.map Int32.ofInt).getD 32 0)) ∈ flatC g1 := List.mem_of_getElem? (i := 106) rfl
theorem st_s33 : Cond.eq (.elem (.field (.string RX4 86) RJ0 "value" "[B") (.int (Int32.ofNat 33))) (.int ((wordsB.map Int32.ofInt).getD 33 0)) ∈ flatC g1 := List.mem_of_getElem? (i := 107) rfl
theorem st_s34 : Cond.eq (.elem (.field (.string RX4 86) RJ0 "value" "[B") (.int (Int32.ofNat 34))) (.int ((wordsB.map Int32.ofInt).getD 34 0)) ∈ flatC g1 := List.mem_of_getElem? (i := 108) rfl
theorem st_s35 : Cond.eq (.elem (.field (.string RX4 86) RJ0 "value" "[B") (.int (Int32.ofNat 35))) (.int ((wordsB.map Int32.ofInt).getD 35 0)) ∈ flatC g1 := List.mem_of_getElem? (i := 109) rfl
theorem st_s36 : Cond.eq (.elem (.field (.string RX4 86) RJ0 "value" "[B") (.int (Int32.ofNat 36))) (.int ((wordsB.map Int32.ofInt).getD 36 0)) ∈ flatC g1 := List.mem_of_getElem? (i := 110) rfl
theorem st_s37 : Cond.eq (.elem (.field (.string RX4 86) RJ0 "value" "[B") (.int (Int32.ofNat 37))) (.int ((wordsB.map Int32.ofInt).getD 37 0)) ∈ flatC g1 := List.mem_of_getElem? (i := 111) rfl
theorem st_s38 : Cond.eq (.elem (.field (.string RX4 86) RJ0 "value" "[B") (.int (Int32.ofNat 38))) (.int ((wordsB.map Int32.ofInt).getD 38 0)) ∈ flatC g1 := List.mem_of_getElem? (i := 112) rfl
theorem st_s39 : Cond.eq (.elem (.field (.string RX4 86) RJ0 "value" "[B") (.int (Int32.ofNat 39))) (.int ((wordsB.map Int32.ofInt).getD 39 0)) ∈ flatC g1 := List.mem_of_getElem? (i := 113) rfl
theorem st_s40 : Cond.eq (.elem (.field (.string RX4 86) RJ0 "value" "[B") (.int (Int32.ofNat 40))) (.int ((wordsB.map Int32.ofInt).getD 40 0)) ∈ flatC g1 := List.mem_of_getElem? (i := 114) rfl
theorem st_s41 : Cond.eq (.elem (.field (.string RX4 86) RJ0 "value" "[B") (.int (Int32.ofNat 41))) (.int ((wordsB.map Int32.ofInt).getD 41 0)) ∈ flatC g1 := List.mem_of_getElem? (i := 115) rfl
theorem st_s42 : Cond.eq (.elem (.field (.string RX4 86) RJ0 "value" "[B") (.int (Int32.ofNat 42))) (.int ((wordsB.map Int32.ofInt).getD 42 0)) ∈ flatC g1 := List.mem_of_getElem? (i := 116) rfl
theorem st_s43 : Cond.eq (.elem (.field (.string RX4 86) RJ0 "value" "[B") (.int (Int32.ofNat 43))) (.int ((wordsB.map Int32.ofInt).getD 43 0)) ∈ flatC g1 := List.mem_of_getElem? (i := 117) rfl
theorem st_s44 : Cond.eq (.elem (.field (.string RX4 86) RJ0 "value" "[B") (.int (Int32.ofNat 44))) (.int ((wordsB.map Int32.ofInt).getD 44 0)) ∈ flatC g1 := List.mem_of_getElem? (i := 118) rfl
theorem st_s45 : Cond.eq (.elem (.field (.string RX4 86) RJ0 "value" "[B") (.int (Int32.ofNat 45))) (.int ((wordsB.map Int32.ofInt).getD 45 0)) ∈ flatC g1 := List.mem_of_getElem? (i := 119) rfl
theorem st_s46 : Cond.eq (.elem (.field (.string RX4 86) RJ0 "value" "[B") (.int (Int32.ofNat 46))) (.int ((wordsB.map Int32.ofInt).getD 46 0)) ∈ flatC g1 := List.mem_of_getElem? (i := 120) rfl
theorem st_s47 : Cond.eq (.elem (.field (.string RX4 86) RJ0 "value" "[B") (.int (Int32.ofNat 47))) (.int ((wordsB.map Int32.ofInt).getD 47 0)) ∈ flatC g1 := List.mem_of_getElem? (i := 121) rfl
theorem st_s48 : Cond.eq (.elem (.field (.string RX4 86) RJ0 "value" "[B") (.int (Int32.ofNat 48))) (.int ((wordsB.map Int32.ofInt).getD 48 0)) ∈ flatC g1 := List.mem_of_getElem? (i := 122) rfl
theorem st_s49 : Cond.eq (.elem (.field (.string RX4 86) RJ0 "value" "[B") (.int (Int32.ofNat 49))) (.int ((wordsB.map Int32.ofInt).getD 49 0)) ∈ flatC g1 := List.mem_of_getElem? (i := 123) rfl
theorem st_s50 : Cond.eq (.elem (.field (.string RX4 86) RJ0 "value" "[B") (.int (Int32.ofNat 50))) (.int ((wordsB.map Int32.ofInt).getD 50 0)) ∈ flatC g1 := List.mem_of_getElem? (i := 124) rfl
theorem st_s51 : Cond.eq (.elem (.field (.string RX4 86) RJ0 "value" "[B") (.int (Int32.ofNat 51))) (.int ((wordsB.map Int32.ofInt).getD 51 0)) ∈ flatC g1 := List.mem_of_getElem? (i := 125) rfl
theorem st_s52 : Cond.eq (.elem (.field (.string RX4 86) RJ0 "value" "[B") (.int (Int32.ofNat 52))) (.int ((wordsB.map Int32.ofInt).getD 52 0)) ∈ flatC g1 := List.mem_of_getElem? (i := 126) rfl
theorem st_s53 : Cond.eq (.elem (.field (.string RX4 86) RJ0 "value" "[B") (.int (Int32.ofNat 53))) (.int ((wordsB.map Int32.ofInt).getD 53 0)) ∈ flatC g1 := List.mem_of_getElem? (i := 127) rfl
theorem st_s54 : Cond.eq (.elem (.field (.string RX4 86) RJ0 "value" "[B") (.int (Int32.ofNat 54))) (.int ((wordsB.map Int32.ofInt).getD 54 0)) ∈ flatC g1 := List.mem_of_getElem? (i := 128) rfl
theorem st_s55 : Cond.eq (.elem (.field (.string RX4 86) RJ0 "value" "[B") (.int (Int32.ofNat 55))) (.int ((wordsB.map Int32.ofInt).getD 55 0)) ∈ flatC g1 := List.mem_of_getElem? (i := 129) rfl
theorem st_s56 : Cond.eq (.elem (.field (.string RX4 86) RJ0 "value" "[B") (.int (Int32.ofNat 56))) (.int ((wordsB.map Int32.ofInt).getD 56 0)) ∈ flatC g1 := List.mem_of_getElem? (i := 130) rfl
theorem st_s57 : Cond.eq (.elem (.field (.string RX4 86) RJ0 "value" "[B") (.int (Int32.ofNat 57))) (.int ((wordsB.map Int32.ofInt).getD 57 0)) ∈ flatC g1 := List.mem_of_getElem? (i := 131) rfl
theorem st_s58 : Cond.eq (.elem (.field (.string RX4 86) RJ0 "value" "[B") (.int (Int32.ofNat 58))) (.int ((wordsB.map Int32.ofInt).getD 58 0)) ∈ flatC g1 := List.mem_of_getElem? (i := 132) rfl
theorem st_s59 : Cond.eq (.elem (.field (.string RX4 86) RJ0 "value" "[B") (.int (Int32.ofNat 59))) (.int ((wordsB.map Int32.ofInt).getD 59 0)) ∈ flatC g1 := List.mem_of_getElem? (i := 133) rfl
theorem st_s60 : Cond.eq (.elem (.field (.string RX4 86) RJ0 "value" "[B") (.int (Int32.ofNat 60))) (.int ((wordsB.map Int32.ofInt).getD 60 0)) ∈ flatC g1 := List.mem_of_getElem? (i := 134) rfl
theorem st_s61 : Cond.eq (.elem (.field (.string RX4 86) RJ0 "value" "[B") (.int (Int32.ofNat 61))) (.int ((wordsB.map Int32.ofInt).getD 61 0)) ∈ flatC g1 := List.mem_of_getElem? (i := 135) rfl
theorem st_s62 : Cond.eq (.elem (.field (.string RX4 86) RJ0 "value" "[B") (.int (Int32.ofNat 62))) (.int ((wordsB.map Int32.ofInt).getD 62 0)) ∈ flatC g1 := List.mem_of_getElem? (i := 136) rfl
theorem st_s63 : Cond.eq (.elem (.field (.string RX4 86) RJ0 "value" "[B") (.int (Int32.ofNat 63))) (.int ((wordsB.map Int32.ofInt).getD 63 0)) ∈ flatC g1 := List.mem_of_getElem? (i := 137) rfl
theorem st_s64 : Cond.eq (.elem (.field (.string RX4 86) RJ0 "value" "[B") (.int (Int32.ofNat 64))) (.int ((wordsB.map Int32.ofInt).getD 64 0)) ∈ flatC g1 := List.mem_of_getElem? (i := 138) rfl
theorem st_s65 : Cond.eq (.elem (.field (.string RX4 86) RJ0 "value" "[B") (.int (Int32.ofNat 65))) (.int ((wordsB.map Int32.ofInt).getD 65 0)) ∈ flatC g1 := List.mem_of_getElem? (i := 139) rfl
theorem st_s66 : Cond.eq (.elem (.field (.string RX4 86) RJ0 "value" "[B") (.int (Int32.ofNat 66))) (.int ((wordsB.map Int32.ofInt).getD 66 0)) ∈ flatC g1 := List.mem_of_getElem? (i := 140) rfl
theorem st_s67 : Cond.eq (.elem (.field (.string RX4 86) RJ0 "value" "[B") (.int (Int32.ofNat 67))) (.int ((wordsB.map Int32.ofInt).getD 67 0)) ∈ flatC g1 := List.mem_of_getElem? (i := 141) rfl
theorem st_s68 : Cond.eq (.elem (.field (.string RX4 86) RJ0 "value" "[B") (.int (Int32.ofNat 68))) (.int ((wordsB.map Int32.ofInt).getD 68 0)) ∈ flatC g1 := List.mem_of_getElem? (i := 142) rfl
theorem st_s69 : Cond.eq (.elem (.field (.string RX4 86) RJ0 "value" "[B") (.int (Int32.ofNat 69))) (.int ((wordsB.map Int32.ofInt).getD 69 0)) ∈ flatC g1 := List.mem_of_getElem? (i := 143) rfl
theorem st_s70 : Cond.eq (.elem (.field (.string RX4 86) RJ0 "value" "[B") (.int (Int32.ofNat 70))) (.int ((wordsB.map Int32.ofInt).getD 70 0)) ∈ flatC g1 := List.mem_of_getElem? (i := 144) rfl
theorem st_s71 : Cond.eq (.elem (.field (.string RX4 86) RJ0 "value" "[B") (.int (Int32.ofNat 71))) (.int ((wordsB.map Int32.ofInt).getD 71 0)) ∈ flatC g1 := List.mem_of_getElem? (i := 145) rfl
theorem st_s72 : Cond.eq (.elem (.field (.string RX4 86) RJ0 "value" "[B") (.int (Int32.ofNat 72))) (.int ((wordsB.map Int32.ofInt).getD 72 0)) ∈ flatC g1 := List.mem_of_getElem? (i := 146) rfl
theorem st_s73 : Cond.eq (.elem (.field (.string RX4 86) RJ0 "value" "[B") (.int (Int32.ofNat 73))) (.int ((wordsB.map Int32.ofInt).getD 73 0)) ∈ flatC g1 := List.mem_of_getElem? (i := 147) rfl
theorem st_s74 : Cond.eq (.elem (.field (.string RX4 86) RJ0 "value" "[B") (.int (Int32.ofNat 74))) (.int ((wordsB.map Int32.ofInt).getD 74 0)) ∈ flatC g1 := List.mem_of_getElem? (i := 148) rfl
theorem st_s75 : Cond.eq (.elem (.field (.string RX4 86) RJ0 "value" "[B") (.int (Int32.ofNat 75))) (.int ((wordsB.map Int32.ofInt).getD 75 0)) ∈ flatC g1 := List.mem_of_getElem? (i := 149) rfl
theorem st_s76 : Cond.eq (.elem (.field (.string RX4 86) RJ0 "value" "[B") (.int (Int32.ofNat 76))) (.int ((wordsB.map Int32.ofInt).getD 76 0)) ∈ flatC g1 := List.mem_of_getElem? (i := 150) rfl
theorem st_s77 : Cond.eq (.elem (.field (.string RX4 86) RJ0 "value" "[B") (.int (Int32.ofNat 77))) (.int ((wordsB.map Int32.ofInt).getD 77 0)) ∈ flatC g1 := List.mem_of_getElem? (i := 151) rfl
theorem st_s78 : Cond.eq (.elem (.field (.string RX4 86) RJ0 "value" "[B") (.int (Int32.ofNat 78))) (.int ((wordsB.map Int32.ofInt).getD 78 0)) ∈ flatC g1 := List.mem_of_getElem? (i := 152) rfl
theorem st_s79 : Cond.eq (.elem (.field (.string RX4 86) RJ0 "value" "[B") (.int (Int32.ofNat 79))) (.int ((wordsB.map Int32.ofInt).getD 79 0)) ∈ flatC g1 := List.mem_of_getElem? (i := 153) rfl
theorem st_s80 : Cond.eq (.elem (.field (.string RX4 86) RJ0 "value" "[B") (.int (Int32.ofNat 80))) (.int ((wordsB.map Int32.ofInt).getD 80 0)) ∈ flatC g1 := List.mem_of_getElem? (i := 154) rfl
theorem st_s81 : Cond.eq (.elem (.field (.string RX4 86) RJ0 "value" "[B") (.int (Int32.ofNat 81))) (.int ((wordsB.map Int32.ofInt).getD 81 0)) ∈ flatC g1 := List.mem_of_getElem? (i := 155) rfl
theorem st_s82 : Cond.eq (.elem (.field (.string RX4 86) RJ0 "value" "[B") (.int (Int32.ofNat 82))) (.int ((wordsB.map Int32.ofInt).getD 82 0)) ∈ flatC g1 := List.mem_of_getElem? (i := 156) rfl
theorem st_s83 : Cond.eq (.elem (.field (.string RX4 86) RJ0 "value" "[B") (.int (Int32.ofNat 83))) (.int ((wordsB.map Int32.ofInt).getD 83 0)) ∈ flatC g1 := List.mem_of_getElem? (i := 157) rfl
theorem st_s84 : Cond.eq (.elem (.field (.string RX4 86) RJ0 "value" "[B") (.int (Int32.ofNat 84))) (.int ((wordsB.map Int32.ofInt).getD 84 0)) ∈ flatC g1 := List.mem_of_getElem? (i := 158) rfl
theorem st_s85 : Cond.eq (.elem (.field (.string RX4 86) RJ0 "value" "[B") (.int (Int32.ofNat 85))) (.int ((wordsB.map Int32.ofInt).getD 85 0)) ∈ flatC g1 := List.mem_of_getElem? (i := 159) rfl
theorem st_s86 : Cond.eq (.elem (.field (.string RX4 86) RJ0 "value" "[B") (.int (Int32.ofNat 86))) (.int ((wordsB.map Int32.ofInt).getD 86 0)) ∈ flatC g1 := List.mem_of_getElem? (i := 160) rfl
theorem st_s87 : Cond.eq (.elem (.field (.string RX4 86) RJ0 "value" "[B") (.int (Int32.ofNat 87))) (.int ((wordsB.map Int32.ofInt).getD 87 0)) ∈ flatC g1 := List.mem_of_getElem? (i := 161) rfl
theorem st_s88 : Cond.eq (.elem (.field (.string RX4 86) RJ0 "value" "[B") (.int (Int32.ofNat 88))) (.int ((wordsB.map Int32.ofInt).getD 88 0)) ∈ flatC g1 := List.mem_of_getElem? (i := 162) rfl
theorem st_s89 : Cond.eq (.elem (.field (.string RX4 86) RJ0 "value" "[B") (.int (Int32.ofNat 89))) (.int ((wordsB.map Int32.ofInt).getD 89 0)) ∈ flatC g1 := List.mem_of_getElem? (i := 163) rfl
theorem st_s90 : Cond.eq (.elem (.field (.string RX4 86) RJ0 "value" "[B") (.int (Int32.ofNat 90))) (.int ((wordsB.map Int32.ofInt).getD 90 0)) ∈ flatC g1 := List.mem_of_getElem? (i := 164) rfl
theorem st_s91 : Cond.eq (.elem (.field (.string RX4 86) RJ0 "value" "[B") (.int (Int32.ofNat 91))) (.int ((wordsB.map Int32.ofInt).getD 91 0)) ∈ flatC g1 := List.mem_of_getElem? (i := 165) rfl
theorem st_s92 : Cond.eq (.elem (.field (.string RX4 86) RJ0 "value" "[B") (.int (Int32.ofNat 92))) (.int ((wordsB.map Int32.ofInt).getD 92 0)) ∈ flatC g1 := List.mem_of_getElem? (i := 166) rfl
theorem st_s93 : Cond.eq (.elem (.field (.string RX4 86) RJ0 "value" "[B") (.int (Int32.ofNat 93))) (.int ((wordsB.map Int32.ofInt).getD 93 0)) ∈ flatC g1 := List.mem_of_getElem? (i := 167) rfl
theorem st_s94 : Cond.eq (.elem (.field (.string RX4 86) RJ0 "value" "[B") (.int (Int32.ofNat 94))) (.int ((wordsB.map Int32.ofInt).getD 94 0)) ∈ flatC g1 := List.mem_of_getElem? (i := 168) rfl
theorem st_s95 : Cond.eq (.elem (.field (.string RX4 86) RJ0 "value" "[B") (.int (Int32.ofNat 95))) (.int ((wordsB.map Int32.ofInt).getD 95 0)) ∈ flatC g1 := List.mem_of_getElem? (i := 169) rfl
theorem st_s96 : Cond.eq (.elem (.field (.string RX4 86) RJ0 "value" "[B") (.int (Int32.ofNat 96))) (.int ((wordsB.map Int32.ofInt).getD 96 0)) ∈ flatC g1 := List.mem_of_getElem? (i := 170) rfl
theorem st_s97 : Cond.eq (.elem (.field (.string RX4 86) RJ0 "value" "[B") (.int (Int32.ofNat 97))) (.int ((wordsB.map Int32.ofInt).getD 97 0)) ∈ flatC g1 := List.mem_of_getElem? (i := 171) rfl
theorem st_s98 : Cond.eq (.elem (.field (.string RX4 86) RJ0 "value" "[B") (.int (Int32.ofNat 98))) (.int ((wordsB.map Int32.ofInt).getD 98 0)) ∈ flatC g1 := List.mem_of_getElem? (i := 172) rfl
theorem st_s99 : Cond.eq (.elem (.field (.string RX4 86) RJ0 "value" "[B") (.int (Int32.ofNat 99))) (.int ((wordsB.map Int32.ofInt).getD 99 0)) ∈ flatC g1 := List.mem_of_getElem? (i := 173) rfl
theorem st_s100 : Cond.eq (.elem (.field (.string RX4 86) RJ0 "value" "[B") (.int (Int32.ofNat 100))) (.int ((wordsB.map Int32.ofInt).getD 100 0)) ∈ flatC g1 := List.mem_of_getElem? (i := 174) rfl
theorem st_s101 : Cond.eq (.elem (.field (.string RX4 86) RJ0 "value" "[B") (.int (Int32.ofNat 101))) (.int ((wordsB.map Int32.ofInt).getD 101 0)) ∈ flatC g1 := List.mem_of_getElem? (i := 175) rfl
theorem st_s102 : Cond.eq (.elem (.field (.string RX4 86) RJ0 "value" "[B") (.int (Int32.ofNat 102))) (.int ((wordsB.map Int32.ofInt).getD 102 0)) ∈ flatC g1 := List.mem_of_getElem? (i := 176) rfl
theorem st_s103 : Cond.eq (.elem (.field (.string RX4 86) RJ0 "value" "[B") (.int (Int32.ofNat 103))) (.int ((wordsB.map Int32.ofInt).getD 103 0)) ∈ flatC g1 := List.mem_of_getElem? (i := 177) rfl
theorem st_s104 : Cond.eq (.elem (.field (.string RX4 86) RJ0 "value" "[B") (.int (Int32.ofNat 104))) (.int ((wordsB.map Int32.ofInt).getD 104 0)) ∈ flatC g1 := List.mem_of_getElem? (i := 178) rfl
theorem st_s105 : Cond.eq (.elem (.field (.string RX4 86) RJ0 "value" "[B") (.int (Int32.ofNat 105))) (.int ((wordsB.map Int32.ofInt).getD 105 0)) ∈ flatC g1 := List.mem_of_getElem? (i := 179) rfl
theorem st_s106 : Cond.eq (.elem (.field (.string RX4 86) RJ0 "value" "[B") (.int (Int32.ofNat 106))) (.int ((wordsB.map Int32.ofInt).getD 106 0)) ∈ flatC g1 := List.mem_of_getElem? (i := 180) rfl
theorem st_s107 : Cond.eq (.elem (.field (.string RX4 86) RJ0 "value" "[B") (.int (Int32.ofNat 107))) (.int ((wordsB.map Int32.ofInt).getD 107 0)) ∈ flatC g1 := List.mem_of_getElem? (i := 181) rfl
theorem st_s108 : Cond.eq (.elem (.field (.string RX4 86) RJ0 "value" "[B") (.int (Int32.ofNat 108))) (.int ((wordsB.map Int32.ofInt).getD 108 0)) ∈ flatC g1 := List.mem_of_getElem? (i := 182) rfl
theorem st_s109 : Cond.eq (.elem (.field (.string RX4 86) RJ0 "value" "[B") (.int (Int32.ofNat 109))) (.int ((wordsB.map Int32.ofInt).getD 109 0)) ∈ flatC g1 := List.mem_of_getElem? (i := 183) rfl
theorem st_s110 : Cond.eq (.elem (.field (.string RX4 86) RJ0 "value" "[B") (.int (Int32.ofNat 110))) (.int ((wordsB.map Int32.ofInt).getD 110 0)) ∈ flatC g1 := List.mem_of_getElem? (i := 184) rfl
theorem st_s111 : Cond.eq (.elem (.field (.string RX4 86) RJ0 "value" "[B") (.int (Int32.ofNat 111))) (.int ((wordsB.map Int32.ofInt).getD 111 0)) ∈ flatC g1 := List.mem_of_getElem? (i := 185) rfl
theorem st_s112 : Cond.eq (.elem (.field (.string RX4 86) RJ0 "value" "[B") (.int (Int32.ofNat 112))) (.int ((wordsB.map Int32.ofInt).getD 112 0)) ∈ flatC g1 := List.mem_of_getElem? (i := 186) rfl
theorem st_s113 : Cond.eq (.elem (.field (.string RX4 86) RJ0 "value" "[B") (.int (Int32.ofNat 113))) (.int ((wordsB.map Int32.ofInt).getD 113 0)) ∈ flatC g1 := List.mem_of_getElem? (i := 187) rfl
theorem st_s114 : Cond.eq (.elem (.field (.string RX4 86) RJ0 "value" "[B") (.int (Int32.ofNat 114))) (.int ((wordsB.map Int32.ofInt).getD 114 0)) ∈ flatC g1 := List.mem_of_getElem? (i := 188) rfl
theorem st_s115 : Cond.eq (.elem (.field (.string RX4 86) RJ0 "value" "[B") (.int (Int32.ofNat 115))) (.int ((wordsB.map Int32.ofInt).getD 115 0)) ∈ flatC g1 := List.mem_of_getElem? (i := 189) rfl
theorem st_s116 : Cond.eq (.elem (.field (.string RX4 86) RJ0 "value" "[B") (.int (Int32.ofNat 116))) (.int ((wordsB.map Int32.ofInt).getD 116 0)) ∈ flatC g1 := List.mem_of_getElem? (i := 190) rfl
theorem st_s117 : Cond.eq (.elem (.field (.string RX4 86) RJ0 "value" "[B") (.int (Int32.ofNat 117))) (.int ((wordsB.map Int32.ofInt).getD 117 0)) ∈ flatC g1 := List.mem_of_getElem? (i := 191) rfl
theorem st_s118 : Cond.eq (.elem (.field (.string RX4 86) RJ0 "value" "[B") (.int (Int32.ofNat 118))) (.int ((wordsB.map Int32.ofInt).getD 118 0)) ∈ flatC g1 := List.mem_of_getElem? (i := 192) rfl
theorem st_s119 : Cond.eq (.elem (.field (.string RX4 86) RJ0 "value" "[B") (.int (Int32.ofNat 119))) (.int ((wordsB.map Int32.ofInt).getD 119 0)) ∈ flatC g1 := List.mem_of_getElem? (i := 193) rfl
theorem st_s120 : Cond.eq (.elem (.field (.string RX4 86) RJ0 "value" "[B") (.int (Int32.ofNat 120))) (.int ((wordsB.map Int32.ofInt).getD 120 0)) ∈ flatC g1 := List.mem_of_getElem? (i := 194) rfl
theorem st_s121 : Cond.eq (.elem (.field (.string RX4 86) RJ0 "value" "[B") (.int (Int32.ofNat 121))) (.int ((wordsB.map Int32.ofInt).getD 121 0)) ∈ flatC g1 := List.mem_of_getElem? (i := 195) rfl
theorem st_s122 : Cond.eq (.elem (.field (.string RX4 86) RJ0 "value" "[B") (.int (Int32.ofNat 122))) (.int ((wordsB.map Int32.ofInt).getD 122 0)) ∈ flatC g1 := List.mem_of_getElem? (i := 196) rfl
theorem st_s123 : Cond.eq (.elem (.field (.string RX4 86) RJ0 "value" "[B") (.int (Int32.ofNat 123))) (.int ((wordsB.map Int32.ofInt).getD 123 0)) ∈ flatC g1 := List.mem_of_getElem? (i := 197) rfl
theorem st_s124 : Cond.eq (.elem (.field (.string RX4 86) RJ0 "value" "[B") (.int (Int32.ofNat 124))) (.int ((wordsB.map Int32.ofInt).getD 124 0)) ∈ flatC g1 := List.mem_of_getElem? (i := 198) rfl
theorem st_s125 : Cond.eq (.elem (.field (.string RX4 86) RJ0 "value" "[B") (.int (Int32.ofNat 125))) (.int ((wordsB.map Int32.ofInt).getD 125 0)) ∈ flatC g1 := List.mem_of_getElem? (i := 199) rfl
theorem st_s126 : Cond.eq (.elem (.field (.string RX4 86) RJ0 "value" "[B") (.int (Int32.ofNat 126))) (.int ((wordsB.map Int32.ofInt).getD 126 0)) ∈ flatC g1 := List.mem_of_getElem? (i := 200) rfl
theorem st_s127 : Cond.eq (.elem (.field (.string RX4 86) RJ0 "value" "[B") (.int (Int32.ofNat 127))) (.int ((wordsB.map Int32.ofInt).getD 127 0)) ∈ flatC g1 := List.mem_of_getElem? (i := 201) rfl
theorem st_s128 : Cond.eq (.elem (.field (.string RX4 86) RJ0 "value" "[B") (.int (Int32.ofNat 128))) (.int ((wordsB.map Int32.ofInt).getD 128 0)) ∈ flatC g1 := List.mem_of_getElem? (i := 202) rfl
theorem st_s129 : Cond.eq (.elem (.field (.string RX4 86) RJ0 "value" "[B") (.int (Int32.ofNat 129))) (.int ((wordsB.map Int32.ofInt).getD 129 0)) ∈ flatC g1 := List.mem_of_getElem? (i := 203) rfl
theorem st_s130 : Cond.eq (.elem (.field (.string RX4 86) RJ0 "value" "[B") (.int (Int32.ofNat 130))) (.int ((wordsB.map Int32.ofInt).getD 130 0)) ∈ flatC g1 := List.mem_of_getElem? (i := 204) rfl
theorem st_s131 : Cond.eq (.elem (.field (.string RX4 86) RJ0 "value" "[B") (.int (Int32.ofNat 131))) (.int ((wordsB.map Int32.ofInt).getD 131 0)) ∈ flatC g1 := List.mem_of_getElem? (i := 205) rfl
theorem st_s132 : Cond.eq (.elem (.field (.string RX4 86) RJ0 "value" "[B") (.int (Int32.ofNat 132))) (.int ((wordsB.map Int32.ofInt).getD 132 0)) ∈ flatC g1 := List.mem_of_getElem? (i := 206) rfl
theorem st_s133 : Cond.eq (.elem (.field (.string RX4 86) RJ0 "value" "[B") (.int (Int32.ofNat 133))) (.int ((wordsB.map Int32.ofInt).getD 133 0)) ∈ flatC g1 := List.mem_of_getElem? (i := 207) rfl
theorem st_s134 : Cond.eq (.elem (.field (.string RX4 86) RJ0 "value" "[B") (.int (Int32.ofNat 134))) (.int ((wordsB.map Int32.ofInt).getD 134 0)) ∈ flatC g1 := List.mem_of_getElem? (i := 208) rfl
theorem st_s135 : Cond.eq (.elem (.field (.string RX4 86) RJ0 "value" "[B") (.int (Int32.ofNat 135))) (.int ((wordsB.map Int32.ofInt).getD 135 0)) ∈ flatC g1 := List.mem_of_getElem? (i := 209) rfl
theorem st_s136 : Cond.eq (.elem (.field (.string RX4 86) RJ0 "value" "[B") (.int (Int32.ofNat 136))) (.int ((wordsB.map Int32.ofInt).getD 136 0)) ∈ flatC g1 := List.mem_of_getElem? (i := 210) rfl
theorem st_s137 : Cond.eq (.elem (.field (.string RX4 86) RJ0 "value" "[B") (.int (Int32.ofNat 137))) (.int ((wordsB.map Int32.ofInt).getD 137 0)) ∈ flatC g1 := List.mem_of_getElem? (i := 211) rfl
theorem st_s138 : Cond.eq (.elem (.field (.string RX4 86) RJ0 "value" "[B") (.int (Int32.ofNat 138))) (.int ((wordsB.map Int32.ofInt).getD 138 0)) ∈ flatC g1 := List.mem_of_getElem? (i := 212) rfl
theorem st_s139 : Cond.eq (.elem (.field (.string RX4 86) RJ0 "value" "[B") (.int (Int32.ofNat 139))) (.int ((wordsB.map Int32.ofInt).getD 139 0)) ∈ flatC g1 := List.mem_of_getElem? (i := 213) rfl
theorem st_s140 : Cond.eq (.elem (.field (.string RX4 86) RJ0 "value" "[B") (.int (Int32.ofNat 140))) (.int ((wordsB.map Int32.ofInt).getD 140 0)) ∈ flatC g1 := List.mem_of_getElem? (i := 214) rfl
theorem st_s141 : Cond.eq (.elem (.field (.string RX4 86) RJ0 "value" "[B") (.int (Int32.ofNat 141))) (.int ((wordsB.map Int32.ofInt).getD 141 0)) ∈ flatC g1 := List.mem_of_getElem? (i := 215) rfl
theorem st_s142 : Cond.eq (.elem (.field (.string RX4 86) RJ0 "value" "[B") (.int (Int32.ofNat 142))) (.int ((wordsB.map Int32.ofInt).getD 142 0)) ∈ flatC g1 := List.mem_of_getElem? (i := 216) rfl
theorem st_s143 : Cond.eq (.elem (.field (.string RX4 86) RJ0 "value" "[B") (.int (Int32.ofNat 143))) (.int ((wordsB.map Int32.ofInt).getD 143 0)) ∈ flatC g1 := List.mem_of_getElem? (i := 217) rfl
theorem st_s144 : Cond.eq (.elem (.field (.string RX4 86) RJ0 "value" "[B") (.int (Int32.ofNat 144))) (.int ((wordsB.map Int32.ofInt).getD 144 0)) ∈ flatC g1 := List.mem_of_getElem? (i := 218) rfl
theorem st_s145 : Cond.eq (.elem (.field (.string RX4 86) RJ0 "value" "[B") (.int (Int32.ofNat 145))) (.int ((wordsB.map Int32.ofInt).getD 145 0)) ∈ flatC g1 := List.mem_of_getElem? (i := 219) rfl
theorem st_s146 : Cond.eq (.elem (.field (.string RX4 86) RJ0 "value" "[B") (.int (Int32.ofNat 146))) (.int ((wordsB.map Int32.ofInt).getD 146 0)) ∈ flatC g1 := List.mem_of_getElem? (i := 220) rfl
theorem st_s147 : Cond.eq (.elem (.field (.string RX4 86) RJ0 "value" "[B") (.int (Int32.ofNat 147))) (.int ((wordsB.map Int32.ofInt).getD 147 0)) ∈ flatC g1 := List.mem_of_getElem? (i := 221) rfl
theorem st_strE : ∀ j, j < 148 → Cond.eq (.elem (.field (.string RX4 86) RJ0 "value" "[B") (.int (Int32.ofNat j))) (.int ((wordsB.map Int32.ofInt).getD j 0)) ∈ flatC g1 := by
  intro j hj
  match j, hj with
  | 0, _ => exact st_s0
  | 1, _ => exact st_s1
  | 2, _ => exact st_s2
  | 3, _ => exact st_s3
  | 4, _ => exact st_s4
  | 5, _ => exact st_s5
  | 6, _ => exact st_s6
  | 7, _ => exact st_s7
  | 8, _ => exact st_s8
  | 9, _ => exact st_s9
  | 10, _ => exact st_s10
  | 11, _ => exact st_s11
  | 12, _ => exact st_s12
  | 13, _ => exact st_s13
  | 14, _ => exact st_s14
  | 15, _ => exact st_s15
  | 16, _ => exact st_s16
  | 17, _ => exact st_s17
  | 18, _ => exact st_s18
  | 19, _ => exact st_s19
  | 20, _ => exact st_s20
  | 21, _ => exact st_s21
  | 22, _ => exact st_s22
  | 23, _ => exact st_s23
  | 24, _ => exact st_s24
  | 25, _ => exact st_s25
  | 26, _ => exact st_s26
  | 27, _ => exact st_s27
  | 28, _ => exact st_s28
  | 29, _ => exact st_s29
  | 30, _ => exact st_s30
  | 31, _ => exact st_s31
  | 32, _ => exact st_s32
  | 33, _ => exact st_s33
  | 34, _ => exact st_s34
  | 35, _ => exact st_s35
  | 36, _ => exact st_s36
  | 37, _ => exact st_s37
  | 38, _ => exact st_s38
  | 39, _ => exact st_s39
  | 40, _ => exact st_s40
  | 41, _ => exact st_s41
  | 42, _ => exact st_s42
  | 43, _ => exact st_s43
  | 44, _ => exact st_s44
  | 45, _ => exact st_s45
  | 46, _ => exact st_s46
  | 47, _ => exact st_s47
  | 48, _ => exact st_s48
  | 49, _ => exact st_s49
  | 50, _ => exact st_s50
  | 51, _ => exact st_s51
  | 52, _ => exact st_s52
  | 53, _ => exact st_s53
  | 54, _ => exact st_s54
  | 55, _ => exact st_s55
  | 56, _ => exact st_s56
  | 57, _ => exact st_s57
  | 58, _ => exact st_s58
  | 59, _ => exact st_s59
  | 60, _ => exact st_s60
  | 61, _ => exact st_s61
  | 62, _ => exact st_s62
  | 63, _ => exact st_s63
  | 64, _ => exact st_s64
  | 65, _ => exact st_s65
  | 66, _ => exact st_s66
  | 67, _ => exact st_s67
  | 68, _ => exact st_s68
  | 69, _ => exact st_s69
  | 70, _ => exact st_s70
  | 71, _ => exact st_s71
  | 72, _ => exact st_s72
  | 73, _ => exact st_s73
  | 74, _ => exact st_s74
  | 75, _ => exact st_s75
  | 76, _ => exact st_s76
  | 77, _ => exact st_s77
  | 78, _ => exact st_s78
  | 79, _ => exact st_s79
  | 80, _ => exact st_s80
  | 81, _ => exact st_s81
  | 82, _ => exact st_s82
  | 83, _ => exact st_s83
  | 84, _ => exact st_s84
  | 85, _ => exact st_s85
  | 86, _ => exact st_s86
  | 87, _ => exact st_s87
  | 88, _ => exact st_s88
  | 89, _ => exact st_s89
  | 90, _ => exact st_s90
  | 91, _ => exact st_s91
  | 92, _ => exact st_s92
  | 93, _ => exact st_s93
  | 94, _ => exact st_s94
  | 95, _ => exact st_s95
  | 96, _ => exact st_s96
  | 97, _ => exact st_s97
  | 98, _ => exact st_s98
  | 99, _ => exact st_s99
  | 100, _ => exact st_s100
  | 101, _ => exact st_s101
  | 102, _ => exact st_s102
  | 103, _ => exact st_s103
  | 104, _ => exact st_s104
  | 105, _ => exact st_s105
  | 106, _ => exact st_s106
  | 107, _ => exact st_s107
  | 108, _ => exact st_s108
  | 109, _ => exact st_s109
  | 110, _ => exact st_s110
  | 111, _ => exact st_s111
  | 112, _ => exact st_s112
  | 113, _ => exact st_s113
  | 114, _ => exact st_s114
  | 115, _ => exact st_s115
  | 116, _ => exact st_s116
  | 117, _ => exact st_s117
  | 118, _ => exact st_s118
  | 119, _ => exact st_s119
  | 120, _ => exact st_s120
  | 121, _ => exact st_s121
  | 122, _ => exact st_s122
  | 123, _ => exact st_s123
  | 124, _ => exact st_s124
  | 125, _ => exact st_s125
  | 126, _ => exact st_s126
  | 127, _ => exact st_s127
  | 128, _ => exact st_s128
  | 129, _ => exact st_s129
  | 130, _ => exact st_s130
  | 131, _ => exact st_s131
  | 132, _ => exact st_s132
  | 133, _ => exact st_s133
  | 134, _ => exact st_s134
  | 135, _ => exact st_s135
  | 136, _ => exact st_s136
  | 137, _ => exact st_s137
  | 138, _ => exact st_s138
  | 139, _ => exact st_s139
  | 140, _ => exact st_s140
  | 141, _ => exact st_s141
  | 142, _ => exact st_s142
  | 143, _ => exact st_s143
  | 144, _ => exact st_s144
  | 145, _ => exact st_s145
  | 146, _ => exact st_s146
  | 147, _ => exact st_s147
  | j + 148, hj => exact absurd hj (by omega)
theorem wB_map (j : Nat) : (wordsB.map Int32.ofInt).getD j 0 = Int32.ofInt (wordsB.getD j 0) := by
  rw [List.getD_eq_getElem?_getD, List.getD_eq_getElem?_getD, List.getElem?_map]
  cases wordsB[j]? <;> rfl
theorem st_str {b : Nat} {s : State} (hts : ∀ w ∈ lw_tbl, w.before #[Value.ref b] s = true) (hs : ∀ c ∈ flatC g1, c.before #[Value.ref b] s = true) : ∃ t4 t5 : Nat, vk_R RX4 86 wordsT t4 s ∧ va_O RJ0 t4 (fun q => s.heap.size ≤ q) s s.heap ∧ va_OF RJ0 "coder" "B" (.int 0) t4 (fun q => s.heap.size ≤ q) s s.heap ∧ va_OF RJ0 "value" "[B" (.ref t5) t4 (fun q => s.heap.size ≤ q) s s.heap ∧ va_T .byte t5 148 (fun j => .int (Int32.ofInt (wordsB.getD j 0))) (fun q => s.heap.size ≤ q) s s.heap := by
  have hA : ∀ a : Nat, a < s.heap.size → ¬ s.heap.size ≤ a := fun a h h2 => by omega
  obtain ⟨adK, adV, hS, hE⟩ := vk_Sof (args := #[Value.ref b]) (s := s) (N := 1) (tm := fun _ => .string RX4 86) (len := [148]) (byt := [wordsB.map Int32.ofInt]) (A := fun q => s.heap.size ≤ q)
    (fun i hi => by rw [show i = 0 by omega]; decide) (fun i hi => hs (.exactly (.string RX4 86) "java/lang/String") (by decide +kernel)) (fun i hi => hs (.eq (.field (.string RX4 86) "java/lang/String" "coder" "B") (.int 0)) (by decide +kernel))
    (fun i hi => hs (.arrayOf (.field (.string RX4 86) "java/lang/String" "value" "[B") .byte) (by decide +kernel)) (fun i hi => by rw [show i = 0 by omega]; exact hs (.eq (.length (.field (.string RX4 86) "java/lang/String" "value" "[B")) (.int 148)) (by decide +kernel))
    (fun i hi j hj => by rw [show i = 0 by omega] at hj ⊢; exact hs _ (st_strE j hj)) (fun i j hi hj hij => absurd (show i = j by omega) hij) hA
  obtain ⟨h1, h2, h3, h4⟩ := hS.1 0 (by decide)
  have h4' : va_T .byte (adV 0) 148 (fun j => .int ((wordsB.map Int32.ofInt).getD j 0)) (fun q => s.heap.size ≤ q) s s.heap := h4
  simp only [wB_map] at h4'
  exact ⟨adK 0, adV 0, vk_R.of (hts _ (tbT_3 _ (List.mem_of_getElem? (i := 55) rfl))) (hE 0 (by decide)), h1, h2, h3, h4'⟩
theorem st_arr {b : Nat} {s : State} (ty : FieldType) (hty : ∀ C, ty ≠ .object C) (h : (Cond.arrayClass ty).before #[Value.ref b] s = true) : ∃ cA : ClassId, ArrOfT s cA ty ∧ va_RA s cA ty := by
  obtain ⟨cA, kA, comp, h1, h2, h3⟩ := Cond.arrayClass_spec h
  refine ⟨cA, fun n z => ⟨fun k h => (by cases h), kA, h2, comp, h3⟩, ?_⟩
  cases ty with
  | object C => exact absurd rfl (hty C)
  | _ => exact h1
theorem st_obj {b : Nat} {s : State} (C : String) (h : (Cond.arrayOver (.object C)).before #[Value.ref b] s = true) : ∃ cA : ClassId, ArrOfT s cA (.object C) ∧ va_RA s cA (.object C) := by
  obtain ⟨comp, cA, kA, h1, h2, h3, h4, h5⟩ := Cond.arrayOver_spec h
  exact ⟨cA, fun n z => ⟨fun k h => (by cases h), kA, h3, comp, h4⟩, kA, comp, h3, h4, h1, h5⟩
theorem start_world {b : Nat} {s : State} (hts : ∀ w ∈ lw_tbl, w.before #[Value.ref b] s = true) (hgv : g1.before #[Value.ref b] s = true) : ∃ ω : Wd, ω.1 = s.heap.size ∧ ω.2.2.2 7 = b ∧ va_K ω.2.1 vwCl (tys6 ω) s ∧ Stc ω s := by
  have hs := flat_of_before _ hgv
  have hgw := gwt_of hts
  have hA : ∀ a : Nat, a < s.heap.size → ¬ s.heap.size ≤ a := fun a h h2 => by omega
  have hcl : ∀ c : Nat, ∃ q : ClassId × (Nat → Nat), c < 11 → u_Kn s (clR c) (clT c) (nfs c) q.1 q.2 := by
    intro c
    by_cases hc : c < 11
    · obtain ⟨cC, iS, h⟩ := u_known hgw (cl_in c hc) (hts _ (cl_inst c hc))
      exact ⟨(cC, iS), fun _ => h⟩
    · exact ⟨(0, fun _ => 0), fun h => absurd h hc⟩
  obtain ⟨D, hD⟩ := Classical.axiomOfChoice hcl
  obtain ⟨c0, a0, r0⟩ := st_arr .int (by intro C h; cases h) (hts (.arrayClass .int) (tbT_1 _ (List.mem_of_getElem? (i := 84) rfl)))
  obtain ⟨c1, a1, r1⟩ := st_arr .long (by intro C h; cases h) (hts (.arrayClass .long) (tbT_2 _ (List.mem_of_getElem? (i := 67) rfl)))
  obtain ⟨c2, a2, r2⟩ := st_arr .boolean (by intro C h; cases h) (hts (.arrayClass .boolean) (tbT_2 _ (List.mem_of_getElem? (i := 66) rfl)))
  have w7 := hts (.arrayOver (.object RX7)) (tbT_1 _ (List.mem_of_getElem? (i := 85) rfl))
  have w1 := hts (.arrayOver (.object RX1)) (tbT_1 _ (List.mem_of_getElem? (i := 208) rfl))
  have w2 := hts (.arrayOver (.object RX2)) (tbT_2 _ (List.mem_of_getElem? (i := 69) rfl))
  obtain ⟨c3, a3, r3⟩ := st_obj RX7 w7
  obtain ⟨c4, a4, r4⟩ := st_obj RX1 w1
  obtain ⟨c5, a5, r5⟩ := st_obj RX2 w2
  obtain ⟨t0, z0, y0⟩ := st_0 hts hs
  obtain ⟨t1, z1, y1⟩ := st_1 hts hs
  obtain ⟨t2, z2, y2⟩ := st_2 hts hs
  obtain ⟨t3, z3, y3⟩ := st_3 hts hs
  obtain ⟨t4, t5, k1, k2, k3, k4, k5⟩ := st_str hts hs
  have kc : va_Z RJ0 "COMPACT_STRINGS" "Z" (.int 1) (fun q => s.heap.size ≤ q) s s.heap := va_Zof (hts _ (tbT_3 _ (List.mem_of_getElem? (i := 65) rfl))) (hts _ (tbT_1 _ (List.mem_of_getElem? (i := 12) rfl))) (va_eqi (hs (.eq (.static RJ0 "COMPACT_STRINGS" "Z") (.int 1)) (by decide +kernel))) hA
  have kq : va_Zq RJ3 "SIOOBE_FORMATTER" "Ljava/util/function/BiFunction;" (fun q => s.heap.size ≤ q) s s.heap := va_Zqof (hts _ (tbT_3 _ (List.mem_of_getElem? (i := 81) rfl))) (hts _ (tbT_1 _ (List.mem_of_getElem? (i := 14) rfl))) (hs (.isRef (.static RJ3 "SIOOBE_FORMATTER" "Ljava/util/function/BiFunction;")) (by decide +kernel)) hA
  have kf : ∃ t6 : Nat, va_Z RJ3 "SIOOBE_FORMATTER" "Ljava/util/function/BiFunction;" .null (fun q => s.heap.size ≤ q) s s.heap ∨ va_Z RJ3 "SIOOBE_FORMATTER" "Ljava/util/function/BiFunction;" (.ref t6) (fun q => s.heap.size ≤ q) s s.heap := by
    rcases kq with h | ⟨t, h⟩
    · exact ⟨0, Or.inl h⟩
    · exact ⟨t, Or.inr h⟩
  obtain ⟨t6, kf⟩ := kf
  refine ⟨(s.heap.size, (fun c => (D c).1, fun c => (D c).2), (fun k => match k with | 0 => c0 | 1 => c1 | 2 => c2 | 3 => c3 | 4 => c4 | _ => c5), (fun k => match k with | 0 => t0 | 1 => t1 | 2 => t2 | 3 => t3 | 4 => t4 | 5 => t5 | 6 => t6 | _ => b)), rfl, rfl, ⟨fun c q hq => ?_, fun k q hk => ?_⟩, fun i hi => ?_, ⟨k1, k2, k3, k4, k5, kc, kf⟩, ⟨fun w hw => ?_, fun w hw => ?_⟩, va_AO.of w7, va_AO.of w1, va_AO.of w2⟩
  · have hc : c < 11 := (List.getElem?_eq_some_iff.mp hq).1
    rw [cl_at hc] at hq
    cases hq
    exact hD c hc
  · match k, hk with
    | 0, hk => cases hk; exact ⟨a0, r0⟩
    | 1, hk => cases hk; exact ⟨a1, r1⟩
    | 2, hk => cases hk; exact ⟨a2, r2⟩
    | 3, hk => cases hk; exact ⟨a3, r3⟩
    | 4, hk => cases hk; exact ⟨a4, r4⟩
    | 5, hk => cases hk; exact ⟨a5, r5⟩
  · match i, hi with
    | 0, _ => exact ⟨z0, y0⟩
    | 1, _ => exact ⟨z1, y1⟩
    | 2, _ => exact ⟨z2, y2⟩
    | 3, _ => exact ⟨z3, y3⟩
  · simp only [nstM, List.mem_cons, List.not_mem_nil, or_false] at hw
    rcases hw with rfl | rfl | rfl | rfl | rfl | rfl
    · exact va_Nw.of rfl (hts _ (tbT_1 _ (List.mem_of_getElem? (i := 29) rfl)))
    · exact va_Nw.of rfl (hts _ (tbT_1 _ (List.mem_of_getElem? (i := 88) rfl)))
    · exact va_Nw.of rfl (hts _ (tbT_1 _ (List.mem_of_getElem? (i := 203) rfl)))
    · exact va_Nw.of rfl (hts _ (tbT_1 _ (List.mem_of_getElem? (i := 225) rfl)))
    · exact va_Nw.of rfl (hts _ (tbT_5 _ (List.mem_of_getElem? (i := 26) rfl)))
    · exact va_Nw.of rfl (hts _ (tbT_5 _ (List.mem_of_getElem? (i := 31) rfl)))
  · simp only [nstF, List.mem_cons, List.not_mem_nil, or_false] at hw
    rcases hw with rfl | rfl
    · exact va_Nw.of rfl (hts _ (tbT_2 _ (List.mem_of_getElem? (i := 207) rfl)))
    · exact va_Nw.of rfl (hts _ (tbT_2 _ (List.mem_of_getElem? (i := 209) rfl)))
def K00 : Kt := (fun _ _ => none, fun _ => (0, 0), 0, 0)
def s00 : Sg := fun _ _ => 0
/-- WHAT IS LEFT TO PROVE: the pure law answers 1, within the room -/
def PureAll : Prop := ∀ (Ls : Nat) (xs : Nat → Int), Ls ≤ 3072 → (∀ j, in32 (xs j)) → ∃ (K : Kt) (σ : Sg), vL_law Ls xs K00 s00 = some (1, K, σ) ∧ K.2.2.1 ≤ 600000 ∧ K.2.2.2 ≤ 7302250
