abbrev ML_law (nm : String) : Mt := (⟨RL, nm, "([I)Z"⟩, cL_law, 4, (some .boolean), 112)
/-- the law's own script, at the known old cell 7 -/
def ScrAt (Γ : Gx) (Ls : Nat) (xs : Nat → Int) : Prop := match Γ with
  | (_, _, _, s, _, _, _, _, _, ω) => va_X (ω.2.2.2 7) Ls (fun j => Int32.ofInt (xs j)) s s.heap ∧ ω.2.2.2 7 < s.heap.size ∧ ¬ ω.1 ≤ ω.2.2.2 7 ∧ (∀ j, in32 (xs j)) ∧ Ls < 2147483648
section YL
variable {α : Type} {Γ : Gx} {M : Mt} {K0 K : Kt} {em : α → Out} {pc : Nat} {L : List (Option AV)} {S : List AV} {σ : Sg} {v : Option α}
theorem y_sld {Ls : Nat} {xs : Nat → Int} {i : Int} (hX : ScrAt Γ Ls xs) (hi : 0 ≤ i ∧ i < (Ls : Int)) (hd : decode M.2.1 pc = .ok (.iaload, 1)) (k : Y Γ M K0 em K (pc + 1) L (aI (xs i.toNat) :: S) σ v) : Y Γ M K0 em K pc L (aI i :: aT 7 :: S) σ v := by
  have hin : ∀ j, in32 (xs j) := by obtain ⟨p, l, e, s, m, args, below, meth, c0, ω⟩ := Γ; exact hX.2.2.2.1
  refine y_st k (fun oL oK h => okS_c.mpr ⟨hin _, (okS_c.mp (okS_c.mp h).2).2⟩) (fun out hB oS => ?_)
  obtain ⟨p, l, e, s, m, args, below, meth, c0, ω⟩ := Γ
  intro H locs ls cells slots Q hL oL oK hP hS w
  obtain ⟨oi, -⟩ := okS_c.mp oS
  refine va_sld hB.1 hB.2.1 hX.1 hX.2.1 hX.2.2.1 hS (n32_in oi hi.1 hi.2) hd ?_
  rw [n32_cl oi]
  exact w
theorem y_slen {Ls : Nat} {xs : Nat → Int} (hX : ScrAt Γ Ls xs) (hd : decode M.2.1 pc = .ok (.arraylength, 1)) (k : Y Γ M K0 em K (pc + 1) L (aI (Ls : Int) :: S) σ v) : Y Γ M K0 em K pc L (aT 7 :: S) σ v := by
  have hin : Ls < 2147483648 := by obtain ⟨p, l, e, s, m, args, below, meth, c0, ω⟩ := Γ; exact hX.2.2.2.2
  refine y_st k (fun oL oK h => okS_c.mpr ⟨by show in32 (Ls : Int); constructor <;> omega, (okS_c.mp h).2⟩) (fun out hB oS => ?_)
  obtain ⟨p, l, e, s, m, args, below, meth, c0, ω⟩ := Γ
  intro H locs ls cells slots Q hL oL oK hP hS w
  refine va_slen hB.1 hB.2.1 hX.1 hX.2.1 hX.2.2.1 hS hd ?_
  have e1 : Int32.ofNat Ls = Int32.ofInt (Ls : Int) := Int32.ofInt_eq_ofNat.symm
  rw [e1]
  exact w
end YL
theorem nL_7 : NWd RL 7 9 := ⟨gwt_mem (tbT_1 _ (List.mem_of_getElem? (i := 19) rfl)) rfl, gwt_mem (tbT_1 _ (List.mem_of_getElem? (i := 20) rfl)) rfl, gwt_mem (tbT_1 _ (List.mem_of_getElem? (i := 1) rfl)) rfl⟩
theorem nL_10 : NWd RL 10 10 := ⟨gwt_mem (tbT_5 _ (List.mem_of_getElem? (i := 63) rfl)) rfl, gwt_mem (tbT_5 _ (List.mem_of_getElem? (i := 64) rfl)) rfl, gwt_mem (tbT_1 _ (List.mem_of_getElem? (i := 11) rfl)) rfl⟩
theorem iL_9 : CI RL 9 0 MX9_init := ⟨bX9_init.1, gwt_mem (tbT_1 _ (List.mem_of_getElem? (i := 21) rfl)) rfl, bX9_init.2, rfl, rfl⟩
theorem iL_12 : CI RL 12 0 MX10_init := ⟨bX10_init.1, gwt_mem (tbT_5 _ (List.mem_of_getElem? (i := 65) rfl)) rfl, bX10_init.2, rfl, rfl⟩
theorem kL_13 : CV RL 13 4 9 MX9_book := ⟨bX9_book.1, gwt_mem (tbT_2 _ (List.mem_of_getElem? (i := 116) rfl)) rfl, bX9_book.2.1, bX9_book.2.2, by decide⟩
theorem kL_17 : CV RL 17 4 10 MX10_book := ⟨bX10_book.1, gwt_mem (tbT_6 _ (List.mem_of_getElem? (i := 52) rfl)) rfl, bX10_book.2.1, bX10_book.2.2, by decide⟩
theorem kL_18 : CV RL 18 2 9 MX9_of := ⟨bX9_of.1, gwt_mem (tbT_2 _ (List.mem_of_getElem? (i := 142) rfl)) rfl, bX9_of.2.1, bX9_of.2.2, by decide⟩
theorem kL_22 : CV RL 22 2 10 MX10_of := ⟨bX10_of.1, gwt_mem (tbT_6 _ (List.mem_of_getElem? (i := 63) rfl)) rfl, bX10_of.2.1, bX10_of.2.2, by decide⟩
theorem kL_23 : CV RL 23 2 9 MX9_reader := ⟨bX9_reader.1, gwt_mem (tbT_2 _ (List.mem_of_getElem? (i := 154) rfl)) rfl, bX9_reader.2.1, bX9_reader.2.2, by decide⟩
theorem kL_26 : CV RL 26 2 10 MX10_reader := ⟨bX10_reader.1, gwt_mem (tbT_6 _ (List.mem_of_getElem? (i := 75) rfl)) rfl, bX10_reader.2.1, bX10_reader.2.2, by decide⟩
theorem kL_27 : CV RL 27 2 9 MX9_at := ⟨bX9_at.1, gwt_mem (tbT_2 _ (List.mem_of_getElem? (i := 162) rfl)) rfl, bX9_at.2.1, bX9_at.2.2, by decide⟩
theorem kL_30 : CV RL 30 2 10 MX10_at := ⟨bX10_at.1, gwt_mem (tbT_6 _ (List.mem_of_getElem? (i := 79) rfl)) rfl, bX10_at.2.1, bX10_at.2.2, by decide⟩
theorem kL_31 : CV RL 31 3 9 MX9_asks := ⟨bX9_asks.1, gwt_mem (tbT_2 _ (List.mem_of_getElem? (i := 170) rfl)) rfl, bX9_asks.2.1, bX9_asks.2.2, by decide⟩
theorem kL_35 : CV RL 35 3 10 MX10_asks := ⟨bX10_asks.1, gwt_mem (tbT_7 _ (List.mem_of_getElem? (i := 9) rfl)) rfl, bX10_asks.2.1, bX10_asks.2.2, by decide⟩
theorem kL_36 : CV RL 36 2 9 MX9_terms := ⟨bX9_terms.1, gwt_mem (tbT_3 _ (List.mem_of_getElem? (i := 4) rfl)) rfl, bX9_terms.2.1, bX9_terms.2.2, by decide⟩
theorem kL_39 : CV RL 39 2 10 MX10_terms := ⟨bX10_terms.1, gwt_mem (tbT_6 _ (List.mem_of_getElem? (i := 87) rfl)) rfl, bX10_terms.2.1, bX10_terms.2.2, by decide⟩
theorem kL_40 : CV RL 40 5 9 MX9_feed := ⟨bX9_feed.1, gwt_mem (tbT_3 _ (List.mem_of_getElem? (i := 12) rfl)) rfl, bX9_feed.2.1, bX9_feed.2.2, by decide⟩
theorem kL_44 : CV RL 44 5 10 MX10_feed := ⟨bX10_feed.1, gwt_mem (tbT_6 _ (List.mem_of_getElem? (i := 105) rfl)) rfl, bX10_feed.2.1, bX10_feed.2.2, by decide⟩
theorem kL_45 : CV RL 45 1 9 MX9_end := ⟨bX9_end.1, gwt_mem (tbT_3 _ (List.mem_of_getElem? (i := 20) rfl)) rfl, bX9_end.2.1, bX9_end.2.2, by decide⟩
theorem kL_49 : CV RL 49 1 10 MX10_end := ⟨bX10_end.1, gwt_mem (tbT_6 _ (List.mem_of_getElem? (i := 113) rfl)) rfl, bX10_end.2.1, bX10_end.2.2, by decide⟩
theorem kL_50 : CV RL 50 0 9 MX9_row := ⟨bX9_row.1, gwt_mem (tbT_3 _ (List.mem_of_getElem? (i := 24) rfl)) rfl, bX9_row.2.1, bX9_row.2.2, by decide⟩
theorem kL_54 : CV RL 54 0 10 MX10_row := ⟨bX10_row.1, gwt_mem (tbT_6 _ (List.mem_of_getElem? (i := 97) rfl)) rfl, bX10_row.2.1, bX10_row.2.2, by decide⟩
theorem kL_55 : CV RL 55 0 9 MX9_slips := ⟨bX9_slips.1, gwt_mem (tbT_3 _ (List.mem_of_getElem? (i := 32) rfl)) rfl, bX9_slips.2.1, bX9_slips.2.2, by decide⟩
theorem kL_58 : CV RL 58 0 10 MX10_slips := ⟨bX10_slips.1, gwt_mem (tbT_6 _ (List.mem_of_getElem? (i := 101) rfl)) rfl, bX10_slips.2.1, bX10_slips.2.2, by decide⟩
theorem kL_59 : CV RL 59 0 9 MX9_law := ⟨bX9_law.1, gwt_mem (tbT_3 _ (List.mem_of_getElem? (i := 36) rfl)) rfl, bX9_law.2.1, bX9_law.2.2, by decide⟩
theorem kL_62 : CV RL 62 0 10 MX10_law := ⟨bX10_law.1, gwt_mem (tbT_6 _ (List.mem_of_getElem? (i := 121) rfl)) rfl, bX10_law.2.1, bX10_law.2.2, by decide⟩
theorem kL_63 : CV RL 63 0 9 MX9_orders := ⟨bX9_orders.1, gwt_mem (tbT_3 _ (List.mem_of_getElem? (i := 214) rfl)) rfl, bX9_orders.2.1, bX9_orders.2.2, by decide⟩
theorem kL_66 : CV RL 66 0 10 MX10_orders := ⟨bX10_orders.1, gwt_mem (tbT_7 _ (List.mem_of_getElem? (i := 223) rfl)) rfl, bX10_orders.2.1, bX10_orders.2.2, by decide⟩
theorem kL_67 : CV RL 67 0 9 MX9_fault := ⟨bX9_fault.1, gwt_mem (tbT_4 _ (List.mem_of_getElem? (i := 54) rfl)) rfl, bX9_fault.2.1, bX9_fault.2.2, by decide⟩
theorem kL_70 : CV RL 70 0 10 MX10_fault := ⟨bX10_fault.1, gwt_mem (tbT_6 _ (List.mem_of_getElem? (i := 117) rfl)) rfl, bX10_fault.2.1, bX10_fault.2.2, by decide⟩
theorem kL_71 : CV RL 71 0 9 MX9_stopped := ⟨bX9_stopped.1, gwt_mem (tbT_4 _ (List.mem_of_getElem? (i := 58) rfl)) rfl, bX9_stopped.2.1, bX9_stopped.2.2, by decide⟩
theorem kL_74 : CV RL 74 0 10 MX10_stopped := ⟨bX10_stopped.1, gwt_mem (tbT_8 _ (List.mem_of_getElem? (i := 14) rfl)) rfl, bX10_stopped.2.1, bX10_stopped.2.2, by decide⟩
theorem kL_75 : CV RL 75 1 9 MX9_force := ⟨bX9_force.1, gwt_mem (tbT_4 _ (List.mem_of_getElem? (i := 62) rfl)) rfl, bX9_force.2.1, bX9_force.2.2, by decide⟩
theorem kL_78 : CV RL 78 1 10 MX10_force := ⟨bX10_force.1, gwt_mem (tbT_7 _ (List.mem_of_getElem? (i := 1) rfl)) rfl, bX10_force.2.1, bX10_force.2.2, by decide⟩
theorem kL_79 : CV RL 79 2 9 MX9_lend := ⟨bX9_lend.1, gwt_mem (tbT_4 _ (List.mem_of_getElem? (i := 67) rfl)) rfl, bX9_lend.2.1, bX9_lend.2.2, by decide⟩
theorem kL_82 : CV RL 82 2 10 MX10_lend := ⟨bX10_lend.1, gwt_mem (tbT_7 _ (List.mem_of_getElem? (i := 70) rfl)) rfl, bX10_lend.2.1, bX10_lend.2.2, by decide⟩
theorem kL_83 : CV RL 83 1 9 MX9_bring := ⟨bX9_bring.1, gwt_mem (tbT_4 _ (List.mem_of_getElem? (i := 75) rfl)) rfl, bX9_bring.2.1, bX9_bring.2.2, by decide⟩
theorem kL_86 : CV RL 86 1 10 MX10_bring := ⟨bX10_bring.1, gwt_mem (tbT_7 _ (List.mem_of_getElem? (i := 106) rfl)) rfl, bX10_bring.2.1, bX10_bring.2.2, by decide⟩
theorem kL_87 : CV RL 87 2 9 MX9_waits := ⟨bX9_waits.1, gwt_mem (tbT_4 _ (List.mem_of_getElem? (i := 79) rfl)) rfl, bX9_waits.2.1, bX9_waits.2.2, by decide⟩
theorem kL_90 : CV RL 90 2 10 MX10_waits := ⟨bX10_waits.1, gwt_mem (tbT_7 _ (List.mem_of_getElem? (i := 114) rfl)) rfl, bX10_waits.2.1, bX10_waits.2.2, by decide⟩
theorem kL_91 : CV RL 91 0 9 MX9_pass := ⟨bX9_pass.1, gwt_mem (tbT_4 _ (List.mem_of_getElem? (i := 83) rfl)) rfl, bX9_pass.2.1, bX9_pass.2.2, by decide⟩
theorem kL_94 : CV RL 94 0 10 MX10_pass := ⟨bX10_pass.1, gwt_mem (tbT_7 _ (List.mem_of_getElem? (i := 122) rfl)) rfl, bX10_pass.2.1, bX10_pass.2.2, by decide⟩
theorem kL_95 : CV RL 95 0 9 MX9_undo := ⟨bX9_undo.1, gwt_mem (tbT_4 _ (List.mem_of_getElem? (i := 87) rfl)) rfl, bX9_undo.2.1, bX9_undo.2.2, by decide⟩
theorem kL_98 : CV RL 98 0 10 MX10_undo := ⟨bX10_undo.1, gwt_mem (tbT_6 _ (List.mem_of_getElem? (i := 25) rfl)) rfl, bX10_undo.2.1, bX10_undo.2.2, by decide⟩
theorem kL_99 : CV RL 99 1 9 MX9_served := ⟨bX9_served.1, gwt_mem (tbT_4 _ (List.mem_of_getElem? (i := 95) rfl)) rfl, bX9_served.2.1, bX9_served.2.2, by decide⟩
theorem kL_102 : CV RL 102 1 10 MX10_served := ⟨bX10_served.1, gwt_mem (tbT_7 _ (List.mem_of_getElem? (i := 134) rfl)) rfl, bX10_served.2.1, bX10_served.2.2, by decide⟩
theorem kL_103 : CV RL 103 1 9 MX9_turn := ⟨bX9_turn.1, gwt_mem (tbT_4 _ (List.mem_of_getElem? (i := 123) rfl)) rfl, bX9_turn.2.1, bX9_turn.2.2, by decide⟩
theorem kL_106 : CV RL 106 1 10 MX10_turn := ⟨bX10_turn.1, gwt_mem (tbT_7 _ (List.mem_of_getElem? (i := 146) rfl)) rfl, bX10_turn.2.1, bX10_turn.2.2, by decide⟩
theorem kL_107 : CV RL 107 3 9 MX9_way := ⟨bX9_way.1, gwt_mem (tbT_4 _ (List.mem_of_getElem? (i := 132) rfl)) rfl, bX9_way.2.1, bX9_way.2.2, by decide⟩
theorem kL_110 : CV RL 110 3 10 MX10_way := ⟨bX10_way.1, gwt_mem (tbT_7 _ (List.mem_of_getElem? (i := 150) rfl)) rfl, bX10_way.2.1, bX10_way.2.2, by decide⟩
theorem kL_111 : CV RL 111 3 9 MX9_sets := ⟨bX9_sets.1, gwt_mem (tbT_4 _ (List.mem_of_getElem? (i := 154) rfl)) rfl, bX9_sets.2.1, bX9_sets.2.2, by decide⟩
theorem kL_114 : CV RL 114 3 10 MX10_sets := ⟨bX10_sets.1, gwt_mem (tbT_7 _ (List.mem_of_getElem? (i := 163) rfl)) rfl, bX10_sets.2.1, bX10_sets.2.2, by decide⟩
theorem kL_115 : CV RL 115 3 9 MX9_ask := ⟨bX9_ask.1, gwt_mem (tbT_4 _ (List.mem_of_getElem? (i := 170) rfl)) rfl, bX9_ask.2.1, bX9_ask.2.2, by decide⟩
theorem kL_118 : CV RL 118 3 10 MX10_ask := ⟨bX10_ask.1, gwt_mem (tbT_7 _ (List.mem_of_getElem? (i := 182) rfl)) rfl, bX10_ask.2.1, bX10_ask.2.2, by decide⟩
theorem kL_119 : CV RL 119 2 9 MX9_last := ⟨bX9_last.1, gwt_mem (tbT_4 _ (List.mem_of_getElem? (i := 183) rfl)) rfl, bX9_last.2.1, bX9_last.2.2, by decide⟩
theorem kL_122 : CV RL 122 2 10 MX10_last := ⟨bX10_last.1, gwt_mem (tbT_7 _ (List.mem_of_getElem? (i := 186) rfl)) rfl, bX10_last.2.1, bX10_last.2.2, by decide⟩
theorem kL_123 : CV RL 123 1 9 MX9_nest := ⟨bX9_nest.1, gwt_mem (tbT_4 _ (List.mem_of_getElem? (i := 191) rfl)) rfl, bX9_nest.2.1, bX9_nest.2.2, by decide⟩
theorem kL_126 : CV RL 126 1 10 MX10_nest := ⟨bX10_nest.1, gwt_mem (tbT_7 _ (List.mem_of_getElem? (i := 190) rfl)) rfl, bX10_nest.2.1, bX10_nest.2.2, by decide⟩
theorem kL_127 : CV RL 127 1 9 MX9_all := ⟨bX9_all.1, gwt_mem (tbT_4 _ (List.mem_of_getElem? (i := 215) rfl)) rfl, bX9_all.2.1, bX9_all.2.2, by decide⟩
theorem kL_130 : CV RL 130 1 10 MX10_all := ⟨bX10_all.1, gwt_mem (tbT_7 _ (List.mem_of_getElem? (i := 202) rfl)) rfl, bX10_all.2.1, bX10_all.2.2, by decide⟩
theorem kL_131 : CV RL 131 1 9 MX9_owed := ⟨bX9_owed.1, gwt_mem (tbT_4 _ (List.mem_of_getElem? (i := 228) rfl)) rfl, bX9_owed.2.1, bX9_owed.2.2, by decide⟩
theorem kL_134 : CV RL 134 1 10 MX10_owed := ⟨bX10_owed.1, gwt_mem (tbT_7 _ (List.mem_of_getElem? (i := 213) rfl)) rfl, bX10_owed.2.1, bX10_owed.2.2, by decide⟩
theorem kL_135 : CV RL 135 2 9 MX9_whole := ⟨bX9_whole.1, gwt_mem (tbT_4 _ (List.mem_of_getElem? (i := 233) rfl)) rfl, bX9_whole.2.1, bX9_whole.2.2, by decide⟩
theorem kL_139 : CV RL 139 2 10 MX10_whole := ⟨bX10_whole.1, gwt_mem (tbT_7 _ (List.mem_of_getElem? (i := 217) rfl)) rfl, bX10_whole.2.1, bX10_whole.2.2, by decide⟩
theorem kL_140 : CV RL 140 2 9 MX9_years := ⟨bX9_years.1, gwt_mem (tbT_5 _ (List.mem_of_getElem? (i := 4) rfl)) rfl, bX9_years.2.1, bX9_years.2.2, by decide⟩
theorem kL_143 : CV RL 143 2 10 MX10_years := ⟨bX10_years.1, gwt_mem (tbT_8 _ (List.mem_of_getElem? (i := 18) rfl)) rfl, bX10_years.2.1, bX10_years.2.2, by decide⟩
theorem kL_144 : CV RL 144 2 9 MX9_drawn := ⟨bX9_drawn.1, gwt_mem (tbT_5 _ (List.mem_of_getElem? (i := 17) rfl)) rfl, bX9_drawn.2.1, bX9_drawn.2.2, by decide⟩
theorem kL_147 : CV RL 147 2 10 MX10_drawn := ⟨bX10_drawn.1, gwt_mem (tbT_8 _ (List.mem_of_getElem? (i := 30) rfl)) rfl, bX10_drawn.2.1, bX10_drawn.2.2, by decide⟩
theorem kL_148 : CV RL 148 1 9 MX9_image := ⟨bX9_image.1, gwt_mem (tbT_5 _ (List.mem_of_getElem? (i := 21) rfl)) rfl, bX9_image.2.1, bX9_image.2.2, by decide⟩
theorem kL_151 : CV RL 151 1 10 MX10_image := ⟨bX10_image.1, gwt_mem (tbT_6 _ (List.mem_of_getElem? (i := 37) rfl)) rfl, bX10_image.2.1, bX10_image.2.2, by decide⟩
theorem kL_152 : CV RL 152 1 9 MX9_back := ⟨bX9_back.1, gwt_mem (tbT_5 _ (List.mem_of_getElem? (i := 47) rfl)) rfl, bX9_back.2.1, bX9_back.2.2, by decide⟩
theorem kL_155 : CV RL 155 1 10 MX10_back := ⟨bX10_back.1, gwt_mem (tbT_6 _ (List.mem_of_getElem? (i := 44) rfl)) rfl, bX10_back.2.1, bX10_back.2.2, by decide⟩
theorem kL_156 : CV RL 156 1 9 MX9_count := ⟨bX9_count.1, gwt_mem (tbT_5 _ (List.mem_of_getElem? (i := 51) rfl)) rfl, bX9_count.2.1, bX9_count.2.2, by decide⟩
theorem kL_159 : CV RL 159 1 10 MX10_count := ⟨bX10_count.1, gwt_mem (tbT_8 _ (List.mem_of_getElem? (i := 35) rfl)) rfl, bX10_count.2.1, bX10_count.2.2, by decide⟩
theorem kL_160 : CV RL 160 0 9 MX9_status := ⟨bX9_status.1, gwt_mem (tbT_5 _ (List.mem_of_getElem? (i := 59) rfl)) rfl, bX9_status.2.1, bX9_status.2.2, by decide⟩
theorem kL_163 : CV RL 163 0 10 MX10_status := ⟨bX10_status.1, gwt_mem (tbT_8 _ (List.mem_of_getElem? (i := 45) rfl)) rfl, bX10_status.2.1, bX10_status.2.2, by decide⟩
