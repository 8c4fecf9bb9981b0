set_option maxRecDepth 100000 in
set_option maxHeartbeats 4000000 in
noncomputable def vL_law_18 (Ls : Nat) (xs : Nat → Int) : Nat → Nat → Nat → Int → Kt → Sg → Option (Int × Kt × Sg)
  | 0, _, _, _, _, _ => none
  | f + 1, x1, x2, x3, K, σ => ck (in32 ((Ls : Int) - 6)) (if ((Ls : Int) - 6) < x3 then (some (1, K, σ)) else (ck (0 ≤ x3 ∧ x3 < (Ls : Int)) (if (bAnd (xs x3.toNat) 63) = 0 then (ck (in32 (x3 + 1)) (ck (0 ≤ (x3 + 1) ∧ (x3 + 1) < (Ls : Int)) (ck (in32 (x3 + 2)) (ck (0 ≤ (x3 + 2) ∧ (x3 + 2) < (Ls : Int)) (ck (in32 (x3 + 3)) (ck (0 ≤ (x3 + 3) ∧ (x3 + 3) < (Ls : Int)) (ck (in32 (x3 + 4)) (ck (0 ≤ (x3 + 4) ∧ (x3 + 4) < (Ls : Int)) (ckP (cLay K ∧ x1 = 0) (ckP (IsC K x1 9) (bd2 (vX9_book K (xs (x3 + 1).toNat) (xs (x3 + 2).toNat) (xs (x3 + 3).toNat) (xs (x3 + 4).toNat) σ) (fun r4 σ5 => ck (in32 (x3 + 1)) (ck (0 ≤ (x3 + 1) ∧ (x3 + 1) < (Ls : Int)) (ck (in32 (x3 + 2)) (ck (0 ≤ (x3 + 2) ∧ (x3 + 2) < (Ls : Int)) (ck (in32 (x3 + 3)) (ck (0 ≤ (x3 + 3) ∧ (x3 + 3) < (Ls : Int)) (ck (in32 (x3 + 4)) (ck (0 ≤ (x3 + 4) ∧ (x3 + 4) < (Ls : Int)) (ckP (mLay K ∧ x2 = 84) (ckP (IsC K x2 10) (bd2 (vX10_book (xs (x3 + 1).toNat) (xs (x3 + 2).toNat) (xs (x3 + 3).toNat) (xs (x3 + 4).toNat) σ5) (fun r8 σ9 => if r4 = r8 then (ck (in32 (x3 + 6)) (vL_law_18 Ls xs f x1 x2 (x3 + 6) K σ9)) else (some (0, K, σ9))))))))))))))))))))))))) else (if (bAnd (xs x3.toNat) 63) = 1 then (ck (in32 (x3 + 1)) (ck (0 ≤ (x3 + 1) ∧ (x3 + 1) < (Ls : Int)) (ck (in32 (x3 + 2)) (ck (0 ≤ (x3 + 2) ∧ (x3 + 2) < (Ls : Int)) (ckP (cLay K ∧ x1 = 0) (ckP (IsC K x1 9) ((vX9_of K (xs (x3 + 1).toNat) (xs (x3 + 2).toNat) σ).bind (fun r13 => ck (in32 (x3 + 1)) (ck (0 ≤ (x3 + 1) ∧ (x3 + 1) < (Ls : Int)) (ck (in32 (x3 + 2)) (ck (0 ≤ (x3 + 2) ∧ (x3 + 2) < (Ls : Int)) (ckP (mLay K ∧ x2 = 84) (ckP (IsC K x2 10) (bd2 (vX10_of (xs (x3 + 1).toNat) (xs (x3 + 2).toNat) σ) (fun r16 σ17 => if r13 = r16 then (ck (in32 (x3 + 6)) (vL_law_18 Ls xs f x1 x2 (x3 + 6) K σ17)) else (some (0, K, σ17))))))))))))))))) else (if (bAnd (xs x3.toNat) 63) = 2 then (ck (in32 (x3 + 1)) (ck (0 ≤ (x3 + 1) ∧ (x3 + 1) < (Ls : Int)) (ck (in32 (x3 + 2)) (ck (0 ≤ (x3 + 2) ∧ (x3 + 2) < (Ls : Int)) (ckP (cLay K ∧ x1 = 0) (ckP (IsC K x1 9) (bd2 (vX9_reader K (xs (x3 + 1).toNat) (xs (x3 + 2).toNat) σ) (fun r21 σ22 => ck (in32 (x3 + 1)) (ck (0 ≤ (x3 + 1) ∧ (x3 + 1) < (Ls : Int)) (ck (in32 (x3 + 2)) (ck (0 ≤ (x3 + 2) ∧ (x3 + 2) < (Ls : Int)) (ckP (mLay K ∧ x2 = 84) (ckP (IsC K x2 10) (bd2 (vX10_reader (xs (x3 + 1).toNat) (xs (x3 + 2).toNat) σ22) (fun r25 σ26 => if r21 = r25 then (ck (in32 (x3 + 6)) (vL_law_18 Ls xs f x1 x2 (x3 + 6) K σ26)) else (some (0, K, σ26))))))))))))))))) else (if (bAnd (xs x3.toNat) 63) = 3 then (ck (in32 (x3 + 1)) (ck (0 ≤ (x3 + 1) ∧ (x3 + 1) < (Ls : Int)) (ck (in32 (x3 + 2)) (ck (0 ≤ (x3 + 2) ∧ (x3 + 2) < (Ls : Int)) (ckP (cLay K ∧ x1 = 0) (ckP (IsC K x1 9) ((vX9_at K (xs (x3 + 1).toNat) (xs (x3 + 2).toNat) σ).bind (fun r30 => ck (in32 (x3 + 1)) (ck (0 ≤ (x3 + 1) ∧ (x3 + 1) < (Ls : Int)) (ck (in32 (x3 + 2)) (ck (0 ≤ (x3 + 2) ∧ (x3 + 2) < (Ls : Int)) (ckP (mLay K ∧ x2 = 84) (ckP (IsC K x2 10) (bd2 (vX10_at (xs (x3 + 1).toNat) (xs (x3 + 2).toNat) σ) (fun r33 σ34 => if r30 = r33 then (ck (in32 (x3 + 6)) (vL_law_18 Ls xs f x1 x2 (x3 + 6) K σ34)) else (some (0, K, σ34))))))))))))))))) else (if (bAnd (xs x3.toNat) 63) = 4 then (ck (in32 (x3 + 1)) (ck (0 ≤ (x3 + 1) ∧ (x3 + 1) < (Ls : Int)) (ck (in32 (x3 + 2)) (ck (0 ≤ (x3 + 2) ∧ (x3 + 2) < (Ls : Int)) (ck (in32 (x3 + 3)) (ck (0 ≤ (x3 + 3) ∧ (x3 + 3) < (Ls : Int)) (ckP (cLay K ∧ x1 = 0) (ckP (IsC K x1 9) (bd2 (vX9_asks K (xs (x3 + 1).toNat) (xs (x3 + 2).toNat) (xs (x3 + 3).toNat) σ) (fun r38 σ39 => ck (in32 (x3 + 1)) (ck (0 ≤ (x3 + 1) ∧ (x3 + 1) < (Ls : Int)) (ck (in32 (x3 + 2)) (ck (0 ≤ (x3 + 2) ∧ (x3 + 2) < (Ls : Int)) (ck (in32 (x3 + 3)) (ck (0 ≤ (x3 + 3) ∧ (x3 + 3) < (Ls : Int)) (ckP (mLay K ∧ x2 = 84) (ckP (IsC K x2 10) (bd2 (vX10_asks (xs (x3 + 1).toNat) (xs (x3 + 2).toNat) (xs (x3 + 3).toNat) σ39) (fun r42 σ43 => if r38 = r42 then (ck (in32 (x3 + 6)) (vL_law_18 Ls xs f x1 x2 (x3 + 6) K σ43)) else (some (0, K, σ43))))))))))))))))))))) else (if (bAnd (xs x3.toNat) 63) = 5 then (ck (in32 (x3 + 1)) (ck (0 ≤ (x3 + 1) ∧ (x3 + 1) < (Ls : Int)) (ck (in32 (x3 + 2)) (ck (0 ≤ (x3 + 2) ∧ (x3 + 2) < (Ls : Int)) (ckP (cLay K ∧ x1 = 0) (ckP (IsC K x1 9) (bd2 (vX9_terms K (xs (x3 + 1).toNat) (xs (x3 + 2).toNat) σ) (fun r47 σ48 => ck (in32 (x3 + 1)) (ck (0 ≤ (x3 + 1) ∧ (x3 + 1) < (Ls : Int)) (ck (in32 (x3 + 2)) (ck (0 ≤ (x3 + 2) ∧ (x3 + 2) < (Ls : Int)) (ckP (mLay K ∧ x2 = 84) (ckP (IsC K x2 10) (bd2 (vX10_terms (xs (x3 + 1).toNat) (xs (x3 + 2).toNat) σ48) (fun r51 σ52 => if r47 = r51 then (ck (in32 (x3 + 6)) (vL_law_18 Ls xs f x1 x2 (x3 + 6) K σ52)) else (some (0, K, σ52))))))))))))))))) else (if (bAnd (xs x3.toNat) 63) = 6 then (ck (in32 (x3 + 1)) (ck (0 ≤ (x3 + 1) ∧ (x3 + 1) < (Ls : Int)) (ck (in32 (x3 + 2)) (ck (0 ≤ (x3 + 2) ∧ (x3 + 2) < (Ls : Int)) (ck (in32 (x3 + 3)) (ck (0 ≤ (x3 + 3) ∧ (x3 + 3) < (Ls : Int)) (ck (in32 (x3 + 4)) (ck (0 ≤ (x3 + 4) ∧ (x3 + 4) < (Ls : Int)) (ck (in32 (x3 + 5)) (ck (0 ≤ (x3 + 5) ∧ (x3 + 5) < (Ls : Int)) (ckP (cLay K ∧ x1 = 0) (ckP (IsC K x1 9) (bd2 (vX9_feed K (xs (x3 + 1).toNat) (xs (x3 + 2).toNat) (xs (x3 + 3).toNat) (xs (x3 + 4).toNat) (xs (x3 + 5).toNat) σ) (fun r56 σ57 => ck (in32 (x3 + 1)) (ck (0 ≤ (x3 + 1) ∧ (x3 + 1) < (Ls : Int)) (ck (in32 (x3 + 2)) (ck (0 ≤ (x3 + 2) ∧ (x3 + 2) < (Ls : Int)) (ck (in32 (x3 + 3)) (ck (0 ≤ (x3 + 3) ∧ (x3 + 3) < (Ls : Int)) (ck (in32 (x3 + 4)) (ck (0 ≤ (x3 + 4) ∧ (x3 + 4) < (Ls : Int)) (ck (in32 (x3 + 5)) (ck (0 ≤ (x3 + 5) ∧ (x3 + 5) < (Ls : Int)) (ckP (mLay K ∧ x2 = 84) (ckP (IsC K x2 10) (bd2 (vX10_feed (xs (x3 + 1).toNat) (xs (x3 + 2).toNat) (xs (x3 + 3).toNat) (xs (x3 + 4).toNat) (xs (x3 + 5).toNat) σ57) (fun r60 σ61 => if r56 = r60 then (ck (in32 (x3 + 6)) (vL_law_18 Ls xs f x1 x2 (x3 + 6) K σ61)) else (some (0, K, σ61))))))))))))))))))))))))))))) else (if (bAnd (xs x3.toNat) 63) = 7 then (ck (in32 (x3 + 1)) (ck (0 ≤ (x3 + 1) ∧ (x3 + 1) < (Ls : Int)) (ckP (cLay K ∧ x1 = 0) (ckP (IsC K x1 9) (bd2 (vX9_end K (xs (x3 + 1).toNat) σ) (fun r65 σ66 => ck (in32 (x3 + 1)) (ck (0 ≤ (x3 + 1) ∧ (x3 + 1) < (Ls : Int)) (ckP (mLay K ∧ x2 = 84) (ckP (IsC K x2 10) (bd2 (vX10_end (xs (x3 + 1).toNat) σ66) (fun r69 σ70 => if r65 = r69 then (ck (in32 (x3 + 6)) (vL_law_18 Ls xs f x1 x2 (x3 + 6) K σ70)) else (some (0, K, σ70))))))))))))) else (if (bAnd (xs x3.toNat) 63) = 8 then (ckP (cLay K ∧ x1 = 0) (ckP (IsC K x1 9) (bd2 (vX9_row K σ) (fun r74 σ75 => ckP (mLay K ∧ x2 = 84) (ckP (IsC K x2 10) (bd2 (vX10_row σ75) (fun r78 σ79 => if r74 = r78 then (ck (in32 (x3 + 6)) (vL_law_18 Ls xs f x1 x2 (x3 + 6) K σ79)) else (some (0, K, σ79))))))))) else (if (bAnd (xs x3.toNat) 63) = 9 then (ckP (cLay K ∧ x1 = 0) (ckP (IsC K x1 9) ((vX9_slips K σ).bind (fun r83 => ckP (mLay K ∧ x2 = 84) (ckP (IsC K x2 10) (bd2 (vX10_slips σ) (fun r86 σ87 => if r83 = r86 then (ck (in32 (x3 + 6)) (vL_law_18 Ls xs f x1 x2 (x3 + 6) K σ87)) else (some (0, K, σ87))))))))) else (if (bAnd (xs x3.toNat) 63) = 10 then (ckP (x1 = 0) (ckP (IsC K x1 9) (bdIK (vX9_law K σ) (fun r91 K92 σ93 => ckP (mLay K92 ∧ x2 = 84) (ckP (IsC K92 x2 10) (bd2 (vX10_law σ93) (fun r96 σ97 => if r91 = r96 then (ck (in32 (x3 + 6)) (vL_law_18 Ls xs f x1 x2 (x3 + 6) K92 σ97)) else (some (0, K92, σ97))))))))) else (if (bAnd (xs x3.toNat) 63) = 11 then (ckP (x1 = 0) (ckP (IsC K x1 9) (bdIK (vX9_orders K σ) (fun r101 K102 σ103 => ckP (mLay K102 ∧ x2 = 84) (ckP (IsC K102 x2 10) (bd2 (vX10_orders σ103) (fun r106 σ107 => if r101 = r106 then (ck (in32 (x3 + 6)) (vL_law_18 Ls xs f x1 x2 (x3 + 6) K102 σ107)) else (some (0, K102, σ107))))))))) else (if (bAnd (xs x3.toNat) 63) = 12 then (ckP (cLay K ∧ x1 = 0) (ckP (IsC K x1 9) ((vX9_fault K σ).bind (fun r111 => ckP (mLay K ∧ x2 = 84) (ckP (IsC K x2 10) (bd2 (vX10_fault σ) (fun r114 σ115 => if r111 = r114 then (ck (in32 (x3 + 6)) (vL_law_18 Ls xs f x1 x2 (x3 + 6) K σ115)) else (some (0, K, σ115))))))))) else (if (bAnd (xs x3.toNat) 63) = 13 then (ckP (cLay K ∧ x1 = 0) (ckP (IsC K x1 9) ((vX9_stopped K σ).bind (fun r119 => ckP (mLay K ∧ x2 = 84) (ckP (IsC K x2 10) (bd2 (vX10_stopped σ) (fun r122 σ123 => if r119 = r122 then (ck (in32 (x3 + 6)) (vL_law_18 Ls xs f x1 x2 (x3 + 6) K σ123)) else (some (0, K, σ123))))))))) else (if (bAnd (xs x3.toNat) 63) = 14 then (ck (in32 (x3 + 1)) (ck (0 ≤ (x3 + 1) ∧ (x3 + 1) < (Ls : Int)) (ckP (cLay K ∧ x1 = 0) (ckP (IsC K x1 9) (bd2 (vX9_force K (xs (x3 + 1).toNat) σ) (fun r127 σ128 => ck (in32 (x3 + 1)) (ck (0 ≤ (x3 + 1) ∧ (x3 + 1) < (Ls : Int)) (ckP (mLay K ∧ x2 = 84) (ckP (IsC K x2 10) (bd2 (vX10_force (xs (x3 + 1).toNat) σ128) (fun r131 σ132 => if r127 = r131 then (ck (in32 (x3 + 6)) (vL_law_18 Ls xs f x1 x2 (x3 + 6) K σ132)) else (some (0, K, σ132))))))))))))) else (if (bAnd (xs x3.toNat) 63) = 15 then (ck (in32 (x3 + 1)) (ck (0 ≤ (x3 + 1) ∧ (x3 + 1) < (Ls : Int)) (ck (in32 (x3 + 2)) (ck (0 ≤ (x3 + 2) ∧ (x3 + 2) < (Ls : Int)) (ckP (x1 = 0) (ckP (IsC K x1 9) (bdIK (vX9_lend (xs (x3 + 1).toNat) (xs (x3 + 2).toNat) K σ) (fun r136 K137 σ138 => ck (in32 (x3 + 1)) (ck (0 ≤ (x3 + 1) ∧ (x3 + 1) < (Ls : Int)) (ck (in32 (x3 + 2)) (ck (0 ≤ (x3 + 2) ∧ (x3 + 2) < (Ls : Int)) (ckP (mLay K137 ∧ x2 = 84) (ckP (IsC K137 x2 10) (bd2 (vX10_lend (xs (x3 + 1).toNat) (xs (x3 + 2).toNat) σ138) (fun r141 σ142 => if r136 = r141 then (ck (in32 (x3 + 6)) (vL_law_18 Ls xs f x1 x2 (x3 + 6) K137 σ142)) else (some (0, K137, σ142))))))))))))))))) else (if (bAnd (xs x3.toNat) 63) = 16 then (ck (in32 (x3 + 1)) (ck (0 ≤ (x3 + 1) ∧ (x3 + 1) < (Ls : Int)) (ckP (x1 = 0) (ckP (IsC K x1 9) (bdIK (vX9_bring (xs (x3 + 1).toNat) K σ) (fun r146 K147 σ148 => ck (in32 (x3 + 1)) (ck (0 ≤ (x3 + 1) ∧ (x3 + 1) < (Ls : Int)) (ckP (mLay K147 ∧ x2 = 84) (ckP (IsC K147 x2 10) (bd2 (vX10_bring (xs (x3 + 1).toNat) σ148) (fun r151 σ152 => if r146 = r151 then (ck (in32 (x3 + 6)) (vL_law_18 Ls xs f x1 x2 (x3 + 6) K147 σ152)) else (some (0, K147, σ152))))))))))))) else (if (bAnd (xs x3.toNat) 63) = 17 then (ck (in32 (x3 + 1)) (ck (0 ≤ (x3 + 1) ∧ (x3 + 1) < (Ls : Int)) (ck (in32 (x3 + 2)) (ck (0 ≤ (x3 + 2) ∧ (x3 + 2) < (Ls : Int)) (ckP (x1 = 0) (ckP (IsC K x1 9) (bdIK (vX9_waits (xs (x3 + 1).toNat) (xs (x3 + 2).toNat) K σ) (fun r156 K157 σ158 => ck (in32 (x3 + 1)) (ck (0 ≤ (x3 + 1) ∧ (x3 + 1) < (Ls : Int)) (ck (in32 (x3 + 2)) (ck (0 ≤ (x3 + 2) ∧ (x3 + 2) < (Ls : Int)) (ckP (mLay K157 ∧ x2 = 84) (ckP (IsC K157 x2 10) (bd2 (vX10_waits (xs (x3 + 1).toNat) (xs (x3 + 2).toNat) σ158) (fun r161 σ162 => if r156 = r161 then (ck (in32 (x3 + 6)) (vL_law_18 Ls xs f x1 x2 (x3 + 6) K157 σ162)) else (some (0, K157, σ162))))))))))))))))) else (if (bAnd (xs x3.toNat) 63) = 18 then (ckP (x1 = 0) (ckP (IsC K x1 9) (bdIK (vX9_pass K σ) (fun r166 K167 σ168 => ckP (mLay K167 ∧ x2 = 84) (ckP (IsC K167 x2 10) (bd2 (vX10_pass σ168) (fun r171 σ172 => if r166 = r171 then (ck (in32 (x3 + 6)) (vL_law_18 Ls xs f x1 x2 (x3 + 6) K167 σ172)) else (some (0, K167, σ172))))))))) else (if (bAnd (xs x3.toNat) 63) = 19 then (ckP (cLay K ∧ x1 = 0) (ckP (IsC K x1 9) (bd2 (vX9_undo K σ) (fun r176 σ177 => ckP (mLay K ∧ x2 = 84) (ckP (IsC K x2 10) (bd2 (vX10_undo σ177) (fun r180 σ181 => if r176 = r180 then (ck (in32 (x3 + 6)) (vL_law_18 Ls xs f x1 x2 (x3 + 6) K σ181)) else (some (0, K, σ181))))))))) else (if (bAnd (xs x3.toNat) 63) = 20 then (ck (in32 (x3 + 1)) (ck (0 ≤ (x3 + 1) ∧ (x3 + 1) < (Ls : Int)) (ckP (cLay K ∧ x1 = 0) (ckP (IsC K x1 9) (bd2 (vX9_served K (xs (x3 + 1).toNat) σ) (fun r185 σ186 => ck (in32 (x3 + 1)) (ck (0 ≤ (x3 + 1) ∧ (x3 + 1) < (Ls : Int)) (ckP (mLay K ∧ x2 = 84) (ckP (IsC K x2 10) (bd2 (vX10_served (xs (x3 + 1).toNat) σ186) (fun r189 σ190 => if r185 = r189 then (ck (in32 (x3 + 6)) (vL_law_18 Ls xs f x1 x2 (x3 + 6) K σ190)) else (some (0, K, σ190))))))))))))) else (if (bAnd (xs x3.toNat) 63) = 21 then (ck (in32 (x3 + 1)) (ck (0 ≤ (x3 + 1) ∧ (x3 + 1) < (Ls : Int)) (ckP (cLay K ∧ x1 = 0) (ckP (IsC K x1 9) (bd2 (vX9_turn K (xs (x3 + 1).toNat) σ) (fun r194 σ195 => ck (in32 (x3 + 1)) (ck (0 ≤ (x3 + 1) ∧ (x3 + 1) < (Ls : Int)) (ckP (mLay K ∧ x2 = 84) (ckP (IsC K x2 10) (bd2 (vX10_turn (xs (x3 + 1).toNat) σ195) (fun r198 σ199 => if r194 = r198 then (ck (in32 (x3 + 6)) (vL_law_18 Ls xs f x1 x2 (x3 + 6) K σ199)) else (some (0, K, σ199))))))))))))) else (if (bAnd (xs x3.toNat) 63) = 22 then (ck (in32 (x3 + 1)) (ck (0 ≤ (x3 + 1) ∧ (x3 + 1) < (Ls : Int)) (ck (in32 (x3 + 2)) (ck (0 ≤ (x3 + 2) ∧ (x3 + 2) < (Ls : Int)) (ck (in32 (x3 + 3)) (ck (0 ≤ (x3 + 3) ∧ (x3 + 3) < (Ls : Int)) (ckP (cLay K ∧ x1 = 0) (ckP (IsC K x1 9) (bd2 (vX9_way K (xs (x3 + 1).toNat) (xs (x3 + 2).toNat) (xs (x3 + 3).toNat) σ) (fun r203 σ204 => ck (in32 (x3 + 1)) (ck (0 ≤ (x3 + 1) ∧ (x3 + 1) < (Ls : Int)) (ck (in32 (x3 + 2)) (ck (0 ≤ (x3 + 2) ∧ (x3 + 2) < (Ls : Int)) (ck (in32 (x3 + 3)) (ck (0 ≤ (x3 + 3) ∧ (x3 + 3) < (Ls : Int)) (ckP (mLay K ∧ x2 = 84) (ckP (IsC K x2 10) (bd2 (vX10_way (xs (x3 + 1).toNat) (xs (x3 + 2).toNat) (xs (x3 + 3).toNat) σ204) (fun r207 σ208 => if r203 = r207 then (ck (in32 (x3 + 6)) (vL_law_18 Ls xs f x1 x2 (x3 + 6) K σ208)) else (some (0, K, σ208))))))))))))))))))))) else (if (bAnd (xs x3.toNat) 63) = 23 then (ck (in32 (x3 + 1)) (ck (0 ≤ (x3 + 1) ∧ (x3 + 1) < (Ls : Int)) (ck (in32 (x3 + 2)) (ck (0 ≤ (x3 + 2) ∧ (x3 + 2) < (Ls : Int)) (ck (in32 (x3 + 3)) (ck (0 ≤ (x3 + 3) ∧ (x3 + 3) < (Ls : Int)) (ckP (cLay K ∧ x1 = 0) (ckP (IsC K x1 9) (bd2 (vX9_sets K (xs (x3 + 1).toNat) (xs (x3 + 2).toNat) (xs (x3 + 3).toNat) σ) (fun r212 σ213 => ck (in32 (x3 + 1)) (ck (0 ≤ (x3 + 1) ∧ (x3 + 1) < (Ls : Int)) (ck (in32 (x3 + 2)) (ck (0 ≤ (x3 + 2) ∧ (x3 + 2) < (Ls : Int)) (ck (in32 (x3 + 3)) (ck (0 ≤ (x3 + 3) ∧ (x3 + 3) < (Ls : Int)) (ckP (mLay K ∧ x2 = 84) (ckP (IsC K x2 10) (bd2 (vX10_sets (xs (x3 + 1).toNat) (xs (x3 + 2).toNat) (xs (x3 + 3).toNat) σ213) (fun r216 σ217 => if r212 = r216 then (ck (in32 (x3 + 6)) (vL_law_18 Ls xs f x1 x2 (x3 + 6) K σ217)) else (some (0, K, σ217))))))))))))))))))))) else (if (bAnd (xs x3.toNat) 63) = 24 then (ck (in32 (x3 + 1)) (ck (0 ≤ (x3 + 1) ∧ (x3 + 1) < (Ls : Int)) (ck (in32 (x3 + 2)) (ck (0 ≤ (x3 + 2) ∧ (x3 + 2) < (Ls : Int)) (ck (in32 (x3 + 3)) (ck (0 ≤ (x3 + 3) ∧ (x3 + 3) < (Ls : Int)) (ckP (cLay K ∧ x1 = 0) (ckP (IsC K x1 9) (bd2 (vX9_ask K (xs (x3 + 1).toNat) (xs (x3 + 2).toNat) (xs (x3 + 3).toNat) σ) (fun r221 σ222 => ck (in32 (x3 + 1)) (ck (0 ≤ (x3 + 1) ∧ (x3 + 1) < (Ls : Int)) (ck (in32 (x3 + 2)) (ck (0 ≤ (x3 + 2) ∧ (x3 + 2) < (Ls : Int)) (ck (in32 (x3 + 3)) (ck (0 ≤ (x3 + 3) ∧ (x3 + 3) < (Ls : Int)) (ckP (mLay K ∧ x2 = 84) (ckP (IsC K x2 10) (bd2 (vX10_ask (xs (x3 + 1).toNat) (xs (x3 + 2).toNat) (xs (x3 + 3).toNat) σ222) (fun r225 σ226 => if r221 = r225 then (ck (in32 (x3 + 6)) (vL_law_18 Ls xs f x1 x2 (x3 + 6) K σ226)) else (some (0, K, σ226))))))))))))))))))))) else (if (bAnd (xs x3.toNat) 63) = 25 then (ck (in32 (x3 + 1)) (ck (0 ≤ (x3 + 1) ∧ (x3 + 1) < (Ls : Int)) (ck (in32 (x3 + 2)) (ck (0 ≤ (x3 + 2) ∧ (x3 + 2) < (Ls : Int)) (ckP (cLay K ∧ x1 = 0) (ckP (IsC K x1 9) (bd2 (vX9_last K (xs (x3 + 1).toNat) (xs (x3 + 2).toNat) σ) (fun r230 σ231 => ck (in32 (x3 + 1)) (ck (0 ≤ (x3 + 1) ∧ (x3 + 1) < (Ls : Int)) (ck (in32 (x3 + 2)) (ck (0 ≤ (x3 + 2) ∧ (x3 + 2) < (Ls : Int)) (ckP (mLay K ∧ x2 = 84) (ckP (IsC K x2 10) (bd2 (vX10_last (xs (x3 + 1).toNat) (xs (x3 + 2).toNat) σ231) (fun r234 σ235 => if r230 = r234 then (ck (in32 (x3 + 6)) (vL_law_18 Ls xs f x1 x2 (x3 + 6) K σ235)) else (some (0, K, σ235))))))))))))))))) else (if (bAnd (xs x3.toNat) 63) = 26 then (ck (in32 (x3 + 1)) (ck (0 ≤ (x3 + 1) ∧ (x3 + 1) < (Ls : Int)) (ckP (cLay K ∧ x1 = 0) (ckP (IsC K x1 9) (bd2 (vX9_nest K (xs (x3 + 1).toNat) σ) (fun r239 σ240 => ck (in32 (x3 + 1)) (ck (0 ≤ (x3 + 1) ∧ (x3 + 1) < (Ls : Int)) (ckP (mLay K ∧ x2 = 84) (ckP (IsC K x2 10) (bd2 (vX10_nest (xs (x3 + 1).toNat) σ240) (fun r243 σ244 => if r239 = r243 then (ck (in32 (x3 + 6)) (vL_law_18 Ls xs f x1 x2 (x3 + 6) K σ244)) else (some (0, K, σ244))))))))))))) else (if (bAnd (xs x3.toNat) 63) = 27 then (ck (in32 (x3 + 1)) (ck (0 ≤ (x3 + 1) ∧ (x3 + 1) < (Ls : Int)) (ckP (cLay K ∧ x1 = 0) (ckP (IsC K x1 9) ((vX9_all K (xs (x3 + 1).toNat) σ).bind (fun r248 => ck (in32 (x3 + 1)) (ck (0 ≤ (x3 + 1) ∧ (x3 + 1) < (Ls : Int)) (ckP (mLay K ∧ x2 = 84) (ckP (IsC K x2 10) (bd2 (vX10_all (xs (x3 + 1).toNat) σ) (fun r251 σ252 => if r248 = r251 then (ck (in32 (x3 + 6)) (vL_law_18 Ls xs f x1 x2 (x3 + 6) K σ252)) else (some (0, K, σ252))))))))))))) else (if (bAnd (xs x3.toNat) 63) = 28 then (ck (in32 (x3 + 1)) (ck (0 ≤ (x3 + 1) ∧ (x3 + 1) < (Ls : Int)) (ckP (cLay K ∧ x1 = 0) (ckP (IsC K x1 9) (bd2 (vX9_owed K (xs (x3 + 1).toNat) σ) (fun r256 σ257 => ck (in32 (x3 + 1)) (ck (0 ≤ (x3 + 1) ∧ (x3 + 1) < (Ls : Int)) (ckP (mLay K ∧ x2 = 84) (ckP (IsC K x2 10) (bd2 (vX10_owed (xs (x3 + 1).toNat) σ257) (fun r260 σ261 => if r256 = r260 then (ck (in32 (x3 + 6)) (vL_law_18 Ls xs f x1 x2 (x3 + 6) K σ261)) else (some (0, K, σ261))))))))))))) else (if (bAnd (xs x3.toNat) 63) = 29 then (ck (in32 (x3 + 1)) (ck (0 ≤ (x3 + 1) ∧ (x3 + 1) < (Ls : Int)) (ck (in32 (x3 + 2)) (ck (0 ≤ (x3 + 2) ∧ (x3 + 2) < (Ls : Int)) (ckP (cLay K ∧ x1 = 0) (ckP (IsC K x1 9) (bd2 (vX9_whole K (xs (x3 + 1).toNat) (xs (x3 + 2).toNat) σ) (fun r265 σ266 => ck (in32 (x3 + 1)) (ck (0 ≤ (x3 + 1) ∧ (x3 + 1) < (Ls : Int)) (ck (in32 (x3 + 2)) (ck (0 ≤ (x3 + 2) ∧ (x3 + 2) < (Ls : Int)) (ckP (mLay K ∧ x2 = 84) (ckP (IsC K x2 10) (bd2 (vX10_whole (xs (x3 + 1).toNat) (xs (x3 + 2).toNat) σ266) (fun r269 σ270 => if r265 = r269 then (ck (in32 (x3 + 6)) (vL_law_18 Ls xs f x1 x2 (x3 + 6) K σ270)) else (some (0, K, σ270))))))))))))))))) else (if (bAnd (xs x3.toNat) 63) = 30 then (ck (in32 (x3 + 1)) (ck (0 ≤ (x3 + 1) ∧ (x3 + 1) < (Ls : Int)) (ck (in32 (x3 + 2)) (ck (0 ≤ (x3 + 2) ∧ (x3 + 2) < (Ls : Int)) (ckP (cLay K ∧ x1 = 0) (ckP (IsC K x1 9) (bd2 (vX9_years K (xs (x3 + 1).toNat) (xs (x3 + 2).toNat) σ) (fun r274 σ275 => ck (in32 (x3 + 1)) (ck (0 ≤ (x3 + 1) ∧ (x3 + 1) < (Ls : Int)) (ck (in32 (x3 + 2)) (ck (0 ≤ (x3 + 2) ∧ (x3 + 2) < (Ls : Int)) (ckP (mLay K ∧ x2 = 84) (ckP (IsC K x2 10) (bd2 (vX10_years (xs (x3 + 1).toNat) (xs (x3 + 2).toNat) σ275) (fun r278 σ279 => if r274 = r278 then (ck (in32 (x3 + 6)) (vL_law_18 Ls xs f x1 x2 (x3 + 6) K σ279)) else (some (0, K, σ279))))))))))))))))) else (if (bAnd (xs x3.toNat) 63) = 31 then (ck (in32 (x3 + 1)) (ck (0 ≤ (x3 + 1) ∧ (x3 + 1) < (Ls : Int)) (ck (in32 (x3 + 2)) (ck (0 ≤ (x3 + 2) ∧ (x3 + 2) < (Ls : Int)) (ckP (cLay K ∧ x1 = 0) (ckP (IsC K x1 9) ((vX9_drawn K (xs (x3 + 1).toNat) (xs (x3 + 2).toNat) σ).bind (fun r283 => ck (in32 (x3 + 1)) (ck (0 ≤ (x3 + 1) ∧ (x3 + 1) < (Ls : Int)) (ck (in32 (x3 + 2)) (ck (0 ≤ (x3 + 2) ∧ (x3 + 2) < (Ls : Int)) (ckP (mLay K ∧ x2 = 84) (ckP (IsC K x2 10) (bd2 (vX10_drawn (xs (x3 + 1).toNat) (xs (x3 + 2).toNat) σ) (fun r286 σ287 => if r283 = r286 then (ck (in32 (x3 + 6)) (vL_law_18 Ls xs f x1 x2 (x3 + 6) K σ287)) else (some (0, K, σ287))))))))))))))))) else (if (bAnd (xs x3.toNat) 63) = 32 then (ck (in32 (x3 + 1)) (ck (0 ≤ (x3 + 1) ∧ (x3 + 1) < (Ls : Int)) (ckP (x1 = 0) (ckP (IsC K x1 9) (bdIK (vX9_image (xs (x3 + 1).toNat) K σ) (fun r291 K292 σ293 => ck (in32 (x3 + 1)) (ck (0 ≤ (x3 + 1) ∧ (x3 + 1) < (Ls : Int)) (ckP (mLay K292 ∧ x2 = 84) (ckP (IsC K292 x2 10) (bd2 (vX10_image (xs (x3 + 1).toNat) σ293) (fun r296 σ297 => if r291 = r296 then (ck (in32 (x3 + 6)) (vL_law_18 Ls xs f x1 x2 (x3 + 6) K292 σ297)) else (some (0, K292, σ297))))))))))))) else (if (bAnd (xs x3.toNat) 63) = 33 then (ck (in32 (x3 + 1)) (ck (0 ≤ (x3 + 1) ∧ (x3 + 1) < (Ls : Int)) (ckP (x1 = 0) (ckP (IsC K x1 9) (bdIK (vX9_back (xs (x3 + 1).toNat) K σ) (fun r301 K302 σ303 => ck (in32 (x3 + 1)) (ck (0 ≤ (x3 + 1) ∧ (x3 + 1) < (Ls : Int)) (ckP (mLay K302 ∧ x2 = 84) (ckP (IsC K302 x2 10) (bd2 (vX10_back (xs (x3 + 1).toNat) σ303) (fun r306 σ307 => if r301 = r306 then (ck (in32 (x3 + 6)) (vL_law_18 Ls xs f x1 x2 (x3 + 6) K302 σ307)) else (some (0, K302, σ307))))))))))))) else (if (bAnd (xs x3.toNat) 63) = 34 then (ck (in32 (x3 + 1)) (ck (0 ≤ (x3 + 1) ∧ (x3 + 1) < (Ls : Int)) (ckP (cLay K ∧ x1 = 0) (ckP (IsC K x1 9) ((vX9_count K (xs (x3 + 1).toNat) σ).bind (fun r311 => ck (in32 (x3 + 1)) (ck (0 ≤ (x3 + 1) ∧ (x3 + 1) < (Ls : Int)) (ckP (mLay K ∧ x2 = 84) (ckP (IsC K x2 10) (bd2 (vX10_count (xs (x3 + 1).toNat) σ) (fun r314 σ315 => if r311 = r314 then (ck (in32 (x3 + 6)) (vL_law_18 Ls xs f x1 x2 (x3 + 6) K σ315)) else (some (0, K, σ315))))))))))))) else (if (bAnd (xs x3.toNat) 63) = 35 then (ckP (cLay K ∧ x1 = 0) (ckP (IsC K x1 9) ((vX9_status K σ).bind (fun r319 => ckP (mLay K ∧ x2 = 84) (ckP (IsC K x2 10) (bd2 (vX10_status σ) (fun r322 σ323 => if r319 = r322 then (ck (in32 (x3 + 6)) (vL_law_18 Ls xs f x1 x2 (x3 + 6) K σ323)) else (some (0, K, σ323))))))))) else (ck (in32 (x3 + 6)) (vL_law_18 Ls xs f x1 x2 (x3 + 6) K σ))))))))))))))))))))))))))))))))))))))))
set_option maxRecDepth 100000 in
set_option maxHeartbeats 4000000 in
theorem tL_law_18 {Γ : Gx} {nm : String} {Ls : Nat} {xs : Nat → Int} (hX : ScrAt Γ Ls xs) {K0 : Kt} : ∀ (f : Nat) (x1 : Nat) (x2 : Nat) (x3 : Int) (K : Kt) (σ : Sg), Y Γ (ML_law nm) K0 emIK K 18 [some (aT 7), some (aR x1), some (aR x2), some (aI x3)] [] σ (vL_law_18 Ls xs f x1 x2 x3 K σ) := by
  intro f
  induction f with
  | zero => intro x1 x2 x3 K σ; exact y_none
  | succ f ih =>
    intro x1 x2 x3 K σ
    rw [vL_law_18]
    refine y_iload_n dL_law_18 rfl rfl ?_
    refine y_aload_nT dL_law_19 rfl rfl ?_
    refine y_slen hX dL_law_20 ?_
    refine y_bipush dL_law_21 (by decide) (by decide) ?_
    refine yk_isub dL_law_23 ?_
    refine y_ite (fun h1 => ?_) (fun h1 => ?_)
    · refine y_icmp_gt_t dL_law_24 (t := 1187) rfl h1 ?_
      refine y_iconst dL_law_1187 (by decide) ?_
      exact y_zret (by decide) rfl rfl dL_law_1188
    · refine y_icmp_gt_f dL_law_24 (t := 1187) rfl h1 ?_
      refine y_aload_nT dL_law_27 rfl rfl ?_
      refine y_iload_n dL_law_28 rfl rfl ?_
      refine y_ck (fun hc => ?_)
      refine y_sld hX hc dL_law_29 ?_
      refine y_bipush dL_law_30 (by decide) (by decide) ?_
      refine y_iand dL_law_32 ?_
      refine y_ite (fun h360 => ?_) (fun h360 => ?_)
      · refine y_tab_in dL_law_33 (t := 192) (off := 159) (by omega) (by rw [h360]; rfl) rfl ?_
        refine y_aload_n dL_law_192 rfl rfl ?_
        refine y_aload_nT dL_law_193 rfl rfl ?_
        refine y_iload_n dL_law_194 rfl rfl ?_
        refine y_iconst dL_law_195 (by decide) ?_
        refine yk_iadd dL_law_196 ?_
        refine y_ck (fun hc => ?_)
        refine y_sld hX hc dL_law_197 ?_
        refine y_aload_nT dL_law_198 rfl rfl ?_
        refine y_iload_n dL_law_199 rfl rfl ?_
        refine y_iconst dL_law_200 (by decide) ?_
        refine yk_iadd dL_law_201 ?_
        refine y_ck (fun hc => ?_)
        refine y_sld hX hc dL_law_202 ?_
        refine y_aload_nT dL_law_203 rfl rfl ?_
        refine y_iload_n dL_law_204 rfl rfl ?_
        refine y_iconst dL_law_205 (by decide) ?_
        refine yk_iadd dL_law_206 ?_
        refine y_ck (fun hc => ?_)
        refine y_sld hX hc dL_law_207 ?_
        refine y_aload_nT dL_law_208 rfl rfl ?_
        refine y_iload_n dL_law_209 rfl rfl ?_
        refine y_iconst dL_law_210 (by decide) ?_
        refine yk_iadd dL_law_211 ?_
        refine y_ck (fun hc => ?_)
        refine y_sld hX hc dL_law_212 ?_
        refine y_ckP (fun hp2 => ?_)
        refine y_ckP (fun hc3 => ?_)
        refine y_cvIS (by rw [hp2.2]; exact qX9_book hp2.1 (xs (x3 + 1).toNat) (xs (x3 + 2).toNat) (xs (x3 + 3).toNat) (xs (x3 + 4).toNat) σ) kL_13 rfl hc3 rfl (Nat.le_of_ble_eq_true rfl) rfl (Nat.le_of_ble_eq_true rfl) dL_law_213 (fun r4 σ5 => ?_)
        refine y_aload_n dL_law_216 rfl rfl ?_
        refine y_aload_nT dL_law_217 rfl rfl ?_
        refine y_iload_n dL_law_218 rfl rfl ?_
        refine y_iconst dL_law_219 (by decide) ?_
        refine yk_iadd dL_law_220 ?_
        refine y_ck (fun hc => ?_)
        refine y_sld hX hc dL_law_221 ?_
        refine y_aload_nT dL_law_222 rfl rfl ?_
        refine y_iload_n dL_law_223 rfl rfl ?_
        refine y_iconst dL_law_224 (by decide) ?_
        refine yk_iadd dL_law_225 ?_
        refine y_ck (fun hc => ?_)
        refine y_sld hX hc dL_law_226 ?_
        refine y_aload_nT dL_law_227 rfl rfl ?_
        refine y_iload_n dL_law_228 rfl rfl ?_
        refine y_iconst dL_law_229 (by decide) ?_
        refine yk_iadd dL_law_230 ?_
        refine y_ck (fun hc => ?_)
        refine y_sld hX hc dL_law_231 ?_
        refine y_aload_nT dL_law_232 rfl rfl ?_
        refine y_iload_n dL_law_233 rfl rfl ?_
        refine y_iconst dL_law_234 (by decide) ?_
        refine yk_iadd dL_law_235 ?_
        refine y_ck (fun hc => ?_)
        refine y_sld hX hc dL_law_236 ?_
        refine y_ckP (fun hp6 => ?_)
        refine y_ckP (fun hc7 => ?_)
        refine y_cvIS (by rw [hp6.2]; exact qX10_book hp6.1 (xs (x3 + 1).toNat) (xs (x3 + 2).toNat) (xs (x3 + 3).toNat) (xs (x3 + 4).toNat) σ5) kL_17 rfl hc7 rfl (Nat.le_of_ble_eq_true rfl) rfl (Nat.le_of_ble_eq_true rfl) dL_law_237 (fun r8 σ9 => ?_)
        refine y_ite (fun h10 => ?_) (fun h10 => ?_)
        · refine y_icmp_eq_t dL_law_240 (t := 1181) rfl h10 ?_
          refine yk_iinc dL_law_1181 rfl (L' := [some (aT 7), some (aR x1), some (aR x2), some (aI (x3 + 6))]) rfl ?_
          refine y_goto dL_law_1184 (t := 18) rfl ?_
          exact ih x1 x2 (x3 + 6) K σ9
        · refine y_icmp_eq_f dL_law_240 (t := 1181) rfl h10 ?_
          refine y_iconst dL_law_243 (by decide) ?_
          exact y_zret (by decide) rfl rfl dL_law_244
      · refine y_ite (fun h359 => ?_) (fun h359 => ?_)
        · refine y_tab_in dL_law_33 (t := 245) (off := 212) (by omega) (by rw [h359]; rfl) rfl ?_
          refine y_aload_n dL_law_245 rfl rfl ?_
          refine y_aload_nT dL_law_246 rfl rfl ?_
          refine y_iload_n dL_law_247 rfl rfl ?_
          refine y_iconst dL_law_248 (by decide) ?_
          refine yk_iadd dL_law_249 ?_
          refine y_ck (fun hc => ?_)
          refine y_sld hX hc dL_law_250 ?_
          refine y_aload_nT dL_law_251 rfl rfl ?_
          refine y_iload_n dL_law_252 rfl rfl ?_
          refine y_iconst dL_law_253 (by decide) ?_
          refine yk_iadd dL_law_254 ?_
          refine y_ck (fun hc => ?_)
          refine y_sld hX hc dL_law_255 ?_
          refine y_ckP (fun hp11 => ?_)
          refine y_ckP (fun hc12 => ?_)
          refine y_cvI (by rw [hp11.2]; exact qX9_of hp11.1 (xs (x3 + 1).toNat) (xs (x3 + 2).toNat) σ) kL_18 rfl hc12 rfl (Nat.le_of_ble_eq_true rfl) rfl (Nat.le_of_ble_eq_true rfl) dL_law_256 (fun r13 => ?_)
          refine y_aload_n dL_law_259 rfl rfl ?_
          refine y_aload_nT dL_law_260 rfl rfl ?_
          refine y_iload_n dL_law_261 rfl rfl ?_
          refine y_iconst dL_law_262 (by decide) ?_
          refine yk_iadd dL_law_263 ?_
          refine y_ck (fun hc => ?_)
          refine y_sld hX hc dL_law_264 ?_
          refine y_aload_nT dL_law_265 rfl rfl ?_
          refine y_iload_n dL_law_266 rfl rfl ?_
          refine y_iconst dL_law_267 (by decide) ?_
          refine yk_iadd dL_law_268 ?_
          refine y_ck (fun hc => ?_)
          refine y_sld hX hc dL_law_269 ?_
          refine y_ckP (fun hp14 => ?_)
          refine y_ckP (fun hc15 => ?_)
          refine y_cvIS (by rw [hp14.2]; exact qX10_of hp14.1 (xs (x3 + 1).toNat) (xs (x3 + 2).toNat) σ) kL_22 rfl hc15 rfl (Nat.le_of_ble_eq_true rfl) rfl (Nat.le_of_ble_eq_true rfl) dL_law_270 (fun r16 σ17 => ?_)
          refine y_ite (fun h18 => ?_) (fun h18 => ?_)
          · refine y_icmp_eq_t dL_law_273 (t := 1181) rfl h18 ?_
            refine yk_iinc dL_law_1181 rfl (L' := [some (aT 7), some (aR x1), some (aR x2), some (aI (x3 + 6))]) rfl ?_
            refine y_goto dL_law_1184 (t := 18) rfl ?_
            exact ih x1 x2 (x3 + 6) K σ17
          · refine y_icmp_eq_f dL_law_273 (t := 1181) rfl h18 ?_
            refine y_iconst dL_law_276 (by decide) ?_
            exact y_zret (by decide) rfl rfl dL_law_277
        · refine y_ite (fun h358 => ?_) (fun h358 => ?_)
          · refine y_tab_in dL_law_33 (t := 278) (off := 245) (by omega) (by rw [h358]; rfl) rfl ?_
            refine y_aload_n dL_law_278 rfl rfl ?_
            refine y_aload_nT dL_law_279 rfl rfl ?_
            refine y_iload_n dL_law_280 rfl rfl ?_
            refine y_iconst dL_law_281 (by decide) ?_
            refine yk_iadd dL_law_282 ?_
            refine y_ck (fun hc => ?_)
            refine y_sld hX hc dL_law_283 ?_
            refine y_aload_nT dL_law_284 rfl rfl ?_
            refine y_iload_n dL_law_285 rfl rfl ?_
            refine y_iconst dL_law_286 (by decide) ?_
            refine yk_iadd dL_law_287 ?_
            refine y_ck (fun hc => ?_)
            refine y_sld hX hc dL_law_288 ?_
            refine y_ckP (fun hp19 => ?_)
            refine y_ckP (fun hc20 => ?_)
            refine y_cvIS (by rw [hp19.2]; exact qX9_reader hp19.1 (xs (x3 + 1).toNat) (xs (x3 + 2).toNat) σ) kL_23 rfl hc20 rfl (Nat.le_of_ble_eq_true rfl) rfl (Nat.le_of_ble_eq_true rfl) dL_law_289 (fun r21 σ22 => ?_)
            refine y_aload_n dL_law_292 rfl rfl ?_
            refine y_aload_nT dL_law_293 rfl rfl ?_
            refine y_iload_n dL_law_294 rfl rfl ?_
            refine y_iconst dL_law_295 (by decide) ?_
            refine yk_iadd dL_law_296 ?_
            refine y_ck (fun hc => ?_)
            refine y_sld hX hc dL_law_297 ?_
            refine y_aload_nT dL_law_298 rfl rfl ?_
            refine y_iload_n dL_law_299 rfl rfl ?_
            refine y_iconst dL_law_300 (by decide) ?_
            refine yk_iadd dL_law_301 ?_
            refine y_ck (fun hc => ?_)
            refine y_sld hX hc dL_law_302 ?_
            refine y_ckP (fun hp23 => ?_)
            refine y_ckP (fun hc24 => ?_)
            refine y_cvIS (by rw [hp23.2]; exact qX10_reader hp23.1 (xs (x3 + 1).toNat) (xs (x3 + 2).toNat) σ22) kL_26 rfl hc24 rfl (Nat.le_of_ble_eq_true rfl) rfl (Nat.le_of_ble_eq_true rfl) dL_law_303 (fun r25 σ26 => ?_)
            refine y_ite (fun h27 => ?_) (fun h27 => ?_)
            · refine y_icmp_eq_t dL_law_306 (t := 1181) rfl h27 ?_
              refine yk_iinc dL_law_1181 rfl (L' := [some (aT 7), some (aR x1), some (aR x2), some (aI (x3 + 6))]) rfl ?_
              refine y_goto dL_law_1184 (t := 18) rfl ?_
              exact ih x1 x2 (x3 + 6) K σ26
            · refine y_icmp_eq_f dL_law_306 (t := 1181) rfl h27 ?_
              refine y_iconst dL_law_309 (by decide) ?_
              exact y_zret (by decide) rfl rfl dL_law_310
          · refine y_ite (fun h357 => ?_) (fun h357 => ?_)
            · refine y_tab_in dL_law_33 (t := 311) (off := 278) (by omega) (by rw [h357]; rfl) rfl ?_
              refine y_aload_n dL_law_311 rfl rfl ?_
              refine y_aload_nT dL_law_312 rfl rfl ?_
              refine y_iload_n dL_law_313 rfl rfl ?_
              refine y_iconst dL_law_314 (by decide) ?_
              refine yk_iadd dL_law_315 ?_
              refine y_ck (fun hc => ?_)
              refine y_sld hX hc dL_law_316 ?_
              refine y_aload_nT dL_law_317 rfl rfl ?_
              refine y_iload_n dL_law_318 rfl rfl ?_
              refine y_iconst dL_law_319 (by decide) ?_
              refine yk_iadd dL_law_320 ?_
              refine y_ck (fun hc => ?_)
              refine y_sld hX hc dL_law_321 ?_
              refine y_ckP (fun hp28 => ?_)
              refine y_ckP (fun hc29 => ?_)
              refine y_cvI (by rw [hp28.2]; exact qX9_at hp28.1 (xs (x3 + 1).toNat) (xs (x3 + 2).toNat) σ) kL_27 rfl hc29 rfl (Nat.le_of_ble_eq_true rfl) rfl (Nat.le_of_ble_eq_true rfl) dL_law_322 (fun r30 => ?_)
              refine y_aload_n dL_law_325 rfl rfl ?_
              refine y_aload_nT dL_law_326 rfl rfl ?_
              refine y_iload_n dL_law_327 rfl rfl ?_
              refine y_iconst dL_law_328 (by decide) ?_
              refine yk_iadd dL_law_329 ?_
              refine y_ck (fun hc => ?_)
              refine y_sld hX hc dL_law_330 ?_
              refine y_aload_nT dL_law_331 rfl rfl ?_
              refine y_iload_n dL_law_332 rfl rfl ?_
              refine y_iconst dL_law_333 (by decide) ?_
              refine yk_iadd dL_law_334 ?_
              refine y_ck (fun hc => ?_)
              refine y_sld hX hc dL_law_335 ?_
              refine y_ckP (fun hp31 => ?_)
              refine y_ckP (fun hc32 => ?_)
              refine y_cvIS (by rw [hp31.2]; exact qX10_at hp31.1 (xs (x3 + 1).toNat) (xs (x3 + 2).toNat) σ) kL_30 rfl hc32 rfl (Nat.le_of_ble_eq_true rfl) rfl (Nat.le_of_ble_eq_true rfl) dL_law_336 (fun r33 σ34 => ?_)
              refine y_ite (fun h35 => ?_) (fun h35 => ?_)
              · refine y_icmp_eq_t dL_law_339 (t := 1181) rfl h35 ?_
                refine yk_iinc dL_law_1181 rfl (L' := [some (aT 7), some (aR x1), some (aR x2), some (aI (x3 + 6))]) rfl ?_
                refine y_goto dL_law_1184 (t := 18) rfl ?_
                exact ih x1 x2 (x3 + 6) K σ34
              · refine y_icmp_eq_f dL_law_339 (t := 1181) rfl h35 ?_
                refine y_iconst dL_law_342 (by decide) ?_
                exact y_zret (by decide) rfl rfl dL_law_343
            · refine y_ite (fun h356 => ?_) (fun h356 => ?_)
              · refine y_tab_in dL_law_33 (t := 344) (off := 311) (by omega) (by rw [h356]; rfl) rfl ?_
                refine y_aload_n dL_law_344 rfl rfl ?_
                refine y_aload_nT dL_law_345 rfl rfl ?_
                refine y_iload_n dL_law_346 rfl rfl ?_
                refine y_iconst dL_law_347 (by decide) ?_
                refine yk_iadd dL_law_348 ?_
                refine y_ck (fun hc => ?_)
                refine y_sld hX hc dL_law_349 ?_
                refine y_aload_nT dL_law_350 rfl rfl ?_
                refine y_iload_n dL_law_351 rfl rfl ?_
                refine y_iconst dL_law_352 (by decide) ?_
                refine yk_iadd dL_law_353 ?_
                refine y_ck (fun hc => ?_)
                refine y_sld hX hc dL_law_354 ?_
                refine y_aload_nT dL_law_355 rfl rfl ?_
                refine y_iload_n dL_law_356 rfl rfl ?_
                refine y_iconst dL_law_357 (by decide) ?_
                refine yk_iadd dL_law_358 ?_
                refine y_ck (fun hc => ?_)
                refine y_sld hX hc dL_law_359 ?_
                refine y_ckP (fun hp36 => ?_)
                refine y_ckP (fun hc37 => ?_)
                refine y_cvIS (by rw [hp36.2]; exact qX9_asks hp36.1 (xs (x3 + 1).toNat) (xs (x3 + 2).toNat) (xs (x3 + 3).toNat) σ) kL_31 rfl hc37 rfl (Nat.le_of_ble_eq_true rfl) rfl (Nat.le_of_ble_eq_true rfl) dL_law_360 (fun r38 σ39 => ?_)
                refine y_aload_n dL_law_363 rfl rfl ?_
                refine y_aload_nT dL_law_364 rfl rfl ?_
                refine y_iload_n dL_law_365 rfl rfl ?_
                refine y_iconst dL_law_366 (by decide) ?_
                refine yk_iadd dL_law_367 ?_
                refine y_ck (fun hc => ?_)
                refine y_sld hX hc dL_law_368 ?_
                refine y_aload_nT dL_law_369 rfl rfl ?_
                refine y_iload_n dL_law_370 rfl rfl ?_
                refine y_iconst dL_law_371 (by decide) ?_
                refine yk_iadd dL_law_372 ?_
                refine y_ck (fun hc => ?_)
                refine y_sld hX hc dL_law_373 ?_
                refine y_aload_nT dL_law_374 rfl rfl ?_
                refine y_iload_n dL_law_375 rfl rfl ?_
                refine y_iconst dL_law_376 (by decide) ?_
                refine yk_iadd dL_law_377 ?_
                refine y_ck (fun hc => ?_)
                refine y_sld hX hc dL_law_378 ?_
                refine y_ckP (fun hp40 => ?_)
                refine y_ckP (fun hc41 => ?_)
                refine y_cvIS (by rw [hp40.2]; exact qX10_asks hp40.1 (xs (x3 + 1).toNat) (xs (x3 + 2).toNat) (xs (x3 + 3).toNat) σ39) kL_35 rfl hc41 rfl (Nat.le_of_ble_eq_true rfl) rfl (Nat.le_of_ble_eq_true rfl) dL_law_379 (fun r42 σ43 => ?_)
                refine y_ite (fun h44 => ?_) (fun h44 => ?_)
                · refine y_icmp_eq_t dL_law_382 (t := 1181) rfl h44 ?_
                  refine yk_iinc dL_law_1181 rfl (L' := [some (aT 7), some (aR x1), some (aR x2), some (aI (x3 + 6))]) rfl ?_
                  refine y_goto dL_law_1184 (t := 18) rfl ?_
                  exact ih x1 x2 (x3 + 6) K σ43
                · refine y_icmp_eq_f dL_law_382 (t := 1181) rfl h44 ?_
                  refine y_iconst dL_law_385 (by decide) ?_
                  exact y_zret (by decide) rfl rfl dL_law_386
              · refine y_ite (fun h355 => ?_) (fun h355 => ?_)
                · refine y_tab_in dL_law_33 (t := 387) (off := 354) (by omega) (by rw [h355]; rfl) rfl ?_
                  refine y_aload_n dL_law_387 rfl rfl ?_
                  refine y_aload_nT dL_law_388 rfl rfl ?_
                  refine y_iload_n dL_law_389 rfl rfl ?_
                  refine y_iconst dL_law_390 (by decide) ?_
                  refine yk_iadd dL_law_391 ?_
                  refine y_ck (fun hc => ?_)
                  refine y_sld hX hc dL_law_392 ?_
                  refine y_aload_nT dL_law_393 rfl rfl ?_
                  refine y_iload_n dL_law_394 rfl rfl ?_
                  refine y_iconst dL_law_395 (by decide) ?_
                  refine yk_iadd dL_law_396 ?_
                  refine y_ck (fun hc => ?_)
                  refine y_sld hX hc dL_law_397 ?_
                  refine y_ckP (fun hp45 => ?_)
                  refine y_ckP (fun hc46 => ?_)
                  refine y_cvIS (by rw [hp45.2]; exact qX9_terms hp45.1 (xs (x3 + 1).toNat) (xs (x3 + 2).toNat) σ) kL_36 rfl hc46 rfl (Nat.le_of_ble_eq_true rfl) rfl (Nat.le_of_ble_eq_true rfl) dL_law_398 (fun r47 σ48 => ?_)
                  refine y_aload_n dL_law_401 rfl rfl ?_
                  refine y_aload_nT dL_law_402 rfl rfl ?_
                  refine y_iload_n dL_law_403 rfl rfl ?_
                  refine y_iconst dL_law_404 (by decide) ?_
                  refine yk_iadd dL_law_405 ?_
                  refine y_ck (fun hc => ?_)
                  refine y_sld hX hc dL_law_406 ?_
                  refine y_aload_nT dL_law_407 rfl rfl ?_
                  refine y_iload_n dL_law_408 rfl rfl ?_
                  refine y_iconst dL_law_409 (by decide) ?_
                  refine yk_iadd dL_law_410 ?_
                  refine y_ck (fun hc => ?_)
                  refine y_sld hX hc dL_law_411 ?_
                  refine y_ckP (fun hp49 => ?_)
                  refine y_ckP (fun hc50 => ?_)
                  refine y_cvIS (by rw [hp49.2]; exact qX10_terms hp49.1 (xs (x3 + 1).toNat) (xs (x3 + 2).toNat) σ48) kL_39 rfl hc50 rfl (Nat.le_of_ble_eq_true rfl) rfl (Nat.le_of_ble_eq_true rfl) dL_law_412 (fun r51 σ52 => ?_)
                  refine y_ite (fun h53 => ?_) (fun h53 => ?_)
                  · refine y_icmp_eq_t dL_law_415 (t := 1181) rfl h53 ?_
                    refine yk_iinc dL_law_1181 rfl (L' := [some (aT 7), some (aR x1), some (aR x2), some (aI (x3 + 6))]) rfl ?_
                    refine y_goto dL_law_1184 (t := 18) rfl ?_
                    exact ih x1 x2 (x3 + 6) K σ52
                  · refine y_icmp_eq_f dL_law_415 (t := 1181) rfl h53 ?_
                    refine y_iconst dL_law_418 (by decide) ?_
                    exact y_zret (by decide) rfl rfl dL_law_419
                · refine y_ite (fun h354 => ?_) (fun h354 => ?_)
                  · refine y_tab_in dL_law_33 (t := 420) (off := 387) (by omega) (by rw [h354]; rfl) rfl ?_
                    refine y_aload_n dL_law_420 rfl rfl ?_
                    refine y_aload_nT dL_law_421 rfl rfl ?_
                    refine y_iload_n dL_law_422 rfl rfl ?_
                    refine y_iconst dL_law_423 (by decide) ?_
                    refine yk_iadd dL_law_424 ?_
                    refine y_ck (fun hc => ?_)
                    refine y_sld hX hc dL_law_425 ?_
                    refine y_aload_nT dL_law_426 rfl rfl ?_
                    refine y_iload_n dL_law_427 rfl rfl ?_
                    refine y_iconst dL_law_428 (by decide) ?_
                    refine yk_iadd dL_law_429 ?_
                    refine y_ck (fun hc => ?_)
                    refine y_sld hX hc dL_law_430 ?_
                    refine y_aload_nT dL_law_431 rfl rfl ?_
                    refine y_iload_n dL_law_432 rfl rfl ?_
                    refine y_iconst dL_law_433 (by decide) ?_
                    refine yk_iadd dL_law_434 ?_
                    refine y_ck (fun hc => ?_)
                    refine y_sld hX hc dL_law_435 ?_
                    refine y_aload_nT dL_law_436 rfl rfl ?_
                    refine y_iload_n dL_law_437 rfl rfl ?_
                    refine y_iconst dL_law_438 (by decide) ?_
                    refine yk_iadd dL_law_439 ?_
                    refine y_ck (fun hc => ?_)
                    refine y_sld hX hc dL_law_440 ?_
                    refine y_aload_nT dL_law_441 rfl rfl ?_
                    refine y_iload_n dL_law_442 rfl rfl ?_
                    refine y_iconst dL_law_443 (by decide) ?_
                    refine yk_iadd dL_law_444 ?_
                    refine y_ck (fun hc => ?_)
                    refine y_sld hX hc dL_law_445 ?_
                    refine y_ckP (fun hp54 => ?_)
                    refine y_ckP (fun hc55 => ?_)
                    refine y_cvIS (by rw [hp54.2]; exact qX9_feed hp54.1 (xs (x3 + 1).toNat) (xs (x3 + 2).toNat) (xs (x3 + 3).toNat) (xs (x3 + 4).toNat) (xs (x3 + 5).toNat) σ) kL_40 rfl hc55 rfl (Nat.le_of_ble_eq_true rfl) rfl (Nat.le_of_ble_eq_true rfl) dL_law_446 (fun r56 σ57 => ?_)
                    refine y_aload_n dL_law_449 rfl rfl ?_
                    refine y_aload_nT dL_law_450 rfl rfl ?_
                    refine y_iload_n dL_law_451 rfl rfl ?_
                    refine y_iconst dL_law_452 (by decide) ?_
                    refine yk_iadd dL_law_453 ?_
                    refine y_ck (fun hc => ?_)
                    refine y_sld hX hc dL_law_454 ?_
                    refine y_aload_nT dL_law_455 rfl rfl ?_
                    refine y_iload_n dL_law_456 rfl rfl ?_
                    refine y_iconst dL_law_457 (by decide) ?_
                    refine yk_iadd dL_law_458 ?_
                    refine y_ck (fun hc => ?_)
                    refine y_sld hX hc dL_law_459 ?_
                    refine y_aload_nT dL_law_460 rfl rfl ?_
                    refine y_iload_n dL_law_461 rfl rfl ?_
                    refine y_iconst dL_law_462 (by decide) ?_
                    refine yk_iadd dL_law_463 ?_
                    refine y_ck (fun hc => ?_)
                    refine y_sld hX hc dL_law_464 ?_
                    refine y_aload_nT dL_law_465 rfl rfl ?_
                    refine y_iload_n dL_law_466 rfl rfl ?_
                    refine y_iconst dL_law_467 (by decide) ?_
                    refine yk_iadd dL_law_468 ?_
                    refine y_ck (fun hc => ?_)
                    refine y_sld hX hc dL_law_469 ?_
                    refine y_aload_nT dL_law_470 rfl rfl ?_
                    refine y_iload_n dL_law_471 rfl rfl ?_
                    refine y_iconst dL_law_472 (by decide) ?_
                    refine yk_iadd dL_law_473 ?_
                    refine y_ck (fun hc => ?_)
                    refine y_sld hX hc dL_law_474 ?_
                    refine y_ckP (fun hp58 => ?_)
                    refine y_ckP (fun hc59 => ?_)
                    refine y_cvIS (by rw [hp58.2]; exact qX10_feed hp58.1 (xs (x3 + 1).toNat) (xs (x3 + 2).toNat) (xs (x3 + 3).toNat) (xs (x3 + 4).toNat) (xs (x3 + 5).toNat) σ57) kL_44 rfl hc59 rfl (Nat.le_of_ble_eq_true rfl) rfl (Nat.le_of_ble_eq_true rfl) dL_law_475 (fun r60 σ61 => ?_)
                    refine y_ite (fun h62 => ?_) (fun h62 => ?_)
                    · refine y_icmp_eq_t dL_law_478 (t := 1181) rfl h62 ?_
                      refine yk_iinc dL_law_1181 rfl (L' := [some (aT 7), some (aR x1), some (aR x2), some (aI (x3 + 6))]) rfl ?_
                      refine y_goto dL_law_1184 (t := 18) rfl ?_
                      exact ih x1 x2 (x3 + 6) K σ61
                    · refine y_icmp_eq_f dL_law_478 (t := 1181) rfl h62 ?_
                      refine y_iconst dL_law_481 (by decide) ?_
                      exact y_zret (by decide) rfl rfl dL_law_482
                  · refine y_ite (fun h353 => ?_) (fun h353 => ?_)
                    · refine y_tab_in dL_law_33 (t := 483) (off := 450) (by omega) (by rw [h353]; rfl) rfl ?_
                      refine y_aload_n dL_law_483 rfl rfl ?_
                      refine y_aload_nT dL_law_484 rfl rfl ?_
                      refine y_iload_n dL_law_485 rfl rfl ?_
                      refine y_iconst dL_law_486 (by decide) ?_
                      refine yk_iadd dL_law_487 ?_
                      refine y_ck (fun hc => ?_)
                      refine y_sld hX hc dL_law_488 ?_
                      refine y_ckP (fun hp63 => ?_)
                      refine y_ckP (fun hc64 => ?_)
                      refine y_cvIS (by rw [hp63.2]; exact qX9_end hp63.1 (xs (x3 + 1).toNat) σ) kL_45 rfl hc64 rfl (Nat.le_of_ble_eq_true rfl) rfl (Nat.le_of_ble_eq_true rfl) dL_law_489 (fun r65 σ66 => ?_)
                      refine y_aload_n dL_law_492 rfl rfl ?_
                      refine y_aload_nT dL_law_493 rfl rfl ?_
                      refine y_iload_n dL_law_494 rfl rfl ?_
                      refine y_iconst dL_law_495 (by decide) ?_
                      refine yk_iadd dL_law_496 ?_
                      refine y_ck (fun hc => ?_)
                      refine y_sld hX hc dL_law_497 ?_
                      refine y_ckP (fun hp67 => ?_)
                      refine y_ckP (fun hc68 => ?_)
                      refine y_cvIS (by rw [hp67.2]; exact qX10_end hp67.1 (xs (x3 + 1).toNat) σ66) kL_49 rfl hc68 rfl (Nat.le_of_ble_eq_true rfl) rfl (Nat.le_of_ble_eq_true rfl) dL_law_498 (fun r69 σ70 => ?_)
                      refine y_ite (fun h71 => ?_) (fun h71 => ?_)
                      · refine y_icmp_eq_t dL_law_501 (t := 1181) rfl h71 ?_
                        refine yk_iinc dL_law_1181 rfl (L' := [some (aT 7), some (aR x1), some (aR x2), some (aI (x3 + 6))]) rfl ?_
                        refine y_goto dL_law_1184 (t := 18) rfl ?_
                        exact ih x1 x2 (x3 + 6) K σ70
                      · refine y_icmp_eq_f dL_law_501 (t := 1181) rfl h71 ?_
                        refine y_iconst dL_law_504 (by decide) ?_
                        exact y_zret (by decide) rfl rfl dL_law_505
                    · refine y_ite (fun h352 => ?_) (fun h352 => ?_)
                      · refine y_tab_in dL_law_33 (t := 506) (off := 473) (by omega) (by rw [h352]; rfl) rfl ?_
                        refine y_aload_n dL_law_506 rfl rfl ?_
                        refine y_ckP (fun hp72 => ?_)
                        refine y_ckP (fun hc73 => ?_)
                        refine y_cvIS (by rw [hp72.2]; exact qX9_row hp72.1 σ) kL_50 rfl hc73 rfl (Nat.le_of_ble_eq_true rfl) rfl (Nat.le_of_ble_eq_true rfl) dL_law_507 (fun r74 σ75 => ?_)
                        refine y_aload_n dL_law_510 rfl rfl ?_
                        refine y_ckP (fun hp76 => ?_)
                        refine y_ckP (fun hc77 => ?_)
                        refine y_cvIS (by rw [hp76.2]; exact qX10_row hp76.1 σ75) kL_54 rfl hc77 rfl (Nat.le_of_ble_eq_true rfl) rfl (Nat.le_of_ble_eq_true rfl) dL_law_511 (fun r78 σ79 => ?_)
                        refine y_ite (fun h80 => ?_) (fun h80 => ?_)
                        · refine y_icmp_eq_t dL_law_514 (t := 1181) rfl h80 ?_
                          refine yk_iinc dL_law_1181 rfl (L' := [some (aT 7), some (aR x1), some (aR x2), some (aI (x3 + 6))]) rfl ?_
                          refine y_goto dL_law_1184 (t := 18) rfl ?_
                          exact ih x1 x2 (x3 + 6) K σ79
                        · refine y_icmp_eq_f dL_law_514 (t := 1181) rfl h80 ?_
                          refine y_iconst dL_law_517 (by decide) ?_
                          exact y_zret (by decide) rfl rfl dL_law_518
                      · refine y_ite (fun h351 => ?_) (fun h351 => ?_)
                        · refine y_tab_in dL_law_33 (t := 519) (off := 486) (by omega) (by rw [h351]; rfl) rfl ?_
                          refine y_aload_n dL_law_519 rfl rfl ?_
                          refine y_ckP (fun hp81 => ?_)
                          refine y_ckP (fun hc82 => ?_)
                          refine y_cvI (by rw [hp81.2]; exact qX9_slips hp81.1 σ) kL_55 rfl hc82 rfl (Nat.le_of_ble_eq_true rfl) rfl (Nat.le_of_ble_eq_true rfl) dL_law_520 (fun r83 => ?_)
                          refine y_aload_n dL_law_523 rfl rfl ?_
                          refine y_ckP (fun hp84 => ?_)
                          refine y_ckP (fun hc85 => ?_)
                          refine y_cvIS (by rw [hp84.2]; exact qX10_slips hp84.1 σ) kL_58 rfl hc85 rfl (Nat.le_of_ble_eq_true rfl) rfl (Nat.le_of_ble_eq_true rfl) dL_law_524 (fun r86 σ87 => ?_)
                          refine y_ite (fun h88 => ?_) (fun h88 => ?_)
                          · refine y_icmp_eq_t dL_law_527 (t := 1181) rfl h88 ?_
                            refine yk_iinc dL_law_1181 rfl (L' := [some (aT 7), some (aR x1), some (aR x2), some (aI (x3 + 6))]) rfl ?_
                            refine y_goto dL_law_1184 (t := 18) rfl ?_
                            exact ih x1 x2 (x3 + 6) K σ87
                          · refine y_icmp_eq_f dL_law_527 (t := 1181) rfl h88 ?_
                            refine y_iconst dL_law_530 (by decide) ?_
                            exact y_zret (by decide) rfl rfl dL_law_531
                        · refine y_ite (fun h350 => ?_) (fun h350 => ?_)
                          · refine y_tab_in dL_law_33 (t := 532) (off := 499) (by omega) (by rw [h350]; rfl) rfl ?_
                            refine y_aload_n dL_law_532 rfl rfl ?_
                            refine y_ckP (fun hp89 => ?_)
                            refine y_ckP (fun hc90 => ?_)
                            refine y_cvIK (by rw [hp89]; exact qX9_law K σ (fun ou hou => (tX9_law (Γ := Γ) K σ ou hou).1)) kL_59 rfl hc90 rfl (Nat.le_of_ble_eq_true rfl) rfl (Nat.le_of_ble_eq_true rfl) dL_law_533 (fun r91 K92 σ93 => ?_)
                            refine y_aload_n dL_law_536 rfl rfl ?_
                            refine y_ckP (fun hp94 => ?_)
                            refine y_ckP (fun hc95 => ?_)
                            refine y_cvIS (by rw [hp94.2]; exact qX10_law hp94.1 σ93) kL_62 rfl hc95 rfl (Nat.le_of_ble_eq_true rfl) rfl (Nat.le_of_ble_eq_true rfl) dL_law_537 (fun r96 σ97 => ?_)
                            refine y_ite (fun h98 => ?_) (fun h98 => ?_)
                            · refine y_icmp_eq_t dL_law_540 (t := 1181) rfl h98 ?_
                              refine yk_iinc dL_law_1181 rfl (L' := [some (aT 7), some (aR x1), some (aR x2), some (aI (x3 + 6))]) rfl ?_
                              refine y_goto dL_law_1184 (t := 18) rfl ?_
                              exact ih x1 x2 (x3 + 6) K92 σ97
                            · refine y_icmp_eq_f dL_law_540 (t := 1181) rfl h98 ?_
                              refine y_iconst dL_law_543 (by decide) ?_
                              exact y_zret (by decide) rfl rfl dL_law_544
                          · refine y_ite (fun h349 => ?_) (fun h349 => ?_)
                            · refine y_tab_in dL_law_33 (t := 545) (off := 512) (by omega) (by rw [h349]; rfl) rfl ?_
                              refine y_aload_n dL_law_545 rfl rfl ?_
                              refine y_ckP (fun hp99 => ?_)
                              refine y_ckP (fun hc100 => ?_)
                              refine y_cvIK (by rw [hp99]; exact qX9_orders K σ (fun ou hou => (tX9_orders (Γ := Γ) K σ ou hou).1)) kL_63 rfl hc100 rfl (Nat.le_of_ble_eq_true rfl) rfl (Nat.le_of_ble_eq_true rfl) dL_law_546 (fun r101 K102 σ103 => ?_)
                              refine y_aload_n dL_law_549 rfl rfl ?_
                              refine y_ckP (fun hp104 => ?_)
                              refine y_ckP (fun hc105 => ?_)
                              refine y_cvIS (by rw [hp104.2]; exact qX10_orders hp104.1 σ103) kL_66 rfl hc105 rfl (Nat.le_of_ble_eq_true rfl) rfl (Nat.le_of_ble_eq_true rfl) dL_law_550 (fun r106 σ107 => ?_)
                              refine y_ite (fun h108 => ?_) (fun h108 => ?_)
                              · refine y_icmp_eq_t dL_law_553 (t := 1181) rfl h108 ?_
                                refine yk_iinc dL_law_1181 rfl (L' := [some (aT 7), some (aR x1), some (aR x2), some (aI (x3 + 6))]) rfl ?_
                                refine y_goto dL_law_1184 (t := 18) rfl ?_
                                exact ih x1 x2 (x3 + 6) K102 σ107
                              · refine y_icmp_eq_f dL_law_553 (t := 1181) rfl h108 ?_
                                refine y_iconst dL_law_556 (by decide) ?_
                                exact y_zret (by decide) rfl rfl dL_law_557
                            · refine y_ite (fun h348 => ?_) (fun h348 => ?_)
                              · refine y_tab_in dL_law_33 (t := 558) (off := 525) (by omega) (by rw [h348]; rfl) rfl ?_
                                refine y_aload_n dL_law_558 rfl rfl ?_
                                refine y_ckP (fun hp109 => ?_)
                                refine y_ckP (fun hc110 => ?_)
                                refine y_cvI (by rw [hp109.2]; exact qX9_fault hp109.1 σ) kL_67 rfl hc110 rfl (Nat.le_of_ble_eq_true rfl) rfl (Nat.le_of_ble_eq_true rfl) dL_law_559 (fun r111 => ?_)
                                refine y_aload_n dL_law_562 rfl rfl ?_
                                refine y_ckP (fun hp112 => ?_)
                                refine y_ckP (fun hc113 => ?_)
                                refine y_cvIS (by rw [hp112.2]; exact qX10_fault hp112.1 σ) kL_70 rfl hc113 rfl (Nat.le_of_ble_eq_true rfl) rfl (Nat.le_of_ble_eq_true rfl) dL_law_563 (fun r114 σ115 => ?_)
                                refine y_ite (fun h116 => ?_) (fun h116 => ?_)
                                · refine y_icmp_eq_t dL_law_566 (t := 1181) rfl h116 ?_
                                  refine yk_iinc dL_law_1181 rfl (L' := [some (aT 7), some (aR x1), some (aR x2), some (aI (x3 + 6))]) rfl ?_
                                  refine y_goto dL_law_1184 (t := 18) rfl ?_
                                  exact ih x1 x2 (x3 + 6) K σ115
                                · refine y_icmp_eq_f dL_law_566 (t := 1181) rfl h116 ?_
                                  refine y_iconst dL_law_569 (by decide) ?_
                                  exact y_zret (by decide) rfl rfl dL_law_570
                              · refine y_ite (fun h347 => ?_) (fun h347 => ?_)
                                · refine y_tab_in dL_law_33 (t := 571) (off := 538) (by omega) (by rw [h347]; rfl) rfl ?_
                                  refine y_aload_n dL_law_571 rfl rfl ?_
                                  refine y_ckP (fun hp117 => ?_)
                                  refine y_ckP (fun hc118 => ?_)
                                  refine y_cvI (by rw [hp117.2]; exact qX9_stopped hp117.1 σ) kL_71 rfl hc118 rfl (Nat.le_of_ble_eq_true rfl) rfl (Nat.le_of_ble_eq_true rfl) dL_law_572 (fun r119 => ?_)
                                  refine y_aload_n dL_law_575 rfl rfl ?_
                                  refine y_ckP (fun hp120 => ?_)
                                  refine y_ckP (fun hc121 => ?_)
                                  refine y_cvIS (by rw [hp120.2]; exact qX10_stopped hp120.1 σ) kL_74 rfl hc121 rfl (Nat.le_of_ble_eq_true rfl) rfl (Nat.le_of_ble_eq_true rfl) dL_law_576 (fun r122 σ123 => ?_)
                                  refine y_ite (fun h124 => ?_) (fun h124 => ?_)
                                  · refine y_icmp_eq_t dL_law_579 (t := 1181) rfl h124 ?_
                                    refine yk_iinc dL_law_1181 rfl (L' := [some (aT 7), some (aR x1), some (aR x2), some (aI (x3 + 6))]) rfl ?_
                                    refine y_goto dL_law_1184 (t := 18) rfl ?_
                                    exact ih x1 x2 (x3 + 6) K σ123
                                  · refine y_icmp_eq_f dL_law_579 (t := 1181) rfl h124 ?_
                                    refine y_iconst dL_law_582 (by decide) ?_
                                    exact y_zret (by decide) rfl rfl dL_law_583
                                · refine y_ite (fun h346 => ?_) (fun h346 => ?_)
                                  · refine y_tab_in dL_law_33 (t := 584) (off := 551) (by omega) (by rw [h346]; rfl) rfl ?_
                                    refine y_aload_n dL_law_584 rfl rfl ?_
                                    refine y_aload_nT dL_law_585 rfl rfl ?_
                                    refine y_iload_n dL_law_586 rfl rfl ?_
                                    refine y_iconst dL_law_587 (by decide) ?_
                                    refine yk_iadd dL_law_588 ?_
                                    refine y_ck (fun hc => ?_)
                                    refine y_sld hX hc dL_law_589 ?_
                                    refine y_ckP (fun hp125 => ?_)
                                    refine y_ckP (fun hc126 => ?_)
                                    refine y_cvIS (by rw [hp125.2]; exact qX9_force hp125.1 (xs (x3 + 1).toNat) σ) kL_75 rfl hc126 rfl (Nat.le_of_ble_eq_true rfl) rfl (Nat.le_of_ble_eq_true rfl) dL_law_590 (fun r127 σ128 => ?_)
                                    refine y_aload_n dL_law_593 rfl rfl ?_
                                    refine y_aload_nT dL_law_594 rfl rfl ?_
                                    refine y_iload_n dL_law_595 rfl rfl ?_
                                    refine y_iconst dL_law_596 (by decide) ?_
                                    refine yk_iadd dL_law_597 ?_
                                    refine y_ck (fun hc => ?_)
                                    refine y_sld hX hc dL_law_598 ?_
                                    refine y_ckP (fun hp129 => ?_)
                                    refine y_ckP (fun hc130 => ?_)
                                    refine y_cvIS (by rw [hp129.2]; exact qX10_force hp129.1 (xs (x3 + 1).toNat) σ128) kL_78 rfl hc130 rfl (Nat.le_of_ble_eq_true rfl) rfl (Nat.le_of_ble_eq_true rfl) dL_law_599 (fun r131 σ132 => ?_)
                                    refine y_ite (fun h133 => ?_) (fun h133 => ?_)
                                    · refine y_icmp_eq_t dL_law_602 (t := 1181) rfl h133 ?_
                                      refine yk_iinc dL_law_1181 rfl (L' := [some (aT 7), some (aR x1), some (aR x2), some (aI (x3 + 6))]) rfl ?_
                                      refine y_goto dL_law_1184 (t := 18) rfl ?_
                                      exact ih x1 x2 (x3 + 6) K σ132
                                    · refine y_icmp_eq_f dL_law_602 (t := 1181) rfl h133 ?_
                                      refine y_iconst dL_law_605 (by decide) ?_
                                      exact y_zret (by decide) rfl rfl dL_law_606
                                  · refine y_ite (fun h345 => ?_) (fun h345 => ?_)
                                    · refine y_tab_in dL_law_33 (t := 607) (off := 574) (by omega) (by rw [h345]; rfl) rfl ?_
                                      refine y_aload_n dL_law_607 rfl rfl ?_
                                      refine y_aload_nT dL_law_608 rfl rfl ?_
                                      refine y_iload_n dL_law_609 rfl rfl ?_
                                      refine y_iconst dL_law_610 (by decide) ?_
                                      refine yk_iadd dL_law_611 ?_
                                      refine y_ck (fun hc => ?_)
                                      refine y_sld hX hc dL_law_612 ?_
                                      refine y_aload_nT dL_law_613 rfl rfl ?_
                                      refine y_iload_n dL_law_614 rfl rfl ?_
                                      refine y_iconst dL_law_615 (by decide) ?_
                                      refine yk_iadd dL_law_616 ?_
                                      refine y_ck (fun hc => ?_)
                                      refine y_sld hX hc dL_law_617 ?_
                                      refine y_ckP (fun hp134 => ?_)
                                      refine y_ckP (fun hc135 => ?_)
                                      refine y_cvIK (by rw [hp134]; exact qX9_lend (xs (x3 + 1).toNat) (xs (x3 + 2).toNat) K σ (fun ou hou => (tX9_lend (Γ := Γ) (xs (x3 + 1).toNat) (xs (x3 + 2).toNat) K σ ou hou).1)) kL_79 rfl hc135 rfl (Nat.le_of_ble_eq_true rfl) rfl (Nat.le_of_ble_eq_true rfl) dL_law_618 (fun r136 K137 σ138 => ?_)
                                      refine y_aload_n dL_law_621 rfl rfl ?_
                                      refine y_aload_nT dL_law_622 rfl rfl ?_
                                      refine y_iload_n dL_law_623 rfl rfl ?_
                                      refine y_iconst dL_law_624 (by decide) ?_
                                      refine yk_iadd dL_law_625 ?_
                                      refine y_ck (fun hc => ?_)
                                      refine y_sld hX hc dL_law_626 ?_
                                      refine y_aload_nT dL_law_627 rfl rfl ?_
                                      refine y_iload_n dL_law_628 rfl rfl ?_
                                      refine y_iconst dL_law_629 (by decide) ?_
                                      refine yk_iadd dL_law_630 ?_
                                      refine y_ck (fun hc => ?_)
                                      refine y_sld hX hc dL_law_631 ?_
                                      refine y_ckP (fun hp139 => ?_)
                                      refine y_ckP (fun hc140 => ?_)
                                      refine y_cvIS (by rw [hp139.2]; exact qX10_lend hp139.1 (xs (x3 + 1).toNat) (xs (x3 + 2).toNat) σ138) kL_82 rfl hc140 rfl (Nat.le_of_ble_eq_true rfl) rfl (Nat.le_of_ble_eq_true rfl) dL_law_632 (fun r141 σ142 => ?_)
                                      refine y_ite (fun h143 => ?_) (fun h143 => ?_)
                                      · refine y_icmp_eq_t dL_law_635 (t := 1181) rfl h143 ?_
                                        refine yk_iinc dL_law_1181 rfl (L' := [some (aT 7), some (aR x1), some (aR x2), some (aI (x3 + 6))]) rfl ?_
                                        refine y_goto dL_law_1184 (t := 18) rfl ?_
                                        exact ih x1 x2 (x3 + 6) K137 σ142
                                      · refine y_icmp_eq_f dL_law_635 (t := 1181) rfl h143 ?_
                                        refine y_iconst dL_law_638 (by decide) ?_
                                        exact y_zret (by decide) rfl rfl dL_law_639
                                    · refine y_ite (fun h344 => ?_) (fun h344 => ?_)
                                      · refine y_tab_in dL_law_33 (t := 640) (off := 607) (by omega) (by rw [h344]; rfl) rfl ?_
                                        refine y_aload_n dL_law_640 rfl rfl ?_
                                        refine y_aload_nT dL_law_641 rfl rfl ?_
                                        refine y_iload_n dL_law_642 rfl rfl ?_
                                        refine y_iconst dL_law_643 (by decide) ?_
                                        refine yk_iadd dL_law_644 ?_
                                        refine y_ck (fun hc => ?_)
                                        refine y_sld hX hc dL_law_645 ?_
                                        refine y_ckP (fun hp144 => ?_)
                                        refine y_ckP (fun hc145 => ?_)
                                        refine y_cvIK (by rw [hp144]; exact qX9_bring (xs (x3 + 1).toNat) K σ (fun ou hou => (tX9_bring (Γ := Γ) (xs (x3 + 1).toNat) K σ ou hou).1)) kL_83 rfl hc145 rfl (Nat.le_of_ble_eq_true rfl) rfl (Nat.le_of_ble_eq_true rfl) dL_law_646 (fun r146 K147 σ148 => ?_)
                                        refine y_aload_n dL_law_649 rfl rfl ?_
                                        refine y_aload_nT dL_law_650 rfl rfl ?_
                                        refine y_iload_n dL_law_651 rfl rfl ?_
                                        refine y_iconst dL_law_652 (by decide) ?_
                                        refine yk_iadd dL_law_653 ?_
                                        refine y_ck (fun hc => ?_)
                                        refine y_sld hX hc dL_law_654 ?_
                                        refine y_ckP (fun hp149 => ?_)
                                        refine y_ckP (fun hc150 => ?_)
                                        refine y_cvIS (by rw [hp149.2]; exact qX10_bring hp149.1 (xs (x3 + 1).toNat) σ148) kL_86 rfl hc150 rfl (Nat.le_of_ble_eq_true rfl) rfl (Nat.le_of_ble_eq_true rfl) dL_law_655 (fun r151 σ152 => ?_)
                                        refine y_ite (fun h153 => ?_) (fun h153 => ?_)
                                        · refine y_icmp_eq_t dL_law_658 (t := 1181) rfl h153 ?_
                                          refine yk_iinc dL_law_1181 rfl (L' := [some (aT 7), some (aR x1), some (aR x2), some (aI (x3 + 6))]) rfl ?_
                                          refine y_goto dL_law_1184 (t := 18) rfl ?_
                                          exact ih x1 x2 (x3 + 6) K147 σ152
                                        · refine y_icmp_eq_f dL_law_658 (t := 1181) rfl h153 ?_
                                          refine y_iconst dL_law_661 (by decide) ?_
                                          exact y_zret (by decide) rfl rfl dL_law_662
                                      · refine y_ite (fun h343 => ?_) (fun h343 => ?_)
                                        · refine y_tab_in dL_law_33 (t := 663) (off := 630) (by omega) (by rw [h343]; rfl) rfl ?_
                                          refine y_aload_n dL_law_663 rfl rfl ?_
                                          refine y_aload_nT dL_law_664 rfl rfl ?_
                                          refine y_iload_n dL_law_665 rfl rfl ?_
                                          refine y_iconst dL_law_666 (by decide) ?_
                                          refine yk_iadd dL_law_667 ?_
                                          refine y_ck (fun hc => ?_)
                                          refine y_sld hX hc dL_law_668 ?_
                                          refine y_aload_nT dL_law_669 rfl rfl ?_
                                          refine y_iload_n dL_law_670 rfl rfl ?_
                                          refine y_iconst dL_law_671 (by decide) ?_
                                          refine yk_iadd dL_law_672 ?_
                                          refine y_ck (fun hc => ?_)
                                          refine y_sld hX hc dL_law_673 ?_
                                          refine y_ckP (fun hp154 => ?_)
                                          refine y_ckP (fun hc155 => ?_)
                                          refine y_cvIK (by rw [hp154]; exact qX9_waits (xs (x3 + 1).toNat) (xs (x3 + 2).toNat) K σ (fun ou hou => (tX9_waits (Γ := Γ) (xs (x3 + 1).toNat) (xs (x3 + 2).toNat) K σ ou hou).1)) kL_87 rfl hc155 rfl (Nat.le_of_ble_eq_true rfl) rfl (Nat.le_of_ble_eq_true rfl) dL_law_674 (fun r156 K157 σ158 => ?_)
                                          refine y_aload_n dL_law_677 rfl rfl ?_
                                          refine y_aload_nT dL_law_678 rfl rfl ?_
                                          refine y_iload_n dL_law_679 rfl rfl ?_
                                          refine y_iconst dL_law_680 (by decide) ?_
                                          refine yk_iadd dL_law_681 ?_
                                          refine y_ck (fun hc => ?_)
                                          refine y_sld hX hc dL_law_682 ?_
                                          refine y_aload_nT dL_law_683 rfl rfl ?_
                                          refine y_iload_n dL_law_684 rfl rfl ?_
                                          refine y_iconst dL_law_685 (by decide) ?_
                                          refine yk_iadd dL_law_686 ?_
                                          refine y_ck (fun hc => ?_)
                                          refine y_sld hX hc dL_law_687 ?_
                                          refine y_ckP (fun hp159 => ?_)
                                          refine y_ckP (fun hc160 => ?_)
                                          refine y_cvIS (by rw [hp159.2]; exact qX10_waits hp159.1 (xs (x3 + 1).toNat) (xs (x3 + 2).toNat) σ158) kL_90 rfl hc160 rfl (Nat.le_of_ble_eq_true rfl) rfl (Nat.le_of_ble_eq_true rfl) dL_law_688 (fun r161 σ162 => ?_)
                                          refine y_ite (fun h163 => ?_) (fun h163 => ?_)
                                          · refine y_icmp_eq_t dL_law_691 (t := 1181) rfl h163 ?_
                                            refine yk_iinc dL_law_1181 rfl (L' := [some (aT 7), some (aR x1), some (aR x2), some (aI (x3 + 6))]) rfl ?_
                                            refine y_goto dL_law_1184 (t := 18) rfl ?_
                                            exact ih x1 x2 (x3 + 6) K157 σ162
                                          · refine y_icmp_eq_f dL_law_691 (t := 1181) rfl h163 ?_
                                            refine y_iconst dL_law_694 (by decide) ?_
                                            exact y_zret (by decide) rfl rfl dL_law_695
                                        · refine y_ite (fun h342 => ?_) (fun h342 => ?_)
                                          · refine y_tab_in dL_law_33 (t := 696) (off := 663) (by omega) (by rw [h342]; rfl) rfl ?_
                                            refine y_aload_n dL_law_696 rfl rfl ?_
                                            refine y_ckP (fun hp164 => ?_)
                                            refine y_ckP (fun hc165 => ?_)
                                            refine y_cvIK (by rw [hp164]; exact qX9_pass K σ (fun ou hou => (tX9_pass (Γ := Γ) K σ ou hou).1)) kL_91 rfl hc165 rfl (Nat.le_of_ble_eq_true rfl) rfl (Nat.le_of_ble_eq_true rfl) dL_law_697 (fun r166 K167 σ168 => ?_)
                                            refine y_aload_n dL_law_700 rfl rfl ?_
                                            refine y_ckP (fun hp169 => ?_)
                                            refine y_ckP (fun hc170 => ?_)
                                            refine y_cvIS (by rw [hp169.2]; exact qX10_pass hp169.1 σ168) kL_94 rfl hc170 rfl (Nat.le_of_ble_eq_true rfl) rfl (Nat.le_of_ble_eq_true rfl) dL_law_701 (fun r171 σ172 => ?_)
                                            refine y_ite (fun h173 => ?_) (fun h173 => ?_)
                                            · refine y_icmp_eq_t dL_law_704 (t := 1181) rfl h173 ?_
                                              refine yk_iinc dL_law_1181 rfl (L' := [some (aT 7), some (aR x1), some (aR x2), some (aI (x3 + 6))]) rfl ?_
                                              refine y_goto dL_law_1184 (t := 18) rfl ?_
                                              exact ih x1 x2 (x3 + 6) K167 σ172
                                            · refine y_icmp_eq_f dL_law_704 (t := 1181) rfl h173 ?_
                                              refine y_iconst dL_law_707 (by decide) ?_
                                              exact y_zret (by decide) rfl rfl dL_law_708
                                          · refine y_ite (fun h341 => ?_) (fun h341 => ?_)
                                            · refine y_tab_in dL_law_33 (t := 709) (off := 676) (by omega) (by rw [h341]; rfl) rfl ?_
                                              refine y_aload_n dL_law_709 rfl rfl ?_
                                              refine y_ckP (fun hp174 => ?_)
                                              refine y_ckP (fun hc175 => ?_)
                                              refine y_cvIS (by rw [hp174.2]; exact qX9_undo hp174.1 σ) kL_95 rfl hc175 rfl (Nat.le_of_ble_eq_true rfl) rfl (Nat.le_of_ble_eq_true rfl) dL_law_710 (fun r176 σ177 => ?_)
                                              refine y_aload_n dL_law_713 rfl rfl ?_
                                              refine y_ckP (fun hp178 => ?_)
                                              refine y_ckP (fun hc179 => ?_)
                                              refine y_cvIS (by rw [hp178.2]; exact qX10_undo hp178.1 σ177) kL_98 rfl hc179 rfl (Nat.le_of_ble_eq_true rfl) rfl (Nat.le_of_ble_eq_true rfl) dL_law_714 (fun r180 σ181 => ?_)
                                              refine y_ite (fun h182 => ?_) (fun h182 => ?_)
                                              · refine y_icmp_eq_t dL_law_717 (t := 1181) rfl h182 ?_
                                                refine yk_iinc dL_law_1181 rfl (L' := [some (aT 7), some (aR x1), some (aR x2), some (aI (x3 + 6))]) rfl ?_
                                                refine y_goto dL_law_1184 (t := 18) rfl ?_
                                                exact ih x1 x2 (x3 + 6) K σ181
                                              · refine y_icmp_eq_f dL_law_717 (t := 1181) rfl h182 ?_
                                                refine y_iconst dL_law_720 (by decide) ?_
                                                exact y_zret (by decide) rfl rfl dL_law_721
                                            · refine y_ite (fun h340 => ?_) (fun h340 => ?_)
                                              · refine y_tab_in dL_law_33 (t := 722) (off := 689) (by omega) (by rw [h340]; rfl) rfl ?_
                                                refine y_aload_n dL_law_722 rfl rfl ?_
                                                refine y_aload_nT dL_law_723 rfl rfl ?_
                                                refine y_iload_n dL_law_724 rfl rfl ?_
                                                refine y_iconst dL_law_725 (by decide) ?_
                                                refine yk_iadd dL_law_726 ?_
                                                refine y_ck (fun hc => ?_)
                                                refine y_sld hX hc dL_law_727 ?_
                                                refine y_ckP (fun hp183 => ?_)
                                                refine y_ckP (fun hc184 => ?_)
                                                refine y_cvIS (by rw [hp183.2]; exact qX9_served hp183.1 (xs (x3 + 1).toNat) σ) kL_99 rfl hc184 rfl (Nat.le_of_ble_eq_true rfl) rfl (Nat.le_of_ble_eq_true rfl) dL_law_728 (fun r185 σ186 => ?_)
                                                refine y_aload_n dL_law_731 rfl rfl ?_
                                                refine y_aload_nT dL_law_732 rfl rfl ?_
                                                refine y_iload_n dL_law_733 rfl rfl ?_
                                                refine y_iconst dL_law_734 (by decide) ?_
                                                refine yk_iadd dL_law_735 ?_
                                                refine y_ck (fun hc => ?_)
                                                refine y_sld hX hc dL_law_736 ?_
                                                refine y_ckP (fun hp187 => ?_)
                                                refine y_ckP (fun hc188 => ?_)
                                                refine y_cvIS (by rw [hp187.2]; exact qX10_served hp187.1 (xs (x3 + 1).toNat) σ186) kL_102 rfl hc188 rfl (Nat.le_of_ble_eq_true rfl) rfl (Nat.le_of_ble_eq_true rfl) dL_law_737 (fun r189 σ190 => ?_)
                                                refine y_ite (fun h191 => ?_) (fun h191 => ?_)
                                                · refine y_icmp_eq_t dL_law_740 (t := 1181) rfl h191 ?_
                                                  refine yk_iinc dL_law_1181 rfl (L' := [some (aT 7), some (aR x1), some (aR x2), some (aI (x3 + 6))]) rfl ?_
                                                  refine y_goto dL_law_1184 (t := 18) rfl ?_
                                                  exact ih x1 x2 (x3 + 6) K σ190
                                                · refine y_icmp_eq_f dL_law_740 (t := 1181) rfl h191 ?_
                                                  refine y_iconst dL_law_743 (by decide) ?_
                                                  exact y_zret (by decide) rfl rfl dL_law_744
                                              · refine y_ite (fun h339 => ?_) (fun h339 => ?_)
                                                · refine y_tab_in dL_law_33 (t := 745) (off := 712) (by omega) (by rw [h339]; rfl) rfl ?_
                                                  refine y_aload_n dL_law_745 rfl rfl ?_
                                                  refine y_aload_nT dL_law_746 rfl rfl ?_
                                                  refine y_iload_n dL_law_747 rfl rfl ?_
                                                  refine y_iconst dL_law_748 (by decide) ?_
                                                  refine yk_iadd dL_law_749 ?_
                                                  refine y_ck (fun hc => ?_)
                                                  refine y_sld hX hc dL_law_750 ?_
                                                  refine y_ckP (fun hp192 => ?_)
                                                  refine y_ckP (fun hc193 => ?_)
                                                  refine y_cvIS (by rw [hp192.2]; exact qX9_turn hp192.1 (xs (x3 + 1).toNat) σ) kL_103 rfl hc193 rfl (Nat.le_of_ble_eq_true rfl) rfl (Nat.le_of_ble_eq_true rfl) dL_law_751 (fun r194 σ195 => ?_)
                                                  refine y_aload_n dL_law_754 rfl rfl ?_
                                                  refine y_aload_nT dL_law_755 rfl rfl ?_
                                                  refine y_iload_n dL_law_756 rfl rfl ?_
                                                  refine y_iconst dL_law_757 (by decide) ?_
                                                  refine yk_iadd dL_law_758 ?_
                                                  refine y_ck (fun hc => ?_)
                                                  refine y_sld hX hc dL_law_759 ?_
                                                  refine y_ckP (fun hp196 => ?_)
                                                  refine y_ckP (fun hc197 => ?_)
                                                  refine y_cvIS (by rw [hp196.2]; exact qX10_turn hp196.1 (xs (x3 + 1).toNat) σ195) kL_106 rfl hc197 rfl (Nat.le_of_ble_eq_true rfl) rfl (Nat.le_of_ble_eq_true rfl) dL_law_760 (fun r198 σ199 => ?_)
                                                  refine y_ite (fun h200 => ?_) (fun h200 => ?_)
                                                  · refine y_icmp_eq_t dL_law_763 (t := 1181) rfl h200 ?_
                                                    refine yk_iinc dL_law_1181 rfl (L' := [some (aT 7), some (aR x1), some (aR x2), some (aI (x3 + 6))]) rfl ?_
                                                    refine y_goto dL_law_1184 (t := 18) rfl ?_
                                                    exact ih x1 x2 (x3 + 6) K σ199
                                                  · refine y_icmp_eq_f dL_law_763 (t := 1181) rfl h200 ?_
                                                    refine y_iconst dL_law_766 (by decide) ?_
                                                    exact y_zret (by decide) rfl rfl dL_law_767
                                                · refine y_ite (fun h338 => ?_) (fun h338 => ?_)
                                                  · refine y_tab_in dL_law_33 (t := 768) (off := 735) (by omega) (by rw [h338]; rfl) rfl ?_
                                                    refine y_aload_n dL_law_768 rfl rfl ?_
                                                    refine y_aload_nT dL_law_769 rfl rfl ?_
                                                    refine y_iload_n dL_law_770 rfl rfl ?_
                                                    refine y_iconst dL_law_771 (by decide) ?_
                                                    refine yk_iadd dL_law_772 ?_
                                                    refine y_ck (fun hc => ?_)
                                                    refine y_sld hX hc dL_law_773 ?_
                                                    refine y_aload_nT dL_law_774 rfl rfl ?_
                                                    refine y_iload_n dL_law_775 rfl rfl ?_
                                                    refine y_iconst dL_law_776 (by decide) ?_
                                                    refine yk_iadd dL_law_777 ?_
                                                    refine y_ck (fun hc => ?_)
                                                    refine y_sld hX hc dL_law_778 ?_
                                                    refine y_aload_nT dL_law_779 rfl rfl ?_
                                                    refine y_iload_n dL_law_780 rfl rfl ?_
                                                    refine y_iconst dL_law_781 (by decide) ?_
                                                    refine yk_iadd dL_law_782 ?_
                                                    refine y_ck (fun hc => ?_)
                                                    refine y_sld hX hc dL_law_783 ?_
                                                    refine y_ckP (fun hp201 => ?_)
                                                    refine y_ckP (fun hc202 => ?_)
                                                    refine y_cvIS (by rw [hp201.2]; exact qX9_way hp201.1 (xs (x3 + 1).toNat) (xs (x3 + 2).toNat) (xs (x3 + 3).toNat) σ) kL_107 rfl hc202 rfl (Nat.le_of_ble_eq_true rfl) rfl (Nat.le_of_ble_eq_true rfl) dL_law_784 (fun r203 σ204 => ?_)
                                                    refine y_aload_n dL_law_787 rfl rfl ?_
                                                    refine y_aload_nT dL_law_788 rfl rfl ?_
                                                    refine y_iload_n dL_law_789 rfl rfl ?_
                                                    refine y_iconst dL_law_790 (by decide) ?_
                                                    refine yk_iadd dL_law_791 ?_
                                                    refine y_ck (fun hc => ?_)
                                                    refine y_sld hX hc dL_law_792 ?_
                                                    refine y_aload_nT dL_law_793 rfl rfl ?_
                                                    refine y_iload_n dL_law_794 rfl rfl ?_
                                                    refine y_iconst dL_law_795 (by decide) ?_
                                                    refine yk_iadd dL_law_796 ?_
                                                    refine y_ck (fun hc => ?_)
                                                    refine y_sld hX hc dL_law_797 ?_
                                                    refine y_aload_nT dL_law_798 rfl rfl ?_
                                                    refine y_iload_n dL_law_799 rfl rfl ?_
                                                    refine y_iconst dL_law_800 (by decide) ?_
                                                    refine yk_iadd dL_law_801 ?_
                                                    refine y_ck (fun hc => ?_)
                                                    refine y_sld hX hc dL_law_802 ?_
                                                    refine y_ckP (fun hp205 => ?_)
                                                    refine y_ckP (fun hc206 => ?_)
                                                    refine y_cvIS (by rw [hp205.2]; exact qX10_way hp205.1 (xs (x3 + 1).toNat) (xs (x3 + 2).toNat) (xs (x3 + 3).toNat) σ204) kL_110 rfl hc206 rfl (Nat.le_of_ble_eq_true rfl) rfl (Nat.le_of_ble_eq_true rfl) dL_law_803 (fun r207 σ208 => ?_)
                                                    refine y_ite (fun h209 => ?_) (fun h209 => ?_)
                                                    · refine y_icmp_eq_t dL_law_806 (t := 1181) rfl h209 ?_
                                                      refine yk_iinc dL_law_1181 rfl (L' := [some (aT 7), some (aR x1), some (aR x2), some (aI (x3 + 6))]) rfl ?_
                                                      refine y_goto dL_law_1184 (t := 18) rfl ?_
                                                      exact ih x1 x2 (x3 + 6) K σ208
                                                    · refine y_icmp_eq_f dL_law_806 (t := 1181) rfl h209 ?_
                                                      refine y_iconst dL_law_809 (by decide) ?_
                                                      exact y_zret (by decide) rfl rfl dL_law_810
                                                  · refine y_ite (fun h337 => ?_) (fun h337 => ?_)
                                                    · refine y_tab_in dL_law_33 (t := 811) (off := 778) (by omega) (by rw [h337]; rfl) rfl ?_
                                                      refine y_aload_n dL_law_811 rfl rfl ?_
                                                      refine y_aload_nT dL_law_812 rfl rfl ?_
                                                      refine y_iload_n dL_law_813 rfl rfl ?_
                                                      refine y_iconst dL_law_814 (by decide) ?_
                                                      refine yk_iadd dL_law_815 ?_
                                                      refine y_ck (fun hc => ?_)
                                                      refine y_sld hX hc dL_law_816 ?_
                                                      refine y_aload_nT dL_law_817 rfl rfl ?_
                                                      refine y_iload_n dL_law_818 rfl rfl ?_
                                                      refine y_iconst dL_law_819 (by decide) ?_
                                                      refine yk_iadd dL_law_820 ?_
                                                      refine y_ck (fun hc => ?_)
                                                      refine y_sld hX hc dL_law_821 ?_
                                                      refine y_aload_nT dL_law_822 rfl rfl ?_
                                                      refine y_iload_n dL_law_823 rfl rfl ?_
                                                      refine y_iconst dL_law_824 (by decide) ?_
                                                      refine yk_iadd dL_law_825 ?_
                                                      refine y_ck (fun hc => ?_)
                                                      refine y_sld hX hc dL_law_826 ?_
                                                      refine y_ckP (fun hp210 => ?_)
                                                      refine y_ckP (fun hc211 => ?_)
                                                      refine y_cvIS (by rw [hp210.2]; exact qX9_sets hp210.1 (xs (x3 + 1).toNat) (xs (x3 + 2).toNat) (xs (x3 + 3).toNat) σ) kL_111 rfl hc211 rfl (Nat.le_of_ble_eq_true rfl) rfl (Nat.le_of_ble_eq_true rfl) dL_law_827 (fun r212 σ213 => ?_)
                                                      refine y_aload_n dL_law_830 rfl rfl ?_
                                                      refine y_aload_nT dL_law_831 rfl rfl ?_
                                                      refine y_iload_n dL_law_832 rfl rfl ?_
                                                      refine y_iconst dL_law_833 (by decide) ?_
                                                      refine yk_iadd dL_law_834 ?_
                                                      refine y_ck (fun hc => ?_)
                                                      refine y_sld hX hc dL_law_835 ?_
                                                      refine y_aload_nT dL_law_836 rfl rfl ?_
                                                      refine y_iload_n dL_law_837 rfl rfl ?_
                                                      refine y_iconst dL_law_838 (by decide) ?_
                                                      refine yk_iadd dL_law_839 ?_
                                                      refine y_ck (fun hc => ?_)
                                                      refine y_sld hX hc dL_law_840 ?_
                                                      refine y_aload_nT dL_law_841 rfl rfl ?_
                                                      refine y_iload_n dL_law_842 rfl rfl ?_
                                                      refine y_iconst dL_law_843 (by decide) ?_
                                                      refine yk_iadd dL_law_844 ?_
                                                      refine y_ck (fun hc => ?_)
                                                      refine y_sld hX hc dL_law_845 ?_
                                                      refine y_ckP (fun hp214 => ?_)
                                                      refine y_ckP (fun hc215 => ?_)
                                                      refine y_cvIS (by rw [hp214.2]; exact qX10_sets hp214.1 (xs (x3 + 1).toNat) (xs (x3 + 2).toNat) (xs (x3 + 3).toNat) σ213) kL_114 rfl hc215 rfl (Nat.le_of_ble_eq_true rfl) rfl (Nat.le_of_ble_eq_true rfl) dL_law_846 (fun r216 σ217 => ?_)
                                                      refine y_ite (fun h218 => ?_) (fun h218 => ?_)
                                                      · refine y_icmp_eq_t dL_law_849 (t := 1181) rfl h218 ?_
                                                        refine yk_iinc dL_law_1181 rfl (L' := [some (aT 7), some (aR x1), some (aR x2), some (aI (x3 + 6))]) rfl ?_
                                                        refine y_goto dL_law_1184 (t := 18) rfl ?_
                                                        exact ih x1 x2 (x3 + 6) K σ217
                                                      · refine y_icmp_eq_f dL_law_849 (t := 1181) rfl h218 ?_
                                                        refine y_iconst dL_law_852 (by decide) ?_
                                                        exact y_zret (by decide) rfl rfl dL_law_853
                                                    · refine y_ite (fun h336 => ?_) (fun h336 => ?_)
                                                      · refine y_tab_in dL_law_33 (t := 854) (off := 821) (by omega) (by rw [h336]; rfl) rfl ?_
                                                        refine y_aload_n dL_law_854 rfl rfl ?_
                                                        refine y_aload_nT dL_law_855 rfl rfl ?_
                                                        refine y_iload_n dL_law_856 rfl rfl ?_
                                                        refine y_iconst dL_law_857 (by decide) ?_
                                                        refine yk_iadd dL_law_858 ?_
                                                        refine y_ck (fun hc => ?_)
                                                        refine y_sld hX hc dL_law_859 ?_
                                                        refine y_aload_nT dL_law_860 rfl rfl ?_
                                                        refine y_iload_n dL_law_861 rfl rfl ?_
                                                        refine y_iconst dL_law_862 (by decide) ?_
                                                        refine yk_iadd dL_law_863 ?_
                                                        refine y_ck (fun hc => ?_)
                                                        refine y_sld hX hc dL_law_864 ?_
                                                        refine y_aload_nT dL_law_865 rfl rfl ?_
                                                        refine y_iload_n dL_law_866 rfl rfl ?_
                                                        refine y_iconst dL_law_867 (by decide) ?_
                                                        refine yk_iadd dL_law_868 ?_
                                                        refine y_ck (fun hc => ?_)
                                                        refine y_sld hX hc dL_law_869 ?_
                                                        refine y_ckP (fun hp219 => ?_)
                                                        refine y_ckP (fun hc220 => ?_)
                                                        refine y_cvIS (by rw [hp219.2]; exact qX9_ask hp219.1 (xs (x3 + 1).toNat) (xs (x3 + 2).toNat) (xs (x3 + 3).toNat) σ) kL_115 rfl hc220 rfl (Nat.le_of_ble_eq_true rfl) rfl (Nat.le_of_ble_eq_true rfl) dL_law_870 (fun r221 σ222 => ?_)
                                                        refine y_aload_n dL_law_873 rfl rfl ?_
                                                        refine y_aload_nT dL_law_874 rfl rfl ?_
                                                        refine y_iload_n dL_law_875 rfl rfl ?_
                                                        refine y_iconst dL_law_876 (by decide) ?_
                                                        refine yk_iadd dL_law_877 ?_
                                                        refine y_ck (fun hc => ?_)
                                                        refine y_sld hX hc dL_law_878 ?_
                                                        refine y_aload_nT dL_law_879 rfl rfl ?_
                                                        refine y_iload_n dL_law_880 rfl rfl ?_
                                                        refine y_iconst dL_law_881 (by decide) ?_
                                                        refine yk_iadd dL_law_882 ?_
                                                        refine y_ck (fun hc => ?_)
                                                        refine y_sld hX hc dL_law_883 ?_
                                                        refine y_aload_nT dL_law_884 rfl rfl ?_
                                                        refine y_iload_n dL_law_885 rfl rfl ?_
                                                        refine y_iconst dL_law_886 (by decide) ?_
                                                        refine yk_iadd dL_law_887 ?_
                                                        refine y_ck (fun hc => ?_)
                                                        refine y_sld hX hc dL_law_888 ?_
                                                        refine y_ckP (fun hp223 => ?_)
                                                        refine y_ckP (fun hc224 => ?_)
                                                        refine y_cvIS (by rw [hp223.2]; exact qX10_ask hp223.1 (xs (x3 + 1).toNat) (xs (x3 + 2).toNat) (xs (x3 + 3).toNat) σ222) kL_118 rfl hc224 rfl (Nat.le_of_ble_eq_true rfl) rfl (Nat.le_of_ble_eq_true rfl) dL_law_889 (fun r225 σ226 => ?_)
                                                        refine y_ite (fun h227 => ?_) (fun h227 => ?_)
                                                        · refine y_icmp_eq_t dL_law_892 (t := 1181) rfl h227 ?_
                                                          refine yk_iinc dL_law_1181 rfl (L' := [some (aT 7), some (aR x1), some (aR x2), some (aI (x3 + 6))]) rfl ?_
                                                          refine y_goto dL_law_1184 (t := 18) rfl ?_
                                                          exact ih x1 x2 (x3 + 6) K σ226
                                                        · refine y_icmp_eq_f dL_law_892 (t := 1181) rfl h227 ?_
                                                          refine y_iconst dL_law_895 (by decide) ?_
                                                          exact y_zret (by decide) rfl rfl dL_law_896
                                                      · refine y_ite (fun h335 => ?_) (fun h335 => ?_)
                                                        · refine y_tab_in dL_law_33 (t := 897) (off := 864) (by omega) (by rw [h335]; rfl) rfl ?_
                                                          refine y_aload_n dL_law_897 rfl rfl ?_
                                                          refine y_aload_nT dL_law_898 rfl rfl ?_
                                                          refine y_iload_n dL_law_899 rfl rfl ?_
                                                          refine y_iconst dL_law_900 (by decide) ?_
                                                          refine yk_iadd dL_law_901 ?_
                                                          refine y_ck (fun hc => ?_)
                                                          refine y_sld hX hc dL_law_902 ?_
                                                          refine y_aload_nT dL_law_903 rfl rfl ?_
                                                          refine y_iload_n dL_law_904 rfl rfl ?_
                                                          refine y_iconst dL_law_905 (by decide) ?_
                                                          refine yk_iadd dL_law_906 ?_
                                                          refine y_ck (fun hc => ?_)
                                                          refine y_sld hX hc dL_law_907 ?_
                                                          refine y_ckP (fun hp228 => ?_)
                                                          refine y_ckP (fun hc229 => ?_)
                                                          refine y_cvIS (by rw [hp228.2]; exact qX9_last hp228.1 (xs (x3 + 1).toNat) (xs (x3 + 2).toNat) σ) kL_119 rfl hc229 rfl (Nat.le_of_ble_eq_true rfl) rfl (Nat.le_of_ble_eq_true rfl) dL_law_908 (fun r230 σ231 => ?_)
                                                          refine y_aload_n dL_law_911 rfl rfl ?_
                                                          refine y_aload_nT dL_law_912 rfl rfl ?_
                                                          refine y_iload_n dL_law_913 rfl rfl ?_
                                                          refine y_iconst dL_law_914 (by decide) ?_
                                                          refine yk_iadd dL_law_915 ?_
                                                          refine y_ck (fun hc => ?_)
                                                          refine y_sld hX hc dL_law_916 ?_
                                                          refine y_aload_nT dL_law_917 rfl rfl ?_
                                                          refine y_iload_n dL_law_918 rfl rfl ?_
                                                          refine y_iconst dL_law_919 (by decide) ?_
                                                          refine yk_iadd dL_law_920 ?_
                                                          refine y_ck (fun hc => ?_)
                                                          refine y_sld hX hc dL_law_921 ?_
                                                          refine y_ckP (fun hp232 => ?_)
                                                          refine y_ckP (fun hc233 => ?_)
                                                          refine y_cvIS (by rw [hp232.2]; exact qX10_last hp232.1 (xs (x3 + 1).toNat) (xs (x3 + 2).toNat) σ231) kL_122 rfl hc233 rfl (Nat.le_of_ble_eq_true rfl) rfl (Nat.le_of_ble_eq_true rfl) dL_law_922 (fun r234 σ235 => ?_)
                                                          refine y_ite (fun h236 => ?_) (fun h236 => ?_)
                                                          · refine y_icmp_eq_t dL_law_925 (t := 1181) rfl h236 ?_
                                                            refine yk_iinc dL_law_1181 rfl (L' := [some (aT 7), some (aR x1), some (aR x2), some (aI (x3 + 6))]) rfl ?_
                                                            refine y_goto dL_law_1184 (t := 18) rfl ?_
                                                            exact ih x1 x2 (x3 + 6) K σ235
                                                          · refine y_icmp_eq_f dL_law_925 (t := 1181) rfl h236 ?_
                                                            refine y_iconst dL_law_928 (by decide) ?_
                                                            exact y_zret (by decide) rfl rfl dL_law_929
                                                        · refine y_ite (fun h334 => ?_) (fun h334 => ?_)
                                                          · refine y_tab_in dL_law_33 (t := 930) (off := 897) (by omega) (by rw [h334]; rfl) rfl ?_
                                                            refine y_aload_n dL_law_930 rfl rfl ?_
                                                            refine y_aload_nT dL_law_931 rfl rfl ?_
                                                            refine y_iload_n dL_law_932 rfl rfl ?_
                                                            refine y_iconst dL_law_933 (by decide) ?_
                                                            refine yk_iadd dL_law_934 ?_
                                                            refine y_ck (fun hc => ?_)
                                                            refine y_sld hX hc dL_law_935 ?_
                                                            refine y_ckP (fun hp237 => ?_)
                                                            refine y_ckP (fun hc238 => ?_)
                                                            refine y_cvIS (by rw [hp237.2]; exact qX9_nest hp237.1 (xs (x3 + 1).toNat) σ) kL_123 rfl hc238 rfl (Nat.le_of_ble_eq_true rfl) rfl (Nat.le_of_ble_eq_true rfl) dL_law_936 (fun r239 σ240 => ?_)
                                                            refine y_aload_n dL_law_939 rfl rfl ?_
                                                            refine y_aload_nT dL_law_940 rfl rfl ?_
                                                            refine y_iload_n dL_law_941 rfl rfl ?_
                                                            refine y_iconst dL_law_942 (by decide) ?_
                                                            refine yk_iadd dL_law_943 ?_
                                                            refine y_ck (fun hc => ?_)
                                                            refine y_sld hX hc dL_law_944 ?_
                                                            refine y_ckP (fun hp241 => ?_)
                                                            refine y_ckP (fun hc242 => ?_)
                                                            refine y_cvIS (by rw [hp241.2]; exact qX10_nest hp241.1 (xs (x3 + 1).toNat) σ240) kL_126 rfl hc242 rfl (Nat.le_of_ble_eq_true rfl) rfl (Nat.le_of_ble_eq_true rfl) dL_law_945 (fun r243 σ244 => ?_)
                                                            refine y_ite (fun h245 => ?_) (fun h245 => ?_)
                                                            · refine y_icmp_eq_t dL_law_948 (t := 1181) rfl h245 ?_
                                                              refine yk_iinc dL_law_1181 rfl (L' := [some (aT 7), some (aR x1), some (aR x2), some (aI (x3 + 6))]) rfl ?_
                                                              refine y_goto dL_law_1184 (t := 18) rfl ?_
                                                              exact ih x1 x2 (x3 + 6) K σ244
                                                            · refine y_icmp_eq_f dL_law_948 (t := 1181) rfl h245 ?_
                                                              refine y_iconst dL_law_951 (by decide) ?_
                                                              exact y_zret (by decide) rfl rfl dL_law_952
                                                          · refine y_ite (fun h333 => ?_) (fun h333 => ?_)
                                                            · refine y_tab_in dL_law_33 (t := 953) (off := 920) (by omega) (by rw [h333]; rfl) rfl ?_
                                                              refine y_aload_n dL_law_953 rfl rfl ?_
                                                              refine y_aload_nT dL_law_954 rfl rfl ?_
                                                              refine y_iload_n dL_law_955 rfl rfl ?_
                                                              refine y_iconst dL_law_956 (by decide) ?_
                                                              refine yk_iadd dL_law_957 ?_
                                                              refine y_ck (fun hc => ?_)
                                                              refine y_sld hX hc dL_law_958 ?_
                                                              refine y_ckP (fun hp246 => ?_)
                                                              refine y_ckP (fun hc247 => ?_)
                                                              refine y_cvI (by rw [hp246.2]; exact qX9_all hp246.1 (xs (x3 + 1).toNat) σ) kL_127 rfl hc247 rfl (Nat.le_of_ble_eq_true rfl) rfl (Nat.le_of_ble_eq_true rfl) dL_law_959 (fun r248 => ?_)
                                                              refine y_aload_n dL_law_962 rfl rfl ?_
                                                              refine y_aload_nT dL_law_963 rfl rfl ?_
                                                              refine y_iload_n dL_law_964 rfl rfl ?_
                                                              refine y_iconst dL_law_965 (by decide) ?_
                                                              refine yk_iadd dL_law_966 ?_
                                                              refine y_ck (fun hc => ?_)
                                                              refine y_sld hX hc dL_law_967 ?_
                                                              refine y_ckP (fun hp249 => ?_)
                                                              refine y_ckP (fun hc250 => ?_)
                                                              refine y_cvIS (by rw [hp249.2]; exact qX10_all hp249.1 (xs (x3 + 1).toNat) σ) kL_130 rfl hc250 rfl (Nat.le_of_ble_eq_true rfl) rfl (Nat.le_of_ble_eq_true rfl) dL_law_968 (fun r251 σ252 => ?_)
                                                              refine y_ite (fun h253 => ?_) (fun h253 => ?_)
                                                              · refine y_icmp_eq_t dL_law_971 (t := 1181) rfl h253 ?_
                                                                refine yk_iinc dL_law_1181 rfl (L' := [some (aT 7), some (aR x1), some (aR x2), some (aI (x3 + 6))]) rfl ?_
                                                                refine y_goto dL_law_1184 (t := 18) rfl ?_
                                                                exact ih x1 x2 (x3 + 6) K σ252
                                                              · refine y_icmp_eq_f dL_law_971 (t := 1181) rfl h253 ?_
                                                                refine y_iconst dL_law_974 (by decide) ?_
                                                                exact y_zret (by decide) rfl rfl dL_law_975
                                                            · refine y_ite (fun h332 => ?_) (fun h332 => ?_)
                                                              · refine y_tab_in dL_law_33 (t := 976) (off := 943) (by omega) (by rw [h332]; rfl) rfl ?_
                                                                refine y_aload_n dL_law_976 rfl rfl ?_
                                                                refine y_aload_nT dL_law_977 rfl rfl ?_
                                                                refine y_iload_n dL_law_978 rfl rfl ?_
                                                                refine y_iconst dL_law_979 (by decide) ?_
                                                                refine yk_iadd dL_law_980 ?_
                                                                refine y_ck (fun hc => ?_)
                                                                refine y_sld hX hc dL_law_981 ?_
                                                                refine y_ckP (fun hp254 => ?_)
                                                                refine y_ckP (fun hc255 => ?_)
                                                                refine y_cvIS (by rw [hp254.2]; exact qX9_owed hp254.1 (xs (x3 + 1).toNat) σ) kL_131 rfl hc255 rfl (Nat.le_of_ble_eq_true rfl) rfl (Nat.le_of_ble_eq_true rfl) dL_law_982 (fun r256 σ257 => ?_)
                                                                refine y_aload_n dL_law_985 rfl rfl ?_
                                                                refine y_aload_nT dL_law_986 rfl rfl ?_
                                                                refine y_iload_n dL_law_987 rfl rfl ?_
                                                                refine y_iconst dL_law_988 (by decide) ?_
                                                                refine yk_iadd dL_law_989 ?_
                                                                refine y_ck (fun hc => ?_)
                                                                refine y_sld hX hc dL_law_990 ?_
                                                                refine y_ckP (fun hp258 => ?_)
                                                                refine y_ckP (fun hc259 => ?_)
                                                                refine y_cvIS (by rw [hp258.2]; exact qX10_owed hp258.1 (xs (x3 + 1).toNat) σ257) kL_134 rfl hc259 rfl (Nat.le_of_ble_eq_true rfl) rfl (Nat.le_of_ble_eq_true rfl) dL_law_991 (fun r260 σ261 => ?_)
                                                                refine y_ite (fun h262 => ?_) (fun h262 => ?_)
                                                                · refine y_icmp_eq_t dL_law_994 (t := 1181) rfl h262 ?_
                                                                  refine yk_iinc dL_law_1181 rfl (L' := [some (aT 7), some (aR x1), some (aR x2), some (aI (x3 + 6))]) rfl ?_
                                                                  refine y_goto dL_law_1184 (t := 18) rfl ?_
                                                                  exact ih x1 x2 (x3 + 6) K σ261
                                                                · refine y_icmp_eq_f dL_law_994 (t := 1181) rfl h262 ?_
                                                                  refine y_iconst dL_law_997 (by decide) ?_
                                                                  exact y_zret (by decide) rfl rfl dL_law_998
                                                              · refine y_ite (fun h331 => ?_) (fun h331 => ?_)
                                                                · refine y_tab_in dL_law_33 (t := 999) (off := 966) (by omega) (by rw [h331]; rfl) rfl ?_
                                                                  refine y_aload_n dL_law_999 rfl rfl ?_
                                                                  refine y_aload_nT dL_law_1000 rfl rfl ?_
                                                                  refine y_iload_n dL_law_1001 rfl rfl ?_
                                                                  refine y_iconst dL_law_1002 (by decide) ?_
                                                                  refine yk_iadd dL_law_1003 ?_
                                                                  refine y_ck (fun hc => ?_)
                                                                  refine y_sld hX hc dL_law_1004 ?_
                                                                  refine y_aload_nT dL_law_1005 rfl rfl ?_
                                                                  refine y_iload_n dL_law_1006 rfl rfl ?_
                                                                  refine y_iconst dL_law_1007 (by decide) ?_
                                                                  refine yk_iadd dL_law_1008 ?_
                                                                  refine y_ck (fun hc => ?_)
                                                                  refine y_sld hX hc dL_law_1009 ?_
                                                                  refine y_ckP (fun hp263 => ?_)
                                                                  refine y_ckP (fun hc264 => ?_)
                                                                  refine y_cvLS (by rw [hp263.2]; exact qX9_whole hp263.1 (xs (x3 + 1).toNat) (xs (x3 + 2).toNat) σ) kL_135 rfl hc264 rfl (Nat.le_of_ble_eq_true rfl) rfl (Nat.le_of_ble_eq_true rfl) dL_law_1010 (fun r265 σ266 => ?_)
                                                                  refine y_aload_n dL_law_1013 rfl rfl ?_
                                                                  refine y_aload_nT dL_law_1014 rfl rfl ?_
                                                                  refine y_iload_n dL_law_1015 rfl rfl ?_
                                                                  refine y_iconst dL_law_1016 (by decide) ?_
                                                                  refine yk_iadd dL_law_1017 ?_
                                                                  refine y_ck (fun hc => ?_)
                                                                  refine y_sld hX hc dL_law_1018 ?_
                                                                  refine y_aload_nT dL_law_1019 rfl rfl ?_
                                                                  refine y_iload_n dL_law_1020 rfl rfl ?_
                                                                  refine y_iconst dL_law_1021 (by decide) ?_
                                                                  refine yk_iadd dL_law_1022 ?_
                                                                  refine y_ck (fun hc => ?_)
                                                                  refine y_sld hX hc dL_law_1023 ?_
                                                                  refine y_ckP (fun hp267 => ?_)
                                                                  refine y_ckP (fun hc268 => ?_)
                                                                  refine y_cvLS (by rw [hp267.2]; exact qX10_whole hp267.1 (xs (x3 + 1).toNat) (xs (x3 + 2).toNat) σ266) kL_139 rfl hc268 rfl (Nat.le_of_ble_eq_true rfl) rfl (Nat.le_of_ble_eq_true rfl) dL_law_1024 (fun r269 σ270 => ?_)
                                                                  refine y_lcmp dL_law_1027 ?_
                                                                  refine y_ite (fun h271 => ?_) (fun h271 => ?_)
                                                                  · refine y_if_eq_t dL_law_1028 (t := 1181) rfl (cmp3_eq.mpr h271) ?_
                                                                    refine yk_iinc dL_law_1181 rfl (L' := [some (aT 7), some (aR x1), some (aR x2), some (aI (x3 + 6))]) rfl ?_
                                                                    refine y_goto dL_law_1184 (t := 18) rfl ?_
                                                                    exact ih x1 x2 (x3 + 6) K σ270
                                                                  · refine y_if_eq_f dL_law_1028 (t := 1181) rfl (fun z => h271 (cmp3_eq.mp z)) ?_
                                                                    refine y_iconst dL_law_1031 (by decide) ?_
                                                                    exact y_zret (by decide) rfl rfl dL_law_1032
                                                                · refine y_ite (fun h330 => ?_) (fun h330 => ?_)
                                                                  · refine y_tab_in dL_law_33 (t := 1033) (off := 1000) (by omega) (by rw [h330]; rfl) rfl ?_
                                                                    refine y_aload_n dL_law_1033 rfl rfl ?_
                                                                    refine y_aload_nT dL_law_1034 rfl rfl ?_
                                                                    refine y_iload_n dL_law_1035 rfl rfl ?_
                                                                    refine y_iconst dL_law_1036 (by decide) ?_
                                                                    refine yk_iadd dL_law_1037 ?_
                                                                    refine y_ck (fun hc => ?_)
                                                                    refine y_sld hX hc dL_law_1038 ?_
                                                                    refine y_aload_nT dL_law_1039 rfl rfl ?_
                                                                    refine y_iload_n dL_law_1040 rfl rfl ?_
                                                                    refine y_iconst dL_law_1041 (by decide) ?_
                                                                    refine yk_iadd dL_law_1042 ?_
                                                                    refine y_ck (fun hc => ?_)
                                                                    refine y_sld hX hc dL_law_1043 ?_
                                                                    refine y_ckP (fun hp272 => ?_)
                                                                    refine y_ckP (fun hc273 => ?_)
                                                                    refine y_cvIS (by rw [hp272.2]; exact qX9_years hp272.1 (xs (x3 + 1).toNat) (xs (x3 + 2).toNat) σ) kL_140 rfl hc273 rfl (Nat.le_of_ble_eq_true rfl) rfl (Nat.le_of_ble_eq_true rfl) dL_law_1044 (fun r274 σ275 => ?_)
                                                                    refine y_aload_n dL_law_1047 rfl rfl ?_
                                                                    refine y_aload_nT dL_law_1048 rfl rfl ?_
                                                                    refine y_iload_n dL_law_1049 rfl rfl ?_
                                                                    refine y_iconst dL_law_1050 (by decide) ?_
                                                                    refine yk_iadd dL_law_1051 ?_
                                                                    refine y_ck (fun hc => ?_)
                                                                    refine y_sld hX hc dL_law_1052 ?_
                                                                    refine y_aload_nT dL_law_1053 rfl rfl ?_
                                                                    refine y_iload_n dL_law_1054 rfl rfl ?_
                                                                    refine y_iconst dL_law_1055 (by decide) ?_
                                                                    refine yk_iadd dL_law_1056 ?_
                                                                    refine y_ck (fun hc => ?_)
                                                                    refine y_sld hX hc dL_law_1057 ?_
                                                                    refine y_ckP (fun hp276 => ?_)
                                                                    refine y_ckP (fun hc277 => ?_)
                                                                    refine y_cvIS (by rw [hp276.2]; exact qX10_years hp276.1 (xs (x3 + 1).toNat) (xs (x3 + 2).toNat) σ275) kL_143 rfl hc277 rfl (Nat.le_of_ble_eq_true rfl) rfl (Nat.le_of_ble_eq_true rfl) dL_law_1058 (fun r278 σ279 => ?_)
                                                                    refine y_ite (fun h280 => ?_) (fun h280 => ?_)
                                                                    · refine y_icmp_eq_t dL_law_1061 (t := 1181) rfl h280 ?_
                                                                      refine yk_iinc dL_law_1181 rfl (L' := [some (aT 7), some (aR x1), some (aR x2), some (aI (x3 + 6))]) rfl ?_
                                                                      refine y_goto dL_law_1184 (t := 18) rfl ?_
                                                                      exact ih x1 x2 (x3 + 6) K σ279
                                                                    · refine y_icmp_eq_f dL_law_1061 (t := 1181) rfl h280 ?_
                                                                      refine y_iconst dL_law_1064 (by decide) ?_
                                                                      exact y_zret (by decide) rfl rfl dL_law_1065
                                                                  · refine y_ite (fun h329 => ?_) (fun h329 => ?_)
                                                                    · refine y_tab_in dL_law_33 (t := 1066) (off := 1033) (by omega) (by rw [h329]; rfl) rfl ?_
                                                                      refine y_aload_n dL_law_1066 rfl rfl ?_
                                                                      refine y_aload_nT dL_law_1067 rfl rfl ?_
                                                                      refine y_iload_n dL_law_1068 rfl rfl ?_
                                                                      refine y_iconst dL_law_1069 (by decide) ?_
                                                                      refine yk_iadd dL_law_1070 ?_
                                                                      refine y_ck (fun hc => ?_)
                                                                      refine y_sld hX hc dL_law_1071 ?_
                                                                      refine y_aload_nT dL_law_1072 rfl rfl ?_
                                                                      refine y_iload_n dL_law_1073 rfl rfl ?_
                                                                      refine y_iconst dL_law_1074 (by decide) ?_
                                                                      refine yk_iadd dL_law_1075 ?_
                                                                      refine y_ck (fun hc => ?_)
                                                                      refine y_sld hX hc dL_law_1076 ?_
                                                                      refine y_ckP (fun hp281 => ?_)
                                                                      refine y_ckP (fun hc282 => ?_)
                                                                      refine y_cvI (by rw [hp281.2]; exact qX9_drawn hp281.1 (xs (x3 + 1).toNat) (xs (x3 + 2).toNat) σ) kL_144 rfl hc282 rfl (Nat.le_of_ble_eq_true rfl) rfl (Nat.le_of_ble_eq_true rfl) dL_law_1077 (fun r283 => ?_)
                                                                      refine y_aload_n dL_law_1080 rfl rfl ?_
                                                                      refine y_aload_nT dL_law_1081 rfl rfl ?_
                                                                      refine y_iload_n dL_law_1082 rfl rfl ?_
                                                                      refine y_iconst dL_law_1083 (by decide) ?_
                                                                      refine yk_iadd dL_law_1084 ?_
                                                                      refine y_ck (fun hc => ?_)
                                                                      refine y_sld hX hc dL_law_1085 ?_
                                                                      refine y_aload_nT dL_law_1086 rfl rfl ?_
                                                                      refine y_iload_n dL_law_1087 rfl rfl ?_
                                                                      refine y_iconst dL_law_1088 (by decide) ?_
                                                                      refine yk_iadd dL_law_1089 ?_
                                                                      refine y_ck (fun hc => ?_)
                                                                      refine y_sld hX hc dL_law_1090 ?_
                                                                      refine y_ckP (fun hp284 => ?_)
                                                                      refine y_ckP (fun hc285 => ?_)
                                                                      refine y_cvIS (by rw [hp284.2]; exact qX10_drawn hp284.1 (xs (x3 + 1).toNat) (xs (x3 + 2).toNat) σ) kL_147 rfl hc285 rfl (Nat.le_of_ble_eq_true rfl) rfl (Nat.le_of_ble_eq_true rfl) dL_law_1091 (fun r286 σ287 => ?_)
                                                                      refine y_ite (fun h288 => ?_) (fun h288 => ?_)
                                                                      · refine y_icmp_eq_t dL_law_1094 (t := 1181) rfl h288 ?_
                                                                        refine yk_iinc dL_law_1181 rfl (L' := [some (aT 7), some (aR x1), some (aR x2), some (aI (x3 + 6))]) rfl ?_
                                                                        refine y_goto dL_law_1184 (t := 18) rfl ?_
                                                                        exact ih x1 x2 (x3 + 6) K σ287
                                                                      · refine y_icmp_eq_f dL_law_1094 (t := 1181) rfl h288 ?_
                                                                        refine y_iconst dL_law_1097 (by decide) ?_
                                                                        exact y_zret (by decide) rfl rfl dL_law_1098
                                                                    · refine y_ite (fun h328 => ?_) (fun h328 => ?_)
                                                                      · refine y_tab_in dL_law_33 (t := 1099) (off := 1066) (by omega) (by rw [h328]; rfl) rfl ?_
                                                                        refine y_aload_n dL_law_1099 rfl rfl ?_
                                                                        refine y_aload_nT dL_law_1100 rfl rfl ?_
                                                                        refine y_iload_n dL_law_1101 rfl rfl ?_
                                                                        refine y_iconst dL_law_1102 (by decide) ?_
                                                                        refine yk_iadd dL_law_1103 ?_
                                                                        refine y_ck (fun hc => ?_)
                                                                        refine y_sld hX hc dL_law_1104 ?_
                                                                        refine y_ckP (fun hp289 => ?_)
                                                                        refine y_ckP (fun hc290 => ?_)
                                                                        refine y_cvIK (by rw [hp289]; exact qX9_image (xs (x3 + 1).toNat) K σ (fun ou hou => (tX9_image (Γ := Γ) (xs (x3 + 1).toNat) K σ ou hou).1)) kL_148 rfl hc290 rfl (Nat.le_of_ble_eq_true rfl) rfl (Nat.le_of_ble_eq_true rfl) dL_law_1105 (fun r291 K292 σ293 => ?_)
                                                                        refine y_aload_n dL_law_1108 rfl rfl ?_
                                                                        refine y_aload_nT dL_law_1109 rfl rfl ?_
                                                                        refine y_iload_n dL_law_1110 rfl rfl ?_
                                                                        refine y_iconst dL_law_1111 (by decide) ?_
                                                                        refine yk_iadd dL_law_1112 ?_
                                                                        refine y_ck (fun hc => ?_)
                                                                        refine y_sld hX hc dL_law_1113 ?_
                                                                        refine y_ckP (fun hp294 => ?_)
                                                                        refine y_ckP (fun hc295 => ?_)
                                                                        refine y_cvIS (by rw [hp294.2]; exact qX10_image hp294.1 (xs (x3 + 1).toNat) σ293) kL_151 rfl hc295 rfl (Nat.le_of_ble_eq_true rfl) rfl (Nat.le_of_ble_eq_true rfl) dL_law_1114 (fun r296 σ297 => ?_)
                                                                        refine y_ite (fun h298 => ?_) (fun h298 => ?_)
                                                                        · refine y_icmp_eq_t dL_law_1117 (t := 1181) rfl h298 ?_
                                                                          refine yk_iinc dL_law_1181 rfl (L' := [some (aT 7), some (aR x1), some (aR x2), some (aI (x3 + 6))]) rfl ?_
                                                                          refine y_goto dL_law_1184 (t := 18) rfl ?_
                                                                          exact ih x1 x2 (x3 + 6) K292 σ297
                                                                        · refine y_icmp_eq_f dL_law_1117 (t := 1181) rfl h298 ?_
                                                                          refine y_iconst dL_law_1120 (by decide) ?_
                                                                          exact y_zret (by decide) rfl rfl dL_law_1121
                                                                      · refine y_ite (fun h327 => ?_) (fun h327 => ?_)
                                                                        · refine y_tab_in dL_law_33 (t := 1122) (off := 1089) (by omega) (by rw [h327]; rfl) rfl ?_
                                                                          refine y_aload_n dL_law_1122 rfl rfl ?_
                                                                          refine y_aload_nT dL_law_1123 rfl rfl ?_
                                                                          refine y_iload_n dL_law_1124 rfl rfl ?_
                                                                          refine y_iconst dL_law_1125 (by decide) ?_
                                                                          refine yk_iadd dL_law_1126 ?_
                                                                          refine y_ck (fun hc => ?_)
                                                                          refine y_sld hX hc dL_law_1127 ?_
                                                                          refine y_ckP (fun hp299 => ?_)
                                                                          refine y_ckP (fun hc300 => ?_)
                                                                          refine y_cvIK (by rw [hp299]; exact qX9_back (xs (x3 + 1).toNat) K σ (fun ou hou => (tX9_back (Γ := Γ) (xs (x3 + 1).toNat) K σ ou hou).1)) kL_152 rfl hc300 rfl (Nat.le_of_ble_eq_true rfl) rfl (Nat.le_of_ble_eq_true rfl) dL_law_1128 (fun r301 K302 σ303 => ?_)
                                                                          refine y_aload_n dL_law_1131 rfl rfl ?_
                                                                          refine y_aload_nT dL_law_1132 rfl rfl ?_
                                                                          refine y_iload_n dL_law_1133 rfl rfl ?_
                                                                          refine y_iconst dL_law_1134 (by decide) ?_
                                                                          refine yk_iadd dL_law_1135 ?_
                                                                          refine y_ck (fun hc => ?_)
                                                                          refine y_sld hX hc dL_law_1136 ?_
                                                                          refine y_ckP (fun hp304 => ?_)
                                                                          refine y_ckP (fun hc305 => ?_)
                                                                          refine y_cvIS (by rw [hp304.2]; exact qX10_back hp304.1 (xs (x3 + 1).toNat) σ303) kL_155 rfl hc305 rfl (Nat.le_of_ble_eq_true rfl) rfl (Nat.le_of_ble_eq_true rfl) dL_law_1137 (fun r306 σ307 => ?_)
                                                                          refine y_ite (fun h308 => ?_) (fun h308 => ?_)
                                                                          · refine y_icmp_eq_t dL_law_1140 (t := 1181) rfl h308 ?_
                                                                            refine yk_iinc dL_law_1181 rfl (L' := [some (aT 7), some (aR x1), some (aR x2), some (aI (x3 + 6))]) rfl ?_
                                                                            refine y_goto dL_law_1184 (t := 18) rfl ?_
                                                                            exact ih x1 x2 (x3 + 6) K302 σ307
                                                                          · refine y_icmp_eq_f dL_law_1140 (t := 1181) rfl h308 ?_
                                                                            refine y_iconst dL_law_1143 (by decide) ?_
                                                                            exact y_zret (by decide) rfl rfl dL_law_1144
                                                                        · refine y_ite (fun h326 => ?_) (fun h326 => ?_)
                                                                          · refine y_tab_in dL_law_33 (t := 1145) (off := 1112) (by omega) (by rw [h326]; rfl) rfl ?_
                                                                            refine y_aload_n dL_law_1145 rfl rfl ?_
                                                                            refine y_aload_nT dL_law_1146 rfl rfl ?_
                                                                            refine y_iload_n dL_law_1147 rfl rfl ?_
                                                                            refine y_iconst dL_law_1148 (by decide) ?_
                                                                            refine yk_iadd dL_law_1149 ?_
                                                                            refine y_ck (fun hc => ?_)
                                                                            refine y_sld hX hc dL_law_1150 ?_
                                                                            refine y_ckP (fun hp309 => ?_)
                                                                            refine y_ckP (fun hc310 => ?_)
                                                                            refine y_cvI (by rw [hp309.2]; exact qX9_count hp309.1 (xs (x3 + 1).toNat) σ) kL_156 rfl hc310 rfl (Nat.le_of_ble_eq_true rfl) rfl (Nat.le_of_ble_eq_true rfl) dL_law_1151 (fun r311 => ?_)
                                                                            refine y_aload_n dL_law_1154 rfl rfl ?_
                                                                            refine y_aload_nT dL_law_1155 rfl rfl ?_
                                                                            refine y_iload_n dL_law_1156 rfl rfl ?_
                                                                            refine y_iconst dL_law_1157 (by decide) ?_
                                                                            refine yk_iadd dL_law_1158 ?_
                                                                            refine y_ck (fun hc => ?_)
                                                                            refine y_sld hX hc dL_law_1159 ?_
                                                                            refine y_ckP (fun hp312 => ?_)
                                                                            refine y_ckP (fun hc313 => ?_)
                                                                            refine y_cvIS (by rw [hp312.2]; exact qX10_count hp312.1 (xs (x3 + 1).toNat) σ) kL_159 rfl hc313 rfl (Nat.le_of_ble_eq_true rfl) rfl (Nat.le_of_ble_eq_true rfl) dL_law_1160 (fun r314 σ315 => ?_)
                                                                            refine y_ite (fun h316 => ?_) (fun h316 => ?_)
                                                                            · refine y_icmp_eq_t dL_law_1163 (t := 1181) rfl h316 ?_
                                                                              refine yk_iinc dL_law_1181 rfl (L' := [some (aT 7), some (aR x1), some (aR x2), some (aI (x3 + 6))]) rfl ?_
                                                                              refine y_goto dL_law_1184 (t := 18) rfl ?_
                                                                              exact ih x1 x2 (x3 + 6) K σ315
                                                                            · refine y_icmp_eq_f dL_law_1163 (t := 1181) rfl h316 ?_
                                                                              refine y_iconst dL_law_1166 (by decide) ?_
                                                                              exact y_zret (by decide) rfl rfl dL_law_1167
                                                                          · refine y_ite (fun h325 => ?_) (fun h325 => ?_)
                                                                            · refine y_tab_in dL_law_33 (t := 1168) (off := 1135) (by omega) (by rw [h325]; rfl) rfl ?_
                                                                              refine y_aload_n dL_law_1168 rfl rfl ?_
                                                                              refine y_ckP (fun hp317 => ?_)
                                                                              refine y_ckP (fun hc318 => ?_)
                                                                              refine y_cvI (by rw [hp317.2]; exact qX9_status hp317.1 σ) kL_160 rfl hc318 rfl (Nat.le_of_ble_eq_true rfl) rfl (Nat.le_of_ble_eq_true rfl) dL_law_1169 (fun r319 => ?_)
                                                                              refine y_aload_n dL_law_1172 rfl rfl ?_
                                                                              refine y_ckP (fun hp320 => ?_)
                                                                              refine y_ckP (fun hc321 => ?_)
                                                                              refine y_cvIS (by rw [hp320.2]; exact qX10_status hp320.1 σ) kL_163 rfl hc321 rfl (Nat.le_of_ble_eq_true rfl) rfl (Nat.le_of_ble_eq_true rfl) dL_law_1173 (fun r322 σ323 => ?_)
                                                                              refine y_ite (fun h324 => ?_) (fun h324 => ?_)
                                                                              · refine y_icmp_eq_t dL_law_1176 (t := 1181) rfl h324 ?_
                                                                                refine yk_iinc dL_law_1181 rfl (L' := [some (aT 7), some (aR x1), some (aR x2), some (aI (x3 + 6))]) rfl ?_
                                                                                refine y_goto dL_law_1184 (t := 18) rfl ?_
                                                                                exact ih x1 x2 (x3 + 6) K σ323
                                                                              · refine y_icmp_eq_f dL_law_1176 (t := 1181) rfl h324 ?_
                                                                                refine y_iconst dL_law_1179 (by decide) ?_
                                                                                exact y_zret (by decide) rfl rfl dL_law_1180
                                                                            · refine y_tab_out dL_law_33 (t := 1181) (by omega) rfl ?_
                                                                              refine yk_iinc dL_law_1181 rfl (L' := [some (aT 7), some (aR x1), some (aR x2), some (aI (x3 + 6))]) rfl ?_
                                                                              refine y_goto dL_law_1184 (t := 18) rfl ?_
                                                                              exact ih x1 x2 (x3 + 6) K σ
noncomputable def vL_law (Ls : Nat) (xs : Nat → Int) (K : Kt) (σ : Sg) : Option (Int × Kt × Sg) := nw K.2.2.1 (kNew K 9 0 15) (sNew K σ) (fun q1 K2 σ3 => bdVK (vX9_init q1 K2 σ3) (fun K4 σ5 => nw K4.2.2.1 (kNew K4 10 0 58) (sNew K4 σ5) (fun q6 K7 σ8 => bdVK (vX10_init q6 K7 σ8) (fun K9 σ10 => vL_law_18 Ls xs FU q1 q6 0 K9 σ10))))
set_option maxRecDepth 100000 in
set_option maxHeartbeats 4000000 in
theorem tL_law {Γ : Gx} {nm : String} {Ls : Nat} {xs : Nat → Int} (hX : ScrAt Γ Ls xs) (K : Kt) (σ : Sg) : Y Γ (ML_law nm) K emIK K 0 [some (aT 7), none, none, none] [] σ (vL_law Ls xs K σ) := by
  unfold vL_law
  refine yn_new nL_7 (by decide) dL_law_0 (fun q1 K2 σ3 => ?_)
  refine y_dup dL_law_3 (fun _ => rfl) ?_
  refine y_ci (qX9_init q1 K2 σ3 (fun ou hou => (tX9_init (Γ := Γ) q1 K2 σ3 ou hou).1)) iL_9 rfl (Nat.le_of_ble_eq_true rfl) rfl (Nat.le_of_ble_eq_true rfl) dL_law_4 (fun K4 σ5 => ?_)
  refine y_astore_n dL_law_7 rfl (Nat.le_of_ble_eq_true rfl) (L' := [some (aT 7), some (aR q1), none, none]) rfl ?_
  refine yn_new nL_10 (by decide) dL_law_8 (fun q6 K7 σ8 => ?_)
  refine y_dup dL_law_11 (fun _ => rfl) ?_
  refine y_ci (qX10_init q6 K7 σ8 (fun ou hou => (tX10_init (Γ := Γ) q6 K7 σ8 ou hou).1)) iL_12 rfl (Nat.le_of_ble_eq_true rfl) rfl (Nat.le_of_ble_eq_true rfl) dL_law_12 (fun K9 σ10 => ?_)
  refine y_astore_n dL_law_15 rfl (Nat.le_of_ble_eq_true rfl) (L' := [some (aT 7), some (aR q1), some (aR q6), none]) rfl ?_
  refine y_iconst dL_law_16 (by decide) ?_
  refine y_istore_n dL_law_17 rfl (Nat.le_of_ble_eq_true rfl) (L' := [some (aT 7), some (aR q1), some (aR q6), some (aI 0)]) rfl ?_
  exact tL_law_18 hX FU q1 q6 0 K9 σ10
