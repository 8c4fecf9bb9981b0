/-! ===== the reference goes to the next token ===== -/
def TokR (t s w : Int) : Prop := (∀ j : Nat, j < 28 → ((s = 1 ∧ w = wfold (wl.getD j [])) ↔ t = 300 + (j : Int))) ∧ (∀ c : Int, 33 ≤ c → c < 97 → ¬ dg c → ((s = 3 ∧ w = c) ↔ t = c)) ∧ (s = 0 ↔ t = 256) ∧ ((s = 2 ∧ w ≤ 1000) ↔ (1000 ≤ t ∧ t ≤ 2000)) ∧ (s = 2 → 0 ≤ w ∧ w ≤ 10000009 ∧ (w ≤ 1000 → t = 1000 + w)) ∧ (0 ≤ t ∧ t ≤ 2001)
def Nx (σ σ' : Sg) : Prop := (∀ k, k ≠ 84 → σ' k = σ k) ∧ ∀ j, j < 14 ∨ 17 < j → σ' 84 j = σ 84 j
theorem Nx_r {σ : Sg} : Nx σ σ := ⟨fun _ _ => rfl, fun _ _ => rfl⟩
theorem Nx_t {σ σ' σ'' : Sg} (h : Nx σ σ') (h' : Nx σ' σ'') : Nx σ σ'' := ⟨fun k a => (h'.1 k a).trans (h.1 k a), fun j a => (h'.2 j a).trans (h.2 j a)⟩
theorem Nx_u {σ σ' : Sg} {j : Nat} {z : Int} (h : Nx σ σ') (hj : 14 ≤ j ∧ j ≤ 17) : Nx σ (up2 σ' 84 j z) := ⟨fun k a => by rw [up2_o a]; exact h.1 k a, fun i a => by rw [up2_c, upw_n (by omega)]; exact h.2 i a⟩
theorem sub_s {b : Nat → Int} : ∀ n s, sub b s (n + 1) = sub b s n ++ [b (s + n)]
  | 0, s => rfl
  | n + 1, s => by
    have := sub_s (b := b) n (s + 1)
    rw [sub, this, show s + 1 + n = s + (n + 1) by omega]
    rfl
theorem sub_m {b : Nat → Int} {P : Int → Prop} : ∀ n s, (∀ q, s ≤ q → q < s + n → P (b q)) → ∀ c ∈ sub b s n, P c
  | 0, s, _, c, h => by cases h
  | n + 1, s, hq, c, h => by
    rw [sub] at h
    rcases List.mem_cons.mp h with e | e
    · rw [e]; exact hq s (by omega) (by omega)
    · exact sub_m n (s + 1) (fun q a b => hq q (by omega) (by omega)) c e
theorem wfold_b : ∀ (n : Nat) (a : List Int), a.length = n → (∀ c ∈ a, small c) → 0 ≤ wfold a ∧ (wfold a).toNat + 1 ≤ 32 ^ n := by
  intro n
  induction n with
  | zero => intro a h _; rw [List.eq_nil_of_length_eq_zero h]; exact ⟨by decide, by decide⟩
  | succ n ih =>
    intro a h hs
    rcases List.eq_nil_or_concat a with e | ⟨a', c, e⟩
    · rw [e] at h; cases h
    · rw [List.concat_eq_append] at e
      subst e
      have := ih a' (by rw [List.length_append, List.length_singleton] at h; omega) (fun x hx => hs x (List.mem_append_left _ hx))
      have hc := hs c (List.mem_append_right _ List.mem_cons_self)
      unfold small at hc
      rw [wfold_s, Nat.pow_succ]
      omega
theorem m_isSmall {c : Int} {σ : Sg} : vX10_isSmall c σ = some (bI (small c)) := by
  unfold vX10_isSmall small
  by_cases h1 : c < 97
  · rw [if_pos h1, bI_f (by omega)]
  · rw [if_neg h1]
    by_cases h2 : 122 < c
    · rw [if_pos h2, bI_f (by omega)]
    · rw [if_neg h2, bI_t (by omega)]
theorem m_isDigit {c : Int} {σ : Sg} : vX10_isDigit c σ = some (bI (dg c)) := by
  unfold vX10_isDigit dg
  by_cases h1 : c < 48
  · rw [if_pos h1, bI_f (by omega)]
  · rw [if_neg h1]
    by_cases h2 : 57 < c
    · rw [if_pos h2, bI_f (by omega)]
    · rw [if_neg h2, bI_t (by omega)]
/-- digits -/
theorem m_next_243 {σ0 : Sg} {b : Nat → Int} {n s e : Nat} (hn : n ≤ 400) (he : e ≤ n) (hd : ∀ q, s ≤ q → q < e → dg (b q)) (hd2 : e < n → ¬ dg (b e)) : ∀ (f x : Nat) (σ : Sg), e - x < f → s ≤ x → x ≤ e → Nx σ0 σ → σ 84 13 = (n : Int) → (∀ q, q < n → σ 93 q = b q) → σ 84 14 = (s : Int) → σ 84 15 = (x : Int) → σ 84 16 = 2 → σ 84 17 = nvM (sub b s (x - s)) →
    T (vX10_next_243 f σ) (fun σ' => Nx σ0 σ' ∧ σ' 84 14 = (s : Int) ∧ σ' 84 15 = (e : Int) ∧ σ' 84 16 = 2 ∧ σ' 84 17 = nvM (sub b s (e - s))) := by
  intro f
  induction f with
  | zero => intro x σ h; omega
  | succ f ih =>
    intro x σ hf hs hx hN h13 h93 h14 h15 h16 h17
    rw [vX10_next_243, h16, h15, h13]
    refine T_t rfl ?_
    by_cases hxe : x = e
    · subst hxe
      have don : T (some σ) (fun σ' => Nx σ0 σ' ∧ σ' 84 14 = (s : Int) ∧ σ' 84 15 = (x : Int) ∧ σ' 84 16 = 2 ∧ σ' 84 17 = nvM (sub b s (x - s))) := T_some ⟨hN, h14, h15, h16, h17⟩
      refine T_ite (fun h => ?_) (fun h => don)
      refine T_ck (by omega) ?_
      rw [Int.toNat_natCast, m_isDigit, Option.bind_some, h93 x (by omega), bI_f (hd2 (by omega))]
      exact T_t rfl don
    · have d := hd x hs (by omega)
      have nv := nv_rel (bs := sub b s (x - s)) (sub_m (P := dg) (x - s) s (fun q a c => hd q a (by omega)))
      have step : nvM (sub b s (x + 1 - s)) = if 1000000 < nvM (sub b s (x - s)) then nvM (sub b s (x - s)) else nvM (sub b s (x - s)) * 10 + b x - 48 := by
        rw [show x + 1 - s = (x - s) + 1 by omega, sub_s, show s + (x - s) = x by omega]
        unfold nvM
        rw [List.foldl_append]
        rfl
      have go : ∀ y, y = nvM (sub b s (x + 1 - s)) → T (vX10_next_319 (vX10_next_243 f) y σ) (fun σ' => Nx σ0 σ' ∧ σ' 84 14 = (s : Int) ∧ σ' 84 15 = (e : Int) ∧ σ' 84 16 = 2 ∧ σ' 84 17 = nvM (sub b s (e - s))) := by
        intro y hy
        unfold vX10_next_319
        have e15 : up2 σ 84 17 y 84 15 = (x : Int) := by rw [up2_c, upw_n (by omega)]; exact h15
        refine T_nm (T_ck (by omega) (T_nm ?_))
        rw [e15]
        refine ih (x + 1) _ (by omega) (by omega) (by omega) (Nx_u (Nx_u hN (by omega)) (by omega)) ?_ (fun q hq => ?_) ?_ ?_ ?_ ?_
        · rw [up2_c, upw_n (by omega), up2_c, upw_n (by omega)]; exact h13
        · rw [up2_o (by omega), up2_o (by omega)]; exact h93 q hq
        · rw [up2_c, upw_n (by omega), up2_c, upw_n (by omega)]; exact h14
        · rw [up2_c, upw_s]; omega
        · rw [up2_c, upw_n (by omega), up2_c, upw_n (by omega)]; exact h16
        · rw [up2_c, upw_n (by omega), up2_c, upw_s]; exact hy
      refine T_t (by omega) (T_ck (by omega) ?_)
      rw [Int.toNat_natCast, m_isDigit, Option.bind_some, h93 x (by omega), bI_t d, h17]
      unfold dg at d
      refine T_f (by omega) (T_ite (fun h => ?_) (fun h => ?_))
      · exact go _ (by rw [step, if_pos h])
      · exact T_ck (by omega) (T_ck (by omega) (T_ck (by omega) (T_ck (by omega) (go _ (by rw [step, if_neg h])))))
theorem m_next_no {σ : Sg} {f : Nat} (h : σ 84 16 ≠ 2) : vX10_next_243 (f + 1) σ = some σ := by rw [vX10_next_243, if_neg h]
/-- letters -/
theorem m_next_149 {σ0 : Sg} {b : Nat → Int} {n s e : Nat} (hn : n ≤ 400) (he : e ≤ n) (hd : ∀ q, s ≤ q → q < e → small (b q)) (hd2 : e < n → ¬ small (b e)) : ∀ (f x : Nat) (σ : Sg), e - x < f → s ≤ x → x ≤ e → Nx σ0 σ → σ 84 13 = (n : Int) → (∀ q, q < n → σ 93 q = b q) → σ 84 14 = (s : Int) → σ 84 15 = (x : Int) → σ 84 16 = 1 → σ 84 17 = wcode (sub b s (x - s)) →
    T (vX10_next_149 f σ) (fun σ' => Nx σ0 σ' ∧ σ' 84 14 = (s : Int) ∧ σ' 84 15 = (e : Int) ∧ σ' 84 16 = 1 ∧ σ' 84 17 = wcode (sub b s (e - s))) := by
  intro f
  induction f with
  | zero => intro x σ h; omega
  | succ f ih =>
    intro x σ hf hs hx hN h13 h93 h14 h15 h16 h17
    rw [vX10_next_149, h15, h13, h14]
    refine T_t h16 ?_
    by_cases hxe : x = e
    · subst hxe
      have don : T (vX10_next_243 FU σ) (fun σ' => Nx σ0 σ' ∧ σ' 84 14 = (s : Int) ∧ σ' 84 15 = (x : Int) ∧ σ' 84 16 = 1 ∧ σ' 84 17 = wcode (sub b s (x - s))) := by
        rw [FU_s, m_next_no (by omega)]
        exact T_some ⟨hN, h14, h15, h16, h17⟩
      refine T_ite (fun h => ?_) (fun h => don)
      refine T_ck (by omega) ?_
      rw [Int.toNat_natCast, m_isSmall, Option.bind_some, h93 x (by omega), bI_f (hd2 (by omega))]
      exact T_t rfl don
    · have d := hd x hs (by omega)
      have sm := sub_m (P := small) (x - s) s (fun q a c => hd q a (by omega))
      have sl := sub_l (b := b) (x - s) s
      have step : wcode (sub b s (x + 1 - s)) = if x - s < 10 then wcode (sub b s (x - s)) * 32 + b x - 96 else -1 := by
        rw [show x + 1 - s = (x - s) + 1 by omega, sub_s, show s + (x - s) = x by omega]
        unfold wcode
        rw [List.length_append, List.length_singleton, sl]
        by_cases q : x - s < 10
        · rw [if_pos (by omega), if_pos q, if_pos (by omega), wfold_s]
        · rw [if_neg (by omega), if_neg q]
      have go : ∀ y, y = wcode (sub b s (x + 1 - s)) → T (vX10_next_227 (vX10_next_149 f) y σ) (fun σ' => Nx σ0 σ' ∧ σ' 84 14 = (s : Int) ∧ σ' 84 15 = (e : Int) ∧ σ' 84 16 = 1 ∧ σ' 84 17 = wcode (sub b s (e - s))) := by
        intro y hy
        unfold vX10_next_227
        have e15 : up2 σ 84 17 y 84 15 = (x : Int) := by rw [up2_c, upw_n (by omega)]; exact h15
        refine T_nm (T_ck (by omega) (T_nm ?_))
        rw [e15]
        refine ih (x + 1) _ (by omega) (by omega) (by omega) (Nx_u (Nx_u hN (by omega)) (by omega)) ?_ (fun q hq => ?_) ?_ ?_ ?_ ?_
        · rw [up2_c, upw_n (by omega), up2_c, upw_n (by omega)]; exact h13
        · rw [up2_o (by omega), up2_o (by omega)]; exact h93 q hq
        · rw [up2_c, upw_n (by omega), up2_c, upw_n (by omega)]; exact h14
        · rw [up2_c, upw_s]; omega
        · rw [up2_c, upw_n (by omega), up2_c, upw_n (by omega)]; exact h16
        · rw [up2_c, upw_n (by omega), up2_c, upw_s]; exact hy
      refine T_t (by omega) (T_ck (by omega) ?_)
      rw [Int.toNat_natCast, m_isSmall, Option.bind_some, h93 x (by omega), bI_t d, h17]
      unfold small at d
      refine T_f (by omega) (T_ck (by omega) (T_ite (fun h => ?_) (fun h => ?_)))
      · have wb := wfold_b (x - s) _ sl sm
        have pw : 32 ^ (x - s) ≤ 35184372088832 := Nat.le_trans (Nat.pow_le_pow_right (by omega) (show x - s ≤ 9 by omega)) (by decide)
        have wc : wcode (sub b s (x - s)) = wfold (sub b s (x - s)) := by unfold wcode; rw [if_pos (by omega)]
        rw [wc]
        exact T_ck (by omega) (T_ck (by omega) (T_ck (by omega) (T_ck (by omega) (go _ (by rw [step, if_pos (by omega), wc])))))
      · exact go _ (by rw [step, if_neg (by omega)])
theorem m_next_149n {σ : Sg} {f : Nat} (h1 : σ 84 16 ≠ 1) (h2 : σ 84 16 ≠ 2) : vX10_next_149 (f + 1) σ = some σ := by rw [vX10_next_149, if_neg h1, FU_s, m_next_no h2]
theorem m_next_149d {σ : Sg} {f : Nat} (h1 : σ 84 16 ≠ 1) : vX10_next_149 (f + 1) σ = vX10_next_243 FU σ := by rw [vX10_next_149, if_neg h1]
theorem wl_c : ∀ j, j < 28 → 0 < wfold (wl.getD j []) := by decide +kernel
/-- a token is told alike -/
theorem m_next_46 {σ : Sg} {b : Nat → Int} {n N i : Nat} {tk : Nat → Int} {pl st : Nat → Nat} (hn : n ≤ 400) (hb : ∀ q, q < n → 0 ≤ b q ∧ b q ≤ 255) (hT : Tks b n tk pl st N) (hi : i ≤ N) (h13 : σ 84 13 = (n : Int)) (h93 : ∀ q, q < n → σ 93 q = b q) (h14 : σ 84 14 = (pl i : Int)) :
    T (vX10_next_46 σ) (fun σ' => Nx σ σ' ∧ σ' 84 14 = (pl i : Int) ∧ (i < N → σ' 84 15 = (st (i + 1) : Int)) ∧ TokR (tk i) (σ' 84 16) (σ' 84 17)) := by
  obtain ⟨t1, t2, t3, t4, t5, t6⟩ := hT
  unfold vX10_next_46
  refine T_nm (T_nm ?_)
  rw [h14]
  have F : Nx σ (up2 (up2 σ 84 15 (pl i : Int)) 84 17 0) := Nx_u (Nx_u Nx_r (by omega)) (by omega)
  have g14 : up2 (up2 σ 84 15 (pl i : Int)) 84 17 0 84 14 = (pl i : Int) := by rw [up2_c, upw_n (by omega), up2_c, upw_n (by omega)]; exact h14
  have g15 : up2 (up2 σ 84 15 (pl i : Int)) 84 17 0 84 15 = (pl i : Int) := by rw [up2_c, upw_n (by omega), up2_c, upw_s]
  have g17 : up2 (up2 σ 84 15 (pl i : Int)) 84 17 0 84 17 = 0 := by rw [up2_c, upw_s]
  have g13 : up2 (up2 σ 84 15 (pl i : Int)) 84 17 0 84 13 = (n : Int) := by rw [F.2 13 (by omega)]; exact h13
  have g93 : ∀ q, q < n → up2 (up2 σ 84 15 (pl i : Int)) 84 17 0 93 q = b q := fun q hq => by rw [F.1 93 (by omega)]; exact h93 q hq
  generalize up2 (up2 σ 84 15 (pl i : Int)) 84 17 0 = τ at *
  rw [g14, g13]
  -- behind the sort
  have srt : ∀ y : Int, Nx σ (up2 τ 84 16 y) ∧ up2 τ 84 16 y 84 16 = y ∧ up2 τ 84 16 y 84 14 = (pl i : Int) ∧ up2 τ 84 16 y 84 15 = (pl i : Int) ∧ up2 τ 84 16 y 84 17 = 0 ∧ up2 τ 84 16 y 84 13 = (n : Int) ∧ ∀ q, q < n → up2 τ 84 16 y 93 q = b q := by
    intro y
    refine ⟨Nx_u F (by omega), by rw [up2_c, upw_s], by rw [up2_c, upw_n (by omega)]; exact g14, by rw [up2_c, upw_n (by omega)]; exact g15, by rw [up2_c, upw_n (by omega)]; exact g17, by rw [up2_c, upw_n (by omega)]; exact g13, fun q hq => by rw [up2_o (by omega)]; exact g93 q hq⟩
  by_cases eN : i = N
  · subst eN
    rw [t5]
    refine T_t rfl ?_
    unfold vX10_next_114
    obtain ⟨s1, s2, s3, s4, s5, s6, s7⟩ := srt 0
    refine T_nm ?_
    generalize up2 τ 84 16 0 = υ at *
    rw [s2, if_neg (by omega), FU_s, m_next_149n (by omega) (by omega)]
    refine T_some ⟨s1, by rw [s3, t5], fun h => by omega, ?_⟩
    rw [s2, s5, t6]
    refine ⟨fun j hj => ⟨fun h => by omega, fun h => by omega⟩, fun c c1 c2 _ => ⟨fun h => by omega, fun h => by omega⟩, by omega, by omega, by omega, by omega⟩
  · obtain ⟨⟨p1, p2⟩, k1, k2, k3, k4⟩ := t3 i (by omega)
    refine T_f (by omega) (T_ck (by omega) ?_)
    rw [Int.toNat_natCast, m_isSmall, Option.bind_some, g93 _ (by omega)]
    have bp := hb (pl i) (by omega)
    rcases k4 with ⟨a1, a2, a3, a4⟩ | ⟨a1, a2, a3, a4⟩ | ⟨a1, a2, a3, a4⟩
    · rw [bI_t a1]
      refine T_f (by omega) ?_
      unfold vX10_next_114
      obtain ⟨s1, s2, s3, s4, s5, s6, s7⟩ := srt 1
      refine T_nm ?_
      generalize up2 τ 84 16 1 = υ at *
      rw [s2, if_neg (by omega)]
      refine T_mono (m_next_149 (σ0 := σ) hn k2 a2 a3 FU (pl i) υ (by have := FU_b; omega) (Nat.le_refl _) (by omega) s1 s6 s7 s3 s4 s2 (by rw [Nat.sub_self]; exact s5)) (fun σ' h => ?_)
      obtain ⟨q1, q2, q3, q4, q5⟩ := h
      refine ⟨q1, q2, fun _ => q3, ?_⟩
      rw [q4, q5]
      have sm := sub_m (P := small) (b := b) (st (i + 1) - pl i) (pl i) (fun q a c => a2 q a (by omega))
      have lo := wfind_lo wl 0 (sub b (pl i) (st (i + 1) - pl i)) (by omega)
      have l28 : wl.length = 28 := rfl
      rw [a4]
      refine ⟨fun j hj => ?_, fun c c1 c2 _ => ⟨fun h => by omega, fun h => by omega⟩, by omega, by omega, by omega, by omega⟩
      have w := word_iff sm hj
      constructor
      · intro h; exact w.mp h.2
      · intro h; exact ⟨rfl, w.mpr h⟩
    · have nsm : ¬ small (b (pl i)) := by unfold dg at a1; unfold small; omega
      rw [bI_f nsm]
      refine T_t rfl (T_ck (by omega) ?_)
      rw [m_isDigit, Option.bind_some, bI_t a1]
      refine T_f (by omega) ?_
      unfold vX10_next_114
      obtain ⟨s1, s2, s3, s4, s5, s6, s7⟩ := srt 2
      refine T_nm ?_
      generalize up2 τ 84 16 2 = υ at *
      rw [s2, if_neg (by omega), FU_s, m_next_149d (by omega)]
      refine T_mono (m_next_243 (σ0 := σ) hn k2 a2 a3 FU (pl i) υ (by have := FU_b; omega) (Nat.le_refl _) (by omega) s1 s6 s7 s3 s4 s2 (by rw [Nat.sub_self]; exact s5)) (fun σ' h => ?_)
      obtain ⟨q1, q2, q3, q4, q5⟩ := h
      refine ⟨q1, q2, fun _ => q3, ?_⟩
      rw [q4, q5]
      have nv := nv_rel (sub_m (P := dg) (b := b) (st (i + 1) - pl i) (pl i) (fun q a c => a2 q a (by omega)))
      generalize nvC (sub b (pl i) (st (i + 1) - pl i)) = x at *
      generalize nvM (sub b (pl i) (st (i + 1) - pl i)) = y at *
      rw [a4]
      exact ⟨fun j hj => ⟨fun h => by omega, fun h => by omega⟩, fun c c1 c2 _ => ⟨fun h => by omega, fun h => by omega⟩, by omega, by omega, by omega, by omega⟩
    · rw [bI_f a1]
      refine T_t rfl (T_ck (by omega) ?_)
      rw [m_isDigit, Option.bind_some, bI_f a2]
      refine T_t rfl ?_
      unfold vX10_next_114
      obtain ⟨s1, s2, s3, s4, s5, s6, s7⟩ := srt 3
      refine T_nm ?_
      generalize up2 τ 84 16 3 = υ at *
      rw [s2, if_pos rfl, s3, Int.toNat_natCast, s7 _ (by omega)]
      refine T_ck (by omega) (T_nm ?_)
      have e15 : up2 υ 84 17 (b (pl i)) 84 15 = (pl i : Int) := by rw [up2_c, upw_n (by omega)]; exact s4
      refine T_ck (by omega) (T_nm ?_)
      have v16 : up2 (up2 υ 84 17 (b (pl i))) 84 15 (up2 υ 84 17 (b (pl i)) 84 15 + 1) 84 16 = 3 := by rw [up2_c, upw_n (by omega), up2_c, upw_n (by omega)]; exact s2
      rw [FU_s, m_next_149n (by omega) (by omega)]
      refine T_some ⟨Nx_u (Nx_u s1 (by omega)) (by omega), by rw [up2_c, upw_n (by omega), up2_c, upw_n (by omega)]; exact s3, fun _ => by rw [up2_c, upw_s, e15]; omega, ?_⟩
      rw [v16, up2_c, upw_n (by omega), up2_c, upw_s, a4]
      unfold small at a1
      unfold dg at a2
      exact ⟨fun j hj => ⟨fun h => by omega, fun h => by omega⟩, fun c c1 c2 _ => ⟨fun h => by omega, fun h => by omega⟩, by omega, by omega, by omega, by omega⟩
theorem m_next {σ : Sg} {b : Nat → Int} {n N i : Nat} {tk : Nat → Int} {pl st : Nat → Nat} (hn : n ≤ 400) (hb : ∀ q, q < n → 0 ≤ b q ∧ b q ≤ 255) (hT : Tks b n tk pl st N) (hi : i ≤ N) (h13 : σ 84 13 = (n : Int)) (h93 : ∀ q, q < n → σ 93 q = b q) (h15 : σ 84 15 = (st i : Int)) :
    T (vX10_next σ) (fun σ' => Nx σ σ' ∧ σ' 84 14 = (pl i : Int) ∧ (i < N → σ' 84 15 = (st (i + 1) : Int)) ∧ TokR (tk i) (σ' 84 16) (σ' 84 17)) := by
  have sp : Sp b (st i) (pl i) ∧ pl i ≤ n ∧ (pl i < n → b (pl i) ≠ 32) := by
    by_cases e : i = N
    · rw [e, hT.2.2.2.2.1]; exact ⟨hT.2.2.2.1, Nat.le_refl _, fun h => by omega⟩
    · obtain ⟨p1, k1, k2, k3, -⟩ := hT.2.2.1 i (by omega)
      exact ⟨p1, by omega, fun _ => k3⟩
  obtain ⟨⟨sp1, sp2⟩, sp3, sp4⟩ := sp
  have key : ∀ (f x : Nat) (τ : Sg), pl i - x < f → st i ≤ x → x ≤ pl i → Nx σ τ → τ 84 14 = (x : Int) → T (vX10_next_8 f τ) (fun σ' => Nx σ σ' ∧ σ' 84 14 = (pl i : Int) ∧ (i < N → σ' 84 15 = (st (i + 1) : Int)) ∧ TokR (tk i) (σ' 84 16) (σ' 84 17)) := by
    intro f
    induction f with
    | zero => intro x τ h; omega
    | succ f ih =>
      intro x τ hf h1 h2 hN h14
      have g13 : τ 84 13 = (n : Int) := by rw [hN.2 13 (by omega)]; exact h13
      have g93 : ∀ q, q < n → τ 93 q = b q := fun q hq => by rw [hN.1 93 (by omega)]; exact h93 q hq
      rw [vX10_next_8, h14, g13]
      by_cases e : x = pl i
      · subst e
        have fin : T (vX10_next_46 τ) (fun σ' => Nx σ σ' ∧ σ' 84 14 = (pl i : Int) ∧ (i < N → σ' 84 15 = (st (i + 1) : Int)) ∧ TokR (tk i) (σ' 84 16) (σ' 84 17)) :=
          T_mono (m_next_46 hn hb hT hi g13 g93 h14) (fun σ' h => ⟨Nx_t hN h.1, h.2⟩)
        refine T_ite (fun h => ?_) (fun h => fin)
        refine T_ck (by omega) ?_
        rw [Int.toNat_natCast, g93 _ (by omega)]
        exact T_f (sp4 (by omega)) fin
      · refine T_t (by omega) (T_ck (by omega) ?_)
        rw [Int.toNat_natCast, g93 _ (by omega)]
        refine T_t (sp2 x h1 (by omega)) (T_ck (by omega) (T_nm ?_))
        rw [show (x : Int) + 1 = ((x + 1 : Nat) : Int) by omega]
        exact ih (x + 1) _ (by omega) (by omega) (by omega) (Nx_u hN (by omega)) (by rw [up2_c, upw_s])
  unfold vX10_next
  refine T_nm ?_
  rw [h15]
  exact key FU (st i) _ (by have := FU_b; omega) (Nat.le_refl _) sp1 (Nx_u Nx_r (by omega)) (by rw [up2_c, upw_s])
