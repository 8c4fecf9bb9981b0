/-! ===== the reference's reading: code so far, pile, token ===== -/
abbrev Cd : Type := (Nat → Int) × (Nat → Int) × Nat
abbrev Pl : Type := List (Int × Nat)
def isAO (o : Int) : Prop := o = 29 ∨ o = 30
def PC (b : Nat → Int) (n : Nat) (tk : Nat → Int) (pl st : Nat → Nat) (N : Nat) : Prop := n ≤ 400 ∧ (∀ q, q < n → 0 ≤ b q ∧ b q ≤ 255) ∧ Tks b n tk pl st N
/-- what the reading rests on -/
def PZ (b : Nat → Int) (n : Nat) (ord : Int) (σ0 : Sg) : Prop := σ0 84 13 = (n : Int) ∧ (∀ q, q < n → σ0 93 q = b q) ∧ σ0 84 20 = ord ∧ InvC σ0
def PF (σ0 σ : Sg) : Prop := (∀ k, k ≠ 84 → k ≠ 95 → k ≠ 96 → k ≠ 97 → k ≠ 98 → σ k = σ0 k) ∧ (∀ j, (j < 14 ∨ (19 < j ∧ j ≠ 23 ∧ j ≠ 26 ∧ j ≠ 29 ∧ j ≠ 30)) → σ 84 j = σ0 84 j)
def PK (σ : Sg) (l d : Nat) (c : Cd) (P : Pl) (bd : Int) : Prop := (σ 84 19 = bd ∧ σ 84 23 = (c.2.2 : Int) ∧ σ 84 26 = (l : Int) ∧ σ 84 29 = (P.length : Int) ∧ σ 84 30 = (d : Int)) ∧ (∀ k, k < c.2.2 → σ 95 k = c.1 k ∧ σ 96 k = c.2.1 k) ∧ ∀ j e, P[j]? = some e → σ 97 (P.length - 1 - j) = e.1 ∧ (isAO e.1 → σ 98 (P.length - 1 - j) = (e.2 : Int))
def PT (tk : Nat → Int) (pl st : Nat → Nat) (N : Nat) (σ : Sg) (i : Nat) : Prop := i ≤ N ∧ σ 84 14 = (pl i : Int) ∧ (i < N → σ 84 15 = (st (i + 1) : Int)) ∧ TokR (tk i) (σ 84 16) (σ 84 17)
def PS (tk : Nat → Int) (pl st : Nat → Nat) (N : Nat) (σ0 σ : Sg) (i l d : Nat) (c : Cd) (P : Pl) : Prop := PF σ0 σ ∧ PK σ l d c P 0 ∧ PT tk pl st N σ i ∧ σ 84 18 = -1
/-- it has failed at token k -/
def PX (pl : Nat → Nat) (σ0 σ : Sg) (k l d : Nat) (c : Cd) (P : Pl) : Prop := PF σ0 σ ∧ PK σ l d c P 1 ∧ σ 84 18 = (pl k : Int)
theorem PF_n {σ0 σ σ' : Sg} (h : PF σ0 σ) (hn : Nx σ σ') : PF σ0 σ' := ⟨fun k a b c d e => by rw [hn.1 k a]; exact h.1 k a b c d e, fun j hj => by rw [hn.2 j (by omega)]; exact h.2 j hj⟩
theorem PK_n {σ σ' : Sg} {l d : Nat} {c : Cd} {P : Pl} {bd : Int} (h : PK σ l d c P bd) (hn : Nx σ σ') : PK σ' l d c P bd := by
  obtain ⟨⟨a, b, e, f, g⟩, h2, h3⟩ := h
  refine ⟨⟨by rw [hn.2 19 (by omega)]; exact a, by rw [hn.2 23 (by omega)]; exact b, by rw [hn.2 26 (by omega)]; exact e, by rw [hn.2 29 (by omega)]; exact f, by rw [hn.2 30 (by omega)]; exact g⟩, fun k hk => ?_, fun j x hx => ?_⟩
  · rw [hn.1 95 (by omega), hn.1 96 (by omega)]; exact h2 k hk
  · rw [hn.1 97 (by omega), hn.1 98 (by omega)]; exact h3 j x hx
theorem ps_next {b : Nat → Int} {n N i l d : Nat} {tk : Nat → Int} {pl st : Nat → Nat} {ord : Int} {σ0 σ : Sg} {c : Cd} {P : Pl} (hc : PC b n tk pl st N) (hz : PZ b n ord σ0) (h : PS tk pl st N σ0 σ i l d c P) (hi : i < N) : T (vX10_next σ) (fun σ' => PS tk pl st N σ0 σ' (i + 1) l d c P) := by
  obtain ⟨h1, h2, ⟨h3, h4, h5, h6⟩, h7⟩ := h
  refine T_mono (m_next (i := i + 1) hc.1 hc.2.1 hc.2.2 (by omega) (by rw [h1.2 13 (by omega)]; exact hz.1) (fun q hq => by rw [h1.1 93 (by omega) (by omega) (by omega) (by omega) (by omega)]; exact hz.2.1 q hq) (h5 hi)) (fun σ' q => ?_)
  obtain ⟨q1, q2, q3, q4⟩ := q
  exact ⟨PF_n h1 q1, PK_n h2 q1, ⟨by omega, q2, q3, q4⟩, by rw [q1.2 18 (by omega)]; exact h7⟩
theorem ps_must1 {b : Nat → Int} {n N i l d : Nat} {tk : Nat → Int} {pl st : Nat → Nat} {ord : Int} {σ0 σ : Sg} {c : Cd} {P : Pl} (hc : PC b n tk pl st N) (hz : PZ b n ord σ0) (h : PS tk pl st N σ0 σ i l d c P) (hi : i < N) : T (vX10_must 1 σ) (fun σ' => PS tk pl st N σ0 σ' (i + 1) l d c P) := by
  have h19 : σ 84 19 = 0 := h.2.1.1.1
  unfold vX10_must
  refine T_t h19 (T_f (by omega) ?_)
  unfold vX10_must_24
  refine T_t h19 ?_
  refine T_bind (ps_next hc hz h hi) (fun σ' q => T_some q)
theorem PF_u {σ0 σ : Sg} {j : Nat} {z : Int} (h : PF σ0 σ) (hj : 14 ≤ j ∧ (j ≤ 19 ∨ j = 23 ∨ j = 26 ∨ j = 29 ∨ j = 30)) : PF σ0 (up2 σ 84 j z) := ⟨fun k a b c d e => by rw [up2_o a]; exact h.1 k a b c d e, fun i hi => by rw [up2_c, upw_n (by omega)]; exact h.2 i hi⟩
theorem PF_o {σ0 σ : Sg} {k j : Nat} {z : Int} (h : PF σ0 σ) (hk : 95 ≤ k ∧ k ≤ 98) : PF σ0 (up2 σ k j z) := ⟨fun x a b c d e => by rw [up2_o (by omega)]; exact h.1 x a b c d e, fun i hi => by rw [up2_o (by omega)]; exact h.2 i hi⟩
theorem ps_must0 {N i l d : Nat} {tk : Nat → Int} {pl st : Nat → Nat} {σ0 σ : Sg} {c : Cd} {P : Pl} (h : PS tk pl st N σ0 σ i l d c P) : T (vX10_must 0 σ) (fun σ' => PX pl σ0 σ' i l d c P) := by
  obtain ⟨h1, ⟨⟨a, b, e, f, g⟩, h2, h2'⟩, ⟨h3, h4, h5, h6⟩, h7⟩ := h
  unfold vX10_must
  refine T_t a (T_t rfl (T_nm (T_nm ?_)))
  unfold vX10_must_24
  have e14 : up2 σ 84 19 1 84 14 = (pl i : Int) := by rw [up2_c, upw_n (by omega)]; exact h4
  rw [e14]
  refine T_f (by rw [up2_c, upw_n (by omega), up2_c, upw_s]; omega) (T_some ⟨PF_u (PF_u h1 (by omega)) (by omega), ⟨⟨?_, ?_, ?_, ?_, ?_⟩, fun k hk => ?_, fun j x hx => ?_⟩, ?_⟩)
  · rw [up2_c, upw_n (by omega), up2_c, upw_s]
  · rw [up2_c, upw_n (by omega), up2_c, upw_n (by omega)]; exact b
  · rw [up2_c, upw_n (by omega), up2_c, upw_n (by omega)]; exact e
  · rw [up2_c, upw_n (by omega), up2_c, upw_n (by omega)]; exact f
  · rw [up2_c, upw_n (by omega), up2_c, upw_n (by omega)]; exact g
  · rw [up2_o (by omega), up2_o (by omega), up2_o (by omega), up2_o (by omega)]; exact h2 k hk
  · rw [up2_o (by omega), up2_o (by omega), up2_o (by omega), up2_o (by omega)]; exact h2' j x hx
  · rw [up2_c, upw_s]
/-! code and pile -/
def emt (c : Cd) (o a : Int) : Cd := (upw c.1 c.2.2 o, upw c.2.1 c.2.2 a, c.2.2 + 1)
theorem PK_emit {σ : Sg} {l d : Nat} {c : Cd} {P : Pl} {bd o a : Int} (h : PK σ l d c P bd) : PK (up2 (up2 (up2 σ 95 c.2.2 o) 96 c.2.2 a) 84 23 ((c.2.2 : Int) + 1)) l d (emt c o a) P bd := by
  obtain ⟨⟨a1, b1, e1, f1, g1⟩, h2, h3⟩ := h
  refine ⟨⟨?_, ?_, ?_, ?_, ?_⟩, fun k hk => ?_, fun j x hx => ?_⟩
  · rw [up2_c, upw_n (by omega), up2_o (by omega), up2_o (by omega)]; exact a1
  · rw [up2_c, upw_s]; show _ = ((c.2.2 + 1 : Nat) : Int); omega
  · rw [up2_c, upw_n (by omega), up2_o (by omega), up2_o (by omega)]; exact e1
  · rw [up2_c, upw_n (by omega), up2_o (by omega), up2_o (by omega)]; exact f1
  · rw [up2_c, upw_n (by omega), up2_o (by omega), up2_o (by omega)]; exact g1
  · have hk' : k < c.2.2 + 1 := hk
    rw [up2_o (by omega), up2_o (by omega), up2_c, up2_o (by omega), up2_c, up2_o (by omega)]
    show upw (σ 95) c.2.2 o k = upw c.1 c.2.2 o k ∧ upw (σ 96) c.2.2 a k = upw c.2.1 c.2.2 a k
    by_cases q : k = c.2.2
    · rw [q, upw_s, upw_s, upw_s, upw_s]; exact ⟨rfl, rfl⟩
    · rw [upw_n q, upw_n q, upw_n q, upw_n q]; exact h2 k (by omega)
  · rw [up2_o (by omega), up2_o (by omega), up2_o (by omega), up2_o (by omega), up2_o (by omega), up2_o (by omega)]; exact h3 j x hx
theorem pk_emit {σ0 σ : Sg} {l d : Nat} {c : Cd} {P : Pl} {bd o a : Int} (hf : PF σ0 σ) (h : PK σ l d c P bd) (hm : c.2.2 < 400) : T (vX10_emit o a σ) (fun σ' => PF σ0 σ' ∧ PK σ' l d (emt c o a) P bd ∧ ∀ j, j ≠ 23 → σ' 84 j = σ 84 j) := by
  have b1 : σ 84 23 = (c.2.2 : Int) := h.1.2.1
  unfold vX10_emit
  refine T_ck (by omega) (T_nm ?_)
  rw [b1, Int.toNat_natCast]
  have e1 : up2 σ 95 c.2.2 o 84 23 = (c.2.2 : Int) := by rw [up2_o (by omega)]; exact b1
  refine T_ck (by omega) (T_nm ?_)
  rw [e1, Int.toNat_natCast]
  have e2 : up2 (up2 σ 95 c.2.2 o) 96 c.2.2 a 84 23 = (c.2.2 : Int) := by rw [up2_o (by omega)]; exact e1
  refine T_ck (by omega) (T_nm (T_some ⟨PF_u (PF_o (PF_o hf (by omega)) (by omega)) (by omega), ?_, fun j hj => ?_⟩))
  · rw [e2]; exact PK_emit h
  · rw [up2_c, upw_n hj, up2_o (by omega), up2_o (by omega)]
theorem PT_84 {tk : Nat → Int} {pl st : Nat → Nat} {N i : Nat} {σ σ' : Sg} (h : PT tk pl st N σ i) (e : ∀ j, j = 14 ∨ j = 15 ∨ j = 16 ∨ j = 17 → σ' 84 j = σ 84 j) : PT tk pl st N σ' i := by
  unfold PT at *
  rw [e 14 (by omega), e 15 (by omega), e 16 (by omega), e 17 (by omega)]
  exact h
theorem ps_emit {N i l d : Nat} {tk : Nat → Int} {pl st : Nat → Nat} {σ0 σ : Sg} {c : Cd} {P : Pl} {o a : Int} (h : PS tk pl st N σ0 σ i l d c P) (hm : c.2.2 < 400) : T (vX10_emit o a σ) (fun σ' => PS tk pl st N σ0 σ' i l d (emt c o a) P) :=
  T_mono (pk_emit h.1 h.2.1 hm) (fun σ' q => ⟨q.1, q.2.1, PT_84 h.2.2.1 (fun j hj => q.2.2 j (by omega)), by rw [q.2.2 18 (by omega)]; exact h.2.2.2⟩)
theorem ps_push {N i l d : Nat} {tk : Nat → Int} {pl st : Nat → Nat} {σ0 σ : Sg} {c : Cd} {P : Pl} {o : Int} {a : Nat} {a' : Int} (ha : a' = (a : Int)) (h : PS tk pl st N σ0 σ i l d c P) (hm : P.length < 400) : T (vX10_push o a' σ) (fun σ' => PS tk pl st N σ0 σ' i l d c ((o, a) :: P)) := by
  subst ha
  obtain ⟨hf, ⟨⟨a1, b1, e1, f1, g1⟩, h2, h3⟩, hT, h18⟩ := h
  unfold vX10_push
  refine T_ck (by omega) (T_nm ?_)
  rw [f1, Int.toNat_natCast]
  have q1 : up2 σ 97 P.length o 84 29 = (P.length : Int) := by rw [up2_o (by omega)]; exact f1
  refine T_ck (by omega) (T_nm ?_)
  rw [q1, Int.toNat_natCast]
  have q2 : up2 (up2 σ 97 P.length o) 98 P.length (a : Int) 84 29 = (P.length : Int) := by rw [up2_o (by omega)]; exact q1
  refine T_ck (by omega) (T_nm (T_some ?_))
  rw [q2]
  have S : ∀ j, j ≠ 29 → up2 (up2 (up2 σ 97 P.length o) 98 P.length (a : Int)) 84 29 ((P.length : Int) + 1) 84 j = σ 84 j := fun j hj => by rw [up2_c, upw_n hj, up2_o (by omega), up2_o (by omega)]
  refine ⟨PF_u (PF_o (PF_o hf (by omega)) (by omega)) (by omega), ⟨⟨?_, ?_, ?_, ?_, ?_⟩, fun k hk => ?_, fun j x hx => ?_⟩, PT_84 hT (fun j hj => S j (by omega)), by rw [S 18 (by omega)]; exact h18⟩
  · rw [S 19 (by omega)]; exact a1
  · rw [S 23 (by omega)]; exact b1
  · rw [S 26 (by omega)]; exact e1
  · rw [up2_c, upw_s, List.length_cons]; omega
  · rw [S 30 (by omega)]; exact g1
  · rw [up2_o (by omega), up2_o (by omega), up2_o (by omega), up2_o (by omega), up2_o (by omega), up2_o (by omega)]; exact h2 k hk
  · rw [up2_o (by omega), up2_o (by omega), up2_c, up2_o (by omega), up2_c, up2_o (by omega), List.length_cons]
    cases j with
    | zero =>
      rw [List.getElem?_cons_zero] at hx
      injection hx with hx
      rw [show P.length + 1 - 1 - 0 = P.length by omega, upw_s, upw_s, ← hx]
      exact ⟨rfl, fun _ => rfl⟩
    | succ j =>
      rw [List.getElem?_cons_succ] at hx
      have hl := (List.getElem?_eq_some_iff.mp hx).1
      rw [upw_n (by omega), upw_n (by omega), show P.length + 1 - 1 - (j + 1) = P.length - 1 - j by omega]
      exact h3 j x hx
/-! settling -/
def bnd (o : Int) : Int := if o < 31 then (if o = 30 then 1 else if o = 29 then 2 else if o = 28 then 3 else if o < 25 then (if o < 22 then 5 else 6) else 4) else 0
theorem m_binds {o : Int} {σ : Sg} : vX10_binds o σ = some (bnd o) := by
  unfold vX10_binds bnd
  repeat' split
  all_goals rfl
def stl1 (c : Cd) (e : Int × Nat) : Cd := if e.1 = 29 ∨ e.1 = 30 then (c.1, upw c.2.1 e.2 (c.2.2 : Int), c.2.2) else emt c e.1 0
def sett (c : Cd) (P : Pl) : Cd := P.foldl stl1 c
def wtp : Pl → Nat
  | [] => 0
  | e :: r => (if e.1 = 29 ∨ e.1 = 30 then 0 else 1) + wtp r
theorem sett_m : ∀ (P : Pl) (c : Cd), (sett c P).2.2 = c.2.2 + wtp P
  | [], c => rfl
  | e :: r, c => by
    show (sett (stl1 c e) r).2.2 = _
    rw [sett_m r, wtp]
    unfold stl1
    split
    · show c.2.2 + wtp r = _; omega
    · show c.2.2 + 1 + wtp r = _; omega
theorem wtp_a : ∀ (P Q : Pl), wtp (P ++ Q) = wtp P + wtp Q
  | [], Q => by rw [List.nil_append, wtp]; omega
  | e :: r, Q => by rw [List.cons_append, wtp, wtp, wtp_a r Q]; omega
theorem pk_settle {σ0 : Sg} {l d : Nat} {bd least : Int} {π : Pl} (hp : ∀ e r, π = e :: r → bnd e.1 < least) : ∀ (P : Pl) (f : Nat) (c : Cd) (σ : Sg), P.length < f → PF σ0 σ → PK σ l d c (P ++ π) bd → (∀ e ∈ P, least ≤ bnd e.1 ∧ (isAO e.1 → e.2 < 400)) → c.2.2 + wtp P ≤ 400 → (P ++ π).length ≤ 400 → T (vX10_settle_0 f least σ) (fun σ' => PF σ0 σ' ∧ PK σ' l d (sett c P) π bd ∧ ∀ j, j ≠ 23 → j ≠ 29 → σ' 84 j = σ 84 j)
  | P, 0, c, σ, hf, _, _, _, _, _ => by omega
  | [], f + 1, c, σ, hf, hF, hK, hb, hm, hl => by
    rw [vX10_settle_0]
    have f1 : σ 84 29 = ((([] : Pl) ++ π).length : Int) := hK.1.2.2.2.1
    rw [List.nil_append] at f1 hl hK
    have don : T (some σ) (fun σ' => PF σ0 σ' ∧ PK σ' l d (sett c []) π bd ∧ ∀ j, j ≠ 23 → j ≠ 29 → σ' 84 j = σ 84 j) := T_some ⟨hF, hK, fun _ _ _ => rfl⟩
    refine T_ite (fun h => ?_) (fun h => don)
    cases π with
    | nil => rw [f1] at h; exact absurd h (by decide)
    | cons e r =>
      have t := hK.2.2 0 e rfl
      rw [List.length_cons] at f1 hl t
      rw [show r.length + 1 - 1 - 0 = r.length by omega] at t
      refine T_ck (by omega) (T_ck (by omega) ?_)
      rw [f1, show ((r.length + 1 : Nat) : Int) - 1 = (r.length : Int) by omega, Int.toNat_natCast, t.1, m_binds, Option.bind_some]
      exact T_t (hp e r rfl) don
  | e :: P, f + 1, c, σ, hf, hF, hK, hb, hm, hl => by
    obtain ⟨⟨a1, b1, e1, f1, g1⟩, h2, h3⟩ := id hK
    obtain ⟨he1, he2⟩ := hb e List.mem_cons_self
    have t := h3 0 e rfl
    rw [List.cons_append, List.length_cons] at f1 hl t
    rw [show (P ++ π).length + 1 - 1 - 0 = (P ++ π).length by omega] at t
    rw [List.length_cons] at hf
    rw [wtp] at hm
    rw [vX10_settle_0]
    refine T_t (by omega) (T_ck (by omega) (T_ck (by omega) ?_))
    rw [f1, show (((P ++ π).length + 1 : Nat) : Int) - 1 = ((P ++ π).length : Int) by omega, Int.toNat_natCast, t.1, m_binds, Option.bind_some]
    refine T_f (by omega) (T_ck (by omega) (T_nm ?_))
    -- one off the pile
    have p29 : up2 σ 84 29 ((P ++ π).length : Int) 84 29 = ((P ++ π).length : Int) := by rw [up2_c, upw_s]
    have pj : ∀ j, j ≠ 29 → up2 σ 84 29 ((P ++ π).length : Int) 84 j = σ 84 j := fun j hj => by rw [up2_c, upw_n hj]
    have pk : ∀ k, k ≠ 84 → up2 σ 84 29 ((P ++ π).length : Int) k = σ k := fun k hk => up2_o hk
    have pF : PF σ0 (up2 σ 84 29 ((P ++ π).length : Int)) := PF_u hF (by omega)
    generalize up2 σ 84 29 ((P ++ π).length : Int) = τ at *
    have pK : PK τ l d c (P ++ π) bd := by
      refine ⟨⟨by rw [pj 19 (by omega)]; exact a1, by rw [pj 23 (by omega)]; exact b1, by rw [pj 26 (by omega)]; exact e1, p29, by rw [pj 30 (by omega)]; exact g1⟩, fun k hk => by rw [pk 95 (by omega), pk 96 (by omega)]; exact h2 k hk, fun j x hx => ?_⟩
      have := h3 (j + 1) x (by rw [List.cons_append, List.getElem?_cons_succ]; exact hx)
      rw [List.cons_append, List.length_cons, show (P ++ π).length + 1 - 1 - (j + 1) = (P ++ π).length - 1 - j by omega] at this
      rw [pk 97 (by omega), pk 98 (by omega)]
      exact this
    refine T_ck (by omega) ?_
    rw [p29, Int.toNat_natCast, pk 97 (by omega), t.1]
    have rest : ∀ (τ' : Sg) (c' : Cd), stl1 c e = c' → PF σ0 τ' → PK τ' l d c' (P ++ π) bd → (∀ j, j ≠ 23 → j ≠ 29 → τ' 84 j = σ 84 j) → c'.2.2 + wtp P ≤ 400 → T (vX10_settle_0 f least τ') (fun σ' => PF σ0 σ' ∧ PK σ' l d (sett c (e :: P)) π bd ∧ ∀ j, j ≠ 23 → j ≠ 29 → σ' 84 j = σ 84 j) := by
      intro τ' c' hc' r1 r2 r3 r4
      refine T_mono (pk_settle hp P f c' τ' (by omega) r1 r2 (fun x hx => hb x (List.mem_cons_of_mem _ hx)) r4 (by omega)) (fun σ' q => ⟨q.1, ?_, fun j j1 j2 => by rw [q.2.2 j j1 j2, r3 j j1 j2]⟩)
      show PK σ' l d (sett (stl1 c e) P) π bd
      rw [hc']
      exact q.2.1
    have ao : e.1 = 29 ∨ e.1 = 30 → T (vX10_settle_63 (vX10_settle_0 f) least τ) (fun σ' => PF σ0 σ' ∧ PK σ' l d (sett c (e :: P)) π bd ∧ ∀ j, j ≠ 23 → j ≠ 29 → σ' 84 j = σ 84 j) := by
      intro ha
      have e98 : τ 98 (P ++ π).length = (e.2 : Int) := by rw [pk 98 (by omega)]; exact t.2 ha
      have lt := he2 ha
      unfold vX10_settle_63
      rw [p29, Int.toNat_natCast, e98, Int.toNat_natCast]
      refine T_ck (by omega) (T_ck (by omega) (T_nm ?_))
      have m23 : τ 84 23 = (c.2.2 : Int) := by rw [pj 23 (by omega)]; exact b1
      rw [m23]
      refine rest _ (c.1, upw c.2.1 e.2 (c.2.2 : Int), c.2.2) (by unfold stl1; rw [if_pos ha]) (PF_o pF (by omega)) ?_ (fun j j1 j2 => by rw [up2_o (by omega)]; exact pj j j2) (by rw [if_pos ha] at hm; show c.2.2 + _ ≤ _; omega)
      obtain ⟨u1, u2, u3⟩ := pK
      refine ⟨by rw [up2_o (by omega)]; exact u1, fun k hk => ?_, fun j x hx => by rw [up2_o (by omega), up2_o (by omega)]; exact u3 j x hx⟩
      rw [up2_o (by omega), up2_c]
      refine ⟨(u2 k hk).1, ?_⟩
      show upw (τ 96) e.2 (c.2.2 : Int) k = upw c.2.1 e.2 (c.2.2 : Int) k
      by_cases q : k = e.2
      · rw [q, upw_s, upw_s]
      · rw [upw_n q, upw_n q]; exact (u2 k hk).2
    refine T_ite (fun c29 => ao (Or.inl c29)) (fun c29 => T_ck (by omega) (T_ite (fun c30 => ao (Or.inr c30)) (fun c30 => T_ck (by omega) ?_)))
    have na : ¬ (e.1 = 29 ∨ e.1 = 30) := by omega
    rw [if_neg na] at hm
    refine T_bind (pk_emit (o := e.1) (a := 0) pF pK (by omega)) (fun τ' q => ?_)
    exact rest τ' (emt c e.1 0) (by unfold stl1; rw [if_neg na]) q.1 q.2.1 (fun j j1 j2 => by rw [q.2.2 j j1]; exact pj j j2) (by show c.2.2 + 1 + _ ≤ _; omega)
theorem ps_settle {N i l d : Nat} {tk : Nat → Int} {pl st : Nat → Nat} {σ0 σ : Sg} {c : Cd} {P π : Pl} {least : Int} (h : PS tk pl st N σ0 σ i l d c (P ++ π)) (hp : ∀ e r, π = e :: r → bnd e.1 < least) (hb : ∀ e ∈ P, least ≤ bnd e.1 ∧ (isAO e.1 → e.2 < 400)) (hm : c.2.2 + wtp P ≤ 400) (hl : (P ++ π).length ≤ 400) : T (vX10_settle least σ) (fun σ' => PS tk pl st N σ0 σ' i l d (sett c P) π) := by
  unfold vX10_settle
  refine T_mono (pk_settle hp P FU c σ (by have := FU_b; rw [List.length_append] at hl; omega) h.1 h.2.1 hb hm hl) (fun σ' q => ⟨q.1, q.2.1, PT_84 h.2.2.1 (fun j hj => q.2.2 j (by omega) (by omega)), by rw [q.2.2 18 (by omega) (by omega)]; exact h.2.2.2⟩)
