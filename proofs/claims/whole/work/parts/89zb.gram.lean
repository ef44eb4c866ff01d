-- both sides answer: grammar
theorem W0.ns1 {G : Gr} (h0 : W0 G) (h2 : W2 G) (h : 1 ≤ G.i 0 1) : 1 ≤ G.i 0 0 := by
  have := h2 0 (by omega)
  have := (h0.2.2.2.2 0 (by omega)).2.2 0 (by omega)
  omega
theorem pRule_np {T : List Tok} {h : Nat} {G : Gr} {y : Nat × Gr} (hE : TE T) (hI : LI T h G) (e : pRule T h G = .inr y) : y.2.i 0 1 = G.i 0 1 ∧ 1 ≤ G.i 0 1 := by
  obtain ⟨h0, h2, hc, hh, hl⟩ := hI
  unfold pRule at e
  split at e
  · split at e
    · rename_i e2
      split at e
      · cases e
      · rename_i y1 e3
        split at e
        · obtain ⟨z, a, b⟩ := bnd_r e
          injection b with b
          subst b
          obtain ⟨z5, a5, b5⟩ := bnd_r a
          obtain ⟨o1, o2, o3⟩ := pOcc_h hE (adv_lt (adv_lt hh)) e3
          have q5 := pSign_D (adv_lt o2) (show (gRul G _ y1.2).pa ≤ 24 from Nat.zero_le _) a5
          have q := q5.trans (pE_D hE 8 0 _ _ _ q5.1.2.2.2 q5.2 b5)
          obtain ⟨⟨s, q1, q2, q3⟩, q4⟩ := q
          refine ⟨?_, by omega⟩
          show (gEnd z.2 _ _).i 0 1 = _
          rw [gEnd_i _ _ _ _ _ (by omega), s.2.2.1, gRul_i _ _ _ _ _ (by omega) (by omega)]
        · unfold fl at e; cases e
    · unfold fl at e; cases e
  · unfold fl at e; cases e
theorem pLine_ns {n : Nat} {T : List Tok} {h : Nat} {G : Gr} {y : Nat × Gr} (hT : TT n T) (hE : TE T) (hI : LI T h G) (e : pLine T h G = .inr y) : 1 ≤ y.2.i 0 0 := by
  have L := pLine_L hT hE hI e
  unfold pLine at e
  split at e
  · obtain ⟨z, a, b⟩ := bnd_r e
    have q := pSym_W hT hI.2.2.2.1 hI.1 a
    obtain ⟨c, _⟩ := pSign_r b
    subst c
    show 1 ≤ z.2.i 0 0
    rw [q.2.1]; omega
  · split at e
    · obtain ⟨z, a, b⟩ := bnd_r e
      have q := pPro_W hT hI.2.2.2.1 hI.1 hI.2.1 a
      obtain ⟨c, _⟩ := pSign_r b
      subst c
      exact W0.ns1 q.1 q.2.1 (by rw [q.2.2.1]; omega)
    · split at e
      · obtain ⟨z, a, b⟩ := bnd_r e
        have q := pRule_np hE hI a
        have l := pRule_L hE hI a
        obtain ⟨c, _⟩ := pSign_r b
        subst c
        exact W0.ns1 l.1 l.2.1 (by rw [q.1]; exact q.2)
      · unfold fl at e; cases e
theorem pRL_ns {n : Nat} {T : List Tok} (hT : TT n T) (hE : TE T) : ∀ (m : Nat) (b : Bool) (h : Nat) (G : Gr) (y : Nat × Gr), LI T h G → pRL T m b h G = .inr y → (b = false ∨ m = 0 → 1 ≤ G.i 0 0) → 1 ≤ y.2.i 0 0
  | 0, b, h, G, y, hI, e, hb => by
    have e' : (Sum.inr (h, G) : RS) = .inr y := e
    injection e' with e'; subst e'; exact hb (Or.inr rfl)
  | m + 1, b, h, G, y, hI, e, hb => by
    rw [pRL] at e
    split at e
    · rename_i c
      injection e with e; subst e; exact hb (Or.inl c.1)
    · obtain ⟨z, a, b'⟩ := bnd_r e
      exact pRL_ns hT hE m false z.1 z.2 y (pLine_L hT hE hI a) b' fun _ => pLine_ns hT hE hI a
theorem GrI.of {P : Nat → Nat → Prop} {g : Nat} {G : Gr} {A : Nat → Nat} {M M' : Mm} (hg : g = 35 ∨ g = 52) (h : GrI g G A M) (f : FY P M M') (h9 : M'.1 137 9 = M.1 137 9) (hP : ∀ b j, P b j → ¬ uG g b j ∨ b = 137 ∧ j = 9) : GrI g G A M' := by
  obtain ⟨h1, h2, h3, h4, h5, h6, h7, h8, h0⟩ := h
  have k : ∀ b j, P b j → b = 137 ∨ ¬ uG g b j := fun b j z => (hP b j z).elim Or.inr fun u => Or.inl u.1
  have r : GrI g G A (M'.1, M'.2.1, M.2.2) := ⟨h1, h2, h3.fx f.x fun i hi j z => by
    rcases k _ _ z with u | u
    · omega
    · exact u (by unfold uG; omega), h4.fx f.x (fun j z => by
    rcases k _ _ z with u | u
    · omega
    · exact u (by unfold uG; omega)) (fun j z => by
    rcases k _ _ z with u | u
    · omega
    · exact u (by unfold uG; omega)), h9.trans h5, h6, h7.fx f.x (fun b j z => by
    rcases k b j z with u | u
    · omega
    · unfold uG at u; omega), h8.fx f.x (fun b j z => by
    rcases k b j z with u | u
    · omega
    · unfold uG at u; omega), h0.fx f.x (fun j _ _ z => by
    rcases k _ _ z with u | u
    · omega
    · exact u (by unfold uG; omega))⟩
  exact r
theorem StI.of {P : Nat → Nat → Prop} {w q g : Nat} {M M' : Mm} (hg : g = 35 ∨ g = 52) (hq : q = 105 ∨ q = 121) (h : StI w q g M) (f : FW P M M') (h9 : M'.1 137 9 = M.1 137 9) (hP : ∀ b j, P b j → (¬ uG g b j ∨ b = 137 ∧ j = 9) ∧ ¬ uCl w q b j ∧ ¬ uR b j ∧ ¬ (b = 1 ∧ j = 3) ∧ ¬ (b = 137 ∧ j = 53)) : StI w q g M' := by
  have k : ∀ b j, P b j → b = 137 ∨ ¬ uG g b j := fun b j z => (hP b j z).1.elim Or.inr fun u => Or.inl u.1
  rcases h with ⟨n1, n2, n3, n4, n5⟩ | ⟨G, A, a1, a2, a3⟩
  · refine Or.inl ⟨?_, ?_, h9.trans n3, by rw [f.e fun z => (hP _ _ z).2.1 (by unfold uCl; omega)]; exact n4, by rw [f.e fun z => (hP _ _ z).2.2.1 (by unfold uR; omega)]; exact n5⟩
    · rw [f.e fun z => (k _ _ z).elim (fun u => by omega) fun u => u (by unfold uG; omega)]; exact n1
    · rw [f.e fun z => (k _ _ z).elim (fun u => by omega) fun u => u (by unfold uG; omega)]; exact n2
  · refine Or.inr ⟨G, A, a1.of hg f.1 h9 fun b j z => (hP b j z).1, a2.fw f fun b j z => ?_, a3.fw hq f (fun b j z => ⟨(hP b j z).2.1, (hP b j z).2.2.1⟩) ⟨fun z => (hP _ _ z).2.2.2.1 ⟨rfl, rfl⟩, fun z => (hP _ _ z).2.2.2.2 ⟨rfl, rfl⟩⟩⟩
    rcases k b j z with u | u
    · omega
    · unfold uG at u; omega
theorem fail_done9 {g g' w w' q q' : Nat} {M M2 : Mm} (I : IN0 g g' w w' q q' M) (f : FW (fun b j => PFl w' g' b j ∨ b = 137 ∧ j = 9) M M2) (h9 : M2.1 137 9 = M.1 137 9) (e0 : M2.1 1 0 = M2.1 137 6) (e1 : M2.1 2 6 = nI 0) (e2 : M2.1 137 5 = nI 0) (e3 : M2.1 1 1 = M2.1 137 7) (e4 : M2.1 1 2 = M2.1 137 8) : INV M2 := by
  obtain ⟨⟨B, n, Co⟩, R, St⟩ := I
  obtain ⟨hg, hw, hqq, hg', hw', hqq'⟩ := R.gg
  have ne : (g = 35 ∧ g' = 52 ∨ g = 52 ∧ g' = 35) ∧ (w = 69 ∧ w' = 87 ∨ w = 87 ∧ w' = 69) := ⟨R.1.2.2, R.2.1.2.2⟩
  have k : ∀ b j, ¬ PFl w' g' b j → ¬ (b = 137 ∧ j = 9) → M2.1 b j = M.1 b j := fun b j hb hc => f.e fun z => z.elim hb hc
  refine ⟨e0, g, g', w, w', q, q', ⟨fun _ => 0, 0, by omega, e1, e2, fun i hi => absurd hi (Nat.not_lt_zero _), e3, e4, ?_, ?_⟩, R.fw f, St.of hg hqq f h9 fun b j z => ?_⟩
  · rw [k 30 6 (by unfold PFl; omega) (by omega), k 137 54 (by unfold PFl; omega) (by omega)]; exact Co.2.2.2.2.2.2.1
  · rw [k 30 7 (by unfold PFl; omega) (by omega), k 137 55 (by unfold PFl; omega) (by omega)]; exact Co.2.2.2.2.2.2.2
  · rcases z with z | z
    · unfold PFl at z; unfold uG uCl uR; omega
    · unfold uG uCl uR; omega
/-- the class's memory with the two grammars changed about -/
theorem RfI.swapG {g g' w w' q q' : Nat} {M : Mm} (N : Nat) (R : RfI g g' w w' q q' M) : D_X11_swapRules N 1 M = some (upN (upN M 1 12 g) 1 11 g') ∧ RfI g' g w w' q q' (upN (upN M 1 12 g) 1 11 g') := by
  have e : ∀ j, (upN (upN M 1 12 g) 1 11 g').2.2 1 j = if j = 11 then g' else if j = 12 then g else M.2.2 1 j := fun j => by
    rw [upN3, if_pos rfl]
    show (if j = 11 then g' else (upN M 1 12 g).2.2 1 j) = _
    rw [upN3, if_pos rfl]
  refine ⟨?_, ?_⟩
  · unfold D_X11_swapRules
    rw [R.g', Option.bind_some, R.g, Option.bind_some, pN_n, Option.bind_some, pN_n, Option.bind_some]
  · obtain ⟨⟨r1, r2, r3⟩, ⟨r4, r5, r6⟩, r7, r8, r9⟩ := R
    refine ⟨⟨by rw [e, if_pos rfl], by rw [e, if_neg (by decide), if_pos rfl], by omega⟩, ⟨by rw [e, if_neg (by decide), if_neg (by decide)]; exact r4, by rw [e, if_neg (by decide), if_neg (by decide)]; exact r5, r6⟩, by rw [e, if_neg (by decide), if_neg (by decide)]; exact r7, by rw [e, if_neg (by decide), if_neg (by decide)]; exact r8, r9⟩
