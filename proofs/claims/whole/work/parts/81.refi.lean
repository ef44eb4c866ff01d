-- the reference: lines, the whole read
theorem v_line_end {B : Nat → Nat} {n : Nat} {T : List Tok} {M : Mm} {r : RS} {x : Option (Int32 × Mm)} (N : Nat) (hN : 2000 < N) (hx : RV (QL B n T) M r x) : RV (QL B n T) M (bnd r fun h G => pSign T 59 h G) (x.bind fun q9 => (if q9.1 = nI 0 then retZ (nI 0) q9.2 else ((D_X12_eats N 137 (nI 59) q9.2).bind fun q10 => (if q10.1 = nI 0 then retZ (nI 0) q10.2 else (retZ (nI 1) q10.2))))) := by
  refine RV.bind hx (fun M' => by rw [if_pos rfl, retZ_0]) (fun y M' _ q => ?_)
  rw [if_neg z10]
  have r2 := v_eats (c := 59) N hN (by omega) q.1
  cases e : pSign T 59 y.1 y.2 with
  | inl er => rw [e] at r2; obtain ⟨M2, a, b, c⟩ := r2; exact ⟨M2, by rw [a, Option.bind_some, if_pos rfl, retZ_0], b, c⟩
  | inr z =>
    rw [e] at r2; obtain ⟨M2, a, ⟨b, _⟩, c⟩ := r2
    obtain ⟨ez, _⟩ := pSign_r e
    subst ez
    exact ⟨M2, by rw [a, Option.bind_some, if_neg z10, retZ_1], ⟨b, q.2⟩, c⟩
theorem v_readLine {B : Nat → Nat} {n h : Nat} {T : List Tok} {G : Gr} {M : Mm} (N : Nat) (hN : 2000 < N) (Q : QL B n T h G M) (hL : LI T h G) : RV (QL B n T) M (pLine T h G) (D_X12_readLine N 137 M) := by
  unfold D_X12_readLine pLine
  simp only [jn]
  rw [r_isWord N Q.1.1 (show 0 < 9 by omega), Option.bind_some, show wC 0 = 664177132 from rfl]
  by_cases e0 : isWd T h 664177132
  · rw [if_pos e0, decide_eq_true e0, bI_t, if_neg z10]
    exact v_line_end N hN (v_readSymbol N hN Q)
  · rw [if_neg e0, decide_eq_false e0, bI_f, if_pos rfl, r_isWord N Q.1.1 (show 1 < 9 by omega), Option.bind_some, show wC 1 = 543204 from rfl]
    by_cases e1 : isWd T h 543204
    · rw [if_pos e1, decide_eq_true e1, bI_t, if_neg z10]
      exact v_line_end N hN (v_readProduction N hN Q)
    · rw [if_neg e1, decide_eq_false e1, bI_f, if_pos rfl, r_isWord N Q.1.1 (show 2 < 9 by omega), Option.bind_some, show wC 2 = 611717 from rfl]
      by_cases e2 : isWd T h 611717
      · rw [if_pos e2, decide_eq_true e2, bI_t, if_neg z10]
        exact v_line_end N hN (v_readRule N hN Q hL)
      · rw [if_neg e2, decide_eq_false e2, bI_f, if_pos rfl]
        exact v_bad N Q.1.1
theorem pRule_h {T : List Tok} {h : Nat} {G : Gr} {y : Nat × Gr} (hE : TE T) (hI : LI T h G) (e : pRule T h G = .inr y) : h ≤ y.1 := by
  obtain ⟨h0, h2, hc, hh, hl⟩ := hI
  unfold pRule at e
  split at e
  · split at e
    · split at e
      · cases e
      · rename_i y1 e3
        split at e
        · obtain ⟨z, a, b⟩ := bnd_r e
          injection b with b
          subst b
          obtain ⟨z5, a5, b5⟩ := bnd_r a
          obtain ⟨o1, o2, o3⟩ := pOcc_h hE (adv_lt (adv_lt hh)) e3
          have q5 := pSign_D (adv_lt o2) (show (gRul G _ y1.2).pa ≤ 24 from Nat.zero_le _) a5
          have q := q5.trans (pE_D hE 8 0 _ _ _ q5.1.2.2.2 q5.2 b5)
          obtain ⟨⟨s, q1, q2, q3⟩, q4⟩ := q
          have ka := adv_ge (T := T) (h := h)
          have ka2 := adv_ge (T := T) (h := adv T h)
          have ka3 := adv_ge (T := T) (h := y1.1)
          show h ≤ z.1
          omega
        · unfold fl at e; cases e
    · unfold fl at e; cases e
  · unfold fl at e; cases e
theorem pSign_h {T : List Tok} {c h : Nat} {G : Gr} {y : Nat × Gr} (hE : TE T) (hh : h < T.length) (e : pSign T c h G = .inr y) : y.1 = h + 1 := by
  obtain ⟨a, b⟩ := pSign_r e
  subst a
  exact hE.adv hh (by have := b.1; omega)
theorem pLine_h {n : Nat} {T : List Tok} {h : Nat} {G : Gr} {y : Nat × Gr} (hT : TT n T) (hE : TE T) (hI : LI T h G) (e : pLine T h G = .inr y) : h + 1 ≤ y.1 := by
  unfold pLine at e
  split at e
  · obtain ⟨z, a, b⟩ := bnd_r e
    have q := pSym_W hT hI.2.2.2.1 hI.1 a
    have := pSign_h hE q.2.2.2.2 b
    have := q.2.2.2.1
    omega
  · split at e
    · obtain ⟨z, a, b⟩ := bnd_r e
      have q := pPro_W hT hI.2.2.2.1 hI.1 hI.2.1 a
      have := pSign_h hE q.2.2.2.2.2.2 b
      have := q.2.2.2.2.2.1
      omega
    · split at e
      · obtain ⟨z, a, b⟩ := bnd_r e
        have q := pRule_L hE hI a
        have := pSign_h hE q.2.2.2.1 b
        have := pRule_h hE hI a
        omega
      · unfold fl at e; cases e
def RVk (Q : Nat → Gr → Mm → Prop) (M : Mm) (r : RS) (kE : Int32 → Mm → Option (Int32 × Mm)) (x : Option (Int32 × Mm)) : Prop := match r with
  | .inl e => ∃ M', x = kE (nI 0) M' ∧ RF e M' ∧ FX PR M M'
  | .inr y => ∃ M', x = kE (nI 1) M' ∧ Q y.1 y.2 M' ∧ FX PR M M'
theorem loop_v_lines {B : Nat → Nat} {n : Nat} {T : List Tok} {kE : Int32 → Mm → Option (Int32 × Mm)} (N : Nat) (hN : 2000 < N) : ∀ (k m h : Nat) (G : Gr) (M : Mm), QL B n T h G M → LI T h G → T.length ≤ h + m + 1 → T.length < h + k → RVk (QL B n T) M (pRL T m false h G) kE (L_X12_grammar_56 kE 137 N k (nI 1) M)
  | 0, m, h, G, M, q, hL, hm, hk => by have := hL.2.2.2.1; omega
  | k + 1, 0, h, G, M, q, hL, hm, hk => by
    have hE := q.1.1.t.2.1
    have k0 : (tk T h).1 = 0 := Decidable.byContradiction fun z => by have := hE h hL.2.2.2.1 z; omega
    rw [L_X12_grammar_56, if_neg z10]
    simp only [q.1.1.isK (show 0 < 5 by omega), kR_0 q.1.1.k4]
    rw [if_pos k0]
    exact ⟨M, rfl, q, FX.refl⟩
  | k + 1, m + 1, h, G, M, q, hL, hm, hk => by
    have hE := q.1.1.t.2.1
    have hT := q.1.1.t.1
    rw [L_X12_grammar_56, if_neg z10]
    simp only [q.1.1.isK (show 0 < 5 by omega), kR_0 q.1.1.k4]
    show RVk _ M (if false = false ∧ (tk T h).1 = 0 then .inr (h, G) else bnd (pLine T h G) fun h' G' => pRL T m false h' G') kE _
    by_cases e : (tk T h).1 = 0
    · rw [if_pos e, if_pos ⟨rfl, e⟩]
      exact ⟨M, rfl, q, FX.refl⟩
    · rw [if_neg e, if_neg (fun z => e z.2)]
      have r := v_readLine N hN q hL
      cases e2 : pLine T h G with
      | inl er =>
        rw [e2] at r; obtain ⟨M2, a, b, c⟩ := r
        rw [a, Option.bind_some]
        refine ⟨M2, ?_, b, c⟩
        cases k with
        | zero => have := hL.2.2.2.1; omega
        | succ k => rw [L_X12_grammar_56, if_pos rfl]
      | inr y =>
        rw [e2] at r; obtain ⟨M2, a, b, c⟩ := r
        rw [a, Option.bind_some]
        have hy := pLine_h hT hE hL e2
        have rr := loop_v_lines N hN k m y.1 y.2 M2 b (pLine_L hT hE hL e2) (by omega) (by omega) (kE := kE)
        show RVk _ M (pRL T m false y.1 y.2) kE _
        cases e3 : pRL T m false y.1 y.2 with
        | inl er => rw [e3] at rr; obtain ⟨M3, a3, b3, c3⟩ := rr; exact ⟨M3, a3, b3, c.trans c3⟩
        | inr z => rw [e3] at rr; obtain ⟨M3, a3, b3, c3⟩ := rr; exact ⟨M3, a3, b3, c.trans c3⟩
/-- a reader begins -/
def PN (a j : Nat) : Prop := a = 137 ∧ (j = 5 ∨ 10 ≤ j ∧ j ≤ 18)
theorem v_begins {B : Nat → Nat} {n : Nat} {M : Mm} (N : Nat) (hN : 2000 < N) (hn : n ≤ 1000) (hB : ∀ i, i < n → M.1 138 i = nI (B i) ∧ B i < 256) : ∃ M', D_X12_begins N 137 (nI n) M = some M' ∧ RQ B n (toks B n 0) 0 M' ∧ RZ M' ∧ M'.1 137 5 = nI 0 ∧ FX PN M M' := by
  unfold D_X12_begins
  simp only [pI_n, Option.bind_some]
  generalize hM : upI (upI (upI (upI (upI M 137 10 (nI n)) 137 5 (nI 0)) 137 12 (nI 0)) 137 16 (nI 0)) 137 17 m1 = M1
  have f1 : FX PN M M1 := by
    rw [← hM]
    exact ((((FX.I ⟨rfl, by omega⟩).trans (FX.I ⟨rfl, by omega⟩)).trans (FX.I ⟨rfl, by omega⟩)).trans (FX.I ⟨rfl, by omega⟩)).trans (FX.I ⟨rfl, by omega⟩)
  have g10 : M1.1 137 10 = nI n := by rw [← hM, upI_j, if_neg (by omega), upI_j, if_neg (by omega), upI_j, if_neg (by omega), upI_j, if_neg (by omega), upI_j, if_pos rfl]
  have g12 : M1.1 137 12 = nI 0 := by rw [← hM, upI_j, if_neg (by omega), upI_j, if_neg (by omega), upI_j, if_pos rfl]
  have g5 : M1.1 137 5 = nI 0 := by rw [← hM, upI_j, if_neg (by omega), upI_j, if_neg (by omega), upI_j, if_neg (by omega), upI_j, if_pos rfl]
  have g16 : M1.1 137 16 = nI 0 := by rw [← hM, upI_j, if_neg (by omega), upI_j, if_pos rfl]
  have g17 : M1.1 137 17 = m1 := by rw [← hM, upI_j, if_pos rfl]
  have hR : HR B n M1 := ⟨g10, hn, fun i hi => by rw [(f1.2 138 i (by unfold PN; omega)).1]; exact hB i hi⟩
  obtain ⟨M2, a, b, u⟩ := r_go0 N hN hR (Nat.zero_le n) g12
  rw [a, Option.bind_some]
  have hl := (toks_len B n n 0 (by omega)).2
  exact ⟨M2, rfl, ⟨hR.UT u, rfl, by omega, b⟩, ⟨(u.2.2.1 16 (by omega)).trans g16, (u.2.2.1 17 (by omega)).trans g17⟩, (u.2.2.1 5 (by omega)).trans g5, f1.trans (u.x.mono fun a j q => by unfold PT at q; unfold PN; omega)⟩
theorem gClr_QL {B : Nat → Nat} {n h : Nat} {T : List Tok} {G0 : Gr} {M : Mm} (hl : T.length ≤ 1001) (K : RQ B n T h M) (hz : RZ M) (h0 : M.1 140 0 = nI 0) (h1 : M.1 140 1 = nI 0) (h2 : M.1 140 2 = nI 0) (h3 : M.1 140 3 = nI 0) : QL B n T h (gClr G0) M := by
  have a0 := gClr_0 G0 0 (by omega)
  have a1 := gClr_0 G0 1 (by omega)
  have a2 := gClr_0 G0 2 (by omega)
  have hL := gClr_LI (T := T) (G := G0) (by have := K.h; omega) hl
  unfold QL
  rw [a0, a1]
  refine ⟨⟨K, ⟨⟨h0, h1, ?_, by rw [a2]; exact h3⟩, fun s hs => by omega, fun p hp => by omega, fun i hi => by omega, fun c hc => by omega⟩, hz⟩, hL.1, fun i i1 i2 => ?_, fun p hp => by omega, fun p hp => by omega⟩
  · rw [h2]; unfold tolds; rw [a1]; rfl
  · exact ⟨gClr_k _ _ _ (by omega) i2, gClr_k _ _ _ (by omega) i2, gClr_k _ _ _ (by omega) i2, fun _ => gClr_k _ _ _ (by omega) i2⟩
/-- the rows of a grammar read are told -/
theorem loop_v_copy (kE : Mm → Option (Int32 × Mm)) : ∀ (k i : Nat) (M : Mm), i ≤ 3816 → 3816 < i + k → ∃ M', L_X12_grammar_92 kE 137 k (nI i) M = kE M' ∧ M'.2 = M.2 ∧ (∀ a, ¬ a = 139 → M'.1 a = M.1 a) ∧ (∀ j, i ≤ j → j < 3816 → M'.1 139 j = M.1 140 j) ∧ ∀ j, j < i → M'.1 139 j = M.1 139 j
  | 0, i, M, h1, h2 => by omega
  | k + 1, i, M, h1, h2 => by
    rw [L_X12_grammar_92]
    simp (disch := omega) only [n_le]
    by_cases e : 3816 ≤ i
    · rw [if_pos e]; exact ⟨M, rfl, rfl, fun _ _ => rfl, fun j j1 j2 => by omega, fun _ _ => rfl⟩
    · rw [if_neg e, show (137 : Nat) + 3 = 140 from rfl, show (137 : Nat) + 2 = 139 from rfl, ldI_n (by omega) (by omega), Option.bind_some, stI_n (by omega) (by omega), Option.bind_some, Option.bind_some, nI_add]
      obtain ⟨M', a, b, c, d, f⟩ := loop_v_copy kE k (i + 1) (upI M 139 i (M.1 140 i)) (by omega) (by omega)
      refine ⟨M', a, b, fun a' ha => (c a' ha).trans (by rw [up1, if_neg ha]), fun j j1 j2 => ?_, fun j j1 => ?_⟩
      · by_cases q : j = i
        · rw [f j (by omega), upI_j, if_pos q, q]
        · rw [d j (by omega) j2, up1, if_neg (by omega)]
      · rw [f j (by omega), upI_j, if_neg (by omega)]
theorem loop_v_copyJ (kE : Mm → Option (Int32 × Mm)) : ∀ (k i : Nat) (M : Mm), i ≤ 84 → 84 < i + k → ∃ M', L_X12_grammar_119 kE 137 k (nI i) M = kE M' ∧ M'.1 = M.1 ∧ M'.2.2 = M.2.2 ∧ (∀ a, ¬ a = 141 → M'.2.1 a = M.2.1 a) ∧ (∀ j, i ≤ j → j < 84 → M'.2.1 141 j = M.2.1 142 j) ∧ ∀ j, j < i → M'.2.1 141 j = M.2.1 141 j
  | 0, i, M, h1, h2 => by omega
  | k + 1, i, M, h1, h2 => by
    rw [L_X12_grammar_119]
    simp (disch := omega) only [n_le]
    by_cases e : 84 ≤ i
    · rw [if_pos e]; exact ⟨M, rfl, rfl, rfl, fun _ _ => rfl, fun j j1 j2 => by omega, fun _ _ => rfl⟩
    · rw [if_neg e, show (137 : Nat) + 5 = 142 from rfl, show (137 : Nat) + 4 = 141 from rfl, ldJ_n (by omega) (by omega), Option.bind_some, stJ_n (by omega) (by omega), Option.bind_some, Option.bind_some, nI_add]
      obtain ⟨M', a, a2, b, c, d, f⟩ := loop_v_copyJ kE k (i + 1) (upJ M 141 i (M.2.1 142 i)) (by omega) (by omega)
      refine ⟨M', a, a2, b, fun a' ha => (c a' ha).trans (by rw [upJ2, if_neg ha]), fun j j1 j2 => ?_, fun j j1 => ?_⟩
      · by_cases q : j = i
        · rw [f j (by omega), upJ_j, if_pos q, q]
        · rw [d j (by omega) j2, upJ2, if_neg (by omega)]
      · rw [f j (by omega), upJ_j, if_neg (by omega)]
theorem RG.copy {G : Gr} {sy pr e : Nat} {M M' : Mm} (h : RG 140 142 G sy pr e M) (h0 : W0 G) (hp : pr ≤ 12) (hi : ∀ j, j < 3816 → M'.1 139 j = M.1 140 j) (hl : ∀ j, j < 84 → M'.2.1 141 j = M.2.1 142 j) : RG 139 141 G sy pr e M' := by
  obtain ⟨⟨a1, a2, a3, a4⟩, b, c, d, f⟩ := h
  have n8 := h0.1
  have n12 := h0.2.1
  have nc := h0.2.2.1
  refine ⟨⟨by rw [hi 0 (by omega)]; exact a1, by rw [hi 1 (by omega)]; exact a2, by rw [hi 2 (by omega)]; exact a3, by rw [hi 3 (by omega)]; exact a4⟩, fun s hs => ?_, fun p hq => ?_, fun i hi2 => ?_, fun k hk => ?_⟩
  · obtain ⟨d1, d2, d3, d4⟩ := h0.2.2.2.1 s hs
    rw [hi _ (by omega), hi _ (by omega), hl _ (by omega)]
    refine ⟨(b s hs).1, (b s hs).2.1, (b s hs).2.2.1, fun j hj => ?_⟩
    rw [hl _ (by omega)]; exact (b s hs).2.2.2 j hj
  · have hsq := (h0.2.2.2.2 p hq).2.1
    rw [hl _ (by omega), hi _ (by omega), hi _ (by omega)]
    refine ⟨(c p hq).1, fun hd => ⟨((c p hq).2 hd).1, ((c p hq).2 hd).2.1, fun k hk => ?_⟩⟩
    rw [hi _ (by omega)]; exact ((c p hq).2 hd).2.2 k hk
  · rw [hi _ (by omega), hi _ (by omega), hi _ (by omega), hi _ (by omega)]; exact d i hi2
  · rw [hi _ (by omega), hi _ (by omega)]; exact f k hk
