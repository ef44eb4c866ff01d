-- the class finds what is induced
theorem CG.fx {P : Nat → Nat → Prop} {g : Nat} {G : Gr} {M M' : Mm} (h : CG g G M) (f : FX P M M') (hP : ∀ k, k ≤ 16 → ∀ j, ¬ P (g + k) j) : CG g G M' := fun k hk j => by
  rw [(f.2 (g + k) j (hP k hk j)).1, (f.2 (g + k) j (hP k hk j)).2]; exact h k hk j
def PC (a f w : Nat) (b j : Nat) : Prop := b = a ∧ f ≤ j ∧ j < f + w
theorem loop_layRows {g p : Nat} {G : Gr} {A : Nat → Nat} (N : Nat) (h : QG G) (hg : g = 35 ∨ g = 52) (hA : AOK G A) (hp : p < G.i 0 1) : ∀ (fu o : Nat) (M : Mm), o ≤ 8 * G.i 6 p → 8 * G.i 6 p < o + fu → CG g G M → HRo 10 0 64 A M → HRo 11 (32 * p) o (layR G A p) M → ∃ M', L_X3_layRows_2 g (nI p) N 9 fu (nI o) M = some M' ∧ HRo 11 (32 * p) (8 * G.i 6 p) (layR G A p) M' ∧ FX (PC 11 (32 * p) (8 * G.i 6 p)) M M'
  | 0, o, M, h1, h2, _, _, _ => by omega
  | fu + 1, o, M, h1, h2, C, hM, hR => by
    have hs := h.sd hp
    have hnp := h.np
    rw [L_X3_layRows_2, ldI_n (by omega) (by omega), C.a 6 p (by omega), Option.bind_some, pk_mul]
    simp (disch := omega) only [n_le]
    by_cases e : 8 * G.i 6 p ≤ o
    · rw [if_pos e]
      have eo : o = 8 * G.i 6 p := by omega
      subst eo
      exact ⟨M, rfl, hR, FX.refl⟩
    · have hr := rwI_lt h hp (show o < 8 * G.i 6 p by omega)
      rw [if_neg e, dv_n (by omega) (by omega) (by omega), Option.bind_some, s_side N C (by omega) (by omega), Option.bind_some, rm_n (by omega) (by omega) (by omega), Option.bind_some, pk_mul, nI_add, show (9 : Nat) + 1 = 10 from rfl]
      have hM' := hM (rwI G p o) hr
      rw [Nat.zero_add] at hM'
      unfold rwI at hr hM'
      rw [ldI_n (by omega) (by omega), hM', Option.bind_some, pk_mul, nI_add, ldI_n (by omega) (by omega), C.a 12 _ (by omega), Option.bind_some, pk_mul, n_shl _ (show 8 * (o / 8) < 32 by omega), n_or, show (9 : Nat) + 2 = 11 from rfl, stI_n (by omega) (by omega), Option.bind_some, Option.bind_some, nI_add]
      have f1 : FX (PC 11 (32 * p) (8 * G.i 6 p)) M (upI M 11 (32 * p + o) (nI (G.i 12 (32 * p + o) ||| A (8 * G.i 7 (4 * p + o / 8) + o % 8) * 2 ^ (8 * (o / 8))))) := FX.I ⟨rfl, by omega, by omega⟩
      obtain ⟨M', b1, b2, b3⟩ := loop_layRows N h hg hA hp fu (o + 1) _ (by omega) (by omega) (C.fx f1 fun k hk j q => by have := q.1; omega) (hM.fx f1 fun j _ _ q => by have := q.1; omega) (fun i hi => by
        rw [upI_j]
        by_cases c : i = o
        · rw [if_pos (by omega), c]
          unfold layR rwI; rw [if_pos (by omega)]
        · rw [if_neg (by omega)]; exact hR i (by omega))
      exact ⟨M', b1, b2, f1.trans b3⟩
theorem s_layRows {g p : Nat} {G : Gr} {A : Nat → Nat} {M : Mm} (N : Nat) (hN : 2000 < N) (h : QG G) (hg : g = 35 ∨ g = 52) (hA : AOK G A) (hp : p < G.i 0 1) (C : CG g G M) (hM : HRo 10 0 64 A M) : ∃ M', D_X3_layRows N 9 g (nI p) M = some M' ∧ HRo 11 (32 * p) (8 * G.i 6 p) (layR G A p) M' ∧ FX (PC 11 (32 * p) (8 * G.i 6 p)) M M' :=
  loop_layRows N h hg hA hp N 0 M (by omega) (by have := h.sd hp; omega) C hM fun o ho => by omega
theorem bI_or (a b : Bool) : bI a ||| bI b = bI (a || b) := by cases a <;> cases b <;> decide +kernel
def PA (b _j : Nat) : Prop := b = 10
theorem loop_gather {g p : Nat} {G : Gr} {A C : Nat → Nat} (N : Nat) (h : QG G) (hg : g = 35 ∨ g = 52) (hA : AOK G A) (hp : p < G.i 0 1) (hC : ∀ o, (G.i 8 p).testBit o = false → C o = 0) (hC32 : LT C) : ∀ (fu o : Nat) (b : Bool) (M : Mm), o ≤ 8 * G.i 6 p → 8 * G.i 6 p < o + fu → CG g G M → HRo 10 0 64 (gat G p C o A) M → HRo 11 (32 * p) (8 * G.i 6 p) C M → FOK b A (gat G p C o A) → ∃ b' M', L_X3_gather_5 g (nI p) N 9 fu (bI b) (nI o) M = some (bI b', M') ∧ HRo 10 0 64 (gat G p C (8 * G.i 6 p) A) M' ∧ FOK b' A (gat G p C (8 * G.i 6 p) A) ∧ FX PA M M'
  | 0, o, b, M, h1, h2, _, _, _, _ => by omega
  | fu + 1, o, b, M, h1, h2, K, hM, hR, hb => by
    have hs := h.sd hp
    have hnp := h.np
    rw [L_X3_gather_5, ldI_n (by omega) (by omega), K.a 6 p (by omega), Option.bind_some, pk_mul]
    simp (disch := omega) only [n_le]
    by_cases e : 8 * G.i 6 p ≤ o
    · rw [if_pos e, retZ_b]
      have eo : o = 8 * G.i 6 p := by omega
      subst eo
      exact ⟨b, M, rfl, hM, hb, FX.refl⟩
    · have hr := rwI_lt h hp (show o < 8 * G.i 6 p by omega)
      have gok := gat_ok h hA hp hC o (by omega)
      rw [if_neg e, dv_n (by omega) (by omega) (by omega), Option.bind_some, s_side N K (by omega) (by omega), Option.bind_some, rm_n (by omega) (by omega) (by omega), Option.bind_some, pk_mul, nI_add, show (9 : Nat) + 1 = 10 from rfl, show (9 : Nat) + 2 = 11 from rfl, Option.bind_some]
      have hM' := hM (rwI G p o) hr
      rw [Nat.zero_add] at hM'
      have er : rwI G p o = 8 * G.i 7 (4 * p + o / 8) + o % 8 := rfl
      rw [← er, ldI_n (by omega) (by omega), hM', Option.bind_some, pk_mul, nI_add, ldI_n (by omega) (by omega), hR o (by omega), Option.bind_some, pk_mul, n_shr (hC32 o) (by omega), n_and, n_or, Option.bind_some, Option.bind_some]
      have e1 : gat G p C o A (rwI G p o) ||| ((C o / 2 ^ (8 * (o / 8))) &&& 255) = gS G p C o (gat G p C o A) (rwI G p o) := by unfold gS; rw [if_pos rfl]
      rw [e1]
      have gok1 := gS_ok h gok hp (show o < 8 * G.i 6 p by omega) (hC o)
      have l1 : gS G p C o (gat G p C o A) (rwI G p o) < 2 ^ 31 := Nat.lt_trans (gok1.2.1 _) (by decide)
      have l2 : gat G p C o A (rwI G p o) < 2 ^ 31 := Nat.lt_trans (gok.2.1 _) (by decide)
      have e2 : (if nI (gS G p C o (gat G p C o A) (rwI G p o)) = nI (gat G p C o A (rwI G p o)) then some (nI 0) else some (nI 1)) = some (bI (!decide (gS G p C o (gat G p C o A) (rwI G p o) = gat G p C o A (rwI G p o)))) := by
        simp only [n_eq l1 l2]
        by_cases c : gS G p C o (gat G p C o A) (rwI G p o) = gat G p C o A (rwI G p o)
        · rw [if_pos c, decide_eq_true c]; rfl
        · rw [if_neg c, decide_eq_false c]; rfl
      rw [e2, Option.bind_some, bI_or, Option.bind_some, stI_n (by omega) (by omega), Option.bind_some, Option.bind_some, nI_add]
      have f1 : FX PA M (upI M 10 (rwI G p o) (nI (gS G p C o (gat G p C o A) (rwI G p o)))) := FX.I rfl
      obtain ⟨b', M', c1, c2, c3, c4⟩ := loop_gather N h hg hA hp hC hC32 fu (o + 1) (b || !decide (gS G p C o (gat G p C o A) (rwI G p o) = gat G p C o A (rwI G p o))) (upI M 10 (rwI G p o) (nI (gS G p C o (gat G p C o A) (rwI G p o)))) (by omega) (by omega) (K.fx f1 fun k hk j q => by have : g + k = 10 := q; omega) (fun i hi => by
        rw [Nat.zero_add, upI_j]
        show _ = nI (gS G p C o (gat G p C o A) i)
        by_cases c : i = rwI G p o
        · rw [if_pos c, c]
        · rw [if_neg c]
          have := hM i hi
          rw [Nat.zero_add] at this
          unfold gS; rw [if_neg c]; exact this) (hR.fx f1 fun j _ _ q => by have : 11 = 10 := q; omega) (hb.or (gS_fok h hp (by omega)))
      exact ⟨b', M', c1, c2, c3, f1.trans c4⟩
theorem s_gather {g p : Nat} {G : Gr} {A C : Nat → Nat} {M : Mm} (N : Nat) (hN : 2000 < N) (h : QG G) (hg : g = 35 ∨ g = 52) (hA : AOK G A) (hp : p < G.i 0 1) (hC : ∀ o, (G.i 8 p).testBit o = false → C o = 0) (hC32 : LT C) (K : CG g G M) (hM : HRo 10 0 64 A M) (hR : HRo 11 (32 * p) (8 * G.i 6 p) C M) : ∃ b' M', D_X3_gather N 9 g (nI p) M = some (bI b', M') ∧ HRo 10 0 64 (gat G p C (8 * G.i 6 p) A) M' ∧ FOK b' A (gat G p C (8 * G.i 6 p) A) ∧ FX PA M M' :=
  loop_gather N h hg hA hp hC hC32 N 0 false M (by omega) (by have := h.sd hp; omega) K hM hR FOK.refl
def PAC (b _j : Nat) : Prop := b = 10 ∨ b = 11
/-- one round, production by production -/
theorem loop_round {g : Nat} {G : Gr} {A : Nat → Nat} (N : Nat) (hN : 2000 < N) (h : QG G) (hg : g = 35 ∨ g = 52) (hA : AOK G A) (kE : Int32 → Mm → Option Mm) : ∀ (fu p : Nat) (b : Bool) (M : Mm), p ≤ G.i 0 1 → G.i 0 1 < p + fu → CG g G M → HRo 10 0 64 (indP G p A) M → FOK b A (indP G p A) → (∀ q, q < p → HRo 11 (32 * q) (8 * G.i 6 q) (iC G (indP G q A) q) M) → ∃ b' M', L_X3_find_28 kE g N 9 fu (bI b) (nI p) M = kE (bI b') M' ∧ HRo 10 0 64 (indP G (G.i 0 1) A) M' ∧ FOK b' A (indP G (G.i 0 1) A) ∧ (∀ q, q < G.i 0 1 → HRo 11 (32 * q) (8 * G.i 6 q) (iC G (indP G q A) q) M') ∧ FX PAC M M'
  | 0, p, b, M, h1, h2, _, _, _, _ => by omega
  | fu + 1, p, b, M, h1, h2, K, hM, hb, hq => by
    have hnp := h.np
    rw [L_X3_find_28, K.f 1]
    simp (disch := omega) only [n_le]
    by_cases e : G.i 0 1 ≤ p
    · rw [if_pos e]
      have ep : p = G.i 0 1 := by omega
      subst ep
      exact ⟨b, M, rfl, hM, hb, hq, FX.refl⟩
    · have hp : p < G.i 0 1 := by omega
      have hs := h.sd hp
      have ok := indP_ok h hA p (by omega)
      have l11 : len 11 = 384 := rfl
      rw [if_neg e, pk_mul, show (9 : Nat) + 2 = 11 from rfl]
      obtain ⟨M1, a1, a2, a3⟩ := s_layRows N hN h hg ok hp K hM
      have K1 := K.fx a3 fun k hk j q => by have := q.1; omega
      have hM1 := hM.fx a3 fun j _ _ q => by have := q.1; omega
      obtain ⟨M2, b1, b2, b3⟩ := s_close N hN l11 (show 32 * p + 8 * G.i 6 p ≤ 384 by omega) (by omega) (show 8 * G.i 6 p ≤ 32 by omega) ((lay_sq h ok hp).lt (by omega)) a2
      have K2 := K1.fx b3 fun k hk j q => by have := q.1; omega
      have hM2 := hM1.fx b3 fun j _ _ q => by have := q.1; omega
      obtain ⟨b', M3, c1, c2, c3, c4⟩ := s_gather N hN h hg ok hp (fun o hu => iC_0 h ok hp hu) ((iC_sq h ok hp).lt (by omega)) K2 hM2 b2
      rw [a1, Option.bind_some, ldI_n (by omega) (by omega), K1.a 6 p (by omega), Option.bind_some, pk_mul, b1, Option.bind_some, c1, Option.bind_some, bI_or, Option.bind_some, Option.bind_some, nI_add]
      have fa : FX PAC M M3 := ((a3.mono fun x j q => Or.inr q.1).trans (b3.mono fun x j q => Or.inr q.1)).trans (c4.mono fun x j q => Or.inl q)
      obtain ⟨b'', M4, d1, d2, d3, d4, d5⟩ := loop_round N hN h hg hA kE fu (p + 1) (b || b') M3 (by omega) (by omega) (K.fx fa fun k hk j q => by unfold PAC at q; omega) c2 (hb.or c3) (fun q hq2 => by
        by_cases c : q = p
        · subst c
          exact HRo.fx b2 c4 fun j _ _ z => by have : 11 = 10 := z; omega
        · have q1 := hq q (by omega)
          have hsq := h.sd (show q < G.i 0 1 by omega)
          have q2 := q1.fx a3 fun j j1 j2 z => by have := z.2.1; omega
          have q3 := q2.fx b3 fun j j1 j2 z => by have := z.2.1; omega
          exact q3.fx c4 fun j _ _ z => by have : 11 = 10 := z; omega)
      exact ⟨b'', M4, d1, d2, d3, d4, fa.trans d5⟩
theorem indP_mid {G : Gr} {A : Nat → Nat} : ∀ (p : Nat), p ≤ G.i 0 1 → LEA (indP G p A) (indP G (G.i 0 1) A) := by
  intro p hp
  obtain ⟨d, hd⟩ := Nat.exists_eq_add_of_le hp
  rw [hd]
  clear hp hd
  induction d with
  | zero => exact LEA.refl
  | succ d ih => exact ih.trans (gat_le _)
theorem le_anti {A B : Nat → Nat} (h : LEA A B) (h' : LEA B A) : A = B := by
  funext r
  apply Nat.eq_of_testBit_eq
  intro q
  cases c : (A r).testBit q
  · cases c' : (B r).testBit q
    · rfl
    · rw [h' r q c'] at c; cases c
  · rw [h r q c]
theorem indP_same {G : Gr} {A : Nat → Nat} (hf : indP G (G.i 0 1) A = A) {p : Nat} (hp : p ≤ G.i 0 1) : indP G p A = A := by
  refine (le_anti (indP_le p) ?_).symm
  have := indP_mid (A := A) p hp
  rw [hf] at this
  exact this
/-- what is induced, found: a fixed point, reached by rounds -/
def Ind (G : Gr) (A : Nat → Nat) : Prop := ∃ t, A = It G t ∧ It G (t + 1) = It G t
theorem Ind.uniq {G : Gr} {A A' : Nat → Nat} (h : Ind G A) (h' : Ind G A') : A = A' := by
  obtain ⟨t, a, b⟩ := h
  obtain ⟨t', a', b'⟩ := h'
  rw [a, a']; exact It_uniq b b'
theorem Ind.ok {G : Gr} {A : Nat → Nat} (hq : QG G) (h : Ind G A) : AOK G A := by
  obtain ⟨t, a, _⟩ := h
  rw [a]; exact It_ok hq t
theorem Ind.fix {G : Gr} {A : Nat → Nat} (h : Ind G A) : indP G (G.i 0 1) A = A := by
  obtain ⟨t, a, b⟩ := h
  rw [a]; exact b
theorem loop_find {g : Nat} {G : Gr} (N : Nat) (hN : 2000 < N) (h : QG G) (hg : g = 35 ∨ g = 52) : ∀ (fu t : Nat) (M : Mm), 514 < t + fu → t ≤ muA (It G t) → CG g G M → HRo 10 0 64 (It G t) M → ∃ A M', L_X3_find_12 N 9 g fu (nI 1) (nI t) M = ((D_X3_findCircle N 9 g M').bind fun M4 => some M4) ∧ Ind G A ∧ HRo 10 0 64 A M' ∧ (∀ q, q < G.i 0 1 → HRo 11 (32 * q) (8 * G.i 6 q) (iC G A q) M') ∧ FX PAC M M'
  | 0, t, M, h1, h2, _, _ => by have := muA_le (It G t); omega
  | fu + 1, t, M, h1, h2, K, hM => by
    have hmu := muA_le (It G t)
    rw [L_X3_find_12]
    simp (disch := omega) only [n_lt]
    rw [if_neg (by omega), if_neg z10]
    obtain ⟨b, M1, a1, a2, a3, a4, a5⟩ := loop_round N hN h hg (It_ok h t) (fun (l2_4 : Int32) (M8 : Mm) => ((some (nI t + (nI 1))).bind fun l3_2 => (L_X3_find_12 N 9 g fu l2_4 l3_2 M8))) N 0 false M (by omega) (by have := h.np; omega) K hM FOK.refl (fun q hq => by omega)
    have a1' : L_X3_find_28 (fun (l2_4 : Int32) (M8 : Mm) => ((some (nI t + (nI 1))).bind fun l3_2 => (L_X3_find_12 N 9 g fu l2_4 l3_2 M8))) g N 9 N (nI 0) (nI 0) M = _ := a1
    rw [a1', Option.bind_some, nI_add]
    cases b
    · have hf : It G (t + 1) = It G t := a3.1 rfl
      refine ⟨It G t, M1, ?_, ⟨t, rfl, hf⟩, ?_, fun q hq => ?_, a5⟩
      · cases fu with
        | zero => omega
        | succ fu =>
          rw [L_X3_find_12]
          simp (disch := omega) only [n_lt]
          by_cases c : 512 < t + 1
          · rw [if_pos c]
          · rw [if_neg c, bI_f, if_pos rfl]
      · have := a2; rw [show indP G (G.i 0 1) (It G t) = It G t from hf] at this; exact this
      · have := a4 q hq
        rw [indP_same hf (by omega)] at this
        exact this
    · have hlt := muA_lt a3
      obtain ⟨A, M2, c1, c2, c3, c4, c5⟩ := loop_find N hN h hg fu (t + 1) M1 (by omega) (by show t + 1 ≤ muA (indP G (G.i 0 1) (It G t)); omega) (K.fx a5 fun k hk j q => by unfold PAC at q; omega) a2
      exact ⟨A, M2, c1, c2, c3, c4, a5.trans c5⟩
theorem s_find0 {g : Nat} {G : Gr} {M : Mm} (N : Nat) (hN : 2000 < N) (h : QG G) (hg : g = 35 ∨ g = 52) (K : CG g G M) : ∃ A M', D_X3_find N 9 g M = ((D_X3_findCircle N 9 g M').bind fun M4 => some M4) ∧ Ind G A ∧ HRo 10 0 64 A M' ∧ (∀ q, q < G.i 0 1 → HRo 11 (32 * q) (8 * G.i 6 q) (iC G A q) M') ∧ FX PAC M M' := by
  unfold D_X3_find
  have e := fill_n N 10 (nI 0) M (n := 64) rfl (by decide) (by omega)
  rw [show (9 : Nat) + 1 = 10 from rfl, e, Option.bind_some]
  have f1 : FX PAC M (upR M.1 10 (fun j => if j < 64 then nI 0 else M.1 10 j), M.2) := ⟨rfl, fun a j q => ⟨by rw [mR1, if_neg (fun z => q (Or.inl z))], rfl⟩⟩
  obtain ⟨A, M2, c1, c2, c3, c4, c5⟩ := loop_find N hN h hg N 0 (upR M.1 10 (fun j => if j < 64 then nI 0 else M.1 10 j), M.2) (by omega) (Nat.zero_le _) (K.fx f1 fun k hk j q => by unfold PAC at q; omega) (fun o ho => by rw [mR1, if_pos rfl, Nat.zero_add, if_pos ho]; rfl)
  exact ⟨A, M2, c1, c2, c3, c4, f1.trans c5⟩
