-- an occ, a leaf
def sA (G : Gr) (v : Nat) : Gr := mkG G.i G.l v G.cp G.co
def sP (G : Gr) (v : Nat) : Gr := mkG G.i G.l G.pa v G.co
def sO (G : Gr) (v : Nat) : Gr := mkG G.i G.l G.pa G.cp v
def TE (T : List Tok) : Prop := ∀ h, h < T.length → ¬ (tk T h).1 = 0 → h + 1 < T.length
theorem TE.adv {T : List Tok} {h : Nat} (hE : TE T) (hh : h < T.length) (e : ¬ (tk T h).1 = 0) : adv T h = h + 1 := if_pos (hE h hh e)
theorem toks_TE (B : Nat → Nat) (n : Nat) : ∀ d i, n - i = d → TE (toks B n i) := by
  intro d
  induction d using Nat.strongRecOn with
  | ind d ih =>
    intro i hd
    by_cases h : n ≤ i
    · rw [toks_end h]
      intro j hj e
      have : j = 0 := by simp at hj; exact hj
      subst this
      exact absurd rfl e
    · by_cases hb : isBl (B i) = true
      · rw [toks_bl (by omega) hb]; exact ih (n - (i + 1)) (by omega) (i + 1) rfl
      · rw [toks_tok (by omega) hb]
        have he := tokAt_end (B := B) (n := n) (i := i) (by omega)
        have q := ih (n - (tokAt B n i).2.2.1) (by omega) (tokAt B n i).2.2.1 rfl
        have ql := (toks_len B n (n - (tokAt B n i).2.2.1) (tokAt B n i).2.2.1 rfl).2
        intro j hj e
        cases j with
        | zero => simp only [List.length_cons]; omega
        | succ j =>
          simp only [List.length_cons] at hj ⊢
          have := q j (by omega) e
          omega
def pPos (T : List Tok) (h : Nat) (G : Gr) : RS :=
  if (tk T h).1 = 2 then (if (tk T h).2.2.2 < G.i 6 G.cp then .inr (h, G) else fl T h 3) else fl T h 2
theorem lg_lt (x y : Int64) : (lg_cmp x y < nI 0) = (x < y) := by
  have q1 : (x < y) ↔ x.toInt < y.toInt := Int64.lt_iff_toInt_lt
  have q2 : (x > y) ↔ y.toInt < x.toInt := Int64.lt_iff_toInt_lt
  have q3 : (x = y) ↔ x.toInt = y.toInt := Int64.toInt_inj.symm
  unfold lg_cmp
  by_cases h1 : x > y
  · rw [if_pos h1]; exact propext ⟨fun q => absurd q (by decide +kernel), fun q => by rw [q2] at h1; rw [q1] at q; omega⟩
  · rw [if_neg h1]
    by_cases h2 : x = y
    · rw [if_pos h2]; exact propext ⟨fun q => absurd q (by decide +kernel), fun q => by rw [q3] at h2; rw [q1] at q; omega⟩
    · rw [if_neg h2]; exact propext ⟨fun _ => by rw [q1]; rw [q2] at h1; rw [q3] at h2; omega, fun _ => by decide +kernel⟩
theorem l_lt {a b : Nat} (ha : a < 2 ^ 63) (hb : b < 2 ^ 63) : (lN a < lN b) = (a < b) := propext (pk_lLT ha hb)
def posK (T : List Tok) (h : Nat) : Nat := (tk T h).2.2.2
def attN (G : Gr) (s w : Nat) : Nat := fi (fun a => G.l 2 (8 * s + a)) w (G.i 4 s + G.i 5 s)
-- the occ that is named here: a fault, or the next token (the name itself) and the occ
def pOcc (T : List Tok) (h : Nat) (G : Gr) : Sum (Nat × Nat) (Nat × Nat) :=
  match pPos T h G with
  | .inl e => .inl e
  | .inr _ =>
    if isSn T (adv T h) 46 then
      (if isNm (tk T (adv T (adv T h))) = true then
        (if attN G (G.i 7 (4 * G.cp + posK T h)) (posK T (adv T (adv T h))) < G.i 4 (G.i 7 (4 * G.cp + posK T h)) + G.i 5 (G.i 7 (4 * G.cp + posK T h)) then
          .inr (adv T (adv T h), 8 * posK T h + attN G (G.i 7 (4 * G.cp + posK T h)) (posK T (adv T (adv T h))))
         else .inl (if (tk T (adv T (adv T h))).1 = 4 then 1 else 3, (tk T (adv T (adv T h))).2.1))
       else .inl (if (tk T (adv T (adv T h))).1 = 4 then 1 else 2, (tk T (adv T (adv T h))).2.1))
    else .inl (if (tk T (adv T h)).1 = 4 then 1 else 2, (tk T (adv T h)).2.1)
theorem pPos_r {T : List Tok} {h : Nat} {G : Gr} {y : Nat × Gr} (e : pPos T h G = .inr y) : y = (h, G) ∧ (tk T h).1 = 2 ∧ (tk T h).2.2.2 < G.i 6 G.cp := by
  unfold pPos at e
  split at e
  · rename_i e1
    split at e
    · rename_i e2; injection e with e; exact ⟨e.symm, e1, e2⟩
    · unfold fl at e; cases e
  · unfold fl at e; cases e
theorem s_positionStands {n : Nat} {T : List Tok} {h g : Nat} {G : Gr} {M : Mm} (N : Nat) (hT : TT n T) (hg : g = 35 ∨ g = 52) (h0 : W0 G) (hp : G.cp < G.i 0 1) (K : KS T h g G M) : RI T g M (pPos T h G) (D_X2_positionStands N 7 M) := by
  obtain ⟨b1, b2, b3, b4, b5⟩ := h0
  obtain ⟨c1, c2, c3⟩ := b5 G.cp hp
  unfold D_X2_positionStands pPos
  have hk := (hT.w h K.1.h).1
  simp (disch := omega) only [K.t, K.g hg, Option.bind_some, K.1.2.2.2.2.1, K.1.v, n_eq, K.2.2.2.2.1, ldI_n, K.2.1.a, l_of, lg_lt, jn]
  by_cases e1 : (tk T h).1 = 2
  · have hv := (hT.g K.1.h).2.2.2.1 e1
    simp (disch := omega) only [e1, if_true, l_lt]
    by_cases e2 : (tk T h).2.2.2 < G.i 6 G.cp
    · simp only [e2, if_true, retZ_1]
      exact ⟨M, rfl, K, PF.refl, rfl, rfl⟩
    · simp only [e2, if_false]
      obtain ⟨M', f, a⟩ := k_fail0 N 3 hT hg b3 K
      rw [f]
      exact ⟨M', by rw [Option.bind_some, if_pos rfl, retZ_0], a⟩
  · simp only [e1, if_false]
    exact k_fail N 2 hT hg b3 K
def RO (T : List Tok) (g : Nat) (G : Gr) (M : Mm) (r : Sum (Nat × Nat) (Nat × Nat)) (x : Option (Int32 × Mm)) : Prop := match r with
  | .inl e => ∃ M', x = some (m1, M') ∧ FT g e M M' ∧ KF M M'
  | .inr y => y.2 < 32 ∧ ∃ M', x = some (nI y.2, M') ∧ KS T y.1 g G M' ∧ PF g M M'
theorem RO.pre {T : List Tok} {g : Nat} {G : Gr} {M M1 : Mm} {r : Sum (Nat × Nat) (Nat × Nat)} {x : Option (Int32 × Mm)} (h : PF g M M1) (k : KF M M1) (h' : RO T g G M1 r x) : RO T g G M r x := by
  cases r with
  | inl e => obtain ⟨M', a, b, c⟩ := h'; exact ⟨M', a, b.pre h, k.trans c⟩
  | inr y => obtain ⟨i, M', a, b, c⟩ := h'; exact ⟨i, M', a, b, h.trans c⟩
theorem k_failO {n : Nat} {T : List Tok} {h g : Nat} {G : Gr} {M : Mm} (N y : Nat) (hT : TT n T) (hg : g = 35 ∨ g = 52) (hc : G.i 0 2 ≤ 1000) (K : KS T h g G M) : RO T g G M (.inl (if (tk T h).1 = 4 then 1 else y, (tk T h).2.1)) ((D_X7_fail N 2 (nI y) M).bind fun q => some (m1, q.2)) := by
  obtain ⟨M', f, a⟩ := k_fail0 N y hT hg hc K
  exact ⟨M', by rw [f, Option.bind_some], a⟩
theorem pPos_ok {T : List Tok} {h : Nat} {G : Gr} (e1 : (tk T h).1 = 2) (e2 : (tk T h).2.2.2 < G.i 6 G.cp) : pPos T h G = .inr (h, G) := by
  unfold pPos; rw [if_pos e1, if_pos e2]
theorem s_seekOcc {n : Nat} {T : List Tok} {h g : Nat} {G : Gr} {M : Mm} (N : Nat) (hN : 2000 < N) (hT : TT n T) (hg : g = 35 ∨ g = 52) (h0 : W0 G) (hp : G.cp < G.i 0 1) (K : KS T h g G M) (e1 : (tk T h).1 = 2) (e2 : (tk T h).2.2.2 < G.i 6 G.cp) : RO T g G M (pOcc T h G) (D_X2_seekOcc N 7 M) := by
  obtain ⟨b1, b2, b3, b4, b5⟩ := h0
  obtain ⟨c1, c2, c3⟩ := b5 G.cp hp
  have e0 := pPos_ok e1 e2
  obtain ⟨M1, f1, K1, g1⟩ := k_adv N hT hg K
  obtain ⟨M2, f2, K2, g2⟩ := k_adv N hT hg K1
  refine RO.pre g1 (KF.S K K1 rfl rfl) ?_
  unfold D_X2_seekOcc pOcc
  rw [e0]
  simp only [K.t, Option.bind_some, K.1.v, l_to, f1, K1.t, k_sign N hT K1 (show 46 < 2 ^ 31 by decide), bI_0]
  by_cases e3 : isSn T (adv T h) 46
  · rw [if_pos e3, decide_eq_true e3]
    refine RO.pre g2 (KF.S K1 K2 rfl rfl) ?_
    simp only [Bool.false_eq_true, Bool.true_eq_false, eq_self, if_true, if_false, not_true_eq_false, not_false_eq_true, f2, Option.bind_some, K2.t, K2.g hg, k_name N hT K2, bI_0]
    cases e4 : isNm (tk T (adv T (adv T h)))
    · simp only [Bool.false_eq_true, Bool.true_eq_false, eq_self, if_true, if_false, not_true_eq_false, not_false_eq_true]
      exact k_failO N 2 hT hg b3 K2
    · have hw := ok63 (nm_ok hT K2.1.h e4)
      have hsy := c3 _ e2
      obtain ⟨d1, d2, d3, d4⟩ := b4 _ hsy
      have hd := s_side N K2.2.1 (show G.cp < 12 by omega) (show (tk T h).2.2.2 < 4 by omega)
      have hf := s_findAttribute N hN K2.2.1 (show G.i 7 (4 * G.cp + (tk T h).2.2.2) < 8 by omega) (by omega) (fun j hj => ok63 (d4 j hj)) hw
      simp (disch := omega) only [Bool.false_eq_true, Bool.true_eq_false, eq_self, if_true, if_false, not_true_eq_false, not_false_eq_true, K2.2.2.2.2.1, hd, Option.bind_some, K2.1.v, hf, fR_m1]
      unfold attN posK
      by_cases e5 : fi (fun a => G.l 2 (8 * G.i 7 (4 * G.cp + (tk T h).2.2.2) + a)) (tk T (adv T (adv T h))).2.2.2 (G.i 4 (G.i 7 (4 * G.cp + (tk T h).2.2.2)) + G.i 5 (G.i 7 (4 * G.cp + (tk T h).2.2.2))) < G.i 4 (G.i 7 (4 * G.cp + (tk T h).2.2.2)) + G.i 5 (G.i 7 (4 * G.cp + (tk T h).2.2.2))
      · simp only [e5, Bool.false_eq_true, Bool.true_eq_false, eq_self, if_true, if_false, not_true_eq_false, not_false_eq_true]
        rw [fR_n e5, pk_mul, nI_add]
        exact ⟨by show 8 * _ + _ < 32; omega, M2, rfl, K2, PF.refl⟩
      · simp only [e5, Bool.false_eq_true, Bool.true_eq_false, eq_self, if_true, if_false, not_true_eq_false, not_false_eq_true]
        exact k_failO N 3 hT hg b3 K2
  · rw [if_neg e3, decide_eq_false e3]
    simp only [Bool.false_eq_true, Bool.true_eq_false, eq_self, if_true, if_false, not_true_eq_false, not_false_eq_true]
    exact k_failO N 2 hT hg b3 K1
