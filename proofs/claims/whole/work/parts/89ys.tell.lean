-- the class tells what was reckoned anew, what changed
def PTl (b j : Nat) : Prop := b = 32 ∨ b = 30 ∧ (j = 6 ∨ j = 7)
section tok
variable {G : Gr} {t : TR} {ce : Nat → Nat → Nat} {me : Nat → Nat}
variable {gN : Nat} {gr fr od : Nat → Nat} {kt : Nat → Bool}
variable {w q q0 : Nat} {mk c0 C : Nat → Bool}
theorem touB_u (hq : QG G) (h : TOK2 G t ce me) (P : GRP G t ce gN gr fr od kt) {x : Nat} (hx : ¬ x = 0) : touB gr mk (nrB G t ce) C x = true ↔ ∃ i, gr i = x ∧ (mk i = true ∨ ∃ j, nrT G t ce i j ∧ C j = true) := by
  rw [touB_t]
  constructor
  · rintro ⟨i, _, i2, i3⟩
    refine ⟨i, i2, i3.imp id fun ⟨j, _, j2, j3⟩ => ⟨j, (nrB_t.1 j2).2, j3⟩⟩
  · rintro ⟨i, i2, i3⟩
    have ti : thT G t i := (P.1 i).2 (by omega)
    exact ⟨i, (th_320 h ti).2, i2, i3.imp id fun ⟨j, j2, j3⟩ => ⟨j, (th_320 h (nr_th hq h ti j2)).2, nrB_t.2 ⟨ti, j2⟩, j3⟩⟩
theorem t_any {x : Nat} {M : Mm} (N : Nat) (hN : 2000 < N) (hq : QG G) (h : TOK2 G t ce me) (P : GRP G t ce gN gr fr od kt) (hx : x < gN) (K : KG (q + 1) gN gr fr od kt M) (L : CLk w G t ce me M) (hm : ∀ i, thT G t i → M.1 31 i = bI (mk i)) (hC : ∀ j, thT G t j → M.1 32 j = bI (C j)) (kE : Int32 → Option Mm) : ∀ fu k b, fr x + k ≤ fr (x + 1) → 321 < k + fu → (b = true ↔ ∃ k', k' < k ∧ (mk (od (fr x + k')) = true ∨ ∃ j, nrT G t ce (od (fr x + k')) j ∧ C j = true)) → ∃ b', L_X0_tell_42 kE N q (nI x) M 30 w fu (bI b) (nI k) = kE (bI b') ∧ (b' = true ↔ ∃ i, gr i = x + 1 ∧ (mk i = true ∨ ∃ j, nrT G t ce i j ∧ C j = true)) := fun fu => by
  obtain ⟨sz, f1, f2⟩ := s_size N K P hx
  induction fu with
  | zero => intro k b h1 h2; omega
  | succ fu ih =>
    intro k b h1 h2 hb
    rw [L_X0_tell_42, sz, Option.bind_some]
    simp only [n_le (show fr (x + 1) - fr x < 2 ^ 31 by omega) (show k < 2 ^ 31 by omega), jn]
    by_cases e : fr (x + 1) - fr x ≤ k
    · rw [if_pos e]
      refine ⟨b, rfl, hb.trans ⟨?_, ?_⟩⟩
      · rintro ⟨k', k1, k2⟩
        exact ⟨_, (P.mem hx (show fr x + k' < fr (x + 1) by omega)).2.1, k2⟩
      · rintro ⟨i, i1, i2⟩
        obtain ⟨k', k1, k2⟩ := P.at' hx i1
        exact ⟨k', by omega, by rw [k2]; exact i2⟩
    · obtain ⟨m1', m2', m3'⟩ := P.mem hx (show fr x + k < fr (x + 1) by omega)
      obtain ⟨i8, i320⟩ := th_320 h m1'
      rw [if_neg e, s_member N K P.2.2.2.2.1 P.2.2.2.2.2.2 hx (by omega), Option.bind_some, m3', show (30 : Nat) + 1 = 31 from rfl, ldI_n i320 (by omega), hm _ m1', Option.bind_some, bI_or1, bI_or0, Option.bind_some, Option.bind_some, Option.bind_some, nI_add]
      simp only [bI_0]
      have up : ∀ (T : Prop), (T ↔ mk (od (fr x + k)) = true ∨ ∃ j, nrT G t ce (od (fr x + k)) j ∧ C j = true) → ((∃ k', k' < k + 1 ∧ (mk (od (fr x + k')) = true ∨ ∃ j, nrT G t ce (od (fr x + k')) j ∧ C j = true)) ↔ b = true ∨ T) := fun T hT => by
        rw [hb, hT]
        constructor
        · rintro ⟨k', k1, k2⟩
          by_cases z : k' = k
          · rw [z] at k2; exact Or.inr k2
          · exact Or.inl ⟨k', by omega, k2⟩
        · rintro (⟨k', k1, k2⟩ | z)
          · exact ⟨k', by omega, k2⟩
          · exact ⟨k, by omega, z⟩
      cases c : mk (od (fr x + k))
      · obtain ⟨b2, s1, s2⟩ := s_hangsOnOther N hN hq h L hC m1'
        rw [if_pos rfl, s1, Option.bind_some]
        simp only [bI_0]
        cases b2
        · rw [if_pos rfl]
          refine ih (k + 1) b (by omega) (by omega) ?_
          rw [up False ⟨False.elim, fun z => z.elim (fun u => by rw [c] at u; exact absurd u (by decide)) fun u => absurd (s2.2 u) (by decide)⟩]
          exact ⟨Or.inl, fun z => z.elim id False.elim⟩
        · rw [if_neg (by decide)]
          refine ih (k + 1) true (by omega) (by omega) ?_
          rw [up True ⟨fun _ => Or.inr (s2.1 rfl), fun _ => trivial⟩]
          exact ⟨fun _ => Or.inr trivial, fun _ => rfl⟩
      · rw [if_neg (by decide)]
        refine ih (k + 1) true (by omega) (by omega) ?_
        rw [up True ⟨fun _ => Or.inl c, fun _ => trivial⟩]
        exact ⟨fun _ => Or.inr trivial, fun _ => rfl⟩
/-- what of an instance is another one than it was -/
def CMP (G : Gr) (t : TR) (q q0 : Nat) (c0 : Nat → Bool) (M : Mm) : Prop := ∀ i, thT G t i → (M.1 34 (i / 8) = m1 ∧ c0 i = true) ∨ ∃ s, s < 40 ∧ M.1 34 (i / 8) = nI s ∧ (c0 i = false ↔ M.1 (q + 12) i = M.1 (q0 + 12) (8 * s + i % 8))
theorem CMP.fx {M M' : Mm} (hqq : (q = 105 ∨ q = 121) ∧ (q0 = 105 ∨ q0 = 121)) (h : CMP G t q q0 c0 M) (f : FX PTl M M') : CMP G t q q0 c0 M' := fun i hi => by
  have e : ∀ b j, (b = 34 ∨ b = q + 12 ∨ b = q0 + 12) → M'.1 b j = M.1 b j := fun b j hb => (f.2 b j (fun z => by unfold PTl at z; omega)).1
  rw [e 34 _ (by omega), e (q + 12) _ (by omega)]
  rcases h i hi with z | ⟨s, s1, s2, s3⟩
  · exact Or.inl z
  · exact Or.inr ⟨s, s1, s2, by rw [e (q0 + 12) _ (by omega)]; exact s3⟩
theorem s_compare {i : Nat} {M : Mm} (N : Nat) (h : TOK2 G t ce me) (hqq : (q = 105 ∨ q = 121) ∧ (q0 = 105 ∨ q0 = 121)) (D : CMP G t q q0 c0 M) (hi : thT G t i) : ∃ M', D_X0_compare N 30 (nI i) q q0 M = some M' ∧ M'.1 30 6 = M.1 30 6 + nI 1 ∧ M'.1 30 7 = (if c0 i = true then M.1 30 7 + nI 1 else M.1 30 7) ∧ (∀ x, M'.1 32 x = if x = i then bI (c0 i) else M.1 32 x) ∧ FX PTl M M' := by
  obtain ⟨i8, i320⟩ := th_320 h hi
  have h40 := h.2.2.2.1
  have q1 := hqq.1
  have q2 := hqq.2
  have fin : ∀ c : Bool, ∃ M', ((stZ 320 32 (nI i) (bI c) (upI M 30 6 (M.1 30 6 + nI 1))).bind fun M2 => (ldI 320 32 (nI i) M2).bind fun v3 => (if v3 = nI 0 then (some M2) else ((pI M2 30 7 ((M2.1 30 7) + (nI 1))).bind fun M3 => (some M3)))) = some M' ∧ M'.1 30 6 = M.1 30 6 + nI 1 ∧ M'.1 30 7 = (if c = true then M.1 30 7 + nI 1 else M.1 30 7) ∧ (∀ x, M'.1 32 x = if x = i then bI c else M.1 32 x) ∧ FX PTl M M' := fun c => by
    have f1 : FX PTl M (upI (upI M 30 6 (M.1 30 6 + nI 1)) 32 i (bI c)) := (FX.I (by unfold PTl; omega)).trans (FX.I (by unfold PTl; omega))
    have e30 : ∀ j, (upI (upI M 30 6 (M.1 30 6 + nI 1)) 32 i (bI c)).1 30 j = if j = 6 then M.1 30 6 + nI 1 else M.1 30 j := fun j => by rw [upI_n (by decide), upI_j]
    have e32 : ∀ x, (upI (upI M 30 6 (M.1 30 6 + nI 1)) 32 i (bI c)).1 32 x = if x = i then bI c else M.1 32 x := fun x => by
      rw [upI_j]
      by_cases z : x = i
      · rw [if_pos z, if_pos z]
      · rw [if_neg z, if_neg z, upI_n (by decide)]
    have st : stZ 320 32 (nI i) (bI c) (upI M 30 6 (M.1 30 6 + nI 1)) = some (upI (upI M 30 6 (M.1 30 6 + nI 1)) 32 i (bI c)) := by
      cases c
      · exact stZ_0 i320 (by omega)
      · exact stZ_1 i320 (by omega)
    rw [st, Option.bind_some, ldI_n i320 (by omega), upI_s, Option.bind_some]
    simp only [bI_0]
    cases c
    · rw [if_pos rfl]
      exact ⟨_, rfl, by rw [e30, if_pos rfl], by rw [e30, if_neg (by decide), if_neg (by decide)], e32, f1⟩
    · rw [if_neg (by decide), pI_n, Option.bind_some]
      refine ⟨_, rfl, ?_, ?_, fun x => ?_, f1.trans (FX.I (by unfold PTl; omega))⟩
      · rw [upI_j, if_neg (by decide), e30, if_pos rfl]
      · rw [upI_j, if_pos rfl, e30, if_neg (by decide), if_pos rfl]
      · rw [upI_n (by decide), e32]
  unfold D_X0_compare
  rw [dv_n (by omega) (by decide) (by decide), Option.bind_some, show (30 : Nat) + 4 = 34 from rfl, show (30 : Nat) + 2 = 32 from rfl, ldI_n (by omega) (by omega), Option.bind_some, pI_n, Option.bind_some]
  simp only [jn]
  rcases D i hi with ⟨d1, d2⟩ | ⟨s, s1, s2, s3⟩
  · rw [d1, if_pos rfl, Option.bind_some]
    obtain ⟨M', a1, a2, a3, a4, a5⟩ := fin true
    exact ⟨M', a1, a2, by rw [d2]; exact a3, fun x => by rw [d2]; exact a4 x, a5⟩
  · rw [s2, if_neg (n_ne_m1 (by omega)), ldI_n i320 (by omega), Option.bind_some, rm_n (by omega) (by decide) (by decide), Option.bind_some, pk_mul, nI_add, ldI_n (by omega) (by omega), Option.bind_some, upI_n (by omega), upI_n (by omega)]
    by_cases c : M.1 (q + 12) i = M.1 (q0 + 12) (8 * s + i % 8)
    · rw [if_pos c, Option.bind_some]
      obtain ⟨M', a1, a2, a3, a4, a5⟩ := fin false
      have cf := s3.2 c
      exact ⟨M', a1, a2, by rw [cf]; exact a3, fun x => by rw [cf]; exact a4 x, a5⟩
    · rw [if_neg c, Option.bind_some]
      obtain ⟨M', a1, a2, a3, a4, a5⟩ := fin true
      have cf : c0 i = true := by
        cases z : c0 i
        · exact absurd (s3.1 z) c
        · rfl
      exact ⟨M', a1, a2, by rw [cf]; exact a3, fun x => by rw [cf]; exact a4 x, a5⟩
/-- a whole group is compared -/
theorem t_cmp {x a b : Nat} (N : Nat) (h : TOK2 G t ce me) (hqq : (q = 105 ∨ q = 121) ∧ (q0 = 105 ∨ q0 = 121)) (P : GRP G t ce gN gr fr od kt) (hx : x < gN) (kE : Mm → Option Mm) : ∀ fu k M, fr x + k ≤ fr (x + 1) → 321 < k + fu → KG (q + 1) gN gr fr od kt M → CMP G t q q0 c0 M → (∀ i, thT G t i → M.1 32 i = bI (if mG gr x i = true ∧ i < psG fr od x k then c0 i else C i)) → M.1 30 6 = nI (a + k) → M.1 30 7 = nI (b + cnt (fun i => mG gr x i && c0 i) (psG fr od x k)) → ∃ M', L_X0_tell_104 kE N q (nI x) (nI 1) 30 q0 fu (nI k) M = kE M' ∧ (∀ i, thT G t i → M'.1 32 i = bI (if gr i = x + 1 then c0 i else C i)) ∧ M'.1 30 6 = nI (a + cnt (mG gr x) 320) ∧ M'.1 30 7 = nI (b + cnt (fun i => mG gr x i && c0 i) 320) ∧ FX PTl M M' := fun fu => by
  have v320 : ∀ v, ¬ gr v = 0 → v < 320 := P.v320 h
  have sz' := P.2.2.2.2.1.size v320 hx
  induction fu with
  | zero => intro k M h1 h2; obtain ⟨o1, _, _⟩ := P.2.2.2.2.1.2 x hx; have := P.2.2.2.2.2.2; have up := P.2.2.2.2.1.mono (gN - (x + 1)) (x + 1) (by omega); rw [show x + 1 + (gN - (x + 1)) = gN by omega] at up; omega
  | succ fu ih =>
    intro k M h1 h2 K D r32 r6 r7
    obtain ⟨sz, f1, f2⟩ := s_size N K P hx
    rw [L_X0_tell_104, sz, Option.bind_some]
    simp only [n_le (show fr (x + 1) - fr x < 2 ^ 31 by omega) (show k < 2 ^ 31 by omega)]
    by_cases e : fr (x + 1) - fr x ≤ k
    · rw [if_pos e]
      have p320 : psG fr od x k = 320 := by unfold psG; rw [if_neg (by omega)]
      rw [p320] at r32 r7
      refine ⟨M, rfl, fun i hi => ?_, by rw [r6, sz']; congr 1; omega, r7, FX.refl⟩
      rw [r32 i hi]
      have := (th_320 h hi).2
      unfold mG
      by_cases c : gr i = x + 1
      · rw [if_pos c, if_pos ⟨decide_eq_true c, this⟩]
      · rw [if_neg c, if_neg (fun z => c (of_decide_eq_true z.1))]
    · have hk : fr x + k < fr (x + 1) := by omega
      obtain ⟨m1', m2', m3'⟩ := P.mem hx hk
      obtain ⟨p1, p2, p3⟩ := ps_mono P.2.2.2.2.1 hx hk
      obtain ⟨M1, a1, a2, a3, a4, a5⟩ := s_compare (i := od (fr x + k)) N h hqq D m1'
      rw [if_neg e, if_neg z10, s_member N K P.2.2.2.2.1 P.2.2.2.2.2.2 hx hk, Option.bind_some, m3', a1, Option.bind_some, Option.bind_some, nI_add]
      -- between this one and the next there is none
      have gap : ∀ i, mG gr x i = true → (i < psG fr od x (k + 1) ↔ i < psG fr od x k ∨ i = psG fr od x k) := fun i hi => by
        refine ⟨fun z => ?_, fun z => by omega⟩
        by_cases c : psG fr od x k < i
        · have := ps_gap P.2.2.2.2.1 (k := k + 1) hx (Or.inr ⟨k, rfl, c⟩) z (by omega) fun v hv => v320 v (by omega)
          rw [hi] at this; exact absurd this (by decide)
        · omega
      have one : cnt (fun i => mG gr x i && c0 i) (psG fr od x (k + 1)) = cnt (fun i => mG gr x i && c0 i) (psG fr od x k) + if c0 (psG fr od x k) = true then 1 else 0 := by
        have z := cnt_zero (f := fun i => mG gr x i && c0 i) (n := psG fr od x k + 1) (psG fr od x (k + 1) - (psG fr od x k + 1)) fun i i1 i2 => by
          rw [ps_gap P.2.2.2.2.1 (k := k + 1) hx (Or.inr ⟨k, rfl, by omega⟩) (by omega) (by omega) fun v hv => v320 v (by omega)]; rfl
        rw [show psG fr od x k + 1 + (psG fr od x (k + 1) - (psG fr od x k + 1)) = psG fr od x (k + 1) by omega] at z
        rw [z]
        show cnt (fun i => mG gr x i && c0 i) (psG fr od x k) + (if (mG gr x (psG fr od x k) && c0 (psG fr od x k)) = true then 1 else 0) = _
        rw [p3, Bool.true_and]
      obtain ⟨M2, b1, b2, b3, b4, b5⟩ := ih (k + 1) M1 (by omega) (by omega) (K.fx a5 fun b j z => by unfold PTl at z; omega) (D.fx hqq a5) (fun i hi => by
        rw [a4]
        by_cases c : i = od (fr x + k)
        · subst c
          rw [if_pos rfl, if_pos ⟨by rw [← m3']; exact p3, by rw [m3'] at p1; exact p1⟩]
        · rw [if_neg c, r32 i hi]
          by_cases d : mG gr x i = true
          · have := gap i d
            rw [m3'] at this
            by_cases y : i < od (fr x + k)
            · rw [if_pos ⟨d, by rw [m3']; exact y⟩, if_pos ⟨d, this.2 (Or.inl y)⟩]
            · rw [if_neg (fun z => y (by rw [← m3']; exact z.2)), if_neg (fun z => (this.1 z.2).elim y c)]
          · rw [if_neg (fun z => d z.1), if_neg (fun z => d z.1)]) (by rw [a2, r6, nI_add]; rfl) (by
        rw [a3, r7, one, m3']
        by_cases c : c0 (od (fr x + k)) = true
        · rw [if_pos c, if_pos c, nI_add]; rfl
        · rw [if_neg c, if_neg c]; rfl)
      exact ⟨M2, b1, b2, b3, b4, a5.trans b5⟩
theorem s_tell {M : Mm} (N : Nat) (hN : 2000 < N) (hq : QG G) (h : TOK2 G t ce me) (hw : w = 69 ∨ w = 87) (hqq : (q = 105 ∨ q = 121) ∧ (q0 = 105 ∨ q0 = 121)) (P : GRP G t ce gN gr fr od kt) (K : KG (q + 1) gN gr fr od kt M) (L : CLk w G t ce me M) (hm : ∀ i, thT G t i → M.1 31 i = bI (mk i)) (D : CMP G t q q0 c0 M) : ∃ M', D_X0_tell N 30 w q q0 M = some M' ∧ M'.1 30 6 = nI (anN gr mk (nrB G t ce) c0) ∧ M'.1 30 7 = nI (chgN gr mk (nrB G t ce) c0) ∧ FX PTl M M' := by
  have q1 := hqq.1
  have g320 := P.g320
  have key : ∀ fu x M, x ≤ gN → 321 < x + fu → KG (q + 1) gN gr fr od kt M → CLk w G t ce me M → (∀ i, thT G t i → M.1 31 i = bI (mk i)) → CMP G t q q0 c0 M → (∀ i, thT G t i → M.1 32 i = bI (chB gr mk (nrB G t ce) c0 x i)) → M.1 30 6 = nI (cnt (fun i => decide (¬ gr i = 0 ∧ gr i ≤ x) && tuB gr mk (nrB G t ce) c0 (gr i)) 320) → M.1 30 7 = nI (cnt (chB gr mk (nrB G t ce) c0 x) 320) → ∃ M', L_X0_tell_26 q N 30 q0 w fu (nI x) M = some M' ∧ M'.1 30 6 = nI (anN gr mk (nrB G t ce) c0) ∧ M'.1 30 7 = nI (chgN gr mk (nrB G t ce) c0) ∧ FX PTl M M' := fun fu => by
    induction fu with
    | zero => intro x M h1 h2; omega
    | succ fu ih =>
      intro x M h1 h2 K L hm D r32 r6 r7
      rw [L_X0_tell_26, K.1]
      simp only [n_le (show gN < 2 ^ 31 by omega) (show x < 2 ^ 31 by omega)]
      by_cases e : gN ≤ x
      · rw [if_pos e]
        refine ⟨M, rfl, ?_, ?_, FX.refl⟩
        · rw [r6]
          refine congrArg nI (cnt_congr fun i _ => ?_)
          have := P.2.1 i
          rw [show decide (¬ gr i = 0 ∧ gr i ≤ x) = decide (¬ gr i = 0) from decide_eq_decide.2 ⟨fun z => z.1, fun z => ⟨z, by omega⟩⟩]
        · rw [r7]
          refine congrArg nI (cnt_congr fun i _ => Bool.eq_iff_iff.2 ?_)
          have := P.2.1 i
          rw [chB_t, Bool.and_eq_true, Bool.and_eq_true, decide_eq_true_eq]
          exact ⟨fun z => ⟨z.1.1, z.2⟩, fun z => ⟨⟨z.1, by omega⟩, z.2⟩⟩
      · have hx : x < gN := by omega
        rw [if_neg e]
        obtain ⟨b, a1, a2⟩ := t_any (q := q) (kE := fun (l6_4 : Int32) => (L_X0_tell_104 (fun (M7 : Mm) => ((some (nI x + (nI 1))).bind fun l5_2 => (L_X0_tell_26 q N 30 q0 w fu l5_2 M7))) N q (nI x) l6_4 30 q0 N (nI 0) M)) N hN hq h P hx K L hm r32 N 0 false (by obtain ⟨o1, _, _⟩ := P.2.2.2.2.1.2 x hx; omega) (by omega) ⟨fun z => absurd z (by decide), fun ⟨_, z, _⟩ => by omega⟩
        have a2' : b = true ↔ tuB gr mk (nrB G t ce) c0 (x + 1) = true := a2.trans (touB_u hq h P (by omega)).symm
        have a1' : L_X0_tell_42 _ N q (nI x) M 30 w N (nI 0) (nI 0) = _ := a1
        rw [a1']
        cases b
        · have tf : tuB gr mk (nrB G t ce) c0 (x + 1) = false := by
            cases z : tuB gr mk (nrB G t ce) c0 (x + 1)
            · rfl
            · exact absurd (a2'.2 z) (by decide)
          have same : ∀ i, chB gr mk (nrB G t ce) c0 (x + 1) i = chB gr mk (nrB G t ce) c0 x i := fun i => by
            rw [chB_s, tf, Bool.and_false]
            by_cases c : gr i = x + 1
            · rw [if_pos c]
              cases z : chB gr mk (nrB G t ce) c0 x i
              · rfl
              · have := ((chB_t x i).1 z).1; omega
            · rw [if_neg c]
          obtain ⟨fu', rfl⟩ : ∃ fu', N = fu' + 1 := ⟨N - 1, by omega⟩
          obtain ⟨sz, f1, f2⟩ := s_size (fu' + 1) K P hx
          show ∃ M', L_X0_tell_104 _ (fu' + 1) q (nI x) (bI false) 30 q0 (fu' + 1) (nI 0) M = some M' ∧ _
          rw [L_X0_tell_104, sz, Option.bind_some]
          simp only [n_le (show fr (x + 1) - fr x < 2 ^ 31 by omega) (show 0 < 2 ^ 31 by decide)]
          rw [if_neg (by omega), if_pos (show bI false = nI 0 from rfl), Option.bind_some, nI_add]
          refine ih (x + 1) M (by omega) (by omega) K L hm D (fun i hi => by rw [same, r32 i hi]) ?_ ?_
          · rw [r6]
            refine congrArg nI (cnt_congr fun i _ => Bool.eq_iff_iff.2 ?_)
            simp only [Bool.and_eq_true, decide_eq_true_eq]
            refine ⟨fun z => ⟨⟨z.1.1, by omega⟩, z.2⟩, fun z => ⟨⟨z.1.1, ?_⟩, z.2⟩⟩
            by_cases c : gr i = x + 1
            · rw [c, tf] at z; exact absurd z.2 (by decide)
            · have := z.1.2; omega
          · rw [r7]
            exact congrArg nI (cnt_congr fun i _ => (same i).symm)
        · have tt := a2'.1 rfl
          clear a1 a1' a2 a2'
          have p0 : ∀ i, mG gr x i = true → ¬ i < psG fr od x 0 := fun i hi z => by
            have := ps_gap P.2.2.2.2.1 (k := 0) hx (Or.inl rfl) z (by obtain ⟨o1, _, _⟩ := P.2.2.2.2.1.2 x hx; omega) fun v hv => P.v320 h v (by omega)
            rw [hi] at this; exact absurd this (by decide)
          have c00 : cnt (fun i => mG gr x i && c0 i) (psG fr od x 0) = 0 := by
            have z := cnt_zero (f := fun i => mG gr x i && c0 i) (n := 0) (psG fr od x 0) fun i _ hi => by
              cases c : mG gr x i
              · rfl
              · exact absurd (by omega) (p0 i c)
            rw [Nat.zero_add] at z; exact z
          obtain ⟨M1, b1, b2, b3, b4, b5⟩ := t_cmp (C := chB gr mk (nrB G t ce) c0 x) (a := cnt (fun i => decide (¬ gr i = 0 ∧ gr i ≤ x) && tuB gr mk (nrB G t ce) c0 (gr i)) 320) (b := cnt (chB gr mk (nrB G t ce) c0 x) 320) N h hqq P hx (fun (M7 : Mm) => ((some (nI x + (nI 1))).bind fun l5_2 => (L_X0_tell_26 q N 30 q0 w fu l5_2 M7))) N 0 M (by obtain ⟨o1, _, _⟩ := P.2.2.2.2.1.2 x hx; omega) (by omega) K D (fun i hi => by
            rw [r32 i hi]
            rw [if_neg (fun z => p0 i z.1 z.2)]) (by rw [r6, Nat.add_zero]) (by rw [r7, c00, Nat.add_zero])
          show ∃ M', L_X0_tell_104 _ N q (nI x) (nI 1) 30 q0 N (nI 0) M = some M' ∧ _
          rw [b1, Option.bind_some, nI_add]
          obtain ⟨M2, d1, d2, d3, d4⟩ := ih (x + 1) M1 (by omega) (by omega) (K.fx b5 fun b j z => by unfold PTl at z; omega) (L.fx b5 fun b j hb z => by unfold PTl at z; omega) (fun i hi => by rw [(b5.2 31 i (by unfold PTl; omega)).1]; exact hm i hi) (D.fx hqq b5) (fun i hi => by
            rw [b2 i hi, chB_s, tt, Bool.and_true]) (by
            rw [b3]
            refine congrArg nI (cnt_dis fun i _ => ?_).symm
            simp only [mG, Bool.and_eq_true, decide_eq_true_eq]
            refine ⟨⟨fun z => ?_, fun z => ?_⟩, fun z => by omega⟩
            · by_cases c : gr i = x + 1
              · exact Or.inr c
              · exact Or.inl ⟨⟨z.1.1, by omega⟩, z.2⟩
            · rcases z with z | z
              · exact ⟨⟨z.1.1, by omega⟩, z.2⟩
              · exact ⟨by omega, by rw [z]; exact tt⟩) (by
            rw [b4]
            refine congrArg nI (cnt_dis fun i _ => ?_).symm
            rw [chB_s, tt, Bool.and_true]
            have tx := chB_t (gr := gr) (mk := mk) (nr := nrB G t ce) (c0 := c0) x i
            simp only [mG, Bool.and_eq_true, decide_eq_true_eq]
            by_cases c : gr i = x + 1
            · rw [if_pos c]
              refine ⟨⟨fun z => Or.inr ⟨c, z⟩, fun z => z.elim (fun u => by have := (tx.1 u).1; omega) fun u => u.2⟩, fun z => by have := (tx.1 z.1).1; omega⟩
            · rw [if_neg c]
              exact ⟨⟨Or.inl, fun z => z.elim id fun u => absurd u.1 c⟩, fun z => c z.2.1⟩)
          exact ⟨M2, d1, d2, d3, b5.trans d4⟩
  obtain ⟨M1, a1, a2, a3⟩ := s_clearFlags (a := 32) (n := 320) (M := M) N rfl (by omega) hN
  have f1 : FX PTl M (upI (upI M1 30 6 (nI 0)) 30 7 (nI 0)) := ((a3.mono fun b j z => by unfold PTl; omega).trans (FX.I (by unfold PTl; omega))).trans (FX.I (by unfold PTl; omega))
  have z0 : ∀ f : Nat → Bool, (∀ i, f i = false) → cnt f 320 = 0 := fun f hf => by
    have z := cnt_zero (f := f) (n := 0) 320 fun i _ _ => hf i
    rw [Nat.zero_add] at z; exact z
  obtain ⟨M2, b1, b2, b3, b4⟩ := key N 0 (upI (upI M1 30 6 (nI 0)) 30 7 (nI 0)) (by omega) (by omega) (K.fx f1 fun b j z => by unfold PTl at z; omega) (L.fx f1 fun b j hb z => by unfold PTl at z; omega) (fun i hi => by rw [(f1.2 31 i (by unfold PTl; omega)).1]; exact hm i hi) (D.fx hqq f1) (fun i hi => by
    rw [upI_n (by decide), upI_n (by decide), a2 i (th_320 h hi).2]; rfl) (by
    rw [upI_j, if_neg (by decide), upI_j, if_pos rfl]
    exact congrArg nI (z0 _ fun i => by
      rw [decide_eq_false (by omega)]; rfl).symm) (by
    rw [upI_j, if_pos rfl]
    exact congrArg nI (z0 _ fun i => rfl).symm)
  refine ⟨M2, ?_, b2, b3, f1.trans b4⟩
  unfold D_X0_tell
  rw [show (30 : Nat) + 2 = 32 from rfl, a1, Option.bind_some, pI_n, Option.bind_some, pI_n, Option.bind_some]
  exact b1
end tok
