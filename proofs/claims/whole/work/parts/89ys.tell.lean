-- the class reckons anew what is due, and tells what changed
def PTl (b j : Nat) : Prop := b = 32 ∨ b = 30 ∧ (j = 6 ∨ j = 7)
section tok
variable {G : Gr} {t : TR} {ce : Nat → Nat → Nat} {me : Nat → Nat}
variable {gN : Nat} {gr fr od : Nat → Nat} {kt : Nat → Bool}
variable {w q q0 : Nat} {mk c0 C : Nat → Bool}
theorem touB_u (hq : QG G) (h : TOK2 G t ce me) (P : GRP G t ce gN gr fr od kt) {x : Nat} (hx : ¬ x = 0) : touB gr mk (nrB G t ce) C x = true ↔ ∃ i, gr i = x ∧ (mk i = true ∨ ∃ j, nrT G t ce i j ∧ C j = true) := by
  rw [touB_t]
  constructor
  · rintro ⟨i, _, i2, i3⟩
    refine ⟨i, i2, i3.imp id fun ⟨j, _, j2, j3⟩ => ⟨j, (nrB_t.1 j2).2, j3⟩⟩
  · rintro ⟨i, i2, i3⟩
    have ti : thT G t i := (P.1 i).2 (by omega)
    exact ⟨i, (th_320 h ti).2, i2, i3.imp id fun ⟨j, j2, j3⟩ => ⟨j, (th_320 h (nr_th hq h ti j2)).2, nrB_t.2 ⟨ti, j2⟩, j3⟩⟩
/-- for which node a node stands, or that it is new -/
def STD (G : Gr) (t : TR) (nw : Nat → Bool) (e : Nat → Nat) (M : Mm) : Prop := ∀ i, thT G t i → (M.1 34 (i / 8) = m1 ∧ nw i = true) ∨ ∃ s, s < 40 ∧ M.1 34 (i / 8) = nI s ∧ nw i = false ∧ e i = 8 * s + i % 8
/-- what is marked, or new -/
def MKD (G : Gr) (t : TR) (mk nw : Nat → Bool) (M : Mm) : Prop := ∀ i, thT G t i → ∃ b, M.1 31 i = bI b ∧ (mk i = true ↔ b = true ∨ nw i = true)
variable {nw : Nat → Bool} {e : Nat → Nat}
theorem s_isNewC {i : Nat} {M : Mm} (N : Nat) (h : TOK2 G t ce me) (S : STD G t nw e M) (hi : thT G t i) : D_X0_isNew N 30 (nI (i / 8)) M = some (bI (nw i)) := by
  obtain ⟨i8, i320⟩ := th_320 h hi
  unfold D_X0_isNew
  rw [show (30 : Nat) + 4 = 34 from rfl, ldI_n (by omega) (by omega), Option.bind_some]
  rcases S i hi with ⟨s1, s2⟩ | ⟨s, s0, s1, s2, s3⟩
  · rw [s1, if_pos rfl, okZ_1, s2]; rfl
  · rw [s1, if_neg (n_ne_m1 (by omega)), okZ_0, s2]; rfl
theorem s_stoodFor {i : Nat} {M : Mm} (N : Nat) (h : TOK2 G t ce me) (S : STD G t nw e M) (hi : thT G t i) (hn : nw i = false) : D_X0_stoodFor N 30 (nI i) M = some (nI (e i)) := by
  obtain ⟨i8, i320⟩ := th_320 h hi
  unfold D_X0_stoodFor
  rw [dv_n (by omega) (by decide) (by decide), Option.bind_some, show (30 : Nat) + 4 = 34 from rfl, ldI_n (by omega) (by omega), Option.bind_some, rm_n (by omega) (by decide) (by decide), Option.bind_some]
  rcases S i hi with ⟨s1, s2⟩ | ⟨s, s0, s1, s2, s3⟩
  · rw [hn] at s2; exact absurd s2 (by decide)
  · rw [s1, pk_mul, nI_add, s3]
/-- is a group to be reckoned anew -/
theorem t_isAnew {x : Nat} {M : Mm} (N : Nat) (hN : 2000 < N) (hq : QG G) (h : TOK2 G t ce me) (P : GRP G t ce gN gr fr od kt) (hx : x < gN) (K : KG (q + 1) gN gr fr od kt M) (L : CLk w G t ce me M) (hm : MKD G t mk nw M) (S : STD G t nw e M) (hC : ∀ j, thT G t j → M.1 32 j = bI (C j)) : ∃ b, D_X0_isAnew N 30 w (q + 1) (nI x) M = some (bI b) ∧ (b = true ↔ ∃ i, gr i = x + 1 ∧ (mk i = true ∨ ∃ j, nrT G t ce i j ∧ C j = true)) := by
  obtain ⟨sz, f1, f2⟩ := s_size N K P hx
  have key : ∀ fu k, fr x + k ≤ fr (x + 1) → 321 < k + fu → (∀ k', k' < k → ¬ (mk (od (fr x + k')) = true ∨ ∃ j, nrT G t ce (od (fr x + k')) j ∧ C j = true)) → ∃ b, L_X0_isAnew_3 N (q + 1) (nI x) M 30 w fu (nI k) = some (bI b) ∧ (b = true ↔ ∃ i, gr i = x + 1 ∧ (mk i = true ∨ ∃ j, nrT G t ce i j ∧ C j = true)) := fun fu => by
    induction fu with
    | zero => intro k h1 h2; omega
    | succ fu ih =>
      intro k h1 h2 h3
      rw [L_X0_isAnew_3, sz, Option.bind_some]
      simp only [n_le (show fr (x + 1) - fr x < 2 ^ 31 by omega) (show k < 2 ^ 31 by omega)]
      by_cases e0 : fr (x + 1) - fr x ≤ k
      · rw [if_pos e0, okZ_0]
        refine ⟨false, rfl, fun z => absurd z (by decide), ?_⟩
        rintro ⟨i, i1, i2⟩
        obtain ⟨k', k1, k2⟩ := P.at' hx i1
        exact absurd (by rw [k2]; exact i2) (h3 k' (by omega))
      · have hk : fr x + k < fr (x + 1) := by omega
        obtain ⟨m1', m2', m3'⟩ := P.mem hx hk
        obtain ⟨i8, i320⟩ := th_320 h m1'
        obtain ⟨b, b1, b2⟩ := hm _ m1'
        have yes : (mk (od (fr x + k)) = true ∨ ∃ j, nrT G t ce (od (fr x + k)) j ∧ C j = true) → ∃ b, okZ (nI 1) = some (bI b) ∧ (b = true ↔ ∃ i, gr i = x + 1 ∧ (mk i = true ∨ ∃ j, nrT G t ce i j ∧ C j = true)) := fun z => ⟨true, okZ_1, fun _ => ⟨_, m2', z⟩, fun _ => rfl⟩
        rw [if_neg e0, s_member N K P.2.2.2.2.1 P.2.2.2.2.2.2 hx hk, Option.bind_some, m3', show (30 : Nat) + 1 = 31 from rfl, ldI_n i320 (by omega), b1, Option.bind_some]
        simp only [bI_0]
        cases b
        · rw [if_pos rfl, dv_n (by omega) (by decide) (by decide), Option.bind_some, s_isNewC N h S m1', Option.bind_some]
          simp only [bI_0]
          cases nn : nw (od (fr x + k))
          · obtain ⟨b3, s1, s2⟩ := s_hangsOnOther N hN hq h L hC m1'
            rw [if_pos rfl, s1, Option.bind_some]
            simp only [bI_0]
            cases b3
            · rw [if_pos rfl, Option.bind_some, nI_add]
              refine ih (k + 1) (by omega) (by omega) fun k' hk' => ?_
              by_cases z : k' = k
              · rw [z]
                rintro (u | u)
                · rcases b2.1 u with v | v
                  · exact absurd v (by decide)
                  · rw [nn] at v; exact absurd v (by decide)
                · exact absurd (s2.2 u) (by decide)
              · exact h3 k' (by omega)
            · rw [if_neg (by decide)]; exact yes (Or.inr (s2.1 rfl))
          · rw [if_neg (by decide)]; exact yes (Or.inl (b2.2 (Or.inr nn)))
        · rw [if_neg (by decide)]; exact yes (Or.inl (b2.2 (Or.inl rfl)))
  obtain ⟨b, k1, k2⟩ := key N 0 (by omega) (by omega) fun k' hk' => by omega
  exact ⟨b, k1, k2⟩
/-- what of a group's members is another one than it was -/
def CMX (gr : Nat → Nat) (x q q0 : Nat) (nw c0 : Nat → Bool) (e : Nat → Nat) (M : Mm) : Prop := ∀ i, gr i = x + 1 → (nw i = true → c0 i = true) ∧ (nw i = false → e i < 320 ∧ (c0 i = false ↔ M.1 (q + 12) i = M.1 (q0 + 12) (e i)))
theorem STD.fx {M M' : Mm} (h : STD G t nw e M) (f : FX PTl M M') : STD G t nw e M' := fun i hi => by
  rw [(f.2 34 (i / 8) (by unfold PTl; omega)).1]; exact h i hi
theorem CMX.fx {x : Nat} {M M' : Mm} (hqq : (q = 105 ∨ q = 121) ∧ (q0 = 105 ∨ q0 = 121)) (h : CMX gr x q q0 nw c0 e M) (f : FX PTl M M') : CMX gr x q q0 nw c0 e M' := fun i hi => by
  rw [(f.2 (q + 12) i (by unfold PTl; omega)).1, (f.2 (q0 + 12) (e i) (by unfold PTl; omega)).1]; exact h i hi
/-- one member is compared and counted -/
theorem s_count1 {x i : Nat} {M : Mm} (N : Nat) (h : TOK2 G t ce me) (hqq : (q = 105 ∨ q = 121) ∧ (q0 = 105 ∨ q0 = 121)) (S : STD G t nw e M) (D : CMX gr x q q0 nw c0 e M) (hi : thT G t i) (gi : gr i = x + 1) : ∃ M', (∀ K : Mm → Option Mm, ((pI M 30 6 ((M.1 30 6) + (nI 1))).bind fun M2 => (dvI (nI i) (nI 8)).bind fun v1 => (D_X0_isNew N 30 v1 M2).bind fun q3 => ((jn (fun (p77 : Unit) => (some (nI 1))) fun J1 => (if q3 = nI 0 then ((ldI 320 (q + 12) (nI i) M2).bind fun v3 => (D_X0_stoodFor N 30 (nI i) M2).bind fun q4 => (ldI 320 (q0 + 12) q4 M2).bind fun v4 => (if v3 = v4 then (some (nI 0)) else (J1 ()))) else (J1 ()))).bind fun p82 => ((stZ 320 (30 + 2) (nI i) p82 M2).bind fun M3 => (ldI 320 (30 + 2) (nI i) M3).bind fun v2 => (if v2 = nI 0 then ((pI M3 30 7 ((M3.1 30 7) + (nI 0))).bind fun M4 => K M4) else ((pI M3 30 7 ((M3.1 30 7) + (nI 1))).bind fun M5 => K M5))))) = K M') ∧ M'.1 30 6 = M.1 30 6 + nI 1 ∧ M'.1 30 7 = M.1 30 7 + nI (if c0 i = true then 1 else 0) ∧ (∀ y, M'.1 32 y = if y = i then bI (c0 i) else M.1 32 y) ∧ FX PTl M M' := by
  obtain ⟨i8, i320⟩ := th_320 h hi
  have h40 := h.2.2.2.1
  have q1 := hqq.1
  have q2 := hqq.2
  have f0 : FX PTl M (upI M 30 6 (M.1 30 6 + nI 1)) := FX.I (by unfold PTl; omega)
  have S2 : STD G t nw e (upI M 30 6 (M.1 30 6 + nI 1)) := S.fx f0
  obtain ⟨d1, d2⟩ := (D.fx hqq f0) i gi
  have p : (jn (fun (p77 : Unit) => (some (nI 1))) fun J1 => (if bI (nw i) = nI 0 then ((ldI 320 (q + 12) (nI i) (upI M 30 6 (M.1 30 6 + nI 1))).bind fun v3 => (D_X0_stoodFor N 30 (nI i) (upI M 30 6 (M.1 30 6 + nI 1))).bind fun q4 => (ldI 320 (q0 + 12) q4 (upI M 30 6 (M.1 30 6 + nI 1))).bind fun v4 => (if v3 = v4 then (some (nI 0)) else (J1 ()))) else (J1 ()))) = some (bI (c0 i)) := by
    simp only [jn, bI_0]
    cases n : nw i
    · obtain ⟨e1, e2⟩ := d2 n
      rw [if_pos rfl, ldI_n i320 (by omega), Option.bind_some, s_stoodFor N h S2 hi n, Option.bind_some, ldI_n e1 (by omega), Option.bind_some]
      by_cases c : (upI M 30 6 (M.1 30 6 + nI 1)).1 (q + 12) i = (upI M 30 6 (M.1 30 6 + nI 1)).1 (q0 + 12) (e i)
      · rw [if_pos c, e2.2 c]; rfl
      · rw [if_neg c]
        cases z : c0 i
        · exact absurd (e2.1 z) c
        · rfl
    · rw [if_neg (by decide), d1 n]; rfl
  have st : stZ 320 32 (nI i) (bI (c0 i)) (upI M 30 6 (M.1 30 6 + nI 1)) = some (upI (upI M 30 6 (M.1 30 6 + nI 1)) 32 i (bI (c0 i))) := by
    cases c0 i
    · exact stZ_0 i320 (by omega)
    · exact stZ_1 i320 (by omega)
  have v7 : (upI (upI M 30 6 (M.1 30 6 + nI 1)) 32 i (bI (c0 i))).1 30 7 = M.1 30 7 := by rw [upI_n (by decide), upI_j, if_neg (by decide)]
  refine ⟨upI (upI (upI M 30 6 (M.1 30 6 + nI 1)) 32 i (bI (c0 i))) 30 7 (M.1 30 7 + nI (if c0 i = true then 1 else 0)), fun K => ?_, ?_, upI_s _ _ _ _, fun y => ?_, (f0.trans (FX.I (by unfold PTl; omega))).trans (FX.I (by unfold PTl; omega))⟩
  · rw [pI_n, Option.bind_some, dv_n (by omega) (by decide) (by decide), Option.bind_some, s_isNewC N h S2 hi, Option.bind_some, p, Option.bind_some, show (30 : Nat) + 2 = 32 from rfl, st, Option.bind_some, ldI_n i320 (by omega), upI_s, Option.bind_some, v7]
    simp only [bI_0]
    cases c : c0 i
    · rw [if_pos rfl, pI_n, Option.bind_some, if_neg (by decide)]
    · rw [if_neg (by decide), pI_n, Option.bind_some, if_pos rfl]
  · rw [upI_j, if_neg (by decide), upI_n (by decide), upI_s]
  · rw [upI_n (by decide), upI_j]
    by_cases z : y = i
    · rw [if_pos z, if_pos z]
    · rw [if_neg z, if_neg z, upI_n (by decide)]
/-- a whole group is compared and counted -/
theorem t_count {x a b : Nat} {M : Mm} (N : Nat) (hN : 2000 < N) (h : TOK2 G t ce me) (hqq : (q = 105 ∨ q = 121) ∧ (q0 = 105 ∨ q0 = 121)) (P : GRP G t ce gN gr fr od kt) (hx : x < gN) (K : KG (q + 1) gN gr fr od kt M) (S : STD G t nw e M) (D : CMX gr x q q0 nw c0 e M) (r32 : ∀ i, thT G t i → M.1 32 i = bI (C i)) (r6 : M.1 30 6 = nI a) (r7 : M.1 30 7 = nI b) : ∃ M', D_X0_count N 30 (nI x) q q0 M = some M' ∧ (∀ i, thT G t i → M'.1 32 i = bI (if gr i = x + 1 then c0 i else C i)) ∧ M'.1 30 6 = nI (a + cnt (mG gr x) 320) ∧ M'.1 30 7 = nI (b + cnt (fun i => mG gr x i && c0 i) 320) ∧ FX PTl M M' := by
  have v320 : ∀ v, ¬ gr v = 0 → v < 320 := P.v320 h
  have sz' := P.2.2.2.2.1.size v320 hx
  have o1 := (P.2.2.2.2.1.2 x hx).1
  have key : ∀ fu k M, fr x + k ≤ fr (x + 1) → 321 < k + fu → KG (q + 1) gN gr fr od kt M → STD G t nw e M → CMX gr x q q0 nw c0 e M → (∀ i, thT G t i → M.1 32 i = bI (if mG gr x i = true ∧ i < psG fr od x k then c0 i else C i)) → M.1 30 6 = nI (a + k) → M.1 30 7 = nI (b + cnt (fun i => mG gr x i && c0 i) (psG fr od x k)) → ∃ M', L_X0_count_3 N q (nI x) 30 q0 fu (nI k) M = some M' ∧ (∀ i, thT G t i → M'.1 32 i = bI (if gr i = x + 1 then c0 i else C i)) ∧ M'.1 30 6 = nI (a + cnt (mG gr x) 320) ∧ M'.1 30 7 = nI (b + cnt (fun i => mG gr x i && c0 i) 320) ∧ FX PTl M M' := fun fu => by
    induction fu with
    | zero => intro k M h1 h2; have := P.2.2.2.2.2.2; have up := P.2.2.2.2.1.mono (gN - (x + 1)) (x + 1) (by omega); rw [show x + 1 + (gN - (x + 1)) = gN by omega] at up; omega
    | succ fu ih =>
      intro k M h1 h2 K S D r32 r6 r7
      obtain ⟨sz, f1, f2⟩ := s_size N K P hx
      rw [L_X0_count_3, sz, Option.bind_some]
      simp only [n_le (show fr (x + 1) - fr x < 2 ^ 31 by omega) (show k < 2 ^ 31 by omega)]
      by_cases e0 : fr (x + 1) - fr x ≤ k
      · rw [if_pos e0]
        have p320 : psG fr od x k = 320 := by unfold psG; rw [if_neg (by omega)]
        rw [p320] at r32 r7
        refine ⟨M, rfl, fun i hi => ?_, by rw [r6, sz']; congr 1; omega, r7, FX.refl⟩
        rw [r32 i hi]
        have := (th_320 h hi).2
        unfold mG
        by_cases c : gr i = x + 1
        · rw [if_pos c, if_pos ⟨decide_eq_true c, this⟩]
        · rw [if_neg c, if_neg (fun z => c (of_decide_eq_true z.1))]
      · have hk : fr x + k < fr (x + 1) := by omega
        obtain ⟨m1', m2', m3'⟩ := P.mem hx hk
        obtain ⟨p1, p2, p3⟩ := ps_mono P.2.2.2.2.1 hx hk
        obtain ⟨M1, a1, a2, a3, a4, a5⟩ := s_count1 (i := od (fr x + k)) N h hqq S D m1' m2'
        rw [if_neg e0, s_member N K P.2.2.2.2.1 P.2.2.2.2.2.2 hx hk, Option.bind_some, m3']
        have a1' := a1 (fun M4 => (some (nI k + (nI 1))).bind fun l4_2 => (L_X0_count_3 N q (nI x) 30 q0 fu l4_2 M4))
        rw [a1', Option.bind_some, nI_add]
        -- between this one and the next there is none
        have gap : ∀ i, mG gr x i = true → (i < psG fr od x (k + 1) ↔ i < psG fr od x k ∨ i = psG fr od x k) := fun i hi => by
          refine ⟨fun z => ?_, fun z => by omega⟩
          by_cases c : psG fr od x k < i
          · have := ps_gap P.2.2.2.2.1 (k := k + 1) hx (Or.inr ⟨k, rfl, c⟩) z (by omega) fun v hv => v320 v (by omega)
            rw [hi] at this; exact absurd this (by decide)
          · omega
        have one : cnt (fun i => mG gr x i && c0 i) (psG fr od x (k + 1)) = cnt (fun i => mG gr x i && c0 i) (psG fr od x k) + if c0 (psG fr od x k) = true then 1 else 0 := by
          have z := cnt_zero (f := fun i => mG gr x i && c0 i) (n := psG fr od x k + 1) (psG fr od x (k + 1) - (psG fr od x k + 1)) fun i i1 i2 => by
            rw [ps_gap P.2.2.2.2.1 (k := k + 1) hx (Or.inr ⟨k, rfl, by omega⟩) (by omega) (by omega) fun v hv => v320 v (by omega)]; rfl
          rw [show psG fr od x k + 1 + (psG fr od x (k + 1) - (psG fr od x k + 1)) = psG fr od x (k + 1) by omega] at z
          rw [z]
          show cnt (fun i => mG gr x i && c0 i) (psG fr od x k) + (if (mG gr x (psG fr od x k) && c0 (psG fr od x k)) = true then 1 else 0) = _
          rw [p3, Bool.true_and]
        obtain ⟨M2, b1, b2, b3, b4, b5⟩ := ih (k + 1) M1 (by omega) (by omega) (K.fx a5 fun b j z => by unfold PTl at z; omega) (S.fx a5) (D.fx hqq a5) (fun i hi => by
          rw [a4]
          by_cases c : i = od (fr x + k)
          · subst c
            rw [if_pos rfl, if_pos ⟨by rw [← m3']; exact p3, by rw [m3'] at p1; exact p1⟩]
          · rw [if_neg c, r32 i hi]
            by_cases d : mG gr x i = true
            · have := gap i d
              rw [m3'] at this
              by_cases y : i < od (fr x + k)
              · rw [if_pos ⟨d, by rw [m3']; exact y⟩, if_pos ⟨d, this.2 (Or.inl y)⟩]
              · rw [if_neg (fun z => y (by rw [← m3']; exact z.2)), if_neg (fun z => (this.1 z.2).elim y c)]
            · rw [if_neg (fun z => d z.1), if_neg (fun z => d z.1)]) (by rw [a2, r6, nI_add]; rfl) (by
          rw [a3, r7, one, m3', nI_add, Nat.add_assoc])
        exact ⟨M2, b1, b2, b3, b4, a5.trans b5⟩
  have p0 : ∀ i, mG gr x i = true → ¬ i < psG fr od x 0 := fun i hi z => by
    have := ps_gap P.2.2.2.2.1 (k := 0) hx (Or.inl rfl) z (by omega) fun v hv => v320 v (by omega)
    rw [hi] at this; exact absurd this (by decide)
  have c00 : cnt (fun i => mG gr x i && c0 i) (psG fr od x 0) = 0 := by
    have z := cnt_zero (f := fun i => mG gr x i && c0 i) (n := 0) (psG fr od x 0) fun i _ hi => by
      cases c : mG gr x i
      · rfl
      · exact absurd (by omega) (p0 i c)
    rw [Nat.zero_add] at z; exact z
  exact key N 0 M (by omega) (by omega) K S D (fun i hi => by rw [r32 i hi, if_neg (fun z => p0 i z.1 z.2)]) (by rw [r6, Nat.add_zero]) (by rw [r7, c00, Nat.add_zero])
theorem stY_n {n a k : Nat} {v : Int32} {M : Mm} (h : k < n) (hn : n ≤ 2 ^ 31) : stY n a (nI k) v M = some (upI M a k (vp_nar .boolean v)) := by rw [stY, ix_n h hn]; rfl
theorem nar_b (b : Bool) : vp_nar .boolean (bI b) = bI b := by cases b <;> decide +kernel
variable {t0 : TR} {ce0 : Nat → Nat → Nat} {me0 : Nat → Nat} {gN0 : Nat} {gr0 fr0 od0 : Nat → Nat} {kt0 : Nat → Bool}
/-- a group that stays: its values, its turns, its flag -/
theorem t_keep {x : Nat} {M : Mm} (N : Nat) (hN : 2000 < N) (h : TOK2 G t ce me) (h0 : TOK2 G t0 ce0 me0) (hqq : (q = 105 ∧ q0 = 121) ∨ (q = 121 ∧ q0 = 105)) (P : GRP G t ce gN gr fr od kt) (P0 : GRP G t0 ce0 gN0 gr0 fr0 od0 kt0) (hx : x < gN) (K : KG (q + 1) gN gr fr od kt M) (K0 : KG (q0 + 1) gN0 gr0 fr0 od0 kt0 M) (S : STD G t nw e M) (hnw : ∀ i, gr i = x + 1 → nw i = false ∧ thT G t0 (e i)) : ∃ M', D_X0_keep N 30 (nI x) q q0 M = some M' ∧ (∀ i, gr i = x + 1 → M'.1 (q + 12) i = M.1 (q0 + 12) (e i)) ∧ (∀ i, ¬ gr i = x + 1 → M'.1 (q + 12) i = M.1 (q + 12) i) ∧ (∃ f, gr f = x + 1 ∧ M'.1 (q + 13) x = M.1 (q0 + 13) (gr0 (e f) - 1) ∧ M'.1 (q + 14) x = vp_nar .boolean (M.1 (q0 + 14) (gr0 (e f) - 1))) ∧ FX (PGp q x) M M' := by
  have v320 : ∀ v, ¬ gr v = 0 → v < 320 := P.v320 h
  obtain ⟨o1, o2, _⟩ := P.2.2.2.2.1.2 x hx
  have g320 := P.g320
  have g0 := P0.g320
  have key : ∀ (kE : Mm → Option Mm) fu k M1, fr x + k ≤ fr (x + 1) → 321 < k + fu → KG (q + 1) gN gr fr od kt M1 → STD G t nw e M1 → FX (PGp q x) M M1 → (∀ k', k' < k → M1.1 (q + 12) (od (fr x + k')) = M.1 (q0 + 12) (e (od (fr x + k')))) → (∀ i, ¬ gr i = x + 1 → M1.1 (q + 12) i = M.1 (q + 12) i) → ∃ M', L_X0_keep_3 kE N q (nI x) 30 q0 fu (nI k) M1 = kE M' ∧ KG (q + 1) gN gr fr od kt M' ∧ STD G t nw e M' ∧ FX (PGp q x) M M' ∧ (∀ i, gr i = x + 1 → M'.1 (q + 12) i = M.1 (q0 + 12) (e i)) ∧ (∀ i, ¬ gr i = x + 1 → M'.1 (q + 12) i = M.1 (q + 12) i) := fun kE fu => by
    induction fu with
    | zero => intro k M1 h1 h2; have := P.2.2.2.2.2.2; have up := P.2.2.2.2.1.mono (gN - (x + 1)) (x + 1) (by omega); rw [show x + 1 + (gN - (x + 1)) = gN by omega] at up; omega
    | succ fu ih =>
      intro k M1 h1 h2 K S F hv ho
      obtain ⟨sz, f1, f2⟩ := s_size N K P hx
      rw [L_X0_keep_3, sz, Option.bind_some]
      simp only [n_le (show fr (x + 1) - fr x < 2 ^ 31 by omega) (show k < 2 ^ 31 by omega)]
      by_cases e0 : fr (x + 1) - fr x ≤ k
      · rw [if_pos e0]
        refine ⟨M1, rfl, K, S, F, fun i gi => ?_, ho⟩
        obtain ⟨k', k1, k2⟩ := P.at' hx gi
        have := hv k' (by omega)
        rw [k2] at this; exact this
      · have hk : fr x + k < fr (x + 1) := by omega
        obtain ⟨m1', m2', m3'⟩ := P.mem hx hk
        have i320 := (th_320 h m1').2
        obtain ⟨n1, n2⟩ := hnw _ m2'
        have e320 := (th_320 h0 n2).2
        rw [if_neg e0, s_member N K P.2.2.2.2.1 P.2.2.2.2.2.2 hx hk, Option.bind_some, m3', s_stoodFor N h S m1' n1, Option.bind_some, ldI_n e320 (by omega), (F.2 (q0 + 12) (e (od (fr x + k))) (fun z => by unfold PGp at z; omega)).1, Option.bind_some, stI_n i320 (by omega), Option.bind_some, Option.bind_some, nI_add]
        have fn : FX (PGp q x) M1 (upI M1 (q + 12) (od (fr x + k)) (M.1 (q0 + 12) (e (od (fr x + k))))) := FX.I (Or.inl rfl)
        refine ih (k + 1) _ (by omega) (by omega) (K.fx fn fun b j z => by unfold PGp at z; omega) (fun i hi => by rw [(fn.2 34 (i / 8) (fun z => by unfold PGp at z; omega)).1]; exact S i hi) (F.trans fn) (fun k' hk' => ?_) (fun i gi => ?_)
        · rw [upI_j]
          by_cases c : od (fr x + k') = od (fr x + k)
          · rw [if_pos c, c]
          · rw [if_neg c]
            refine hv k' ?_
            by_cases z : k' = k
            · rw [z] at c; exact absurd rfl c
            · omega
        · rw [upI_j, if_neg (fun z => gi (by rw [z]; exact m2'))]; exact ho i gi
  obtain ⟨M1, a1, a2, a3, a4, a5, a6⟩ := key (fun (M3 : Mm) => ((D_X4_first N (q + 1) (nI x) M3).bind fun q4 => (D_X0_stoodFor N 30 q4 M3).bind fun q5 => (ldI 320 ((q0 + 1) + 3) q5 M3).bind fun v2 => (ldI 320 (q0 + 13) v2 M3).bind fun v3 => (stI 320 (q + 13) (nI x) v3 M3).bind fun M4 => (ldI 320 (q0 + 14) v2 M4).bind fun v4 => (stY 320 (q + 14) (nI x) v4 M4).bind fun M5 => some M5)) N 0 M (by omega) (by omega) K S FX.refl (fun k' hk' => by omega) (fun i _ => rfl)
  obtain ⟨m1', m2', _⟩ := P.mem hx (show fr x + 0 < fr (x + 1) by omega)
  rw [Nat.add_zero] at m1' m2'
  obtain ⟨n1, n2⟩ := hnw _ m2'
  have e320 := (th_320 h0 n2).2
  have gz := (P0.1 (e (od (fr x)))).1 n2
  have gl := P0.2.1 (e (od (fr x)))
  have first : D_X4_first N (q + 1) (nI x) M1 = some (nI (od (fr x))) := by
    have := P.2.2.2.2.2.2
    have up := P.2.2.2.2.1.mono (gN - (x + 1)) (x + 1) (by omega)
    rw [show x + 1 + (gN - (x + 1)) = gN by omega] at up
    unfold D_X4_first
    rw [ldI_n (by omega) (by omega), a2.2.2.2.1 x (by omega), Option.bind_some, ldI_n (by omega) (by omega), a2.2.2.2.2.1 _ (by omega)]; rfl
  have r3 : M1.1 (q0 + 1 + 3) (e (od (fr x))) = nI (gr0 (e (od (fr x))) - 1) := by
    rw [(a4.2 (q0 + 1 + 3) _ (fun z => by unfold PGp at z; omega)).1, show q0 + 1 + 3 = (q0 + 1) + 3 from rfl, K0.2.1 _ e320, nP_s (by omega)]
  have f2 : FX (PGp q x) M1 (upI M1 (q + 13) x (M.1 (q0 + 13) (gr0 (e (od (fr x))) - 1))) := FX.I (by unfold PGp; omega)
  have f3 := (a4.trans f2).trans (FX.I (P := PGp q x) (M := upI M1 (q + 13) x (M.1 (q0 + 13) (gr0 (e (od (fr x))) - 1))) (a := q + 14) (k := x) (v := vp_nar .boolean (M.1 (q0 + 14) (gr0 (e (od (fr x))) - 1))) (by unfold PGp; omega))
  refine ⟨_, ?_, fun i gi => ?_, fun i gi => ?_, ⟨od (fr x), m2', ?_, ?_⟩, f3⟩
  · unfold D_X0_keep
    refine Eq.trans a1 ?_
    rw [first, Option.bind_some, s_stoodFor N h a3 m1' n1, Option.bind_some, ldI_n e320 (by omega), r3, Option.bind_some, ldI_n (by omega) (by omega), (a4.2 (q0 + 13) _ (fun z => by unfold PGp at z; omega)).1, Option.bind_some, stI_n (by omega) (by omega), Option.bind_some, ldI_n (by omega) (by omega), upI_n (by omega), (a4.2 (q0 + 14) _ (fun z => by unfold PGp at z; omega)).1, Option.bind_some, stY_n (by omega) (by omega), Option.bind_some]
  · rw [upI_n (by omega), upI_n (by omega)]; exact a5 i gi
  · rw [upI_n (by omega), upI_n (by omega)]; exact a6 i gi
  · rw [upI_n (by omega), upI_s]
  · rw [upI_s]
variable {g : Nat} {gv gv0 val val0 : Nat → Int32} {trn trn0 : Nat → Nat} {uns uns0 : Nat → Bool}
/-- one group worked out from values as they must be -/
theorem grp_val (hq : QG G) (h : TOK2 G t ce me) (P : GRP G t ce gN gr fr od kt) (V : VALp G t ce gv val trn uns) {x : Nat} (hx : x < gN) {u : Nat → Int32} (hu : ∀ i, thT G t i → gr i ≤ x → u i = val i) : (∀ i, gr i = x + 1 → vS (wkT G t ce gv) gr fr od kt x u i = val i ∧ (kt x = true → (kI (wkT G t ce gv) (mG gr x) 64 (zer (mG gr x) u)).2.2 = trn i ∧ (kI (wkT G t ce gv) (mG gr x) 64 (zer (mG gr x) u)).2.1 = uns i)) ∧ ∀ i, ¬ gr i = x + 1 → vS (wkT G t ce gv) gr fr od kt x u i = u i := by
  have P' := P
  obtain ⟨g1, g2, g3, g4, I, g6, g7⟩ := P
  obtain ⟨o1, o2, o3⟩ := I.2 x hx
  refine ⟨fun i gi => ?_, fun i gi => ?_⟩
  · have ti : thT G t i := (g1 i).2 (by omega)
    have tie := P'.tie hq h ti gi
    cases k : kt x
    · rw [k] at tie
      have kk := g6 x hx
      rw [k] at kk
      have sz : ¬ 1 < fr (x + 1) - fr x := fun z => by rw [decide_eq_true z, Bool.true_or] at kk; exact absurd kk (by decide)
      obtain ⟨m, m1', m2', m3'⟩ := o3 i gi
      have em : od (fr x) = i := by rw [← m3', show m = fr x by omega]
      refine ⟨?_, fun z => absurd z (by decide)⟩
      unfold vS
      rw [k, if_neg (by decide), em, upd_a, if_pos rfl, (V i ti).1 tie]
      refine wk_cg hq h ti fun j hj => hu j (nr_th hq h ti hj) ?_
      have := P'.alone hq h ti tie hj
      omega
    · rw [k] at tie
      obtain ⟨v1, v2, v3⟩ := (V i ti).2 tie
      have emm : mmT G t ce i = mG gr x := funext fun j => by rw [P'.mm hq h tie j, gi]; rfl
      rw [emm] at v1 v2 v3
      have cg := kI_cg (wk := wkT G t ce gv) (m := mG gr x) (A := fun y => thT G t y ∧ gr y ≤ x + 1) (fun y hy => by
        have := of_decide_eq_true hy
        exact ⟨(g1 y).2 (by omega), by omega⟩) (fun u u' y hy e => by
        have := of_decide_eq_true hy
        have ty := (g1 y).2 (by omega)
        exact wk_cg hq h ty fun j hj => e j ⟨nr_th hq h ty hj, by have := g3 y j ty hj; omega⟩) (v := zer (mG gr x) u) (v' := zer (mG gr x) val) (fun y hy => by
        unfold zer
        by_cases c : mG gr x y = true
        · rw [if_pos c, if_pos c]
        · rw [if_neg c, if_neg c]
          refine hu y hy.1 ?_
          have : ¬ gr y = x + 1 := fun z => c (decide_eq_true z)
          have := hy.2
          omega) 64
      refine ⟨?_, fun _ => ⟨by rw [cg.2, v2], by rw [cg.2, v3]⟩⟩
      unfold vS
      rw [k, if_pos rfl, cg.1 i ⟨ti, by omega⟩, ← v1]
  · unfold vS
    have ne : mG gr x i = false := decide_eq_false gi
    by_cases c : kt x = true
    · rw [if_pos c, kI_out ne]
      unfold zer
      rw [ne, if_neg (by decide)]
    · have f0 := o2 (fr x) (Nat.le_refl _) o1
      rw [if_neg c, upd_a, if_neg (fun z => gi (by rw [z]; exact f0.2.1))]
/-- what is not reckoned anew is as it was -/
theorem kptG (hq : QG G) (h : TOK2 G t ce me) (h0 : TOK2 G t0 ce0 me0) (P : GRP G t ce gN gr fr od kt) (Cr : COR G t t0 ce ce0 gv gv0 mk nw e) (V : VALp G t ce gv val trn uns) (V0 : VALp G t0 ce0 gv0 val0 trn0 uns0) (hnw : ∀ i, thT G t i → nw i = true → mk i = true) (hc : ∀ i, c0 i = (nw i || !decide (val i = val0 (e i)))) : ∀ n j, ¬ gr j = 0 → gr j ≤ n → tuB gr mk (nrB G t ce) c0 (gr j) = false → nw j = false ∧ val j = val0 (e j) ∧ knB G t0 ce0 (e j) = knB G t ce j ∧ (knB G t ce j = true → trn j = trn0 (e j) ∧ uns j = uns0 (e j)) := fun n => by
  induction n with
  | zero => intro j a b; omega
  | succ n ih =>
    intro j a b c
    by_cases s : gr j ≤ n
    · exact ih j a s c
    · have gj : gr j = n + 1 := by omega
      rw [gj] at c
      have no : ¬ ∃ i, gr i = n + 1 ∧ (mk i = true ∨ ∃ j, nrT G t ce i j ∧ chB gr mk (nrB G t ce) c0 n j = true) := fun z => by
        have := (touB_u (mk := mk) (C := chB gr mk (nrB G t ce) c0 n) hq h P (show ¬ n + 1 = 0 by omega)).2 z
        have e1 : tuB gr mk (nrB G t ce) c0 (n + 1) = true := this
        rw [e1] at c; exact absurd c (by decide)
      have nwf : ∀ i, gr i = n + 1 → mk i = false ∧ nw i = false := fun i gi => by
        have m0 : mk i = false := by
          cases z : mk i
          · rfl
          · exact absurd ⟨i, gi, Or.inl z⟩ no
        refine ⟨m0, ?_⟩
        cases z : nw i
        · rfl
        · rw [hnw i ((P.1 i).2 (by omega)) z] at m0; exact absurd m0 (by decide)
      have hX : ∀ i, gr i = n + 1 → mk i = false ∧ nw i = false ∧ ∀ y, nrT G t ce i y → nw y = false ∧ (¬ gr y = n + 1 → val y = val0 (e y)) := fun i gi => by
        refine ⟨(nwf i gi).1, (nwf i gi).2, fun y ny => ?_⟩
        have ti := (P.1 i).2 (by omega)
        have gy := (P.1 y).1 (nr_th hq h ti ny)
        have le := P.2.2.1 i y ti ny
        by_cases z : gr y = n + 1
        · exact ⟨(nwf y z).2, fun u => absurd z u⟩
        · have f : chB gr mk (nrB G t ce) c0 n y = false := by
            cases w : chB gr mk (nrB G t ce) c0 n y
            · rfl
            · exact absurd ⟨i, gi, Or.inr ⟨y, ny, w⟩⟩ no
          cases tu : tuB gr mk (nrB G t ce) c0 (gr y)
          · obtain ⟨k1, k2, _⟩ := ih y gy (by omega) tu
            exact ⟨k1, fun _ => k2⟩
          · have cf : c0 y = false := by
              cases w : c0 y
              · rfl
              · rw [(chB_t n y).2 ⟨⟨gy, by omega⟩, w, tu⟩] at f; exact absurd f (by decide)
            rw [hc y, Bool.or_eq_false_iff, Bool.not_eq_false', decide_eq_true_eq] at cf
            exact ⟨cf.1, fun _ => cf.2⟩
      obtain ⟨k1, k2, k3⟩ := keep_group hq h h0 P Cr V V0 hX gj
      exact ⟨(nwf j gj).2, k1, k2, k3⟩
def PRk (q b j : Nat) : Prop := PWk q b j ∨ PTl b j
theorem WK.fx2 {M M' : Mm} (hg : g = 35 ∨ g = 52) (hw : w = 69 ∨ w = 87) (hq : q = 105 ∨ q = 121) (h : WK q w g G t ce me gv gN gr fr od kt M) (f : FX (PRk q) M M') : WK q w g G t ce me gv gN gr fr od kt M' := by
  obtain ⟨h1, h2, h3, h4, h5, h6, h7, h8⟩ := h
  exact ⟨⟨by rw [f.1]; exact h1.1, by rw [f.1]; exact h1.2⟩, h2.fx f fun k hk j z => by unfold PRk PWk PTl at z; omega, h3.fx f fun k j k1 _ z => by unfold PRk PWk PTl at z; omega, h4.fx f fun b j z y => by unfold PRk PWk PTl at y; omega, fun a ha => (f.2 _ _ (fun z => by unfold PRk PWk PTl at z; omega)).1.trans (h5 a ha), (f.2 _ _ (fun z => by unfold PRk PWk PTl at z; omega)).1.trans h6, fun v hv => (f.2 _ _ (fun z => by unfold PRk PWk PTl at z; omega)).1.trans (h7 v hv), h8.fx f (fun z => by unfold PRk PWk PTl at z; omega) (fun b j _ _ _ z => by unfold PRk PWk PTl at z; omega)⟩
/-- the class goes through the groups: those that are due are reckoned anew, the others stay -/
theorem s_reckonC {w0 : Nat} {M : Mm} (N : Nat) (hN : 20000 < N) (hq : QG G) (h : TOK2 G t ce me) (h0 : TOK2 G t0 ce0 me0) (hg : g = 35 ∨ g = 52) (hw : w = 69 ∨ w = 87) (hqq : (q = 105 ∧ q0 = 121) ∨ (q = 121 ∧ q0 = 105)) (P : GRP G t ce gN gr fr od kt) (W : WK q w g G t ce me gv gN gr fr od kt M) (C0 : CV q0 w0 g G t0 ce0 me0 gv0 val0 trn0 uns0 gN0 gr0 fr0 od0 kt0 M) (Cr : COR G t t0 ce ce0 gv gv0 mk nw e) (V : VALp G t ce gv val trn uns) (hm : MKD G t mk nw M) (S : STD G t nw e M) (hnw : ∀ i, thT G t i → nw i = true → mk i = true) (hc : ∀ i, c0 i = (nw i || !decide (val i = val0 (e i)))) :
    ∃ M', D_X0_reckon N 30 w q q0 M = some M' ∧ (∀ i, thT G t i → M'.1 (q + 12) i = val i) ∧ (∀ i, thT G t i → knB G t ce i = true → M'.1 (q + 13) (gr i - 1) = nI (trn i) ∧ M'.1 (q + 14) (gr i - 1) = bI (uns i)) ∧ KG (q + 1) gN gr fr od kt M' ∧ M'.1 30 6 = nI (anN gr mk (nrB G t ce) c0) ∧ M'.1 30 7 = nI (chgN gr mk (nrB G t ce) c0) ∧ FX (PRk q) M M' := by
  have q1 : q = 105 ∨ q = 121 := by omega
  have q2 : q0 = 105 ∨ q0 = 121 := by omega
  have g320 := P.g320
  have key : ∀ fu x M, x ≤ gN → 321 < x + fu → WK q w g G t ce me gv gN gr fr od kt M → CV q0 w0 g G t0 ce0 me0 gv0 val0 trn0 uns0 gN0 gr0 fr0 od0 kt0 M → MKD G t mk nw M → STD G t nw e M → (∀ i, thT G t i → gr i ≤ x → M.1 (q + 12) i = val i) → (∀ i, thT G t i → gr i ≤ x → knB G t ce i = true → M.1 (q + 13) (gr i - 1) = nI (trn i) ∧ M.1 (q + 14) (gr i - 1) = bI (uns i)) → (∀ i, thT G t i → M.1 32 i = bI (chB gr mk (nrB G t ce) c0 x i)) → M.1 30 6 = nI (cnt (fun i => decide (¬ gr i = 0 ∧ gr i ≤ x) && tuB gr mk (nrB G t ce) c0 (gr i)) 320) → M.1 30 7 = nI (cnt (chB gr mk (nrB G t ce) c0 x) 320) → ∃ M', L_X0_reckon_20 q N 30 w q0 fu (nI x) M = some M' ∧ (∀ i, thT G t i → M'.1 (q + 12) i = val i) ∧ (∀ i, thT G t i → knB G t ce i = true → M'.1 (q + 13) (gr i - 1) = nI (trn i) ∧ M'.1 (q + 14) (gr i - 1) = bI (uns i)) ∧ KG (q + 1) gN gr fr od kt M' ∧ M'.1 30 6 = nI (anN gr mk (nrB G t ce) c0) ∧ M'.1 30 7 = nI (chgN gr mk (nrB G t ce) c0) ∧ FX (PRk q) M M' := fun fu => by
    induction fu with
    | zero => intro x M h1 h2; omega
    | succ fu ih =>
      intro x M h1 h2 W C0 hm S hv ht r32 r6 r7
      have K := W.2.2.2.2.2
      have L := W.2.2.2.1
      rw [L_X0_reckon_20, K.1]
      simp only [n_le (show gN < 2 ^ 31 by omega) (show x < 2 ^ 31 by omega)]
      by_cases e0 : gN ≤ x
      · rw [if_pos e0]
        refine ⟨M, rfl, fun i hi => hv i hi (by have := P.2.1 i; omega), fun i hi k => ht i hi (by have := P.2.1 i; omega) k, K, ?_, ?_, FX.refl⟩
        · rw [r6]
          refine congrArg nI (cnt_congr fun i _ => ?_)
          have := P.2.1 i
          rw [show decide (¬ gr i = 0 ∧ gr i ≤ x) = decide (¬ gr i = 0) from decide_eq_decide.2 ⟨fun z => z.1, fun z => ⟨z, by omega⟩⟩]
        · rw [r7]
          refine congrArg nI (cnt_congr fun i _ => Bool.eq_iff_iff.2 ?_)
          have := P.2.1 i
          rw [chB_t, Bool.and_eq_true, Bool.and_eq_true, decide_eq_true_eq]
          exact ⟨fun z => ⟨z.1.1, z.2⟩, fun z => ⟨⟨z.1, by omega⟩, z.2⟩⟩
      · have hx : x < gN := by omega
        rw [if_neg e0]
        obtain ⟨b, a1, a2⟩ := t_isAnew N (by omega) hq h P hx K L hm S r32
        have a2' : b = true ↔ tuB gr mk (nrB G t ce) c0 (x + 1) = true := a2.trans (touB_u hq h P (by omega)).symm
        rw [a1, Option.bind_some]
        simp only [bI_0]
        cases b
        · have tf : tuB gr mk (nrB G t ce) c0 (x + 1) = false := by
            cases z : tuB gr mk (nrB G t ce) c0 (x + 1)
            · rfl
            · exact absurd (a2'.2 z) (by decide)
          clear a1 a2 a2'
          have same : ∀ i, chB gr mk (nrB G t ce) c0 (x + 1) i = chB gr mk (nrB G t ce) c0 x i := fun i => by
            rw [chB_s, tf, Bool.and_false]
            by_cases c : gr i = x + 1
            · rw [if_pos c]
              cases z : chB gr mk (nrB G t ce) c0 x i
              · rfl
              · have := ((chB_t x i).1 z).1; omega
            · rw [if_neg c]
          have kp : ∀ i, gr i = x + 1 → nw i = false ∧ val i = val0 (e i) ∧ knB G t0 ce0 (e i) = knB G t ce i ∧ (knB G t ce i = true → trn i = trn0 (e i) ∧ uns i = uns0 (e i)) := fun i gi => kptG hq h h0 P Cr V C0.2.2.2.1 hnw hc (x + 1) i (by omega) (by omega) (by rw [gi]; exact tf)
          have te : ∀ i, gr i = x + 1 → thT G t0 (e i) := fun i gi => Cr.1 i ((P.1 i).2 (by omega)) (kp i gi).1
          obtain ⟨M1, k1, k2, k3, ⟨f, k4, k5, k6⟩, k7⟩ := t_keep N (by omega) h h0 hqq P C0.1 hx K C0.2.1 S fun i gi => ⟨(kp i gi).1, te i gi⟩
          have f1 : FX (PRk q) M M1 := k7.mono fun b j z => Or.inl z.w
          have n1 : ∀ b j, (b = 31 ∨ b = 32 ∨ b = 34 ∨ b = 30) → M1.1 b j = M.1 b j := fun b j hb => (k7.2 b j (fun z => by unfold PGp at z; omega)).1
          rw [if_pos rfl, k1, Option.bind_some, Option.bind_some, nI_add]
          obtain ⟨M2, d1, d2, d3, d4, d5, d6, d7⟩ := ih (x + 1) M1 (by omega) (by omega) (W.fx hg hw q1 (k7.mono fun b j z => z.w)) (C0.fx k7 fun b j z => by unfold PGp at z; omega) (fun i hi => by rw [n1 _ _ (by omega)]; exact hm i hi) (fun i hi => by rw [n1 _ _ (by omega)]; exact S i hi) (fun i hi gi => by
            by_cases c : gr i = x + 1
            · rw [k2 i c, C0.2.2.1, (kp i c).2.1]
            · rw [k3 i c]; exact hv i hi (by omega)) (fun i hi gi ki => by
            by_cases c : gr i = x + 1
            · rw [c, Nat.add_sub_cancel, k5, k6]
              have tie := P.tie hq h hi c
              have tf' := (P.1 f).2 (by omega)
              have kf : knB G t ce f = true := by rw [P.tie hq h tf' k4, ← tie]; exact ki
              obtain ⟨_, _, p3, p4⟩ := kp f k4
              obtain ⟨p5, p6⟩ := p4 kf
              obtain ⟨c1, c2⟩ := C0.2.2.2.2 (e f) (te f k4) (by rw [p3]; exact kf)
              -- all members of a knot have its turns and its flag
              have mf : mmT G t ce f = mmT G t ce i := funext fun y => by rw [P.mm hq h kf, P.mm hq h ki, k4, c]
              obtain ⟨_, u2, u3⟩ := (V f tf').2 kf
              obtain ⟨_, v2, v3⟩ := (V i hi).2 ki
              rw [mf] at u2 u3
              rw [c1, c2, nar_b, ← p5, ← p6, u2, u3, v2, v3]
              exact ⟨rfl, rfl⟩
            · rw [(k7.2 (q + 13) _ (fun z => by unfold PGp at z; have := (P.1 i).1 hi; omega)).1, (k7.2 (q + 14) _ (fun z => by unfold PGp at z; have := (P.1 i).1 hi; omega)).1]
              exact ht i hi (by omega) ki) (fun i hi => by rw [same, n1 _ _ (by omega)]; exact r32 i hi) (by
            rw [n1 _ _ (by omega), r6]
            refine congrArg nI (cnt_congr fun i _ => Bool.eq_iff_iff.2 ?_)
            simp only [Bool.and_eq_true, decide_eq_true_eq]
            refine ⟨fun z => ⟨⟨z.1.1, by omega⟩, z.2⟩, fun z => ⟨⟨z.1.1, ?_⟩, z.2⟩⟩
            by_cases c : gr i = x + 1
            · rw [c, tf] at z; exact absurd z.2 (by decide)
            · have := z.1.2; omega) (by
            rw [n1 _ _ (by omega), r7]
            exact congrArg nI (cnt_congr fun i _ => (same i).symm))
          exact ⟨M2, d1, d2, d3, d4, d5, d6, f1.trans d7⟩
        · have tt := a2'.1 rfl
          clear a1 a2 a2'
          obtain ⟨M1, s1, s2, s3, s4⟩ := s_group N (by omega) hq h hg hw q1 W P hx
          obtain ⟨v1, v2⟩ := grp_val hq h P V hx (u := M.1 (q + 12)) hv
          have n1 : ∀ b j, (b = 31 ∨ b = 32 ∨ b = 34 ∨ b = 30) → M1.1 b j = M.1 b j := fun b j hb => (s4.2 b j (fun z => by unfold PGp at z; omega)).1
          have W1 := W.fx hg hw q1 (s4.mono fun b j z => z.w)
          have C1 := C0.fx s4 fun b j z => by unfold PGp at z; omega
          have S1 : STD G t nw e M1 := fun i hi => by rw [n1 _ _ (by omega)]; exact S i hi
          obtain ⟨M2, b1, b2, b3, b4, b5⟩ := t_count (x := x) (q := q) (q0 := q0) (c0 := c0) (nw := nw) (e := e) (C := chB gr mk (nrB G t ce) c0 x) (a := cnt (fun i => decide (¬ gr i = 0 ∧ gr i ≤ x) && tuB gr mk (nrB G t ce) c0 (gr i)) 320) (b := cnt (chB gr mk (nrB G t ce) c0 x) 320) N (by omega) h ⟨q1, q2⟩ P hx W1.2.2.2.2.2 S1 (fun i gi => by
            have ti := (P.1 i).2 (show ¬ gr i = 0 by omega)
            refine ⟨fun z => by rw [hc i, z]; rfl, fun z => ⟨(th_320 h0 (Cr.1 i ti z)).2, ?_⟩⟩
            rw [s2, (v1 i gi).1, C1.2.2.1, hc i, z, Bool.false_or, Bool.not_eq_false', decide_eq_true_eq]) (fun i hi => by rw [n1 _ _ (by omega)]; exact r32 i hi) (by rw [n1 _ _ (by omega)]; exact r6) (by rw [n1 _ _ (by omega)]; exact r7)
          rw [if_neg (by decide), s1, Option.bind_some, b1, Option.bind_some, Option.bind_some, nI_add]
          have n2 : ∀ b j, (b = 31 ∨ b = 34 ∨ b = q + 12 ∨ b = q + 13 ∨ b = q + 14) → M2.1 b j = M1.1 b j := fun b j hb => (b5.2 b j (fun z => by unfold PTl at z; omega)).1
          have F2 : FX (PRk q) M1 M2 := b5.mono fun b j z => Or.inr z
          obtain ⟨M3, d1, d2, d3, d4, d5, d6, d7⟩ := ih (x + 1) M2 (by omega) (by omega) (W1.fx2 hg hw q1 F2) (C1.fx b5 fun b j z => by unfold PTl at z; omega) (fun i hi => by rw [n2 _ _ (by omega), n1 _ _ (by omega)]; exact hm i hi) (S1.fx b5) (fun i hi gi => by
            rw [n2 _ _ (by omega), s2]
            by_cases c : gr i = x + 1
            · exact (v1 i c).1
            · rw [v2 i c]; exact hv i hi (by omega)) (fun i hi gi ki => by
            rw [n2 _ _ (by omega), n2 _ _ (by omega)]
            by_cases c : gr i = x + 1
            · have kx : kt x = true := by rw [← P.tie hq h hi c]; exact ki
              obtain ⟨t1, t2⟩ := s3 kx
              obtain ⟨t3, t4⟩ := (v1 i c).2 kx
              rw [c, Nat.add_sub_cancel, t1, t2, t3, t4]
              exact ⟨rfl, rfl⟩
            · rw [(s4.2 (q + 13) _ (fun z => by unfold PGp at z; have := (P.1 i).1 hi; omega)).1, (s4.2 (q + 14) _ (fun z => by unfold PGp at z; have := (P.1 i).1 hi; omega)).1]
              exact ht i hi (by omega) ki) (fun i hi => by
            rw [b2 i hi, chB_s, tt, Bool.and_true]) (by
            rw [b3]
            refine congrArg nI (cnt_dis fun i _ => ?_).symm
            simp only [mG, Bool.and_eq_true, decide_eq_true_eq]
            refine ⟨⟨fun z => ?_, fun z => ?_⟩, fun z => by omega⟩
            · by_cases c : gr i = x + 1
              · exact Or.inr c
              · exact Or.inl ⟨⟨z.1.1, by omega⟩, z.2⟩
            · rcases z with z | z
              · exact ⟨⟨z.1.1, by omega⟩, z.2⟩
              · exact ⟨by omega, by rw [z]; exact tt⟩) (by
            rw [b4]
            refine congrArg nI (cnt_dis fun i _ => ?_).symm
            rw [chB_s, tt, Bool.and_true]
            have tx := chB_t (gr := gr) (mk := mk) (nr := nrB G t ce) (c0 := c0) x i
            simp only [mG, Bool.and_eq_true, decide_eq_true_eq]
            by_cases c : gr i = x + 1
            · rw [if_pos c]
              refine ⟨⟨fun z => Or.inr ⟨c, z⟩, fun z => z.elim (fun u => by have := (tx.1 u).1; omega) fun u => u.2⟩, fun z => by have := (tx.1 z.1).1; omega⟩
            · rw [if_neg c]
              exact ⟨⟨Or.inl, fun z => z.elim id fun u => absurd u.1 c⟩, fun z => c z.2.1⟩)
          exact ⟨M3, d1, d2, d3, d4, d5, d6, ((s4.mono fun b j z => Or.inl z.w).trans F2).trans d7⟩
  obtain ⟨M1, a1, a2, a3⟩ := s_clearFlags (a := 32) (n := 320) (M := M) N rfl (by omega) (by omega)
  have f1 : FX PTl M (upI (upI M1 30 6 (nI 0)) 30 7 (nI 0)) := ((a3.mono fun b j z => by unfold PTl; omega).trans (FX.I (by unfold PTl; omega))).trans (FX.I (by unfold PTl; omega))
  have z0 : ∀ f : Nat → Bool, (∀ i, f i = false) → cnt f 320 = 0 := fun f hf => by
    have z := cnt_zero (f := f) (n := 0) 320 fun i _ _ => hf i
    rw [Nat.zero_add] at z; exact z
  obtain ⟨M2, b1, b2, b3, b4, b5, b6, b7⟩ := key N 0 (upI (upI M1 30 6 (nI 0)) 30 7 (nI 0)) (by omega) (by omega) (W.fx2 hg hw q1 (f1.mono fun b j z => Or.inr z)) (C0.fx f1 fun b j z => by unfold PTl at z; omega) (fun i hi => by rw [(f1.2 31 i (by unfold PTl; omega)).1]; exact hm i hi) (S.fx f1) (fun i hi gi => absurd ((P.1 i).1 hi) (by omega)) (fun i hi gi => absurd ((P.1 i).1 hi) (by omega)) (fun i hi => by
    rw [upI_n (by decide), upI_n (by decide), a2 i (th_320 h hi).2]; rfl) (by
    rw [upI_j, if_neg (by decide), upI_j, if_pos rfl]
    exact congrArg nI (z0 _ fun i => by
      rw [decide_eq_false (by omega)]; rfl).symm) (by
    rw [upI_j, if_pos rfl]
    exact congrArg nI (z0 _ fun i => rfl).symm)
  refine ⟨M2, ?_, b2, b3, b4, b5, b6, (f1.mono fun b j z => Or.inr z).trans b7⟩
  unfold D_X0_reckon
  rw [show (30 : Nat) + 2 = 32 from rfl, a1, Option.bind_some, pI_n, Option.bind_some, pI_n, Option.bind_some]
  exact b1
end tok
