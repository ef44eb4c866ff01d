-- the class's values are what they must be
section tok
variable {G : Gr} {t : TR} {ce : Nat → Nat → Nat} {me : Nat → Nat}
variable {gN : Nat} {gr fr od : Nat → Nat} {kt : Nat → Bool}
def vG (wk : (Nat → Int32) → Nat → Int32) (gr fr od : Nat → Nat) (kt : Nat → Bool) : Nat → (Nat → Int32) → Nat → Int32
  | 0, v => v
  | x + 1, v => if kt x = true then (kI wk (mG gr x) 64 (zer (mG gr x) (vG wk gr fr od kt x v))).1 else upd (vG wk gr fr od kt x v) (od (fr x)) (wk (vG wk gr fr od kt x v) (od (fr x)))
theorem vG_s (wk : (Nat → Int32) → Nat → Int32) (gr fr od : Nat → Nat) (kt : Nat → Bool) (x : Nat) (v : Nat → Int32) : vG wk gr fr od kt (x + 1) v = if kt x = true then (kI wk (mG gr x) 64 (zer (mG gr x) (vG wk gr fr od kt x v))).1 else upd (vG wk gr fr od kt x v) (od (fr x)) (wk (vG wk gr fr od kt x v) (od (fr x))) := rfl
/-- later groups leave it alone -/
theorem vG_out (P : GRP G t ce gN gr fr od kt) {wk : (Nat → Int32) → Nat → Int32} {v : Nat → Int32} {i x : Nat} (hi : gr i ≤ x) : ∀ d, x + d ≤ gN → vG wk gr fr od kt (x + d) v i = vG wk gr fr od kt x v i
  | 0, _ => rfl
  | d + 1, hd => by
    have ih := vG_out (wk := wk) (v := v) P hi d (by omega)
    have ne : mG gr (x + d) i = false := decide_eq_false (by omega)
    rw [show x + (d + 1) = x + d + 1 by omega, vG_s]
    by_cases c : kt (x + d) = true
    · rw [if_pos c, kI_out ne]
      unfold zer
      rw [ne, if_neg (by decide)]; exact ih
    · have f0 := (P.2.2.2.2.1.2 (x + d) (by omega)).2.1 (fr (x + d)) (Nat.le_refl _) (P.2.2.2.2.1.2 (x + d) (by omega)).1
      rw [if_neg c, upd_a, if_neg (fun e => by rw [← e] at f0; omega)]; exact ih
theorem vG_val (hq : QG G) (h : TOK2 G t ce me) (P : GRP G t ce gN gr fr od kt) {gv v : Nat → Int32} : VALp G t ce gv (vG (wkT G t ce gv) gr fr od kt gN v) (fun i => (kI (wkT G t ce gv) (mG gr (gr i - 1)) 64 (zer (mG gr (gr i - 1)) (vG (wkT G t ce gv) gr fr od kt (gr i - 1) v))).2.2) (fun i => (kI (wkT G t ce gv) (mG gr (gr i - 1)) 64 (zer (mG gr (gr i - 1)) (vG (wkT G t ce gv) gr fr od kt (gr i - 1) v))).2.1) := by
  intro i hi
  have P' := P
  obtain ⟨g1, g2, g3, g4, I, g6, g7⟩ := P
  have i0 := (g1 i).1 hi
  have iN := g2 i
  obtain ⟨x, hx⟩ : ∃ x, gr i = x + 1 := ⟨gr i - 1, by omega⟩
  have low : ∀ j, gr j ≤ x → vG (wkT G t ce gv) gr fr od kt gN v j = vG (wkT G t ce gv) gr fr od kt x v j := fun j hj => by
    have := vG_out (wk := wkT G t ce gv) (v := v) P' hj (gN - x) (by omega)
    rwa [show x + (gN - x) = gN by omega] at this
  have own : vG (wkT G t ce gv) gr fr od kt gN v i = vG (wkT G t ce gv) gr fr od kt (x + 1) v i := by
    have := vG_out (wk := wkT G t ce gv) (v := v) P' (show gr i ≤ x + 1 by omega) (gN - (x + 1)) (by omega)
    rwa [show x + 1 + (gN - (x + 1)) = gN by omega] at this
  have tie := P'.tie hq h hi hx
  obtain ⟨o1, o2, o3⟩ := I.2 x (by omega)
  refine ⟨fun k => ?_, fun k => ?_⟩
  · rw [tie] at k
    have kk := g6 x (by omega)
    rw [k] at kk
    have sz : ¬ 1 < fr (x + 1) - fr x := fun z => by rw [decide_eq_true z, Bool.true_or] at kk; exact absurd kk (by decide)
    obtain ⟨m, m1', m2', m3'⟩ := o3 i hx
    have em : od (fr x) = i := by rw [← m3', show m = fr x by omega]
    rw [own, vG_s, k, if_neg (by decide), em, upd_a, if_pos rfl]
    refine wk_cg hq h hi fun j hj => (low j ?_).symm
    have := P'.alone hq h hi (by rw [tie]; exact k) hj
    omega
  · have emm : mmT G t ce i = mG gr x := funext fun j => by rw [P'.mm hq h k j, hx]; rfl
    have cg := kI_cg (wk := wkT G t ce gv) (m := mG gr x) (A := fun y => thT G t y ∧ gr y ≤ x + 1) (fun y hy => by
      have := of_decide_eq_true hy
      exact ⟨(g1 y).2 (by omega), by omega⟩) (fun u u' y hy e => by
      have := of_decide_eq_true hy
      have ty := (g1 y).2 (by omega)
      exact wk_cg hq h ty fun j hj => e j ⟨nr_th hq h ty hj, by have := g3 y j ty hj; omega⟩) (v := zer (mG gr x) (vG (wkT G t ce gv) gr fr od kt gN v)) (v' := zer (mG gr x) (vG (wkT G t ce gv) gr fr od kt x v)) (fun y hy => by
      unfold zer
      by_cases c : mG gr x y = true
      · rw [if_pos c, if_pos c]
      · rw [if_neg c, if_neg c]
        refine low y ?_
        have : ¬ gr y = x + 1 := fun z => c (decide_eq_true z)
        omega) 64
    have ex : gr i - 1 = x := by omega
    rw [emm]
    refine ⟨?_, ?_, ?_⟩
    · rw [own, vG_s, ← tie, k, if_pos rfl]
      exact (cg.1 i ⟨hi, by omega⟩).symm
    · show (kI (wkT G t ce gv) (mG gr (gr i - 1)) 64 (zer (mG gr (gr i - 1)) (vG (wkT G t ce gv) gr fr od kt (gr i - 1) v))).2.2 = _
      rw [ex, cg.2]
    · show (kI (wkT G t ce gv) (mG gr (gr i - 1)) 64 (zer (mG gr (gr i - 1)) (vG (wkT G t ce gv) gr fr od kt (gr i - 1) v))).2.1 = _
      rw [ex, cg.2]
theorem GRP.g320 (P : GRP G t ce gN gr fr od kt) : gN ≤ 320 := by
  have g := P.2.2.2.2.1.mono gN 0 (by omega)
  have := P.2.2.2.2.2.2
  rw [Nat.zero_add] at g
  omega
/-- one group is worked out -/
def vS (wk : (Nat → Int32) → Nat → Int32) (gr fr od : Nat → Nat) (kt : Nat → Bool) (x : Nat) (v : Nat → Int32) : Nat → Int32 := if kt x = true then (kI wk (mG gr x) 64 (zer (mG gr x) v)).1 else upd v (od (fr x)) (wk v (od (fr x)))
def PGp (q x b j : Nat) : Prop := b = q + 12 ∨ b = q + 15 ∨ (b = q + 13 ∨ b = q + 14) ∧ j = x
theorem s_group {q w g x : Nat} {gv : Nat → Int32} {M : Mm} (N : Nat) (hN : 2000 < N) (hq : QG G) (h : TOK2 G t ce me) (hg : g = 35 ∨ g = 52) (hw : w = 69 ∨ w = 87) (hqq : q = 105 ∨ q = 121) (W : WK q w g G t ce me gv gN gr fr od kt M) (P : GRP G t ce gN gr fr od kt) (hx : x < gN) :
    ∃ M', D_X10_reckonGroup N q (nI x) M = some M' ∧ M'.1 (q + 12) = vS (wkT G t ce gv) gr fr od kt x (M.1 (q + 12)) ∧ (kt x = true → M'.1 (q + 13) x = nI (kI (wkT G t ce gv) (mG gr x) 64 (zer (mG gr x) (M.1 (q + 12)))).2.2 ∧ M'.1 (q + 14) x = bI (kI (wkT G t ce gv) (mG gr x) 64 (zer (mG gr x) (M.1 (q + 12)))).2.1) ∧ FX (PGp q x) M M' := by
  cases c : kt x
  · have P' := P
    obtain ⟨g1, g2, g3, g4, I, g6, g7⟩ := P
    have gl := I.mono gN 0 (by omega)
    rw [Nat.zero_add] at gl
    have K := W.2.2.2.2.2
    have g320 := P'.g320
    obtain ⟨o1, o2, o3⟩ := I.2 x hx
    have f0 := o2 (fr x) (Nat.le_refl _) o1
    have up := I.mono (gN - (x + 1)) (x + 1) (by omega)
    rw [show x + 1 + (gN - (x + 1)) = gN by omega] at up
    have th : thT G t (od (fr x)) := (g1 _).2 (by omega)
    have first : D_X4_first N (q + 1) (nI x) M = some (nI (od (fr x))) := by
      unfold D_X4_first
      rw [ldI_n (by omega) (by omega), K.2.2.2.1 x (by omega), Option.bind_some, ldI_n (by omega) (by omega), K.2.2.2.2.1 _ (by omega)]; rfl
    obtain ⟨M1, r1, r2⟩ := s_reckon N hN hq h hg hw hqq th W.1 W.2.1 W.2.2.1 W.2.2.2.1 W.2.2.2.2.1
    have e12 : M1.1 (q + 12) = M.1 (q + 12) := funext fun j => (r2.2 _ _ (fun z => by omega)).1
    unfold D_X10_reckonGroup
    rw [show q + 1 + 4 = (q + 1) + 4 from rfl, ldI_n (by omega) (by omega), K.2.2.2.2.2 x hx, c, Option.bind_some, if_pos bI_f, first, Option.bind_some, r1, Option.bind_some, stI_n f0.1 (by omega), Option.bind_some]
    refine ⟨_, rfl, ?_, fun z => absurd z (by decide), (r2.mono fun b j z => Or.inr (Or.inl z)).trans (FX.I (Or.inl rfl))⟩
    unfold vS
    rw [c, if_neg (by decide)]
    exact funext fun y => by rw [upI_j, upd_a, e12]
  · obtain ⟨M1, s1, s2, s3, s4, s5⟩ := s_iterate N hN hq h hg hw hqq W P hx c
    exact ⟨M1, s1, by unfold vS; rw [c, if_pos rfl]; exact s2, fun _ => ⟨s3, s4⟩, s5⟩
theorem PGp.w {q x b j : Nat} (h : PGp q x b j) : PWk q b j := by unfold PGp at h; unfold PWk; omega
theorem loop_all {q w g : Nat} {gv v0 : Nat → Int32} (N : Nat) (hN : 2000 < N) (hq : QG G) (h : TOK2 G t ce me) (hg : g = 35 ∨ g = 52) (hw : w = 69 ∨ w = 87) (hqq : q = 105 ∨ q = 121) (P : GRP G t ce gN gr fr od kt) : ∀ (fu x : Nat) (M : Mm), x ≤ gN → 321 < x + fu → WK q w g G t ce me gv gN gr fr od kt M → M.1 (q + 12) = vG (wkT G t ce gv) gr fr od kt x v0 → (∀ y, y < x → kt y = true → M.1 (q + 13) y = nI (kI (wkT G t ce gv) (mG gr y) 64 (zer (mG gr y) (vG (wkT G t ce gv) gr fr od kt y v0))).2.2 ∧ M.1 (q + 14) y = bI (kI (wkT G t ce gv) (mG gr y) 64 (zer (mG gr y) (vG (wkT G t ce gv) gr fr od kt y v0))).2.1) → ∃ M', L_X10_reckonAll_2 q N fu (nI x) M = some M' ∧ M'.1 (q + 12) = vG (wkT G t ce gv) gr fr od kt gN v0 ∧ (∀ y, y < gN → kt y = true → M'.1 (q + 13) y = nI (kI (wkT G t ce gv) (mG gr y) 64 (zer (mG gr y) (vG (wkT G t ce gv) gr fr od kt y v0))).2.2 ∧ M'.1 (q + 14) y = bI (kI (wkT G t ce gv) (mG gr y) 64 (zer (mG gr y) (vG (wkT G t ce gv) gr fr od kt y v0))).2.1) ∧ FX (PWk q) M M'
  | 0, x, M, h1, h2, W, _, _ => by
    have I := P.2.2.2.2.1
    have gl := I.mono gN 0 (by omega)
    have := P.2.2.2.2.2.2
    rw [Nat.zero_add] at gl; omega
  | fu + 1, x, M, h1, h2, W, hv, hk => by
    have g320 := P.g320
    have K := W.2.2.2.2.2
    rw [L_X10_reckonAll_2, K.1]
    simp only [n_le (show gN < 2 ^ 31 by omega) (show x < 2 ^ 31 by omega)]
    by_cases e : gN ≤ x
    · have ex : x = gN := by omega
      subst ex
      rw [if_pos e]; exact ⟨M, rfl, hv, hk, FX.refl⟩
    · have hx : x < gN := by omega
      obtain ⟨M1, r1, r2, r3, r4⟩ := s_group N hN hq h hg hw hqq W P hx
      rw [if_neg e, r1, Option.bind_some, Option.bind_some, nI_add]
      rw [hv] at r2 r3
      obtain ⟨M2, a1, a2, a3, a4⟩ := loop_all N hN hq h hg hw hqq P fu (x + 1) M1 (by omega) (by omega) (W.fx hg hw hqq (r4.mono fun b j z => z.w)) r2 (fun y hy ky => by
        by_cases z : y = x
        · rw [z] at ky ⊢; exact r3 ky
        · rw [(r4.2 (q + 13) y (fun u => by unfold PGp at u; omega)).1, (r4.2 (q + 14) y (fun u => by unfold PGp at u; omega)).1]; exact hk y (by omega) ky)
      exact ⟨M2, a1, a2, a3, (r4.mono fun b j z => z.w).trans a4⟩
/-- all that the class has when it has worked a tree out -/
def CV (q w g : Nat) (G : Gr) (t : TR) (ce : Nat → Nat → Nat) (me : Nat → Nat) (gv val : Nat → Int32) (trn : Nat → Nat) (uns : Nat → Bool) (gN : Nat) (gr fr od : Nat → Nat) (kt : Nat → Bool) (M : Mm) : Prop :=
  GRP G t ce gN gr fr od kt ∧ KG (q + 1) gN gr fr od kt M ∧ M.1 (q + 12) = val ∧ VALp G t ce gv val trn uns ∧ ∀ i, thT G t i → knB G t ce i = true → M.1 (q + 13) (gr i - 1) = nI (trn i) ∧ M.1 (q + 14) (gr i - 1) = bI (uns i)
/-- the class's work begins: its grammar and tree are told, the groups are found -/
theorem s_workBegin {q w g : Nat} {gv : Nat → Int32} {M : Mm} (N : Nat) (hN : 20000 < N) (hq : QG G) (h : TOK2 G t ce me) (hw : w = 69 ∨ w = 87) (hqq : q = 105 ∨ q = 121) (K : CG g G M) (hg : g = 35 ∨ g = 52) (C : CT w G t M) (L : CLk w G t ce me M) (hgv : ∀ a, a < 4 → M.1 (w + 12) a = gv a) :
    ∃ gN gr fr od kt M1 M2, D_X10_begin N q g w M = some M1 ∧ D_X4_find N (q + 1) w M1 = some M2 ∧ GRP G t ce gN gr fr od kt ∧ WK q w g G t ce me gv gN gr fr od kt M2 ∧ M2.2.2 (q + 1) 6 = w ∧ Fr (fun a => q ≤ a ∧ a ≤ q + 10) M M1 ∧ Fr (fun a => q ≤ a ∧ a ≤ q + 10) M M2 := by
  unfold D_X10_begin
  rw [pN_n, Option.bind_some, pN_n, Option.bind_some]
  have f1 : Fr (fun a => q ≤ a ∧ a ≤ q + 10) M (upN (upN M q 6 g) q 5 w) := (Fr.N (S := fun a => q ≤ a ∧ a ≤ q + 10) (by omega)).trans (Fr.N (by omega))
  have W0 : WQ q w g (upN (upN M q 6 g) q 5 w) := by
    unfold WQ
    rw [upN3, if_pos rfl, upN3, if_pos rfl]
    exact ⟨by simp, by simp⟩
  have K1 : CG g G (upN (upN M q 6 g) q 5 w) := K
  have C1 : CT w G t (upN (upN M q 6 g) q 5 w) := C
  have L1 : CLk w G t ce me (upN (upN M q 6 g) q 5 w) := L
  obtain ⟨gN, gr, fr, od, kt, M2, a1, a2, a3, a4, a5⟩ := s_findT N hN (show q + 1 = 106 ∨ q + 1 = 122 by omega) hw h hq C1 L1
  have n2 : ∀ b, ¬ (q + 1 ≤ b ∧ b ≤ q + 1 + 9) → M2.1 b = (upN (upN M q 6 g) q 5 w).1 b := fun b hb => (a4 b hb).1
  have W2 : WK q w g G t ce me gv gN gr fr od kt M2 := by
    refine ⟨?_, K1.fr a4 fun k hk z => by omega, ⟨?_, fun e he => (C1.2 e he).of fun k _ _ => ?_⟩, ⟨fun k hk => ⟨?_, fun j j1 j2 => ?_⟩, fun x hx => ?_, fun i hi => ?_⟩, fun a ha => ?_, a3⟩
    · unfold WQ; rw [(a4 q (by omega)).2.2]; exact W0
    · rw [n2 w (by omega)]; exact C1.1
    · rw [n2 (w + k) (by omega)]
    · rw [n2 (w + 11) (by omega)]; exact (L1.1 k hk).1
    · rw [n2 (w + 11) (by omega)]; exact (L1.1 k hk).2 j j1 j2
    · rw [n2 (w + 6) (by omega)]; exact L1.2.1 x hx
    · unfold LI1; rw [n2 (w + 13) (by omega), n2 (w + 14) (by omega), n2 (w + 15) (by omega)]; exact L1.2.2 i hi
    · rw [n2 (w + 12) (by omega)]; exact hgv a ha
  exact ⟨gN, gr, fr, od, kt, _, M2, rfl, a1, a2, W2, a5, f1, f1.trans (a4.mono fun a z => by omega)⟩
theorem s_reckonAll {q w g : Nat} {gv : Nat → Int32} {M : Mm} (N : Nat) (hN : 20000 < N) (hq : QG G) (h : TOK2 G t ce me) (hg : g = 35 ∨ g = 52) (hw : w = 69 ∨ w = 87) (hqq : q = 105 ∨ q = 121) (K : CG g G M) (C : CT w G t M) (L : CLk w G t ce me M) (hgv : ∀ a, a < 4 → M.1 (w + 12) a = gv a) :
    ∃ val trn uns gN gr fr od kt M1 M2 M', D_X10_begin N q g w M = some M1 ∧ D_X4_find N (q + 1) w M1 = some M2 ∧ D_X10_reckonAll N q M2 = some M' ∧ CV q w g G t ce me gv val trn uns gN gr fr od kt M' ∧ M'.2.2 (q + 1) 6 = w ∧ Fr (fun a => q ≤ a ∧ a ≤ q + 15) M M1 ∧ Fr (fun a => q ≤ a ∧ a ≤ q + 15) M M2 ∧ Fr (fun a => q ≤ a ∧ a ≤ q + 15) M M' := by
  obtain ⟨gN, gr, fr, od, kt, M1, M2, b0, a1, a2, W2, a5, f1, f2⟩ := s_workBegin N hN hq h hw hqq K hg C L hgv
  have f2' : Fr (fun a => q ≤ a ∧ a ≤ q + 15) M M2 := f2.mono fun a z => by omega
  obtain ⟨M3, b1, b2, b3, b4⟩ := loop_all (v0 := M2.1 (q + 12)) N (by omega) hq h hg hw hqq a2 N 0 M2 (Nat.zero_le _) (by omega) W2 rfl (fun y hy => absurd hy (Nat.not_lt_zero _))
  refine ⟨_, _, _, gN, gr, fr, od, kt, M1, M2, M3, b0, a1, b1, ⟨a2, (W2.fx hg hw hqq b4).2.2.2.2.2, b2, vG_val hq h a2, fun i hi k => ?_⟩, by rw [b4.1]; exact a5, f1.mono fun a z => by omega, f2', f2'.trans fun a ha => ⟨funext fun j => (b4.2 a j (fun z => by unfold PWk at z; omega)).1, funext fun j => (b4.2 a j (fun z => by unfold PWk at z; omega)).2, by rw [b4.1]⟩⟩
  have i0 := (a2.1 i).1 hi
  have iN := a2.2.1 i
  refine b3 (gr i - 1) (by omega) ?_
  rw [← a2.tie hq h hi (show gr i = gr i - 1 + 1 by omega)]; exact k
end tok
