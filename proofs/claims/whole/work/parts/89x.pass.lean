-- the reference: one pass after another
def P69 (b j : Nat) : Prop := b = 166 ∨ b = 168 ∨ b = 169 ∨ b = 175 ∨ b = 176 ∨ b = 180 ∨ b = 137 ∧ j = 72
def RDy (G : Gr) (t : TR) (ce : Nat → Nat → Nat) (gr : Nat → Nat) (dg : Nat → Bool) (j : Nat) : Prop := ∀ x, gr x = gr j → ∀ y, nrT G t ce x y → dg (gr y) = true ∨ gr y = gr x
/-- none comes first in its unit, is not done, and is ready -/
def NRy (G : Gr) (t : TR) (ce : Nat → Nat → Nat) (gr : Nat → Nat) (dg : Nat → Bool) (j : Nat) : Prop := thT G t j → (∀ x, gr x = gr j → j ≤ x) → dg (gr j) = false → ¬ RDy G t ce gr dg j
def PAS (G : Gr) (t : TR) (ce : Nat → Nat → Nat) (gv : Nat → Int32) (gr : Nat → Nat) (kE : Int32 → Mm → Option Mm) (E : Option Mm) (b : Bool) (dg : Nat → Bool) (M : Mm) (i : Nat) : Prop :=
  ∃ b' dg' M', E = kE (bI b') M' ∧ RSI G t ce gv gr dg' M' ∧ FX P69 M M' ∧ cnt dg 321 ≤ cnt dg' 321 ∧ (b' = false → b = false ∧ dg' = dg ∧ ∀ j, i ≤ j → NRy G t ce gr dg j) ∧ (b = false → b' = true → cnt dg 321 < cnt dg' 321)
section tok
variable {G : Gr} {t : TR} {ce : Nat → Nat → Nat} {me : Nat → Nat}
variable {gN : Nat} {gr fr od : Nat → Nat} {kt : Nat → Bool}
variable {gv : Nat → Int32}
theorem PAS.skip {kE : Int32 → Mm → Option Mm} {E : Option Mm} {b : Bool} {dg : Nat → Bool} {M : Mm} {i : Nat} (p : PAS G t ce gv gr kE E b dg M (i + 1)) (q : NRy G t ce gr dg i) : PAS G t ce gv gr kE E b dg M i := by
  obtain ⟨b', dg', M', a1, a2, a3, a4, a5, a6⟩ := p
  exact ⟨b', dg', M', a1, a2, a3, a4, fun z => ⟨(a5 z).1, (a5 z).2.1, (all_s q).1 (a5 z).2.2⟩, a6⟩
theorem PAS.step {kE : Int32 → Mm → Option Mm} {E : Option Mm} {b : Bool} {dg dg1 : Nat → Bool} {M M1 : Mm} {i : Nat} (p : PAS G t ce gv gr kE E true dg1 M1 (i + 1)) (f : FX P69 M M1) (e : cnt dg1 321 = cnt dg 321 + 1) : PAS G t ce gv gr kE E b dg M i := by
  obtain ⟨b', dg', M', a1, a2, a3, a4, a5, a6⟩ := p
  exact ⟨b', dg', M', a1, a2, f.trans a3, by omega, fun z => absurd (a5 z).1 (by decide), fun _ _ => by omega⟩
/-- one alone is its unit -/
theorem GRP.one (hq : QG G) (h : TOK2 G t ce me) (g : GRP G t ce gN gr fr od kt) {i x : Nat} (hi : thT G t i) (hk : knB G t ce i = false) (e : gr x = gr i) : x = i := by
  have hx : thT G t x := (g.1 x).2 (by rw [e]; exact (g.1 i).1 hi)
  rcases (g.same hq h hi hx).1 e.symm with z | z
  · exact z.symm
  · have := (knB_t hq h).2 ⟨hi, rc_trans hq h (th_320 h hi).1 (th_320 h hx).1 z.1 z.2⟩
    rw [hk] at this; exact absurd this (by decide)
/-- a knot's first -/
theorem GRP.hd (hq : QG G) (h : TOK2 G t ce me) (g : GRP G t ce gN gr fr od kt) {i : Nat} (hi : thT G t i) (ki : knB G t ce i = true) : knF G t ce i = i ↔ ∀ x, gr x = gr i → i ≤ x := by
  have i320 := (th_320 h hi).2
  have le := knF_le i320 ki
  refine ⟨fun z x hx => ?_, fun z => ?_⟩
  · have m := g.mm hq h ki x
    rw [decide_eq_true hx] at m
    unfold mmT at m
    rw [Bool.and_eq_true, decide_eq_true_eq] at m
    have hx' : thT G t x := (g.1 x).2 (by rw [hx]; exact (g.1 i).1 hi)
    have := (knF_le (th_320 h hx').2 m.1).1
    omega
  · have l2 := le.2
    simp only [Bool.and_eq_true] at l2
    have e := (g.same hq h hi (thB_t.1 l2.1.1)).2 (Or.inr ⟨l2.1.2, l2.2⟩)
    have := z _ e.symm
    omega
theorem GRP.hdTe (hq : QG G) (h : TOK2 G t ce me) (g : GRP G t ce gN gr fr od kt) {i : Nat} (hi : thT G t i) (ki : knB G t ce i = true) (kh : knF G t ce i = i) : hdT G t ce i = mG gr (gr i - 1) := funext fun j => by
  have m := g.mm hq h ki j
  have i0 := (g.1 i).1 hi
  unfold mmT at m
  rw [kh] at m
  show (knB G t ce j && decide (knF G t ce j = i)) = decide (gr j = gr i - 1 + 1)
  rw [m, show gr i - 1 + 1 = gr i by omega]
/-- a unit is worked out -/
theorem r_unit {dg : Nat → Bool} {M : Mm} {i : Nat} (N : Nat) (hN : 2000 < N) (hq : QG G) (h : TOK2 G t ce me) (P : GRP G t ce gN gr fr od kt) (S : RSI G t ce gv gr dg M) (hi : thT G t i) (hl : ∀ x, gr x = gr i → i ≤ x) (h0 : dg (gr i) = false) (hr : RDy G t ce gr dg i) :
    ∃ M' M2, (if knI G t ce i = m1 then ((D_X12_worked N 137 (nI i) M).bind fun q1 => (stI 320 166 (nI i) q1.1 q1.2).bind fun M13 => (stZ 320 176 (nI i) (nI 1) M13).bind fun M14 => (some M14)) else ((D_X12_turnsKnot N 137 (nI i) M).bind fun M15 => (some M15))) = some M2 ∧ (∃ M3, stI 320 169 (M2.1 137 72) (nI i) M2 = some M3 ∧ pI M3 137 72 ((M3.1 137 72) + (nI 1)) = some M') ∧ RSI G t ce gv gr (dgU dg (gr i)) M' ∧ cnt (dgU dg (gr i)) 321 = cnt dg 321 + 1 ∧ FX P69 M M' := by
  obtain ⟨R, D, d0, O, V⟩ := S
  have i320 := (th_320 h hi).2
  have i0 := (P.1 i).1 hi
  have iN := P.2.1 i
  obtain ⟨od', O1, O2, O3⟩ := O
  have c320 : cnt dg 321 < 320 := by
    have g := P.2.2.2.2.1.mono gN 0 (by omega)
    have := P.2.2.2.2.2.2
    rw [Nat.zero_add] at g
    have : cnt (dgU dg (gr i)) 321 = cnt dg 321 + 1 := cnt_one (gr i) (by omega) (fun x _ hx => by unfold dgU; rw [decide_eq_false hx, Bool.or_false]) h0 (dgU_t.2 (Or.inr rfl))
    have : cnt (dgU dg (gr i)) 321 ≤ gN + 1 - 1 := cnt_rng fun x _ hx => by
      rcases dgU_t.1 hx with z | z
      · obtain ⟨k, a, b⟩ := O1.2.2.1 x z
        have := P.2.1 (od' k)
        have : ¬ x = 0 := fun u => by rw [u, d0] at z; exact absurd z (by decide)
        omega
      · omega
    omega
  -- what is left once the unit has its values
  have fin : ∀ M2 : Mm, RK3 G t ce gv M2 → (∀ x, ¬ gr x = gr i → M2.1 166 x = M.1 166 x ∧ M2.1 168 x = M.1 168 x ∧ M2.1 175 x = M.1 175 x) → (∀ x, x < 320 → M2.1 176 x = if gr x = gr i then nI 1 else M.1 176 x) → (∀ x, thT G t x → gr x = gr i → VLd G t ce gv gr M2 x) → FX (fun b _ => P3t b 0) M M2 → ∃ M', (∃ M3, stI 320 169 (M2.1 137 72) (nI i) M2 = some M3 ∧ pI M3 137 72 ((M3.1 137 72) + (nI 1)) = some M') ∧ RSI G t ce gv gr (dgU dg (gr i)) M' ∧ cnt (dgU dg (gr i)) 321 = cnt dg 321 + 1 ∧ FX P69 M M' := fun M2 q1 q2 q3 q4 q5 => by
    have e72 : M2.1 137 72 = nI (cnt dg 321) := ((q5.2 137 72 (by unfold P3t; omega)).1).trans O2
    have f3 : FX P69 M2 (upI (upI M2 169 (cnt dg 321) (nI i)) 137 72 (nI (cnt dg 321 + 1))) := (FX.I (by unfold P69; omega)).trans (FX.I (by unfold P69; omega))
    have n166 : ∀ b, b = 166 ∨ b = 168 ∨ b = 175 ∨ b = 176 → ∀ x, (upI (upI M2 169 (cnt dg 321) (nI i)) 137 72 (nI (cnt dg 321 + 1))).1 b x = M2.1 b x := fun b hb x => by rw [upI_n (by omega), upI_n (by omega)]
    refine ⟨upI (upI M2 169 (cnt dg 321) (nI i)) 137 72 (nI (cnt dg 321 + 1)), ⟨upI M2 169 (cnt dg 321) (nI i), ?_, ?_⟩, ?_⟩
    · rw [e72, stI_n (by omega) (by omega)]
    · rw [upI_n (by decide), e72, pI_n, nI_add]
    · have st := RSI.step hq h P (M' := upI (upI M2 169 (cnt dg 321) (nI i)) 137 72 (nI (cnt dg 321 + 1))) ⟨R, D, d0, ⟨od', O1, O2, O3⟩, V⟩ hi hl h0 hr (q1.fx f3 fun b j z => z) (fun x hx => by rw [n166 _ (by omega), n166 _ (by omega), n166 _ (by omega)]; exact q2 x hx) (fun x hx => by rw [n166 _ (by omega)]; exact q3 x hx) (fun x hx hg => by
        have v := q4 x hx hg
        unfold VLd at v ⊢
        have r : (upI (upI M2 169 (cnt dg 321) (nI i)) 137 72 (nI (cnt dg 321 + 1))).1 166 = M2.1 166 := funext fun x => n166 _ (by omega) x
        rw [r, n166 168 (by omega), n166 175 (by omega)]; exact v) (by rw [upI_j, if_pos rfl]) (fun k => by
        rw [upI_n (by decide), upI_j]
        by_cases c : k = cnt dg 321
        · rw [if_pos c, if_pos c]
        · rw [if_neg c, if_neg c]; exact (q5.2 169 k (by unfold P3t; omega)).1)
      exact ⟨st.1, st.2, (q5.mono fun b j z => by unfold P3t at z; unfold P69; omega).trans f3⟩
  simp only [knI_m1 i320]
  cases k : knB G t ce i
  · rw [if_pos rfl]
    obtain ⟨M1, r1, r2⟩ := r_worked N hN h hi R.1 R.2.1 R.2.2.2.2.2
    have e0 : ∀ b, ¬ b = 180 → M1.1 b = M.1 b := fun b hb => funext fun j => (r2.2 _ _ (fun z => hb z)).1
    have f2 : FX (fun b _ => P3t b 0) M (upI (upI M1 166 i (wkT G t ce gv (M.1 166) i)) 176 i (nI 1)) := ((r2.mono fun b j z => by unfold P180 at z; unfold P3t; omega).trans (FX.I (by unfold P3t; omega))).trans (FX.I (by unfold P3t; omega))
    have own := fun x e => P.one hq h hi k (x := x) e
    have n166 : (upI (upI M1 166 i (wkT G t ce gv (M.1 166) i)) 176 i (nI 1)).1 166 = upd (M.1 166) i (wkT G t ce gv (M.1 166) i) := by rw [upI_n (by decide), up1, if_pos rfl, e0 166 (by decide)]
    obtain ⟨M', a1, a2, a3, a4⟩ := fin (upI (upI M1 166 i (wkT G t ce gv (M.1 166) i)) 176 i (nI 1)) (R.fx f2 fun b j z => by unfold P3t at z; omega) (fun x hx => by
      have ne : ¬ x = i := fun z => hx (by rw [z])
      refine ⟨by rw [n166, upd_a, if_neg ne], ?_, ?_⟩
      · rw [upI_n (by decide), upI_n (by decide), e0 168 (by decide)]
      · rw [upI_n (by decide), upI_n (by decide), e0 175 (by decide)]) (fun x hx => by
      rw [upI_j, upI_n (by decide), e0 176 (by decide)]
      by_cases c : x = i
      · rw [if_pos c, if_pos (by rw [c])]
      · rw [if_neg c, if_neg (fun z => c (own x z))]) (fun x hx hg => by
      have ex := own x hg
      subst ex
      refine ⟨fun _ => ?_, fun z => by rw [k] at z; exact absurd z (by decide)⟩
      rw [n166, upd_a, if_pos rfl]
      refine wk_cg hq h hi fun j hj => ?_
      have al := P.alone hq h hi k hj
      rw [upd_a, if_neg (fun z => by rw [z] at al; omega)]) f2
    refine ⟨M', upI (upI M1 166 i (wkT G t ce gv (M.1 166) i)) 176 i (nI 1), ?_, a1, a2, a3, a4⟩
    rw [r1, Option.bind_some, stI_n i320 (by omega), Option.bind_some, stZ_1 i320 (by omega), Option.bind_some]
  · rw [if_neg (by decide)]
    have kh := (P.hd hq h hi k).2 hl
    obtain ⟨M1, r1, r2, r3, r4, r5⟩ := r_turnsKnot N hN h i320 R
    have eh := P.hdTe hq h hi k kh
    rw [eh] at r2 r3 r4
    have mg : ∀ x, mG gr (gr i - 1) x = true ↔ gr x = gr i := fun x => by
      unfold mG
      rw [decide_eq_true_eq, show gr i - 1 + 1 = gr i by omega]
    have mgf : ∀ x, ¬ gr x = gr i → mG gr (gr i - 1) x = false := fun x hx => by
      cases z : mG gr (gr i - 1) x
      · rfl
      · exact absurd ((mg x).1 z) hx
    obtain ⟨M', a1, a2, a3, a4⟩ := fin M1 (R.fx r5 fun b j z => by unfold P3t at z; omega) (fun x hx => by
      obtain ⟨b1, b2, b3⟩ := r4 x (mgf x hx)
      refine ⟨?_, b1, b2⟩
      rw [r2, kI_out (mgf x hx)]
      unfold zer
      rw [mgf x hx, if_neg (by decide)]) (fun x hx => by
      by_cases c : gr x = gr i
      · rw [if_pos c]; exact (r3 x ((mg x).2 c)).2.2
      · rw [if_neg c]; exact (r4 x (mgf x c)).2.2) (fun x hx hg => by
      have kx : knB G t ce x = true := by
        have m := P.mm hq h k x
        rw [decide_eq_true hg] at m
        unfold mmT at m
        rw [Bool.and_eq_true] at m; exact m.1
      refine ⟨fun z => by rw [kx] at z; exact absurd z (by decide), fun _ => ?_⟩
      rw [hg]
      have ez : zer (mG gr (gr i - 1)) (M1.1 166) = zer (mG gr (gr i - 1)) (M.1 166) := funext fun y => by
        unfold zer
        by_cases c : mG gr (gr i - 1) y = true
        · rw [if_pos c, if_pos c]
        · rw [if_neg c, if_neg c]
          have c' : mG gr (gr i - 1) y = false := by cases z : mG gr (gr i - 1) y <;> simp_all
          rw [r2, kI_out c']
          unfold zer
          rw [if_neg c]
      obtain ⟨b1, b2, b3⟩ := r3 x ((mg x).2 hg)
      rw [ez]
      exact ⟨by rw [r2], b1, b2⟩) (r5.mono fun b j z => z)
    refine ⟨M', M1, ?_, a1, a2, a3, a4⟩
    rw [r1]; rfl
end tok
