-- both sides answer: ordered, circle, plan
def OUT (x : Int32) (b : Nat) : Prop := x < nI 0 ∨ ¬ x < nI 0 ∧ nI b < x ∧ ¬ x ≤ nI b
theorem arg2 (x : Int32) (b : Nat) (hb : b < 2 ^ 31) : OUT x b ∨ ∃ a, a ≤ b ∧ x = nI a ∧ ¬ x < nI 0 ∧ x ≤ nI b := by
  rcases arg_cases x b hb with h | h | h
  · exact Or.inl (Or.inl h)
  · exact Or.inl (Or.inr h)
  · exact Or.inr h
theorem if_out {α : Type} {x : Int32} {b : Nat} {X Y : α} (h : OUT x b) : (if x < nI 0 then Y else if x ≤ nI b then X else Y) = Y := by
  rcases h with h | ⟨h1, _, h3⟩
  · rw [if_pos h]
  · rw [if_neg h1, if_neg h3]
theorem if_in {α : Type} {x : Int32} {b : Nat} {X Y : α} (h1 : ¬ x < nI 0) (h2 : x ≤ nI b) : (if x < nI 0 then Y else if x ≤ nI b then X else Y) = X := by rw [if_neg h1, if_pos h2]
theorem out_from {x : Int32} {b : Nat} (N : Nat) (M : Mm) (h : OUT x b) : D_X12_isFrom N x (nI 0) (nI b) M = some (nI 0) := from_no N M (h.imp id fun z => ⟨z.1, z.2.1⟩)
theorem m1_cases (x : Int32) : ¬ m1 ≤ x ∨ (m1 ≤ x ∧ x = m1) ∨ ∃ a : Nat, a < 2 ^ 31 ∧ x = nI a ∧ m1 ≤ x := by
  rcases n_cases x with h | ⟨a, ha, e⟩
  · by_cases c : m1 ≤ x
    · refine Or.inr (Or.inl ⟨c, ?_⟩)
      apply Int32.toInt_inj.mp
      have h' := Int32.lt_iff_toInt_lt.mp h
      have c' := Int32.le_iff_toInt_le.mp c
      rw [m1_toInt] at c' ⊢
      have z : (nI 0).toInt = 0 := by decide
      omega
    · exact Or.inl c
  · exact Or.inr (Or.inr ⟨a, ha, e, by rw [e, m1_le_n ha]; trivial⟩)
section q
variable {M : Mm} (N : Nat)
theorem q_ordered (hN : 20000 < N) (I : INV M) (a : Int32) : QOK M (D_X11_ordered N 1 a M) (D_X12_ordered N 137 a) := by
  obtain ⟨_, g, g', w, w', q, q', I0⟩ := I
  have R := I0.2.1
  obtain ⟨hg, hw, hq, _⟩ := R.gg
  have rg := R.g
  rcases arg2 a 1 (by decide) with h | ⟨k, hk, rfl, h1, h2⟩
  · refine QOK.ref (v := nI 1) N I0 FX.refl ?_ FX.refl ?_
    · unfold D_X11_ordered
      rw [bind_pair, if_out h]
    · unfold D_X12_ordered
      rw [out_from N _ h, Option.bind_some, if_pos rfl, bind_pair]
  · have x1 : D_X11_ordered N 1 (nI k) M = if M.1 g 0 = nI 0 then D_X11_refuse N 1 (nI 2) M else (if M.1 15 3 = m1 then (if k = 0 then D_X11_answer N 1 (nI 1) M else D_X11_refuse N 1 (nI 7) M) else (if k = 0 then D_X11_answer N 1 (nI 0) M else D_X11_answer N 1 (M.1 15 3) M)) := by
      unfold D_X11_ordered
      simp only [bind_pair]
      rw [if_in h1 h2, rg, Option.bind_some, show (1 : Nat) + 14 = 15 from rfl]
      simp only [n_eq (show k < 2 ^ 31 by omega) (show 0 < 2 ^ 31 by decide)]
      by_cases c0 : M.1 g 0 = nI 0
      · rw [if_pos c0, if_pos c0]
      · rw [if_neg c0, if_neg c0]
        by_cases c : M.1 15 3 = m1
        · rw [if_pos c, if_pos c, Option.bind_some, if_neg z10, if_neg z10]
        · rw [if_neg c, if_neg c, Option.bind_some, if_pos rfl, if_pos rfl]
    have y1 : ∀ M, D_X12_ordered N 137 (nI k) M = if M.1 137 9 = nI 0 then D_X12_refuse N 137 (nI 2) M else (D_X12_block N 137 M).bind fun q4 => if q4.1 = m1 then (if k = 0 then D_X12_gives N 137 (nI 1) q4.2 else D_X12_refuse N 137 (nI 7) q4.2) else (if k = 0 then D_X12_gives N 137 (nI 0) q4.2 else D_X12_gives N 137 q4.1 q4.2) := fun M => by
      unfold D_X12_ordered
      simp only [bind_pair]
      rw [from_yes N M hk (by decide), Option.bind_some, if_neg z10]
      simp only [n_eq (show k < 2 ^ 31 by omega) (show 0 < 2 ^ 31 by decide)]
      by_cases c : k = 0
      · simp only [if_pos c]
      · simp only [if_neg c]
    rcases I0.2.2 with n0 | ⟨G, A, Gi, _, _⟩
    · refine QOK.ref (v := nI 2) N I0 FX.refl (by rw [x1, if_pos n0.1]) FX.refl (by rw [y1, if_pos (n0.q hg hw f10).2.2.1])
    · have np12 := Gi.1.1.2.1
      have p3 := Gi.pl.2.2.1
      rw [if_neg Gi.g0, p3] at x1
      simp only [fR_m1 (show G.i 0 1 < 2 ^ 31 by omega)] at x1
      have fin : ∀ v : Int32, ∃ M2, D_X12_block N 137 (upI M 1 0 v) = some (fR (blk G A) (G.i 0 1), M2) ∧ FX (fun b j => PQ b j ∧ ¬ b = 1) (upI M 1 0 v) M2 := fun v => by
        obtain ⟨M2, b1, b2⟩ := r_block N (by omega) Gi.hi (Gi.q hg (f10 (v := v))).ri
        exact ⟨M2, b1, b2.mono fun b j z => by unfold PVb PVa at z; unfold PQ; omega⟩
      have fl : ∀ v : Int32, ¬ (upI M 1 0 v).1 137 9 = nI 0 := fun v => by rw [(Gi.q hg (f10 (v := v))).fl]; exact z10
      by_cases c : blk G A < G.i 0 1
      · rw [if_neg (not_not_intro c)] at x1
        by_cases k0 : k = 0
        · rw [if_pos k0] at x1
          obtain ⟨M2, b1, b2⟩ := fin (nI 0)
          refine QOK.ans (v := nI 0) N I0 FX.refl x1 b2 ?_
          rw [y1, if_neg (fl _), b1, Option.bind_some]
          simp only [fR_m1 (show G.i 0 1 < 2 ^ 31 by omega)]
          rw [if_neg (not_not_intro c), if_pos k0]
        · rw [if_neg k0] at x1
          obtain ⟨M2, b1, b2⟩ := fin (nI 0)
          refine QOK.ans (v := fR (blk G A) (G.i 0 1)) N I0 FX.refl x1 b2 ?_
          rw [y1, if_neg (fl _), b1, Option.bind_some]
          simp only [fR_m1 (show G.i 0 1 < 2 ^ 31 by omega)]
          rw [if_neg (not_not_intro c), if_neg k0]
      · rw [if_pos c] at x1
        by_cases k0 : k = 0
        · rw [if_pos k0] at x1
          obtain ⟨M2, b1, b2⟩ := fin (nI 0)
          refine QOK.ans (v := nI 1) N I0 FX.refl x1 b2 ?_
          rw [y1, if_neg (fl _), b1, Option.bind_some]
          simp only [fR_m1 (show G.i 0 1 < 2 ^ 31 by omega)]
          rw [if_pos c, if_pos k0]
        · rw [if_neg k0] at x1
          obtain ⟨M2, b1, b2⟩ := fin (nI 7)
          refine QOK.ref (v := nI 7) N I0 FX.refl x1 b2 ?_
          rw [y1, if_neg (fl _), b1, Option.bind_some]
          simp only [fR_m1 (show G.i 0 1 < 2 ^ 31 by omega)]
          rw [if_pos c, if_neg k0]
/-- what hangs on itself, closed, is induced on itself: the circle has one occ -/
theorem cir_one {G : Gr} {A : Nat → Nat} {p : Nat} (hq : QG G) (h : Ind G A) (hp : p < G.i 0 1) (ho : cirO G A p < 32) : cirL G A p = 1 := by
  have hsd := hq.sd hp
  have hh : (iC G A p (cirO G A p)).testBit (cirO G A p) = true := fb_hit (f := fun o => (iC G A p o).testBit o) (n := 32) ho
  have h1 := ((cirO_w hq (h.ok hq) hp).1 ho).1
  unfold cirL cirD
  generalize cirO G A p = o at *
  rw [dF_1]
  refine ⟨h1, ?_⟩
  have e := ind_pos hq h hp (k := o / 8) (a := o % 8) (b := o % 8) (by omega) (by omega) (by omega)
  rw [show 8 * (o / 8) + o % 8 = o by omega, hh] at e
  unfold layR rwI
  rw [if_pos h1, Nat.testBit_or, Nat.testBit_mul_two_pow, decide_eq_true (show 8 * (o / 8) ≤ o by omega), show o - 8 * (o / 8) = o % 8 by omega, e]
  simp
theorem q_circle (hN : 20000 < N) (I : INV M) (a : Int32) : QOK M (D_X11_circle N 1 a M) (D_X12_circle N 137 a) := by
  obtain ⟨_, g, g', w, w', q, q', I0⟩ := I
  have R := I0.2.1
  obtain ⟨hg, hw, hq, _⟩ := R.gg
  have rg := R.g
  have x1 : D_X11_circle N 1 a M = (if m1 ≤ a then (if M.1 g 0 = nI 0 then D_X11_refuse N 1 (nI 2) M else if M.1 9 3 = m1 then D_X11_refuse N 1 (nI 7) M else if a ≤ nI 0 then (if a = m1 then D_X11_answer N 1 (M.1 9 2) M else D_X11_answer N 1 (M.1 9 3) M) else D_X11_refuse N 1 (nI 7) M) else D_X11_refuse N 1 (nI 1) M) := by
    unfold D_X11_circle
    simp only [bind_pair]
    rw [rg]; rfl
  have y1 : ∀ M, D_X12_circle N 137 a M = (if m1 ≤ a then (if M.1 137 9 = nI 0 then D_X12_refuse N 137 (nI 2) M else (D_X12_findsCircle N 137 M).bind fun q2 => if q2.1 = m1 then D_X12_refuse N 137 (nI 7) q2.2 else if a = m1 then D_X12_gives N 137 q2.1 q2.2 else if q2.2.1 137 27 ≤ a then D_X12_refuse N 137 (nI 7) q2.2 else (ldI 32 147 a q2.2).bind fun v1 => D_X12_gives N 137 v1 q2.2) else D_X12_refuse N 137 (nI 1) M) := fun M => by
    unfold D_X12_circle
    simp only [bind_pair]
  by_cases c1 : m1 ≤ a
  · rw [if_pos c1] at x1
    have y2 : ∀ M, D_X12_circle N 137 a M = _ := fun M => (y1 M).trans (if_pos c1)
    rcases I0.2.2 with n0 | ⟨G, A, Gi, _, _⟩
    · exact QOK.ref (v := nI 2) N I0 FX.refl (by rw [x1, if_pos n0.1]) FX.refl (by rw [y2, if_pos (n0.q hg hw f10).2.2.1])
    · have np12 := Gi.1.1.2.1
      have A8 := Gi.hi.ok Gi.1
      have fl : ∀ v : Int32, ¬ (upI M 1 0 v).1 137 9 = nI 0 := fun v => by rw [(Gi.q hg (f10 (v := v))).fl]; exact z10
      have fin : ∀ v : Int32, ∃ M2, D_X12_findsCircle N 137 (upI M 1 0 v) = some (fR (cirP G A) (G.i 0 1), M2) ∧ (cirP G A < G.i 0 1 → M2.1 137 27 = nI (cirL G A (cirP G A)) ∧ ∀ j, j < cirL G A (cirP G A) → M2.1 147 j = nI (cirR G A (cirP G A) j)) ∧ FX (fun b j => PQ b j ∧ ¬ b = 1) (upI M 1 0 v) M2 := fun v => by
        obtain ⟨M2, b1, b2, b3⟩ := r_findsCircle N (by omega) (Gi.q hg (f10 (v := v))).ri A8
        exact ⟨M2, b1, b2, b3.mono fun b j z => by unfold PCi PRg at z; unfold PQ; omega⟩
      rw [if_neg Gi.g0] at x1
      have hc := Gi.hh.2.2
      unfold HC at hc
      by_cases c : cirP G A < G.i 0 1
      · rw [if_pos c] at hc
        obtain ⟨h5, h6⟩ := hc
        have c32 : cirO G A (cirP G A) < 32 := of_decide_eq_true (fb_hit (f := fun p => decide (cirO G A p < 32)) c)
        have l1 := cir_one Gi.1 Gi.hi c c32
        rw [h6, h5, if_neg (n_ne_m1 (by omega))] at x1
        rcases m1_cases a with z | ⟨_, rfl⟩ | ⟨k, hk, rfl, _⟩
        · exact absurd c1 z
        · rw [if_pos (by decide), if_pos rfl] at x1
          obtain ⟨M2, b1, b2, b3⟩ := fin (nI 0)
          refine QOK.ans (v := nI (cirP G A)) N I0 FX.refl x1 b3 ?_
          rw [y2, if_neg (fl _), b1, Option.bind_some]
          simp only [fR_m1 (show G.i 0 1 < 2 ^ 31 by omega)]
          rw [if_neg (not_not_intro c), if_pos trivial, fR_n c]
        · have nm : ¬ nI k = m1 := n_ne_m1 hk
          simp only [n_le hk (show 0 < 2 ^ 31 by decide)] at x1
          by_cases e : k ≤ 0
          · rw [if_pos e, if_neg nm] at x1
            obtain ⟨M2, b1, b2, b3⟩ := fin (nI 0)
            refine QOK.ans (v := nI (cirO G A (cirP G A))) N I0 FX.refl x1 b3 ?_
            have r0 := (b2 c).2 k (by omega)
            have e0 : k = 0 := by omega
            subst e0
            rw [show cirR G A (cirP G A) 0 = cirO G A (cirP G A) from rfl] at r0
            rw [y2, if_neg (fl _), b1, Option.bind_some]
            simp only [fR_m1 (show G.i 0 1 < 2 ^ 31 by omega)]
            rw [if_neg (not_not_intro c), if_neg nm, (b2 c).1, l1, if_neg (by rw [n_le (by omega) hk]; omega), ldI_n (by omega) (by omega), r0, Option.bind_some]
          · rw [if_neg e] at x1
            obtain ⟨M2, b1, b2, b3⟩ := fin (nI 7)
            refine QOK.ref (v := nI 7) N I0 FX.refl x1 b3 ?_
            rw [y2, if_neg (fl _), b1, Option.bind_some]
            simp only [fR_m1 (show G.i 0 1 < 2 ^ 31 by omega)]
            rw [if_neg (not_not_intro c), if_neg nm, (b2 c).1, l1, if_pos (by rw [n_le (by omega) hk]; omega)]
      · rw [if_neg c] at hc
        obtain ⟨M2, b1, b2, b3⟩ := fin (nI 7)
        refine QOK.ref (v := nI 7) N I0 FX.refl ?_ b3 ?_
        · rw [x1, hc, if_pos rfl]
        · rw [y2, if_neg (fl _), b1, Option.bind_some]
          simp only [fR_m1 (show G.i 0 1 < 2 ^ 31 by omega)]
          rw [if_pos c]
  · exact QOK.ref (v := nI 1) N I0 FX.refl (by rw [x1, if_neg c1]) FX.refl (by rw [y1, if_neg c1])
end q
