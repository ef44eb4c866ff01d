-- what holds between calls stays where only other cells change
theorem VI.fx {P : Nat → Nat → Prop} {w q g : Nat} {G : Gr} {t : TR} {ce : Nat → Nat → Nat} {me : Nat → Nat} {gv val : Nat → Int32} {trn : Nat → Nat} {uns : Nat → Bool} {gN : Nat} {gr fr od : Nat → Nat} {kt : Nat → Bool} {dg : Nat → Bool} {M M' : Mm} (h : VI w q g G t ce me gv val trn uns gN gr fr od kt dg M) (f : FX P M M') (hP : ∀ b j, P b j → (b < w ∨ w + 15 < b ∨ b = w ∧ ¬ j = 0) ∧ ((b < q + 1 ∨ q + 5 < b) ∧ ¬ b = q + 12 ∧ ¬ b = q + 13 ∧ ¬ b = q + 14) ∧ (b < 137 ∨ 144 ≤ b ∧ b ≤ 156 ∨ 160 ≤ b ∧ b ≤ 162 ∨ b = 170 ∨ b = 171 ∨ 177 ≤ b ∨ b = 137 ∧ ¬ j = 50 ∧ ¬ j = 72)) : VI w q g G t ce me gv val trn uns gN gr fr od kt dg M' := by
  obtain ⟨h1, h2, h3, h4, h5, h6, h7, h8⟩ := h
  refine ⟨h1, ?_, h3.fx f fun b j hb z => by have := hP _ _ z; omega, fun a ha => by rw [(f.2 (w + 12) a (fun z => by have := hP _ _ z; omega)).1]; exact h4 a ha, h5.fx f fun b j z => (hP b j z).2.1, by rw [f.1]; exact h6, h7.fx f fun b j z => (hP b j z).2.2, h8⟩
  exact ⟨by rw [(f.2 w 0 (fun z => by have := hP _ _ z; omega)).1]; exact h2.1, fun e he => (h2.2 e he).fx f fun k _ _ _ z => by have := hP _ _ z; omega⟩
theorem RfI.fx {P : Nat → Nat → Prop} {g g' w w' q q' : Nat} {M M' : Mm} (h : RfI g g' w w' q q' M) (f : FX P M M') : RfI g g' w w' q q' M' := by
  unfold RfI; rw [f.1]; exact h
theorem RfI.gg {g g' w w' q q' : Nat} {M : Mm} (h : RfI g g' w w' q q' M) : (g = 35 ∨ g = 52) ∧ (w = 69 ∨ w = 87) ∧ (q = 105 ∨ q = 121) ∧ (g' = 35 ∨ g' = 52) ∧ (w' = 69 ∨ w' = 87) ∧ (q' = 105 ∨ q' = 121) := by
  obtain ⟨⟨_, _, a⟩, ⟨_, _, b⟩, _, _, c⟩ := h
  omega
theorem TrI.fx {P : Nat → Nat → Prop} {w q g : Nat} {G : Gr} {M M' : Mm} (h : TrI w q g G M) (f : FX P M M') (hP : ∀ b j, P b j → (b < w ∨ w + 15 < b ∨ b = w ∧ ¬ j = 0) ∧ ((b < q + 1 ∨ q + 5 < b) ∧ ¬ b = q + 12 ∧ ¬ b = q + 13 ∧ ¬ b = q + 14) ∧ (b < 137 ∨ 144 ≤ b ∧ b ≤ 156 ∨ 160 ≤ b ∧ b ≤ 162 ∨ b = 170 ∨ b = 171 ∨ 177 ≤ b ∨ b = 137 ∧ ¬ j = 50 ∧ ¬ j = 72)) (hQ : ¬ P 1 3 ∧ ¬ P 137 53) : TrI w q g G M' := by
  rcases h with h | ⟨h1, t, ce, me, gv, val, trn, uns, gN, gr, fr, od, kt, dg, h2⟩
  · exact Or.inl ⟨by rw [(f.2 w 0 (fun z => by have := hP _ _ z; omega)).1]; exact h.1, by rw [(f.2 137 50 (fun z => by have := hP _ _ z; omega)).1]; exact h.2⟩
  · exact Or.inr ⟨by rw [(f.2 1 3 hQ.1).1, (f.2 137 53 hQ.2).1]; exact h1, t, ce, me, gv, val, trn, uns, gN, gr, fr, od, kt, dg, h2.fx f hP⟩
theorem NoI.fx {P : Nat → Nat → Prop} {w g : Nat} {M M' : Mm} (h : NoI w g M) (f : FX P M M') (hP : ∀ b j, P b j → ¬ b = g ∧ (¬ b = w ∨ ¬ j = 0) ∧ ¬ (b = 137 ∧ (j = 9 ∨ j = 50))) : NoI w g M' := by
  obtain ⟨h1, h2, h3, h4, h5⟩ := h
  refine ⟨?_, ?_, ?_, ?_, ?_⟩
  · rw [(f.2 g 0 (fun z => by have := hP _ _ z; omega)).1]; exact h1
  · rw [(f.2 g 1 (fun z => by have := hP _ _ z; omega)).1]; exact h2
  · rw [(f.2 137 9 (fun z => by have := hP _ _ z; omega)).1]; exact h3
  · rw [(f.2 w 0 (fun z => by have := hP _ _ z; omega)).1]; exact h4
  · rw [(f.2 137 50 (fun z => by have := hP _ _ z; omega)).1]; exact h5
theorem GrI.q {g : Nat} {G : Gr} {A : Nat → Nat} {M M' : Mm} (hg : g = 35 ∨ g = 52) (h : GrI g G A M) (f : FX PQ M M') : GrI g G A M' := h.fx hg f fun b j z => by unfold PQ at z; omega
theorem CKs.q {G : Gr} {M M' : Mm} (h : CKs G M) (f : FX PQ M M') : CKs G M' := h.fx f fun b j z => by unfold PQ at z; omega
theorem VI.q {w q g : Nat} {G : Gr} {t : TR} {ce : Nat → Nat → Nat} {me : Nat → Nat} {gv val : Nat → Int32} {trn : Nat → Nat} {uns : Nat → Bool} {gN : Nat} {gr fr od : Nat → Nat} {kt : Nat → Bool} {dg : Nat → Bool} {M M' : Mm} (hw : w = 69 ∨ w = 87) (hq : q = 105 ∨ q = 121) (h : VI w q g G t ce me gv val trn uns gN gr fr od kt dg M) (f : FX PQ M M') : VI w q g G t ce me gv val trn uns gN gr fr od kt dg M' := h.fx f fun b j z => by unfold PQ at z; omega
theorem TrI.q {w q g : Nat} {G : Gr} {M M' : Mm} (hw : w = 69 ∨ w = 87) (hq : q = 105 ∨ q = 121) (h : TrI w q g G M) (f : FX PQ M M') : TrI w q g G M' := h.fx f (fun b j z => by unfold PQ at z; omega) ⟨by unfold PQ; omega, by unfold PQ; omega⟩
theorem NoI.q {w g : Nat} {M M' : Mm} (hg : g = 35 ∨ g = 52) (hw : w = 69 ∨ w = 87) (h : NoI w g M) (f : FX PQ M M') : NoI w g M' := h.fx f fun b j z => by unfold PQ at z; omega
theorem IN0.q {g g' w w' q q' : Nat} {M M' : Mm} (h : IN0 g g' w w' q q' M) (f : FX PQ M M') : IN0 g g' w w' q q' M' := by
  obtain ⟨⟨B, n, h1⟩, h2, h3⟩ := h
  obtain ⟨hg, hw, hq, _⟩ := h2.gg
  refine ⟨⟨B, n, h1.fx f fun b j z => by unfold PQ at z; omega⟩, h2.fx f, ?_⟩
  rcases h3 with h3 | ⟨G, A, a1, a2, a3⟩
  · exact Or.inl (h3.q hg hw f)
  · exact Or.inr ⟨G, A, a1.q hg f, a2.q f, a3.q hw hq f⟩
/-- one call, both sides: the same answer, and what holds goes on -/
def QOK (M : Mm) (x : Option (Int32 × Mm)) (y : Mm → Option (Int32 × Mm)) : Prop := ∃ r M1 M2, x = some (r, M1) ∧ y M1 = some (r, M2) ∧ INV M2
theorem s_refuse (N : Nat) (v : Int32) (M : Mm) : D_X11_refuse N 1 v M = some (m1, upI M 1 0 v) := rfl
theorem s_answer (N : Nat) (v : Int32) (M : Mm) : D_X11_answer N 1 v M = some (v, upI M 1 0 (nI 0)) := rfl
theorem r_refuse (N : Nat) (v : Int32) (M : Mm) : D_X12_refuse N 137 v M = some (m1, upI M 137 6 v) := rfl
theorem r_gives (N : Nat) (v : Int32) (M : Mm) : D_X12_gives N 137 v M = some (v, upI M 137 6 (nI 0)) := rfl
/-- both refuse, or both answer -/
theorem QOK.mk' {g g' w w' q q' : Nat} {M M1 M2 : Mm} {v r : Int32} {x : Option (Int32 × Mm)} {y : Mm → Option (Int32 × Mm)} (h : IN0 g g' w w' q q' M) (f1 : FX PQ M M1) (hx : x = some (r, upI M1 1 0 v)) (f2 : FX (fun b j => PQ b j ∧ ¬ b = 1) (upI M1 1 0 v) M2) (hy : y (upI M1 1 0 v) = some (r, upI M2 137 6 v)) : QOK M x y := by
  refine ⟨r, _, _, hx, hy, ?_, g, g', w, w', q, q', h.q (((f1.trans (FX.I (by unfold PQ; omega))).trans (f2.mono fun b j z => z.1)).trans (FX.I (by unfold PQ; omega)))⟩
  rw [upI_n (by decide), upI_j, if_pos rfl, (f2.2 1 0 (fun z => z.2 rfl)).1, upI_j, if_pos rfl]
theorem QOK.ref {g g' w w' q q' : Nat} {M M1 M2 : Mm} {v : Int32} {x : Option (Int32 × Mm)} {y : Mm → Option (Int32 × Mm)} (N : Nat) (h : IN0 g g' w w' q q' M) (f1 : FX PQ M M1) (hx : x = D_X11_refuse N 1 v M1) (f2 : FX (fun b j => PQ b j ∧ ¬ b = 1) (upI M1 1 0 v) M2) (hy : y (upI M1 1 0 v) = D_X12_refuse N 137 v M2) : QOK M x y := QOK.mk' h f1 (by rw [hx]; rfl) f2 (by rw [hy]; rfl)
theorem QOK.ans {g g' w w' q q' : Nat} {M M1 M2 : Mm} {v : Int32} {x : Option (Int32 × Mm)} {y : Mm → Option (Int32 × Mm)} (N : Nat) (h : IN0 g g' w w' q q' M) (f1 : FX PQ M M1) (hx : x = D_X11_answer N 1 v M1) (f2 : FX (fun b j => PQ b j ∧ ¬ b = 1) (upI M1 1 0 (nI 0)) M2) (hy : y (upI M1 1 0 (nI 0)) = D_X12_gives N 137 v M2) : QOK M x y := QOK.mk' h f1 (by rw [hx]; rfl) f2 (by rw [hy]; rfl)
-- numbers asked
theorem arg_cases (x : Int32) (b : Nat) (hb : b < 2 ^ 31) : (x < nI 0) ∨ (¬ x < nI 0 ∧ nI b < x ∧ ¬ x ≤ nI b) ∨ ∃ a, a ≤ b ∧ x = nI a ∧ ¬ x < nI 0 ∧ x ≤ nI b := by
  rcases n_cases x with h | ⟨a, ha, rfl⟩
  · exact Or.inl h
  · have e0 : ¬ nI a < nI 0 := by rw [n_lt ha (by decide)]; omega
    by_cases c : a ≤ b
    · exact Or.inr (Or.inr ⟨a, c, rfl, e0, by rw [n_le ha hb]; exact c⟩)
    · exact Or.inr (Or.inl ⟨e0, by rw [n_lt hb ha]; omega, by rw [n_le ha hb]; exact c⟩)
theorem from_no {x : Int32} {b : Nat} (N : Nat) (M : Mm) (h : x < nI 0 ∨ ¬ x < nI 0 ∧ nI b < x) : D_X12_isFrom N x (nI 0) (nI b) M = some (nI 0) := by
  unfold D_X12_isFrom
  simp only [jn, okZ_0]
  rcases h with h | h
  · rw [if_pos h]
  · rw [if_neg h.1, if_pos h.2]
theorem from_yes {a b : Nat} (N : Nat) (M : Mm) (ha : a ≤ b) (hb : b < 2 ^ 31) : D_X12_isFrom N (nI a) (nI 0) (nI b) M = some (nI 1) := by
  rw [r_isFrom N M (by omega) (by decide) hb, decide_eq_true ⟨Nat.zero_le _, ha⟩]; rfl
theorem bind_pair {α : Type} (x : Option (α × Mm)) : (x.bind fun q => some (q.1, q.2)) = x := by
  cases x with
  | none => rfl
  | some v => rfl
