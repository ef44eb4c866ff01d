-- what holds between calls
/-- cells that calls which change nothing may use -/
def PQ (b j : Nat) : Prop := b = 1 ∧ j = 0 ∨ (b = 69 ∨ b = 87) ∧ j = 18 ∨ b = 85 ∨ b = 86 ∨ b = 103 ∨ b = 104 ∨ b = 116 ∨ b = 132 ∨ b = 137 ∧ (j = 6 ∨ 19 ≤ j ∧ j ≤ 49) ∨ 144 ≤ b ∧ b ≤ 156 ∨ b = 181
/-- tape, fault, counts -/
def CoI (B : Nat → Nat) (n : Nat) (M : Mm) : Prop := n ≤ 1000 ∧ M.1 2 6 = nI n ∧ M.1 137 5 = nI n ∧ (∀ i, i < n → M.1 3 i &&& nI 255 = nI (B i) ∧ B i < 256 ∧ M.1 138 i = nI (B i)) ∧ M.1 1 1 = M.1 137 7 ∧ M.1 1 2 = M.1 137 8 ∧ M.1 30 6 = M.1 137 54 ∧ M.1 30 7 = M.1 137 55
/-- the pairs -/
def RfI (g g' w w' q q' : Nat) (M : Mm) : Prop := (M.2.2 1 11 = g ∧ M.2.2 1 12 = g' ∧ (g = 35 ∧ g' = 52 ∨ g = 52 ∧ g' = 35)) ∧ (M.2.2 1 13 = w ∧ M.2.2 1 14 = w' ∧ (w = 69 ∧ w' = 87 ∨ w = 87 ∧ w' = 69)) ∧ M.2.2 1 15 = q ∧ M.2.2 1 16 = q' ∧ (q = 105 ∧ q' = 121 ∨ q = 121 ∧ q' = 105)
def GrI (g : Nat) (G : Gr) (A : Nat → Nat) (M : Mm) : Prop := QG G ∧ 1 ≤ G.i 0 0 ∧ CG g G M ∧ QT G M ∧ M.1 137 9 = nI 1 ∧ Ind G A ∧ HH G A M ∧ PLN G A M ∧ HRo 143 0 64 A M
/-- a tree, its values, the order of their coming -/
def VI (w q g : Nat) (G : Gr) (t : TR) (ce : Nat → Nat → Nat) (me : Nat → Nat) (gv val : Nat → Int32) (trn : Nat → Nat) (uns : Nat → Bool) (gN : Nat) (gr fr od : Nat → Nat) (kt : Nat → Bool) (dg : Nat → Bool) (M : Mm) : Prop :=
  TOK2 G t ce me ∧ CT w G t M ∧ CLk w G t ce me M ∧ (∀ a, a < 4 → M.1 (w + 12) a = gv a) ∧ CV q w g G t ce me gv val trn uns gN gr fr od kt M ∧ M.2.2 (q + 1) 6 = w ∧ RSI G t ce gv gr dg M ∧ (∀ i, thT G t i → dg (gr i) = true)
def TrI (w q g : Nat) (G : Gr) (M : Mm) : Prop := (M.1 w 0 = nI 0 ∧ M.1 137 50 = nI 0) ∨ (M.1 1 3 = M.1 137 53 ∧ ∃ t ce me gv val trn uns gN gr fr od kt dg, VI w q g G t ce me gv val trn uns gN gr fr od kt dg M)
def NoI (w g : Nat) (M : Mm) : Prop := M.1 g 0 = nI 0 ∧ M.1 g 1 = nI 0 ∧ M.1 137 9 = nI 0 ∧ M.1 w 0 = nI 0 ∧ M.1 137 50 = nI 0
def StI (w q g : Nat) (M : Mm) : Prop := NoI w g M ∨ ∃ G A, GrI g G A M ∧ CKs G M ∧ TrI w q g G M
/-- all but the state -/
def IN0 (g g' w w' q q' : Nat) (M : Mm) : Prop := (∃ B n, CoI B n M) ∧ RfI g g' w w' q q' M ∧ StI w q g M
def INV (M : Mm) : Prop := M.1 1 0 = M.1 137 6 ∧ ∃ g g' w w' q q', IN0 g g' w w' q q' M
theorem CoI.fx {P : Nat → Nat → Prop} {B : Nat → Nat} {n : Nat} {M M' : Mm} (h : CoI B n M) (f : FX P M M') (hP : ∀ b j, P b j → ¬ b = 3 ∧ ¬ b = 138 ∧ ¬ b = 2 ∧ ¬ (b = 1 ∧ (j = 1 ∨ j = 2)) ∧ ¬ b = 30 ∧ ¬ (b = 137 ∧ (j = 5 ∨ j = 7 ∨ j = 8 ∨ j = 54 ∨ j = 55))) : CoI B n M' := by
  obtain ⟨h1, h2, h3, h4, h5, h6, h7, h8⟩ := h
  have e : ∀ b j, (b = 3 ∨ b = 138 ∨ b = 2 ∨ b = 1 ∧ (j = 1 ∨ j = 2) ∨ b = 30 ∨ b = 137 ∧ (j = 5 ∨ j = 7 ∨ j = 8 ∨ j = 54 ∨ j = 55)) → M'.1 b j = M.1 b j := fun b j hb => (f.2 b j (fun z => by have := hP b j z; omega)).1
  refine ⟨h1, by rw [e _ _ (by omega)]; exact h2, by rw [e _ _ (by omega)]; exact h3, fun i hi => by rw [e 3 _ (by omega), e 138 _ (by omega)]; exact h4 i hi, ?_, ?_, ?_, ?_⟩
  · rw [e 1 _ (by omega), e 137 _ (by omega)]; exact h5
  · rw [e 1 _ (by omega), e 137 _ (by omega)]; exact h6
  · rw [e 30 _ (by omega), e 137 _ (by omega)]; exact h7
  · rw [e 30 _ (by omega), e 137 _ (by omega)]; exact h8
theorem HH.fx {P : Nat → Nat → Prop} {G : Gr} {A : Nat → Nat} {M M' : Mm} (h : HH G A M) (f : FX P M M') (hP : ∀ b j, P b j → ¬ b = 10 ∧ ¬ b = 11 ∧ ¬ b = 14 ∧ ¬ b = 9) : HH G A M' := by
  obtain ⟨h1, h2, h3⟩ := h
  refine ⟨h1.fx f fun j _ _ z => (hP _ _ z).1 rfl, fun q hq => (h2 q hq).fx f fun j _ _ z => (hP _ _ z).2.1 rfl, ?_⟩
  have e : ∀ b j, (b = 14 ∨ b = 9) → M'.1 b j = M.1 b j := fun b j hb => (f.2 b j (fun z => by have := hP b j z; omega)).1
  unfold HC at h3 ⊢
  split
  · rename_i c
    rw [if_pos c] at h3
    rw [e 9 _ (by omega), e 9 _ (by omega)]
    exact h3
  · rename_i c
    rw [if_neg c] at h3
    rw [e 9 _ (by omega)]; exact h3
theorem PLN.fx {P : Nat → Nat → Prop} {G : Gr} {A : Nat → Nat} {M M' : Mm} (h : PLN G A M) (f : FX P M M') (hP : ∀ b j, P b j → b < 15 ∨ 23 < b) : PLN G A M' := by
  obtain ⟨h1, h2, h3, h4⟩ := h
  have e : ∀ b j, 15 ≤ b → b ≤ 23 → M'.1 b j = M.1 b j := fun b j hb hb' => (f.2 b j (fun z => by have := hP b j z; omega)).1
  refine ⟨fun s hs => ⟨by rw [e 16 _ (by omega) (by omega)]; exact (h1 s hs).1, fun z b hb => by rw [e 17 _ (by omega) (by omega)]; exact (h1 s hs).2 z b hb⟩, fun q hq => (h2 q hq).fx f fun j _ _ z => by have := hP _ _ z; omega, by rw [e 15 _ (by omega) (by omega)]; exact h3, fun z q hq => ?_⟩
  obtain ⟨l1, l2, l3, l4⟩ := h4 z q hq
  refine ⟨by rw [e 21 _ (by omega) (by omega)]; exact l1, ?_, by rw [e 22 _ (by omega) (by omega)]; exact l3, by rw [e 23 _ (by omega) (by omega)]; exact l4⟩
  intro i hi
  rw [e 19 _ (by omega) (by omega)]; exact l2 i hi
theorem GrI.fx {P : Nat → Nat → Prop} {g : Nat} {G : Gr} {A : Nat → Nat} {M M' : Mm} (hg : g = 35 ∨ g = 52) (h : GrI g G A M) (f : FX P M M') (hP : ∀ b j, P b j → (b < 9 ∨ 23 < b) ∧ (b < 35 ∨ 68 < b) ∧ ¬ b = 139 ∧ ¬ b = 141 ∧ ¬ b = 143 ∧ ¬ (b = 137 ∧ j = 9)) : GrI g G A M' := by
  obtain ⟨h1, h2, h3, h4, h5, h6, h7, h8, h9⟩ := h
  exact ⟨h1, h2, h3.fx f fun k hk j z => by have := hP _ _ z; omega, h4.fx f (fun j z => by have := hP _ _ z; omega) (fun j z => by have := hP _ _ z; omega), by rw [(f.2 137 9 (fun z => by have := hP _ _ z; omega)).1]; exact h5, h6, h7.fx f fun b j z => by have := hP _ _ z; omega, h8.fx f fun b j z => by have := hP _ _ z; omega, h9.fx f fun j _ _ z => by have := hP _ _ z; omega⟩
theorem CKs.fx {P : Nat → Nat → Prop} {G : Gr} {M M' : Mm} (h : CKs G M) (f : FX P M M') (hP : ∀ b j, P b j → b < 24 ∨ 29 < b) : CKs G M' := by
  have e : ∀ b j, 24 ≤ b → b ≤ 29 → M'.1 b j = M.1 b j := fun b j hb hb' => (f.2 b j (fun z => by have := hP b j z; omega)).1
  rcases h with h | h
  · exact Or.inl (by rw [e 24 _ (by omega) (by omega)]; exact h)
  · obtain ⟨k1, ⟨S, ⟨k2, k3, k4⟩, ks, kr⟩, k5, k6⟩ := h
    have e' : ∀ j, M'.1 24 j = M.1 24 j := fun j => e 24 j (by omega) (by omega)
    refine Or.inr ⟨by rw [e']; exact k1, ⟨S, ⟨fun s hs => ⟨by rw [e 29 _ (by omega) (by omega)]; exact (k2 s hs).1, fun i hi => by rw [e 25 _ (by omega) (by omega)]; exact (k2 s hs).2 i hi⟩, by rw [e']; exact k3, by rw [e']; exact k4⟩, ks, kr⟩, fun z => by rw [e']; exact k5 z, ?_⟩
    rw [e', e']; exact k6
theorem KG.fx {P : Nat → Nat → Prop} {c gN : Nat} {gr fr od : Nat → Nat} {kt : Nat → Bool} {M M' : Mm} (h : KG c gN gr fr od kt M) (f : FX P M M') (hP : ∀ b j, P b j → (b < c ∨ c + 4 < b)) : KG c gN gr fr od kt M' := by
  have e : ∀ b j, c ≤ b → b ≤ c + 4 → M'.1 b j = M.1 b j := fun b j hb hb' => (f.2 b j (fun z => by have := hP b j z; omega)).1
  obtain ⟨h1, h2, k1, k2, k3, k4⟩ := h
  exact ⟨by rw [e c _ (by omega) (by omega)]; exact h1, fun v hv => by rw [e (c + 3) _ (by omega) (by omega)]; exact h2 v hv, by rw [e c _ (by omega) (by omega)]; exact k1, fun g hg => by rw [e (c + 2) _ (by omega) (by omega)]; exact k2 g hg, fun m hm => by rw [e (c + 1) _ (by omega) (by omega)]; exact k3 m hm, fun g hg => by rw [e (c + 4) _ (by omega) (by omega)]; exact k4 g hg⟩
theorem CV.fx {P : Nat → Nat → Prop} {q w g : Nat} {G : Gr} {t : TR} {ce : Nat → Nat → Nat} {me : Nat → Nat} {gv val : Nat → Int32} {trn : Nat → Nat} {uns : Nat → Bool} {gN : Nat} {gr fr od : Nat → Nat} {kt : Nat → Bool} {M M' : Mm} (h : CV q w g G t ce me gv val trn uns gN gr fr od kt M) (f : FX P M M') (hP : ∀ b j, P b j → (b < q + 1 ∨ q + 5 < b) ∧ ¬ b = q + 12 ∧ ¬ b = q + 13 ∧ ¬ b = q + 14) : CV q w g G t ce me gv val trn uns gN gr fr od kt M' := by
  obtain ⟨h1, h2, h3, h4, h5⟩ := h
  have e : ∀ b j, (b = q + 12 ∨ b = q + 13 ∨ b = q + 14) → M'.1 b j = M.1 b j := fun b j hb => (f.2 b j (fun z => by have := hP b j z; omega)).1
  exact ⟨h1, h2.fx f fun b j z => by have := hP _ _ z; omega, (funext fun j => e _ j (by omega)).trans h3, h4, fun i hi k => by rw [e (q + 13) _ (by omega), e (q + 14) _ (by omega)]; exact h5 i hi k⟩
theorem RSI.fx {P : Nat → Nat → Prop} {G : Gr} {t : TR} {ce : Nat → Nat → Nat} {gv : Nat → Int32} {gr : Nat → Nat} {dg : Nat → Bool} {M M' : Mm} (h : RSI G t ce gv gr dg M) (f : FX P M M') (hP : ∀ b j, P b j → b < 137 ∨ 144 ≤ b ∧ b ≤ 156 ∨ 160 ≤ b ∧ b ≤ 162 ∨ b = 170 ∨ b = 171 ∨ 177 ≤ b ∨ b = 137 ∧ ¬ j = 50 ∧ ¬ j = 72) : RSI G t ce gv gr dg M' := by
  obtain ⟨⟨r1, r2, r3, r4, r5, r6⟩, h2, h3, ⟨od, o1, o2, o3⟩, h5⟩ := h
  have e : ∀ b j, 163 ≤ b → b ≤ 176 → ¬ b = 170 → ¬ b = 171 → M'.1 b j = M.1 b j := fun b j hb hb' h1 h2 => (f.2 b j (fun z => by have := hP b j z; omega)).1
  have q : QT G M' := r1.1.fx f (fun j z => by have := hP _ _ z; omega) (fun j z => by have := hP _ _ z; omega)
  have n : RN t M' := r1.2.fx f (fun z => by have := hP _ _ z; omega) (fun b j hb hb' z => by have := hP _ _ z; omega)
  refine ⟨⟨⟨q, n⟩, r2.fx f fun j => ⟨fun z => by have := hP _ _ z; omega, fun z => by have := hP _ _ z; omega, fun z => by have := hP _ _ z; omega⟩, r3.fx f fun j z => by have := hP _ _ z; omega, r4.fx f fun j z => by have := hP _ _ z; omega, fun j hj => by rw [e 167 _ (by omega) (by omega) (by omega) (by omega)]; exact r5 j hj, fun a ha => by rw [e 163 _ (by omega) (by omega) (by omega) (by omega)]; exact r6 a ha⟩, fun x hx => by rw [e 176 _ (by omega) (by omega) (by omega) (by omega)]; exact h2 x hx, h3, ⟨od, o1, by rw [(f.2 137 72 (fun z => by have := hP _ _ z; omega)).1]; exact o2, fun k hk => by rw [e 169 _ (by omega) (by omega) (by omega) (by omega)]; exact o3 k hk⟩, fun i hi hd => ?_⟩
  have v := h5 i hi hd
  have e6 : M'.1 166 = M.1 166 := funext fun j => e 166 j (by omega) (by omega) (by omega) (by omega)
  unfold VLd at v ⊢
  rw [e6, e 168 _ (by omega) (by omega) (by omega) (by omega), e 175 _ (by omega) (by omega) (by omega) (by omega)]; exact v
