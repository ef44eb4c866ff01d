-- the reference: units done one after another
/-- the units in the order in which they are worked out -/
def ORD (G : Gr) (t : TR) (ce : Nat → Nat → Nat) (gr : Nat → Nat) (dg : Nat → Bool) (n : Nat) (od : Nat → Nat) : Prop :=
  (∀ k, k < n → thT G t (od k) ∧ dg (gr (od k)) = true ∧ ∀ x, gr x = gr (od k) → od k ≤ x) ∧
  (∀ k k', k < n → k' < n → gr (od k) = gr (od k') → k = k') ∧
  (∀ g, dg g = true → ∃ k, k < n ∧ gr (od k) = g) ∧
  ∀ k x y, k < n → gr x = gr (od k) → nrT G t ce x y → ∃ k', k' ≤ k ∧ gr y = gr (od k')
def ORM (G : Gr) (t : TR) (ce : Nat → Nat → Nat) (gr : Nat → Nat) (dg : Nat → Bool) (M : Mm) : Prop :=
  ∃ od, ORD G t ce gr dg (cnt dg 321) od ∧ M.1 137 72 = nI (cnt dg 321) ∧ ∀ k, k < cnt dg 321 → M.1 169 k = nI (od k)
/-- an instance's values are what they must be -/
def VLd (G : Gr) (t : TR) (ce : Nat → Nat → Nat) (gv : Nat → Int32) (gr : Nat → Nat) (M : Mm) (i : Nat) : Prop :=
  (knB G t ce i = false → M.1 166 i = wkT G t ce gv (M.1 166) i) ∧ (knB G t ce i = true → M.1 166 i = (kI (wkT G t ce gv) (mG gr (gr i - 1)) 64 (zer (mG gr (gr i - 1)) (M.1 166))).1 i ∧ M.1 168 i = nI (kI (wkT G t ce gv) (mG gr (gr i - 1)) 64 (zer (mG gr (gr i - 1)) (M.1 166))).2.2 ∧ M.1 175 i = bI (kI (wkT G t ce gv) (mG gr (gr i - 1)) 64 (zer (mG gr (gr i - 1)) (M.1 166))).2.1)
def dgU (dg : Nat → Bool) (g x : Nat) : Bool := dg x || decide (x = g)
theorem dgU_t {dg : Nat → Bool} {g x : Nat} : dgU dg g x = true ↔ dg x = true ∨ x = g := by unfold dgU; rw [Bool.or_eq_true, decide_eq_true_eq]
section tok
variable {G : Gr} {t : TR} {ce : Nat → Nat → Nat} {me : Nat → Nat}
variable {gN : Nat} {gr fr od : Nat → Nat} {kt : Nat → Bool}
variable {gv : Nat → Int32}
def RSI (G : Gr) (t : TR) (ce : Nat → Nat → Nat) (gv : Nat → Int32) (gr : Nat → Nat) (dg : Nat → Bool) (M : Mm) : Prop :=
  RK3 G t ce gv M ∧ (∀ x, x < 320 → M.1 176 x = bI (dg (gr x))) ∧ dg 0 = false ∧ ORM G t ce gr dg M ∧ ∀ i, thT G t i → dg (gr i) = true → VLd G t ce gv gr M i
theorem ORD.step {dg : Nat → Bool} {n i : Nat} (O : ORD G t ce gr dg n od) (hi : thT G t i) (hl : ∀ x, gr x = gr i → i ≤ x) (h0 : dg (gr i) = false) (hr : ∀ x, gr x = gr i → ∀ y, nrT G t ce x y → dg (gr y) = true ∨ gr y = gr x) : ORD G t ce gr (dgU dg (gr i)) (n + 1) (st1 od n i) := by
  obtain ⟨o1, o2, o3, o4⟩ := O
  have old : ∀ k, k < n → st1 od n i k = od k := fun k hk => by rw [st1_t, if_neg (by omega)]
  have new : st1 od n i n = i := by rw [st1_t, if_pos rfl]
  have ne : ∀ k, k < n → ¬ gr (od k) = gr i := fun k hk z => by have := (o1 k hk).2.1; rw [z, h0] at this; exact absurd this (by decide)
  refine ⟨fun k hk => ?_, fun k k' hk hk' e => ?_, fun g hg => ?_, fun k x y hk hx hy => ?_⟩
  · by_cases c : k = n
    · subst c; rw [new]; exact ⟨hi, dgU_t.2 (Or.inr rfl), hl⟩
    · rw [old k (by omega)]
      obtain ⟨a, b, d⟩ := o1 k (by omega)
      exact ⟨a, dgU_t.2 (Or.inl b), d⟩
  · by_cases c : k = n
    · by_cases c' : k' = n
      · omega
      · rw [c, new, old k' (by omega)] at e
        exact absurd e.symm (ne k' (by omega))
    · by_cases c' : k' = n
      · rw [c', new, old k (by omega)] at e
        exact absurd e (ne k (by omega))
      · rw [old k (by omega), old k' (by omega)] at e
        exact o2 k k' (by omega) (by omega) e
  · rcases dgU_t.1 hg with z | z
    · obtain ⟨k, a, b⟩ := o3 g z
      exact ⟨k, by omega, by rw [old k a]; exact b⟩
    · exact ⟨n, by omega, by rw [new]; exact z.symm⟩
  · by_cases c : k = n
    · rw [c, new] at hx
      rcases hr x hx y hy with z | z
      · obtain ⟨k', a, b⟩ := o3 _ z
        exact ⟨k', by omega, by rw [old k' a]; exact b.symm⟩
      · exact ⟨n, by omega, by rw [new, z, hx]⟩
    · rw [old k (by omega)] at hx
      obtain ⟨k', a, b⟩ := o4 k x y (by omega) hx hy
      exact ⟨k', a, by rw [old k' (by omega)]; exact b⟩
/-- what is done is closed -/
theorem RSI.clo {dg : Nat → Bool} {M : Mm} (S : RSI G t ce gv gr dg M) {x y : Nat} (hd : dg (gr x) = true) (hn : nrT G t ce x y) : dg (gr y) = true := by
  obtain ⟨od, O, _, _⟩ := S.2.2.2.1
  obtain ⟨o1, o2, o3, o4⟩ := O
  obtain ⟨k, a, b⟩ := o3 _ hd
  obtain ⟨k', c, d⟩ := o4 k x y a b.symm hn
  rw [d]; exact (o1 k' (by omega)).2.1
/-- values of what was done stay what they must be -/
theorem VLd.keep (hq : QG G) (h : TOK2 G t ce me) (P : GRP G t ce gN gr fr od kt) {dg : Nat → Bool} {M M' : Mm} (S : RSI G t ce gv gr dg M) (e : ∀ x, dg (gr x) = true → M'.1 166 x = M.1 166 x ∧ M'.1 168 x = M.1 168 x ∧ M'.1 175 x = M.1 175 x) {i : Nat} (hi : thT G t i) (hd : dg (gr i) = true) : VLd G t ce gv gr M' i := by
  have V := S.2.2.2.2 i hi hd
  obtain ⟨e1, e2, e3⟩ := e i hd
  have i0 := (P.1 i).1 hi
  refine ⟨fun k => ?_, fun k => ?_⟩
  · rw [e1, V.1 k]
    exact wk_cg hq h hi fun j hj => (e j (S.clo hd hj)).1.symm
  · obtain ⟨v1, v2, v3⟩ := V.2 k
    have cg := kI_cg (wk := wkT G t ce gv) (m := mG gr (gr i - 1)) (A := fun y => dg (gr y) = true ∧ thT G t y) (fun y hy => by
      have hy := of_decide_eq_true hy
      have ey : gr y = gr i := by omega
      exact ⟨by rw [ey]; exact hd, (P.1 y).2 (by omega)⟩) (fun u u' y hy ee => by
      have hy := of_decide_eq_true hy
      have ey : gr y = gr i := by omega
      have ty := (P.1 y).2 (by omega)
      exact wk_cg hq h ty fun j hj => ee j ⟨S.clo (by rw [ey]; exact hd) hj, nr_th hq h ty hj⟩) (v := zer (mG gr (gr i - 1)) (M'.1 166)) (v' := zer (mG gr (gr i - 1)) (M.1 166)) (fun y hy => by
      unfold zer
      by_cases c : mG gr (gr i - 1) y = true
      · rw [if_pos c, if_pos c]
      · rw [if_neg c, if_neg c]; exact (e y hy.1).1) 64
    rw [e1, e2, e3, cg.2, v1, v2, v3]
    exact ⟨(cg.1 i ⟨hd, hi⟩).symm, rfl, rfl⟩
theorem RSI.step (hq : QG G) (h : TOK2 G t ce me) (P : GRP G t ce gN gr fr od kt) {dg : Nat → Bool} {M M' : Mm} {i : Nat} (S : RSI G t ce gv gr dg M) (hi : thT G t i) (hl : ∀ x, gr x = gr i → i ≤ x) (h0 : dg (gr i) = false) (hr : ∀ x, gr x = gr i → ∀ y, nrT G t ce x y → dg (gr y) = true ∨ gr y = gr x) (R : RK3 G t ce gv M') (e : ∀ x, ¬ gr x = gr i → M'.1 166 x = M.1 166 x ∧ M'.1 168 x = M.1 168 x ∧ M'.1 175 x = M.1 175 x) (e6 : ∀ x, x < 320 → M'.1 176 x = if gr x = gr i then nI 1 else M.1 176 x) (v : ∀ x, thT G t x → gr x = gr i → VLd G t ce gv gr M' x) (hn : M'.1 137 72 = nI (cnt dg 321 + 1)) (ho : ∀ k, M'.1 169 k = if k = cnt dg 321 then nI i else M.1 169 k) : RSI G t ce gv gr (dgU dg (gr i)) M' ∧ cnt (dgU dg (gr i)) 321 = cnt dg 321 + 1 := by
  have gl : gr i < 321 := by
    have := P.2.1 i
    have g := P.2.2.2.2.1.mono gN 0 (by omega)
    have := P.2.2.2.2.2.2
    rw [Nat.zero_add] at g; omega
  have ec : cnt (dgU dg (gr i)) 321 = cnt dg 321 + 1 := cnt_one (gr i) gl (fun x _ hx => by unfold dgU; rw [decide_eq_false hx, Bool.or_false]) h0 (dgU_t.2 (Or.inr rfl))
  refine ⟨⟨R, fun x hx => ?_, ?_, ?_, fun x hx hd => ?_⟩, ec⟩
  · rw [e6 x hx]
    unfold dgU
    by_cases c : gr x = gr i
    · rw [if_pos c, decide_eq_true c, Bool.or_true]; rfl
    · rw [if_neg c, decide_eq_false c, Bool.or_false]; exact S.2.1 x hx
  · unfold dgU
    have := (P.1 i).1 hi
    rw [S.2.2.1, decide_eq_false (by omega)]; rfl
  · obtain ⟨od, O, o2, o3⟩ := S.2.2.2.1
    refine ⟨st1 od (cnt dg 321) i, by rw [ec]; exact O.step hi hl h0 hr, by rw [ec]; exact hn, fun k hk => ?_⟩
    rw [ec] at hk
    rw [ho, st1_t]
    by_cases c : k = cnt dg 321
    · rw [if_pos c, if_pos c]
    · rw [if_neg c, if_neg c]; exact o3 k (by omega)
  · by_cases c : gr x = gr i
    · exact v x hx c
    · have hd' : dg (gr x) = true := (dgU_t.1 hd).resolve_right c
      exact VLd.keep hq h P S (fun y hy => e y (fun z => by rw [z, h0] at hy; exact absurd hy (by decide))) hx hd'
end tok
