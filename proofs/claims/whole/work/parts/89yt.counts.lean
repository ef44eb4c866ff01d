-- the reference tells what was reckoned anew, what changed
def PCn (b j : Nat) : Prop := b = 179 ∨ b = 137 ∧ (j = 54 ∨ j = 55)
section tok
variable {G : Gr} {t : TR} {ce : Nat → Nat → Nat} {me : Nat → Nat}
variable {gN : Nat} {gr fr od : Nat → Nat} {kt : Nat → Bool}
variable {gv : Nat → Int32} {mk mr nw c0 C dg : Nat → Bool} {n : Nat} {o : Nat → Nat}
def CNI (G : Gr) (t : TR) (ce : Nat → Nat → Nat) (gv : Nat → Int32) (mr nw c0 : Nat → Bool) (n : Nat) (o : Nat → Nat) (M : Mm) : Prop := RK3 G t ce gv M ∧ M.1 137 72 = nI n ∧ (∀ k, k < n → M.1 169 k = nI (o k)) ∧ ∀ i, thT G t i → M.1 177 i = bI (mr i) ∧ M.1 178 i = bI (nw i) ∧ (c0 i = false ↔ nw i = false ∧ M.1 166 i = M.1 170 i)
theorem CNI.fx {M M' : Mm} (h : CNI G t ce gv mr nw c0 n o M) (f : FX PCn M M') : CNI G t ce gv mr nw c0 n o M' := by
  obtain ⟨⟨h1, h2, h3, h4, h5, h6⟩, e1, e2, e3⟩ := h
  have e : ∀ b j, ¬ PCn b j → M'.1 b j = M.1 b j := fun b j hb => (f.2 b j hb).1
  refine ⟨⟨h1.fx f fun b j z => by unfold PCn at z; omega, h2.fx f fun j => ⟨fun z => by unfold PCn at z; omega, fun z => by unfold PCn at z; omega, fun z => by unfold PCn at z; omega⟩, h3.fx f fun j z => by unfold PCn at z; omega, h4.fx f fun j z => by unfold PCn at z; omega, fun j hj => by rw [e _ _ (by unfold PCn; omega)]; exact h5 j hj, fun a ha => by rw [e _ _ (by unfold PCn; omega)]; exact h6 a ha⟩, by rw [e _ _ (by unfold PCn; omega)]; exact e1, fun k hk => by rw [e _ _ (by unfold PCn; omega)]; exact e2 k hk, fun i hi => ?_⟩
  rw [e 177 _ (by unfold PCn; omega), e 178 _ (by unfold PCn; omega), e 166 _ (by unfold PCn; omega), e 170 _ (by unfold PCn; omega)]
  exact e3 i hi
theorem r_hangsOnChanged {i : Nat} {M : Mm} (N : Nat) (hN : 2000 < N) (hq : QG G) (h : TOK2 G t ce me) (R : RK3 G t ce gv M) (hC : ∀ j, thT G t j → M.1 179 j = bI (C j)) (hi : thT G t i) : ∃ b, D_X12_hangsOnChanged N 137 (nI i) M = some (bI b) ∧ (b = true ↔ ∃ j, nrT G t ce i j ∧ C j = true) := by
  obtain ⟨i8, i320⟩ := th_320 h hi
  have h40 := h.2.2.2.1
  have key : ∀ fu j, j ≤ 8 * tn t → 320 < j + fu → (∀ x, x < j → nrT G t ce i x → C x = false) → ∃ b, L_X12_hangsOnChanged_2 M 137 N (nI i) fu (nI j) = some (bI b) ∧ (b = true ↔ ∃ j, nrT G t ce i j ∧ C j = true) := fun fu => by
    induction fu with
    | zero => intro j h1 h2; omega
    | succ fu ih =>
      intro j h1 h2 h3
      rw [L_X12_hangsOnChanged_2, R.1.2.1, pk_mul]
      simp only [n_le (show 8 * tn t < 2 ^ 31 by omega) (show j < 2 ^ 31 by omega)]
      by_cases e : 8 * tn t ≤ j
      · rw [if_pos e, okZ_0]
        refine ⟨false, rfl, fun z => absurd z (by decide), ?_⟩
        rintro ⟨x, x1, x2⟩
        have := h3 x (by have := (th_320 h (nr_th hq h hi x1)).1; omega) x1
        rw [x2] at this; exact this.symm
      · have j320 : j < 320 := by omega
        rw [if_neg e, show (137 : Nat) + 35 = 172 from rfl, show (137 : Nat) + 42 = 179 from rfl, r_bit N len172 R.2.2.1 i320 j320, Option.bind_some, nI_add]
        simp only [bI_0]
        cases b : nrB G t ce i j
        · rw [if_pos rfl, Option.bind_some]
          exact ih (j + 1) (by omega) (by omega) fun x hx nx => by
            by_cases z : x = j
            · rw [z] at nx
              rw [nrB_t.2 ⟨hi, nx⟩] at b; exact absurd b (by decide)
            · exact h3 x (by omega) nx
        · have nj := (nrB_t.1 b).2
          rw [if_neg (by decide), ldI_n j320 (by omega), hC j (nr_th hq h hi nj), Option.bind_some]
          simp only [bI_0]
          cases c : C j
          · rw [if_pos rfl, Option.bind_some]
            exact ih (j + 1) (by omega) (by omega) fun x hx nx => by
              by_cases z : x = j
              · rw [z]; exact c
              · exact h3 x (by omega) nx
          · rw [if_neg (by decide), okZ_1]
            exact ⟨true, rfl, fun _ => ⟨j, nj, c⟩, fun _ => rfl⟩
  exact key N 0 (by omega) (by omega) fun x hx => by omega
theorem r_isTouched {i : Nat} {M : Mm} (N : Nat) (hN : 2000 < N) (hq : QG G) (h : TOK2 G t ce me) (Z : CNI G t ce gv mr nw c0 n o M) (hC : ∀ j, thT G t j → M.1 179 j = bI (C j)) (hi : thT G t i) : ∃ b, D_X12_isTouched N 137 (nI i) M = some (bI b) ∧ (b = true ↔ (mr i = true ∨ nw i = true) ∨ ∃ j, nrT G t ce i j ∧ C j = true) := by
  obtain ⟨i8, i320⟩ := th_320 h hi
  obtain ⟨e1, e2, _⟩ := Z.2.2.2 i hi
  unfold D_X12_isTouched
  rw [show (137 : Nat) + 40 = 177 from rfl, show (137 : Nat) + 41 = 178 from rfl, ldI_n i320 (by omega), e1, Option.bind_some]
  simp only [jn, bI_0, okZ_0, okZ_1]
  cases a : mr i
  · rw [if_pos rfl, ldI_n i320 (by omega), e2, Option.bind_some]
    simp only [bI_0]
    cases b : nw i
    · obtain ⟨b2, s1, s2⟩ := r_hangsOnChanged N hN hq h Z.1 hC hi
      rw [if_pos rfl, s1, Option.bind_some, ifb]
      exact ⟨b2, rfl, s2.trans ⟨Or.inr, fun z => z.elim (fun u => by rcases u with u | u <;> exact absurd u (by decide)) id⟩⟩
    · rw [if_neg (by decide)]
      exact ⟨true, rfl, fun _ => Or.inl (Or.inr rfl), fun _ => rfl⟩
  · rw [if_neg (by decide)]
    exact ⟨true, rfl, fun _ => Or.inl (Or.inl rfl), fun _ => rfl⟩
theorem r_isOf {i y : Nat} {M : Mm} (N : Nat) (hq : QG G) (h : TOK2 G t ce me) (P : GRP G t ce gN gr fr od kt) (R : RK3 G t ce gv M) (hi : i < 320) (hy : thT G t y) : D_X12_isOf N 137 (nI i) (nI y) M = some (bI (decide (gr i = gr y))) := by
  obtain ⟨y8, y320⟩ := th_320 h hy
  have gy := (P.1 y).1 hy
  unfold D_X12_isOf
  rw [show (137 : Nat) + 37 = 174 from rfl, show (137 : Nat) + 30 = 167 from rfl, ldI_n hi (by omega), (R.2.1 i hi).1, Option.bind_some]
  simp only [jn, bI_0, okZ_0, okZ_1, n_eq (show i < 2 ^ 31 by omega) (show y < 2 ^ 31 by omega)]
  cases a : thB G t i
  · have : gr i = 0 := Decidable.byContradiction fun z => thB_f.1 a ((P.1 i).2 z)
    rw [if_pos rfl, decide_eq_false (by omega)]; rfl
  · have ti := thB_t.1 a
    rw [if_neg (by decide)]
    by_cases c : i = y
    · rw [if_pos c, c, decide_eq_true rfl]; rfl
    · rw [if_neg c, ldI_n y320 (by omega), R.2.2.2.2.1 y y320, Option.bind_some]
      simp only [knI_m1 y320]
      cases k : knB G t ce y
      · rw [if_pos rfl, decide_eq_false (fun z => c (P.one hq h hy k z))]; rfl
      · rw [if_neg (by decide), ldI_n hi (by omega), R.2.2.2.2.1 i hi, Option.bind_some, Option.bind_some]
        simp only [P.kn hq h y320 k hi]
        by_cases d : gr i = gr y
        · rw [if_pos d, decide_eq_true d]; rfl
        · rw [if_neg d, decide_eq_false d]; rfl
theorem r_any {y : Nat} {M : Mm} (N : Nat) (hN : 2000 < N) (hq : QG G) (h : TOK2 G t ce me) (P : GRP G t ce gN gr fr od kt) (Z : CNI G t ce gv mr nw c0 n o M) (hC : ∀ j, thT G t j → M.1 179 j = bI (C j)) (hy : thT G t y) (kE : Int32 → Option Mm) : ∀ fu i b, i ≤ 8 * tn t → 320 < i + fu → (b = true ↔ ∃ x, x < i ∧ gr x = gr y ∧ ((mr x = true ∨ nw x = true) ∨ ∃ j, nrT G t ce x j ∧ C j = true)) → ∃ b', L_X12_counts_41 kE M 137 N (nI y) fu (bI b) (nI i) = kE (bI b') ∧ (b' = true ↔ ∃ x, gr x = gr y ∧ ((mr x = true ∨ nw x = true) ∨ ∃ j, nrT G t ce x j ∧ C j = true)) := fun fu => by
  have h40 := h.2.2.2.1
  have gy := (P.1 y).1 hy
  induction fu with
  | zero => intro i b h1 h2; omega
  | succ fu ih =>
    intro i b h1 h2 hb
    rw [L_X12_counts_41, Z.1.1.2.1, pk_mul]
    simp only [n_le (show 8 * tn t < 2 ^ 31 by omega) (show i < 2 ^ 31 by omega), jn]
    by_cases e : 8 * tn t ≤ i
    · rw [if_pos e]
      refine ⟨b, rfl, hb.trans ⟨fun ⟨x, _, x2⟩ => ⟨x, x2⟩, fun ⟨x, x1, x2⟩ => ⟨x, ?_, x1, x2⟩⟩⟩
      have := (th_320 h ((P.1 x).2 (fun z => gy (x1.symm.trans z)))).1
      exact Nat.lt_of_lt_of_le this e
    · rw [if_neg e, Option.bind_some, Option.bind_some, nI_add]
      simp only [bI_0]
      have up : ∀ (T : Prop), (T ↔ gr i = gr y ∧ ((mr i = true ∨ nw i = true) ∨ ∃ j, nrT G t ce i j ∧ C j = true)) → ((∃ x, x < i + 1 ∧ gr x = gr y ∧ ((mr x = true ∨ nw x = true) ∨ ∃ j, nrT G t ce x j ∧ C j = true)) ↔ b = true ∨ T) := fun T hT => by
        rw [hb, hT]
        constructor
        · rintro ⟨x, x1, x2⟩
          by_cases z : x = i
          · rw [z] at x2; exact Or.inr x2
          · exact Or.inl ⟨x, by omega, x2⟩
        · rintro (⟨x, x1, x2⟩ | z)
          · exact ⟨x, by omega, x2⟩
          · exact ⟨i, by omega, z⟩
      cases b
      · rw [if_pos rfl, r_isOf N hq h P Z.1 (by omega) hy, Option.bind_some]
        simp only [bI_0]
        by_cases c : gr i = gr y
        · have ti : thT G t i := (P.1 i).2 (fun z => gy (c.symm.trans z))
          obtain ⟨b2, s1, s2⟩ := r_isTouched N hN hq h Z hC ti
          rw [decide_eq_true c, if_neg (by decide), s1, Option.bind_some]
          simp only [bI_0]
          cases b2
          · rw [if_pos rfl]
            refine ih (i + 1) false (by omega) (by omega) ?_
            rw [up False ⟨False.elim, fun z => absurd (s2.2 z.2) (by decide)⟩]
            exact ⟨Or.inl, fun z => z.elim id False.elim⟩
          · rw [if_neg (by decide)]
            refine ih (i + 1) true (by omega) (by omega) ?_
            rw [up True ⟨fun _ => ⟨c, s2.1 rfl⟩, fun _ => trivial⟩]
            exact ⟨fun _ => Or.inr trivial, fun _ => rfl⟩
        · rw [decide_eq_false c, if_pos rfl]
          refine ih (i + 1) false (by omega) (by omega) ?_
          rw [up False ⟨False.elim, fun z => absurd z.1 c⟩]
          exact ⟨Or.inl, fun z => z.elim id False.elim⟩
      · rw [if_neg (by decide)]
        refine ih (i + 1) true (by omega) (by omega) ?_
        rw [up _ Iff.rfl]
        exact ⟨fun _ => Or.inl rfl, fun _ => rfl⟩
theorem r_cmp {y a b : Nat} (N : Nat) (hq : QG G) (h : TOK2 G t ce me) (P : GRP G t ce gN gr fr od kt) (hy : thT G t y) (kE : Mm → Option Mm) : ∀ fu i M, i ≤ 8 * tn t → 320 < i + fu → CNI G t ce gv mr nw c0 n o M → (∀ x, thT G t x → M.1 179 x = bI (if gr x = gr y ∧ x < i then c0 x else C x)) → M.1 137 54 = nI (a + cnt (fun x => decide (gr x = gr y)) i) → M.1 137 55 = nI (b + cnt (fun x => decide (gr x = gr y) && c0 x) i) → ∃ M', L_X12_counts_91 kE 137 (nI 1) N (nI y) fu (nI i) M = kE M' ∧ (∀ x, thT G t x → M'.1 179 x = bI (if gr x = gr y then c0 x else C x)) ∧ M'.1 137 54 = nI (a + cnt (fun x => decide (gr x = gr y)) 320) ∧ M'.1 137 55 = nI (b + cnt (fun x => decide (gr x = gr y) && c0 x) 320) ∧ FX PCn M M' := fun fu => by
  have h40 := h.2.2.2.1
  have gy := (P.1 y).1 hy
  have far : ∀ x, 8 * tn t ≤ x → ¬ gr x = gr y := fun x hx z => by
    have := (th_320 h ((P.1 x).2 (by omega))).1
    omega
  induction fu with
  | zero => intro i M h1 h2; omega
  | succ fu ih =>
    intro i M h1 h2 Z r179 r54 r55
    have R := Z.1
    rw [L_X12_counts_91, R.1.2.1, pk_mul]
    simp only [n_le (show 8 * tn t < 2 ^ 31 by omega) (show i < 2 ^ 31 by omega)]
    by_cases e : 8 * tn t ≤ i
    · rw [if_pos e]
      have ei : i = 8 * tn t := by omega
      subst ei
      have z1 := cnt_zero (f := fun x => decide (gr x = gr y)) (n := 8 * tn t) (320 - 8 * tn t) fun x hx _ => decide_eq_false (far x hx)
      have z2 := cnt_zero (f := fun x => decide (gr x = gr y) && c0 x) (n := 8 * tn t) (320 - 8 * tn t) fun x hx _ => by rw [decide_eq_false (far x hx)]; rfl
      rw [show 8 * tn t + (320 - 8 * tn t) = 320 by omega] at z1 z2
      refine ⟨M, rfl, fun x hx => ?_, by rw [r54, z1], by rw [r55, z2], FX.refl⟩
      rw [r179 x hx]
      have := (th_320 h hx).1
      by_cases c : gr x = gr y
      · rw [if_pos c, if_pos ⟨c, this⟩]
      · rw [if_neg c, if_neg (fun z => c z.1)]
    · have i320 : i < 320 := by omega
      have s1 : cnt (fun x => decide (gr x = gr y)) (i + 1) = cnt (fun x => decide (gr x = gr y)) i + if decide (gr i = gr y) = true then 1 else 0 := rfl
      have s2 : cnt (fun x => decide (gr x = gr y) && c0 x) (i + 1) = cnt (fun x => decide (gr x = gr y) && c0 x) i + if (decide (gr i = gr y) && c0 i) = true then 1 else 0 := rfl
      rw [if_neg e, if_neg z10, r_isOf N hq h P R i320 hy, Option.bind_some, nI_add]
      simp only [bI_0]
      by_cases c : gr i = gr y
      · have ti : thT G t i := (P.1 i).2 (by omega)
        obtain ⟨e1, e2, e3⟩ := Z.2.2.2 i ti
        rw [decide_eq_true c, if_pos rfl] at s1
        rw [decide_eq_true c, Bool.true_and] at s2
        rw [decide_eq_true c, if_neg (by decide), show (137 : Nat) + 41 = 178 from rfl, show (137 : Nat) + 42 = 179 from rfl, show (137 : Nat) + 29 = 166 from rfl, show (137 : Nat) + 33 = 170 from rfl, pI_n, Option.bind_some, ldI_n i320 (by omega), upI_n (by decide), e2, Option.bind_some]
        -- whichever way the new value is found
        have go : ∀ p : Int32, p = bI (c0 i) → ∃ M', ((stZ 320 179 (nI i) p (upI M 137 54 (M.1 137 54 + nI 1))).bind fun M8 => (ldI 320 179 (nI i) M8).bind fun v3 => ((if v3 = nI 0 then (some (nI 0)) else (some (nI 1))).bind fun p189 => ((pI M8 137 55 ((M8.1 137 55) + p189)).bind fun M9 => (L_X12_counts_91 kE 137 (nI 1) N (nI y) fu (nI (i + 1)) M9)))) = kE M' ∧ (∀ x, thT G t x → M'.1 179 x = bI (if gr x = gr y then c0 x else C x)) ∧ M'.1 137 54 = nI (a + cnt (fun x => decide (gr x = gr y)) 320) ∧ M'.1 137 55 = nI (b + cnt (fun x => decide (gr x = gr y) && c0 x) 320) ∧ FX PCn M M' := fun p hp => by
          subst hp
          have st : stZ 320 179 (nI i) (bI (c0 i)) (upI M 137 54 (M.1 137 54 + nI 1)) = some (upI (upI M 137 54 (M.1 137 54 + nI 1)) 179 i (bI (c0 i))) := by
            cases c0 i
            · exact stZ_0 i320 (by omega)
            · exact stZ_1 i320 (by omega)
          have pq : (if bI (c0 i) = nI 0 then (some (nI 0)) else (some (nI 1)) : Option Int32) = some (nI (if c0 i = true then 1 else 0)) := by
            cases c0 i
            · rfl
            · exact if_neg z10
          rw [st, Option.bind_some, ldI_n i320 (by omega), upI_s, Option.bind_some, pq, Option.bind_some, pI_n, Option.bind_some]
          have v55 : (upI (upI M 137 54 (M.1 137 54 + nI 1)) 179 i (bI (c0 i))).1 137 55 = M.1 137 55 := by rw [upI_n (by decide), upI_j, if_neg (by decide)]
          rw [v55]
          have f1 : FX PCn M (upI (upI (upI M 137 54 (M.1 137 54 + nI 1)) 179 i (bI (c0 i))) 137 55 (M.1 137 55 + nI (if c0 i = true then 1 else 0))) := ((FX.I (by unfold PCn; omega)).trans (FX.I (by unfold PCn; omega))).trans (FX.I (by unfold PCn; omega))
          obtain ⟨M2, b1, b2, b3, b4, b5⟩ := ih (i + 1) _ (by omega) (by omega) (Z.fx f1) (fun x hx => by
            rw [upI_n (by decide), upI_j]
            by_cases z : x = i
            · rw [if_pos z, z, if_pos ⟨c, by omega⟩]
            · rw [if_neg z, upI_n (by decide), r179 x hx]
              by_cases d : gr x = gr y ∧ x < i
              · rw [if_pos d, if_pos ⟨d.1, by omega⟩]
              · rw [if_neg d, if_neg (fun u => d ⟨u.1, by omega⟩)]) (by rw [upI_j, if_neg (by decide), upI_n (by decide), upI_j, if_pos rfl, r54, nI_add, s1]; rfl) (by rw [upI_j, if_pos rfl, r55, nI_add, s2, Nat.add_assoc])
          exact ⟨M2, b1, b2, b3, b4, f1.trans b5⟩
        simp only [jn, bI_0]
        cases w : nw i
        · rw [if_pos rfl, ldI_n i320 (by omega), upI_n (by decide), Option.bind_some, ldI_n i320 (by omega), upI_n (by decide), Option.bind_some]
          by_cases d : M.1 166 i = M.1 170 i
          · rw [if_pos d, Option.bind_some]
            exact go _ (by rw [e3.2 ⟨w, d⟩]; rfl)
          · rw [if_neg d, Option.bind_some]
            exact go _ (by
              cases z : c0 i
              · exact absurd (e3.1 z).2 d
              · rfl)
        · rw [if_neg (by decide), Option.bind_some]
          exact go _ (by
            cases z : c0 i
            · rw [(e3.1 z).1] at w; exact absurd w (by decide)
            · rfl)
      · rw [decide_eq_false c, if_neg (by decide)] at s1
        rw [decide_eq_false c, Bool.false_and, if_neg (by decide)] at s2
        rw [decide_eq_false c, if_pos rfl, Option.bind_some]
        exact ih (i + 1) M (by omega) (by omega) Z (fun x hx => by
          rw [r179 x hx]
          by_cases d : gr x = gr y ∧ x < i
          · rw [if_pos d, if_pos ⟨d.1, by omega⟩]
          · rw [if_neg d, if_neg (fun u => d ⟨u.1, by
              by_cases z : x = i
              · rw [z] at u; exact absurd u.1 c
              · omega⟩)]) (by rw [r54, s1]; rfl) (by rw [r55, s2]; rfl)
def prB (gr o : Nat → Nat) (k i : Nat) : Bool := decide (fb (fun k' => decide (gr (o k') = gr i)) k < k)
theorem prB_t {k i : Nat} : prB gr o k i = true ↔ ∃ k', k' < k ∧ gr (o k') = gr i := by
  unfold prB
  rw [decide_eq_true_eq, fb_lt]
  simp only [decide_eq_true_eq]
theorem r_countsL {M : Mm} (N : Nat) (hN : 2000 < N) (hq : QG G) (h : TOK2 G t ce me) (P : GRP G t ce gN gr fr od kt) (O : ORD G t ce gr dg n o) (ad : ∀ i, thT G t i → dg (gr i) = true) (n320 : n ≤ 320) (hmk : ∀ i, thT G t i → (mk i = true ↔ mr i = true ∨ nw i = true)) (Z : CNI G t ce gv mr nw c0 n o M) (z179 : ∀ i, thT G t i → M.1 179 i = nI 0) (z54 : M.1 137 54 = nI 0) (z55 : M.1 137 55 = nI 0) : ∃ M', L_X12_counts_21 137 N N (nI 0) M = some M' ∧ M'.1 137 54 = nI (anN gr mk (nrB G t ce) c0) ∧ M'.1 137 55 = nI (chgN gr mk (nrB G t ce) c0) ∧ FX PCn M M' := by
  have key : ∀ fu k M, k ≤ n → 321 < k + fu → CNI G t ce gv mr nw c0 n o M → (∀ i, thT G t i → M.1 179 i = bI (prB gr o k i && (c0 i && tuB gr mk (nrB G t ce) c0 (gr i)))) → M.1 137 54 = nI (cnt (fun i => prB gr o k i && tuB gr mk (nrB G t ce) c0 (gr i)) 320) → M.1 137 55 = nI (cnt (fun i => prB gr o k i && (c0 i && tuB gr mk (nrB G t ce) c0 (gr i))) 320) → ∃ M', L_X12_counts_21 137 N fu (nI k) M = some M' ∧ M'.1 137 54 = nI (anN gr mk (nrB G t ce) c0) ∧ M'.1 137 55 = nI (chgN gr mk (nrB G t ce) c0) ∧ FX PCn M M' := fun fu => by
    induction fu with
    | zero => intro k M h1 h2; omega
    | succ fu ih =>
      intro k M h1 h2 Z r179 r54 r55
      rw [L_X12_counts_21, Z.2.1]
      simp only [n_le (show n < 2 ^ 31 by omega) (show k < 2 ^ 31 by omega)]
      by_cases e : n ≤ k
      · rw [if_pos e]
        have pr : ∀ i, prB gr o k i = decide (¬ gr i = 0) := fun i => Bool.eq_iff_iff.2 (by
          rw [prB_t, decide_eq_true_eq]
          constructor
          · rintro ⟨k', k1, k2⟩
            have := (P.1 _).1 (O.1 k' (by omega)).1
            omega
          · intro z
            obtain ⟨k', k1, k2⟩ := O.2.2.1 (gr i) (ad i ((P.1 i).2 z))
            exact ⟨k', by omega, k2⟩)
        refine ⟨M, rfl, ?_, ?_, FX.refl⟩
        · rw [r54]; exact congrArg nI (cnt_congr fun i _ => by rw [pr])
        · rw [r55]; exact congrArg nI (cnt_congr fun i _ => by rw [pr])
      · have hk : k < n := by omega
        obtain ⟨ty, _, _⟩ := O.1 k hk
        have gy := (P.1 _).1 ty
        obtain ⟨y8, y320⟩ := th_320 h ty
        rw [if_neg e, show (137 : Nat) + 32 = 169 from rfl, ldI_n (by omega) (by omega), Z.2.2.1 k hk, Option.bind_some]
        obtain ⟨b, a1, a2⟩ := r_any N hN hq h P Z r179 ty (fun (l3_2 : Int32) => (L_X12_counts_91 (fun (M10 : Mm) => ((some (nI k + (nI 1))).bind fun l1_2 => (L_X12_counts_21 137 N fu l1_2 M10))) 137 l3_2 N (nI (o k)) N (nI 0) M)) N 0 false (by omega) (by omega) ⟨fun z => absurd z (by decide), fun ⟨_, z, _⟩ => by omega⟩
        have a1' : L_X12_counts_41 _ M 137 N (nI (o k)) N (nI 0) (nI 0) = _ := a1
        rw [a1']
        have npr : ∀ i, gr i = gr (o k) → prB gr o k i = false := fun i hi => by
          cases z : prB gr o k i
          · rfl
          · obtain ⟨k', k1, k2⟩ := prB_t.1 z
            have := O.2.1 k' k (by omega) hk (by omega)
            omega
        have pr1 : ∀ i, prB gr o (k + 1) i = true ↔ prB gr o k i = true ∨ gr i = gr (o k) := fun i => by
          rw [prB_t, prB_t]
          constructor
          · rintro ⟨k', k1, k2⟩
            by_cases z : k' = k
            · rw [z] at k2; exact Or.inr k2.symm
            · exact Or.inl ⟨k', by omega, k2⟩
          · rintro (⟨k', k1, k2⟩ | z)
            · exact ⟨k', by omega, k2⟩
            · exact ⟨k, by omega, z.symm⟩
        have bt : b = true ↔ tuB gr mk (nrB G t ce) c0 (gr (o k)) = true := by
          rw [a2]
          unfold tuB
          rw [touB_u hq h P gy]
          have same : ∀ i j, gr i = gr (o k) → nrT G t ce i j → ((prB gr o k j && (c0 j && tuB gr mk (nrB G t ce) c0 (gr j))) = true ↔ chB gr mk (nrB G t ce) c0 (gr (o k) - 1) j = true) := fun i j hi nj => by
            have ti : thT G t i := (P.1 i).2 (by omega)
            have gj := (P.1 j).1 (nr_th hq h ti nj)
            have le := P.2.2.1 i j ti nj
            rw [chB_t, Bool.and_eq_true, Bool.and_eq_true]
            refine and_congr ⟨fun z => ?_, fun z => ?_⟩ Iff.rfl
            · refine ⟨gj, ?_⟩
              by_cases u : gr j = gr (o k)
              · rw [npr j u] at z; exact absurd z (by decide)
              · omega
            · obtain ⟨k', k1, k2⟩ := O.2.2.2 k i j hk hi nj
              refine prB_t.2 ⟨k', ?_, k2.symm⟩
              by_cases u : k' = k
              · rw [u] at k2; omega
              · omega
          constructor
          · rintro ⟨i, i1, i2⟩
            refine ⟨i, i1, i2.imp (hmk i ((P.1 i).2 (fun z => gy (i1.symm.trans z)))).2 fun ⟨j, j1, j2⟩ => ⟨j, j1, (same i j i1 j1).1 j2⟩⟩
          · rintro ⟨i, i1, i2⟩
            refine ⟨i, i1, i2.imp (hmk i ((P.1 i).2 (fun z => gy (i1.symm.trans z)))).1 fun ⟨j, j1, j2⟩ => ⟨j, j1, (same i j i1 j1).2 j2⟩⟩
        cases b
        · have tf : tuB gr mk (nrB G t ce) c0 (gr (o k)) = false := by
            cases z : tuB gr mk (nrB G t ce) c0 (gr (o k))
            · rfl
            · exact absurd (bt.2 z) (by decide)
          have same : ∀ i, (prB gr o (k + 1) i && tuB gr mk (nrB G t ce) c0 (gr i)) = (prB gr o k i && tuB gr mk (nrB G t ce) c0 (gr i)) := fun i => Bool.eq_iff_iff.2 (by
            rw [Bool.and_eq_true, Bool.and_eq_true, pr1]
            refine ⟨fun z => ⟨z.1.elim id fun u => ?_, z.2⟩, fun z => ⟨Or.inl z.1, z.2⟩⟩
            have := z.2
            rw [u, tf] at this; exact absurd this (by decide))
          have same2 : ∀ i, (prB gr o (k + 1) i && (c0 i && tuB gr mk (nrB G t ce) c0 (gr i))) = (prB gr o k i && (c0 i && tuB gr mk (nrB G t ce) c0 (gr i))) := fun i => by
            rw [Bool.and_comm (c0 i), ← Bool.and_assoc, ← Bool.and_assoc, same]
          obtain ⟨fu', rfl⟩ : ∃ fu', N = fu' + 1 := ⟨N - 1, by omega⟩
          have h40 := h.2.2.2.1
          have n1 := h.1.1.1
          show ∃ M', L_X12_counts_91 _ 137 (bI false) (fu' + 1) (nI (o k)) (fu' + 1) (nI 0) M = some M' ∧ _
          rw [L_X12_counts_91, Z.1.1.2.1, pk_mul]
          simp only [n_le (show 8 * tn t < 2 ^ 31 by omega) (show 0 < 2 ^ 31 by decide)]
          rw [if_neg (by omega), if_pos (show bI false = nI 0 from rfl), Option.bind_some, nI_add]
          exact ih (k + 1) M (by omega) (by omega) Z (fun i hi => by rw [same2, r179 i hi]) (by rw [r54]; exact congrArg nI (cnt_congr fun i _ => (same i).symm)) (by rw [r55]; exact congrArg nI (cnt_congr fun i _ => (same2 i).symm))
        · have tt := bt.1 rfl
          obtain ⟨M1, b1, b2, b3, b4, b5⟩ := r_cmp (C := fun i => prB gr o k i && (c0 i && tuB gr mk (nrB G t ce) c0 (gr i))) (a := cnt (fun i => prB gr o k i && tuB gr mk (nrB G t ce) c0 (gr i)) 320) (b := cnt (fun i => prB gr o k i && (c0 i && tuB gr mk (nrB G t ce) c0 (gr i))) 320) N hq h P ty (fun (M10 : Mm) => ((some (nI k + (nI 1))).bind fun l1_2 => (L_X12_counts_21 137 N fu l1_2 M10))) N 0 M (by omega) (by omega) Z (fun x hx => by rw [r179 x hx, if_neg (fun z => absurd z.2 (Nat.not_lt_zero _))]) (by rw [r54]; exact (congrArg nI (Nat.add_zero _)).symm) (by rw [r55]; exact (congrArg nI (Nat.add_zero _)).symm)
          show ∃ M', L_X12_counts_91 _ 137 (nI 1) N (nI (o k)) N (nI 0) M = some M' ∧ _
          rw [b1, Option.bind_some, nI_add]
          obtain ⟨M2, d1, d2, d3, d4⟩ := ih (k + 1) M1 (by omega) (by omega) (Z.fx b5) (fun i hi => by
            rw [b2 i hi]
            by_cases c : gr i = gr (o k)
            · rw [if_pos c, (pr1 i).2 (Or.inr c), c, tt, Bool.true_and, Bool.and_true]
            · rw [if_neg c]
              have : prB gr o (k + 1) i = prB gr o k i := Bool.eq_iff_iff.2 ((pr1 i).trans ⟨fun z => z.elim id fun u => absurd u c, Or.inl⟩)
              rw [this]) (by
            rw [b3]
            refine congrArg nI (cnt_dis fun i _ => ?_).symm
            rw [Bool.and_eq_true, Bool.and_eq_true, pr1, decide_eq_true_eq]
            refine ⟨⟨fun z => z.1.elim (fun u => Or.inl ⟨u, z.2⟩) Or.inr, fun z => z.elim (fun u => ⟨Or.inl u.1, u.2⟩) fun u => ⟨Or.inr u, by rw [u]; exact tt⟩⟩, fun z => ?_⟩
            rw [npr i z.2] at z; exact absurd z.1.1 (by decide)) (by
            rw [b4]
            refine congrArg nI (cnt_dis fun i _ => ?_).symm
            simp only [Bool.and_eq_true, pr1, decide_eq_true_eq]
            refine ⟨⟨fun z => z.1.elim (fun u => Or.inl ⟨u, z.2⟩) fun u => Or.inr ⟨u, z.2.1⟩, fun z => z.elim (fun u => ⟨Or.inl u.1, u.2⟩) fun u => ⟨Or.inr u.1, u.2, by rw [u.1]; exact tt⟩⟩, fun z => ?_⟩
            have := z.1.1
            rw [npr i z.2.1] at this; exact absurd this (by decide))
          exact ⟨M2, d1, d2, d3, b5.trans d4⟩
  have p0 : ∀ i, prB gr o 0 i = false := fun i => by
    cases z : prB gr o 0 i
    · rfl
    · obtain ⟨k', k1, _⟩ := prB_t.1 z; omega
  have c0' : ∀ f : Nat → Bool, (∀ i, f i = false) → cnt f 320 = 0 := fun f hf => by
    have z := cnt_zero (f := f) (n := 0) 320 fun i _ _ => hf i
    rw [Nat.zero_add] at z; exact z
  exact key N 0 M (by omega) (by omega) Z (fun i hi => by rw [z179 i hi, p0]; rfl) (by rw [z54, c0' _ fun i => by rw [p0]; rfl]) (by rw [z55, c0' _ fun i => by rw [p0]; rfl])
end tok
