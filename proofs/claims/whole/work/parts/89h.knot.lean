-- the reference: what reaches what; knots
def NR (G : Gr) (t : TR) (ce : Nat → Nat → Nat) (i j : Nat) : Prop := thT G t i ∧ nrT G t ce i j
def rcB (G : Gr) (t : TR) (ce : Nat → Nat → Nat) : Nat → Nat → Bool := ws (8 * tn t) (8 * tn t) (nrB G t ce)
section tok
variable {G : Gr} {t : TR} {ce : Nat → Nat → Nat} {me : Nat → Nat}
theorem NR.th (hq : QG G) (h : TOK2 G t ce me) {i j : Nat} (hn : NR G t ce i j) : thT G t j := nr_th hq h hn.1 hn.2
theorem rc_t (hq : QG G) (h : TOK2 G t ce me) {i j : Nat} (hi : i < 8 * tn t) : rcB G t ce i j = true ↔ ∃ k, NR G t ce i k ∧ RTc (NR G t ce) k j := by
  constructor
  · exact ws_least (S := fun i j => ∃ k, NR G t ce i k ∧ RTc (NR G t ce) k j) (fun i j _ z => ⟨j, nrB_t.1 z, RTc.refl⟩) (fun i l j ⟨k, a, b⟩ ⟨k', a', b'⟩ => ⟨k, a, b.trans ((RTc.one a').trans b')⟩) _ (Nat.le_refl _) i j hi
  · rintro ⟨k, a, n, b⟩
    have s : ∀ {x y : Nat}, NR G t ce x y → rcB G t ce x y = true := fun {x y} z => ws_sub (th_320 h z.1).1 (nrB_t.2 z) _
    have key : ∀ (n : Nat) (k : Nat), rcB G t ce i k = true → thT G t k → Rn (NR G t ce) n k j → rcB G t ce i j = true := fun n => by
      induction n with
      | zero => intro k c _ d; have d : k = j := d; subst d; exact c
      | succ n ih =>
        intro k c th d
        obtain ⟨x, d1, d2⟩ := d
        exact ih x (ws_trans _ (Nat.le_refl _) k (th_320 h th).1 i x hi c (s d1)) (d1.th hq h) d2
    exact key n k (s a) (a.th hq h) b
theorem rc_trans (hq : QG G) (h : TOK2 G t ce me) {i j k : Nat} (hi : i < 8 * tn t) (hj : j < 8 * tn t) (a : rcB G t ce i j = true) (b : rcB G t ce j k = true) : rcB G t ce i k = true := ws_trans _ (Nat.le_refl _) j hj i k hi a b
theorem rc_th (hq : QG G) (h : TOK2 G t ce me) {i j : Nat} (hi : i < 8 * tn t) (a : rcB G t ce i j = true) : thT G t i ∧ thT G t j := by
  obtain ⟨k, b, c⟩ := (rc_t hq h hi).1 a
  exact ⟨b.1, RTc.inv (P := thT G t) (fun x y _ z => z.th hq h) c (b.th hq h)⟩
theorem RTc_nr (hq : QG G) (h : TOK2 G t ce me) {i x : Nat} (hi : thT G t i) : RTc (nrT G t ce) i x ↔ RTc (NR G t ce) i x := by
  constructor
  · rintro ⟨n, a⟩
    induction n generalizing i with
    | zero => exact ⟨0, a⟩
    | succ n ih =>
      obtain ⟨k, b, c⟩ := a
      exact (RTc.one ⟨hi, b⟩).trans (ih (nr_th hq h hi b) c)
  · rintro ⟨n, a⟩
    induction n generalizing i with
    | zero => exact ⟨0, a⟩
    | succ n ih =>
      obtain ⟨k, b, c⟩ := a
      exact (RTc.one b.2).trans (ih (b.th hq h) c)
theorem RTc_by {i x : Nat} : RTc (byT G t ce) i x ↔ RTc (NR G t ce) x i := by
  constructor
  · rintro ⟨n, a⟩
    induction n generalizing i with
    | zero => have a : i = x := a; subst a; exact RTc.refl
    | succ n ih => obtain ⟨k, b, c⟩ := a; exact (ih c).trans (RTc.one b)
  · rintro ⟨n, a⟩
    induction n generalizing x with
    | zero => have a : x = i := a; subst a; exact RTc.refl
    | succ n ih => obtain ⟨k, b, c⟩ := a; exact (ih c).trans (RTc.one b)
/-- reached in steps, one at least, or the same -/
theorem RTc_rc (hq : QG G) (h : TOK2 G t ce me) {i x : Nat} (hi : i < 8 * tn t) : RTc (NR G t ce) i x ↔ i = x ∨ rcB G t ce i x = true := by
  rw [rc_t hq h hi]
  constructor
  · rintro ⟨n, a⟩
    cases n with
    | zero => exact Or.inl a
    | succ n => obtain ⟨k, b, c⟩ := a; exact Or.inr ⟨k, b, n, c⟩
  · rintro (z | ⟨k, b, c⟩)
    · subst z; exact RTc.refl
    · exact (RTc.one b).trans c
def P23 (b _j : Nat) : Prop := b = 172 ∨ b = 173
theorem RBs.fx {P : Nat → Nat → Prop} {m : Nat} {M M' : Mm} (h : RBs G t m M) (f : FX P M M') (hP : ∀ j, ¬ P 164 j ∧ ¬ P 165 j ∧ ¬ P 174 j) : RBs G t m M' := fun i hi => by
  rw [(f.2 174 i (hP i).2.2).1, (f.2 164 i (hP i).1).1, (f.2 165 i (hP i).2.1).1]; exact h i hi
theorem r_laysReach {M : Mm} (N : Nat) (hN : 4000 < N) (h : TOK2 G t ce me) (R : RT1 G t M) (hB : RBs G t 320 M) : ∃ M', D_X12_laysReach N 137 M = some M' ∧ HBt 172 (nrB G t ce) M' ∧ HBt 173 (rcB G t ce) M' ∧ FX P23 M M' := by
  have h40 := h.2.2.2.1
  unfold D_X12_laysReach
  obtain ⟨M1, a1, a2, a3⟩ := loop_near0 (fun (M3 : Mm) => (L_X12_laysReach_24 (fun (M8 : Mm) => (L_X12_laysReach_120 (fun (M11 : Mm) => (L_X12_laysReach_147 137 N N (nI 0) M11)) 137 N (nI 0) M8)) 137 N N (nI 0) M3)) N 0 M (by omega) (by omega) (fun j hj => absurd hj (Nat.not_lt_zero _))
  rw [a1]
  have nP : ∀ b j, P172 b j → 159 < b ∨ b = 137 ∧ ¬ j = 50 := fun b j z => by unfold P172 at z; omega
  obtain ⟨M2, b1, b2, b3⟩ := loop_nearI N (by omega) h (fun (M8 : Mm) => (L_X12_laysReach_120 (fun (M11 : Mm) => (L_X12_laysReach_147 137 N N (nI 0) M11)) 137 N (nI 0) M8)) N 0 M1 (by omega) (by omega) (R.fx a3 nP) (hB.fx a3 fun j => by unfold P172; omega) (fun i hi u hu => ⟨0, a2 _ (by omega), by decide, fun b _ => by
    show Nat.testBit 0 b = (if i < 0 then _ else false)
    rw [if_neg (by omega), Nat.zero_testBit]⟩)
  rw [b1]
  obtain ⟨M3, c1, c2, c3⟩ := loop_copyR (fun (M11 : Mm) => (L_X12_laysReach_147 137 N N (nI 0) M11)) N 0 M2 (by omega) (by omega) (fun j hj => absurd hj (Nat.not_lt_zero _))
  rw [c1]
  have h172 : HBt 172 (nrB G t ce) M3 := b2.fx c3 fun j z => by unfold P173 at z; omega
  have h173 : HBt 173 (ws (8 * tn t) 0 (nrB G t ce)) M3 := fun i hi u hu => by
    obtain ⟨v, v1, v2⟩ := h172 i hi u hu
    exact ⟨v, by rw [c2 _ (by omega)]; exact v1, v2⟩
  have F3 : FX P23 M M3 := ((a3.mono fun b j z => Or.inl z).trans (b3.mono fun b j z => Or.inl z)).trans (c3.mono fun b j z => Or.inr z)
  have e50 : M3.1 137 50 = nI (tn t) := by rw [(F3.2 137 50 (fun z => by unfold P23 at z; omega)).1]; exact R.2.1
  obtain ⟨M4, d1, d2, d3⟩ := loop_wsJ N (by omega) rfl h40 N 0 M3 (Nat.zero_le _) (by omega) e50 h173
  exact ⟨M4, d1, h172.fx d3 fun j z => by unfold P173 at z; omega, d2, F3.trans (d3.mono fun b j z => Or.inr z)⟩
/-- an instance is in a knot; that knot's first -/
def knB (G : Gr) (t : TR) (ce : Nat → Nat → Nat) (i : Nat) : Bool := thB G t i && rcB G t ce i i
def knF (G : Gr) (t : TR) (ce : Nat → Nat → Nat) (i : Nat) : Nat := fb (fun j => thB G t j && rcB G t ce i j && rcB G t ce j i) 320
def knI (G : Gr) (t : TR) (ce : Nat → Nat → Nat) (i : Nat) : Int32 := if knB G t ce i = true then nI (knF G t ce i) else m1
theorem knF_le {i : Nat} (hi : i < 320) (hk : knB G t ce i = true) : knF G t ce i ≤ i ∧ (thB G t (knF G t ce i) && rcB G t ce i (knF G t ce i) && rcB G t ce (knF G t ce i) i) = true := by
  unfold knB at hk
  have e : (thB G t i && rcB G t ce i i && rcB G t ce i i) = true := by
    rw [Bool.and_eq_true] at hk
    rw [hk.1, hk.2]; rfl
  have l : knF G t ce i ≤ i := by
    by_cases z : i < knF G t ce i
    · have := fb_below z
      rw [e] at this; exact absurd this (by decide)
    · omega
  have lt : knF G t ce i < 320 := by omega
  exact ⟨l, fb_hit (f := fun j => thB G t j && rcB G t ce i j && rcB G t ce j i) (n := 320) lt⟩
def P167 (b _j : Nat) : Prop := b = 167
theorem loop_knots (N : Nat) (hN : 2000 < N) (hq : QG G) (h : TOK2 G t ce me) : ∀ (fu i : Nat) (M : Mm), i ≤ 320 → 320 < i + fu → RBs G t 320 M → HBt 173 (rcB G t ce) M → (∀ j, j < i → M.1 167 j = knI G t ce j) → ∃ M', L_X12_laysKnots_2 137 N fu (nI i) M = some M' ∧ (∀ j, j < 320 → M'.1 167 j = knI G t ce j) ∧ FX P167 M M'
  | 0, i, M, h1, h2, _, _, _ => by omega
  | fu + 1, i, M, h1, h2, hB, hH, hK => by
    rw [L_X12_laysKnots_2]
    simp only [n_le (show 320 < 2 ^ 31 by omega) (show i < 2 ^ 31 by omega)]
    by_cases e : 320 ≤ i
    · rw [if_pos e]; exact ⟨M, rfl, fun j hj => hK j (by omega), FX.refl⟩
    · have f1 : FX P167 M (upI M 167 i m1) := FX.I rfl
      have hB1 : RBs G t 320 (upI M 167 i m1) := hB.fx f1 fun j => by unfold P167; omega
      have hH1 : HBt 173 (rcB G t ce) (upI M 167 i m1) := hH.fx f1 fun j z => by unfold P167 at z; omega
      rw [if_neg e, show (137 : Nat) + 30 = 167 from rfl, show (137 : Nat) + 37 = 174 from rfl, show (137 : Nat) + 36 = 173 from rfl, stI_n (by omega) (by omega), Option.bind_some, ldI_n (by omega) (by omega), (hB1 i (by omega)).1, Option.bind_some]
      have stay : knB G t ce i = false → ∃ M', ((some (nI i + nI 1)).bind fun l => L_X12_laysKnots_2 137 N fu l (upI M 167 i m1)) = some M' ∧ (∀ j, j < 320 → M'.1 167 j = knI G t ce j) ∧ FX P167 M M' := fun z => by
        rw [Option.bind_some, nI_add]
        obtain ⟨M', a1, a2, a3⟩ := loop_knots N hN hq h fu (i + 1) _ (by omega) (by omega) hB1 hH1 (fun j hj => by
          rw [upI_j]
          by_cases y : j = i
          · subst y; rw [if_pos rfl]; unfold knI; rw [z, if_neg (by decide)]
          · rw [if_neg y]; exact hK j (by omega))
        exact ⟨M', a1, a2, f1.trans a3⟩
      simp only [bI_0]
      cases x : thB G t i
      · rw [if_pos rfl]; exact stay (by unfold knB; rw [x]; rfl)
      · rw [if_neg (by decide), r_bit N len173 hH1 (by omega) (by omega), Option.bind_some]
        simp only [bI_0]
        cases y : rcB G t ce i i
        · rw [if_pos rfl]; exact stay (by unfold knB; rw [x, y]; rfl)
        · have kb : knB G t ce i = true := by unfold knB; rw [x, y]; rfl
          obtain ⟨l1, l2⟩ := knF_le (by omega) kb
          have key : ∀ (kE : Int32 → Option Mm) (fu j : Nat), j ≤ knF G t ce i → 320 < j + fu → L_X12_laysKnots_42 kE 137 (upI M 167 i m1) N (nI i) fu (nI j) = kE (nI (knF G t ce i)) := fun kE fu => by
            induction fu with
            | zero => intro j a b; omega
            | succ fu ih =>
              intro j a b
              rw [L_X12_laysKnots_42, show (137 : Nat) + 37 = 174 from rfl, show (137 : Nat) + 36 = 173 from rfl, ldI_n (by omega) (by omega), (hB1 j (by omega)).1, Option.bind_some, r_bit N len173 hH1 (by omega) (by omega), Option.bind_some, r_bit N len173 hH1 (by omega) (by omega), Option.bind_some]
              simp only [bI_0, Option.bind_some, nI_add]
              by_cases z : j = knF G t ce i
              · rw [← z] at l2
                simp only [Bool.and_eq_true] at l2
                rw [l2.1.1, l2.1.2, l2.2, if_neg (by decide), if_neg (by decide), if_neg (by decide), z]
              · have nb := fb_below (f := fun j => thB G t j && rcB G t ce i j && rcB G t ce j i) (n := 320) (j := j) (show j < knF G t ce i by omega)
                have go := ih (j + 1) (by omega) (by omega)
                cases c1 : thB G t j
                · rw [if_pos rfl]; exact go
                · rw [if_neg (by decide)]
                  cases c2 : rcB G t ce i j
                  · rw [if_pos rfl]; exact go
                  · rw [if_neg (by decide)]
                    cases c3 : rcB G t ce j i
                    · rw [if_pos rfl]; exact go
                    · have nb : (thB G t j && rcB G t ce i j && rcB G t ce j i) = false := nb
                      rw [c1, c2, c3] at nb; exact absurd nb (by decide)
          rw [if_neg (by decide), key _ N 0 (Nat.zero_le _) (by omega), stI_n (by omega) (by omega), Option.bind_some, Option.bind_some, nI_add]
          have f2 : FX P167 M (upI (upI M 167 i m1) 167 i (nI (knF G t ce i))) := f1.trans (FX.I rfl)
          obtain ⟨M', a1, a2, a3⟩ := loop_knots N hN hq h fu (i + 1) _ (by omega) (by omega) (hB.fx f2 fun j => by unfold P167; omega) (hH.fx f2 fun j z => by unfold P167 at z; omega) (fun j hj => by
            rw [upI_j]
            by_cases y : j = i
            · subst y; rw [if_pos rfl]; unfold knI; rw [kb, if_pos rfl]
            · rw [if_neg y, upI_j, if_neg y]; exact hK j (by omega))
          exact ⟨M', a1, a2, f2.trans a3⟩
end tok
