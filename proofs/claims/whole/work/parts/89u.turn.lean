-- the reference turns a knot
def P3t (b _j : Nat) : Prop := b = 166 ∨ b = 168 ∨ b = 175 ∨ b = 176 ∨ b = 180
theorem kI_n {wk : (Nat → Int32) → Nat → Int32} {m : Nat → Bool} {v : Nat → Int32} : ∀ n, (kI wk m n v).2.1 = true → (kI wk m n v).2.2 = n
  | 0, _ => rfl
  | n + 1, h => by
    rw [kI_s] at h ⊢
    by_cases c : (kI wk m n v).2.1 = true
    · rw [if_pos c]
    · rw [if_neg c] at h; exact absurd h c
section tok
variable {G : Gr} {t : TR} {ce : Nat → Nat → Nat} {me : Nat → Nat}
/-- the reference over its tree, instances, knots -/
def RK3 (G : Gr) (t : TR) (ce : Nat → Nat → Nat) (gv : Nat → Int32) (M : Mm) : Prop := RT1 G t M ∧ RBs G t 320 M ∧ HBt 172 (nrB G t ce) M ∧ HBt 173 (rcB G t ce) M ∧ (∀ j, j < 320 → M.1 167 j = knI G t ce j) ∧ ∀ a, a < 4 → M.1 163 a = gv a
theorem RK3.fx {P : Nat → Nat → Prop} {gv : Nat → Int32} {M M' : Mm} (h : RK3 G t ce gv M) (f : FX P M M') (hP : ∀ b j, P b j → b = 166 ∨ b = 168 ∨ b = 169 ∨ b = 175 ∨ b = 176 ∨ b = 180 ∨ b = 137 ∧ j = 72) : RK3 G t ce gv M' := by
  obtain ⟨h1, h2, h3, h4, h5, h6⟩ := h
  exact ⟨h1.fx f fun b j z => by have := hP b j z; omega, h2.fx f fun j => ⟨fun z => by have := hP _ _ z; omega, fun z => by have := hP _ _ z; omega, fun z => by have := hP _ _ z; omega⟩, h3.fx f fun j z => by have := hP _ _ z; omega, h4.fx f fun j z => by have := hP _ _ z; omega, fun j hj => (f.2 _ _ (fun z => by have := hP _ _ z; omega)).1.trans (h5 j hj), fun a ha => (f.2 _ _ (fun z => by have := hP _ _ z; omega)).1.trans (h6 a ha)⟩
theorem knI_eq {i : Nat} {y : Nat} (hi : i < 320) (hy : y < 2 ^ 31) : (knI G t ce i = nI y) = (knB G t ce i = true ∧ knF G t ce i = y) := by
  unfold knI
  by_cases k : knB G t ce i = true
  · have := (knF_le hi k).1
    rw [if_pos k, n_eq (by omega) hy]
    exact propext ⟨fun z => ⟨k, z⟩, fun z => z.2⟩
  · rw [if_neg k]
    exact propext ⟨fun z => absurd z (m1_ne_n hy), fun z => absurd z.1 k⟩
theorem knI_m1 {i : Nat} (hi : i < 320) : (knI G t ce i = m1) = (knB G t ce i = false) := by
  unfold knI
  by_cases k : knB G t ce i = true
  · have := (knF_le hi k).1
    rw [if_pos k, k]
    exact propext ⟨fun z => absurd z (n_ne_m1 (by omega)), fun z => absurd z (by decide)⟩
  · rw [if_neg k]
    have k' : knB G t ce i = false := by cases x : knB G t ce i <;> simp_all
    exact propext ⟨fun _ => k', fun _ => rfl⟩
/-- which are of the knot with this head -/
def hdT (G : Gr) (t : TR) (ce : Nat → Nat → Nat) (y j : Nat) : Bool := knB G t ce j && decide (knF G t ce j = y)
theorem hdT_th {y j : Nat} (h : hdT G t ce y j = true) : thT G t j := by
  unfold hdT knB at h
  simp only [Bool.and_eq_true] at h
  exact thB_t.1 h.1.1
theorem hd_gap (h : TOK2 G t ce me) {y x : Nat} (hx : 8 * tn t ≤ x) : hdT G t ce y x = false := by
  cases c : hdT G t ce y x
  · rfl
  · have := (th_320 h (hdT_th c)).1; omega
/-- a loop over all instances meets a member or not -/
theorem r_meet {i y : Nat} {gv : Nat → Int32} {M : Mm} (R : RK3 G t ce gv M) (hi : i < 320) (hy : y < 320) (A B : Option Mm) (hd : hdT G t ce y i = true → A = B) : ((ldI 320 174 (nI i) M).bind fun v1 => (if v1 = nI 0 then B else ((ldI 320 167 (nI i) M).bind fun v2 => (if v2 = nI y then A else B)))) = if hdT G t ce y i = true then A else B := by
  rw [ldI_n hi (by omega), (R.2.1 i hi).1, Option.bind_some, ldI_n hi (by omega), R.2.2.2.2.1 i hi, Option.bind_some]
  simp only [bI_0, knI_eq hi (show y < 2 ^ 31 by omega)]
  cases x : thB G t i
  · rw [if_pos rfl]
    have : hdT G t ce y i = false := by unfold hdT knB; rw [x]; rfl
    rw [this, if_neg (by decide)]
  · rw [if_neg (by decide)]
    by_cases c : knB G t ce i = true ∧ knF G t ce i = y
    · have : hdT G t ce y i = true := by unfold hdT; rw [c.1, decide_eq_true c.2]; rfl
      rw [if_pos c, this, if_pos rfl]
    · have : hdT G t ce y i = false := by
        unfold hdT
        by_cases k : knB G t ce i = true
        · rw [decide_eq_false (fun z => c ⟨k, z⟩), Bool.and_false]
        · have k' : knB G t ce i = false := by cases z : knB G t ce i <;> simp_all
          rw [k']; rfl
      rw [if_neg c, this, if_neg (by decide)]
theorem r_meet' {i y : Nat} {gv : Nat → Int32} {M : Mm} (R : RK3 G t ce gv M) (hi : i < 320) (hy : y < 320) {A B : Option Mm} : ((ldI 320 174 (nI i) M).bind fun v1 => (if v1 = nI 0 then B else ((ldI 320 167 (nI i) M).bind fun v2 => (if v2 = nI y then A else B)))) = if hdT G t ce y i = true then A else B := by
  by_cases c : hdT G t ce y i = true
  · rw [if_pos c, ldI_n hi (by omega), (R.2.1 i hi).1, Option.bind_some, ldI_n hi (by omega), R.2.2.2.2.1 i hi, Option.bind_some]
    have th := hdT_th c
    unfold hdT at c
    rw [Bool.and_eq_true, decide_eq_true_eq] at c
    rw [thB_t.2 th, if_neg (show ¬ bI true = nI 0 from z10), if_pos (by rw [knI_eq hi (by omega)]; exact c)]
  · exact r_meet R hi hy A B (fun z => absurd z c)
variable {gv : Nat → Int32}
theorem tk_zero {y : Nat} (h : TOK2 G t ce me) (hy : y < 320) (v : Nat → Int32) (kE : Mm → Option Mm) : ∀ (fu i : Nat) (M : Mm), i ≤ 8 * tn t → 320 < i + fu → RK3 G t ce gv M → (∀ x, M.1 166 x = if hdT G t ce y x = true ∧ x < i then nI 0 else v x) → ∃ M', L_X12_turnsKnot_2 kE 137 (nI y) fu (nI i) M = kE M' ∧ M'.1 166 = zer (hdT G t ce y) v ∧ FX (fun b _ => b = 166) M M'
  | 0, i, M, h1, h2, _, _ => by have := h.2.2.2.1; omega
  | fu + 1, i, M, h1, h2, R, hv => by
    have h40 := h.2.2.2.1
    rw [L_X12_turnsKnot_2, R.1.2.1, pk_mul]
    simp only [n_le (show 8 * tn t < 2 ^ 31 by omega) (show i < 2 ^ 31 by omega)]
    by_cases e : 8 * tn t ≤ i
    · rw [if_pos e]
      refine ⟨M, rfl, funext fun x => ?_, FX.refl⟩
      rw [hv x]
      unfold zer
      by_cases c : hdT G t ce y x = true
      · have := (th_320 h (hdT_th c)).1
        rw [if_pos ⟨c, by omega⟩, if_pos c]
      · rw [if_neg (fun z => c z.1), if_neg c]
    · rw [if_neg e, show (137 : Nat) + 37 = 174 from rfl, show (137 : Nat) + 30 = 167 from rfl, show (137 : Nat) + 29 = 166 from rfl, r_meet' R (by omega) hy]
      by_cases c : hdT G t ce y i = true
      · rw [if_pos c, stI_n (by omega) (by omega), Option.bind_some, Option.bind_some, nI_add]
        have f1 : FX (fun b _ => b = 166) M (upI M 166 i (nI 0)) := FX.I rfl
        obtain ⟨M', a1, a2, a3⟩ := tk_zero h hy v kE fu (i + 1) (upI M 166 i (nI 0)) (by omega) (by omega) (R.fx f1 fun b j z => Or.inl z) (fun x => by
          rw [upI_j]
          by_cases d : x = i
          · rw [if_pos d, if_pos ⟨by rw [d]; exact c, by omega⟩]
          · rw [if_neg d, hv x]
            by_cases d2 : hdT G t ce y x = true ∧ x < i
            · rw [if_pos d2, if_pos ⟨d2.1, by omega⟩]
            · rw [if_neg d2, if_neg (fun z => d2 ⟨z.1, by omega⟩)])
        exact ⟨M', a1, a2, f1.trans a3⟩
      · rw [if_neg c, Option.bind_some, nI_add]
        exact tk_zero h hy v kE fu (i + 1) M (by omega) (by omega) R (fun x => by
          rw [hv x]
          by_cases d : hdT G t ce y x = true ∧ x < i
          · rw [if_pos d, if_pos ⟨d.1, by omega⟩]
          · rw [if_neg d]
            by_cases d2 : hdT G t ce y x = true ∧ x < i + 1
            · have : x = i := by
                by_cases u : x < i
                · exact absurd ⟨d2.1, u⟩ d
                · omega
              rw [this] at d2; exact absurd d2.1 c
            · rw [if_neg d2])
theorem tk_turn {y : Nat} (N : Nat) (hN : 2000 < N) (h : TOK2 G t ce me) (hy : y < 320) (v : Nat → Int32) (kE : Int32 → Mm → Option Mm) : ∀ (fu i : Nat) (M : Mm), i ≤ 8 * tn t → 320 < i + fu → RK3 G t ce gv M → M.1 166 = tI (wkT G t ce gv) (hdT G t ce y) i v → ∃ M', L_X12_turnsKnot_67 kE 137 (nI y) N fu (bI (tC (wkT G t ce gv) (hdT G t ce y) i v)) (nI i) M = kE (bI (tC (wkT G t ce gv) (hdT G t ce y) 320 v)) M' ∧ M'.1 166 = tI (wkT G t ce gv) (hdT G t ce y) 320 v ∧ FX (fun b _ => b = 166 ∨ b = 180) M M'
  | 0, i, M, h1, h2, _, _ => by have := h.2.2.2.1; omega
  | fu + 1, i, M, h1, h2, R, hv => by
    have h40 := h.2.2.2.1
    rw [L_X12_turnsKnot_67, R.1.2.1, pk_mul]
    simp only [n_le (show 8 * tn t < 2 ^ 31 by omega) (show i < 2 ^ 31 by omega)]
    by_cases e : 8 * tn t ≤ i
    · have ei : i = 8 * tn t := by omega
      obtain ⟨s1, s2⟩ := tI_skip (wk := wkT G t ce gv) (m := hdT G t ce y) (v := v) (a := i) (320 - i) (fun x x1 x2 => hd_gap h (by omega))
      rw [show i + (320 - i) = 320 by omega] at s1 s2
      rw [if_pos e, s2, s1]
      exact ⟨M, rfl, hv, FX.refl⟩
    · rw [if_neg e, show (137 : Nat) + 37 = 174 from rfl, show (137 : Nat) + 30 = 167 from rfl, show (137 : Nat) + 29 = 166 from rfl, r_meet' R (by omega) hy]
      by_cases c : hdT G t ce y i = true
      · obtain ⟨M1, r1, r2⟩ := r_worked N hN h (hdT_th c) R.1 R.2.1 R.2.2.2.2.2
        have e166 : M1.1 166 = M.1 166 := funext fun j => (r2.2 _ _ (fun z => by unfold P180 at z; omega)).1
        have p132 : (jn (fun (p127 : Unit) => (some (nI 1))) fun J1 => (if bI (tC (wkT G t ce gv) (hdT G t ce y) i v) = nI 0 then ((ldI 320 166 (nI i) M1).bind fun v5 => (if wkT G t ce gv (M.1 166) i = v5 then (some (nI 0)) else (J1 ()))) else (J1 ()))) = some (bI (tC (wkT G t ce gv) (hdT G t ce y) (i + 1) v)) := by
          show _ = some (bI (tC (wkT G t ce gv) (hdT G t ce y) i v || (hdT G t ce y i && !decide (wkT G t ce gv (tI (wkT G t ce gv) (hdT G t ce y) i v) i = tI (wkT G t ce gv) (hdT G t ce y) i v i))))
          rw [c, Bool.true_and, ← hv]
          simp only [jn, bI_0]
          rw [ldI_n (by omega) (by omega), e166, Option.bind_some]
          cases tC (wkT G t ce gv) (hdT G t ce y) i v
          · rw [if_pos rfl, Bool.false_or]
            by_cases d : wkT G t ce gv (M.1 166) i = M.1 166 i
            · rw [if_pos d, decide_eq_true d]; rfl
            · rw [if_neg d, decide_eq_false d]; rfl
          · rw [if_neg (by decide), Bool.true_or]; rfl
        rw [if_pos c, r1, Option.bind_some, p132, Option.bind_some, stI_n (by omega) (by omega), Option.bind_some, Option.bind_some, nI_add]
        have f1 : FX (fun b _ => b = 166 ∨ b = 180) M (upI M1 166 i (wkT G t ce gv (M.1 166) i)) := (r2.mono fun b j z => Or.inr z).trans (FX.I (Or.inl rfl))
        obtain ⟨M', a1, a2, a3⟩ := tk_turn N hN h hy v kE fu (i + 1) (upI M1 166 i (wkT G t ce gv (M.1 166) i)) (by omega) (by omega) (R.fx f1 fun b j z => by omega) (by
          show _ = (if hdT G t ce y i = true then upd (tI (wkT G t ce gv) (hdT G t ce y) i v) i (wkT G t ce gv (tI (wkT G t ce gv) (hdT G t ce y) i v) i) else _)
          rw [if_pos c, ← hv]
          exact funext fun x => by rw [upI_j, upd_a, e166])
        exact ⟨M', a1, a2, f1.trans a3⟩
      · have c' : hdT G t ce y i = false := by cases z : hdT G t ce y i <;> simp_all
        rw [if_neg c, Option.bind_some, nI_add]
        have ec : tC (wkT G t ce gv) (hdT G t ce y) (i + 1) v = tC (wkT G t ce gv) (hdT G t ce y) i v := by
          show (tC (wkT G t ce gv) (hdT G t ce y) i v || (hdT G t ce y i && _)) = _
          rw [c', Bool.false_and, Bool.or_false]
        have ei : tI (wkT G t ce gv) (hdT G t ce y) (i + 1) v = tI (wkT G t ce gv) (hdT G t ce y) i v := by
          show (if hdT G t ce y i = true then _ else _) = _
          rw [if_neg c]
        rw [← ec]
        exact tk_turn N hN h hy v kE fu (i + 1) M (by omega) (by omega) R (by rw [ei]; exact hv)
theorem tk_turns {y : Nat} (N : Nat) (hN : 2000 < N) (h : TOK2 G t ce me) (hy : y < 320) (v : Nat → Int32) (kE : Int32 → Int32 → Mm → Option Mm) : ∀ (fu n : Nat) (M : Mm), n ≤ 64 → 65 < n + fu → RK3 G t ce gv M → M.1 166 = (kI (wkT G t ce gv) (hdT G t ce y) n v).1 → (kI (wkT G t ce gv) (hdT G t ce y) n v).2.2 = n → ∃ M', L_X12_turnsKnot_49 kE 137 (nI y) N fu (nI n) (bI (kI (wkT G t ce gv) (hdT G t ce y) n v).2.1) M = kE (nI (kI (wkT G t ce gv) (hdT G t ce y) 64 v).2.2) (bI (kI (wkT G t ce gv) (hdT G t ce y) 64 v).2.1) M' ∧ M'.1 166 = (kI (wkT G t ce gv) (hdT G t ce y) 64 v).1 ∧ FX (fun b _ => b = 166 ∨ b = 180) M M'
  | 0, n, M, h1, h2, _, _, _ => by omega
  | fu + 1, n, M, h1, h2, R, hv, hn => by
    rw [L_X12_turnsKnot_49]
    simp only [bI_0, n_le (show 64 < 2 ^ 31 by omega) (show n < 2 ^ 31 by omega)]
    cases c : (kI (wkT G t ce gv) (hdT G t ce y) n v).2.1
    · rw [if_pos rfl]
      have st := kI_stop c (64 - n)
      rw [show n + (64 - n) = 64 by omega] at st
      rw [st, hn, c]
      exact ⟨M, rfl, hv, FX.refl⟩
    · rw [if_neg (by decide)]
      by_cases e : 64 ≤ n
      · have en : n = 64 := by omega
        subst en
        rw [if_pos e, hn, c]
        exact ⟨M, rfl, hv, FX.refl⟩
      · rw [if_neg e, Option.bind_some, nI_add]
        have es : kI (wkT G t ce gv) (hdT G t ce y) (n + 1) v = (tI (wkT G t ce gv) (hdT G t ce y) 320 (kI (wkT G t ce gv) (hdT G t ce y) n v).1, tC (wkT G t ce gv) (hdT G t ce y) 320 (kI (wkT G t ce gv) (hdT G t ce y) n v).1, n + 1) := by rw [kI_s, c, if_pos rfl]
        obtain ⟨M1, a1, a2, a3⟩ := tk_turn N hN h hy (kI (wkT G t ce gv) (hdT G t ce y) n v).1 (fun (l3_3 : Int32) (M7 : Mm) => (L_X12_turnsKnot_49 kE 137 (nI y) N fu (nI (n + 1)) l3_3 M7)) N 0 M (Nat.zero_le _) (by omega) R hv
        have a1 : L_X12_turnsKnot_67 _ 137 (nI y) N N (nI 0) (nI 0) M = _ := a1
        rw [a1]
        obtain ⟨M2, b1, b2, b3⟩ := tk_turns N hN h hy v kE fu (n + 1) M1 (by omega) (by omega) (R.fx a3 fun b j z => by omega) (by rw [es]; exact a2) (by rw [es])
        rw [es] at b1
        have e2 : ∀ a b c, ((a, b, c) : (Nat → Int32) × Bool × Nat).2.1 = b := fun _ _ _ => rfl
        rw [e2] at b1
        exact ⟨M2, b1, b2, a3.trans b3⟩
theorem tk_mark {y n : Nat} {b : Bool} (h : TOK2 G t ce me) (hy : y < 320) : ∀ (fu i : Nat) (M : Mm), i ≤ 8 * tn t → 320 < i + fu → RK3 G t ce gv M → ∃ M', L_X12_turnsKnot_154 137 (nI y) (nI n) (bI b) fu (nI i) M = some M' ∧ (∀ x, i ≤ x → hdT G t ce y x = true → M'.1 168 x = nI n ∧ M'.1 175 x = bI b ∧ M'.1 176 x = nI 1) ∧ (∀ x, (x < i ∨ hdT G t ce y x = false) → M'.1 168 x = M.1 168 x ∧ M'.1 175 x = M.1 175 x ∧ M'.1 176 x = M.1 176 x) ∧ FX (fun b _ => b = 168 ∨ b = 175 ∨ b = 176) M M'
  | 0, i, M, h1, h2, _ => by have := h.2.2.2.1; omega
  | fu + 1, i, M, h1, h2, R => by
    have h40 := h.2.2.2.1
    rw [L_X12_turnsKnot_154, R.1.2.1, pk_mul]
    simp only [n_le (show 8 * tn t < 2 ^ 31 by omega) (show i < 2 ^ 31 by omega)]
    by_cases e : 8 * tn t ≤ i
    · rw [if_pos e]
      exact ⟨M, rfl, fun x x1 x2 => by have := (th_320 h (hdT_th x2)).1; omega, fun x _ => ⟨rfl, rfl, rfl⟩, FX.refl⟩
    · rw [if_neg e, show (137 : Nat) + 37 = 174 from rfl, show (137 : Nat) + 30 = 167 from rfl, show (137 : Nat) + 31 = 168 from rfl, show (137 : Nat) + 38 = 175 from rfl, show (137 : Nat) + 39 = 176 from rfl, r_meet' R (by omega) hy]
      by_cases c : hdT G t ce y i = true
      · rw [if_pos c, stI_n (by omega) (by omega), Option.bind_some, stZ_n (by omega) (by omega), Option.bind_some, stZ_1 (by omega) (by omega), Option.bind_some, Option.bind_some, nI_add]
        have f1 : FX (fun b _ => b = 168 ∨ b = 175 ∨ b = 176) M (upI (upI (upI M 168 i (nI n)) 175 i (bI b)) 176 i (nI 1)) := ((FX.I (P := fun b _ => b = 168 ∨ b = 175 ∨ b = 176) (by omega)).trans (FX.I (by omega))).trans (FX.I (by omega))
        have r0 : ∀ x, (upI (upI (upI M 168 i (nI n)) 175 i (bI b)) 176 i (nI 1)).1 168 x = (if x = i then nI n else M.1 168 x) ∧ (upI (upI (upI M 168 i (nI n)) 175 i (bI b)) 176 i (nI 1)).1 175 x = (if x = i then bI b else M.1 175 x) ∧ (upI (upI (upI M 168 i (nI n)) 175 i (bI b)) 176 i (nI 1)).1 176 x = (if x = i then nI 1 else M.1 176 x) := fun x => ⟨by rw [upI_n (by decide), upI_n (by decide), upI_j], by rw [upI_n (by decide), upI_j, upI_n (by decide)], by rw [upI_j, upI_n (by decide), upI_n (by decide)]⟩
        obtain ⟨M', a1, a2, a3, a4⟩ := tk_mark h hy (n := n) (b := b) fu (i + 1) _ (by omega) (by omega) (R.fx f1 fun b j z => by omega)
        refine ⟨M', a1, fun x x1 x2 => ?_, fun x hx => ?_, f1.trans a4⟩
        · by_cases d : x = i
          · obtain ⟨q1, q2, q3⟩ := a3 x (Or.inl (by omega))
            rw [q1, q2, q3, (r0 x).1, (r0 x).2.1, (r0 x).2.2, if_pos d, if_pos d, if_pos d]; exact ⟨rfl, rfl, rfl⟩
          · exact a2 x (by omega) x2
        · have d : ¬ x = i := fun z => by
            rcases hx with hx | hx
            · omega
            · rw [z, c] at hx; exact absurd hx (by decide)
          obtain ⟨q1, q2, q3⟩ := a3 x (hx.imp (fun z => by omega) id)
          rw [q1, q2, q3, (r0 x).1, (r0 x).2.1, (r0 x).2.2, if_neg d, if_neg d, if_neg d]; exact ⟨rfl, rfl, rfl⟩
      · have c' : hdT G t ce y i = false := by cases z : hdT G t ce y i <;> simp_all
        rw [if_neg c, Option.bind_some, nI_add]
        obtain ⟨M', a1, a2, a3, a4⟩ := tk_mark h hy (n := n) (b := b) fu (i + 1) M (by omega) (by omega) R
        refine ⟨M', a1, fun x x1 x2 => ?_, fun x hx => a3 x ?_, a4⟩
        · by_cases d : x = i
          · rw [d, c'] at x2; exact absurd x2 (by decide)
          · exact a2 x (by omega) x2
        · exact hx.imp (fun z => by omega) id
theorem r_turnsKnot {y : Nat} {M : Mm} (N : Nat) (hN : 2000 < N) (h : TOK2 G t ce me) (hy : y < 320) (R : RK3 G t ce gv M) : ∃ M', D_X12_turnsKnot N 137 (nI y) M = some M' ∧ M'.1 166 = (kI (wkT G t ce gv) (hdT G t ce y) 64 (zer (hdT G t ce y) (M.1 166))).1 ∧ (∀ x, hdT G t ce y x = true → M'.1 168 x = nI (kI (wkT G t ce gv) (hdT G t ce y) 64 (zer (hdT G t ce y) (M.1 166))).2.2 ∧ M'.1 175 x = bI (kI (wkT G t ce gv) (hdT G t ce y) 64 (zer (hdT G t ce y) (M.1 166))).2.1 ∧ M'.1 176 x = nI 1) ∧ (∀ x, hdT G t ce y x = false → M'.1 168 x = M.1 168 x ∧ M'.1 175 x = M.1 175 x ∧ M'.1 176 x = M.1 176 x) ∧ FX P3t M M' := by
  unfold D_X12_turnsKnot
  obtain ⟨M1, a1, a2, a3⟩ := tk_zero h hy (M.1 166) (fun (M3 : Mm) => (L_X12_turnsKnot_49 (fun (l2_7 : Int32) (l3_4 : Int32) (M8 : Mm) => (L_X12_turnsKnot_154 137 (nI y) l2_7 l3_4 N (nI 0) M8)) 137 (nI y) N N (nI 0) (nI 1) M3)) N 0 M (Nat.zero_le _) (by omega) R (fun x => by rw [if_neg (fun z => by omega)])
  rw [a1]
  have R1 := R.fx a3 fun b j z => Or.inl z
  obtain ⟨M2, b1, b2, b3⟩ := tk_turns N hN h hy (zer (hdT G t ce y) (M.1 166)) (fun (l2_7 : Int32) (l3_4 : Int32) (M8 : Mm) => (L_X12_turnsKnot_154 137 (nI y) l2_7 l3_4 N (nI 0) M8)) N 0 M1 (by omega) (by omega) R1 a2 rfl
  have b1 : L_X12_turnsKnot_49 _ 137 (nI y) N N (nI 0) (nI 1) M1 = _ := b1
  rw [b1]
  have R2 := R1.fx b3 fun b j z => by omega
  obtain ⟨M3, c1, c2, c3, c4⟩ := tk_mark h hy (n := (kI (wkT G t ce gv) (hdT G t ce y) 64 (zer (hdT G t ce y) (M.1 166))).2.2) (b := (kI (wkT G t ce gv) (hdT G t ce y) 64 (zer (hdT G t ce y) (M.1 166))).2.1) N 0 M2 (Nat.zero_le _) (by omega) R2
  have F2 : FX P3t M M2 := (a3.mono fun b j z => Or.inl z).trans (b3.mono fun b j z => by rcases z with z | z <;> simp [P3t, z])
  refine ⟨M3, c1, ?_, fun x hx => c2 x (Nat.zero_le _) hx, fun x hx => ?_, F2.trans (c4.mono fun b j z => by rcases z with z | z | z <;> simp [P3t, z])⟩
  · rw [← b2]; exact funext fun j => (c4.2 166 j (fun z => by omega)).1
  · obtain ⟨q1, q2, q3⟩ := c3 x (Or.inr hx)
    have g : ∀ b, b = 168 ∨ b = 175 ∨ b = 176 → M2.1 b x = M.1 b x := fun b hb => ((b3.2 b x (fun z => by omega)).1).trans (a3.2 b x (fun z => by omega)).1
    rw [q1, q2, q3, g _ (Or.inl rfl), g _ (Or.inr (Or.inl rfl)), g _ (Or.inr (Or.inr rfl))]; exact ⟨rfl, rfl, rfl⟩
end tok
