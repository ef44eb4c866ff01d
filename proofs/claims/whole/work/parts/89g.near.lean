-- the reference: what hangs on what near, and what reaches what
/-- rows of words that hold a square of bits -/
def HBt (a : Nat) (f : Nat → Nat → Bool) (M : Mm) : Prop := ∀ i, i < 320 → ∀ u, u < 10 → ∃ v, M.1 a (10 * i + u) = nI v ∧ v < 2 ^ 32 ∧ ∀ b, b < 32 → v.testBit b = f i (32 * u + b)
theorem HBt.cg {a : Nat} {f g : Nat → Nat → Bool} {M : Mm} (h : HBt a f M) (e : ∀ i j, i < 320 → j < 320 → f i j = g i j) : HBt a g M := fun i hi u hu => by
  obtain ⟨v, v1, v2, v3⟩ := h i hi u hu
  exact ⟨v, v1, v2, fun b hb => by rw [v3 b hb]; exact e i _ hi (by omega)⟩
theorem HBt.fx {P : Nat → Nat → Prop} {a : Nat} {f : Nat → Nat → Bool} {M M' : Mm} (h : HBt a f M) (fx : FX P M M') (hP : ∀ j, ¬ P a j) : HBt a f M' := fun i hi u hu => by
  obtain ⟨v, v1, v2⟩ := h i hi u hu
  exact ⟨v, (fx.2 a _ (hP _)).1.trans v1, v2⟩
theorem len172 : len 172 = 3200 := rfl
theorem len173 : len 173 = 3200 := rfl
theorem r_bit {a i j : Nat} {f : Nat → Nat → Bool} {M : Mm} (N : Nat) (hlen : len a = 3200) (h : HBt a f M) (hi : i < 320) (hj : j < 320) : D_X12_bit N a (nI i) (nI j) M = some (bI (f i j)) := by
  obtain ⟨v, v1, v2, v3⟩ := h i hi (j / 32) (by omega)
  have e := v3 (j % 32) (by omega)
  rw [show 32 * (j / 32) + j % 32 = j by omega] at e
  unfold D_X12_bit
  rw [dv_n (by omega) (by omega) (by omega), Option.bind_some, pk_mul, nI_add, hlen, ldI_n (by omega) (by omega), v1, Option.bind_some, rm_n (by omega) (by omega) (by omega), Option.bind_some, bitI v2 (by omega), e]
  simp only [bI_1]
  cases f i j
  · rw [if_neg (by decide)]; rfl
  · rw [if_pos rfl]; rfl
/-- one bit is set -/
theorem HBt.set {a i j v : Nat} {f : Nat → Nat → Bool} {M : Mm} (h : HBt a f M) (hi : i < 320) (hj : j < 320) (v1 : M.1 a (10 * i + j / 32) = nI v) (v2 : v < 2 ^ 32) (v3 : ∀ b, b < 32 → v.testBit b = f i (32 * (j / 32) + b)) : HBt a (fun r x => if r = i ∧ x = j then true else f r x) (upI M a (10 * i + j / 32) (nI (v ||| 1 * 2 ^ (j % 32)))) := fun r hr u hu => by
  rw [upI_j]
  by_cases z : 10 * r + u = 10 * i + j / 32
  · have z1 : r = i := by omega
    have z2 : u = j / 32 := by omega
    subst z1 z2
    rw [if_pos z]
    refine ⟨_, rfl, or_lt v2 (by rw [Nat.one_mul]; exact Nat.pow_lt_pow_right (by decide) (by omega)), fun b hb => ?_⟩
    rw [bit_or, Nat.one_mul, v3 b hb]
    show _ = (if r = r ∧ 32 * (j / 32) + b = j then true else f r (32 * (j / 32) + b))
    by_cases y : b = j % 32
    · subst y
      have pb : (2 ^ (j % 32)).testBit (j % 32) = true := (pow_bit _ _).2 rfl
      rw [if_pos ⟨rfl, by omega⟩, pb, Bool.or_true]
    · rw [if_neg (fun q => y (by omega))]
      have : (2 ^ (j % 32)).testBit b = false := by
        cases q : (2 ^ (j % 32)).testBit b
        · rfl
        · exact absurd ((pow_bit _ _).1 q) y
      rw [this, Bool.or_false]
  · rw [if_neg z]
    obtain ⟨w, w1, w2, w3⟩ := h r hr u hu
    refine ⟨w, w1, w2, fun b hb => ?_⟩
    rw [w3 b hb]
    show _ = (if r = i ∧ 32 * u + b = j then true else f r (32 * u + b))
    rw [if_neg (fun q => z (by omega))]
def nrP (G : Gr) (t : TR) (ce : Nat → Nat → Nat) (o i j : Nat) : Bool := decide (fb (fun o => (akT G t i).testBit o && decide (inT ce (bsT G t i - 1) o = j)) o < o)
def nrB (G : Gr) (t : TR) (ce : Nat → Nat → Nat) (i j : Nat) : Bool := thB G t i && nrP G t ce 32 i j
theorem fb_lt {f : Nat → Bool} {n : Nat} : fb f n < n ↔ ∃ o, o < n ∧ f o = true := ⟨fun h => ⟨fb f n, h, fb_hit h⟩, fun ⟨_, h1, h2⟩ => fb_ex h1 h2⟩
theorem nrP_t {G : Gr} {t : TR} {ce : Nat → Nat → Nat} {o i j : Nat} : nrP G t ce o i j = true ↔ ∃ o', o' < o ∧ (akT G t i).testBit o' = true ∧ inT ce (bsT G t i - 1) o' = j := by
  unfold nrP
  rw [decide_eq_true_eq, fb_lt]
  simp only [Bool.and_eq_true, decide_eq_true_eq]
theorem nrB_t {G : Gr} {t : TR} {ce : Nat → Nat → Nat} {i j : Nat} : nrB G t ce i j = true ↔ thT G t i ∧ nrT G t ce i j := by
  unfold nrB nrT
  rw [Bool.and_eq_true, thB_t, nrP_t]
theorem nrP_s {G : Gr} {t : TR} {ce : Nat → Nat → Nat} {o i j : Nat} : nrP G t ce (o + 1) i j = (nrP G t ce o i j || ((akT G t i).testBit o && decide (inT ce (bsT G t i - 1) o = j))) := by
  refine Bool.eq_iff_iff.2 ?_
  rw [nrP_t, Bool.or_eq_true, nrP_t, Bool.and_eq_true, decide_eq_true_eq]
  constructor
  · rintro ⟨o', h1, h2⟩
    by_cases z : o' = o
    · subst z; exact Or.inr h2
    · exact Or.inl ⟨o', by omega, h2⟩
  · rintro (⟨o', h1, h2⟩ | h)
    · exact ⟨o', by omega, h2⟩
    · exact ⟨o, by omega, h⟩
def P172 (b _j : Nat) : Prop := b = 172
def P173 (b _j : Nat) : Prop := b = 173
theorem loop_near0 (kE : Mm → Option Mm) : ∀ (fu i : Nat) (M : Mm), i ≤ 3200 → 3200 < i + fu → (∀ j, j < i → M.1 172 j = nI 0) → ∃ M', L_X12_laysReach_2 kE 137 fu (nI i) M = kE M' ∧ (∀ j, j < 3200 → M'.1 172 j = nI 0) ∧ FX P172 M M'
  | 0, i, M, h1, h2, _ => by omega
  | fu + 1, i, M, h1, h2, h => by
    rw [L_X12_laysReach_2]
    simp only [n_le (show 3200 < 2 ^ 31 by omega) (show i < 2 ^ 31 by omega)]
    by_cases e : 3200 ≤ i
    · rw [if_pos e]; exact ⟨M, rfl, fun j hj => h j (by omega), FX.refl⟩
    · have f1 : FX P172 M (upI M 172 i (nI 0)) := FX.I rfl
      rw [if_neg e, show (137 : Nat) + 35 = 172 from rfl, stI_n (by omega) (by omega), Option.bind_some, Option.bind_some, nI_add]
      obtain ⟨M', a1, a2, a3⟩ := loop_near0 kE fu (i + 1) _ (by omega) (by omega) (fun j hj => by
        rw [upI_j]
        by_cases z : j = i
        · rw [if_pos z]
        · rw [if_neg z]; exact h j (by omega))
      exact ⟨M', a1, a2, f1.trans a3⟩
theorem loop_copyR (kE : Mm → Option Mm) : ∀ (fu i : Nat) (M : Mm), i ≤ 3200 → 3200 < i + fu → (∀ j, j < i → M.1 173 j = M.1 172 j) → ∃ M', L_X12_laysReach_120 kE 137 fu (nI i) M = kE M' ∧ (∀ j, j < 3200 → M'.1 173 j = M'.1 172 j) ∧ FX P173 M M'
  | 0, i, M, h1, h2, _ => by omega
  | fu + 1, i, M, h1, h2, h => by
    rw [L_X12_laysReach_120]
    simp only [n_le (show 3200 < 2 ^ 31 by omega) (show i < 2 ^ 31 by omega)]
    by_cases e : 3200 ≤ i
    · rw [if_pos e]; exact ⟨M, rfl, fun j hj => h j (by omega), FX.refl⟩
    · have f1 : FX P173 M (upI M 173 i (M.1 172 i)) := FX.I rfl
      rw [if_neg e, show (137 : Nat) + 35 = 172 from rfl, show (137 : Nat) + 36 = 173 from rfl, ldI_n (by omega) (by omega), Option.bind_some, stI_n (by omega) (by omega), Option.bind_some, Option.bind_some, nI_add]
      obtain ⟨M', a1, a2, a3⟩ := loop_copyR kE fu (i + 1) (upI M 173 i (M.1 172 i)) (by omega) (by omega) (fun j hj => by
        rw [upI_j, upI_n (by decide)]
        by_cases z : j = i
        · rw [if_pos z, z]
        · rw [if_neg z]; exact h j (by omega))
      exact ⟨M', a1, a2, f1.trans a3⟩
section tok
variable {G : Gr} {t : TR} {ce : Nat → Nat → Nat} {me : Nat → Nat}
theorem loop_nearO {i : Nat} (N : Nat) (hN : 2000 < N) (h : TOK2 G t ce me) (hi : thT G t i) (kE : Mm → Option Mm) : ∀ (fu o : Nat) (M : Mm), o ≤ 32 → 32 < o + fu → RT1 G t M → RBs G t 320 M → HBt 172 (fun r x => if r = i then nrP G t ce o i x else if r < i then nrB G t ce r x else false) M → ∃ M', L_X12_laysReach_51 kE N (nI (akT G t i)) 137 (nI i) fu (nI o) M = kE M' ∧ HBt 172 (fun r x => if r < i + 1 then nrB G t ce r x else false) M' ∧ FX P172 M M'
  | 0, o, M, h1, h2, _, _, _ => by omega
  | fu + 1, o, M, h1, h2, R, hB, hH => by
    obtain ⟨i8, i3⟩ := th_320 h hi
    have hq := R.1.g
    rw [L_X12_laysReach_51]
    simp only [n_le (show 32 < 2 ^ 31 by omega) (show o < 2 ^ 31 by omega)]
    by_cases e : 32 ≤ o
    · rw [if_pos e]
      have eo : o = 32 := by omega
      subst eo
      refine ⟨M, rfl, hH.cg fun r x hr hx => ?_, FX.refl⟩
      show (if r = i then nrP G t ce 32 i x else if r < i then nrB G t ce r x else false) = if r < i + 1 then nrB G t ce r x else false
      by_cases z : r = i
      · subst z; rw [if_pos rfl, if_pos (by omega)]; unfold nrB; rw [thB_t.2 hi, Bool.true_and]
      · rw [if_neg z]
        by_cases y : r < i
        · rw [if_pos y, if_pos (by omega)]
        · rw [if_neg y, if_neg (by omega)]
    · rw [if_neg e, r_has N M (akT_lt hq h hi) (by omega), Option.bind_some]
      simp only [bI_0]
      cases x : (akT G t i).testBit o
      · rw [if_pos rfl, Option.bind_some, nI_add]
        exact loop_nearO N hN h hi kE fu (o + 1) M (by omega) (by omega) R hB (hH.cg fun r y hr hy => by
          show (if r = i then nrP G t ce o i y else _) = (if r = i then nrP G t ce (o + 1) i y else _)
          rw [nrP_s, x, Bool.false_and, Bool.or_false])
      · obtain ⟨a1, a2, a3, a4, a5⟩ := ak_told hq h hi x
        obtain ⟨s1, s2⟩ := in_us hq h.1 a2 a4
        obtain ⟨j8, j3⟩ := th_320 h s2
        have b2 := ((hB i i3).2 hi).1
        obtain ⟨v, v1, v2, v3⟩ := hH i i3 (inT ce (bsT G t i - 1) o / 32) (by omega)
        rw [if_neg (by decide), show (137 : Nat) + 27 = 164 from rfl, show (137 : Nat) + 35 = 172 from rfl, ldI_n i3 (by omega), b2, Option.bind_some, nP_s (by omega), r_instanceOf N hN h R a2 a3 s1, Option.bind_some, dv_n (by omega) (by omega) (by omega), Option.bind_some, pk_mul, nI_add, ldI_n (by omega) (by omega), v1, Option.bind_some, rm_n (by omega) (by omega) (by omega), Option.bind_some, n_shl _ (by omega), n_or, stI_n (by omega) (by omega), Option.bind_some, Option.bind_some, nI_add]
        have f1 : FX P172 M (upI M 172 (10 * i + inT ce (bsT G t i - 1) o / 32) (nI (v ||| 1 * 2 ^ (inT ce (bsT G t i - 1) o % 32)))) := FX.I rfl
        obtain ⟨M', c1, c2, c3⟩ := loop_nearO N hN h hi kE fu (o + 1) _ (by omega) (by omega) (R.fx f1 fun b j z => by unfold P172 at z; omega) (fun k hk => by
          rw [(f1.2 174 k (fun z => by unfold P172 at z; omega)).1, (f1.2 164 k (fun z => by unfold P172 at z; omega)).1, (f1.2 165 k (fun z => by unfold P172 at z; omega)).1]; exact hB k hk) ((hH.set i3 j3 v1 v2 v3).cg fun r y hr hy => by
          show (if r = i ∧ y = inT ce (bsT G t i - 1) o then true else (if r = i then nrP G t ce o i y else if r < i then nrB G t ce r y else false)) = (if r = i then nrP G t ce (o + 1) i y else if r < i then nrB G t ce r y else false)
          by_cases z : r = i
          · rw [if_pos z, if_pos z, nrP_s, x, Bool.true_and]
            by_cases w : y = inT ce (bsT G t i - 1) o
            · rw [if_pos ⟨z, w⟩, decide_eq_true w.symm, Bool.or_true]
            · rw [if_neg (fun q => w q.2), decide_eq_false (fun q => w q.symm), Bool.or_false]
          · rw [if_neg (fun q => z q.1), if_neg z, if_neg z])
        exact ⟨M', c1, c2, f1.trans c3⟩
theorem loop_nearI (N : Nat) (hN : 2000 < N) (h : TOK2 G t ce me) (kE : Mm → Option Mm) : ∀ (fu i : Nat) (M : Mm), i ≤ 320 → 320 < i + fu → RT1 G t M → RBs G t 320 M → HBt 172 (fun r x => if r < i then nrB G t ce r x else false) M → ∃ M', L_X12_laysReach_24 kE 137 N fu (nI i) M = kE M' ∧ HBt 172 (nrB G t ce) M' ∧ FX P172 M M'
  | 0, i, M, h1, h2, _, _, _ => by omega
  | fu + 1, i, M, h1, h2, R, hB, hH => by
    rw [L_X12_laysReach_24]
    simp only [n_le (show 320 < 2 ^ 31 by omega) (show i < 2 ^ 31 by omega)]
    by_cases e : 320 ≤ i
    · rw [if_pos e]
      exact ⟨M, rfl, hH.cg fun r x hr hx => if_pos (by omega), FX.refl⟩
    · rw [if_neg e, show (137 : Nat) + 37 = 174 from rfl, ldI_n (by omega) (by omega), (hB i (by omega)).1, Option.bind_some]
      simp only [bI_0]
      cases x : thB G t i
      · rw [if_pos rfl, Option.bind_some, nI_add]
        exact loop_nearI N hN h kE fu (i + 1) M (by omega) (by omega) R hB (hH.cg fun r y hr hy => by
          show (if r < i then nrB G t ce r y else false) = (if r < i + 1 then nrB G t ce r y else false)
          by_cases z : r < i
          · rw [if_pos z, if_pos (by omega)]
          · rw [if_neg z]
            by_cases w : r = i
            · subst w; rw [if_pos (by omega)]; unfold nrB; rw [x]; rfl
            · rw [if_neg (by omega)])
      · have th := thB_t.1 x
        rw [if_neg (by decide), r_asksOf N h R hB th, Option.bind_some]
        obtain ⟨M1, a1, a2, a3⟩ := loop_nearO N hN h th (fun (M7 : Mm) => ((some (nI i + (nI 1))).bind fun l1_5 => (L_X12_laysReach_24 kE 137 N fu l1_5 M7))) N 0 M (by omega) (by omega) R hB (hH.cg fun r y hr hy => by
          show (if r < i then nrB G t ce r y else false) = (if r = i then nrP G t ce 0 i y else if r < i then nrB G t ce r y else false)
          by_cases z : r = i
          · rw [if_pos z, if_neg (by omega)]; rfl
          · rw [if_neg z])
        rw [a1, Option.bind_some, nI_add]
        obtain ⟨M2, b1, b2, b3⟩ := loop_nearI N hN h kE fu (i + 1) M1 (by omega) (by omega) (R.fx a3 fun b j z => by unfold P172 at z; omega) (fun k hk => by
          rw [(a3.2 174 k (fun z => by unfold P172 at z; omega)).1, (a3.2 164 k (fun z => by unfold P172 at z; omega)).1, (a3.2 165 k (fun z => by unfold P172 at z; omega)).1]; exact hB k hk) a2
        exact ⟨M2, b1, b2, a3.trans b3⟩
end tok
-- closing squares of bits
def wsB (w k : Nat) (f : Nat → Nat → Bool) (i x : Nat) : Bool := if i < w ∧ f i k = true then f i x || f k x else f i x
def ws (w : Nat) : Nat → (Nat → Nat → Bool) → Nat → Nat → Bool
  | 0, f => f
  | n + 1, f => wsB w n (ws w n f)
theorem ws_s (w n : Nat) (f : Nat → Nat → Bool) : ws w (n + 1) f = wsB w n (ws w n f) := rfl
theorem wsB_t {w k i x : Nat} {f : Nat → Nat → Bool} (hi : i < w) : wsB w k f i x = true ↔ f i x = true ∨ (f i k = true ∧ f k x = true) := by
  unfold wsB
  by_cases c : f i k = true
  · rw [if_pos ⟨hi, c⟩, Bool.or_eq_true]; simp [c]
  · rw [if_neg (fun z => c z.2)]; simp [c]
theorem ws_sub {w i x : Nat} {f : Nat → Nat → Bool} (hi : i < w) (h : f i x = true) : ∀ n, ws w n f i x = true
  | 0 => h
  | n + 1 => (wsB_t hi).2 (Or.inl (ws_sub hi h n))
theorem ws_least {w : Nat} {f : Nat → Nat → Bool} {S : Nat → Nat → Prop} (hS : ∀ i j, i < w → f i j = true → S i j) (hT : ∀ i l j, S i l → S l j → S i j) : ∀ n, n ≤ w → ∀ i j, i < w → ws w n f i j = true → S i j
  | 0, _, i, j, hi, h => hS i j hi h
  | n + 1, hn, i, j, hi, h => by
    rcases (wsB_t hi).mp h with h | ⟨h1, h2⟩
    · exact ws_least hS hT n (by omega) i j hi h
    · exact hT i n j (ws_least hS hT n (by omega) i n hi h1) (ws_least hS hT n (by omega) n j (by omega) h2)
theorem ws_trans {w : Nat} {f : Nat → Nat → Bool} : ∀ n, n ≤ w → ∀ l, l < n → ∀ i j, i < w → ws w n f i l = true → ws w n f l j = true → ws w n f i j = true
  | 0, _, l, hl, _, _, _, _, _ => by omega
  | n + 1, hn, l, hl, i, j, hi, h1, h2 => by
    rw [ws_s] at h1 h2 ⊢
    rw [wsB_t hi] at h1 ⊢
    rw [wsB_t (by omega)] at h2
    by_cases e : l = n
    · subst e
      exact Or.inr ⟨h1.elim id And.left, h2.elim id And.right⟩
    · have T := ws_trans n (by omega) l (by omega) (f := f) (w := w)
      rcases h1 with a | ⟨b1, b2⟩
      · rcases h2 with c | ⟨d1, d2⟩
        · exact Or.inl (T i j hi a c)
        · exact Or.inr ⟨T i n hi a d1, d2⟩
      · rcases h2 with c | ⟨d1, d2⟩
        · exact Or.inr ⟨b1, T n j (by omega) b2 c⟩
        · exact Or.inr ⟨b1, d2⟩
theorem loop_or {i j : Nat} {f : Nat → Nat → Bool} (hi : i < 320) (hj : j < 320) (kE : Mm → Option Mm) : ∀ (fu u : Nat) (M : Mm), u ≤ 10 → 10 < u + fu → HBt 173 (fun r x => if r = i ∧ x / 32 < u then f r x || f j x else f r x) M → ∃ M', L_X12_laysReach_185 kE 137 (nI i) (nI j) fu (nI u) M = kE M' ∧ HBt 173 (fun r x => if r = i then f r x || f j x else f r x) M' ∧ FX P173 M M'
  | 0, u, M, h1, h2, _ => by omega
  | fu + 1, u, M, h1, h2, hH => by
    rw [L_X12_laysReach_185]
    simp only [n_le (show 10 < 2 ^ 31 by omega) (show u < 2 ^ 31 by omega)]
    by_cases e : 10 ≤ u
    · rw [if_pos e]
      refine ⟨M, rfl, hH.cg fun r x hr hx => ?_, FX.refl⟩
      show (if r = i ∧ x / 32 < u then f r x || f j x else f r x) = (if r = i then f r x || f j x else f r x)
      by_cases z : r = i
      · rw [if_pos z, if_pos ⟨z, by omega⟩]
      · rw [if_neg z, if_neg (fun q => z q.1)]
    · obtain ⟨v, v1, v2, v3⟩ := hH i hi u (by omega)
      obtain ⟨v', v1', v2', v3'⟩ := hH j hj u (by omega)
      rw [if_neg e, show (137 : Nat) + 36 = 173 from rfl, pk_mul, nI_add, ldI_n (by omega) (by omega), v1, Option.bind_some, pk_mul, nI_add, ldI_n (by omega) (by omega), v1', Option.bind_some, n_or, stI_n (by omega) (by omega), Option.bind_some, Option.bind_some, nI_add]
      have f1 : FX P173 M (upI M 173 (10 * i + u) (nI (v ||| v'))) := FX.I rfl
      obtain ⟨M', a1, a2, a3⟩ := loop_or hi hj kE fu (u + 1) _ (by omega) (by omega) (fun r hr u' hu' => by
        rw [upI_j]
        by_cases z : 10 * r + u' = 10 * i + u
        · have z1 : r = i := by omega
          have z2 : u' = u := by omega
          rw [if_pos z, z1, z2]
          refine ⟨_, rfl, or_lt v2 v2', fun b hb => ?_⟩
          rw [bit_or, v3 b hb, v3' b hb]
          have d : (32 * u + b) / 32 = u := by omega
          show ((if i = i ∧ (32 * u + b) / 32 < u then f i (32 * u + b) || f j (32 * u + b) else f i (32 * u + b)) || (if j = i ∧ (32 * u + b) / 32 < u then f j (32 * u + b) || f j (32 * u + b) else f j (32 * u + b))) = (if i = i ∧ (32 * u + b) / 32 < u + 1 then f i (32 * u + b) || f j (32 * u + b) else f i (32 * u + b))
          rw [d, if_neg (by omega), if_neg (by omega), if_pos ⟨rfl, by omega⟩]
        · rw [if_neg z]
          obtain ⟨x, x1, x2, x3⟩ := hH r hr u' hu'
          refine ⟨x, x1, x2, fun b hb => ?_⟩
          rw [x3 b hb]
          have d : (32 * u' + b) / 32 = u' := by omega
          show (if r = i ∧ (32 * u' + b) / 32 < u then _ else _) = (if r = i ∧ (32 * u' + b) / 32 < u + 1 then _ else _)
          rw [d]
          by_cases y : r = i ∧ u' < u
          · rw [if_pos y, if_pos ⟨y.1, by omega⟩]
          · rw [if_neg y, if_neg (fun q => y ⟨q.1, by omega⟩)])
      exact ⟨M', a1, a2, f1.trans a3⟩
theorem loop_wsI {n8 j : Nat} {f : Nat → Nat → Bool} {n : Nat} (N : Nat) (hN : 2000 < N) (h8 : n8 = 8 * n) (hn : n ≤ 40) (hj : j < n8) (kE : Mm → Option Mm) : ∀ (fu i : Nat) (M : Mm), i ≤ n8 → 320 < i + fu → M.1 137 50 = nI n → HBt 173 (fun r x => if r < i then wsB n8 j f r x else f r x) M → ∃ M', L_X12_laysReach_160 kE 137 N (nI j) fu (nI i) M = kE M' ∧ HBt 173 (wsB n8 j f) M' ∧ FX P173 M M'
  | 0, i, M, h1, h2, _, _ => by omega
  | fu + 1, i, M, h1, h2, h50, hH => by
    rw [L_X12_laysReach_160, h50, pk_mul]
    simp only [n_le (show 8 * n < 2 ^ 31 by omega) (show i < 2 ^ 31 by omega)]
    by_cases e : 8 * n ≤ i
    · rw [if_pos e]
      refine ⟨M, rfl, hH.cg fun r x hr hx => ?_, FX.refl⟩
      show (if r < i then wsB n8 j f r x else f r x) = wsB n8 j f r x
      by_cases z : r < i
      · rw [if_pos z]
      · rw [if_neg z]; unfold wsB; rw [if_neg (fun q => z (by omega))]
    · rw [if_neg e, show (137 : Nat) + 36 = 173 from rfl, r_bit N len173 hH (show i < 320 by omega) (show j < 320 by omega), Option.bind_some]
      simp only [bI_0]
      rw [if_neg (show ¬ i < i by omega)]
      have row : ∀ x, (if j < i then wsB n8 j f j x else f j x) = f j x := fun x => by
        by_cases z : j < i
        · rw [if_pos z]; unfold wsB; split
          · rw [Bool.or_self]
          · rfl
        · rw [if_neg z]
      cases c : f i j
      · rw [if_pos rfl, Option.bind_some, nI_add]
        exact loop_wsI N hN h8 hn hj kE fu (i + 1) M (by omega) (by omega) h50 (hH.cg fun r x hr hx => by
          show (if r < i then wsB n8 j f r x else f r x) = (if r < i + 1 then wsB n8 j f r x else f r x)
          by_cases z : r < i
          · rw [if_pos z, if_pos (by omega)]
          · rw [if_neg z]
            by_cases y : r = i
            · subst y; rw [if_pos (by omega)]; unfold wsB; rw [if_neg (fun q => by rw [c] at q; exact absurd q.2 (by decide))]
            · rw [if_neg (by omega)])
      · rw [if_neg (by decide)]
        obtain ⟨M1, a1, a2, a3⟩ := loop_or (f := fun r x => if r < i then wsB n8 j f r x else f r x) (show i < 320 by omega) (show j < 320 by omega) (fun (M16 : Mm) => ((some (nI i + (nI 1))).bind fun l2_3 => (L_X12_laysReach_160 kE 137 N (nI j) fu l2_3 M16))) N 0 M (by omega) (by omega) (hH.cg fun r x hr hx => by
          show _ = (if r = i ∧ x / 32 < 0 then _ else _)
          rw [if_neg (show ¬ (r = i ∧ x / 32 < 0) by omega)])
        rw [a1, Option.bind_some, nI_add]
        obtain ⟨M2, b1, b2, b3⟩ := loop_wsI N hN h8 hn hj kE fu (i + 1) M1 (by omega) (by omega) (by rw [(a3.2 137 50 (fun z => by unfold P173 at z; omega)).1]; exact h50) (a2.cg fun r x hr hx => by
          show (if r = i then (if r < i then wsB n8 j f r x else f r x) || (if j < i then wsB n8 j f j x else f j x) else (if r < i then wsB n8 j f r x else f r x)) = (if r < i + 1 then wsB n8 j f r x else f r x)
          rw [row]
          by_cases z : r = i
          · subst z
            rw [if_pos rfl, if_neg (by omega), if_pos (by omega)]
            unfold wsB
            rw [if_pos ⟨by omega, c⟩]
          · rw [if_neg z]
            by_cases y : r < i
            · rw [if_pos y, if_pos (by omega)]
            · rw [if_neg y, if_neg (by omega)])
        exact ⟨M2, b1, b2, a3.trans b3⟩
theorem loop_wsJ {n8 : Nat} {f : Nat → Nat → Bool} {n : Nat} (N : Nat) (hN : 2000 < N) (h8 : n8 = 8 * n) (hn : n ≤ 40) : ∀ (fu j : Nat) (M : Mm), j ≤ n8 → 320 < j + fu → M.1 137 50 = nI n → HBt 173 (ws n8 j f) M → ∃ M', L_X12_laysReach_147 137 N fu (nI j) M = some M' ∧ HBt 173 (ws n8 n8 f) M' ∧ FX P173 M M'
  | 0, j, M, h1, h2, _, _ => by omega
  | fu + 1, j, M, h1, h2, h50, hH => by
    rw [L_X12_laysReach_147, h50, pk_mul]
    simp only [n_le (show 8 * n < 2 ^ 31 by omega) (show j < 2 ^ 31 by omega)]
    by_cases e : 8 * n ≤ j
    · rw [if_pos e]
      have ej : j = n8 := by omega
      subst ej
      exact ⟨M, rfl, hH, FX.refl⟩
    · rw [if_neg e]
      obtain ⟨M1, a1, a2, a3⟩ := loop_wsI N hN h8 hn (show j < n8 by omega) (fun (M17 : Mm) => ((some (nI j + (nI 1))).bind fun l1_9 => (L_X12_laysReach_147 137 N fu l1_9 M17))) N 0 M (by omega) (by omega) h50 (hH.cg fun r x hr hx => by
        show _ = (if r < 0 then _ else _)
        rw [if_neg (by omega)])
      rw [a1, Option.bind_some, nI_add]
      obtain ⟨M2, b1, b2, b3⟩ := loop_wsJ N hN h8 hn fu (j + 1) M1 (by omega) (by omega) (by rw [(a3.2 137 50 (fun z => by unfold P173 at z; omega)).1]; exact h50) a2
      exact ⟨M2, b1, b2, a3.trans b3⟩
