-- the class's first circle
theorem fb_wide {f : Nat → Bool} {w w' : Nat} (hw : w ≤ w') (h : ∀ j, w ≤ j → j < w' → f j = false) : (fb f w < w → fb f w' = fb f w) ∧ (¬ fb f w < w → fb f w' = w') := by
  refine ⟨fun c => fb_eq (by omega) (fun j hj => fb_below hj) (Or.inr (fb_hit c)), fun c => fb_eq (Nat.le_refl _) (fun j hj => ?_) (Or.inl rfl)⟩
  by_cases q : j < w
  · have := fb_le f w
    exact fb_below (n := w) (by omega)
  · exact h j (by omega) hj
theorem s_firstRound {a f w L : Nat} {R : Nat → Nat} {M : Mm} (N : Nat) (hN : 2000 < N) (hlen : len a = L) (hL : f + w ≤ L) (hL2 : L ≤ 5000) (hw : w ≤ 32) (hR : LT R) (hM : HRo a f w R M) : D_X3_firstRound N a (nI f) (nI w) M = some (fR (fb (fun o => (R o).testBit o) w) w) := by
  have key : ∀ (k i : Nat), i ≤ w → w < i + k → (∀ j, j < i → (R j).testBit j = false) → L_X3_firstRound_2 (nI w) a (nI f) M k (nI i) = some (fR (fb (fun o => (R o).testBit o) w) w) := by
    intro k
    induction k with
    | zero => intro i h1 h2; omega
    | succ k ih =>
      intro i h1 h2 hj
      rw [L_X3_firstRound_2]
      simp (disch := omega) only [n_le]
      by_cases e : w ≤ i
      · rw [if_pos e, fb_eq h1 hj (Or.inl (by omega)), fR_m (by omega)]
      · rw [if_neg e, hlen, nI_add, ldI_n (by omega) (by omega), hM i (by omega), Option.bind_some, bitI (hR i) (by omega)]
        simp only [bI_0, Option.bind_some, nI_add]
        cases b : (R i).testBit i
        · rw [if_pos rfl]
          refine ih (i + 1) (by omega) (by omega) fun j hj2 => ?_
          by_cases e3 : j = i
          · rw [e3]; exact b
          · exact hj j (by omega)
        · rw [if_neg (by decide), fb_eq h1 hj (Or.inr b), fR_n (by omega)]
  exact key N 0 (by omega) (by omega) fun j hj => by omega
-- the circle walked
def nxI (R F : Nat → Nat) (w h t : Nat) : Nat := fb (fun k => (R h).testBit k && decide (F k = t)) w
def rgI (R F : Nat → Nat) (w g : Nat) : Nat → Nat
  | 0 => g
  | i + 1 => nxI R F w (rgI R F w g i) (F g - (i + 1))
theorem rgI_s (R F : Nat → Nat) (w g i : Nat) : rgI R F w g (i + 1) = nxI R F w (rgI R F w g i) (F g - (i + 1)) := rfl
theorem rg_ok {R : Nat → Nat} {w g : Nat} (hg : g < w) : ∀ i, i < dF R w g g → rgI R (dF R w g) w g i < w ∧ dF R w g (rgI R (dF R w g) w g i) = dF R w g g - i
  | 0, h => ⟨hg, rfl⟩
  | i + 1, h => by
    obtain ⟨a, b⟩ := rg_ok (R := R) hg i (by omega)
    obtain ⟨k, k1, k2, k3⟩ := dF_2 (R := R) (w := w) (g := g) (o := rgI R (dF R w g) w g i) (s := dF R w g g - i - 2) (by omega)
    have hx : nxI R (dF R w g) w (rgI R (dF R w g) w g i) (dF R w g g - (i + 1)) < w := fb_ex k1 (by rw [k2, decide_eq_true (by omega)]; rfl)
    have hh := fb_hit hx
    rw [Bool.and_eq_true, decide_eq_true_iff] at hh
    exact ⟨hx, hh.2⟩
/-- the first circle -/
def cirO (G : Gr) (A : Nat → Nat) (p : Nat) : Nat := fb (fun o => (iC G A p o).testBit o) 32
def cirP (G : Gr) (A : Nat → Nat) : Nat := fb (fun p => decide (cirO G A p < 32)) (G.i 0 1)
def cirD (G : Gr) (A : Nat → Nat) (p : Nat) : Nat → Nat := dF (layR G A p) (8 * G.i 6 p) (cirO G A p)
def cirL (G : Gr) (A : Nat → Nat) (p : Nat) : Nat := cirD G A p (cirO G A p)
def cirR (G : Gr) (A : Nat → Nat) (p : Nat) : Nat → Nat := rgI (layR G A p) (cirD G A p) (8 * G.i 6 p) (cirO G A p)
def HC (G : Gr) (A : Nat → Nat) (M : Mm) : Prop := if cirP G A < G.i 0 1 then M.1 9 2 = nI (cirP G A) ∧ M.1 9 3 = nI (cirO G A (cirP G A)) else M.1 9 3 = m1
theorem cirO_w {G : Gr} {A : Nat → Nat} {p : Nat} (h : QG G) (hA : AOK G A) (hp : p < G.i 0 1) : (cirO G A p < 32 → cirO G A p < 8 * G.i 6 p ∧ fb (fun o => (iC G A p o).testBit o) (8 * G.i 6 p) = cirO G A p) ∧ (¬ cirO G A p < 32 → ¬ fb (fun o => (iC G A p o).testBit o) (8 * G.i 6 p) < 8 * G.i 6 p) := by
  have hsd := h.sd hp
  obtain ⟨a, b⟩ := fb_wide (f := fun o => (iC G A p o).testBit o) (w := 8 * G.i 6 p) (w' := 32) (by omega) fun j j1 j2 => by
    rw [(iC_sq h hA hp).1 j j1]; exact Nat.zero_testBit _
  unfold cirO
  by_cases c : fb (fun o => (iC G A p o).testBit o) (8 * G.i 6 p) < 8 * G.i 6 p
  · rw [a c]; exact ⟨fun _ => ⟨c, rfl⟩, fun q => absurd (show _ < 32 by omega) q⟩
  · rw [b c]; exact ⟨fun q => absurd q (Nat.lt_irrefl _), fun _ => c⟩
theorem cirL_pos {G : Gr} {A : Nat → Nat} {p : Nat} (h : QG G) (hA : AOK G A) (hp : p < G.i 0 1) (ho : cirO G A p < 32) : ¬ cirL G A p = 0 := by
  have hsd := h.sd hp
  have hh : (iC G A p (cirO G A p)).testBit (cirO G A p) = true := fb_hit (f := fun o => (iC G A p o).testBit o) (n := 32) ho
  have h1 := ((cirO_w h hA hp).1 ho).1
  have key := dF_self (g := cirO G A p) (show 8 * G.i 6 p ≤ 32 by omega) (lay_sq h hA hp) h1 hh
  exact key
def P9 (b j : Nat) : Prop := b = 9 ∧ (j = 2 ∨ j = 3)
theorem loop_findCircle {g : Nat} {G : Gr} {A : Nat → Nat} (N : Nat) (hN : 2000 < N) (h : QG G) (hg : g = 35 ∨ g = 52) (hA : AOK G A) : ∀ (fu p : Nat) (M : Mm), p ≤ G.i 0 1 → 14 < p + fu → CG g G M → (∀ q, q < G.i 0 1 → HRo 11 (32 * q) (8 * G.i 6 q) (iC G A q) M) → (∀ q, q < p → ¬ cirO G A q < 32) → M.1 9 3 = m1 → ∃ M', L_X3_findCircle_7 g 9 N fu (nI p) M = some M' ∧ HC G A M' ∧ FX P9 M M'
  | 0, p, M, h1, h2, _, _, _, _ => by have := h.np; omega
  | fu + 1, p, M, h1, h2, K, hC, hq, h3 => by
    have hnp := h.np
    rw [L_X3_findCircle_7, K.f 1]
    simp (disch := omega) only [n_le]
    by_cases e : G.i 0 1 ≤ p
    · rw [if_pos e]
      refine ⟨M, rfl, ?_, FX.refl⟩
      unfold HC
      have : cirP G A = G.i 0 1 := fb_eq (Nat.le_refl _) (fun j hj => decide_eq_false (hq j (by omega))) (Or.inl rfl)
      rw [if_neg (by omega)]; exact h3
    · have hp : p < G.i 0 1 := by omega
      have hsd := h.sd hp
      have l11 : len 11 = 384 := rfl
      have f0 : FX P9 M (upI M 9 2 (nI p)) := FX.I ⟨rfl, Or.inl rfl⟩
      have K0 := K.fx f0 fun k hk j q => by unfold P9 at q; omega
      have C0 := (hC p hp).fx f0 fun j _ _ z => by unfold P9 at z; omega
      rw [if_neg e, if_pos h3, pI_n, Option.bind_some, ldI_n (by omega) (by omega), K0.a 6 p (by omega), Option.bind_some, pk_mul, pk_mul, show (9 : Nat) + 2 = 11 from rfl, s_firstRound N hN l11 (show 32 * p + 8 * G.i 6 p ≤ 384 by omega) (by omega) (by omega) ((iC_sq h hA hp).lt (by omega)) C0, Option.bind_some, pI_n, Option.bind_some, Option.bind_some, nI_add]
      obtain ⟨w1, w2⟩ := cirO_w h hA hp
      by_cases c : cirO G A p < 32
      · obtain ⟨c1, c2⟩ := w1 c
        rw [c2, fR_n c1]
        have hHC : HC G A (upI (upI M 9 2 (nI p)) 9 3 (nI (cirO G A p))) := by
          unfold HC
          have : cirP G A = p := fb_eq (by omega) (fun j hj => decide_eq_false (hq j hj)) (Or.inr (decide_eq_true c))
          rw [this, if_pos hp]
          exact ⟨by rw [upI_j, if_neg (by omega), upI_j, if_pos rfl], upI_s _ _ _ _⟩
        have f1 : FX P9 M (upI (upI M 9 2 (nI p)) 9 3 (nI (cirO G A p))) := f0.trans (FX.I ⟨rfl, Or.inr rfl⟩)
        cases fu with
        | zero => omega
        | succ fu =>
          have K1 := K.fx f1 fun k hk j q => by unfold P9 at q; omega
          rw [L_X3_findCircle_7, K1.f 1, upI_s]
          simp (disch := omega) only [n_le]
          by_cases c3 : G.i 0 1 ≤ p + 1
          · rw [if_pos c3]; exact ⟨_, rfl, hHC, f1⟩
          · rw [if_neg c3, if_neg (n_ne_m1 (by omega))]; exact ⟨_, rfl, hHC, f1⟩
      · rw [fR_m (w2 c)]
        have f1 : FX P9 M (upI (upI M 9 2 (nI p)) 9 3 m1) := f0.trans (FX.I ⟨rfl, Or.inr rfl⟩)
        obtain ⟨M', a, b, d⟩ := loop_findCircle N hN h hg hA fu (p + 1) _ (by omega) (by omega) (K.fx f1 fun k hk j q => by unfold P9 at q; omega) (fun q hq2 => (hC q hq2).fx f1 fun j _ _ z => by unfold P9 at z; omega) (fun q hq2 => by
          by_cases z : q = p
          · rw [z]; exact c
          · exact hq q (by omega)) (upI_s _ _ _ _)
        exact ⟨M', a, b, f1.trans d⟩
def P9a (b j : Nat) : Prop := b = 10 ∨ b = 11 ∨ P9 b j
/-- what hangs on what, found by the class -/
def HH (G : Gr) (A : Nat → Nat) (M : Mm) : Prop := HRo 10 0 64 A M ∧ (∀ q, q < G.i 0 1 → HRo 11 (32 * q) (8 * G.i 6 q) (iC G A q) M) ∧ HC G A M
theorem s_findH {g : Nat} {G : Gr} {M : Mm} (N : Nat) (hN : 2000 < N) (h : QG G) (hg : g = 35 ∨ g = 52) (K : CG g G M) : ∃ A M', D_X3_find N 9 g M = some M' ∧ Ind G A ∧ HH G A M' ∧ FX P9a M M' := by
  obtain ⟨A, M1, a1, a2, a3, a4, a5⟩ := s_find0 N hN h hg K
  have K1 := K.fx a5 fun k hk j q => by unfold PAC at q; omega
  have f2 : FX P9 M1 (upI M1 9 3 m1) := FX.I ⟨rfl, Or.inr rfl⟩
  obtain ⟨M2, b1, b2, b3⟩ := loop_findCircle N hN h hg (a2.ok h) N 0 (upI M1 9 3 m1) (by omega) (by omega) (K1.fx f2 fun k hk j q => by unfold P9 at q; omega) (fun q hq => (a4 q hq).fx f2 fun j _ _ z => by unfold P9 at z; omega) (fun q hq => by omega) (upI_s _ _ _ _)
  rw [a1]
  unfold D_X3_findCircle
  rw [pI_n, Option.bind_some, b1, Option.bind_some]
  have fa : FX P9 M1 M2 := f2.trans b3
  exact ⟨A, M2, rfl, a2, ⟨a3.fx fa fun j _ _ q => by unfold P9 at q; omega, fun q hq => (a4 q hq).fx fa fun j _ _ z => by unfold P9 at z; omega, b2⟩, (a5.mono fun a j q => by unfold PAC at q; unfold P9a; omega).trans (fa.mono fun a j q => Or.inr (Or.inr q))⟩
