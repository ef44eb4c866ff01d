-- the reference's grammar as rows
def cnt (f : Nat → Bool) : Nat → Nat
  | 0 => 0
  | n + 1 => cnt f n + if f n = true then 1 else 0
theorem cnt_congr {f g : Nat → Bool} : ∀ {n : Nat}, (∀ i, i < n → f i = g i) → cnt f n = cnt g n
  | 0, _ => rfl
  | n + 1, h => by rw [cnt, cnt, cnt_congr fun i hi => h i (by omega), h n (by omega)]
theorem cnt_le (f : Nat → Bool) : ∀ n, cnt f n ≤ n
  | 0 => Nat.le_refl 0
  | n + 1 => by rw [cnt]; have := cnt_le f n; split <;> omega
theorem cnt_mono {f g : Nat → Bool} : ∀ {n : Nat}, (∀ i, i < n → f i = true → g i = true) → cnt f n ≤ cnt g n
  | 0, _ => Nat.le_refl 0
  | n + 1, h => by
    rw [cnt, cnt]
    have a := cnt_mono (n := n) fun i hi => h i (by omega)
    by_cases e : f n = true
    · rw [if_pos e, if_pos (h n (by omega) e)]; omega
    · rw [if_neg e]; split <;> omega
theorem cnt_lt {f g : Nat → Bool} : ∀ {n : Nat}, (∀ i, i < n → f i = true → g i = true) → ∀ k, k < n → f k = false → g k = true → cnt f n < cnt g n
  | 0, _, k, hk, _, _ => by omega
  | n + 1, h, k, hk, h1, h2 => by
    rw [cnt, cnt]
    by_cases e : k = n
    · subst e
      have a := cnt_mono (n := k) fun i hi => h i (by omega)
      rw [if_neg (by rw [h1]; decide), if_pos h2]; omega
    · have a := cnt_lt (n := n) (fun i hi => h i (by omega)) k (by omega) h1 h2
      by_cases e2 : f n = true
      · rw [if_pos e2, if_pos (h n (by omega) e2)]; omega
      · rw [if_neg e2]; split <;> omega
/-- one more: exactly at k -/
theorem cnt_one {f g : Nat → Bool} : ∀ {n : Nat}, ∀ k, k < n → (∀ i, i < n → ¬ i = k → f i = g i) → f k = false → g k = true → cnt g n = cnt f n + 1
  | 0, k, hk, _, _, _ => by omega
  | n + 1, k, hk, h, h1, h2 => by
    rw [cnt, cnt]
    by_cases e : k = n
    · subst e
      rw [cnt_congr (f := g) (g := f) fun i hi => (h i (by omega) (by omega)).symm, h1, h2]; rfl
    · rw [cnt_one (n := n) k (by omega) (fun i hi => h i (by omega)) h1 h2, h n (by omega) (fun q => e q.symm)]
      omega
def opC (v : Nat) : Nat := if v = 0 then 43 else if v = 1 then 45 else if v = 2 then 42 else if v = 3 then 124 else if v = 4 then 38 else if v = 5 then 60 else if v = 6 then 4 else 5
def cR (v : Nat) : Nat × Nat := if v < 10000 then (0, v) else if v < 20000 then (2, v - 10000) else if v < 30000 then (1, 0) else if v < 40000 then (opC (v - 30000), 0) else (3, 0)
def tdB (G : Gr) (i : Nat) : Bool := (G.i 10 (i / 32)).testBit (i % 32)
def tolds (G : Gr) (e : Nat) : Nat := cnt (fun i => !decide (i = e) && tdB G i) (32 * G.i 0 1)
def RG (a b : Nat) (G : Gr) (sy pr e : Nat) (M : Mm) : Prop :=
  (M.1 a 0 = nI sy ∧ M.1 a 1 = nI pr ∧ M.1 a 2 = nI (tolds G e) ∧ M.1 a 3 = nI (G.i 0 2)) ∧
  (∀ s, s < G.i 0 0 → M.1 a (4 + s) = nI (G.i 4 s) ∧ M.1 a (12 + s) = nI (G.i 5 s) ∧ M.2.1 b s = lN (conv 8 (G.l 1 s)) ∧ ∀ j, j < G.i 4 s + G.i 5 s → M.2.1 b (20 + 8 * s + j) = lN (conv 8 (G.l 2 (8 * s + j)))) ∧
  (∀ p, p < G.i 0 1 → M.2.1 b (8 + p) = lN (conv 8 (G.l 3 p)) ∧ (1 ≤ G.i 6 p → M.1 a (20 + p) = nI (G.i 7 (4 * p)) ∧ M.1 a (32 + p) = nI (G.i 6 p - 1) ∧ ∀ k, k + 1 < G.i 6 p → M.1 a (44 + 3 * p + k) = nI (G.i 7 (4 * p + k + 1)))) ∧
  (∀ i, i < 32 * pr → M.1 a (80 + i) = nI (G.i 14 i) ∧ M.1 a (464 + i) = nI (G.i 15 i) ∧ (¬ i = e → M.1 a (848 + i) = nI (G.i 12 i) ∧ M.1 a (1232 + i) = nI (if tdB G i = true then 1 else 0))) ∧
  (∀ c, c < G.i 0 2 → M.1 a (1616 + c) = nI (cR (G.i 16 c)).1 ∧ M.1 a (2716 + c) = nI (cR (G.i 16 c)).2)
theorem RG.eq {a b sy pr e : Nat} {G : Gr} {M M' : Mm} (h : RG a b G sy pr e M) (h1 : M'.1 a = M.1 a) (h2 : M'.2.1 b = M.2.1 b) : RG a b G sy pr e M' := by
  unfold RG at h ⊢
  rw [h1, h2]; exact h
def RZ (M : Mm) : Prop := M.1 137 16 = nI 0 ∧ M.1 137 17 = m1
def RK (B : Nat → Nat) (n : Nat) (T : List Tok) (h : Nat) (G : Gr) (sy pr e : Nat) (M : Mm) : Prop := RQ B n T h M ∧ RG 140 142 G sy pr e M ∧ RZ M
def PR (a j : Nat) : Prop := PB a j ∨ a = 140 ∨ a = 142
theorem RQ.fx {P : Nat → Nat → Prop} {B : Nat → Nat} {n h : Nat} {T : List Tok} {M M' : Mm} (K : RQ B n T h M) (f : FX P M M') (h1 : ∀ j, ¬ P 138 j) (h2 : ∀ j, (10 ≤ j ∧ j ≤ 15 ∨ j = 18) → ¬ P 137 j) : RQ B n T h M' := by
  obtain ⟨⟨a1, a2, a3⟩, k2, k3, b1, b2, b3, b4, b5, b6⟩ := K
  have g : ∀ j, (10 ≤ j ∧ j ≤ 15 ∨ j = 18) → M'.1 137 j = M.1 137 j := fun j hj => (f.2 137 j (h2 j hj)).1
  refine ⟨⟨(g 10 (by omega)).trans a1, a2, fun i hi => ?_⟩, k2, k3, (g 13 (by omega)).trans b1, (g 11 (by omega)).trans b2, (g 12 (by omega)).trans b3, fun q => ?_, fun q => (g 14 (by omega)).trans (b5 q), fun q => (g 15 (by omega)).trans (b6 q)⟩
  · rw [(f.2 138 i (h1 i)).1]; exact a3 i hi
  · rw [(f.2 137 18 (h2 18 (by omega))).2]; exact b4 q
theorem UT.pr {M M' : Mm} (h : UT M M') : FX PR M M' := h.x.mono fun _ _ q => Or.inl (PT_B q)
theorem PB_R {a j : Nat} (h : PB a j) : PR a j := Or.inl h
theorem FX.pr {M M' : Mm} (h : FX PB M M') : FX PR M M' := h.mono fun _ _ q => Or.inl q
theorem RK.go {B : Nat → Nat} {n h sy pr e : Nat} {T : List Tok} {G : Gr} {M : Mm} (N : Nat) (hN : 2000 < N) (K : RK B n T h G sy pr e M) : ∃ M', D_X12_go N 137 M = some M' ∧ RK B n T (adv T h) G sy pr e M' ∧ FX PR M M' ∧ UT M M' := by
  obtain ⟨M', a, b, c⟩ := r_go N hN K.1
  exact ⟨M', a, ⟨b, K.2.1.eq (c.2.1 140 (by decide)).1 (c.2.1 142 (by decide)).2, (c.2.2.1 16 (by omega)).trans K.2.2.1, (c.2.2.1 17 (by omega)).trans K.2.2.2⟩, c.pr, c⟩
/-- what a reader of the reference answers -/
def RV (Q : Nat → Gr → Mm → Prop) (M : Mm) (r : RS) (x : Option (Int32 × Mm)) : Prop := match r with
  | .inl e => ∃ M', x = some (nI 0, M') ∧ RF e M' ∧ FX PR M M'
  | .inr y => ∃ M', x = some (nI 1, M') ∧ Q y.1 y.2 M' ∧ FX PR M M'
theorem RV.pre {Q : Nat → Gr → Mm → Prop} {M M1 : Mm} {r : RS} {x : Option (Int32 × Mm)} (h : FX PR M M1) (h' : RV Q M1 r x) : RV Q M r x := by
  cases r with
  | inl e => obtain ⟨M', a, b, c⟩ := h'; exact ⟨M', a, b, h.trans c⟩
  | inr y => obtain ⟨M', a, b, c⟩ := h'; exact ⟨M', a, b, h.trans c⟩
theorem RV.bind {Q Q' : Nat → Gr → Mm → Prop} {M : Mm} {r : RS} {x : Option (Int32 × Mm)} {f : Nat → Gr → RS} {F : Int32 × Mm → Option (Int32 × Mm)} (h : RV Q M r x) (h0 : ∀ M', F (nI 0, M') = some (nI 0, M')) (h1 : ∀ y M', r = .inr y → Q y.1 y.2 M' → RV Q' M' (f y.1 y.2) (F (nI 1, M'))) : RV Q' M (bnd r f) (x.bind F) := by
  cases r with
  | inl e => obtain ⟨M', a, b⟩ := h; exact ⟨M', by rw [a, Option.bind_some, h0], b⟩
  | inr y => obtain ⟨M', a, b, c⟩ := h; rw [a, Option.bind_some]; exact (h1 y M' rfl b).pre c
theorem RV.back {Q : Nat → Gr → Mm → Prop} {M : Mm} {r : RS} {x : Option (Int32 × Mm)} (h : RV Q M r x) : RV Q M r (x.bind fun q => retZ q.1 q.2) := by
  cases r with
  | inl e => obtain ⟨M', a, b⟩ := h; exact ⟨M', by rw [a, Option.bind_some, retZ_0], b⟩
  | inr y => obtain ⟨M', a, b⟩ := h; exact ⟨M', by rw [a, Option.bind_some, retZ_1], b⟩
theorem RV.w {Q Q' : Nat → Gr → Mm → Prop} {M : Mm} {r : RS} {x : Option (Int32 × Mm)} (h : RV Q M r x) (hq : ∀ y M', r = .inr y → Q y.1 y.2 M' → Q' y.1 y.2 M') : RV Q' M r x := by
  cases r with
  | inl e => exact h
  | inr y => obtain ⟨M', a, b, c⟩ := h; exact ⟨M', a, hq y M' rfl b, c⟩
theorem v_bad {Q : Nat → Gr → Mm → Prop} {B : Nat → Nat} {n h y : Nat} {T : List Tok} {M : Mm} (N : Nat) (K : RQ B n T h M) : RV Q M (fl T h y) ((D_X12_bad N 137 (nI y) M).bind fun q => retZ q.1 q.2) := by
  obtain ⟨M', a, b, c⟩ := r_bad (y := y) N K
  exact ⟨M', by rw [a, Option.bind_some, retZ_0], b, c.pr⟩
theorem v_eats {B : Nat → Nat} {n h sy pr e c : Nat} {T : List Tok} {G : Gr} {M : Mm} (N : Nat) (hN : 2000 < N) (hc : c < 256) (K : RK B n T h G sy pr e M) : RV (fun h' G' M' => RK B n T h' G' sy pr e M' ∧ UT M M') M (pSign T c h G) (D_X12_eats N 137 (nI c) M) := by
  unfold D_X12_eats pSign
  rw [r_isSign N K.1 hc, Option.bind_some]
  by_cases q : isSn T h c
  · obtain ⟨M', a, b, d, u⟩ := K.go N hN
    rw [if_pos q, decide_eq_true q, bI_t, if_neg z10, a, Option.bind_some, retZ_1]
    exact ⟨M', rfl, ⟨b, u⟩, d⟩
  · rw [if_neg q, decide_eq_false q, bI_f, if_pos rfl]
    exact v_bad N K.1
theorem len139 : len 139 = 3816 := rfl
theorem len140 : len 140 = 3816 := rfl
theorem len141 : len 141 = 84 := rfl
theorem len142 : len 142 = 84 := rfl
theorem r_findIn {b base many w : Nat} {f : Nat → Nat} {M : Mm} (N : Nat) (hN : 2000 < N) (hlen : len b = 84) (hb : base + many ≤ 84) (hf : ∀ j, j < many → M.2.1 b (base + j) = lN (conv 8 (f j)) ∧ okW 8 (f j)) (hw : okW 8 w) : D_X12_findIn N b (nI base) (nI many) (lN (conv 8 w)) M = some (fR (fi f w many) many) := by
  have key : ∀ (k i : Nat), i ≤ many → many < i + k → (∀ j, j < i → ¬ f j = w) → L_X12_findIn_3 (nI many) b (nI base) M (lN (conv 8 w)) k (nI i) = some (fR (fi f w many) many) := by
    intro k
    induction k with
    | zero => intro i h1 h2; omega
    | succ k ih =>
      intro i h1 h2 hj
      rw [L_X12_findIn_3]
      simp (disch := omega) only [n_le, nI_add, hlen]
      by_cases e : many ≤ i
      · rw [if_pos e, fi_eq h1 hj (Or.inl (by omega)), fR_m (by omega)]
      · rw [if_neg e, ldJ_n (by omega) (by omega), (hf i (by omega)).1, Option.bind_some]
        simp only [lgc, cv_eq (hf i (by omega)).2 hw]
        by_cases e2 : f i = w
        · rw [if_pos e2, fi_eq h1 hj (Or.inr e2), fR_n (by omega)]
        · rw [if_neg e2, Option.bind_some]
          refine ih (i + 1) (by omega) (by omega) fun j hj2 => ?_
          by_cases e3 : j = i
          · rw [e3]; exact e2
          · exact hj j (by omega)
  exact key N 0 (by omega) (by omega) fun j hj => by omega
theorem r_attributesIn {a s x y : Nat} {M : Mm} (N : Nat) (hlen : len a = 3816) (hs : s < 8) (h1 : M.1 a (4 + s) = nI x) (h2 : M.1 a (12 + s) = nI y) : D_X12_attributesIn N a (nI s) M = some (nI (x + y)) := by
  unfold D_X12_attributesIn
  rw [hlen]
  simp (disch := omega) only [nI_add, ldI_n, Option.bind_some, h1, h2]
theorem upI_j (M : Mm) (a k : Nat) (v : Int32) (j : Nat) : (upI M a k v).1 a j = if j = k then v else M.1 a j := by rw [up1, if_pos rfl, upd_a]
theorem upJ_j (M : Mm) (a k : Nat) (v : Int64) (j : Nat) : (upJ M a k v).2.1 a j = if j = k then v else M.2.1 a j := by rw [upJ2, if_pos rfl, updL_a]
