-- the class's first circle
theorem fb_wide {f : Nat → Bool} {w w' : Nat} (hw : w ≤ w') (h : ∀ j, w ≤ j → j < w' → f j = false) : (fb f w < w → fb f w' = fb f w) ∧ (¬ fb f w < w → fb f w' = w') := by
  refine ⟨fun c => fb_eq (by omega) (fun j hj => fb_below hj) (Or.inr (fb_hit c)), fun c => fb_eq (Nat.le_refl _) (fun j hj => ?_) (Or.inl rfl)⟩
  by_cases q : j < w
  · have := fb_le f w
    exact fb_below (n := w) (by omega)
  · exact h j (by omega) hj
theorem s_firstRound {a f w L : Nat} {R : Nat → Nat} {M : Mm} (N : Nat) (hN : 2000 < N) (hlen : len a = L) (hL : f + w ≤ L) (hL2 : L ≤ 5000) (hw : w ≤ 32) (hR : LT R) (hM : HRo a f w R M) : D_X3_firstRound N a (nI f) (nI w) M = some (fR (fb (fun o => (R o).testBit o) w) w) := by
  have key : ∀ (k i : Nat), i ≤ w → w < i + k → (∀ j, j < i → (R j).testBit j = false) → L_X3_firstRound_2 (nI w) a (nI f) M k (nI i) = some (fR (fb (fun o => (R o).testBit o) w) w) := by
    intro k
    induction k with
    | zero => intro i h1 h2; omega
    | succ k ih =>
      intro i h1 h2 hj
      rw [L_X3_firstRound_2]
      simp (disch := omega) only [n_le]
      by_cases e : w ≤ i
      · rw [if_pos e, fb_eq h1 hj (Or.inl (by omega)), fR_m (by omega)]
      · rw [if_neg e, hlen, nI_add, ldI_n (by omega) (by omega), hM i (by omega), Option.bind_some, bitI (hR i) (by omega)]
        simp only [bI_0, Option.bind_some, nI_add]
        cases b : (R i).testBit i
        · rw [if_pos rfl]
          refine ih (i + 1) (by omega) (by omega) fun j hj2 => ?_
          by_cases e3 : j = i
          · rw [e3]; exact b
          · exact hj j (by omega)
        · rw [if_neg (by decide), fb_eq h1 hj (Or.inr b), fR_n (by omega)]
  exact key N 0 (by omega) (by omega) fun j hj => by omega
def P13 (b _j : Nat) : Prop := b = 13
theorem loop_meas_in {w X s : Nat} {R F : Nat → Nat} (N : Nat) (hw : w ≤ 32) (hR : LT R) (hX : X < 2 ^ 32) (hF : ∀ o, F o ≤ 32) (hs : s ≤ 32) (kE : Int32 → Mm → Option Mm) : ∀ (fu i : Nat) (M : Mm), i ≤ w → w < i + fu → HRo 12 0 w R M → (∀ o, o < 32 → M.1 13 o = nI (if o < i ∧ bCon R F X o = true then s + 1 else F o)) → ∃ M', L_X3_measure_32 kE (nI w) 9 (nI X) (nI (s + 1)) fu (nI (wid (bCon R F X) i)) (nI i) M = kE (nI (wid (bCon R F X) w)) M' ∧ HRo 13 0 32 (fun o => if o < w ∧ bCon R F X o = true then s + 1 else F o) M' ∧ FX P13 M M'
  | 0, i, M, h1, h2, _, _ => by omega
  | fu + 1, i, M, h1, h2, hR12, hM => by
    rw [L_X3_measure_32]
    simp (disch := omega) only [n_le]
    by_cases e : w ≤ i
    · rw [if_pos e]
      have ei : i = w := by omega
      subst ei
      exact ⟨M, rfl, fun o ho => by rw [Nat.zero_add]; exact hM o ho, FX.refl⟩
    · have hi := hM i (by omega)
      rw [if_neg (fun z => by omega)] at hi
      have hr := hR12 i (by omega)
      rw [Nat.zero_add] at hr
      have hFi := hF i
      rw [if_neg e, show (9 : Nat) + 4 = 13 from rfl, show (9 : Nat) + 3 = 12 from rfl, ldI_n (by omega) (by omega), hi, Option.bind_some]
      simp only [n_eq (show F i < 2 ^ 31 by omega) (show 0 < 2 ^ 31 by omega)]
      have step : ∀ (c : Bool) (M1 : Mm), bCon R F X i = c → HRo 12 0 w R M1 → FX P13 M M1 → (∀ o, o < 32 → M1.1 13 o = nI (if o < i + 1 ∧ bCon R F X o = true then s + 1 else F o)) → ∃ M', L_X3_measure_32 kE (nI w) 9 (nI X) (nI (s + 1)) fu (nI (if c = true then wid (bCon R F X) i ||| 2 ^ i else wid (bCon R F X) i)) (nI (i + 1)) M1 = kE (nI (wid (bCon R F X) w)) M' ∧ HRo 13 0 32 (fun o => if o < w ∧ bCon R F X o = true then s + 1 else F o) M' ∧ FX P13 M M' := by
        intro c M1 hc h12 f1 hM1
        obtain ⟨M', a, b, d⟩ := loop_meas_in N hw hR hX hF hs kE fu (i + 1) M1 (by omega) (by omega) h12 hM1
        rw [show wid (bCon R F X) (i + 1) = if bCon R F X i = true then wid (bCon R F X) i ||| 2 ^ i else wid (bCon R F X) i from rfl, hc] at a
        exact ⟨M', a, b, f1.trans d⟩
      by_cases z : F i = 0
      · rw [if_pos z, ldI_n (by omega) (by omega), hr, Option.bind_some, n_and]
        by_cases y : R i &&& X = 0
        · rw [y, if_pos rfl, Option.bind_some, nI_add]
          refine step false M (by unfold bCon; rw [decide_eq_true y]; simp) hR12 FX.refl fun o ho => ?_
          rw [hM o ho]
          by_cases q : o = i
          · subst q
            rw [if_neg (fun z => by omega), if_neg]
            rintro ⟨_, t⟩
            unfold bCon at t; rw [decide_eq_true y] at t; simp at t
          · by_cases t : o < i ∧ bCon R F X o = true
            · rw [if_pos t, if_pos ⟨by omega, t.2⟩]
            · rw [if_neg t, if_neg (fun u => t ⟨by omega, u.2⟩)]
        · have hne : ¬ nI (R i &&& X) = nI 0 := fun q => y (n_inj (Nat.lt_of_le_of_lt Nat.and_le_left (hR i)) (by decide) q)
          have hc : bCon R F X i = true := by unfold bCon; rw [decide_eq_true z, decide_eq_false y]; rfl
          rw [if_neg hne, stI_n (by omega) (by omega), Option.bind_some, n_shl 1 (show i < 32 by omega), Nat.one_mul, n_or, Option.bind_some, Option.bind_some, nI_add]
          have f1 : FX P13 M (upI M 13 i (nI (s + 1))) := FX.I rfl
          refine step true _ hc (hR12.fx f1 fun j _ _ q => by have : 12 = 13 := q; omega) f1 fun o ho => ?_
          rw [upI_j]
          by_cases q : o = i
          · subst q
            rw [if_pos rfl, if_pos ⟨by omega, hc⟩]
          · rw [if_neg q, hM o ho]
            by_cases t : o < i ∧ bCon R F X o = true
            · rw [if_pos t, if_pos ⟨by omega, t.2⟩]
            · rw [if_neg t, if_neg (fun u => t ⟨by omega, u.2⟩)]
      · rw [if_neg z, Option.bind_some, nI_add]
        have hc : bCon R F X i = false := by unfold bCon; rw [decide_eq_false z]; rfl
        refine step false M hc hR12 FX.refl fun o ho => ?_
        rw [hM o ho]
        by_cases t : o < i ∧ bCon R F X o = true
        · rw [if_pos t, if_pos ⟨by omega, t.2⟩]
        · rw [if_neg t, if_neg]
          rintro ⟨u, v⟩
          by_cases q : o = i
          · rw [q, hc] at v; cases v
          · exact t ⟨by omega, v⟩
theorem bS_2lt {R : Nat → Nat} {w g : Nat} (hw : w ≤ 32) (hg : g < 32) : ∀ s, (bS R w g s).2 < 2 ^ 32
  | 0 => by
    show 2 ^ g < 2 ^ 32
    exact Nat.pow_lt_pow_right (by decide) hg
  | s + 1 => Nat.lt_of_lt_of_le (wid_lt _ w) (Nat.pow_le_pow_right (by decide) hw)
theorem loop_meas {w g : Nat} {R : Nat → Nat} (N : Nat) (hN : 2000 < N) (hw : w ≤ 32) (hg : g < 32) (hR : LT R) : ∀ (fu s : Nat) (M : Mm), s ≤ 32 → 34 < s + fu → HRo 12 0 w R M → HRo 13 0 32 (bS R w g s).1 M → ∃ M', L_X3_measure_15 (nI w) 9 N fu (nI (bS R w g s).2) (nI (s + 1)) M = some M' ∧ HRo 13 0 32 (dF R w g) M' ∧ FX P13 M M'
  | 0, s, M, h1, h2, _, _ => by omega
  | fu + 1, s, M, h1, h2, h12, hM => by
    rw [L_X3_measure_15]
    simp (disch := omega) only [n_lt]
    by_cases e : 32 < s + 1
    · rw [if_pos e]
      have es : s = 32 := by omega
      subst es
      exact ⟨M, rfl, hM, FX.refl⟩
    · rw [if_neg e]
      have hX := bS_2lt (R := R) (w := w) hw hg s
      by_cases z : nI (bS R w g s).2 = nI 0
      · rw [if_pos z]
        have z0 := n_inj hX (by decide) z
        refine ⟨M, rfl, fun o ho => ?_, FX.refl⟩
        have := (bS_x0 z0 (32 - s)).1
        rw [show s + (32 - s) = 32 by omega] at this
        unfold dF
        rw [this]; exact hM o ho
      · rw [if_neg z]
        obtain ⟨M1, a, b, c⟩ := loop_meas_in N hw hR hX (fun o => Nat.le_trans (bS_le R w g s o) (by omega)) (show s ≤ 32 by omega) (fun (l5_3 : Int32) (M5 : Mm) => ((some (nI (s + 1) + (nI 1))).bind fun l4_2 => (L_X3_measure_15 (nI w) 9 N fu l5_3 l4_2 M5))) N 0 M (by omega) (by omega) h12 (fun o ho => by have := hM o ho; rw [Nat.zero_add] at this; rw [if_neg (fun z => by omega)]; exact this)
        have a' : L_X3_measure_32 (fun (l5_3 : Int32) (M5 : Mm) => ((some (nI (s + 1) + (nI 1))).bind fun l4_2 => (L_X3_measure_15 (nI w) 9 N fu l5_3 l4_2 M5))) (nI w) 9 (nI (bS R w g s).2) (nI (s + 1)) N (nI 0) (nI 0) M = _ := a
        rw [a', Option.bind_some, nI_add]
        obtain ⟨M2, d1, d2, d3⟩ := loop_meas N hN hw hg hR fu (s + 1) M1 (by omega) (by omega) (h12.fx c fun j _ _ q => by have : 12 = 13 := q; omega) b
        exact ⟨M2, d1, d2, c.trans d3⟩
theorem s_measure {w g : Nat} {R : Nat → Nat} {M : Mm} (N : Nat) (hN : 2000 < N) (hw : w ≤ 32) (hg : g < 32) (hR : LT R) (h12 : HRo 12 0 w R M) : ∃ M', D_X3_measure N 9 (nI g) (nI w) M = some M' ∧ HRo 13 0 32 (dF R w g) M' ∧ FX P13 M M' := by
  unfold D_X3_measure
  have e := fill_n N 13 (nI 0) M (n := 32) rfl (by decide) (by omega)
  rw [show (9 : Nat) + 4 = 13 from rfl, e, Option.bind_some, n_shl 1 hg, Nat.one_mul, Option.bind_some]
  have f1 : FX P13 M (upR M.1 13 (fun j => if j < 32 then nI 0 else M.1 13 j), M.2) := ⟨rfl, fun a j q => ⟨by rw [mR1, if_neg (show ¬ a = 13 from q)], rfl⟩⟩
  obtain ⟨M2, c1, c2, c3⟩ := loop_meas N hN hw hg hR N 0 _ (by omega) (by omega) (h12.fx f1 fun j _ _ q => by have : 12 = 13 := q; omega) (fun o ho => by rw [mR1, if_pos rfl, Nat.zero_add, if_pos ho]; rfl)
  exact ⟨M2, c1, c2, f1.trans c3⟩
-- the circle walked
def nxI (R F : Nat → Nat) (w h t : Nat) : Nat := fb (fun k => (R h).testBit k && decide (F k = t)) w
def rgI (R F : Nat → Nat) (w g : Nat) : Nat → Nat
  | 0 => g
  | i + 1 => nxI R F w (rgI R F w g i) (F g - (i + 1))
theorem rgI_s (R F : Nat → Nat) (w g i : Nat) : rgI R F w g (i + 1) = nxI R F w (rgI R F w g i) (F g - (i + 1)) := rfl
theorem rg_ok {R : Nat → Nat} {w g : Nat} (hg : g < w) : ∀ i, i < dF R w g g → rgI R (dF R w g) w g i < w ∧ dF R w g (rgI R (dF R w g) w g i) = dF R w g g - i
  | 0, h => ⟨hg, rfl⟩
  | i + 1, h => by
    obtain ⟨a, b⟩ := rg_ok (R := R) hg i (by omega)
    obtain ⟨k, k1, k2, k3⟩ := dF_2 (R := R) (w := w) (g := g) (o := rgI R (dF R w g) w g i) (s := dF R w g g - i - 2) (by omega)
    have hx : nxI R (dF R w g) w (rgI R (dF R w g) w g i) (dF R w g g - (i + 1)) < w := fb_ex k1 (by rw [k2, decide_eq_true (by omega)]; rfl)
    have hh := fb_hit hx
    rw [Bool.and_eq_true, decide_eq_true_iff] at hh
    exact ⟨hx, hh.2⟩
theorem s_firstNear {w h t : Nat} {R F : Nat → Nat} {M : Mm} (N : Nat) (hN : 2000 < N) (hw : w ≤ 32) (hh : h < w) (hR : LT R) (hF : ∀ o, F o ≤ 32) (ht : t ≤ 32) (h12 : HRo 12 0 w R M) (h13 : HRo 13 0 32 F M) : D_X3_firstNear N 9 (nI h) (nI t) (nI w) M = some (fR (nxI R F w h t) w) := by
  have key : ∀ (k i : Nat), i ≤ w → w < i + k → (∀ j, j < i → ((R h).testBit j && decide (F j = t)) = false) → L_X3_firstNear_3 (nI w) 9 (nI h) M (nI t) k (nI i) = some (fR (nxI R F w h t) w) := by
    intro k
    induction k with
    | zero => intro i h1 h2; omega
    | succ k ih =>
      intro i h1 h2 hj
      rw [L_X3_firstNear_3]
      simp (disch := omega) only [n_le]
      by_cases e : w ≤ i
      · rw [if_pos e, nxI, fb_eq h1 hj (Or.inl (by omega)), fR_m (by omega)]
      · have hr := h12 h hh
        have hf := h13 i (by omega)
        rw [Nat.zero_add] at hr hf
        have hFi := hF i
        rw [if_neg e, show (9 : Nat) + 4 = 13 from rfl, show (9 : Nat) + 3 = 12 from rfl, ldI_n (by omega) (by omega), hr, Option.bind_some, bitI (hR h) (by omega)]
        simp only [bI_0, Option.bind_some, nI_add]
        have next : ((R h).testBit i && decide (F i = t)) = false → L_X3_firstNear_3 (nI w) 9 (nI h) M (nI t) k (nI (i + 1)) = some (fR (nxI R F w h t) w) := fun b =>
          ih (i + 1) (by omega) (by omega) fun j hj2 => by
            by_cases e3 : j = i
            · rw [e3]; exact b
            · exact hj j (by omega)
        cases b : (R h).testBit i
        · rw [if_pos rfl]
          exact next (by rw [b]; rfl)
        · rw [if_neg (by decide), ldI_n (by omega) (by omega), hf, Option.bind_some]
          simp only [n_eq (show F i < 2 ^ 31 by omega) (show t < 2 ^ 31 by omega)]
          by_cases c : F i = t
          · rw [if_pos c, nxI, fb_eq h1 hj (Or.inr (by rw [b, decide_eq_true c]; rfl)), fR_n (by omega)]
          · rw [if_neg c]
            exact next (by rw [b, decide_eq_false c]; rfl)
  exact key N 0 (by omega) (by omega) fun j hj => by omega
def PW (b j : Nat) : Prop := b = 14 ∨ b = 9 ∧ j = 6
theorem loop_walk {w g : Nat} {R : Nat → Nat} (N : Nat) (hN : 2000 < N) (hw : w ≤ 32) (hg : g < w) (hR : LT R) : ∀ (fu i : Nat) (h : Int32) (M : Mm), i ≤ dF R w g g → 33 < i + fu → (i < dF R w g g → h = nI (rgI R (dF R w g) w g i)) → M.1 9 6 = nI i → (∀ j, j < i → M.1 14 j = nI (rgI R (dF R w g) w g j)) → HRo 12 0 w R M → HRo 13 0 32 (dF R w g) M → ∃ M', L_X3_walk_10 9 N (nI w) fu h (nI (dF R w g g - i)) M = some M' ∧ M'.1 9 6 = nI (dF R w g g) ∧ (∀ j, j < dF R w g g → M'.1 14 j = nI (rgI R (dF R w g) w g j)) ∧ FX PW M M'
  | 0, i, h, M, h1, h2, _, _, _, _, _ => by have := dF_le R w g g; omega
  | fu + 1, i, h, M, h1, h2, hh, h6, h14, h12, h13 => by
    have hle := dF_le R w g g
    rw [L_X3_walk_10, h6]
    simp (disch := omega) only [n_le]
    by_cases e : dF R w g g - i ≤ 0
    · rw [if_pos e]
      have ei : i = dF R w g g := by omega
      exact ⟨M, rfl, by rw [h6, ei], fun j hj => h14 j (by omega), FX.refl⟩
    · rw [if_neg e, if_neg (by omega), hh (by omega)]
      obtain ⟨r1, r2⟩ := rg_ok (R := R) hg i (by omega)
      rw [if_neg (n_ne_m1 (by omega)), show (9 : Nat) + 5 = 14 from rfl, stI_n (by omega) (by omega), Option.bind_some, pI_n, Option.bind_some, up1, if_neg (by omega), h6, nI_add]
      have f1 : FX PW M (upI (upI M 14 i (nI (rgI R (dF R w g) w g i))) 9 6 (nI (i + 1))) := (FX.I (Or.inl rfl)).trans (FX.I (Or.inr ⟨rfl, rfl⟩))
      have g12 := h12.fx f1 (fun j _ _ q => by unfold PW at q; omega)
      have g13 := h13.fx f1 (fun j _ _ q => by unfold PW at q; omega)
      rw [n_sub (by omega), s_firstNear N hN hw r1 hR (dF_le R w g) (by omega) g12 g13, Option.bind_some, n_m1 (by omega), Option.bind_some, show dF R w g g - i - 1 = dF R w g g - (i + 1) by omega]
      obtain ⟨M', a, b, c, d⟩ := loop_walk N hN hw hg hR fu (i + 1) (fR (nxI R (dF R w g) w (rgI R (dF R w g) w g i) (dF R w g g - (i + 1))) w) _ (by omega) (by omega) (fun hi => by
        have := (rg_ok (R := R) hg (i + 1) hi).1
        rw [rgI_s] at this
        rw [fR_n this, rgI_s]) (by rw [upI_j, if_pos rfl]) (fun j hj => by
        rw [up1, if_neg (by omega), upI_j]
        by_cases q : j = i
        · rw [if_pos q, q]
        · rw [if_neg q]; exact h14 j (by omega)) g12 g13
      exact ⟨M', a, b, c, f1.trans d⟩
theorem s_walk {w g : Nat} {R : Nat → Nat} {M : Mm} (N : Nat) (hN : 2000 < N) (hw : w ≤ 32) (hg : g < w) (hR : LT R) (h6 : M.1 9 6 = nI 0) (h12 : HRo 12 0 w R M) (h13 : HRo 13 0 32 (dF R w g) M) : ∃ M', D_X3_walk N 9 (nI g) (nI w) M = some M' ∧ M'.1 9 6 = nI (dF R w g g) ∧ (∀ j, j < dF R w g g → M'.1 14 j = nI (rgI R (dF R w g) w g j)) ∧ FX PW M M' := by
  have hf := h13 g (by omega)
  rw [Nat.zero_add] at hf
  unfold D_X3_walk
  rw [show (9 : Nat) + 4 = 13 from rfl, ldI_n (by omega) (by omega), hf, Option.bind_some]
  exact loop_walk N hN hw hg hR N 0 (nI g) M (by omega) (by omega) (fun _ => rfl) h6 (fun j hj => by omega) h12 h13
/-- the first circle -/
def cirO (G : Gr) (A : Nat → Nat) (p : Nat) : Nat := fb (fun o => (iC G A p o).testBit o) 32
def cirP (G : Gr) (A : Nat → Nat) : Nat := fb (fun p => decide (cirO G A p < 32)) (G.i 0 1)
def cirD (G : Gr) (A : Nat → Nat) (p : Nat) : Nat → Nat := dF (layR G A p) (8 * G.i 6 p) (cirO G A p)
def cirL (G : Gr) (A : Nat → Nat) (p : Nat) : Nat := cirD G A p (cirO G A p)
def cirR (G : Gr) (A : Nat → Nat) (p : Nat) : Nat → Nat := rgI (layR G A p) (cirD G A p) (8 * G.i 6 p) (cirO G A p)
def HC (G : Gr) (A : Nat → Nat) (M : Mm) : Prop := if cirP G A < G.i 0 1 then M.1 9 5 = nI (cirP G A) ∧ M.1 9 6 = nI (cirL G A (cirP G A)) ∧ ∀ j, j < cirL G A (cirP G A) → M.1 14 j = nI (cirR G A (cirP G A) j) else M.1 9 5 = m1 ∧ M.1 9 6 = nI 0
theorem cirO_w {G : Gr} {A : Nat → Nat} {p : Nat} (h : QG G) (hA : AOK G A) (hp : p < G.i 0 1) : (cirO G A p < 32 → cirO G A p < 8 * G.i 6 p ∧ fb (fun o => (iC G A p o).testBit o) (8 * G.i 6 p) = cirO G A p) ∧ (¬ cirO G A p < 32 → ¬ fb (fun o => (iC G A p o).testBit o) (8 * G.i 6 p) < 8 * G.i 6 p) := by
  have hsd := h.sd hp
  obtain ⟨a, b⟩ := fb_wide (f := fun o => (iC G A p o).testBit o) (w := 8 * G.i 6 p) (w' := 32) (by omega) fun j j1 j2 => by
    rw [(iC_sq h hA hp).1 j j1]; exact Nat.zero_testBit _
  unfold cirO
  by_cases c : fb (fun o => (iC G A p o).testBit o) (8 * G.i 6 p) < 8 * G.i 6 p
  · rw [a c]; exact ⟨fun _ => ⟨c, rfl⟩, fun q => absurd (show _ < 32 by omega) q⟩
  · rw [b c]; exact ⟨fun q => absurd q (Nat.lt_irrefl _), fun _ => c⟩
theorem cirL_pos {G : Gr} {A : Nat → Nat} {p : Nat} (h : QG G) (hA : AOK G A) (hp : p < G.i 0 1) (ho : cirO G A p < 32) : ¬ cirL G A p = 0 := by
  have hsd := h.sd hp
  have hh : (iC G A p (cirO G A p)).testBit (cirO G A p) = true := fb_hit (f := fun o => (iC G A p o).testBit o) (n := 32) ho
  have h1 := ((cirO_w h hA hp).1 ho).1
  have key := dF_self (g := cirO G A p) (show 8 * G.i 6 p ≤ 32 by omega) (lay_sq h hA hp) h1 hh
  exact key
def P9 (b j : Nat) : Prop := b = 12 ∨ b = 13 ∨ b = 14 ∨ b = 9 ∧ (j = 5 ∨ j = 6)
theorem loop_findCircle {g : Nat} {G : Gr} {A : Nat → Nat} (N : Nat) (hN : 2000 < N) (h : QG G) (hg : g = 35 ∨ g = 52) (hA : AOK G A) : ∀ (fu p : Nat) (M : Mm), p ≤ G.i 0 1 → 13 < p + fu → CG g G M → HRo 10 0 64 A M → (∀ q, q < G.i 0 1 → HRo 11 (32 * q) (8 * G.i 6 q) (iC G A q) M) → (∀ q, q < p → ¬ cirO G A q < 32) → M.1 9 5 = m1 → M.1 9 6 = nI 0 → ∃ M', L_X3_findCircle_12 g 9 N fu (nI p) M = some M' ∧ HC G A M' ∧ FX P9 M M'
  | 0, p, M, h1, h2, _, _, _, _, _, _ => by have := h.np; omega
  | fu + 1, p, M, h1, h2, K, hM, hC, hq, h5, h6 => by
    have hnp := h.np
    rw [L_X3_findCircle_12, K.f 1, h6]
    simp (disch := omega) only [n_le]
    by_cases e : G.i 0 1 ≤ p
    · rw [if_pos e]
      refine ⟨M, rfl, ?_, FX.refl⟩
      unfold HC
      have : cirP G A = G.i 0 1 := fb_eq (Nat.le_refl _) (fun j hj => decide_eq_false (hq j (by omega))) (Or.inl rfl)
      rw [if_neg (by omega)]; exact ⟨h5, h6⟩
    · have hp : p < G.i 0 1 := by omega
      have hsd := h.sd hp
      have l11 : len 11 = 384 := rfl
      have l12 : len 12 = 32 := rfl
      rw [if_neg e, if_pos trivial, ldI_n (by omega) (by omega), K.a 6 p (by omega), Option.bind_some, pk_mul, pk_mul, show (9 : Nat) + 2 = 11 from rfl, s_firstRound N hN l11 (show 32 * p + 8 * G.i 6 p ≤ 384 by omega) (by omega) (by omega) ((iC_sq h hA hp).lt (by omega)) (hC p hp), Option.bind_some]
      obtain ⟨w1, w2⟩ := cirO_w h hA hp
      simp only [fR_m1 (show 8 * G.i 6 p < 2 ^ 31 by omega)]
      by_cases c : cirO G A p < 32
      · obtain ⟨c1, c2⟩ := w1 c
        rw [c2, if_neg (not_not_intro c1), fR_n c1, pI_n, Option.bind_some, show (9 : Nat) + 3 = 12 from rfl]
        have f1 : FX P9 M (upI M 9 5 (nI p)) := FX.I (Or.inr (Or.inr (Or.inr ⟨rfl, Or.inl rfl⟩)))
        have K1 := K.fx f1 fun k hk j q => by unfold P9 at q; omega
        have hM1 := hM.fx f1 fun j _ _ q => by unfold P9 at q; omega
        obtain ⟨M2, a1, a2, a3⟩ := s_layRows (f := 0) N hN h hg hA hp (Or.inr rfl) l12 (show 0 + 8 * G.i 6 p ≤ 32 by omega) (by omega) K1 hM1
        have K2 := K1.fx a3 fun k hk j q => by have := q.1; omega
        have f2 : FX P9 M M2 := f1.trans (a3.mono fun a j q => Or.inl q.1)
        have sq := lay_sq h hA hp
        obtain ⟨M3, b1, b2, b3⟩ := s_measure N hN (show 8 * G.i 6 p ≤ 32 by omega) (show cirO G A p < 32 from c) (sq.lt (by omega)) a2
        have K3 := K2.fx b3 fun k hk j q => by have : g + k = 13 := q; omega
        have e6 : M3.1 9 6 = nI 0 := by
          rw [(b3.2 9 6 (fun q => by have : 9 = 13 := q; omega)).1, (a3.2 9 6 (fun q => by have := q.1; omega)).1, upI_j, if_neg (by omega)]; exact h6
        have e5 : M3.1 9 5 = nI p := by
          rw [(b3.2 9 5 (fun q => by have : 9 = 13 := q; omega)).1, (a3.2 9 5 (fun q => by have := q.1; omega)).1, upI_j, if_pos rfl]
        obtain ⟨M4, d1, d2, d3, d4⟩ := s_walk N hN (show 8 * G.i 6 p ≤ 32 by omega) c1 (sq.lt (by omega)) e6 (a2.fx b3 fun j _ _ q => by have : 12 = 13 := q; omega) b2
        rw [a1, Option.bind_some, ldI_n (by omega) (by omega), K2.a 6 p (by omega), Option.bind_some, pk_mul, b1, Option.bind_some, ldI_n (by omega) (by omega), K3.a 6 p (by omega), Option.bind_some, pk_mul, d1, Option.bind_some, Option.bind_some, nI_add]
        have f4 : FX P9 M M4 := (f2.trans (b3.mono fun a j q => Or.inr (Or.inl q))).trans (d4.mono fun a j q => by unfold PW at q; unfold P9; omega)
        have hL := cirL_pos h hA hp c
        have hHC : HC G A M4 := by
          unfold HC
          have : cirP G A = p := fb_eq (by omega) (fun j hj => decide_eq_false (hq j hj)) (Or.inr (decide_eq_true c))
          rw [this, if_pos hp]
          exact ⟨(d4.2 9 5 (fun q => by unfold PW at q; omega)).1.trans e5, d2, d3⟩
        cases fu with
        | zero => omega
        | succ fu =>
          have K4 := K3.fx d4 fun k hk j q => by unfold PW at q; omega
          have hlt : cirL G A p ≤ 32 := dF_le _ _ _ _
          rw [L_X3_findCircle_12, K4.f 1, show M4.1 9 6 = nI (cirL G A p) from d2]
          simp (disch := omega) only [n_le]
          by_cases c3 : G.i 0 1 ≤ p + 1
          · rw [if_pos c3]; exact ⟨M4, rfl, hHC, f4⟩
          · rw [if_neg c3, if_neg (fun q => hL ((n_eq (by omega) (by omega)).mp q))]; exact ⟨M4, rfl, hHC, f4⟩
      · rw [if_pos (w2 c), Option.bind_some, nI_add]
        exact loop_findCircle N hN h hg hA fu (p + 1) M (by omega) (by omega) K hM hC (fun q hq2 => by
          by_cases z : q = p
          · rw [z]; exact c
          · exact hq q (by omega)) h5 h6
def P9a (b j : Nat) : Prop := b = 10 ∨ b = 11 ∨ P9 b j
/-- what hangs on what, found by the class -/
def HH (G : Gr) (A : Nat → Nat) (M : Mm) : Prop := HRo 10 0 64 A M ∧ (∀ q, q < G.i 0 1 → HRo 11 (32 * q) (8 * G.i 6 q) (iC G A q) M) ∧ HC G A M
theorem s_findH {g : Nat} {G : Gr} {M : Mm} (N : Nat) (hN : 2000 < N) (h : QG G) (hg : g = 35 ∨ g = 52) (K : CG g G M) : ∃ A M', D_X3_find N 9 g M = some M' ∧ Ind G A ∧ HH G A M' ∧ FX P9a M M' := by
  obtain ⟨A, M1, a1, a2, a3, a4, a5⟩ := s_find0 N hN h hg K
  have K1 := K.fx a5 fun k hk j q => by unfold PAC at q; omega
  have f2 : FX P9 M1 (upI (upI M1 9 6 (nI 0)) 9 5 m1) := (FX.I (Or.inr (Or.inr (Or.inr ⟨rfl, Or.inr rfl⟩)))).trans (FX.I (Or.inr (Or.inr (Or.inr ⟨rfl, Or.inl rfl⟩))))
  obtain ⟨M2, b1, b2, b3⟩ := loop_findCircle N hN h hg (a2.ok h) N 0 (upI (upI M1 9 6 (nI 0)) 9 5 m1) (by omega) (by omega) (K1.fx f2 fun k hk j q => by unfold P9 at q; omega) (a3.fx f2 fun j _ _ q => by unfold P9 at q; omega) (fun q hq => (a4 q hq).fx f2 fun j _ _ z => by unfold P9 at z; omega) (fun q hq => by omega) (by rw [upI_j, if_pos rfl]) (by rw [upI_j, if_neg (by omega), upI_j, if_pos rfl])
  rw [a1]
  unfold D_X3_findCircle
  rw [pI_n, Option.bind_some, pI_n, Option.bind_some, b1, Option.bind_some]
  have fa : FX P9 M1 M2 := f2.trans b3
  exact ⟨A, M2, rfl, a2, ⟨a3.fx fa fun j _ _ q => by unfold P9 at q; omega, fun q hq => (a4 q hq).fx fa fun j _ _ z => by unfold P9 at z; omega, b2⟩, (a5.mono fun a j q => by unfold PAC at q; unfold P9a; omega).trans (fa.mono fun a j q => Or.inr (Or.inr q))⟩
