-- the reference's first circle
def vF (R : Nat → Nat) (w g o : Nat) : Nat := if dF R w g o = 0 then 1000 else dF R w g o
theorem vF_step {R : Nat → Nat} {w g o k : Nat} (hw : w ≤ 32) (ho : o < w) (hr : (R o).testBit k = true) : vF R w g o ≤ vF R w g k + 1 := by
  unfold vF
  have h1 := dF_le R w g o
  by_cases c : dF R w g k = 0
  · rw [if_pos c]; split <;> omega
  · obtain ⟨a, b⟩ := dF_3 hw ho hr c
    rw [if_neg c, if_neg a]; exact b
theorem mn_n {a b : Nat} (ha : a < 2 ^ 31) (hb : b < 2 ^ 31) : mnI (nI a) (nI b) = nI (if b < a then b else a) := by
  unfold mnI
  simp only [n_lt hb ha]
  split <;> rfl
theorem mx_n {a b : Nat} (ha : a < 2 ^ 31) (hb : b < 2 ^ 31) : mxI (nI a) (nI b) = nI (if a < b then b else a) := by
  unfold mxI
  simp only [n_lt ha hb]
  split <;> rfl
def FB (R : Nat → Nat) (w g : Nat) (f : Nat → Nat) (t : Nat) : Prop := (∀ o, vF R w g o ≤ f o ∧ f o ≤ 1000) ∧ ∀ o, ¬ dF R w g o = 0 → dF R w g o ≤ t + 1 → f o ≤ dF R w g o
def P146 (b _j : Nat) : Prop := b = 146
theorem HRo.p146 {a f w : Nat} {R : Nat → Nat} {M M' : Mm} (h : HRo a f w R M) (fx : FX P146 M M') (ha : ¬ a = 146) : HRo a f w R M' := h.fx fx fun j _ _ q => ha q
theorem loop_ring_k {R : Nat → Nat} {w g o t : Nat} (N : Nat) (hw : w ≤ 32) (sq : SQ w R) (ho : o < 32) (kE : Mm → Option Mm) : ∀ (fu k : Nat) (f : Nat → Nat) (M : Mm), k ≤ 32 → 32 < k + fu → HRo 144 0 32 R M → HRo 146 0 32 f M → FB R w g f t → (∀ k', k' < k → (R o).testBit k' = true → ¬ dF R w g k' = 0 → dF R w g k' ≤ t + 1 → f o ≤ dF R w g k' + 1) → ∃ f' M', L_X12_laysRing_59 kE 137 (nI o) N fu (nI k) M = kE M' ∧ HRo 146 0 32 f' M' ∧ FB R w g f' t ∧ (∀ o', ¬ o' = o → f' o' = f o') ∧ (∀ k', k' < 32 → (R o).testBit k' = true → ¬ dF R w g k' = 0 → dF R w g k' ≤ t + 1 → f' o ≤ dF R w g k' + 1) ∧ FX P146 M M'
  | 0, k, f, M, h1, h2, _, _, _, _ => by omega
  | fu + 1, k, f, M, h1, h2, h4, h6, hB, hk => by
    rw [L_X12_laysRing_59]
    simp (disch := omega) only [n_le]
    by_cases e : 32 ≤ k
    · rw [if_pos e]
      have ek : k = 32 := by omega
      subst ek
      exact ⟨f, M, rfl, h6, hB, fun _ _ => rfl, hk, FX.refl⟩
    · have r4 := h4 o ho
      have r6 := h6 o ho
      have r6k := h6 k (by omega)
      rw [Nat.zero_add] at r4 r6 r6k
      have l1 := (hB.1 o).2
      have l2 := (hB.1 k).2
      rw [if_neg e, show (137 : Nat) + 7 = 144 from rfl, show (137 : Nat) + 9 = 146 from rfl, ldI_n (by omega) (by omega), r4, Option.bind_some, r_has N M (sq.lt hw o) (by omega), Option.bind_some]
      simp only [bI_0, Option.bind_some, nI_add]
      cases b : (R o).testBit k
      · rw [if_pos rfl]
        exact loop_ring_k N hw sq ho kE fu (k + 1) f M (by omega) (by omega) h4 h6 hB fun k' hk' hr => by
          by_cases q : k' = k
          · rw [q, b] at hr; cases hr
          · exact hk k' (by omega) hr
      · have how : o < w := Decidable.byContradiction fun z => by rw [sq.1 o (by omega), Nat.zero_testBit] at b; cases b
        rw [if_neg (by decide), ldI_n (by omega) (by omega), r6, Option.bind_some, ldI_n (by omega) (by omega), r6k, Option.bind_some, nI_add, mn_n (by omega) (by omega), stI_n (by omega) (by omega), Option.bind_some]
        have hv := vF_step (g := g) hw how b
        have hvk := (hB.1 k).1
        have hvo := (hB.1 o).1
        have hm : ∀ x y : Nat, (if y < x then y else x) ≤ x ∧ (if y < x then y else x) ≤ y := fun x y => by split <;> omega
        have hmo := hm (f o) (f k + 1)
        generalize hfo : (if f k + 1 < f o then f k + 1 else f o) = v at hmo
        have hvv : vF R w g o ≤ v := by rw [← hfo]; split <;> omega
        have f1 : FX P146 M (upI M 146 o (nI v)) := FX.I rfl
        obtain ⟨f', M', c1, c2, c3, c4, c5, c6⟩ := loop_ring_k N hw sq ho kE fu (k + 1) (fun i => if i = o then v else f i) (upI M 146 o (nI v)) (by omega) (by omega) (h4.p146 f1 (by decide)) (fun i hi => by
          rw [Nat.zero_add, upI_j]
          show (if i = o then nI v else M.1 146 i) = nI (if i = o then v else f i)
          by_cases q : i = o
          · rw [if_pos q, if_pos q]
          · rw [if_neg q, if_neg q]; have := h6 i hi; rw [Nat.zero_add] at this; exact this) ⟨fun i => by
            show vF R w g i ≤ (if i = o then v else f i) ∧ (if i = o then v else f i) ≤ 1000
            by_cases q : i = o
            · rw [if_pos q, q]; exact ⟨hvv, by omega⟩
            · rw [if_neg q]; exact hB.1 i, fun i i1 i2 => by
            show (if i = o then v else f i) ≤ _
            have := hB.2 i i1 i2
            by_cases q : i = o
            · rw [if_pos q]; subst q; omega
            · rw [if_neg q]; exact this⟩ (fun k' hk' hr hz hle => by
            show (if o = o then v else f o) ≤ _
            rw [if_pos rfl]
            by_cases q : k' = k
            · subst q
              have := hB.2 k' hz hle
              omega
            · have := hk k' (by omega) hr hz hle
              omega)
        refine ⟨f', M', c1, c2, c3, fun o' h => ?_, c5, f1.trans c6⟩
        rw [c4 o' h, if_neg h]
theorem loop_ring_o {R : Nat → Nat} {w g t : Nat} (N : Nat) (hN : 2000 < N) (hw : w ≤ 32) (sq : SQ w R) (kE : Mm → Option Mm) : ∀ (fu o : Nat) (f : Nat → Nat) (M : Mm), o ≤ 32 → 32 < o + fu → HRo 144 0 32 R M → HRo 146 0 32 f M → FB R w g f t → (∀ i, i < o → ¬ dF R w g i = 0 → dF R w g i ≤ t + 2 → f i ≤ dF R w g i) → ∃ f' M', L_X12_laysRing_50 kE 137 N fu (nI o) M = kE M' ∧ HRo 146 0 32 f' M' ∧ FB R w g f' (t + 1) ∧ FX P146 M M'
  | 0, o, f, M, h1, h2, _, _, _, _ => by omega
  | fu + 1, o, f, M, h1, h2, h4, h6, hB, hi => by
    rw [L_X12_laysRing_50]
    simp (disch := omega) only [n_le]
    by_cases e : 32 ≤ o
    · rw [if_pos e]
      refine ⟨f, M, rfl, h6, ⟨hB.1, fun i i1 i2 => ?_⟩, FX.refl⟩
      exact hi i (by have := dF_w i1; omega) i1 i2
    · rw [if_neg e]
      obtain ⟨f', M1, a1, a2, a3, a4, a5, a6⟩ := loop_ring_k (g := g) (t := t) N hw sq (show o < 32 by omega) (fun (M9 : Mm) => ((some (nI o + (nI 1))).bind fun l3_2 => (L_X12_laysRing_50 kE 137 N fu l3_2 M9))) N 0 f M (by omega) (by omega) h4 h6 hB (fun k' hk' => by omega)
      rw [a1, Option.bind_some, nI_add]
      obtain ⟨f'', M2, b1, b2, b3, b4⟩ := loop_ring_o N hN hw sq kE fu (o + 1) f' M1 (by omega) (by omega) (h4.p146 a6 (by decide)) a2 a3 (fun i hi2 i1 i2 => by
        by_cases q : i = o
        · subst q
          by_cases c : dF R w g i ≤ t + 1
          · exact a3.2 i i1 c
          · obtain ⟨k, k1, k2, k3⟩ := dF_2 (R := R) (w := w) (g := g) (o := i) (s := t) (by omega)
            have := a5 k (by omega) k2 (by omega) (by omega)
            omega
        · rw [a4 i q]; exact hi i (by omega) i1 i2)
      exact ⟨f'', M2, b1, b2, b3, a6.trans b4⟩
theorem loop_ring_t {R : Nat → Nat} {w g : Nat} (N : Nat) (hN : 2000 < N) (hw : w ≤ 32) (sq : SQ w R) (kE : Mm → Option Mm) : ∀ (fu t : Nat) (f : Nat → Nat) (M : Mm), t ≤ 32 → 32 < t + fu → HRo 144 0 32 R M → HRo 146 0 32 f M → FB R w g f t → ∃ M', L_X12_laysRing_42 kE 137 N fu (nI t) M = kE M' ∧ HRo 146 0 32 (vF R w g) M' ∧ FX P146 M M'
  | 0, t, f, M, h1, h2, _, _, _ => by omega
  | fu + 1, t, f, M, h1, h2, h4, h6, hB => by
    rw [L_X12_laysRing_42]
    simp (disch := omega) only [n_le]
    by_cases e : 32 ≤ t
    · rw [if_pos e]
      refine ⟨M, rfl, h6.cg fun o ho => ?_, FX.refl⟩
      have h1 := hB.1 o
      unfold vF at h1 ⊢
      by_cases c : dF R w g o = 0
      · rw [if_pos c] at h1 ⊢; omega
      · rw [if_neg c] at h1 ⊢
        have := hB.2 o c (by have := dF_le R w g o; omega)
        omega
    · rw [if_neg e]
      obtain ⟨f', M1, a1, a2, a3, a4⟩ := loop_ring_o (g := g) (t := t) N hN hw sq (fun (M10 : Mm) => ((some (nI t + (nI 1))).bind fun l2_5 => (L_X12_laysRing_42 kE 137 N fu l2_5 M10))) N 0 f M (by omega) (by omega) h4 h6 hB (fun i hi => by omega)
      rw [a1, Option.bind_some, nI_add]
      obtain ⟨M2, b1, b2, b3⟩ := loop_ring_t N hN hw sq kE fu (t + 1) f' M1 (by omega) (by omega) (h4.p146 a4 (by decide)) a2 a3
      exact ⟨M2, b1, b2, a4.trans b3⟩
theorem loop_ring_0 {R : Nat → Nat} {g : Nat} (N : Nat) (hg : g < 32) (hR : LT R) (kE : Mm → Option Mm) : ∀ (fu o : Nat) (M : Mm), o ≤ 32 → 32 < o + fu → HRo 144 0 32 R M → HRo 146 0 o (fun o => if (R o).testBit g = true then 1 else 1000) M → ∃ M', L_X12_laysRing_2 kE 137 N (nI g) fu (nI o) M = kE M' ∧ HRo 146 0 32 (fun o => if (R o).testBit g = true then 1 else 1000) M' ∧ FX P146 M M'
  | 0, o, M, h1, h2, _, _ => by omega
  | fu + 1, o, M, h1, h2, h4, h6 => by
    rw [L_X12_laysRing_2]
    simp (disch := omega) only [n_le]
    by_cases e : 32 ≤ o
    · rw [if_pos e]
      have eo : o = 32 := by omega
      subst eo
      exact ⟨M, rfl, h6, FX.refl⟩
    · have r4 := h4 o (by omega)
      rw [Nat.zero_add] at r4
      rw [if_neg e, show (137 : Nat) + 7 = 144 from rfl, show (137 : Nat) + 9 = 146 from rfl, ldI_n (by omega) (by omega), r4, Option.bind_some, r_has N M (hR o) hg, Option.bind_some]
      simp only [bI_0]
      have step : ∀ v, v = (if (R o).testBit g = true then 1 else 1000) → ∃ M', ((stI 32 146 (nI o) (nI v) M).bind fun M2 => (some (nI o + (nI 1))).bind fun l2_2 => (L_X12_laysRing_2 kE 137 N (nI g) fu l2_2 M2)) = kE M' ∧ HRo 146 0 32 (fun o => if (R o).testBit g = true then 1 else 1000) M' ∧ FX P146 M M' := fun v hv => by
        rw [stI_n (by omega) (by omega), Option.bind_some, Option.bind_some, nI_add]
        have f1 : FX P146 M (upI M 146 o (nI v)) := FX.I rfl
        obtain ⟨M', a, b, c⟩ := loop_ring_0 N hg hR kE fu (o + 1) (upI M 146 o (nI v)) (by omega) (by omega) (h4.p146 f1 (by decide)) (fun i hi => by
          rw [Nat.zero_add, upI_j]
          by_cases q : i = o
          · rw [if_pos q, hv, q]
          · rw [if_neg q]; have := h6 i (by omega); rw [Nat.zero_add] at this; exact this)
        exact ⟨M', a, b, f1.trans c⟩
      cases b : (R o).testBit g
      · rw [if_pos rfl]; exact step 1000 (by rw [b]; rfl)
      · rw [if_neg (by decide)]; exact step 1 (by rw [b]; rfl)
theorem loop_ring_next {R : Nat → Nat} {w g i h : Nat} {M : Mm} (N : Nat) (hw : w ≤ 32) (hR : LT R) (h4 : HRo 144 0 32 R M) (h6 : HRo 146 0 32 (vF R w g) M) (h27 : M.1 137 27 = nI (dF R w g g)) (hi : i < dF R w g g) (hh : h < 32) (kE : Int32 → Option Mm) (hx : i + 1 < dF R w g g → nxI R (dF R w g) w h (dF R w g g - (i + 1)) < w) : ∀ (fu l : Nat), l ≤ 32 → 33 < l + fu → (i + 1 < dF R w g g → l ≤ nxI R (dF R w g) w h (dF R w g g - (i + 1))) → ∃ v, L_X12_laysRing_154 kE M 137 (nI i) (nI h) N fu (nI l) = kE v ∧ (i + 1 < dF R w g g → v = nI (nxI R (dF R w g) w h (dF R w g g - (i + 1))))
  | 0, l, h0, h1, h2 => by omega
  | fu + 1, l, h0, h1, h2 => by
    have hle := dF_le R w g g
    rw [L_X12_laysRing_154, h27]
    simp (disch := omega) only [nI_add, n_le]
    by_cases c : dF R w g g ≤ i + 1
    · rw [if_pos c]; exact ⟨_, rfl, fun q => by omega⟩
    · have hl := h2 (by omega)
      have hx' := hx (by omega)
      have r4 := h4 h hh
      have r6 := h6 l (by omega)
      rw [Nat.zero_add] at r4 r6
      have vl : vF R w g l ≤ 1000 := by unfold vF; have := dF_le R w g l; split <;> omega
      rw [if_neg c, show (137 : Nat) + 7 = 144 from rfl, show (137 : Nat) + 9 = 146 from rfl, ldI_n (by omega) (by omega), r4, Option.bind_some, r_has N M (hR h) (by omega), Option.bind_some]
      simp only [bI_0, Option.bind_some]
      have next : ((R h).testBit l && decide (dF R w g l = dF R w g g - (i + 1))) = false → ∃ v, L_X12_laysRing_154 kE M 137 (nI i) (nI h) N fu (nI (l + 1)) = kE v ∧ (i + 1 < dF R w g g → v = nI (nxI R (dF R w g) w h (dF R w g g - (i + 1)))) := fun b =>
        loop_ring_next N hw hR h4 h6 h27 hi hh kE hx fu (l + 1) (by omega) (by omega) fun q => by
          have : ¬ l = nxI R (dF R w g) w h (dF R w g g - (i + 1)) := fun z => by
            have := fb_hit hx'
            rw [show fb (fun k => (R h).testBit k && decide (dF R w g k = dF R w g g - (i + 1))) w = l from z.symm, b] at this
            cases this
          omega
      cases b : (R h).testBit l
      · rw [if_pos rfl]; exact next (by rw [b]; rfl)
      · rw [if_neg (by decide), ldI_n (by omega) (by omega), r6, Option.bind_some, n_sub (by omega), n_sub (by omega)]
        have ev : (nI (vF R w g l) = nI (dF R w g g - i - 1)) = (dF R w g l = dF R w g g - (i + 1)) := by
          rw [n_eq (by omega) (by omega)]
          apply propext
          unfold vF
          split <;> omega
        simp only [ev]
        by_cases d : dF R w g l = dF R w g g - (i + 1)
        · rw [if_pos d]
          refine ⟨_, rfl, fun _ => ?_⟩
          have : nxI R (dF R w g) w h (dF R w g g - (i + 1)) = l := fb_eq (by omega) (fun j hj => fb_below (f := fun k => (R h).testBit k && decide (dF R w g k = dF R w g g - (i + 1))) (n := w) (by unfold nxI at hl; omega)) (Or.inr (by rw [b, decide_eq_true d]; rfl))
          rw [this]
        · rw [if_neg d]; exact next (by rw [b, decide_eq_false d]; rfl)
def PRg (b j : Nat) : Prop := b = 146 ∨ b = 147 ∨ b = 137 ∧ j = 27
theorem loop_ring {R : Nat → Nat} {w g : Nat} (N : Nat) (hN : 2000 < N) (hw : w ≤ 32) (hg : g < w) (hR : LT R) : ∀ (fu i : Nat) (h : Int32) (M : Mm), i ≤ dF R w g g → 33 < i + fu → (i < dF R w g g → h = nI (rgI R (dF R w g) w g i)) → M.1 137 27 = nI (dF R w g g) → HRo 144 0 32 R M → HRo 146 0 32 (vF R w g) M → (∀ j, j < i → M.1 147 j = nI (rgI R (dF R w g) w g j)) → ∃ M', L_X12_laysRing_136 137 N fu h (nI i) M = some M' ∧ (∀ j, j < dF R w g g → M'.1 147 j = nI (rgI R (dF R w g) w g j)) ∧ M'.1 137 27 = nI (dF R w g g) ∧ FX PRg M M'
  | 0, i, h, M, h1, h2, _, _, _, _, _ => by have := dF_le R w g g; omega
  | fu + 1, i, h, M, h1, h2, hh, h27, h4, h6, h7 => by
    have hle := dF_le R w g g
    rw [L_X12_laysRing_136, h27]
    simp (disch := omega) only [n_le]
    by_cases e : dF R w g g ≤ i
    · rw [if_pos e]; exact ⟨M, rfl, fun j hj => h7 j (by omega), h27, FX.refl⟩
    · obtain ⟨r1, r2⟩ := rg_ok (R := R) hg i (by omega)
      rw [if_neg e, hh (by omega), show (137 : Nat) + 10 = 147 from rfl, stI_n (by omega) (by omega), Option.bind_some]
      have f1 : FX PRg M (upI M 147 i (nI (rgI R (dF R w g) w g i))) := FX.I (Or.inr (Or.inl rfl))
      have g4 := h4.fx f1 (fun j _ _ q => by unfold PRg at q; omega)
      have g6 : HRo 146 0 32 (vF R w g) (upI M 147 i (nI (rgI R (dF R w g) w g i))) := fun o ho => by rw [up1, if_neg (by decide)]; exact h6 o ho
      have g27 : (upI M 147 i (nI (rgI R (dF R w g) w g i))).1 137 27 = nI (dF R w g g) := by rw [up1, if_neg (by decide)]; exact h27
      obtain ⟨v, a1, a2⟩ := loop_ring_next (i := i) (h := rgI R (dF R w g) w g i) N hw hR g4 g6 g27 (by omega) (by omega) (fun (l4_7 : Int32) => ((some (nI i + (nI 1))).bind fun l3_4 => (L_X12_laysRing_136 137 N fu l4_7 l3_4 (upI M 147 i (nI (rgI R (dF R w g) w g i)))))) (fun q => by have := (rg_ok (R := R) hg (i + 1) q).1; rw [rgI_s] at this; exact this) N 0 (by omega) (by omega) (fun _ => Nat.zero_le _)
      rw [a1, Option.bind_some, nI_add]
      obtain ⟨M', b1, b2, b3, b4⟩ := loop_ring N hN hw hg hR fu (i + 1) v _ (by omega) (by omega) (fun q => by rw [a2 q, rgI_s]) g27 g4 g6 (fun j hj => by
        rw [upI_j]
        by_cases q : j = i
        · rw [if_pos q, q]
        · rw [if_neg q]; exact h7 j (by omega))
      exact ⟨M', b1, b2, b3, f1.trans b4⟩
theorem FB_0 {R : Nat → Nat} {w g : Nat} (sq : SQ w R) : FB R w g (fun o => if (R o).testBit g = true then 1 else 1000) 0 := by
  have hw : ∀ o, (R o).testBit g = true → o < w := fun o b => Decidable.byContradiction fun z => by rw [sq.1 o (by omega), Nat.zero_testBit] at b; cases b
  refine ⟨fun o => ?_, fun o h1 h2 => ?_⟩
  · show vF R w g o ≤ (if (R o).testBit g = true then 1 else 1000) ∧ (if (R o).testBit g = true then 1 else 1000) ≤ 1000
    have hle := dF_le R w g o
    by_cases b : (R o).testBit g = true
    · have := dF_1.mpr ⟨hw o b, b⟩
      unfold vF
      rw [if_pos b, this, if_neg (by decide)]; omega
    · unfold vF
      rw [if_neg b]; split <;> omega
  · have := dF_1.mp (show dF R w g o = 1 by omega)
    show (if (R o).testBit g = true then 1 else 1000) ≤ _
    rw [if_pos this.2]; omega
theorem r_laysRing {R : Nat → Nat} {w g : Nat} {M : Mm} (N : Nat) (hN : 2000 < N) (hw : w ≤ 32) (hg : g < w) (sq : SQ w R) (hz : ¬ dF R w g g = 0) (h4 : HRo 144 0 32 R M) : ∃ M', D_X12_laysRing N 137 (nI g) M = some M' ∧ (∀ j, j < dF R w g g → M'.1 147 j = nI (rgI R (dF R w g) w g j)) ∧ M'.1 137 27 = nI (dF R w g g) ∧ FX PRg M M' := by
  unfold D_X12_laysRing
  obtain ⟨M1, a1, a2, a3⟩ := loop_ring_0 (R := R) (g := g) N (by omega) (sq.lt hw) (fun (M4 : Mm) => (L_X12_laysRing_42 (fun (M11 : Mm) => ((ldI 32 (137 + 9) (nI g) M11).bind fun v5 => (pI M11 137 27 v5).bind fun M12 => (L_X12_laysRing_136 137 N N (nI g) (nI 0) M12))) 137 N N (nI 0) M4)) N 0 M (by omega) (by omega) h4 (fun o ho => by omega)
  rw [a1]
  obtain ⟨M2, b1, b2, b3⟩ := loop_ring_t (R := R) (w := w) (g := g) N hN hw sq (fun (M11 : Mm) => ((ldI 32 (137 + 9) (nI g) M11).bind fun v5 => (pI M11 137 27 v5).bind fun M12 => (L_X12_laysRing_136 137 N N (nI g) (nI 0) M12))) N 0 (fun o => if (R o).testBit g = true then 1 else 1000) M1 (by omega) (by omega) (h4.p146 a3 (by decide)) a2 (FB_0 sq)
  have hf := b2 g (by omega)
  rw [Nat.zero_add, show vF R w g g = dF R w g g from if_neg hz] at hf
  rw [b1, show (137 : Nat) + 9 = 146 from rfl, ldI_n (by omega) (by omega), hf, Option.bind_some, pI_n, Option.bind_some]
  have f3 : FX PRg M2 (upI M2 137 27 (nI (dF R w g g))) := FX.I (Or.inr (Or.inr ⟨rfl, rfl⟩))
  obtain ⟨M3, c1, c2, c3, c4⟩ := loop_ring (R := R) N hN hw hg (sq.lt hw) N 0 (nI g) (upI M2 137 27 (nI (dF R w g g))) (by omega) (by omega) (fun _ => rfl) (upI_s _ _ _ _) (((h4.p146 a3 (by decide)).p146 b3 (by decide)).fx f3 fun j _ _ q => by unfold PRg at q; omega) (fun o ho => by rw [up1, if_neg (by decide)]; exact b2 o ho) (fun j hj => by omega)
  exact ⟨M3, c1, c2, c3, (((a3.mono fun a j q => Or.inl q).trans (b3.mono fun a j q => Or.inl q)).trans f3).trans c4⟩
theorem r_firstSelf {R : Nat → Nat} {M : Mm} (N : Nat) (hN : 2000 < N) (hR : LT R) (hM : HRo 144 0 32 R M) : D_X12_firstSelf N 137 M = some (fR (fb (fun o => (R o).testBit o) 32) 32) := by
  have key : ∀ (k i : Nat), i ≤ 32 → 32 < i + k → (∀ j, j < i → (R j).testBit j = false) → L_X12_firstSelf_2 137 M N k (nI i) = some (fR (fb (fun o => (R o).testBit o) 32) 32) := by
    intro k
    induction k with
    | zero => intro i h1 h2; omega
    | succ k ih =>
      intro i h1 h2 hj
      rw [L_X12_firstSelf_2]
      simp (disch := omega) only [n_le]
      by_cases e : 32 ≤ i
      · rw [if_pos e, fb_eq h1 hj (Or.inl (by omega)), fR_m (by omega)]
      · have := hM i (by omega)
        rw [Nat.zero_add] at this
        rw [if_neg e, show (137 : Nat) + 7 = 144 from rfl, ldI_n (by omega) (by omega), this, Option.bind_some, r_has N M (hR i) (by omega), Option.bind_some]
        simp only [bI_0, Option.bind_some, nI_add]
        cases b : (R i).testBit i
        · rw [if_pos rfl]
          refine ih (i + 1) (by omega) (by omega) fun j hj2 => ?_
          by_cases e3 : j = i
          · rw [e3]; exact b
          · exact hj j (by omega)
        · rw [if_neg (by decide), fb_eq h1 hj (Or.inr b), fR_n (by omega)]
  exact key N 0 (by omega) (by omega) fun j hj => by omega
/-- the reference's state of what is induced -/
def RI' (G : Gr) (A : Nat → Nat) (M : Mm) : Prop := QT G M ∧ HRo 143 0 64 A M
theorem RI'.fx {P : Nat → Nat → Prop} {G : Gr} {A : Nat → Nat} {M M' : Mm} (h : RI' G A M) (f : FX P M M') (h1 : ∀ j, ¬ P 139 j) (h2 : ∀ j, ¬ P 141 j) (h3 : ∀ j, ¬ P 143 j) : RI' G A M' := ⟨h.1.fx f h1 h2, h.2.fx f fun j _ _ => h3 j⟩
def PCi (b j : Nat) : Prop := b = 144 ∨ PRg b j
theorem RI'.ci {G : Gr} {A : Nat → Nat} {M M' : Mm} (h : RI' G A M) (f : FX PCi M M') : RI' G A M' := h.fx f (fun j q => by unfold PCi PRg at q; omega) (fun j q => by unfold PCi PRg at q; omega) (fun j q => by unfold PCi PRg at q; omega)
theorem r_findsCircle {G : Gr} {A : Nat → Nat} {M : Mm} (N : Nat) (hN : 2000 < N) (K : RI' G A M) (hA : AOK G A) : ∃ M', D_X12_findsCircle N 137 M = some (fR (cirP G A) (G.i 0 1), M') ∧ (cirP G A < G.i 0 1 → M'.1 137 27 = nI (cirL G A (cirP G A)) ∧ ∀ j, j < cirL G A (cirP G A) → M'.1 147 j = nI (cirR G A (cirP G A) j)) ∧ FX PCi M M' := by
  have hq := K.1.g
  have hnp := hq.np
  have key : ∀ (k p : Nat) (M : Mm), p ≤ G.i 0 1 → 13 < p + k → RI' G A M → (∀ j, j < p → ¬ cirO G A j < 32) → ∃ M', L_X12_findsCircle_2 (fun (l1_3 : Int32) (l2_1 : Int32) (M3 : Mm) => ((D_X12_laysRules N 137 l1_3 M3).bind fun M4 => (D_X12_addsInduced N 137 l1_3 M4).bind fun M5 => (D_X12_laysRing N 137 l2_1 M5).bind fun M6 => some (l1_3, M6))) 137 N k (nI p) M = some (fR (cirP G A) (G.i 0 1), M') ∧ (cirP G A < G.i 0 1 → M'.1 137 27 = nI (cirL G A (cirP G A)) ∧ ∀ j, j < cirL G A (cirP G A) → M'.1 147 j = nI (cirR G A (cirP G A) j)) ∧ FX PCi M M' := by
    intro k
    induction k with
    | zero => intro p M h1 h2; omega
    | succ k ih =>
      intro p M h1 h2 K hj
      rw [L_X12_findsCircle_2, show (137 : Nat) + 2 = 139 from rfl, ldI_n (by omega) (by omega), K.1.1.1.2.1, Option.bind_some]
      simp (disch := omega) only [n_le]
      by_cases e : G.i 0 1 ≤ p
      · have ec : cirP G A = G.i 0 1 := fb_eq (Nat.le_refl _) (fun j hj2 => decide_eq_false (hj j (by omega))) (Or.inl rfl)
        rw [if_pos e, ec, fR_m (Nat.lt_irrefl _)]
        exact ⟨M, rfl, fun q => absurd q (Nat.lt_irrefl _), FX.refl⟩
      · have hp : p < G.i 0 1 := by omega
        have hsd := hq.sd hp
        obtain ⟨M1, a1, a2, a3⟩ := r_laysClosed N hN hA hp K.1 K.2
        have K1 : RI' G A M1 := K.ci (a3.mono fun a j q => Or.inl q)
        rw [if_neg e, a1, Option.bind_some, r_firstSelf N hN ((iC_sq hq hA hp).lt (by omega)) a2, Option.bind_some]
        simp only [fR_m1 (show 32 < 2 ^ 31 by decide)]
        show ∃ M', (if ¬ cirO G A p < 32 then _ else _) = _ ∧ _
        by_cases c : cirO G A p < 32
        · have ec : cirP G A = p := fb_eq (by omega) (fun j hj2 => decide_eq_false (hj j hj2)) (Or.inr (decide_eq_true c))
          rw [if_neg (not_not_intro c), fR_n (show fb (fun o => (iC G A p o).testBit o) 32 < 32 from c)]
          obtain ⟨M2, M3, b1, b2, b3, b4⟩ := r_laysInd N hN hA hp K1.1 K1.2
          obtain ⟨w1, w2⟩ := (cirO_w hq hA hp).1 c
          obtain ⟨M4, d1, d2, d3, d4⟩ := r_laysRing (R := layR G A p) (w := 8 * G.i 6 p) (g := cirO G A p) N hN (by omega) w1 (lay_sq hq hA hp) (cirL_pos hq hA hp c) b3
          rw [b1, Option.bind_some, b2, Option.bind_some, show fb (fun o => (iC G A p o).testBit o) 32 = cirO G A p from rfl, d1, Option.bind_some, ec, fR_n hp]
          exact ⟨M4, rfl, fun _ => ⟨d3, d2⟩, ((a3.trans b4).mono fun a j q => Or.inl q).trans (d4.mono fun a j q => Or.inr q)⟩
        · rw [if_pos c, Option.bind_some, nI_add]
          obtain ⟨M2, b1, b2, b3⟩ := ih (p + 1) M1 (by omega) (by omega) K1 fun j hj2 => by
            by_cases z : j = p
            · rw [z]; exact c
            · exact hj j (by omega)
          exact ⟨M2, b1, b2, (a3.mono fun a j q => Or.inl q).trans b3⟩
  exact key N 0 M (by omega) (by omega) K fun j hj => by omega
