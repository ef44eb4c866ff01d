-- how far each occ is from one
def fb (f : Nat → Bool) : Nat → Nat
  | 0 => 0
  | n + 1 => if fb f n < n then fb f n else if f n = true then n else n + 1
theorem fb_le (f : Nat → Bool) : ∀ n, fb f n ≤ n
  | 0 => Nat.le_refl 0
  | n + 1 => by
    rw [fb]; have := fb_le f n
    split
    · omega
    · split <;> omega
theorem fb_eq {f : Nat → Bool} : ∀ {n i : Nat}, i ≤ n → (∀ j, j < i → f j = false) → (i = n ∨ f i = true) → fb f n = i
  | 0, i, h, _, _ => by rw [fb]; omega
  | n + 1, i, h, h1, h2 => by
    rw [fb]
    by_cases c : i ≤ n
    · have e := fb_eq (n := n) c h1 (by
        rcases h2 with h2 | h2
        · omega
        · exact Or.inr h2)
      rw [e]
      by_cases c2 : i < n
      · rw [if_pos c2]
      · have : i = n := by omega
        subst this
        rw [if_neg c2, if_pos (h2.resolve_left (by omega))]
    · have ei : i = n + 1 := by omega
      have e := fb_eq (n := n) (i := n) (Nat.le_refl _) (fun j hj => h1 j (by omega)) (Or.inl rfl)
      rw [e, if_neg (Nat.lt_irrefl n), if_neg (by rw [h1 n (by omega)]; decide), ei]
theorem fb_hit {f : Nat → Bool} : ∀ {n : Nat}, fb f n < n → f (fb f n) = true
  | 0, h => by omega
  | n + 1, h => by
    rw [fb] at h ⊢
    by_cases c : fb f n < n
    · rw [if_pos c]; exact fb_hit c
    · rw [if_neg c] at h ⊢
      by_cases d : f n = true
      · rw [if_pos d]; exact d
      · rw [if_neg d] at h; omega
theorem fb_below {f : Nat → Bool} : ∀ {n j : Nat}, j < fb f n → f j = false
  | 0, j, h => by rw [fb] at h; omega
  | n + 1, j, h => by
    rw [fb] at h
    by_cases c : fb f n < n
    · rw [if_pos c] at h; exact fb_below h
    · have := fb_le f n
      have en : fb f n = n := by omega
      rw [if_neg c] at h
      by_cases d : j < n
      · exact fb_below (n := n) (by omega)
      · by_cases e : f n = true
        · rw [if_pos e] at h; omega
        · rw [if_neg e] at h
          have : j = n := by omega
          rw [this]; simpa using e
theorem fb_ex {f : Nat → Bool} {n j : Nat} (hj : j < n) (h : f j = true) : fb f n < n := by
  refine Decidable.byContradiction fun c => ?_
  have := fb_below (f := f) (n := n) (j := j) (by omega)
  rw [h] at this; cases this
theorem fb_congr {f g : Nat → Bool} : ∀ {n : Nat}, (∀ j, j < n → f j = g j) → fb f n = fb g n
  | 0, _ => rfl
  | n + 1, h => by rw [fb, fb, fb_congr fun j hj => h j (by omega), h n (by omega)]
def wid (f : Nat → Bool) : Nat → Nat
  | 0 => 0
  | n + 1 => if f n = true then wid f n ||| 2 ^ n else wid f n
theorem wid_b (f : Nat → Bool) (i : Nat) : ∀ n, (wid f n).testBit i = (decide (i < n) && f i)
  | 0 => by rw [wid, Nat.zero_testBit, decide_eq_false (by omega)]; rfl
  | n + 1 => by
    rw [wid]
    by_cases e : f n = true
    · rw [if_pos e, Nat.testBit_or, wid_b f i n]
      by_cases c : i = n
      · rw [c, Nat.testBit_two_pow_self, e, decide_eq_true (Nat.lt_succ_self n), Bool.or_true]; rfl
      · rw [Nat.testBit_two_pow_of_ne (fun z => c z.symm), Bool.or_false]
        congr 1
        exact decide_eq_decide.mpr (by omega)
    · rw [if_neg e, wid_b f i n]
      by_cases c : i = n
      · have : f n = false := by simpa using e
        rw [c, this, Bool.and_false, Bool.and_false]
      · congr 1
        exact decide_eq_decide.mpr (by omega)
theorem wid_lt (f : Nat → Bool) (n : Nat) : wid f n < 2 ^ n := lt_of_bits fun i hi => by
  rw [wid_b, Bool.and_eq_true] at hi
  exact of_decide_eq_true hi.1
theorem and_ne {a b : Nat} : ¬ a &&& b = 0 ↔ ∃ k, a.testBit k = true ∧ b.testBit k = true := by
  constructor
  · intro h
    refine Classical.byContradiction fun c => h (Nat.eq_of_testBit_eq fun i => ?_)
    rw [Nat.testBit_and, Nat.zero_testBit]
    cases e : a.testBit i
    · rfl
    · cases e2 : b.testBit i
      · rfl
      · exact absurd ⟨i, e, e2⟩ c
  · rintro ⟨k, h1, h2⟩ h
    have : (a &&& b).testBit k = true := by rw [Nat.testBit_and, h1, h2]; rfl
    rw [h, Nat.zero_testBit] at this
    cases this
/-- the search's state: distances, and the rim -/
def bCon (R F : Nat → Nat) (X o : Nat) : Bool := decide (F o = 0) && !decide (R o &&& X = 0)
def bS (R : Nat → Nat) (w g : Nat) : Nat → (Nat → Nat) × Nat
  | 0 => (fun _ => 0, 2 ^ g)
  | s + 1 => (fun o => if o < w ∧ bCon R (bS R w g s).1 (bS R w g s).2 o = true then s + 1 else (bS R w g s).1 o, wid (bCon R (bS R w g s).1 (bS R w g s).2) w)
theorem bS_1 (R : Nat → Nat) (w g s o : Nat) : (bS R w g (s + 1)).1 o = if o < w ∧ bCon R (bS R w g s).1 (bS R w g s).2 o = true then s + 1 else (bS R w g s).1 o := rfl
theorem bS_2 (R : Nat → Nat) (w g s : Nat) : (bS R w g (s + 1)).2 = wid (bCon R (bS R w g s).1 (bS R w g s).2) w := rfl
theorem bCon_t {R F : Nat → Nat} {X o : Nat} : bCon R F X o = true ↔ F o = 0 ∧ ∃ k, (R o).testBit k = true ∧ X.testBit k = true := by
  unfold bCon
  rw [Bool.and_eq_true, decide_eq_true_iff, Bool.not_eq_true', decide_eq_false_iff_not, and_ne]
theorem bS_le (R : Nat → Nat) (w g : Nat) : ∀ s o, (bS R w g s).1 o ≤ s
  | 0, o => Nat.le_refl 0
  | s + 1, o => by
    rw [bS_1]; have := bS_le R w g s o
    split <;> omega
theorem bS_w (R : Nat → Nat) (w g : Nat) : ∀ s o, w ≤ o → (bS R w g s).1 o = 0
  | 0, o, _ => rfl
  | s + 1, o, h => by rw [bS_1, if_neg (fun z => by omega)]; exact bS_w R w g s o h
theorem bS_st {R : Nat → Nat} {w g s o : Nat} (h : ¬ (bS R w g s).1 o = 0) : ∀ d, (bS R w g (s + d)).1 o = (bS R w g s).1 o
  | 0 => rfl
  | d + 1 => by
    have e := bS_st h d
    rw [show s + (d + 1) = (s + d) + 1 from rfl, bS_1, if_neg, e]
    rintro ⟨_, z⟩
    rw [bCon_t, e] at z
    exact h z.1
theorem bS_rim {R : Nat → Nat} {w g s k : Nat} : (bS R w g (s + 1)).2.testBit k = true ↔ k < w ∧ (bS R w g (s + 1)).1 k = s + 1 := by
  rw [bS_2, wid_b, Bool.and_eq_true, decide_eq_true_iff, bS_1]
  constructor
  · rintro ⟨a, b⟩
    exact ⟨a, by rw [if_pos ⟨a, b⟩]⟩
  · rintro ⟨a, b⟩
    refine ⟨a, ?_⟩
    by_cases c : bCon R (bS R w g s).1 (bS R w g s).2 k = true
    · exact c
    · rw [if_neg (fun z => c z.2)] at b
      have := bS_le R w g s k
      omega
theorem bS_x0 {R : Nat → Nat} {w g s : Nat} (h : (bS R w g s).2 = 0) : ∀ d, (bS R w g (s + d)).1 = (bS R w g s).1 ∧ (bS R w g (s + d)).2 = 0
  | 0 => ⟨rfl, h⟩
  | d + 1 => by
    obtain ⟨a, b⟩ := bS_x0 h d
    have hc : ∀ o, bCon R (bS R w g (s + d)).1 (bS R w g (s + d)).2 o = false := fun o => by
      unfold bCon; rw [b, Nat.and_zero]; simp
    refine ⟨?_, ?_⟩
    · funext o
      rw [show s + (d + 1) = (s + d) + 1 from rfl, bS_1, if_neg (fun z => by rw [hc] at z; cases z.2), a]
    · rw [show s + (d + 1) = (s + d) + 1 from rfl, bS_2]
      apply Nat.eq_of_testBit_eq
      intro i
      rw [wid_b, hc, Bool.and_false, Nat.zero_testBit]
/-- the distances -/
def dF (R : Nat → Nat) (w g : Nat) : Nat → Nat := (bS R w g 32).1
theorem dF_of {R : Nat → Nat} {w g s o : Nat} (hs : s ≤ 32) (h : ¬ (bS R w g s).1 o = 0) : dF R w g o = (bS R w g s).1 o := by
  have := bS_st h (32 - s)
  rw [show s + (32 - s) = 32 by omega] at this
  exact this
theorem dF_le (R : Nat → Nat) (w g o : Nat) : dF R w g o ≤ 32 := bS_le R w g 32 o
theorem dF_w {R : Nat → Nat} {w g o : Nat} (h : ¬ dF R w g o = 0) : o < w := Decidable.byContradiction fun c => h (bS_w R w g 32 o (by omega))
theorem bS_s {R : Nat → Nat} {w g o : Nat} : ∀ s n, (bS R w g s).1 o = n + 1 → (bS R w g (n + 1)).1 o = n + 1 ∧ (bS R w g n).1 o = 0
  | 0, n, h => by
    have : (0 : Nat) = n + 1 := h
    omega
  | s + 1, n, h => by
    rw [bS_1] at h
    by_cases c : o < w ∧ bCon R (bS R w g s).1 (bS R w g s).2 o = true
    · rw [if_pos c] at h
      have : s = n := by omega
      subst this
      refine ⟨by rw [bS_1, if_pos c], (bCon_t.mp c.2).1⟩
    · rw [if_neg c] at h; exact bS_s s n h
theorem dF_1 {R : Nat → Nat} {w g o : Nat} : dF R w g o = 1 ↔ o < w ∧ (R o).testBit g = true := by
  constructor
  · intro h
    obtain ⟨a, _⟩ := bS_s 32 0 h
    rw [bS_1] at a
    by_cases c : o < w ∧ bCon R (bS R w g 0).1 (bS R w g 0).2 o = true
    · obtain ⟨_, k, k1, k2⟩ := bCon_t.mp c.2
      have k2' : (2 ^ g).testBit k = true := k2
      rw [Nat.testBit_two_pow, decide_eq_true_iff] at k2'
      subst k2'
      exact ⟨c.1, k1⟩
    · rw [if_neg c] at a
      have : (0 : Nat) = 0 + 1 := a
      omega
  · rintro ⟨a, b⟩
    have e : (bS R w g 1).1 o = 1 := by
      rw [bS_1, if_pos ⟨a, bCon_t.mpr ⟨rfl, g, b, Nat.testBit_two_pow_self⟩⟩]
    rw [dF_of (s := 1) (by omega) (by rw [e]; decide), e]
theorem dF_2 {R : Nat → Nat} {w g o s : Nat} (h : dF R w g o = s + 2) : ∃ k, k < w ∧ (R o).testBit k = true ∧ dF R w g k = s + 1 := by
  have hle := dF_le R w g o
  obtain ⟨a, _⟩ := bS_s 32 (s + 1) h
  rw [bS_1] at a
  by_cases c : o < w ∧ bCon R (bS R w g (s + 1)).1 (bS R w g (s + 1)).2 o = true
  · obtain ⟨_, k, k1, k2⟩ := bCon_t.mp c.2
    obtain ⟨k3, k4⟩ := bS_rim.mp k2
    exact ⟨k, k3, k1, by rw [dF_of (s := s + 1) (by omega) (by rw [k4]; omega), k4]⟩
  · rw [if_neg c] at a
    have := bS_le R w g (s + 1) o
    omega
theorem dF_cnt {R : Nat → Nat} {w g : Nat} : ∀ n o, dF R w g o = n + 1 → n + 1 ≤ cnt (fun k => decide (1 ≤ dF R w g k ∧ dF R w g k ≤ n + 1)) w
  | 0, o, h => by
    have hw := dF_w (R := R) (w := w) (g := g) (o := o) (by omega)
    have := cnt_lt (f := fun _ => false) (g := fun k => decide (1 ≤ dF R w g k ∧ dF R w g k ≤ 0 + 1)) (n := w) (fun i _ e => by cases e) o hw rfl (decide_eq_true ⟨by omega, by omega⟩)
    omega
  | n + 1, o, h => by
    have hw := dF_w (R := R) (w := w) (g := g) (o := o) (by omega)
    obtain ⟨k, k1, k2, k3⟩ := dF_2 h
    have ih := dF_cnt n k k3
    have := cnt_lt (f := fun k => decide (1 ≤ dF R w g k ∧ dF R w g k ≤ n + 1)) (g := fun k => decide (1 ≤ dF R w g k ∧ dF R w g k ≤ n + 1 + 1)) (n := w) (fun i _ e => by
      have := of_decide_eq_true e
      exact decide_eq_true ⟨by omega, by omega⟩) o hw (decide_eq_false (by omega)) (decide_eq_true ⟨by omega, by omega⟩)
    omega
theorem cnt_full {f : Nat → Bool} : ∀ {n : Nat}, n ≤ cnt f n → ∀ i, i < n → f i = true
  | 0, _, i, hi => by omega
  | n + 1, h, i, hi => by
    rw [cnt] at h
    have := cnt_le f n
    by_cases e : f n = true
    · rw [if_pos e] at h
      by_cases c : i = n
      · rw [c]; exact e
      · exact cnt_full (n := n) (by omega) i (by omega)
    · rw [if_neg e] at h; omega
theorem dF_3 {R : Nat → Nat} {w g o k : Nat} (hw : w ≤ 32) (ho : o < w) (hr : (R o).testBit k = true) (hk : ¬ dF R w g k = 0) : ¬ dF R w g o = 0 ∧ dF R w g o ≤ dF R w g k + 1 := by
  have hle := dF_le R w g o
  have hlk := dF_le R w g k
  obtain ⟨s, hs⟩ : ∃ s, dF R w g k = s + 1 := ⟨dF R w g k - 1, by omega⟩
  by_cases c : s + 2 ≤ 32
  · by_cases z : (bS R w g (s + 1)).1 o = 0
    · obtain ⟨a, _⟩ := bS_s 32 s hs
      have e : (bS R w g (s + 1 + 1)).1 o = s + 2 := by
        rw [bS_1, if_pos ⟨ho, bCon_t.mpr ⟨z, k, hr, bS_rim.mpr ⟨dF_w hk, a⟩⟩⟩]
      have := dF_of (R := R) (w := w) (g := g) (s := s + 1 + 1) (o := o) (by omega) (by omega)
      omega
    · have := dF_of (by omega) z
      have := bS_le R w g (s + 1) o
      omega
  · have h32 : s + 1 = 32 := by omega
    have hc := dF_cnt s k hs
    have ew : w = 32 := by
      have := cnt_le (fun k => decide (1 ≤ dF R w g k ∧ dF R w g k ≤ s + 1)) w
      omega
    have := of_decide_eq_true (cnt_full (f := fun k => decide (1 ≤ dF R w g k ∧ dF R w g k ≤ s + 1)) (n := w) (by omega) o ho)
    omega
/-- what hangs on itself, closed, is some way from itself -/
theorem dF_self {R : Nat → Nat} {w g : Nat} (hw : w ≤ 32) (sq : SQ w R) (hg : g < w) (h : bt (clo w w R) g g) : ¬ dF R w g g = 0 := by
  have key := clo_least (w := w) (R := R) (S := fun i j => (¬ dF R w g j = 0 ∨ j = g) → ¬ dF R w g i = 0) (fun i j hi hij hj => ?_) (fun i l j _ _ h1 h2 hj => h1 (Or.inl (h2 hj))) w (Nat.le_refl _) g g hg h
  · exact key (Or.inr rfl)
  · by_cases c : j = g
    · subst c
      have := dF_1.mpr ⟨hi, hij⟩
      omega
    · exact (dF_3 hw hi hij (hj.resolve_right c)).1
