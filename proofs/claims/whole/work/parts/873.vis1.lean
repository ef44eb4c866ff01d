-- the sets of a symbol's attributes
def att (G : Gr) (s : Nat) : Nat := G.i 4 s + G.i 5 s
def vFree (G : Gr) (A : Nat → Nat) (s : Nat) (S : Nat → Nat) (a : Nat) : Bool := !decide (fb (fun e => decide (S e = 0) && (A (8 * s + e)).testBit a) (att G s) < att G s)
theorem vFree_t {G : Gr} {A : Nat → Nat} {s : Nat} {S : Nat → Nat} {a : Nat} : vFree G A s S a = true ↔ ∀ e, e < att G s → S e = 0 → (A (8 * s + e)).testBit a = false := by
  unfold vFree
  rw [Bool.not_eq_true', decide_eq_false_iff_not]
  constructor
  · intro h e he hs
    cases c : (A (8 * s + e)).testBit a
    · rfl
    · exact absurd (fb_ex (f := fun e => decide (S e = 0) && (A (8 * s + e)).testBit a) he (by rw [decide_eq_true hs, c]; rfl)) h
  · intro h c
    have := fb_hit c
    rw [Bool.and_eq_true, decide_eq_true_iff] at this
    rw [h _ c this.1] at this
    cases this.2
def vOk (G : Gr) (A : Nat → Nat) (s : Nat) (outs : Bool) (S : Nat → Nat) (a : Nat) : Bool := decide (S a = 0) && (decide (G.i 4 s ≤ a) == outs) && vFree G A s S a
def vSt (G : Gr) (A : Nat → Nat) (s : Nat) (outs : Bool) (k : Nat) (S : Nat → Nat) (a b : Nat) : Nat := if vOk G A s outs S a = true ∧ b = a then k else S b
def vPs (G : Gr) (A : Nat → Nat) (s : Nat) (outs : Bool) (k : Nat) : Nat → (Nat → Nat) → Nat → Nat
  | 0, S => S
  | a + 1, S => vSt G A s outs k (vPs G A s outs k a S) a
theorem vPs_s (G : Gr) (A : Nat → Nat) (s : Nat) (outs : Bool) (k a : Nat) (S : Nat → Nat) : vPs G A s outs k (a + 1) S = vSt G A s outs k (vPs G A s outs k a S) a := rfl
def vPass (G : Gr) (A : Nat → Nat) (s : Nat) (outs : Bool) (k : Nat) (S : Nat → Nat) : Nat → Nat := vPs G A s outs k (att G s) S
def vz (G : Gr) (s : Nat) (S : Nat → Nat) : Nat := cnt (fun a => decide (S a = 0)) (att G s)
/-- what a flag says of a change -/
def VF (G : Gr) (s : Nat) (b : Bool) (S S' : Nat → Nat) : Prop := (b = false → S' = S) ∧ (b = true → vz G s S' < vz G s S) ∧ ∀ a, ¬ S a = 0 → S' a = S a
theorem VF.refl {G : Gr} {s : Nat} {S : Nat → Nat} : VF G s false S S := ⟨fun _ => rfl, fun h => by (cases h), fun _ _ => rfl⟩
theorem VF.le {G : Gr} {s : Nat} {b : Bool} {S S' : Nat → Nat} (h : VF G s b S S') : vz G s S' ≤ vz G s S := by
  cases b
  · rw [h.1 rfl]; exact Nat.le_refl _
  · exact Nat.le_of_lt (h.2.1 rfl)
theorem VF.or {G : Gr} {s : Nat} {b c : Bool} {S S' S'' : Nat → Nat} (h : VF G s b S S') (h' : VF G s c S' S'') : VF G s (b || c) S S'' := by
  refine ⟨fun e => ?_, fun e => ?_, fun a ha => ?_⟩
  · rw [Bool.or_eq_false_iff] at e; rw [h'.1 e.2, h.1 e.1]
  · have h1 := h.le
    have h2 := h'.le
    rw [Bool.or_eq_true] at e
    rcases e with e | e
    · have := h.2.1 e; omega
    · have := h'.2.1 e; omega
  · rw [h'.2.2 a (by rw [h.2.2 a ha]; exact ha), h.2.2 a ha]
theorem vSt_f {G : Gr} {A : Nat → Nat} {s : Nat} {outs : Bool} {k : Nat} {S : Nat → Nat} {a : Nat} (hk : ¬ k = 0) (ha : a < att G s) : VF G s (vOk G A s outs S a) S (vSt G A s outs k S a) := by
  refine ⟨fun e => ?_, fun e => ?_, fun b hb => ?_⟩
  · funext b; unfold vSt; rw [e, if_neg (fun z => by cases z.1)]
  · have hz : S a = 0 := by
      unfold vOk at e
      rw [Bool.and_eq_true, Bool.and_eq_true, decide_eq_true_iff] at e
      exact e.1.1
    refine cnt_lt (fun b _ hb => ?_) a ha (decide_eq_false ?_) (decide_eq_true hz)
    · have hb := of_decide_eq_true hb
      refine decide_eq_true ?_
      unfold vSt at hb
      by_cases c : b = a
      · rw [c]; exact hz
      · rw [if_neg (fun z => c z.2)] at hb; exact hb
    · unfold vSt; rw [if_pos ⟨e, rfl⟩]; exact hk
  · unfold vSt
    by_cases c : vOk G A s outs S a = true ∧ b = a
    · obtain ⟨c1, c2⟩ := c
      unfold vOk at c1
      rw [Bool.and_eq_true, Bool.and_eq_true, decide_eq_true_iff, ← c2] at c1
      exact absurd c1.1.1 hb
    · rw [if_neg c]
/-- the flag of the first a -/
def vB (G : Gr) (A : Nat → Nat) (s : Nat) (outs : Bool) (k : Nat) (S : Nat → Nat) : Nat → Bool
  | 0 => false
  | a + 1 => vB G A s outs k S a || vOk G A s outs (vPs G A s outs k a S) a
theorem vPs_f {G : Gr} {A : Nat → Nat} {s : Nat} {outs : Bool} {k : Nat} {S : Nat → Nat} (hk : ¬ k = 0) : ∀ a, a ≤ att G s → VF G s (vB G A s outs k S a) S (vPs G A s outs k a S)
  | 0, _ => VF.refl
  | a + 1, h => (vPs_f hk a (by omega)).or (vSt_f hk (by omega))
def vIt (G : Gr) (A : Nat → Nat) (s : Nat) (outs : Bool) (k : Nat) (S : Nat → Nat) : Nat → Nat → Nat
  | 0 => S
  | i + 1 => vPass G A s outs k (vIt G A s outs k S i)
theorem vIt_s (G : Gr) (A : Nat → Nat) (s : Nat) (outs : Bool) (k : Nat) (S : Nat → Nat) (i : Nat) : vIt G A s outs k S (i + 1) = vPass G A s outs k (vIt G A s outs k S i) := rfl
theorem vIt_fix {G : Gr} {A : Nat → Nat} {s : Nat} {outs : Bool} {k : Nat} {S : Nat → Nat} {i : Nat} (h : vIt G A s outs k S (i + 1) = vIt G A s outs k S i) : ∀ n, vIt G A s outs k S (i + n) = vIt G A s outs k S i
  | 0 => rfl
  | n + 1 => by rw [show i + (n + 1) = (i + n) + 1 from rfl, vIt_s, vIt_fix h n, ← vIt_s, h]
def vFill (G : Gr) (A : Nat → Nat) (s : Nat) (outs : Bool) (k : Nat) (S : Nat → Nat) : Nat → Nat := vIt G A s outs k S 9
theorem vz_le (G : Gr) (s : Nat) (S : Nat → Nat) : vz G s S ≤ att G s := cnt_le _ _
theorem vPass_b {G : Gr} {A : Nat → Nat} {s : Nat} {outs : Bool} {k : Nat} {S : Nat → Nat} (hk : ¬ k = 0) : VF G s (vB G A s outs k S (att G s)) S (vPass G A s outs k S) := vPs_f hk _ (Nat.le_refl _)
/-- within nine passes nothing changes any more -/
theorem vFill_fix {G : Gr} {A : Nat → Nat} {s : Nat} {outs : Bool} {k : Nat} {S : Nat → Nat} (hk : ¬ k = 0) (h8 : att G s ≤ 8) : vPass G A s outs k (vFill G A s outs k S) = vFill G A s outs k S := by
  have key : ∀ i, (∃ j, j ≤ i ∧ vIt G A s outs k S (j + 1) = vIt G A s outs k S j) ∨ vz G s (vIt G A s outs k S i) + i ≤ 8 := by
    intro i
    induction i with
    | zero => exact Or.inr (by have := vz_le G s S; show vz G s S + 0 ≤ 8; omega)
    | succ i ih =>
      rcases ih with ⟨j, j1, j2⟩ | h
      · exact Or.inl ⟨j, by omega, j2⟩
      · have f := vPass_b (G := G) (A := A) (s := s) (outs := outs) (S := vIt G A s outs k S i) hk
        cases c : vB G A s outs k (vIt G A s outs k S i) (att G s)
        · exact Or.inl ⟨i, by omega, f.1 c⟩
        · have := f.2.1 c
          refine Or.inr ?_
          rw [vIt_s]; omega
  rcases key 9 with ⟨j, j1, j2⟩ | h
  · have e1 := vIt_fix j2 (9 - j)
    have e2 := vIt_fix j2 (10 - j)
    rw [show j + (9 - j) = 9 by omega] at e1
    rw [show j + (10 - j) = 9 + 1 by omega, vIt_s] at e2
    unfold vFill
    rw [e2, e1]
  · omega
theorem vFill_of {G : Gr} {A : Nat → Nat} {s : Nat} {outs : Bool} {k : Nat} {S : Nat → Nat} {i : Nat} (hi : i ≤ 9) (h : vPass G A s outs k (vIt G A s outs k S i) = vIt G A s outs k S i) : vFill G A s outs k S = vIt G A s outs k S i := by
  have := vIt_fix (i := i) (show vIt G A s outs k S (i + 1) = _ from h) (9 - i)
  rw [show i + (9 - i) = 9 by omega] at this
  exact this
/-- what one pass leaves alone, no attribute could be taken -/
theorem vPs_same {G : Gr} {A : Nat → Nat} {s : Nat} {outs : Bool} {k : Nat} {S : Nat → Nat} (hk : ¬ k = 0) (h : vPass G A s outs k S = S) : ∀ a, a ≤ att G s → vPs G A s outs k a S = S ∧ vB G A s outs k S a = false := by
  have hb : vB G A s outs k S (att G s) = false := by
    cases c : vB G A s outs k S (att G s)
    · rfl
    · have := (vPass_b (G := G) (A := A) (s := s) (outs := outs) (S := S) hk).2.1 c
      rw [h] at this; omega
  have down : ∀ d a, a + d = att G s → vB G A s outs k S a = false := by
    intro d
    induction d with
    | zero => intro a e; rw [show a = att G s by omega]; exact hb
    | succ d ih =>
      intro a e
      have := ih (a + 1) (by omega)
      rw [vB, Bool.or_eq_false_iff] at this
      exact this.1
  intro a ha
  have := down (att G s - a) a (by omega)
  exact ⟨(vPs_f hk a ha).1 this, this⟩
theorem vFix_no {G : Gr} {A : Nat → Nat} {s : Nat} {outs : Bool} {k : Nat} {S : Nat → Nat} (hk : ¬ k = 0) (h : vPass G A s outs k S = S) {a : Nat} (ha : a < att G s) : vOk G A s outs S a = false := by
  have := (vPs_same hk h (a + 1) ha).2
  rw [vB, Bool.or_eq_false_iff, (vPs_same hk h a (by omega)).1] at this
  exact this.2
def vSet (G : Gr) (A : Nat → Nat) (s : Nat) : Nat → Nat → Nat
  | 0 => fun _ => 0
  | t + 1 => vFill G A s (decide (t % 2 = 0)) (t + 1) (vSet G A s t)
theorem vSet_s (G : Gr) (A : Nat → Nat) (s t : Nat) : vSet G A s (t + 1) = vFill G A s (decide (t % 2 = 0)) (t + 1) (vSet G A s t) := rfl
/-- nothing hangs on itself: what hangs goes on hanging -/
def AcS (G : Gr) (A : Nat → Nat) (s : Nat) : Prop := (∀ a, a < att G s → (A (8 * s + a)).testBit a = false) ∧ ∀ a b c, a < att G s → b < att G s → (A (8 * s + a)).testBit b = true → (A (8 * s + b)).testBit c = true → (A (8 * s + a)).testBit c = true
theorem vFree_ex {G : Gr} {A : Nat → Nat} {s : Nat} {S : Nat → Nat} (h : AcS G A s) (hz : ¬ vz G s S = 0) : ∃ a, a < att G s ∧ S a = 0 ∧ vFree G A s S a = true := by
  have key : ∀ n a, a < att G s → S a = 0 → cnt (fun e => decide (S e = 0) && (A (8 * s + e)).testBit a) (att G s) ≤ n → ∃ a, a < att G s ∧ S a = 0 ∧ vFree G A s S a = true := by
    intro n
    induction n with
    | zero =>
      intro a ha hs hc
      refine ⟨a, ha, hs, vFree_t.mpr fun e he hse => ?_⟩
      cases c : (A (8 * s + e)).testBit a
      · rfl
      · have := cnt_lt (f := fun _ => false) (g := fun e => decide (S e = 0) && (A (8 * s + e)).testBit a) (n := att G s) (fun i _ e => by cases e) e he rfl (by rw [decide_eq_true hse, c]; rfl)
        omega
    | succ n ih =>
      intro a ha hs hc
      by_cases f : vFree G A s S a = true
      · exact ⟨a, ha, hs, f⟩
      · have : ∃ e, e < att G s ∧ S e = 0 ∧ (A (8 * s + e)).testBit a = true := by
          refine Classical.byContradiction fun c => f (vFree_t.mpr fun e he hse => ?_)
          cases d : (A (8 * s + e)).testBit a
          · rfl
          · exact absurd ⟨e, he, hse, d⟩ c
        obtain ⟨e, he, hse, hb⟩ := this
        refine ih e he hse ?_
        have := cnt_lt (f := fun x => decide (S x = 0) && (A (8 * s + x)).testBit e) (g := fun x => decide (S x = 0) && (A (8 * s + x)).testBit a) (n := att G s) (fun x hx hxe => by
          rw [Bool.and_eq_true] at hxe ⊢
          exact ⟨hxe.1, h.2 x e a hx he hxe.2 hb⟩) e he (by show (decide (S e = 0) && (A (8 * s + e)).testBit e) = false; rw [h.1 e he, Bool.and_false]) (by show (decide (S e = 0) && (A (8 * s + e)).testBit a) = true; rw [decide_eq_true hse, hb]; rfl)
        omega
  have : ∃ a, a < att G s ∧ S a = 0 := by
    refine Classical.byContradiction fun c => hz ?_
    have : ∀ n, n ≤ att G s → cnt (fun a => decide (S a = 0)) n = 0 := by
      intro n
      induction n with
      | zero => intro _; rfl
      | succ n ih =>
        intro hn
        rw [cnt, ih (by omega), if_neg]
        intro z
        exact c ⟨n, hn, of_decide_eq_true z⟩
    exact this _ (Nat.le_refl _)
  obtain ⟨a, ha, hs⟩ := this
  exact key _ a ha hs (Nat.le_refl _)
/-- how many of one kind are in no set yet -/
def vk (G : Gr) (s : Nat) (outs : Bool) (S : Nat → Nat) : Nat := cnt (fun a => decide (S a = 0) && (decide (G.i 4 s ≤ a) == outs)) (att G s)
theorem VF.vk {G : Gr} {s : Nat} {b : Bool} {S S' : Nat → Nat} (h : VF G s b S S') (outs : Bool) : vk G s outs S' ≤ vk G s outs S := cnt_mono fun a _ e => by
  rw [Bool.and_eq_true, decide_eq_true_iff] at e ⊢
  refine ⟨?_, e.2⟩
  refine Decidable.byContradiction fun c => ?_
  rw [h.2.2 a c] at e
  exact c e.1
theorem vIt_f {G : Gr} {A : Nat → Nat} {s : Nat} {outs : Bool} {k : Nat} {S : Nat → Nat} (hk : ¬ k = 0) : ∀ i, ∃ b, VF G s b S (vIt G A s outs k S i)
  | 0 => ⟨false, VF.refl⟩
  | i + 1 => by
    obtain ⟨b, h⟩ := vIt_f hk i
    exact ⟨_, h.or (vPass_b hk)⟩
theorem vFill_f {G : Gr} {A : Nat → Nat} {s : Nat} {outs : Bool} {k : Nat} {S : Nat → Nat} (hk : ¬ k = 0) : ∃ b, VF G s b S (vFill G A s outs k S) := vIt_f hk 9
theorem cnt_kind_in (n m : Nat) : cnt (fun a => decide (n ≤ a) == false) (n + m) = n := by
  have h1 : ∀ n', n' ≤ n → cnt (fun a => decide (n ≤ a) == false) n' = n' := by
    intro n'
    induction n' with
    | zero => intro _; rfl
    | succ n' ih => intro h; rw [cnt, ih (by omega), if_pos (by rw [decide_eq_false (by omega)]; rfl)]
  rw [cnt_zero m (fun i a _ => by rw [decide_eq_true a]; rfl), h1 n (Nat.le_refl _)]
theorem cnt_kind_out (n : Nat) : ∀ m, cnt (fun a => decide (n ≤ a) == true) (n + m) = m
  | 0 => by
    have : ∀ n', n' ≤ n → cnt (fun a => decide (n ≤ a) == true) n' = 0 := by
      intro n'
      induction n' with
      | zero => intro _; rfl
      | succ n' ih => intro h; rw [cnt, ih (by omega), if_neg (by rw [decide_eq_false (by omega)]; decide)]
    exact this n (Nat.le_refl _)
  | m + 1 => by
    show cnt _ (n + m + 1) = _
    rw [cnt, cnt_kind_out n m, if_pos (by rw [decide_eq_true (by omega)]; rfl)]
theorem vk_le {G : Gr} {s : Nat} (S : Nat → Nat) (outs : Bool) (h4 : G.i 4 s ≤ 4 ∧ G.i 5 s ≤ 4) : vk G s outs S ≤ 4 := by
  have h : vk G s outs S ≤ cnt (fun a => decide (G.i 4 s ≤ a) == outs) (att G s) := cnt_mono fun a _ e => by
    rw [Bool.and_eq_true] at e; exact e.2
  cases outs
  · rw [show att G s = G.i 4 s + G.i 5 s from rfl, cnt_kind_in] at h; omega
  · rw [show att G s = G.i 4 s + G.i 5 s from rfl, cnt_kind_out] at h; omega
theorem vz_kinds {G : Gr} {s : Nat} {S : Nat → Nat} (h1 : vk G s true S = 0) (h2 : vk G s false S = 0) : vz G s S = 0 := by
  have zero : ∀ (f : Nat → Bool) n, cnt f n = 0 → ∀ a, a < n → f a = false := by
    intro f n
    induction n with
    | zero => intro _ a ha; omega
    | succ n ih =>
      intro h a ha
      rw [cnt] at h
      by_cases e : f n = true
      · rw [if_pos e] at h; omega
      · by_cases c : a = n
        · rw [c]; simpa using e
        · exact ih (by omega) a (by omega)
  have : ∀ n, n ≤ att G s → cnt (fun a => decide (S a = 0)) n = 0 := by
    intro n
    induction n with
    | zero => intro _; rfl
    | succ n ih =>
      intro hn
      have a1 := zero _ _ h1 n hn
      have a2 := zero _ _ h2 n hn
      rw [cnt, ih (by omega), if_neg]
      intro z
      rw [z, Bool.true_and] at a1 a2
      cases c : decide (G.i 4 s ≤ n) <;> rw [c] at a1 a2 <;> simp at a1 a2
  exact this _ (Nat.le_refl _)
/-- set by set: each but the first takes one at least -/
theorem vSet_prog {G : Gr} {A : Nat → Nat} {s : Nat} (h : AcS G A s) (h4 : G.i 4 s ≤ 4 ∧ G.i 5 s ≤ 4) : ∀ t, ¬ vz G s (vSet G A s (t + 1)) = 0 → vk G s false (vSet G A s (t + 1)) + (t + 1) / 2 ≤ 4 ∧ vk G s true (vSet G A s (t + 1)) + t / 2 ≤ 4
  | 0, _ => ⟨vk_le _ _ h4, vk_le _ _ h4⟩
  | t + 1, hz => by
    have h8 : att G s ≤ 8 := by unfold att; omega
    obtain ⟨b, fb'⟩ := vFill_f (G := G) (A := A) (s := s) (outs := decide ((t + 1) % 2 = 0)) (k := t + 2) (S := vSet G A s (t + 1)) (by omega)
    rw [← vSet_s] at fb'
    have hz' : ¬ vz G s (vSet G A s (t + 1)) = 0 := by have := fb'.le; omega
    obtain ⟨i1, i2⟩ := vSet_prog h h4 t hz'
    obtain ⟨a, ha, hs, hf⟩ := vFree_ex h hz'
    have fix1 : vPass G A s (decide (t % 2 = 0)) (t + 1) (vSet G A s (t + 1)) = vSet G A s (t + 1) := by rw [vSet_s]; exact vFill_fix (by omega) h8
    have no1 := vFix_no (by omega) fix1 ha
    have kind : (decide (G.i 4 s ≤ a) == decide ((t + 1) % 2 = 0)) = true := by
      unfold vOk at no1
      rw [decide_eq_true hs, hf, Bool.true_and, Bool.and_true] at no1
      have e : decide ((t + 1) % 2 = 0) = !decide (t % 2 = 0) := by
        by_cases c : t % 2 = 0
        · rw [decide_eq_true c, decide_eq_false (by omega)]; rfl
        · rw [decide_eq_false c, decide_eq_true (by omega)]; rfl
      rw [e]
      cases x : decide (G.i 4 s ≤ a) <;> cases y : decide (t % 2 = 0) <;> rw [x, y] at no1 <;> simp at no1 ⊢
    have taken : vk G s (decide ((t + 1) % 2 = 0)) (vSet G A s (t + 2)) < vk G s (decide ((t + 1) % 2 = 0)) (vSet G A s (t + 1)) := by
      have fix2 : vPass G A s (decide ((t + 1) % 2 = 0)) (t + 2) (vSet G A s (t + 2)) = vSet G A s (t + 2) := by rw [vSet_s]; exact vFill_fix (by omega) h8
      have no2 := vFix_no (by omega) fix2 ha
      have hne : ¬ vSet G A s (t + 2) a = 0 := by
        intro z
        unfold vOk at no2
        rw [decide_eq_true z, kind, Bool.true_and, Bool.true_and] at no2
        have : vFree G A s (vSet G A s (t + 2)) a = true := vFree_t.mpr fun e he hse => vFree_t.mp hf e he (by
          refine Decidable.byContradiction fun c => ?_
          rw [fb'.2.2 e c] at hse
          exact c hse)
        rw [this] at no2; cases no2
      refine cnt_lt (fun x _ e => ?_) a ha ?_ ?_
      · rw [Bool.and_eq_true, decide_eq_true_iff] at e ⊢
        refine ⟨?_, e.2⟩
        refine Decidable.byContradiction fun c => ?_
        rw [fb'.2.2 x c] at e
        exact c e.1
      · rw [decide_eq_false hne]; rfl
      · rw [decide_eq_true hs, kind]; rfl
    have mi := fb'.vk false
    have mo := fb'.vk true
    show vk G s false (vSet G A s (t + 2)) + (t + 2) / 2 ≤ 4 ∧ vk G s true (vSet G A s (t + 2)) + (t + 1) / 2 ≤ 4
    have mi' : vk G s false (vSet G A s (t + 2)) ≤ vk G s false (vSet G A s (t + 1)) := mi
    have mo' : vk G s true (vSet G A s (t + 2)) ≤ vk G s true (vSet G A s (t + 1)) := mo
    by_cases c : (t + 1) % 2 = 0
    · rw [decide_eq_true c] at taken; omega
    · rw [decide_eq_false c] at taken; omega
theorem vSet_9 {G : Gr} {A : Nat → Nat} {s : Nat} (h : AcS G A s) (h4 : G.i 4 s ≤ 4 ∧ G.i 5 s ≤ 4) : vz G s (vSet G A s 9) = 0 := by
  refine Decidable.byContradiction fun c => ?_
  have q : vk G s false (vSet G A s 9) + 9 / 2 ≤ 4 ∧ vk G s true (vSet G A s 9) + 8 / 2 ≤ 4 := vSet_prog h h4 8 c
  exact c (vz_kinds (by omega) (by omega))
def vT (G : Gr) (A : Nat → Nat) (s : Nat) : Nat := fb (fun t => decide (vz G s (vSet G A s t) = 0)) 10
theorem vT_le {G : Gr} {A : Nat → Nat} {s : Nat} (h : AcS G A s) (h4 : G.i 4 s ≤ 4 ∧ G.i 5 s ≤ 4) : vT G A s ≤ 9 ∧ vz G s (vSet G A s (vT G A s)) = 0 := by
  have := fb_ex (f := fun t => decide (vz G s (vSet G A s t) = 0)) (n := 10) (j := 9) (by omega) (decide_eq_true (vSet_9 h h4))
  exact ⟨by unfold vT; omega, of_decide_eq_true (fb_hit this)⟩
theorem vT_no {G : Gr} {A : Nat → Nat} {s t : Nat} (h : t < vT G A s) : ¬ vz G s (vSet G A s t) = 0 := of_decide_eq_false (fb_below h)
def vV (G : Gr) (A : Nat → Nat) (s : Nat) : Nat := if vT G A s = 0 then 1 else (vT G A s + 1) / 2
def vW (G : Gr) (A : Nat → Nat) (s a : Nat) : Nat := vV G A s - (vSet G A s (vT G A s) a - 1) / 2
theorem vPs_bd {G : Gr} {A : Nat → Nat} {s : Nat} {outs : Bool} {k : Nat} {S : Nat → Nat} (hS : ∀ b, S b ≤ k) : ∀ a b, vPs G A s outs k a S b ≤ k
  | 0, b => hS b
  | a + 1, b => by
    rw [vPs_s]; unfold vSt
    split
    · exact Nat.le_refl _
    · exact vPs_bd hS a b
theorem vIt_bd {G : Gr} {A : Nat → Nat} {s : Nat} {outs : Bool} {k : Nat} {S : Nat → Nat} (hS : ∀ b, S b ≤ k) : ∀ i b, vIt G A s outs k S i b ≤ k
  | 0, b => hS b
  | i + 1, b => vPs_bd (vIt_bd hS i) _ b
theorem vSet_bd {G : Gr} {A : Nat → Nat} {s : Nat} : ∀ t a, vSet G A s t a ≤ t
  | 0, _ => Nat.le_refl 0
  | t + 1, a => vIt_bd (fun b => Nat.le_trans (vSet_bd t b) (Nat.le_succ t)) 9 a
theorem vz_ne {G : Gr} {s : Nat} {S : Nat → Nat} (h : vz G s S = 0) {a : Nat} (ha : a < att G s) : ¬ S a = 0 := fun z => by
  have := cnt_lt (f := fun _ => false) (g := fun a => decide (S a = 0)) (n := att G s) (fun i _ e => by cases e) a ha rfl (decide_eq_true z)
  unfold vz at h
  omega
theorem vV_bd {G : Gr} {A : Nat → Nat} {s : Nat} (h : AcS G A s) (h4 : G.i 4 s ≤ 4 ∧ G.i 5 s ≤ 4) : 1 ≤ vV G A s ∧ vV G A s ≤ 5 := by
  have := (vT_le h h4).1
  unfold vV
  split <;> omega
theorem vW_bd {G : Gr} {A : Nat → Nat} {s a : Nat} (h : AcS G A s) (h4 : G.i 4 s ≤ 4 ∧ G.i 5 s ≤ 4) (ha : a < att G s) : 1 ≤ vW G A s a ∧ vW G A s a ≤ vV G A s := by
  obtain ⟨h1, h2⟩ := vT_le h h4
  have h3 := vz_ne h2 ha
  have h5 := vSet_bd (G := G) (A := A) (s := s) (vT G A s) a
  unfold vW vV
  split <;> omega
