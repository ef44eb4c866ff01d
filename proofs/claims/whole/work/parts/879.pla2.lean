-- plans: step by step
def psum (f : Nat → Nat) : Nat → Nat
  | 0 => 0
  | n + 1 => psum f n + f n
theorem psum_congr {f g : Nat → Nat} : ∀ {n : Nat}, (∀ i, i < n → f i = g i) → psum f n = psum g n
  | 0, _ => rfl
  | n + 1, h => by rw [psum, psum, psum_congr fun i hi => h i (by omega), h n (by omega)]
theorem psum_le {f : Nat → Nat} {c : Nat} : ∀ {n : Nat}, (∀ i, i < n → f i ≤ c) → psum f n ≤ c * n
  | 0, _ => Nat.zero_le _
  | n + 1, h => by
    rw [psum, Nat.mul_succ]
    have := psum_le (n := n) fun i hi => h i (by omega)
    have := h n (by omega)
    omega
/-- one place differs -/
theorem psum_one {f g : Nat → Nat} : ∀ {n : Nat}, ∀ k, k < n → (∀ i, i < n → ¬ i = k → f i = g i) → psum f n + g k = psum g n + f k
  | 0, k, hk, _ => by omega
  | n + 1, k, hk, h => by
    rw [psum, psum]
    by_cases e : k = n
    · subst e
      rw [psum_congr (f := f) (g := g) fun i hi => h i (by omega) (by omega)]
      omega
    · have := psum_one (n := n) k (by omega) fun i hi => h i (by omega)
      rw [h n (by omega) (fun q => e q.symm)]
      omega
def tlK (G : Gr) (p K : Nat) : Nat := cnt (fun o => (G.i 9 p).testBit o && K.testBit o) 32
def tlN (G : Gr) (p K : Nat) : Nat := cnt (fun o => (G.i 9 p).testBit o && !K.testBit o) 32
def vsD (G : Gr) (p : Nat) (d : Nat → Nat) : Nat := psum (fun k => d (k + 1)) (G.i 6 p - 1)
def muP (G : Gr) (A : Nat → Nat) (p : Nat) (S : PSt) : Nat := tlN G p S.1 + psum (fun k => vV G A (G.i 7 (4 * p + (k + 1))) - S.2.2.1 (k + 1)) (G.i 6 p - 1) + (vV G A (G.i 7 (4 * p)) - S.2.1)
theorem or_bit (x y i : Nat) : (x ||| y).testBit i = true ↔ x.testBit i = true ∨ y.testBit i = true := by rw [Nat.testBit_or, Bool.or_eq_true]
theorem mul_bit (x k i : Nat) : (x * 2 ^ k).testBit i = true ↔ k ≤ i ∧ x.testBit (i - k) = true := by rw [Nat.testBit_mul_two_pow, Bool.and_eq_true, decide_eq_true_iff]
theorem pow_bit (r i : Nat) : (2 ^ r).testBit i = true ↔ i = r := by rw [Nat.testBit_two_pow, decide_eq_true_iff, eq_comm]
theorem OrdP.us0 {G : Gr} {A : Nat → Nat} {p : Nat} (h : OrdP G A p) {a : Nat} (ha : a < att G (G.i 7 (4 * p))) : (G.i 8 p).testBit a = true := by
  have hsd := h.1.sd h.2.2.1
  have h8 := h.1.att8 (h.1.sy h.2.2.1 (show 0 < G.i 6 p by omega))
  have := us_in h.1 (k := 0) h.2.2.1 (by omega) (show a < G.i 4 (G.i 7 (4 * p + 0)) + G.i 5 (G.i 7 (4 * p + 0)) from ha) (by
    have : att G (G.i 7 (4 * p + 0)) ≤ 8 := h8
    show a < 8
    have ha' : a < att G (G.i 7 (4 * p + 0)) := ha
    omega)
  rw [Nat.mul_zero, Nat.zero_add] at this
  exact this
/-- what can be told is an out on the left, an in of a child -/
theorem OrdP.tl0 {G : Gr} {A : Nat → Nat} {p : Nat} (h : OrdP G A p) {a : Nat} (ha : a < G.i 4 (G.i 7 (4 * p))) : (G.i 9 p).testBit a = false := by
  have hsd := h.1.sd h.2.2.1
  have h4 := h.1.at' (h.1.sy h.2.2.1 (show 0 < G.i 6 p by omega))
  have h4' : G.i 4 (G.i 7 (4 * p)) ≤ 4 := h4.1
  rw [(h.1.2.2.1 p h.2.2.1 a).2, if_pos (show a / 8 = 0 by omega), decide_eq_false (show ¬ (G.i 4 (G.i 7 (4 * p)) ≤ a % 8 ∧ a % 8 < G.i 4 (G.i 7 (4 * p)) + G.i 5 (G.i 7 (4 * p))) from fun q => by have := q.1; omega), Bool.and_false]
theorem OrdP.tlk {G : Gr} {A : Nat → Nat} {p : Nat} (h : OrdP G A p) {k a : Nat} (hk : 1 ≤ k) (ha : G.i 4 (G.i 7 (4 * p + k)) ≤ a) (h8 : a < 8) : (G.i 9 p).testBit (8 * k + a) = false := by
  rw [(h.1.2.2.1 p h.2.2.1 (8 * k + a)).2, if_neg (show ¬ (8 * k + a) / 8 = 0 by omega), show (8 * k + a) / 8 = k by omega, show (8 * k + a) % 8 = a by omega, decide_eq_false (show ¬ a < G.i 4 (G.i 7 (4 * p + k)) by omega), Bool.and_false]
theorem nrI_t {G : Gr} {p K : Nat} (h : nrI G p K < 32) : (G.i 9 p).testBit (nrI G p K) = true ∧ K.testBit (nrI G p K) = false ∧ andn (G.i 12 (32 * p + nrI G p K)) K = 0 := by
  have := fb_hit h
  rw [Bool.and_eq_true, Bool.and_eq_true, Bool.not_eq_true', decide_eq_true_iff] at this
  exact ⟨this.1.1, this.1.2, this.2⟩
theorem ncI_t {G : Gr} {A : Nat → Nat} {p K : Nat} {d : Nat → Nat} (h : ncI G A p K d < G.i 6 p - 1) : d (ncI G A p K d + 1) < vV G A (G.i 7 (4 * p + (ncI G A p K d + 1))) ∧ andn (durI G A (G.i 7 (4 * p + (ncI G A p K d + 1))) (d (ncI G A p K d + 1) + 1) * 2 ^ (8 * (ncI G A p K d + 1))) K = 0 := by
  have := fb_hit h
  unfold chO at this
  rw [Bool.and_eq_true, decide_eq_true_iff, decide_eq_true_iff] at this
  exact this
def PI2 (G : Gr) (A : Nat → Nat) (p : Nat) (S : PSt) : Prop := PIn G A p S ∧ S.2.2.2.length + muP G A p S ≤ 35 ∧ S.1 < 2 ^ 32
theorem tlN_le {G : Gr} {p K K' : Nat} (h : ∀ o, K.testBit o = true → K'.testBit o = true) : tlN G p K' ≤ tlN G p K := cnt_mono fun o _ e => by
  rw [Bool.and_eq_true] at e ⊢
  refine ⟨e.1, ?_⟩
  cases c : K.testBit o
  · rfl
  · rw [h o c] at e; exact absurd e.2 (by decide)
theorem st_L {G : Gr} {A : Nat → Nat} {p : Nat} {S : PSt} (h : OrdP G A p) (I : PI2 G A p S) (hk : pKd G A p S = 0) : PI2 G A p (stL G A p S) ∧ tlK G p (stL G A p S).1 = tlK G p S.1 ∧ S.2.1 < vV G A (G.i 7 (4 * p)) := by
  obtain ⟨⟨i1, i2, i3, i4, i5⟩, il, iK⟩ := I
  have hsd := h.1.sd h.2.2.1
  have h4 := h.1.at' (h.1.sy h.2.2.1 (show 0 < G.i 6 p by omega))
  have h40 : G.i 4 (G.i 7 (4 * p)) ≤ 4 := h4.1
  have hv : S.2.1 < vV G A (G.i 7 (4 * p)) := by
    unfold pKd at hk
    refine Decidable.byContradiction fun c => ?_
    rw [if_neg (fun q => c q.1)] at hk
    split at hk
    · cases hk
    · split at hk <;> cases hk
  refine ⟨⟨⟨fun o ho => ?_, fun a ha => ?_, fun k a k1 k2 a1 a2 => ?_, ⟨by show 1 ≤ S.2.1 + 1; omega, hv⟩, i5⟩, ?_, ?_⟩, ?_, hv⟩
  · rcases (or_bit _ _ _).mp ho with ho | ho
    · exact i1 o ho
    · exact h.us0 (by have := (durI_b.mp ho).1; unfold att; omega)
  · show (S.1 ||| durI G A (G.i 7 (4 * p)) (S.2.1 + 1)).testBit a = true ↔ vW G A (G.i 7 (4 * p)) a ≤ S.2.1 + 1
    rw [or_bit, i2 a ha, durI_b]
    exact ⟨fun q => by rcases q with q | q; omega; omega, fun q => by
      by_cases c : vW G A (G.i 7 (4 * p)) a ≤ S.2.1
      · exact Or.inl c
      · exact Or.inr ⟨ha, by omega⟩⟩
  · show (S.1 ||| durI G A (G.i 7 (4 * p)) (S.2.1 + 1)).testBit (8 * k + a) = true ↔ _
    rw [or_bit]
    exact ⟨fun q => by
      rcases q with q | q
      · exact (i3 k a k1 k2 a1 a2).mp q
      · have := (durI_b.mp q).1
        omega, fun q => Or.inl ((i3 k a k1 k2 a1 a2).mpr q)⟩
  · have t := tlN_le (G := G) (p := p) (K := S.1) (K' := (stL G A p S).1) (fun o ho => (or_bit _ _ _).mpr (Or.inl ho))
    show (S.2.2.2 ++ [1000 + S.2.1]).length + (tlN G p (stL G A p S).1 + psum (fun k => vV G A (G.i 7 (4 * p + (k + 1))) - S.2.2.1 (k + 1)) (G.i 6 p - 1) + (vV G A (G.i 7 (4 * p)) - (S.2.1 + 1))) ≤ 35
    rw [List.length_append]
    unfold muP at il
    simp only [List.length_cons, List.length_nil]
    omega
  · exact or_lt iK (lt_of_bits fun i hi => by have := (durI_b.mp hi).1; omega)
  · refine cnt_congr fun o _ => ?_
    show ((G.i 9 p).testBit o && (S.1 ||| durI G A (G.i 7 (4 * p)) (S.2.1 + 1)).testBit o) = _
    rw [Nat.testBit_or]
    cases c : (durI G A (G.i 7 (4 * p)) (S.2.1 + 1)).testBit o
    · rw [Bool.or_false]
    · rw [h.tl0 (durI_b.mp c).1]; rfl
theorem st_R {G : Gr} {A : Nat → Nat} {p : Nat} {S : PSt} (h : OrdP G A p) (I : PI2 G A p S) (hr : nrI G p S.1 < 32) : PI2 G A p (stR G p S) ∧ tlK G p (stR G p S).1 = tlK G p S.1 + 1 := by
  obtain ⟨⟨i1, i2, i3, i4, i5⟩, il, iK⟩ := I
  obtain ⟨r1, r2, r3⟩ := nrI_t hr
  refine ⟨⟨⟨fun o ho => ?_, fun a ha => ?_, fun k a k1 k2 a1 a2 => ?_, i4, i5⟩, ?_, ?_⟩, ?_⟩
  · rcases (or_bit _ _ _).mp ho with ho | ho
    · exact i1 o ho
    · rw [(pow_bit _ _).mp ho]; exact h.1.tl_us h.2.2.1 r1
  · show (S.1 ||| 2 ^ nrI G p S.1).testBit a = true ↔ _
    rw [or_bit, pow_bit]
    refine ⟨fun q => ?_, fun q => Or.inl ((i2 a ha).mpr q)⟩
    rcases q with q | q
    · exact (i2 a ha).mp q
    · rw [← q, h.tl0 ha] at r1; cases r1
  · show (S.1 ||| 2 ^ nrI G p S.1).testBit (8 * k + a) = true ↔ _
    rw [or_bit, pow_bit]
    refine ⟨fun q => ?_, fun q => Or.inl ((i3 k a k1 k2 a1 a2).mpr q)⟩
    rcases q with q | q
    · exact (i3 k a k1 k2 a1 a2).mp q
    · have := h.1.att8 (h.1.sy h.2.2.1 k2)
      rw [← q, h.tlk k1 a1 (by omega)] at r1; cases r1
  · have t : tlN G p (stR G p S).1 < tlN G p S.1 := by
      refine cnt_lt (fun o _ e => ?_) (nrI G p S.1) hr ?_ ?_
      · rw [Bool.and_eq_true] at e ⊢
        refine ⟨e.1, ?_⟩
        cases c : S.1.testBit o
        · rfl
        · have : (S.1 ||| 2 ^ nrI G p S.1).testBit o = true := (or_bit _ _ _).mpr (Or.inl c)
          rw [show (stR G p S).1 = S.1 ||| 2 ^ nrI G p S.1 from rfl, this] at e
          exact absurd e.2 (by decide)
      · show ((G.i 9 p).testBit (nrI G p S.1) && !(S.1 ||| 2 ^ nrI G p S.1).testBit (nrI G p S.1)) = false
        rw [(or_bit _ _ _).mpr (Or.inr ((pow_bit _ _).mpr rfl)), Bool.not_true, Bool.and_false]
      · rw [r1, r2]; rfl
    show (S.2.2.2 ++ [100 + nrI G p S.1]).length + (tlN G p (stR G p S).1 + psum (fun k => vV G A (G.i 7 (4 * p + (k + 1))) - S.2.2.1 (k + 1)) (G.i 6 p - 1) + (vV G A (G.i 7 (4 * p)) - S.2.1)) ≤ 35
    rw [List.length_append]
    unfold muP at il
    simp only [List.length_cons, List.length_nil]
    omega
  · exact or_lt iK (Nat.pow_lt_pow_right (by decide) hr)
  · refine cnt_one (nrI G p S.1) hr (fun o _ q => ?_) ?_ ?_
    · show ((G.i 9 p).testBit o && S.1.testBit o) = ((G.i 9 p).testBit o && (S.1 ||| 2 ^ nrI G p S.1).testBit o)
      rw [Nat.testBit_or, Nat.testBit_two_pow_of_ne (fun z => q z.symm), Bool.or_false]
    · rw [r2, Bool.and_false]
    · show ((G.i 9 p).testBit (nrI G p S.1) && (S.1 ||| 2 ^ nrI G p S.1).testBit (nrI G p S.1)) = true
      rw [r1, (or_bit _ _ _).mpr (Or.inr ((pow_bit _ _).mpr rfl))]; rfl
theorem st_C {G : Gr} {A : Nat → Nat} {p : Nat} {S : PSt} (h : OrdP G A p) (I : PI2 G A p S) (hc : ncI G A p S.1 S.2.2.1 < G.i 6 p - 1) : PI2 G A p (stC G A p S) ∧ tlK G p (stC G A p S).1 = tlK G p S.1 ∧ vsD G p (stC G A p S).2.2.1 = vsD G p S.2.2.1 + 1 := by
  obtain ⟨⟨i1, i2, i3, i4, i5⟩, il, iK⟩ := I
  obtain ⟨c1, c2⟩ := ncI_t hc
  generalize hcc : ncI G A p S.1 S.2.2.1 = c at hc c1 c2
  have hsd := h.1.sd h.2.2.1
  have hks : c + 1 < G.i 6 p := by omega
  have hs := h.1.sy h.2.2.1 hks
  have h8 := h.1.att8 hs
  have e1 : (stC G A p S).1 = S.1 ||| durO G A (G.i 7 (4 * p + (c + 1))) (S.2.2.1 (c + 1) + 1) * 2 ^ (8 * (c + 1)) := by unfold stC; rw [hcc]
  have e2 : (stC G A p S).2.2.1 = fun k => if k = c + 1 then S.2.2.1 k + 1 else S.2.2.1 k := by unfold stC; rw [hcc]
  have e3 : (stC G A p S).2.2.2 = S.2.2.2 ++ [10 * (c + 1) + (S.2.2.1 (c + 1) + 1)] := by unfold stC; rw [hcc]
  have nb : ∀ o, (durO G A (G.i 7 (4 * p + (c + 1))) (S.2.2.1 (c + 1) + 1) * 2 ^ (8 * (c + 1))).testBit o = true → ∃ a, o = 8 * (c + 1) + a ∧ G.i 4 (G.i 7 (4 * p + (c + 1))) ≤ a ∧ a < att G (G.i 7 (4 * p + (c + 1))) ∧ vW G A (G.i 7 (4 * p + (c + 1))) a = S.2.2.1 (c + 1) + 1 := fun o ho => by
    obtain ⟨q1, q2⟩ := (mul_bit _ _ _).mp ho
    obtain ⟨⟨q3, q4⟩, q5⟩ := durO_b.mp q2
    exact ⟨o - 8 * (c + 1), by omega, q3, q4, q5⟩
  refine ⟨⟨⟨fun o ho => ?_, fun a ha => ?_, fun k a k1 k2 a1 a2 => ?_, i4, fun k k1 k2 => ?_⟩, ?_, ?_⟩, ?_, ?_⟩
  · rw [e1] at ho
    rcases (or_bit _ _ _).mp ho with ho | ho
    · exact i1 o ho
    · obtain ⟨a, q1, q2, q3, q4⟩ := nb o ho
      rw [q1]; exact us_in h.1 h.2.2.1 hks q3 (by omega)
  · rw [e1, or_bit]
    refine ⟨fun q => ?_, fun q => Or.inl ((i2 a ha).mpr q)⟩
    rcases q with q | q
    · exact (i2 a ha).mp q
    · obtain ⟨b, q1, _⟩ := nb a q
      have h40 : G.i 4 (G.i 7 (4 * p)) ≤ 4 := (h.1.at' (h.1.sy h.2.2.1 (show 0 < G.i 6 p by omega))).1
      omega
  · rw [e1, e2, or_bit, i3 k a k1 k2 a1 a2]
    have h8k := h.1.att8 (h.1.sy h.2.2.1 k2)
    show _ ↔ _ ≤ (if k = c + 1 then S.2.2.1 k + 1 else S.2.2.1 k)
    by_cases z : k = c + 1
    · subst z
      rw [if_pos rfl]
      refine ⟨fun q => ?_, fun q => ?_⟩
      · rcases q with q | q
        · omega
        · obtain ⟨b, q1, q2, q3, q4⟩ := nb _ q
          have : a = b := by omega
          subst this; omega
      · by_cases y : vW G A (G.i 7 (4 * p + (c + 1))) a ≤ S.2.2.1 (c + 1)
        · exact Or.inl y
        · refine Or.inr ((mul_bit _ _ _).mpr ⟨by omega, ?_⟩)
          rw [Nat.add_sub_cancel_left]
          exact durO_b.mpr ⟨⟨a1, a2⟩, by omega⟩
    · rw [if_neg z]
      refine ⟨fun q => ?_, fun q => Or.inl q⟩
      rcases q with q | q
      · exact q
      · obtain ⟨b, q1, q2, q3, q4⟩ := nb _ q
        omega
  · rw [e2]
    show (if k = c + 1 then S.2.2.1 k + 1 else S.2.2.1 k) ≤ _
    by_cases z : k = c + 1
    · subst z; rw [if_pos rfl]; omega
    · rw [if_neg z]; exact i5 k k1 k2
  · have t := tlN_le (G := G) (p := p) (K := S.1) (K' := (stC G A p S).1) (fun o ho => by rw [e1]; exact (or_bit _ _ _).mpr (Or.inl ho))
    have ps := psum_one (f := fun k => vV G A (G.i 7 (4 * p + (k + 1))) - (stC G A p S).2.2.1 (k + 1)) (g := fun k => vV G A (G.i 7 (4 * p + (k + 1))) - S.2.2.1 (k + 1)) (n := G.i 6 p - 1) c hc (fun i _ q => by
      show vV G A (G.i 7 (4 * p + (i + 1))) - (stC G A p S).2.2.1 (i + 1) = _
      rw [e2]
      show vV G A (G.i 7 (4 * p + (i + 1))) - (if i + 1 = c + 1 then _ else S.2.2.1 (i + 1)) = _
      rw [if_neg (by omega)])
    have ec : (stC G A p S).2.2.1 (c + 1) = S.2.2.1 (c + 1) + 1 := by rw [e2]; exact if_pos rfl
    rw [ec] at ps
    unfold muP at il ⊢
    rw [e3, List.length_append, show (stC G A p S).2.1 = S.2.1 from rfl]
    simp only [List.length_cons, List.length_nil]
    omega
  · rw [e1]
    refine or_lt iK (lt_of_bits fun i hi => ?_)
    obtain ⟨a, q1, q2, q3, q4⟩ := nb i hi
    omega
  · refine cnt_congr fun o _ => ?_
    rw [e1, Nat.testBit_or]
    cases x : (durO G A (G.i 7 (4 * p + (c + 1))) (S.2.2.1 (c + 1) + 1) * 2 ^ (8 * (c + 1))).testBit o
    · rw [Bool.or_false]
    · obtain ⟨a, q1, q2, q3, q4⟩ := nb o x
      rw [q1, h.tlk (by omega) q2 (by omega)]; rfl
  · have ps := psum_one (f := fun k => (stC G A p S).2.2.1 (k + 1)) (g := fun k => S.2.2.1 (k + 1)) (n := G.i 6 p - 1) c hc (fun i _ q => by
      show (stC G A p S).2.2.1 (i + 1) = _
      rw [e2]
      show (if i + 1 = c + 1 then _ else S.2.2.1 (i + 1)) = _
      rw [if_neg (by omega)])
    have ec : (stC G A p S).2.2.1 (c + 1) = S.2.2.1 (c + 1) + 1 := by rw [e2]; exact if_pos rfl
    rw [ec] at ps
    unfold vsD
    omega
def pS0 (G : Gr) (A : Nat → Nat) (p : Nat) : PSt := (durI G A (G.i 7 (4 * p)) 1, 1, fun _ => 0, [])
theorem cnt_blocks (f : Nat → Bool) : ∀ n, cnt f (8 * n) = psum (fun k => cnt (fun a => f (8 * k + a)) 8) n
  | 0 => rfl
  | n + 1 => by
    rw [psum, ← cnt_blocks f n]
    have : ∀ m, m ≤ 8 → cnt f (8 * n + m) = cnt f (8 * n) + cnt (fun a => f (8 * n + a)) m := by
      intro m
      induction m with
      | zero => intro _; rfl
      | succ m ih =>
        intro hm
        show cnt f (8 * n + m + 1) = _
        rw [cnt, ih (by omega), cnt]; omega
    exact this 8 (Nat.le_refl _)
theorem cnt_rng {f : Nat → Bool} {a b n : Nat} (h : ∀ i, i < n → f i = true → a ≤ i ∧ i < b) : cnt f n ≤ b - a := by
  have key : ∀ m, m ≤ n → cnt f m ≤ min m b - a := by
    intro m
    induction m with
    | zero => intro _; exact Nat.zero_le _
    | succ m ih =>
      intro hm
      have := ih (by omega)
      rw [cnt]
      by_cases e : f m = true
      · have := h m (by omega) e
        rw [if_pos e]
        omega
      · rw [if_neg e]
        omega
  have := key n (Nat.le_refl _)
  omega
theorem tl_16 {G : Gr} {A : Nat → Nat} {p : Nat} (h : OrdP G A p) (K : Nat) : tlN G p K ≤ 16 := by
  have hq := h.1
  have hp := h.2.2.1
  have hsd := hq.sd hp
  have h1 : tlN G p K ≤ cnt (fun o => (G.i 9 p).testBit o) (8 * 4) := cnt_mono fun o _ e => by rw [Bool.and_eq_true] at e; exact e.1
  rw [cnt_blocks] at h1
  have h2 : psum (fun k => cnt (fun a => (G.i 9 p).testBit (8 * k + a)) 8) 4 ≤ 4 * 4 := psum_le fun k hk => by
    by_cases c : k < G.i 6 p
    · have h4 := hq.at' (hq.sy hp c)
      by_cases z : k = 0
      · subst z
        have h4' : G.i 4 (G.i 7 (4 * p)) ≤ 4 ∧ G.i 5 (G.i 7 (4 * p)) ≤ 4 := h4
        have := cnt_rng (f := fun a => (G.i 9 p).testBit (8 * 0 + a)) (a := G.i 4 (G.i 7 (4 * p))) (b := G.i 4 (G.i 7 (4 * p)) + G.i 5 (G.i 7 (4 * p))) (n := 8) fun i hi e => by
          rw [(hq.2.2.1 p hp _).2, Bool.and_eq_true, if_pos (show (8 * 0 + i) / 8 = 0 by omega), decide_eq_true_iff, decide_eq_true_iff] at e
          have := e.2
          omega
        omega
      · have := cnt_rng (f := fun a => (G.i 9 p).testBit (8 * k + a)) (a := 0) (b := G.i 4 (G.i 7 (4 * p + k))) (n := 8) fun i hi e => by
          rw [(hq.2.2.1 p hp _).2, Bool.and_eq_true, if_neg (show ¬ (8 * k + i) / 8 = 0 by omega), decide_eq_true_iff, decide_eq_true_iff, show (8 * k + i) / 8 = k by omega, show (8 * k + i) % 8 = i by omega] at e
          omega
        omega
    · have := cnt_rng (f := fun a => (G.i 9 p).testBit (8 * k + a)) (a := 0) (b := 0) (n := 8) fun i hi e => by
        rw [(hq.2.2.1 p hp _).2, show (8 * k + i) / 8 = k by omega, decide_eq_false c, Bool.false_and] at e
        cases e
      omega
  omega
theorem pS0_ok {G : Gr} {A : Nat → Nat} {p : Nat} (h : OrdP G A p) : PI2 G A p (pS0 G A p) ∧ tlK G p (pS0 G A p).1 = 0 ∧ vsD G p (pS0 G A p).2.2.1 = 0 := by
  have hq := h.1
  have hp := h.2.2.1
  have hsd := hq.sd hp
  have hs : G.i 7 (4 * p) < G.i 0 0 := hq.sy hp (show 0 < G.i 6 p by omega)
  have hno : slf G A (G.i 7 (4 * p)) = false := h.2.2.2.1 0 (by omega)
  have hac := h.2.1.ac hq hs hno
  have h4 := hq.at' hs
  have hV := vV_bd hac h4
  have kb : ∀ o, (pS0 G A p).1.testBit o = true ↔ o < G.i 4 (G.i 7 (4 * p)) ∧ vW G A (G.i 7 (4 * p)) o = 1 := fun o => durI_b
  refine ⟨⟨⟨fun o ho => h.us0 (by have := ((kb o).mp ho).1; unfold att; omega), fun a ha => ?_, fun k a k1 k2 a1 a2 => ?_, ⟨Nat.le_refl 1, hV.1⟩, fun k _ _ => Nat.zero_le _⟩, ?_, ?_⟩, ?_, ?_⟩
  · rw [kb]
    have := (vW_bd (a := a) hac h4 (by unfold att; omega)).1
    show _ ↔ vW G A (G.i 7 (4 * p)) a ≤ 1
    exact ⟨fun q => by omega, fun q => ⟨ha, by omega⟩⟩
  · rw [kb]
    have := (vW_bd (a := a) (h.2.1.ac hq (hq.sy hp k2) (h.2.2.2.1 k k2)) (hq.at' (hq.sy hp k2)) a2).1
    show _ ↔ vW G A (G.i 7 (4 * p + k)) a ≤ 0
    exact ⟨fun q => by omega, fun q => by omega⟩
  · have t := tl_16 h (pS0 G A p).1
    have ps : psum (fun k => vV G A (G.i 7 (4 * p + (k + 1))) - (pS0 G A p).2.2.1 (k + 1)) (G.i 6 p - 1) ≤ 5 * (G.i 6 p - 1) := psum_le fun k hk => by
      have := (vV_bd (h.2.1.ac hq (hq.sy hp (show k + 1 < G.i 6 p by omega)) (h.2.2.2.1 (k + 1) (by omega))) (hq.at' (hq.sy hp (show k + 1 < G.i 6 p by omega)))).2
      omega
    unfold muP
    show ([] : List Nat).length + _ ≤ 35
    have : (pS0 G A p).2.1 = 1 := rfl
    simp only [List.length_nil]
    omega
  · exact lt_of_bits fun i hi => by have := ((kb i).mp hi).1; omega
  · have : cnt (fun o => (G.i 9 p).testBit o && (pS0 G A p).1.testBit o) 32 ≤ 0 - 0 := cnt_rng fun i _ e => by
      rw [Bool.and_eq_true] at e
      rw [h.tl0 ((kb i).mp e.2).1] at e
      exact absurd e.1 (by decide)
    unfold tlK; omega
  · have : psum (fun k => (pS0 G A p).2.2.1 (k + 1)) (G.i 6 p - 1) ≤ 0 * (G.i 6 p - 1) := psum_le fun k _ => Nat.le_refl 0
    unfold vsD; omega
theorem pKd_c {G : Gr} {A : Nat → Nat} {p : Nat} {S : PSt} : pKd G A p S = 0 ∨ (pKd G A p S = 1 ∧ nrI G p S.1 < 32) ∨ (pKd G A p S = 2 ∧ ¬ nrI G p S.1 < 32 ∧ ncI G A p S.1 S.2.2.1 < G.i 6 p - 1) ∨ (pKd G A p S = 3 ∧ ¬ nrI G p S.1 < 32 ∧ ¬ ncI G A p S.1 S.2.2.1 < G.i 6 p - 1) := by
  unfold pKd
  split
  · exact Or.inl rfl
  · split
    · rename_i h; exact Or.inr (Or.inl ⟨rfl, h⟩)
    · rename_i h
      split
      · rename_i h'; exact Or.inr (Or.inr (Or.inl ⟨rfl, h, h'⟩))
      · rename_i h'; exact Or.inr (Or.inr (Or.inr ⟨rfl, h, h'⟩))
theorem pSt_ok {G : Gr} {A : Nat → Nat} {p : Nat} {S : PSt} (h : OrdP G A p) (I : PI2 G A p S) (hk : ¬ pKd G A p S = 3) : PI2 G A p (pSt G A p S) := by
  unfold pSt
  rcases pKd_c (G := G) (A := A) (p := p) (S := S) with c | ⟨c, d⟩ | ⟨c, _, d⟩ | ⟨c, _⟩
  · rw [if_pos c]; exact (st_L h I c).1
  · rw [if_neg (by omega), if_pos c]; exact (st_R h I d).1
  · rw [if_neg (by omega), if_neg (by omega)]; exact (st_C h I d).1
  · exact absurd c hk
theorem pSt_len {G : Gr} {A : Nat → Nat} {p : Nat} {S : PSt} : (pSt G A p S).2.2.2.length = S.2.2.2.length + 1 := by
  unfold pSt
  split
  · show (S.2.2.2 ++ [1000 + S.2.1]).length = _; rw [List.length_append]; rfl
  · split
    · show (S.2.2.2 ++ [100 + nrI G p S.1]).length = _; rw [List.length_append]; rfl
    · show (S.2.2.2 ++ [_]).length = _; rw [List.length_append]; rfl
def pIt (G : Gr) (A : Nat → Nat) (p : Nat) : Nat → PSt
  | 0 => pS0 G A p
  | n + 1 => if pKd G A p (pIt G A p n) = 3 then pIt G A p n else pSt G A p (pIt G A p n)
theorem pIt_s (G : Gr) (A : Nat → Nat) (p n : Nat) : pIt G A p (n + 1) = if pKd G A p (pIt G A p n) = 3 then pIt G A p n else pSt G A p (pIt G A p n) := rfl
theorem pIt_ok {G : Gr} {A : Nat → Nat} {p : Nat} (h : OrdP G A p) : ∀ n, PI2 G A p (pIt G A p n)
  | 0 => (pS0_ok h).1
  | n + 1 => by
    rw [pIt_s]
    split
    · exact pIt_ok h n
    · rename_i c; exact pSt_ok h (pIt_ok h n) c
theorem pIt_fix {G : Gr} {A : Nat → Nat} {p n : Nat} (h : pKd G A p (pIt G A p n) = 3) : ∀ d, pIt G A p (n + d) = pIt G A p n
  | 0 => rfl
  | d + 1 => by rw [show n + (d + 1) = (n + d) + 1 from rfl, pIt_s, pIt_fix h d, if_pos h]
theorem pIt_len {G : Gr} {A : Nat → Nat} {p : Nat} : ∀ n, (∀ m, m < n → ¬ pKd G A p (pIt G A p m) = 3) → (pIt G A p n).2.2.2.length = n
  | 0, _ => rfl
  | n + 1, h => by
    rw [pIt_s, if_neg (h n (by omega)), pSt_len, pIt_len n fun m hm => h m (by omega)]
/-- the plan, but for its last step -/
def pF (G : Gr) (A : Nat → Nat) (p : Nat) : PSt := pIt G A p 36
theorem pF_3 {G : Gr} {A : Nat → Nat} {p : Nat} (h : OrdP G A p) : pKd G A p (pF G A p) = 3 := by
  refine Decidable.byContradiction fun c => ?_
  have hn : ∀ m, m < 36 → ¬ pKd G A p (pIt G A p m) = 3 := fun m hm q => c (by
    have := pIt_fix q (36 - m)
    rw [show m + (36 - m) = 36 by omega] at this
    unfold pF
    rw [this]; exact q)
  have := pIt_len 36 hn
  have := (pIt_ok h 36).2.1
  omega
theorem pF_at {G : Gr} {A : Nat → Nat} {p n : Nat} (h : OrdP G A p) (hk : pKd G A p (pIt G A p n) = 3) : pF G A p = pIt G A p n := by
  by_cases c : n ≤ 36
  · have := pIt_fix hk (36 - n)
    rw [show n + (36 - n) = 36 by omega] at this
    exact this
  · have := pIt_fix (pF_3 h) (n - 36)
    rw [show 36 + (n - 36) = n by omega] at this
    exact this.symm
