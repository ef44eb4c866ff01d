-- plans: the steps, and that none is stuck too soon
def dur (G : Gr) (A : Nat → Nat) (s v : Nat) : Nat := wid (fun a => decide (vW G A s a = v)) (att G s)
def durI (G : Gr) (A : Nat → Nat) (s v : Nat) : Nat := dur G A s v &&& inB G s
def durO (G : Gr) (A : Nat → Nat) (s v : Nat) : Nat := dur G A s v &&& ouB G s
theorem dur_b (G : Gr) (A : Nat → Nat) (s v a : Nat) : (dur G A s v).testBit a = (decide (a < att G s) && decide (vW G A s a = v)) := wid_b _ _ _
theorem durI_b {G : Gr} {A : Nat → Nat} {s v a : Nat} : (durI G A s v).testBit a = true ↔ a < G.i 4 s ∧ vW G A s a = v := by
  unfold durI
  rw [Nat.testBit_and, dur_b, inB_bit, Bool.and_eq_true, Bool.and_eq_true, decide_eq_true_iff, decide_eq_true_iff, decide_eq_true_iff]
  unfold att
  exact ⟨fun h => ⟨h.2, h.1.2⟩, fun h => ⟨⟨by omega, h.2⟩, h.1⟩⟩
theorem durO_b {G : Gr} {A : Nat → Nat} {s v a : Nat} : (durO G A s v).testBit a = true ↔ (G.i 4 s ≤ a ∧ a < att G s) ∧ vW G A s a = v := by
  unfold durO
  rw [Nat.testBit_and, dur_b, ouB_bit, Bool.and_eq_true, Bool.and_eq_true, decide_eq_true_iff, decide_eq_true_iff, decide_eq_true_iff]
  unfold att
  exact ⟨fun h => ⟨h.2, h.1.2⟩, fun h => ⟨⟨h.1.2, h.2⟩, h.1⟩⟩
/-- a plan on the way: what is known, the visit, the visits done, the steps -/
abbrev PSt : Type := Nat × Nat × (Nat → Nat) × List Nat
def nrI (G : Gr) (p K : Nat) : Nat := fb (fun o => (G.i 9 p).testBit o && !K.testBit o && decide (andn (G.i 12 (32 * p + o)) K = 0)) 32
def chO (G : Gr) (A : Nat → Nat) (p K : Nat) (d : Nat → Nat) (k : Nat) : Bool := decide (d k < vV G A (G.i 7 (4 * p + k))) && decide (andn (durI G A (G.i 7 (4 * p + k)) (d k + 1) * 2 ^ (8 * k)) K = 0)
def ncI (G : Gr) (A : Nat → Nat) (p K : Nat) (d : Nat → Nat) : Nat := fb (fun k => chO G A p K d (k + 1)) (G.i 6 p - 1)
def pDone (G : Gr) (A : Nat → Nat) (p K v : Nat) : Prop := andn (durO G A (G.i 7 (4 * p)) v) K = 0
def stL (G : Gr) (A : Nat → Nat) (p : Nat) (S : PSt) : PSt := (S.1 ||| durI G A (G.i 7 (4 * p)) (S.2.1 + 1), S.2.1 + 1, S.2.2.1, S.2.2.2 ++ [1000 + S.2.1])
def stR (G : Gr) (p : Nat) (S : PSt) : PSt := (S.1 ||| 2 ^ nrI G p S.1, S.2.1, S.2.2.1, S.2.2.2 ++ [100 + nrI G p S.1])
def stC (G : Gr) (A : Nat → Nat) (p : Nat) (S : PSt) : PSt :=
  (S.1 ||| durO G A (G.i 7 (4 * p + (ncI G A p S.1 S.2.2.1 + 1))) (S.2.2.1 (ncI G A p S.1 S.2.2.1 + 1) + 1) * 2 ^ (8 * (ncI G A p S.1 S.2.2.1 + 1)), S.2.1, (fun k => if k = ncI G A p S.1 S.2.2.1 + 1 then S.2.2.1 k + 1 else S.2.2.1 k), S.2.2.2 ++ [10 * (ncI G A p S.1 S.2.2.1 + 1) + (S.2.2.1 (ncI G A p S.1 S.2.2.1 + 1) + 1)])
/-- which step comes: 0 leave, 1 a rule, 2 a child, 3 none -/
def pKd (G : Gr) (A : Nat → Nat) (p : Nat) (S : PSt) : Nat :=
  if S.2.1 < vV G A (G.i 7 (4 * p)) ∧ andn (durO G A (G.i 7 (4 * p)) S.2.1) S.1 = 0 then 0
  else if nrI G p S.1 < 32 then 1
  else if ncI G A p S.1 S.2.2.1 < G.i 6 p - 1 then 2
  else 3
def pSt (G : Gr) (A : Nat → Nat) (p : Nat) (S : PSt) : PSt := if pKd G A p S = 0 then stL G A p S else if pKd G A p S = 1 then stR G p S else stC G A p S
/-- what holds on the way -/
def PIn (G : Gr) (A : Nat → Nat) (p : Nat) (S : PSt) : Prop :=
  (∀ o, S.1.testBit o = true → (G.i 8 p).testBit o = true) ∧
  (∀ a, a < G.i 4 (G.i 7 (4 * p)) → (S.1.testBit a = true ↔ vW G A (G.i 7 (4 * p)) a ≤ S.2.1)) ∧
  (∀ k a, 1 ≤ k → k < G.i 6 p → G.i 4 (G.i 7 (4 * p + k)) ≤ a → a < att G (G.i 7 (4 * p + k)) → (S.1.testBit (8 * k + a) = true ↔ vW G A (G.i 7 (4 * p + k)) a ≤ S.2.2.1 k)) ∧
  (1 ≤ S.2.1 ∧ S.2.1 ≤ vV G A (G.i 7 (4 * p))) ∧ (∀ k, 1 ≤ k → k < G.i 6 p → S.2.2.1 k ≤ vV G A (G.i 7 (4 * p + k)))
/-- what is known when a production is ordered -/
def OrdP (G : Gr) (A : Nat → Nat) (p : Nat) : Prop := QG G ∧ Ind G A ∧ p < G.i 0 1 ∧ noS G A p ∧ ∀ o, o < 8 * G.i 6 p → ¬ bt (wdC G A p) o o
theorem OrdP.of {G : Gr} {A : Nat → Nat} {p : Nat} (h : QG G) (hI : Ind G A) (hp : p < G.i 0 1) (hb : bPf G A p = false) : OrdP G A p := by
  have hsd := h.sd hp
  refine ⟨h, hI, hp, noS_of h hI hp fun c => ?_, fun o ho c => ?_⟩
  · rw [bPf_cir h (hI.ok h) hp c] at hb; cases hb
  · have := of_decide_eq_false hb
    exact this (fb_ex (f := fun o => (wdC G A p o).testBit o) (n := 32) (j := o) (by omega) c)
theorem OrdP.lay {G : Gr} {A : Nat → Nat} {p : Nat} (h : OrdP G A p) {x y : Nat} (hx : x < 8 * G.i 6 p) (hy : (G.i 12 (32 * p + x)).testBit y = true) : bt (wdC G A p) x y := by
  have h1 : bt (layR G A p) x y := by unfold bt layR; rw [if_pos hx, Nat.testBit_or, hy, Bool.true_or]
  have h2 : bt (iC G A p) x y := clo_sub hx h1 _
  have h3 : bt (widR G A p) x y := by unfold bt at h2 ⊢; unfold widR; rw [if_pos hx, Nat.testBit_or, h2, Bool.true_or]
  exact clo_sub hx h3 _
theorem OrdP.vis {G : Gr} {A : Nat → Nat} {p : Nat} (h : OrdP G A p) {k a b : Nat} (hk : k < G.i 6 p) (ha : a < att G (G.i 7 (4 * p + k))) (hb : b < att G (G.i 7 (4 * p + k))) (hh : ahB G A (G.i 7 (4 * p + k)) a b = true) : bt (wdC G A p) (8 * k + a) (8 * k + b) := by
  have h8 := h.1.att8 (h.1.sy h.2.2.1 hk)
  have hx : 8 * k + a < 8 * G.i 6 p := by omega
  have h3 : bt (widR G A p) (8 * k + a) (8 * k + b) := by
    unfold bt widR visR
    rw [if_pos hx, show (8 * k + a) / 8 = k by omega, show (8 * k + a) % 8 = a by omega, if_pos ⟨h.2.2.2.1 k hk, ha⟩, Nat.testBit_or, Nat.testBit_mul_two_pow, decide_eq_true (show 8 * k ≤ 8 * k + b by omega), Nat.add_sub_cancel_left]
    unfold ahd
    rw [wid_b, decide_eq_true hb, hh]; simp
  exact clo_sub hx h3 _
theorem OrdP.tr {G : Gr} {A : Nat → Nat} {p : Nat} {x y z : Nat} (hx : x < 8 * G.i 6 p) (hy : y < 8 * G.i 6 p) (h1 : bt (wdC G A p) x y) (h2 : bt (wdC G A p) y z) : bt (wdC G A p) x z := clo_trans hx hy h1 h2
/-- below each unknown there is one all of whose needs are known -/
theorem unk_min {G : Gr} {A : Nat → Nat} {p K : Nat} (h : OrdP G A p) {o : Nat} (ho : (G.i 8 p).testBit o = true) (hk : K.testBit o = false) : ∃ m, (G.i 8 p).testBit m = true ∧ K.testBit m = false ∧ (m = o ∨ bt (wdC G A p) o m) ∧ ∀ y, (G.i 8 p).testBit y = true → bt (wdC G A p) m y → K.testBit y = true := by
  have key : ∀ n o, (G.i 8 p).testBit o = true → K.testBit o = false → cnt (fun y => (G.i 8 p).testBit y && !K.testBit y && (wdC G A p o).testBit y) 32 ≤ n → ∃ m, (G.i 8 p).testBit m = true ∧ K.testBit m = false ∧ (m = o ∨ bt (wdC G A p) o m) ∧ ∀ y, (G.i 8 p).testBit y = true → bt (wdC G A p) m y → K.testBit y = true := by
    intro n
    induction n with
    | zero =>
      intro o ho hk hc
      refine ⟨o, ho, hk, Or.inl rfl, fun y hy hb => ?_⟩
      cases c : K.testBit y
      · have hlt := h.1.us_lt h.2.2.1 hy
        have hsd := h.1.sd h.2.2.1
        have := cnt_lt (f := fun _ => false) (g := fun y => (G.i 8 p).testBit y && !K.testBit y && (wdC G A p o).testBit y) (n := 32) (fun i _ e => by cases e) y (by omega) rfl (by rw [hy, c, show (wdC G A p o).testBit y = true from hb]; rfl)
        omega
      · rfl
    | succ n ih =>
      intro o ho hk hc
      by_cases e : ∃ y, (G.i 8 p).testBit y = true ∧ bt (wdC G A p) o y ∧ K.testBit y = false
      · obtain ⟨y, hy, hb, hky⟩ := e
        have hsd := h.1.sd h.2.2.1
        have lo := h.1.us_lt h.2.2.1 ho
        have ly := h.1.us_lt h.2.2.1 hy
        obtain ⟨m, m1, m2, m3, m4⟩ := ih y hy hky (by
          have := cnt_lt (f := fun z => (G.i 8 p).testBit z && !K.testBit z && (wdC G A p y).testBit z) (g := fun z => (G.i 8 p).testBit z && !K.testBit z && (wdC G A p o).testBit z) (n := 32) (fun z _ hz => by
            rw [Bool.and_eq_true] at hz ⊢
            exact ⟨hz.1, OrdP.tr lo ly hb hz.2⟩) y (by omega) (by
            show ((G.i 8 p).testBit y && !K.testBit y && (wdC G A p y).testBit y) = false
            cases x : (wdC G A p y).testBit y
            · rw [Bool.and_false]
            · exact absurd x (h.2.2.2.2 y ly)) (by
            show ((G.i 8 p).testBit y && !K.testBit y && (wdC G A p o).testBit y) = true
            rw [hy, hky, show (wdC G A p o).testBit y = true from hb]; rfl)
          omega)
        refine ⟨m, m1, m2, Or.inr ?_, m4⟩
        rcases m3 with m3 | m3
        · rw [m3]; exact hb
        · exact OrdP.tr lo ly hb m3
      · refine ⟨o, ho, hk, Or.inl rfl, fun y hy hb => ?_⟩
        cases c : K.testBit y
        · exact absurd ⟨y, hy, hb, c⟩ e
        · rfl
  exact key _ o ho hk (Nat.le_refl _)
theorem mul_sub {x k K : Nat} : andn (x * 2 ^ k) K = 0 ↔ ∀ i, x.testBit i = true → K.testBit (k + i) = true := by
  rw [andn_sub]
  constructor
  · intro h i hi
    exact h (k + i) (by rw [Nat.testBit_mul_two_pow, decide_eq_true (by omega), Nat.add_sub_cancel_left, hi]; rfl)
  · intro h i hi
    rw [Nat.testBit_mul_two_pow, Bool.and_eq_true, decide_eq_true_iff] at hi
    have := h (i - k) hi.2
    rw [show k + (i - k) = i by omega] at this
    exact this
/-- when neither a rule nor a child's visit can come, an unknown that lacks nothing is an in of the left side, of a later visit -/
theorem stuck_in {G : Gr} {A : Nat → Nat} {p : Nat} {S : PSt} (h : OrdP G A p) (I : PIn G A p S) (hr : ¬ nrI G p S.1 < 32) (hc : ¬ ncI G A p S.1 S.2.2.1 < G.i 6 p - 1) {m : Nat} (hu : (G.i 8 p).testBit m = true) (hk : S.1.testBit m = false) (hm : ∀ y, (G.i 8 p).testBit y = true → bt (wdC G A p) m y → S.1.testBit y = true) : m < G.i 4 (G.i 7 (4 * p)) ∧ S.2.1 < vW G A (G.i 7 (4 * p)) m := by
  obtain ⟨hq, hI, hp, hno, hir⟩ := h
  have h : OrdP G A p := ⟨hq, hI, hp, hno, hir⟩
  have hlt := hq.us_lt hp hu
  have hsd := hq.sd hp
  have hus := hu
  rw [hq.us hp, Bool.and_eq_true, decide_eq_true_iff, decide_eq_true_iff] at hus
  obtain ⟨u1, u2⟩ := hus
  have htl := (hq.2.2.1 p hp m).2
  rw [decide_eq_true u1, Bool.true_and] at htl
  have notell : (G.i 9 p).testBit m = false := by
    cases t : (G.i 9 p).testBit m
    · rfl
    · refine absurd (fb_ex (f := fun o => (G.i 9 p).testBit o && !S.1.testBit o && decide (andn (G.i 12 (32 * p + o)) S.1 = 0)) (n := 32) (j := m) (by omega) ?_) hr
      rw [t, hk, decide_eq_true (andn_sub.mpr fun y hy => hm y (hq.ask hp (by omega) hy).1 (h.lay hlt hy))]; rfl
  rw [notell] at htl
  by_cases z : m / 8 = 0
  · rw [if_pos z] at htl
    have hm8 : m % 8 = m := by omega
    rw [z, Nat.add_zero] at u2
    have := of_decide_eq_false htl.symm
    have hlt2 : m < G.i 4 (G.i 7 (4 * p)) := by omega
    refine ⟨hlt2, ?_⟩
    have := (I.2.1 m hlt2)
    refine Decidable.byContradiction fun c => ?_
    rw [this.mpr (by omega)] at hk
    cases hk
  · exfalso
    rw [if_neg z] at htl
    have := of_decide_eq_false htl.symm
    have hk1 : 1 ≤ m / 8 := by omega
    have e8 : 8 * (m / 8) + m % 8 = m := by omega
    have hw := I.2.2.1 (m / 8) (m % 8) hk1 u1 (by omega) u2
    rw [e8, hk] at hw
    have hgt : S.2.2.1 (m / 8) < vW G A (G.i 7 (4 * p + m / 8)) (m % 8) := by
      refine Decidable.byContradiction fun c => ?_
      have := hw.mpr (by omega)
      cases this
    have hs := hq.sy hp u1
    have hV := (vW_bd (hI.ac hq hs (hno _ u1)) (hq.at' hs) u2).2
    refine hc (fb_ex (f := fun k => chO G A p S.1 S.2.2.1 (k + 1)) (j := m / 8 - 1) (by omega) ?_)
    show chO G A p S.1 S.2.2.1 (m / 8 - 1 + 1) = true
    rw [show m / 8 - 1 + 1 = m / 8 by omega]
    unfold chO
    rw [decide_eq_true (by omega), Bool.true_and]
    refine decide_eq_true (mul_sub.mpr fun b hb => ?_)
    obtain ⟨b1, b2⟩ := durI_b.mp hb
    have b3 : b < att G (G.i 7 (4 * p + m / 8)) := by unfold att; omega
    have h8 := hq.att8 hs
    refine hm (8 * (m / 8) + b) (us_in hq hp u1 b3 (by omega)) ?_
    have := h.vis u1 u2 b3 (by
      unfold ahB
      by_cases c : vW G A (G.i 7 (4 * p + m / 8)) b < vW G A (G.i 7 (4 * p + m / 8)) (m % 8)
      · rw [decide_eq_true c]; rfl
      · rw [decide_eq_true (show vW G A (G.i 7 (4 * p + m / 8)) b = vW G A (G.i 7 (4 * p + m / 8)) (m % 8) by omega), decide_eq_true (show G.i 4 (G.i 7 (4 * p + m / 8)) ≤ m % 8 by omega), decide_eq_true b1]; simp)
    rw [e8] at this
    exact this
theorem stuck_done {G : Gr} {A : Nat → Nat} {p : Nat} {S : PSt} (h : OrdP G A p) (I : PIn G A p S) (hr : ¬ nrI G p S.1 < 32) (hc : ¬ ncI G A p S.1 S.2.2.1 < G.i 6 p - 1) : andn (durO G A (G.i 7 (4 * p)) S.2.1) S.1 = 0 := by
  have hsd := h.1.sd h.2.2.1
  have hs : G.i 7 (4 * p) < G.i 0 0 := h.1.sy h.2.2.1 (show 0 < G.i 6 p by omega)
  have h8 := h.1.att8 hs
  refine andn_sub.mpr fun o ho => ?_
  obtain ⟨⟨o1, o2⟩, o3⟩ := durO_b.mp ho
  cases c : S.1.testBit o
  · exfalso
    have hu : (G.i 8 p).testBit o = true := by
      have := us_in h.1 (k := 0) h.2.2.1 (by omega) (show o < G.i 4 (G.i 7 (4 * p + 0)) + G.i 5 (G.i 7 (4 * p + 0)) from o2) (by omega)
      rw [Nat.mul_zero, Nat.zero_add] at this
      exact this
    obtain ⟨m, m1, m2, m3, m4⟩ := unk_min h hu c
    obtain ⟨i1, i2⟩ := stuck_in h I hr hc m1 m2 m4
    have hb : bt (wdC G A p) m o := by
      have := h.vis (k := 0) (a := m) (b := o) (by omega) (show m < att G (G.i 7 (4 * p + 0)) by show m < att G (G.i 7 (4 * p)); unfold att; omega) o2 (by
        show ahB G A (G.i 7 (4 * p)) m o = true
        unfold ahB
        rw [decide_eq_true (show vW G A (G.i 7 (4 * p)) o < vW G A (G.i 7 (4 * p)) m by omega)]; rfl)
      rw [Nat.mul_zero, Nat.zero_add, Nat.zero_add] at this
      exact this
    have lo := h.1.us_lt h.2.2.1 hu
    have lm := h.1.us_lt h.2.2.1 m1
    rcases m3 with m3 | m3
    · omega
    · exact h.2.2.2.2 o lo (OrdP.tr lo lm m3 hb)
  · rfl
theorem stuck_all {G : Gr} {A : Nat → Nat} {p : Nat} {S : PSt} (h : OrdP G A p) (I : PIn G A p S) (hr : ¬ nrI G p S.1 < 32) (hc : ¬ ncI G A p S.1 S.2.2.1 < G.i 6 p - 1) (hv : ¬ S.2.1 < vV G A (G.i 7 (4 * p))) : (∀ o, (G.i 8 p).testBit o = true → S.1.testBit o = true) ∧ ∀ k, 1 ≤ k → k < G.i 6 p → S.2.2.1 k = vV G A (G.i 7 (4 * p + k)) := by
  have hsd := h.1.sd h.2.2.1
  have hs : G.i 7 (4 * p) < G.i 0 0 := h.1.sy h.2.2.1 (show 0 < G.i 6 p by omega)
  have all : ∀ o, (G.i 8 p).testBit o = true → S.1.testBit o = true := fun o ho => by
    cases c : S.1.testBit o
    · exfalso
      obtain ⟨m, m1, m2, m3, m4⟩ := unk_min h ho c
      obtain ⟨i1, i2⟩ := stuck_in h I hr hc m1 m2 m4
      have hno : slf G A (G.i 7 (4 * p)) = false := h.2.2.2.1 0 (by omega)
      have := (vW_bd (a := m) (h.2.1.ac h.1 hs hno) (h.1.at' hs) (by unfold att; omega)).2
      omega
    · rfl
  refine ⟨all, fun k k1 k2 => ?_⟩
  have hle := I.2.2.2.2 k k1 k2
  refine Decidable.byContradiction fun c => hc (fb_ex (f := fun k => chO G A p S.1 S.2.2.1 (k + 1)) (j := k - 1) (by omega) ?_)
  show chO G A p S.1 S.2.2.1 (k - 1 + 1) = true
  rw [show k - 1 + 1 = k by omega]
  unfold chO
  rw [decide_eq_true (by omega), Bool.true_and]
  refine decide_eq_true (mul_sub.mpr fun b hb => ?_)
  obtain ⟨b1, b2⟩ := durI_b.mp hb
  have hsk := h.1.sy h.2.2.1 k2
  have h8 := h.1.att8 hsk
  unfold att at h8
  exact all _ (us_in h.1 h.2.2.1 k2 (by omega) (by omega))
/-- so a plan that stands still stands at its last visit -/
theorem pKd_3 {G : Gr} {A : Nat → Nat} {p : Nat} {S : PSt} (h : OrdP G A p) (I : PIn G A p S) (hk : pKd G A p S = 3) : S.2.1 = vV G A (G.i 7 (4 * p)) ∧ (∀ o, (G.i 8 p).testBit o = true → S.1.testBit o = true) ∧ ∀ k, 1 ≤ k → k < G.i 6 p → S.2.2.1 k = vV G A (G.i 7 (4 * p + k)) := by
  unfold pKd at hk
  by_cases c0 : S.2.1 < vV G A (G.i 7 (4 * p)) ∧ andn (durO G A (G.i 7 (4 * p)) S.2.1) S.1 = 0
  · rw [if_pos c0] at hk; cases hk
  · rw [if_neg c0] at hk
    by_cases c1 : nrI G p S.1 < 32
    · rw [if_pos c1] at hk; cases hk
    · rw [if_neg c1] at hk
      by_cases c2 : ncI G A p S.1 S.2.2.1 < G.i 6 p - 1
      · rw [if_pos c2] at hk; cases hk
      · have hd := stuck_done h I c1 c2
        have hv : ¬ S.2.1 < vV G A (G.i 7 (4 * p)) := fun q => c0 ⟨q, hd⟩
        have := I.2.2.2.1
        exact ⟨by omega, stuck_all h I c1 c2 hv⟩
