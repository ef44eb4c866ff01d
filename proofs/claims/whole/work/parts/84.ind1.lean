-- what is induced: one step, one round
def QG (G : Gr) : Prop := W0 G ∧ W2 G ∧ W4 G ∧ ZR G (G.i 0 1) ∧ GI G
theorem QT.g {G : Gr} {M : Mm} (h : QT G M) : QG G := h.2
theorem QG.sd {G : Gr} (h : QG G) {p : Nat} (hp : p < G.i 0 1) : 1 ≤ G.i 6 p ∧ G.i 6 p ≤ 4 := ⟨h.2.1 p hp, (h.1.2.2.2.2 p hp).2.1⟩
theorem QG.np {G : Gr} (h : QG G) : G.i 0 1 ≤ 12 := h.1.2.1
theorem QG.ns {G : Gr} (h : QG G) : G.i 0 0 ≤ 8 := h.1.1
theorem QG.sy {G : Gr} (h : QG G) {p k : Nat} (hp : p < G.i 0 1) (hk : k < G.i 6 p) : G.i 7 (4 * p + k) < G.i 0 0 := (h.1.2.2.2.2 p hp).2.2 k hk
theorem QG.at' {G : Gr} (h : QG G) {s : Nat} (hs : s < G.i 0 0) : G.i 4 s ≤ 4 ∧ G.i 5 s ≤ 4 := ⟨(h.1.2.2.2.1 s hs).1, (h.1.2.2.2.1 s hs).2.1⟩
theorem QG.us {G : Gr} (h : QG G) {p i : Nat} (hp : p < G.i 0 1) : (G.i 8 p).testBit i = (decide (i / 8 < G.i 6 p) && decide (i % 8 < G.i 4 (G.i 7 (4 * p + i / 8)) + G.i 5 (G.i 7 (4 * p + i / 8)))) := (h.2.2.1 p hp i).1
theorem QG.tl_us {G : Gr} (h : QG G) {p i : Nat} (hp : p < G.i 0 1) (ht : (G.i 9 p).testBit i = true) : (G.i 8 p).testBit i = true := by
  have a := (h.2.2.1 p hp i).2
  rw [ht, Eq.comm, Bool.and_eq_true] at a
  obtain ⟨a1, a2⟩ := a
  have a1 := of_decide_eq_true a1
  rw [h.us hp, decide_eq_true a1, Bool.true_and]
  by_cases c : i / 8 = 0
  · rw [if_pos c] at a2
    rw [c]
    exact decide_eq_true (of_decide_eq_true a2).2
  · rw [if_neg c] at a2
    have := of_decide_eq_true a2
    exact decide_eq_true (by omega)
theorem QG.ask {G : Gr} (h : QG G) {p o q : Nat} (hp : p < G.i 0 1) (ho : o < 32) (hq : (G.i 12 (32 * p + o)).testBit q = true) : (G.i 8 p).testBit q = true ∧ (G.i 8 p).testBit o = true ∧ tdB G (32 * p + o) = true := by
  cases t : tdB G (32 * p + o)
  · have hnp := h.np
    have := (h.2.2.2.1 (32 * p + o) (Or.inr t) (by omega)).2.2.1
    rw [this, Nat.zero_testBit] at hq
    cases hq
  · have r := (h.2.2.2.2 p hp).1 o ho t
    exact ⟨r.2.2.2.2.2.1 q hq, h.tl_us hp r.1, rfl⟩
theorem QG.us_lt {G : Gr} (h : QG G) {p i : Nat} (hp : p < G.i 0 1) (hu : (G.i 8 p).testBit i = true) : i < 8 * G.i 6 p := by
  rw [h.us hp, Bool.and_eq_true] at hu
  have := of_decide_eq_true hu.1
  omega
theorem lt_of_bits {x n : Nat} (h : ∀ i, x.testBit i = true → i < n) : x < 2 ^ n := Nat.lt_pow_two_of_testBit _ fun i hi => by
  cases c : x.testBit i
  · rfl
  · have := h i c; omega
theorem QG.ak_lt {G : Gr} (h : QG G) {p o : Nat} (hp : p < G.i 0 1) (ho : o < 32) : G.i 12 (32 * p + o) < 2 ^ (8 * G.i 6 p) := lt_of_bits fun i hi => h.us_lt hp (h.ask hp ho hi).1
theorem QG.ak_0 {G : Gr} (h : QG G) {p o : Nat} (hp : p < G.i 0 1) (ho : o < 32) (hu : (G.i 8 p).testBit o = false) : G.i 12 (32 * p + o) = 0 := by
  apply Nat.eq_of_testBit_eq
  intro i
  rw [Nat.zero_testBit]
  cases c : (G.i 12 (32 * p + o)).testBit i
  · rfl
  · rw [(h.ask hp ho c).2.1] at hu; cases hu
def rwI (G : Gr) (p o : Nat) : Nat := 8 * G.i 7 (4 * p + o / 8) + o % 8
def layR (G : Gr) (A : Nat → Nat) (p o : Nat) : Nat := if o < 8 * G.i 6 p then G.i 12 (32 * p + o) ||| A (rwI G p o) * 2 ^ (8 * (o / 8)) else 0
def AOK (G : Gr) (A : Nat → Nat) : Prop := (∀ r, 64 ≤ r → A r = 0) ∧ (∀ r, A r < 256) ∧ ∀ s, s < G.i 0 0 → ∀ a, G.i 4 s + G.i 5 s ≤ a → a < 8 → A (8 * s + a) = 0
theorem rwI_lt {G : Gr} (h : QG G) {p o : Nat} (hp : p < G.i 0 1) (ho : o < 8 * G.i 6 p) : rwI G p o < 64 := by
  have := h.sy hp (show o / 8 < G.i 6 p by omega)
  have := h.ns
  unfold rwI; omega
theorem lay_sq {G : Gr} {A : Nat → Nat} {p : Nat} (h : QG G) (hA : AOK G A) (hp : p < G.i 0 1) : SQ (8 * G.i 6 p) (layR G A p) := by
  have hs := h.sd hp
  refine ⟨fun o ho => by unfold layR; rw [if_neg (by omega)], fun o => ?_⟩
  unfold layR
  split
  · rename_i ho
    refine or_lt (h.ak_lt hp (by omega)) (lt_of_bits fun i hi => ?_)
    rw [Nat.testBit_mul_two_pow, Bool.and_eq_true] at hi
    have h1 := of_decide_eq_true hi.1
    have h2 := tb_lt (k := 8) (hA.2.1 (rwI G p o)) hi.2
    omega
  · exact Nat.two_pow_pos _
theorem A_0 {G : Gr} {A : Nat → Nat} {p o : Nat} (h : QG G) (hA : AOK G A) (hp : p < G.i 0 1) (ho : o < 8 * G.i 6 p) (hu : (G.i 8 p).testBit o = false) : A (rwI G p o) = 0 := by
  rw [h.us hp, decide_eq_true (show o / 8 < G.i 6 p by omega), Bool.true_and] at hu
  have := of_decide_eq_false hu
  exact hA.2.2 _ (h.sy hp (by omega)) _ (by omega) (by omega)
theorem lay_0 {G : Gr} {A : Nat → Nat} {p o : Nat} (h : QG G) (hA : AOK G A) (hp : p < G.i 0 1) (hu : (G.i 8 p).testBit o = false) : layR G A p o = 0 := by
  have hs := h.sd hp
  unfold layR
  split
  · rename_i ho
    rw [h.ak_0 hp (by omega) hu, A_0 h hA hp ho hu, Nat.zero_mul]; rfl
  · rfl
def iC (G : Gr) (A : Nat → Nat) (p : Nat) : Nat → Nat := clo (8 * G.i 6 p) (8 * G.i 6 p) (layR G A p)
theorem iC_sq {G : Gr} {A : Nat → Nat} {p : Nat} (h : QG G) (hA : AOK G A) (hp : p < G.i 0 1) : SQ (8 * G.i 6 p) (iC G A p) := clo_sq (lay_sq h hA hp) (Nat.le_refl _) _
theorem clo_row0 {w : Nat} {R : Nat → Nat} {o : Nat} (h : R o = 0) : ∀ n, clo w n R o = 0
  | 0 => h
  | n + 1 => by
    rw [clo_s]; unfold clS
    rw [if_neg (fun z => by rw [clo_row0 h n, Nat.zero_testBit] at z; cases z.2)]
    exact clo_row0 h n
theorem iC_0 {G : Gr} {A : Nat → Nat} {p o : Nat} (h : QG G) (hA : AOK G A) (hp : p < G.i 0 1) (hu : (G.i 8 p).testBit o = false) : iC G A p o = 0 := clo_row0 (lay_0 h hA hp hu) _
/-- one occ gives what it hangs on of its own symbol's -/
def gS (G : Gr) (p : Nat) (C : Nat → Nat) (o : Nat) (A : Nat → Nat) (r : Nat) : Nat := if r = rwI G p o then A r ||| ((C o / 2 ^ (8 * (o / 8))) &&& 255) else A r
def gat (G : Gr) (p : Nat) (C : Nat → Nat) : Nat → (Nat → Nat) → Nat → Nat
  | 0, A => A
  | o + 1, A => gS G p C o (gat G p C o A)
theorem gat_s (G : Gr) (p : Nat) (C : Nat → Nat) (o : Nat) (A : Nat → Nat) : gat G p C (o + 1) A = gS G p C o (gat G p C o A) := rfl
theorem and255 (x : Nat) : x &&& 255 < 256 := Nat.lt_of_le_of_lt Nat.and_le_right (by decide)
theorem gS_ok {G : Gr} {A C : Nat → Nat} {p o : Nat} (h : QG G) (hA : AOK G A) (hp : p < G.i 0 1) (ho : o < 8 * G.i 6 p) (hC : (G.i 8 p).testBit o = false → C o = 0) : AOK G (gS G p C o A) := by
  refine ⟨fun r hr => ?_, fun r => ?_, fun s hs a h1 h2 => ?_⟩
  · unfold gS; rw [if_neg (by have := rwI_lt h hp ho; omega)]; exact hA.1 r hr
  · unfold gS; split
    · exact or_lt (k := 8) (hA.2.1 r) (and255 _)
    · exact hA.2.1 r
  · unfold gS
    have hz := hA.2.2 s hs a h1 h2
    by_cases e : 8 * s + a = rwI G p o
    · rw [if_pos e, hz, hC, Nat.zero_div, Nat.zero_and]; rfl
      unfold rwI at e
      rw [h.us hp]
      have e1 : s = G.i 7 (4 * p + o / 8) := by omega
      have e2 : a = o % 8 := by omega
      rw [← e1, ← e2, decide_eq_false (show ¬ a < G.i 4 s + G.i 5 s by omega), Bool.and_false]
    · rw [if_neg e]; exact hz
theorem gat_ok {G : Gr} {A C : Nat → Nat} {p : Nat} (h : QG G) (hA : AOK G A) (hp : p < G.i 0 1) (hC : ∀ o, (G.i 8 p).testBit o = false → C o = 0) : ∀ n, n ≤ 8 * G.i 6 p → AOK G (gat G p C n A)
  | 0, _ => hA
  | n + 1, hn => gS_ok h (gat_ok h hA hp hC n (by omega)) hp (by omega) (hC n)
/-- more and more -/
def LEA (A A' : Nat → Nat) : Prop := ∀ r q, (A r).testBit q = true → (A' r).testBit q = true
theorem LEA.refl {A : Nat → Nat} : LEA A A := fun _ _ h => h
theorem LEA.trans {A A' A'' : Nat → Nat} (h : LEA A A') (h' : LEA A' A'') : LEA A A'' := fun r q e => h' r q (h r q e)
theorem gS_le {G : Gr} {A C : Nat → Nat} {p o : Nat} : LEA A (gS G p C o A) := fun r q e => by
  unfold gS; split
  · rw [Nat.testBit_or, e, Bool.true_or]
  · exact e
theorem gat_le {G : Gr} {A C : Nat → Nat} {p : Nat} : ∀ n, LEA A (gat G p C n A)
  | 0 => LEA.refl
  | n + 1 => (gat_le n).trans gS_le
/-- a flag that tells whether there is more -/
def FOK (b : Bool) (A0 A : Nat → Nat) : Prop := (b = false → A = A0) ∧ (b = true → ∃ r q, r < 64 ∧ q < 8 ∧ (A r).testBit q = true ∧ (A0 r).testBit q = false) ∧ LEA A0 A
theorem FOK.refl {A : Nat → Nat} : FOK false A A := ⟨fun _ => rfl, fun h => by (cases h), LEA.refl⟩
theorem FOK.or {b c : Bool} {A0 A A' : Nat → Nat} (h : FOK b A0 A) (h' : FOK c A A') : FOK (b || c) A0 A' := by
  refine ⟨fun e => ?_, fun e => ?_, h.2.2.trans h'.2.2⟩
  · rw [Bool.or_eq_false_iff] at e; rw [h'.1 e.2, h.1 e.1]
  · rw [Bool.or_eq_true] at e
    rcases e with e | e
    · obtain ⟨r, q, h1, h2, h3, h4⟩ := h.2.1 e
      exact ⟨r, q, h1, h2, h'.2.2 r q h3, h4⟩
    · obtain ⟨r, q, h1, h2, h3, h4⟩ := h'.2.1 e
      refine ⟨r, q, h1, h2, h3, ?_⟩
      cases c2 : (A0 r).testBit q
      · rfl
      · rw [h.2.2 r q c2] at h4; cases h4
theorem or_ne {a v : Nat} (hv : v < 256) (h : ¬ a ||| v = a) : ∃ q, q < 8 ∧ (a ||| v).testBit q = true ∧ a.testBit q = false := by
  refine Classical.byContradiction fun c => h (Nat.eq_of_testBit_eq fun i => ?_)
  rw [Nat.testBit_or]
  cases e : a.testBit i
  · cases e2 : v.testBit i
    · rfl
    · exact absurd ⟨i, tb_lt (k := 8) hv e2, by rw [Nat.testBit_or, e2, Bool.or_true], e⟩ c
  · rfl
theorem gS_fok {G : Gr} {A C : Nat → Nat} {p o : Nat} (h : QG G) (hp : p < G.i 0 1) (ho : o < 8 * G.i 6 p) : FOK (!decide (gS G p C o A (rwI G p o) = A (rwI G p o))) A (gS G p C o A) := by
  have e : gS G p C o A (rwI G p o) = A (rwI G p o) ||| ((C o / 2 ^ (8 * (o / 8))) &&& 255) := by unfold gS; rw [if_pos rfl]
  refine ⟨fun hb => ?_, fun hb => ?_, gS_le⟩
  · have hb' : gS G p C o A (rwI G p o) = A (rwI G p o) := by simpa using hb
    funext r
    by_cases c : r = rwI G p o
    · rw [c, hb']
    · unfold gS; rw [if_neg c]
  · have hb' : ¬ gS G p C o A (rwI G p o) = A (rwI G p o) := by simpa using hb
    rw [e] at hb'
    obtain ⟨q, q1, q2, q3⟩ := or_ne (and255 _) hb'
    exact ⟨rwI G p o, q, rwI_lt h hp ho, q1, by rw [e]; exact q2, q3⟩
def indP (G : Gr) : Nat → (Nat → Nat) → Nat → Nat
  | 0, A => A
  | p + 1, A => gat G p (iC G (indP G p A) p) (8 * G.i 6 p) (indP G p A)
theorem indP_s (G : Gr) (p : Nat) (A : Nat → Nat) : indP G (p + 1) A = gat G p (iC G (indP G p A) p) (8 * G.i 6 p) (indP G p A) := rfl
theorem indP_ok {G : Gr} {A : Nat → Nat} (h : QG G) (hA : AOK G A) : ∀ p, p ≤ G.i 0 1 → AOK G (indP G p A)
  | 0, _ => hA
  | p + 1, hp => gat_ok h (indP_ok h hA p (by omega)) (by omega) (fun o hu => iC_0 h (indP_ok h hA p (by omega)) (by omega) hu) _ (Nat.le_refl _)
theorem indP_le {G : Gr} {A : Nat → Nat} : ∀ p, LEA A (indP G p A)
  | 0 => LEA.refl
  | p + 1 => (indP_le p).trans (gat_le _)
def muA (A : Nat → Nat) : Nat := cnt (fun i => (A (i / 8)).testBit (i % 8)) 512
theorem muA_lt {A0 A : Nat → Nat} (h : FOK true A0 A) : muA A0 < muA A := by
  obtain ⟨r, q, h1, h2, h3, h4⟩ := h.2.1 rfl
  refine cnt_lt (fun i _ e => h.2.2 _ _ e) (8 * r + q) (by omega) ?_ ?_
  · rw [show (8 * r + q) / 8 = r by omega, show (8 * r + q) % 8 = q by omega]; exact h4
  · rw [show (8 * r + q) / 8 = r by omega, show (8 * r + q) % 8 = q by omega]; exact h3
theorem muA_le (A : Nat → Nat) : muA A ≤ 512 := cnt_le _ _
/-- t rounds -/
def It (G : Gr) : Nat → Nat → Nat
  | 0 => fun _ => 0
  | t + 1 => indP G (G.i 0 1) (It G t)
theorem It_s (G : Gr) (t : Nat) : It G (t + 1) = indP G (G.i 0 1) (It G t) := rfl
theorem It_ok {G : Gr} (h : QG G) : ∀ t, AOK G (It G t)
  | 0 => ⟨fun _ _ => rfl, fun _ => by show 0 < 256; decide, fun _ _ _ _ _ => rfl⟩
  | t + 1 => indP_ok h (It_ok h t) _ (Nat.le_refl _)
theorem It_fix {G : Gr} {t : Nat} (h : It G (t + 1) = It G t) : ∀ n, It G (t + n) = It G t
  | 0 => rfl
  | n + 1 => by rw [show t + (n + 1) = (t + n) + 1 from rfl, It_s, It_fix h n, ← It_s, h]
theorem It_uniq {G : Gr} {t t' : Nat} (h : It G (t + 1) = It G t) (h' : It G (t' + 1) = It G t') : It G t = It G t' := by
  by_cases c : t ≤ t'
  · have := It_fix h (t' - t)
    rw [show t + (t' - t) = t' by omega] at this
    exact this.symm
  · have := It_fix h' (t - t')
    rw [show t' + (t - t') = t by omega] at this
    exact this
