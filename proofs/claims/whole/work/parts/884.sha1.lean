-- shades
theorem cpI_n {n0 a0 n1 a1 sp dp n : Nat} {M : Mm} (h0 : sp + n ≤ n0) (h1 : dp + n ≤ n1) (b0 : n0 < 2 ^ 31) (b1 : n1 < 2 ^ 31) : cpI n0 a0 (nI sp) n1 a1 (nI dp) (nI n) M = some (upR M.1 a1 (fun k => if dp ≤ k ∧ k < dp + n then M.1 a0 (sp + (k - dp)) else M.1 a1 k), M.2) := by
  unfold cpI
  rw [nI_clamp (by omega), nI_clamp (by omega), nI_clamp (by omega), if_neg]
  · rfl
  · have p1 : ¬ nI sp < 0 := fun q => nI_pos (by omega) q
    have p2 : ¬ nI dp < 0 := fun q => nI_pos (by omega) q
    have p3 : ¬ nI n < 0 := fun q => nI_pos (by omega) q
    rintro (q | q | q | q | q)
    · exact p1 q
    · exact p2 q
    · exact p3 q
    · omega
    · omega
/-- what shades add to a row -/
def shA (G : Gr) (p : Nat) (c : Nat → Nat) (m o : Nat) : Nat := if (1 ≤ o / 8 ∧ o / 8 < m) ∧ G.i 4 (G.i 7 (4 * p + o / 8)) ≤ o % 8 ∧ o % 8 < att G (G.i 7 (4 * p + o / 8)) then (c (o / 8) / 2 ^ (4 * (o % 8 - G.i 4 (G.i 7 (4 * p + o / 8)))) &&& 15) * 2 ^ (8 * (o / 8)) else 0
def shR (G : Gr) (p : Nat) (c : Nat → Nat) (m o : Nat) : Nat := if o < 8 * G.i 6 p then G.i 12 (32 * p + o) ||| shA G p c m o else 0
def shC (G : Gr) (p : Nat) (c : Nat → Nat) : Nat → Nat := clo (8 * G.i 6 p) (8 * G.i 6 p) (shR G p c (G.i 6 p))
def shX (G : Gr) (p : Nat) (c : Nat → Nat) : Bool := decide (fb (fun o => (shC G p c o).testBit o) (8 * G.i 6 p) < 8 * G.i 6 p)
def orN (f : Nat → Nat) : Nat → Nat
  | 0 => 0
  | n + 1 => orN f n ||| f n
def shV (G : Gr) (p : Nat) (c : Nat → Nat) (n : Nat) : Nat := orN (fun j => (shC G p c (G.i 4 (G.i 7 (4 * p)) + j) &&& inB G (G.i 7 (4 * p))) * 2 ^ (4 * j)) n
theorem and15 (x : Nat) : x &&& 15 < 16 := Nat.lt_of_le_of_lt Nat.and_le_right (by decide)
theorem shA_lt {G : Gr} {p o m : Nat} {c : Nat → Nat} (h : QG G) (hp : p < G.i 0 1) (ho : o < 8 * G.i 6 p) : shA G p c m o < 2 ^ (8 * G.i 6 p) := by
  unfold shA
  split
  · refine lt_of_bits fun i hi => ?_
    obtain ⟨q1, q2⟩ := (mul_bit _ _ _).mp hi
    have := tb_lt (k := 4) (and15 _) q2
    omega
  · exact Nat.two_pow_pos _
theorem shR_sq {G : Gr} {p m : Nat} {c : Nat → Nat} (h : QG G) (hp : p < G.i 0 1) : SQ (8 * G.i 6 p) (shR G p c m) := by
  have hsd := h.sd hp
  refine ⟨fun o ho => by unfold shR; rw [if_neg (by omega)], fun o => ?_⟩
  unfold shR
  split
  · rename_i ho
    exact or_lt (h.ak_lt hp (by omega)) (shA_lt h hp ho)
  · exact Nat.two_pow_pos _
theorem shC_sq {G : Gr} {p : Nat} {c : Nat → Nat} (h : QG G) (hp : p < G.i 0 1) : SQ (8 * G.i 6 p) (shC G p c) := clo_sq (shR_sq h hp) (Nat.le_refl _) _
theorem shV_lt {G : Gr} {p : Nat} {c : Nat → Nat} (h : QG G) (hp : p < G.i 0 1) : ∀ n, n ≤ 4 → shV G p c n < 2 ^ 16
  | 0, _ => by show (0 : Nat) < 2 ^ 16; decide
  | n + 1, hn => by
    have hsd := h.sd hp
    have h4 := h.at' (show G.i 7 (4 * p) < G.i 0 0 from h.sy hp (show 0 < G.i 6 p by omega))
    have ih := shV_lt (c := c) h hp n (by omega)
    show shV G p c n ||| (shC G p c (G.i 4 (G.i 7 (4 * p)) + n) &&& inB G (G.i 7 (4 * p))) * 2 ^ (4 * n) < 2 ^ 16
    refine or_lt ih (lt_of_bits fun i hi => ?_)
    obtain ⟨q1, q2⟩ := (mul_bit _ _ _).mp hi
    rw [Nat.testBit_and, inB_bit, Bool.and_eq_true, decide_eq_true_iff] at q2
    omega
/-- how far the seeking is: how many of each symbol, which, a circle, too many, any new -/
abbrev SS : Type := (Nat → Nat) × (Nat → Nat → Nat) × Bool × Bool × Bool
def sAt (S : SS) (s v : Nat) : Nat := fb (fun i => decide (S.2.1 s i = v)) (S.1 s)
def sKeep (s v : Nat) (S : SS) : SS :=
  if sAt S s v < S.1 s then S
  else if S.1 s < 12 then ((fun t => if t = s then S.1 s + 1 else S.1 t), (fun t i => if t = s ∧ i = S.1 s then v else S.2.1 t i), S.2.2.1, S.2.2.2.1, true)
  else (S.1, S.2.1, S.2.2.1, true, true)
def ch (G : Gr) (p : Nat) (S : SS) (i j k : Nat) (m : Nat) : Nat := S.2.1 (G.i 7 (4 * p + m)) (if m = 1 then i else if m = 2 then j else k)
def sCast (G : Gr) (p i j k : Nat) (S : SS) : SS := sKeep (G.i 7 (4 * p)) (shV G p (ch G p S i j k) (G.i 5 (G.i 7 (4 * p)))) (S.1, S.2.1, (S.2.2.1 || shX G p (ch G p S i j k)), S.2.2.2.1, S.2.2.2.2)
/-- n times, and which time it is -/
def itN {α : Type} (f : Nat → α → α) : Nat → α → α
  | 0, S => S
  | n + 1, S => f n (itN f n S)
def nCh (G : Gr) (p : Nat) (H : Nat → Nat) (m : Nat) : Nat := if m < G.i 6 p then H (G.i 7 (4 * p + m)) else 1
def isN (G : Gr) (p : Nat) (O : Nat → Nat) (m i : Nat) : Bool := decide (m < G.i 6 p) && decide (O (G.i 7 (4 * p + m)) ≤ i)
/-- all, or but those that are old -/
def c3 (G : Gr) (b : Bool) (H O : Nat → Nat) (p i j k : Nat) (S : SS) : SS := if (b || isN G p O 1 i || isN G p O 2 j || isN G p O 3 k) = true then sCast G p i j k S else S
def c2 (G : Gr) (b : Bool) (H O : Nat → Nat) (p i j : Nat) : SS → SS := itN (c3 G b H O p i j) (nCh G p H 3)
def c1 (G : Gr) (b : Bool) (H O : Nat → Nat) (p i : Nat) : SS → SS := itN (c2 G b H O p i) (nCh G p H 2)
def c0 (G : Gr) (b : Bool) (H O : Nat → Nat) (p : Nat) : SS → SS := itN (c1 G b H O p) (nCh G p H 1)
def sPr (G : Gr) (b : Bool) (H O : Nat → Nat) (r p : Nat) (S : SS) : SS := if G.i 6 p = 1 then (if r = 1 then sCast G p 0 0 0 S else S) else if r = 1 then S else c0 G b H O p S
def sRd (G : Gr) (b : Bool) (H O : Nat → Nat) (r : Nat) : SS → SS := itN (sPr G b H O r) (G.i 0 1)
/-- the seeking as the class keeps it -/
def CS (G : Gr) (S : SS) (M : Mm) : Prop := (∀ s, s < 8 → M.1 29 s = nI (S.1 s) ∧ ∀ i, i < S.1 s → M.1 25 (12 * s + i) = nI (S.2.1 s i)) ∧ M.1 24 6 = bI S.2.2.1 ∧ M.1 24 10 = bI S.2.2.2.1
/-- what holds of it -/
def SO (S : SS) : Prop := ∀ s, S.1 s ≤ 12 ∧ ∀ i, i < S.1 s → S.2.1 s i < 2 ^ 16
theorem SO.keep {S : SS} {s v : Nat} (h : SO S) (hv : v < 2 ^ 16) : SO (sKeep s v S) := by
  unfold sKeep
  split
  · exact h
  · split
    · rename_i c1 c2
      intro t
      obtain ⟨h1, h2⟩ := h t
      refine ⟨?_, fun i hi => ?_⟩
      · show (if t = s then S.1 s + 1 else S.1 t) ≤ 12
        split <;> omega
      · have hi : i < (if t = s then S.1 s + 1 else S.1 t) := hi
        show (if t = s ∧ i = S.1 s then v else S.2.1 t i) < 2 ^ 16
        by_cases e : t = s
        · subst e
          rw [if_pos rfl] at hi
          by_cases d : i = S.1 t
          · rw [if_pos ⟨rfl, d⟩]; exact hv
          · rw [if_neg (fun z => d z.2)]; exact h2 i (by omega)
        · rw [if_neg e] at hi
          rw [if_neg (fun z => e z.1)]; exact h2 i hi
    · exact h
theorem SO.cast {G : Gr} {p i j k : Nat} {S : SS} (hq : QG G) (hp : p < G.i 0 1) (h : SO S) : SO (sCast G p i j k S) := by
  have hsd := hq.sd hp
  have h4 := hq.at' (show G.i 7 (4 * p) < G.i 0 0 from hq.sy hp (show 0 < G.i 6 p by omega))
  exact SO.keep (S := (S.1, S.2.1, (S.2.2.1 || shX G p (ch G p S i j k)), S.2.2.2.1, S.2.2.2.2)) h (shV_lt hq hp _ h4.2)
