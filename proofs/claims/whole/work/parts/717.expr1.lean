-- what an expression's code does: heights of the pile, what is asked
def hst (v t : Nat) : Option Nat := if v < 30000 then (if t < 20 then some (t + 1) else none) else if v = 40000 then (if 3 ≤ t then some (t - 2) else none) else (if 2 ≤ t then some (t - 1) else none)
def hgt (f : Nat → Nat) : Nat → Nat → Nat → Option Nat
  | _, 0, t => some t
  | c, n + 1, t => (hst (f c) t).bind fun t' => hgt f (c + 1) n t'
theorem hgt_0 (f : Nat → Nat) (c t : Nat) : hgt f c 0 t = some t := rfl
theorem hgt_s (f : Nat → Nat) (c n t : Nat) : hgt f c (n + 1) t = (hst (f c) t).bind fun t' => hgt f (c + 1) n t' := rfl
theorem hgt_add (f : Nat → Nat) : ∀ (n m c t : Nat), hgt f c (n + m) t = (hgt f c n t).bind fun t' => hgt f (c + n) m t'
  | 0, m, c, t => by rw [Nat.zero_add, hgt_0]; rfl
  | n + 1, m, c, t => by
    rw [show n + 1 + m = (n + m) + 1 by omega, hgt_s, hgt_s, Option.bind_assoc]
    congr 1
    funext t'
    rw [hgt_add f n m (c + 1) t', show c + 1 + n = c + (n + 1) by omega]
theorem hgt_congr {f g : Nat → Nat} : ∀ (n c t : Nat), (∀ j, c ≤ j → j < c + n → f j = g j) → hgt f c n t = hgt g c n t
  | 0, c, t, _ => rfl
  | n + 1, c, t, h => by
    rw [hgt_s, hgt_s, h c (by omega) (by omega)]
    congr 1
    funext t'
    exact hgt_congr n (c + 1) t' fun j j1 j2 => h j (by omega) (by omega)
def eI (G : Gr) : Nat := 32 * G.cp + G.co
/-- from G to G' codes came that leave y more, and need x more at most -/
def XE (y x : Nat) (G G' : Gr) : Prop :=
  Se G G' ∧ G.i 0 2 ≤ G'.i 0 2 ∧ (∀ c, c < G.i 0 2 → G'.i 16 c = G.i 16 c) ∧
  (∀ t, t + x ≤ 20 → hgt (G'.i 16) (G.i 0 2) (G'.i 0 2 - G.i 0 2) t = some (t + y)) ∧
  (∀ c, G.i 0 2 ≤ c → c < G'.i 0 2 → G'.i 16 c < 10000 ∨ G'.i 16 c = 20000 ∨ (30000 ≤ G'.i 16 c ∧ G'.i 16 c < 30008) ∨ G'.i 16 c = 40000 ∨ ∃ q, q < 32 ∧ G'.i 16 c = 10000 + q ∧ (G'.i 12 (eI G)).testBit q = true) ∧
  (∀ q, (G'.i 12 (eI G)).testBit q = true → (G.i 12 (eI G)).testBit q = true ∨ (G.i 8 G.cp).testBit q = true) ∧
  (∀ q, (G.i 12 (eI G)).testBit q = true → (G'.i 12 (eI G)).testBit q = true) ∧
  ((G'.i 11 G.cp).testBit G.co = true ↔ (G.i 11 G.cp).testBit G.co = true ∨ ∃ c, G.i 0 2 ≤ c ∧ c < G'.i 0 2 ∧ G'.i 16 c = 20000) ∧
  (∀ p o, ¬ (p = G.cp ∧ o = G.co) → (G'.i 11 p).testBit o = (G.i 11 p).testBit o) ∧
  (∀ i, ¬ i = eI G → G'.i 12 i = G.i 12 i) ∧
  ((∀ q, q < 32 → (G.i 13 (32 * G.cp + q)).testBit G.co = (G.i 12 (eI G)).testBit q) → ∀ q, q < 32 → (G'.i 13 (32 * G.cp + q)).testBit G.co = (G'.i 12 (eI G)).testBit q) ∧
  (∀ i o, ¬ o = G.co → (G'.i 13 i).testBit o = (G.i 13 i).testBit o) ∧
  (∀ i, ¬ (32 * G.cp ≤ i ∧ i < 32 * G.cp + 32) → G'.i 13 i = G.i 13 i)
theorem XE.trans {y1 x1 y2 x2 x : Nat} {G G1 G2 : Gr} (a : XE y1 x1 G G1) (b : XE y2 x2 G1 G2) (h1 : x1 ≤ x) (h2 : y1 + x2 ≤ x) : XE (y1 + y2) x G G2 := by
  obtain ⟨a1, a2, a3, a4, a5, a6, a7, a8, a9, a10, a11, a12, a13⟩ := a
  obtain ⟨b1, b2, b3, b4, b5, b6, b7, b8, b9, b10, b11, b12, b13⟩ := b
  have ecp : G1.cp = G.cp := a1.2.2.2.2.1
  have eco : G1.co = G.co := a1.2.2.2.2.2
  have ee : eI G1 = eI G := by unfold eI; rw [ecp, eco]
  have eus : ∀ p, G1.i 8 p = G.i 8 p := fun p => a1.1 8 p (by omega) (by omega) (by omega) (by omega) (by omega)
  rw [ee] at b5 b6 b7 b10 b11
  rw [ecp] at b6 b8 b9 b11 b13
  rw [eco] at b8 b9 b11 b12
  refine ⟨a1.trans b1, Nat.le_trans a2 b2, fun c hc => (b3 c (by omega)).trans (a3 c hc), fun t ht => ?_, fun c c1 c2 => ?_, fun q hq => ?_, fun q hq => b7 q (a7 q hq), ?_, fun p o h => (b9 p o h).trans (a9 p o h), fun i h => (b10 i h).trans (a10 i h), fun h => b11 (a11 h), fun i o h => (b12 i o h).trans (a12 i o h), fun i h => (b13 i h).trans (a13 i h)⟩
  · rw [show G2.i 0 2 - G.i 0 2 = (G1.i 0 2 - G.i 0 2) + (G2.i 0 2 - G1.i 0 2) by omega, hgt_add, hgt_congr (f := G2.i 16) (g := G1.i 16) _ _ _ (fun j j1 j2 => b3 j (by omega)), a4 t (by omega), Option.bind_some, show G.i 0 2 + (G1.i 0 2 - G.i 0 2) = G1.i 0 2 by omega, b4 (t + y1) (by omega)]
    exact congrArg some (by omega)
  · by_cases q : c < G1.i 0 2
    · rw [b3 c q]
      rcases a5 c c1 q with h | h | h | h | ⟨z, z1, z2, z3⟩
      · exact Or.inl h
      · exact Or.inr (Or.inl h)
      · exact Or.inr (Or.inr (Or.inl h))
      · exact Or.inr (Or.inr (Or.inr (Or.inl h)))
      · exact Or.inr (Or.inr (Or.inr (Or.inr ⟨z, z1, z2, b7 z z3⟩)))
    · exact b5 c (by omega) c2
  · rcases b6 q hq with h | h
    · exact a6 q h
    · rw [eus] at h; exact Or.inr h
  · rw [b8, a8]
    constructor
    · rintro ((h | ⟨c, c1, c2, c3⟩) | ⟨c, c1, c2, c3⟩)
      · exact Or.inl h
      · exact Or.inr ⟨c, c1, by omega, by rw [b3 c c2]; exact c3⟩
      · exact Or.inr ⟨c, by omega, c2, c3⟩
    · rintro (h | ⟨c, c1, c2, c3⟩)
      · exact Or.inl (Or.inl h)
      · by_cases q : c < G1.i 0 2
        · exact Or.inl (Or.inr ⟨c, c1, q, by rw [← b3 c q]; exact c3⟩)
        · exact Or.inr ⟨c, by omega, c2, c3⟩
theorem XE.le {y x x' : Nat} {G G' : Gr} (a : XE y x G G') (h : x ≤ x') : XE y x' G G' := by
  obtain ⟨a1, a2, a3, a4, r⟩ := a
  exact ⟨a1, a2, a3, fun t ht => a4 t (by omega), r⟩
/-- a code more, which asks nothing -/
theorem gCod_cc (G : Gr) (v c : Nat) : (gCod G v).i 16 c = if c = G.i 0 2 then v else G.i 16 c := by
  unfold gCod; simp only [sI_i, Nat.reduceEqDiff, true_and, false_and, if_false]
theorem gCod_nc (G : Gr) (v : Nat) : (gCod G v).i 0 2 = G.i 0 2 + 1 := by rw [gCod_0, if_pos rfl]
/-- G' is G but for what an occ asks: then one code -/
theorem XE_code {v x y y' x' : Nat} {G G' : Gr} (s : XE y' x' G G') (hv : ¬ v = 20000)
    (hc : v < 10000 ∨ v = 20000 ∨ (30000 ≤ v ∧ v < 30008) ∨ v = 40000 ∨ ∃ q, q < 32 ∧ v = 10000 + q ∧ (G'.i 12 (eI G)).testBit q = true)
    (h4 : ∀ t, t + x ≤ 20 → hst v (t + y') = some (t + y)) (hx : x' ≤ x) : XE y x G (gCod G' v) := by
  obtain ⟨a1, a2, a3, a4, a5, a6, a7, a8, a9, a10, a11, a12, a13⟩ := s
  have e12 : ∀ j, (gCod G' v).i 12 j = G'.i 12 j := fun j => gCod_ak _ _ _
  have e13 : ∀ j, (gCod G' v).i 13 j = G'.i 13 j := fun j => gCod_ab _ _ _
  have e11 : ∀ j, (gCod G' v).i 11 j = G'.i 11 j := fun j => gCod_i _ _ _ _ (by omega) (by omega)
  have lo : ∀ c, c < G'.i 0 2 → (gCod G' v).i 16 c = G'.i 16 c := fun c hc => by rw [gCod_cc, if_neg (by omega)]
  unfold XE
  simp only [e12, e13, e11, gCod_nc]
  refine ⟨a1.trans (gCod_S _ _), by omega, fun c hc => (lo c (by omega)).trans (a3 c hc), fun t ht => ?_, fun c c1 c2 => ?_, a6, a7, ?_, a9, a10, a11, a12, a13⟩
  · rw [show G'.i 0 2 + 1 - G.i 0 2 = (G'.i 0 2 - G.i 0 2) + 1 by omega, hgt_add, hgt_congr (f := (gCod G' v).i 16) (g := G'.i 16) _ _ _ (fun j j1 j2 => lo j (by omega)), a4 t (by omega), Option.bind_some, show G.i 0 2 + (G'.i 0 2 - G.i 0 2) = G'.i 0 2 by omega, hgt_s, gCod_cc, if_pos rfl, h4 t ht]; rfl
  · by_cases q : c = G'.i 0 2
    · rw [gCod_cc, if_pos q]; exact hc
    · rw [lo c (by omega)]; exact a5 c c1 (by omega)
  · rw [a8]
    constructor
    · rintro (h | ⟨c, c1, c2, c3⟩)
      · exact Or.inl h
      · exact Or.inr ⟨c, c1, by omega, by rw [lo c c2]; exact c3⟩
    · rintro (h | ⟨c, c1, c2, c3⟩)
      · exact Or.inl h
      · by_cases q : c = G'.i 0 2
        · rw [gCod_cc, if_pos q] at c3
          exact absurd c3 hv
        · rw [lo c (by omega)] at c3
          exact Or.inr ⟨c, c1, by omega, c3⟩
