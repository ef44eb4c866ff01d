-- instances, and what hangs on what in a tree
def inT (ce : Nat → Nat → Nat) (k o : Nat) : Nat := 8 * (if o / 8 = 0 then k else ce k (o / 8)) + o % 8
def syT (G : Gr) (t : TR) (k : Nat) : Nat := G.i 7 (4 * tp t k)
def thT (G : Gr) (t : TR) (i : Nat) : Prop := i / 8 < tn t ∧ i % 8 < att G (syT G t (i / 8))
def nrT (G : Gr) (t : TR) (ce : Nat → Nat → Nat) (i j : Nat) : Prop := ∃ o, o < 32 ∧ (akT G t i).testBit o = true ∧ inT ce (bsT G t i - 1) o = j
section tok
variable {G : Gr} {t : TR} {ce : Nat → Nat → Nat} {me : Nat → Nat}
theorem inT_d (k o : Nat) : inT ce k o / 8 = (if o / 8 = 0 then k else ce k (o / 8)) := by unfold inT; omega
theorem inT_m (k o : Nat) : inT ce k o % 8 = o % 8 := by unfold inT; omega
theorem syT_lt (hq : QG G) (h : TOK G t ce me) {k : Nat} (hk : k < tn t) : syT G t k < G.i 0 0 := by
  have pk := (h.2.1 k hk).1
  exact hq.sy pk (show 0 < G.i 6 (tp t k) by have := hq.sd pk; omega)
/-- an occ of a node's production is an instance -/
theorem in_node (h : TOK G t ce me) {k o : Nat} (hk : k < tn t) (ho : o / 8 < G.i 6 (tp t k)) : inT ce k o / 8 < tn t ∧ syT G t (inT ce k o / 8) = G.i 7 (4 * tp t k + o / 8) := by
  rw [inT_d]
  by_cases z : o / 8 = 0
  · rw [if_pos z, z]; exact ⟨hk, rfl⟩
  · rw [if_neg z]
    exact ⟨(h.kid hk (by omega) ho).2.1, ((h.2.1 k hk).2.2.2.2 (o / 8) (by omega) ho).2.2.2.1⟩
theorem in_us (hq : QG G) (h : TOK G t ce me) {k o : Nat} (hk : k < tn t) (hu : (G.i 8 (tp t k)).testBit o = true) : o / 8 < G.i 6 (tp t k) ∧ thT G t (inT ce k o) := by
  have pk := (h.2.1 k hk).1
  rw [hq.us pk] at hu
  simp only [Bool.and_eq_true, decide_eq_true_eq] at hu
  obtain ⟨a1, a2⟩ := in_node h hk hu.1
  exact ⟨hu.1, a1, by rw [a2, inT_m]; exact hu.2⟩
/-- different occs, different instances -/
theorem in_inj (hq : QG G) (h : TOK G t ce me) {k o o' : Nat} (hk : k < tn t) (ho : o / 8 < G.i 6 (tp t k)) (ho' : o' / 8 < G.i 6 (tp t k)) (e : inT ce k o = inT ce k o') : o = o' := by
  have e1 : o % 8 = o' % 8 := by have := inT_m (ce := ce) k o; have := inT_m (ce := ce) k o'; omega
  have e2 : (if o / 8 = 0 then k else ce k (o / 8)) = (if o' / 8 = 0 then k else ce k (o' / 8)) := by rw [← inT_d, ← inT_d, e]
  obtain ⟨a1, a2, a3, a4, a5⟩ := h.2.1 k hk
  by_cases z : o / 8 = 0
  · by_cases z' : o' / 8 = 0
    · omega
    · rw [if_pos z, if_neg z'] at e2
      have := h.kid hk (show 1 ≤ o' / 8 by omega) ho'
      omega
  · by_cases z' : o' / 8 = 0
    · rw [if_neg z, if_pos z'] at e2
      have := h.kid hk (show 1 ≤ o / 8 by omega) ho
      omega
    · rw [if_neg z, if_neg z'] at e2
      have q1 := (a5 (o / 8) (by omega) ho).2.2.1
      have q2 := (a5 (o' / 8) (by omega) ho').2.2.1
      rw [e2, q2] at q1
      omega
theorem ni_le (hq : QG G) (h : TOK G t ce me) {k : Nat} (hk : k < tn t) : niT G t k ≤ 4 ∧ att G (syT G t k) ≤ 8 := ⟨(hq.at' (syT_lt hq h hk)).1, hq.att8 (syT_lt hq h hk)⟩
/-- who tells an instance of a tree -/
theorem bs_le (h : TOK G t ce me) {i : Nat} (hi : i / 8 < tn t) : bsT G t i ≤ tn t := by
  have := h.par G hi
  unfold bsT
  split <;> omega
theorem oc_own (hq : QG G) (h : TOK2 G t ce me) {i : Nat} (hi : thT G t i) (hb : ¬ bsT G t i = 0) : bsT G t i - 1 < tn t ∧ ocT G t i < 32 ∧ ocT G t i / 8 < G.i 6 (tp t (bsT G t i - 1)) ∧ inT ce (bsT G t i - 1) (ocT G t i) = i := by
  have he := hi.1
  have hl := bs_le h.1 he
  have hp : bsT G t i - 1 < tn t := by omega
  have hsd := hq.sd (h.1.2.1 _ hp).1
  have ho := (TOK.occ hq h (show i < 8 * tn t by omega)).2
  refine ⟨hp, ho, ?_⟩
  unfold bsT at hb hp hsd ⊢
  unfold ocT at ho ⊢
  by_cases z : i % 8 < niT G t (i / 8)
  · rw [if_pos z] at hb hp hsd ⊢
    rw [if_pos z] at ho ⊢
    have e1 : 1 ≤ i / 8 := by
      by_cases y : i / 8 = 0
      · rw [y] at hb; exact absurd h.1.1.2.1 hb
      · omega
    obtain ⟨b1, b2, b3, b4, b5⟩ := h.1.2.2 (i / 8) e1 he
    have d8 : (8 * tq t (i / 8) + i % 8) / 8 = tq t (i / 8) := by omega
    refine ⟨by rw [d8]; exact b4, ?_⟩
    unfold inT
    rw [d8, if_neg (by omega), ← b5]; omega
  · rw [if_neg z] at hb hp hsd ⊢
    rw [if_neg z] at ho ⊢
    have d8 : i % 8 / 8 = 0 := by omega
    refine ⟨by rw [d8, Nat.add_sub_cancel]; rw [Nat.add_sub_cancel] at hsd; omega, ?_⟩
    unfold inT
    rw [d8, if_pos rfl]; omega
/-- an occ that can be told is told there -/
theorem tl_told (hq : QG G) (h : TOK2 G t ce me) {k o : Nat} (hk : k < tn t) (ht : (G.i 9 (tp t k)).testBit o = true) : bsT G t (inT ce k o) = k + 1 ∧ ocT G t (inT ce k o) = o := by
  have pk := (h.1.2.1 k hk).1
  have hu := hq.tl_us pk ht
  obtain ⟨s1, s2⟩ := in_us hq h.1 hk hu
  have hsd := hq.sd pk
  have w4 := (hq.2.2.1 _ pk o).2
  rw [w4] at ht
  simp only [Bool.and_eq_true, decide_eq_true_eq] at ht
  obtain ⟨n1, n2⟩ := in_node h.1 hk s1
  unfold bsT ocT
  rw [inT_m]
  have en : niT G t (inT ce k o / 8) = G.i 4 (G.i 7 (4 * tp t k + o / 8)) := by unfold niT; rw [show G.i 7 (4 * tp t (inT ce k o / 8)) = syT G t (inT ce k o / 8) from rfl, n2]
  rw [en]
  by_cases z : o / 8 = 0
  · have t2 := ht.2
    rw [if_pos z] at t2
    simp only [decide_eq_true_eq] at t2
    rw [z, Nat.add_zero, if_neg (by omega), if_neg (by omega), inT_d, if_pos z]
    exact ⟨rfl, by omega⟩
  · have t2 := ht.2
    rw [if_neg z] at t2
    simp only [decide_eq_true_eq] at t2
    have q := (h.1.2.1 k hk).2.2.2.2 (o / 8) (by omega) s1
    rw [if_pos t2, if_pos t2, inT_d, if_neg z, q.2.1, q.2.2.1]
    exact ⟨rfl, by omega⟩
theorem ak_told (hq : QG G) (h : TOK2 G t ce me) {i o : Nat} (hi : thT G t i) (ho : (akT G t i).testBit o = true) : ¬ bsT G t i = 0 ∧ bsT G t i - 1 < tn t ∧ o < 32 ∧ (G.i 8 (tp t (bsT G t i - 1))).testBit o = true ∧ (G.i 9 (tp t (bsT G t i - 1))).testBit (ocT G t i) = true := by
  have hb : ¬ bsT G t i = 0 := fun z => by
    unfold akT at ho
    rw [if_pos z, Nat.zero_testBit] at ho; exact absurd ho (by decide)
  obtain ⟨o1, o2, o3, o4⟩ := oc_own hq h hi hb
  have pk := (h.1.2.1 _ o1).1
  have hsd := hq.sd pk
  unfold akT at ho
  rw [if_neg hb] at ho
  obtain ⟨a1, a2, a3⟩ := hq.ask pk o2 ho
  have lt := hq.us_lt pk a1
  exact ⟨hb, o1, by omega, a1, ((hq.2.2.2.2 _ pk).1 _ o2 a3).1⟩
/-- what an instance hangs on is an instance -/
theorem nr_th (hq : QG G) (h : TOK2 G t ce me) {i j : Nat} (hi : thT G t i) (hn : nrT G t ce i j) : thT G t j := by
  obtain ⟨o, o1, o2, o3⟩ := hn
  obtain ⟨a1, a2, a3, a4, a5⟩ := ak_told hq h hi o2
  rw [← o3]; exact (in_us hq h.1 a2 a4).2
/-- who asks an instance: the rules of its node and those of the node over it -/
theorem nr_by (hq : QG G) (h : TOK2 G t ce me) {i j : Nat} (hj : thT G t j) : (thT G t i ∧ nrT G t ce i j) ↔ ∃ k o, (k = j / 8 ∧ o = j % 8 ∨ ¬ tu t (j / 8) = 0 ∧ k = tu t (j / 8) - 1 ∧ o = 8 * tq t (j / 8) + j % 8) ∧ ∃ q, q < 32 ∧ (G.i 13 (32 * tp t k + o)).testBit q = true ∧ i = inT ce k q := by
  have he := hj.1
  constructor
  · rintro ⟨hi, o, o1, o2, o3⟩
    obtain ⟨a1, a2, a3, a4, a5⟩ := ak_told hq h hi o2
    obtain ⟨b1, b2, b3, b4⟩ := oc_own hq h hi a1
    have pk := (h.1.2.1 _ a2).1
    obtain ⟨s1, s2⟩ := in_us hq h.1 a2 a4
    refine ⟨bsT G t i - 1, o, ?_, ocT G t i, b2, ?_, b4.symm⟩
    · have d := inT_d (ce := ce) (bsT G t i - 1) o
      have m := inT_m (ce := ce) (bsT G t i - 1) o
      rw [o3] at d m
      by_cases z : o / 8 = 0
      · rw [if_pos z] at d
        exact Or.inl ⟨d.symm, by omega⟩
      · rw [if_neg z] at d
        have q := (h.1.2.1 _ a2).2.2.2.2 (o / 8) (by omega) s1
        rw [← d] at q
        exact Or.inr ⟨by rw [q.2.1]; omega, by rw [q.2.1]; omega, by rw [q.2.2.1]; omega⟩
    · rw [(hq.2.2.2.2 _ pk).2.2.2 o (ocT G t i) o1]
      unfold akT at o2
      rw [if_neg a1] at o2
      rw [decide_eq_true b2, Bool.true_and]; exact o2
  · rintro ⟨k, o, hko, q, q1, q2, q3⟩
    have hk : k < tn t ∧ o < 32 ∧ inT ce k o = j ∧ o / 8 < G.i 6 (tp t k) := by
      rcases hko with ⟨k1, k2⟩ | ⟨k0, k1, k2⟩
      · subst k1 k2
        have hsd := hq.sd (h.1.2.1 _ he).1
        refine ⟨he, by omega, ?_, by omega⟩
        unfold inT
        rw [if_pos (by omega)]; omega
      · have e1 : 1 ≤ j / 8 := by
          by_cases y : j / 8 = 0
          · rw [y] at k0; exact absurd h.1.1.2.1 k0
          · omega
        obtain ⟨b1, b2, b3, b4, b5⟩ := h.1.2.2 (j / 8) e1 he
        have hsd := hq.sd (h.1.2.1 (tu t (j / 8) - 1) (by omega)).1
        have d8 : (8 * tq t (j / 8) + j % 8) / 8 = tq t (j / 8) := by omega
        subst k1 k2
        refine ⟨by omega, by omega, ?_, by rw [d8]; exact b4⟩
        unfold inT
        rw [d8, if_neg (by omega), ← b5]; omega
    obtain ⟨k1, k2, k3, k4⟩ := hk
    have pk := (h.1.2.1 _ k1).1
    rw [(hq.2.2.2.2 _ pk).2.2.2 o q k2] at q2
    simp only [Bool.and_eq_true, decide_eq_true_eq] at q2
    obtain ⟨a1, a2, a3⟩ := hq.ask pk q1 q2.2
    have tl := ((hq.2.2.2.2 _ pk).1 _ q1 a3).1
    obtain ⟨t1, t2⟩ := tl_told hq h k1 tl
    rw [← q3] at t1 t2
    refine ⟨by rw [q3]; exact (in_us hq h.1 k1 a2).2, o, k2, ?_, ?_⟩
    · unfold akT
      rw [t1, t2, if_neg (by omega), Nat.add_sub_cancel]; exact q2.2
    · rw [t1, Nat.add_sub_cancel]; exact k3
end tok
