-- groups of a graph, by one search: what holds on the way
section tar
variable (V : Nat → Prop) (ak : Nat → Nat) (sc : Nat → Nat → Nat)
def zR (u w : Nat) : Prop := ∃ o, (ak u).testBit o = true ∧ sc u o = w
/-- time, marks, lows, open, path with what is left to look at, groups (one more; 0 none) -/
def ZI (τ : Nat) (mk lw : Nat → Nat) (oN : Nat) (O : Nat → Nat) (pN : Nat) (P Q : Nat → Nat) (gN : Nat) (gr : Nat → Nat) : Prop :=
  (∀ v, mk v ≤ τ ∧ (¬ mk v = 0 → V v) ∧ (¬ gr v = 0 → ¬ mk v = 0 ∧ gr v ≤ gN)) ∧
  ((∀ a, a < oN → ¬ mk (O a) = 0 ∧ gr (O a) = 0) ∧ ∀ a b, a < b → b < oN → mk (O a) < mk (O b)) ∧
  (∀ v, ¬ mk v = 0 → gr v = 0 → ∃ a, a < oN ∧ O a = v) ∧
  (∀ s, s < pN → (¬ mk (P s) = 0 ∧ gr (P s) = 0) ∧ (∀ o, (Q s).testBit o = true → (ak (P s)).testBit o = true) ∧ (s + 1 < pN → mk (P s) < mk (P (s + 1)) ∧ zR ak sc (P s) (P (s + 1)))) ∧
  (∀ v, ¬ gr v = 0 → ∀ w, zR ak sc v w → ¬ gr w = 0 ∧ gr w ≤ gr v) ∧
  (∀ v, ¬ mk v = 0 → gr v = 0 → lw v ≤ mk v ∧ ∃ w, (¬ mk w = 0 ∧ gr w = 0) ∧ mk w = lw v ∧ RTc (zR ak sc) v w) ∧
  (∀ v, ¬ mk v = 0 → gr v = 0 → ∀ o, (ak v).testBit o = true → (∀ s, s < pN → P s = v → (Q s).testBit o = false) → ¬ mk (sc v o) = 0 ∧ (gr (sc v o) = 0 → lw v ≤ mk (sc v o))) ∧
  (∀ v, ¬ mk v = 0 → gr v = 0 → ∃ s, s < pN ∧ mk (P s) ≤ mk v ∧ RTc (zR ak sc) (P s) v ∧ lw (P s) ≤ lw v ∧ ∀ s', s < s' → s' < pN → mk v < mk (P s')) ∧
  (∀ v, ¬ mk v = 0 → gr v = 0 → (∀ s, s < pN → ¬ P s = v) → lw v < mk v) ∧
  ∀ v w, ¬ gr v = 0 → gr v = gr w → RTc (zR ak sc) v w
variable {V ak sc}
variable {τ oN pN gN : Nat} {mk lw O P Q gr : Nat → Nat}
theorem ZI.pm (h : ZI V ak sc τ mk lw oN O pN P Q gN gr) : ∀ (d s : Nat), s + d < pN → mk (P s) + d ≤ mk (P (s + d))
  | 0, s, _ => Nat.le_refl _
  | d + 1, s, hs => by
    have a := h.pm d s (by omega)
    have b := ((h.2.2.2.1 (s + d) (by omega)).2.2 (by omega)).1
    rw [show s + (d + 1) = s + d + 1 by omega]; omega
/-- what stands open with one mark is one -/
theorem ZI.inj (h : ZI V ak sc τ mk lw oN O pN P Q gN gr) {v w : Nat} (hv : ¬ mk v = 0) (gv : gr v = 0) (hw : ¬ mk w = 0) (gw : gr w = 0) (e : mk v = mk w) : v = w := by
  obtain ⟨a, a1, a2⟩ := h.2.2.1 v hv gv
  obtain ⟨b, b1, b2⟩ := h.2.2.1 w hw gw
  by_cases z : a = b
  · rw [← a2, ← b2, z]
  · exfalso
    by_cases y : a < b
    · have := h.2.1.2 a b y b1
      rw [a2, b2] at this; omega
    · have := h.2.1.2 b a (by omega) a1
      rw [a2, b2] at this; omega
/-- the path's places are different -/
theorem ZI.pinj (h : ZI V ak sc τ mk lw oN O pN P Q gN gr) {s s' : Nat} (hs : s < pN) (hs' : s' < pN) (e : P s = P s') : s = s' := by
  by_cases z : s < s'
  · have := h.pm (s' - s) s (by omega)
    rw [show s + (s' - s) = s' by omega, e] at this; omega
  · by_cases y : s' < s
    · have := h.pm (s - s') s' (by omega)
      rw [show s' + (s - s') = s by omega, e] at this; omega
    · omega
theorem st1_t {f : Nat → Nat} {n v e : Nat} : st1 f n v e = if e = n then v else f e := rfl
/-- a vertex comes: the first, or behind the top of the path, whose bit o is looked at -/
theorem z_enter (h : ZI V ak sc τ mk lw oN O pN P Q gN gr) {v : Nat} (hV : V v) (hv : mk v = 0) (q : Nat) (hp : pN = 0 ∨ ∃ o, (ak (P (pN - 1))).testBit o = true ∧ sc (P (pN - 1)) o = v ∧ ∀ o', q.testBit o' = ((Q (pN - 1)).testBit o' && !decide (o' = o))) :
    ZI V ak sc (τ + 1) (st1 mk v (τ + 1)) (st1 lw v (τ + 1)) (oN + 1) (st1 O oN v) (pN + 1) (st1 P pN v) (st1 (st1 Q (pN - 1) q) pN (ak v)) gN gr := by
  have h' := h
  obtain ⟨h1, ⟨h2, h2'⟩, h3, h4, h5, h6, h7, h8, h9, h10⟩ := h
  have gv : gr v = 0 := by
    by_cases z : gr v = 0
    · exact z
    · exact absurd hv ((h1 v).2.2 z).1
  have mo : ∀ {w : Nat}, ¬ mk w = 0 → st1 mk v (τ + 1) w = mk w := fun {w} hw => st1_n (fun z => hw (by rw [z]; exact hv))
  have lo : ∀ {w : Nat}, ¬ mk w = 0 → st1 lw v (τ + 1) w = lw w := fun {w} hw => st1_n (fun z => hw (by rw [z]; exact hv))
  have old : ∀ {w : Nat}, ¬ st1 mk v (τ + 1) w = 0 → w = v ∨ ¬ mk w = 0 := fun {w} hw => by
    by_cases z : w = v
    · exact Or.inl z
    · rw [st1_n z] at hw; exact Or.inr hw
  have po : ∀ {s : Nat}, s < pN → st1 P pN v s = P s := fun {s} hs => st1_n (by omega)
  have qo : ∀ {s : Nat}, s < pN → ∀ o, (st1 (st1 Q (pN - 1) q) pN (ak v) s).testBit o = true → (Q s).testBit o = true := fun {s} hs o ho => by
    rw [st1_n (by omega), st1_t] at ho
    by_cases z : s = pN - 1
    · rw [if_pos z] at ho
      rcases hp with hp | ⟨o1, _, _, b3⟩
      · omega
      · rw [b3 o, Bool.and_eq_true] at ho; rw [z]; exact ho.1
    · rw [if_neg z] at ho; exact ho
  refine ⟨fun w => ⟨?_, fun hw => ?_, fun hw => ?_⟩, ⟨fun a ha => ?_, fun a b hab hb => ?_⟩, fun w hw gw => ?_, fun s hs => ⟨?_, fun o ho => ?_, fun hs1 => ?_⟩, h5, fun w hw gw => ?_, fun w hw gw o ho hl => ?_, fun w hw gw => ?_, fun w hw gw hn => ?_, h10⟩
  · rw [st1_t]; split
    · omega
    · have := (h1 w).1; omega
  · rcases old hw with z | z
    · rw [z]; exact hV
    · exact (h1 w).2.1 z
  · obtain ⟨a, b⟩ := (h1 w).2.2 hw
    exact ⟨by rw [mo a]; exact a, b⟩
  · by_cases z : a = oN
    · rw [z, st1_s, st1_s]; exact ⟨by omega, gv⟩
    · obtain ⟨b1, b2⟩ := h2 a (by omega)
      rw [st1_n z, mo b1]; exact ⟨b1, b2⟩
  · have ha := (h2 a (by omega)).1
    rw [st1_n (show ¬ a = oN by omega), mo ha]
    by_cases z : b = oN
    · rw [z, st1_s, st1_s]; have := (h1 (O a)).1; omega
    · have hb' := (h2 b (by omega)).1
      rw [st1_n z, mo hb']; exact h2' a b hab (by omega)
  · rcases old hw with z | z
    · exact ⟨oN, by omega, by rw [st1_s, z]⟩
    · obtain ⟨a, a1, a2⟩ := h3 w z gw
      exact ⟨a, by omega, by rw [st1_n (by omega)]; exact a2⟩
  · by_cases z : s = pN
    · rw [z, st1_s, st1_s]; exact ⟨by omega, gv⟩
    · obtain ⟨b1, b2⟩ := (h4 s (by omega)).1
      rw [po (by omega), mo b1]; exact ⟨b1, b2⟩
  · by_cases z : s = pN
    · rw [z, st1_s] at ho; rw [z, st1_s]; exact ho
    · rw [po (by omega)]; exact (h4 s (by omega)).2.1 o (qo (by omega) o ho)
  · have hs' : s < pN := by omega
    have hb := ((h4 s hs').1).1
    rw [po hs', mo hb]
    by_cases z : s + 1 = pN
    · rw [z, st1_s, st1_s]
      refine ⟨by have := (h1 (P s)).1; omega, ?_⟩
      rcases hp with hp | ⟨o1, b1, b2, b3⟩
      · omega
      · rw [show pN - 1 = s by omega] at b1 b2; exact ⟨o1, b1, b2⟩
    · have hb2 := ((h4 (s + 1) (by omega)).1).1
      rw [po (by omega), mo hb2]; exact (h4 s hs').2.2 (by omega)
  · rcases old hw with z | z
    · subst z
      rw [st1_s, st1_s]
      exact ⟨Nat.le_refl _, w, ⟨by rw [st1_s]; omega, gw⟩, by rw [st1_s], RTc.refl⟩
    · obtain ⟨a1, x, ⟨x1, x2⟩, x3, x4⟩ := h6 w z gw
      rw [lo z, mo z]
      exact ⟨a1, x, ⟨by rw [mo x1]; exact x1, x2⟩, by rw [mo x1]; exact x3, x4⟩
  · rcases old hw with z | z
    · subst z
      have := hl pN (by omega) (st1_s _ _ _)
      rw [st1_s, ho] at this; exact absurd this (by decide)
    · rw [lo z]
      by_cases top : ∃ o1, (ak (P (pN - 1))).testBit o1 = true ∧ sc (P (pN - 1)) o1 = v ∧ w = P (pN - 1) ∧ o = o1 ∧ ¬ pN = 0
      · obtain ⟨o1, b1, b2, b3, b4, b5⟩ := top
        subst b4
        rw [b3, b2, st1_s, ← b3]
        refine ⟨by omega, fun _ => ?_⟩
        have := (h6 w z gw).1
        have := (h1 w).1
        omega
      · obtain ⟨a1, a2⟩ := h7 w z gw o ho (fun s hs e => by
          have := hl s (by omega) (by rw [po hs]; exact e)
          rw [st1_n (show ¬ s = pN by omega), st1_t] at this
          by_cases y : s = pN - 1
          · rw [if_pos y] at this
            rcases hp with hp | ⟨o1, b1, b2, b3⟩
            · omega
            · rw [b3 o] at this
              by_cases u : o = o1
              · exact absurd ⟨o1, b1, b2, by rw [← e, y], u, by omega⟩ top
              · rw [decide_eq_false u, Bool.not_false, Bool.and_true] at this
                rw [y]; exact this
          · rw [if_neg y] at this; exact this)
        rw [mo a1]; exact ⟨a1, a2⟩
  · rcases old hw with z | z
    · subst z
      exact ⟨pN, by omega, by rw [st1_s]; exact Nat.le_refl _, by rw [st1_s]; exact RTc.refl, by rw [st1_s]; exact Nat.le_refl _, fun s' a b => by omega⟩
    · obtain ⟨s, s1, s2, s3, s4, s5⟩ := h8 w z gw
      have hb := ((h4 s s1).1).1
      refine ⟨s, by omega, by rw [po s1, mo hb, mo z]; exact s2, by rw [po s1]; exact s3, by rw [po s1, lo hb, lo z]; exact s4, fun s' a b => ?_⟩
      rw [mo z]
      by_cases y : s' = pN
      · rw [y, st1_s, st1_s]; have := (h1 w).1; omega
      · have hb2 := ((h4 s' (by omega)).1).1
        rw [po (by omega), mo hb2]; exact s5 s' a (by omega)
  · rcases old hw with z | z
    · exact absurd (by rw [st1_s, z]) (hn pN (by omega))
    · rw [lo z, mo z]
      exact h9 w z gw fun s hs e => hn s (by omega) (by rw [po hs]; exact e)
/-- the last place whose mark isn't behind -/
theorem ZI.last (h : ZI V ak sc τ mk lw oN O pN P Q gN gr) {v : Nat} (hp : 0 < pN) (hv : ¬ mk v = 0) (gv : gr v = 0) (hm : mk (P (pN - 1)) ≤ mk v) : RTc (zR ak sc) (P (pN - 1)) v ∧ lw (P (pN - 1)) ≤ lw v := by
  obtain ⟨s, s1, s2, s3, s4, s5⟩ := h.2.2.2.2.2.2.2.1 v hv gv
  by_cases z : s = pN - 1
  · rw [← z]; exact ⟨s3, s4⟩
  · have := s5 (pN - 1) (by omega) (by omega); omega
/-- a bit of the top is looked at: it leads to one that came -/
theorem z_see (h : ZI V ak sc τ mk lw oN O pN P Q gN gr) (hp : 0 < pN) {o q : Nat} (ho : (ak (P (pN - 1))).testBit o = true) (hq : ∀ o', q.testBit o' = ((Q (pN - 1)).testBit o' && !decide (o' = o))) (hv : ¬ mk (sc (P (pN - 1)) o) = 0) :
    ZI V ak sc τ mk (if gr (sc (P (pN - 1)) o) = 0 then st1 lw (P (pN - 1)) (mn (mk (sc (P (pN - 1)) o)) (lw (P (pN - 1)))) else lw) oN O pN P (st1 Q (pN - 1) q) gN gr := by
  have h' := h
  obtain ⟨h1, ⟨h2, h2'⟩, h3, h4, h5, h6, h7, h8, h9, h10⟩ := h
  obtain ⟨t1, t2⟩ := (h4 (pN - 1) (by omega)).1
  generalize hl : (if gr (sc (P (pN - 1)) o) = 0 then st1 lw (P (pN - 1)) (mn (mk (sc (P (pN - 1)) o)) (lw (P (pN - 1)))) else lw) = l'
  have lo : ∀ {w : Nat}, ¬ w = P (pN - 1) → l' w = lw w := fun {w} hw => by
    rw [← hl]; split
    · exact st1_n hw
    · rfl
  have le : ∀ w, l' w ≤ lw w := fun w => by
    by_cases z : w = P (pN - 1)
    · rw [← hl]; split
      · rw [z, st1_s]; unfold mn; split <;> omega
      · exact Nat.le_refl _
    · rw [lo z]; exact Nat.le_refl _
  have top : l' (P (pN - 1)) = lw (P (pN - 1)) ∨ (gr (sc (P (pN - 1)) o) = 0 ∧ l' (P (pN - 1)) = mk (sc (P (pN - 1)) o)) := by
    rw [← hl]
    by_cases z : gr (sc (P (pN - 1)) o) = 0
    · rw [if_pos z, st1_s]; unfold mn; split
      · exact Or.inr ⟨z, rfl⟩
      · exact Or.inl rfl
    · rw [if_neg z]; exact Or.inl rfl
  have tle : gr (sc (P (pN - 1)) o) = 0 → l' (P (pN - 1)) ≤ mk (sc (P (pN - 1)) o) := fun z => by
    rw [← hl, if_pos z, st1_s]; unfold mn; split <;> omega
  have qo : ∀ {s : Nat} (o' : Nat), (st1 Q (pN - 1) q s).testBit o' = true → (Q s).testBit o' = true := fun {s} o' hh => by
    rw [st1_t] at hh
    by_cases z : s = pN - 1
    · rw [if_pos z, hq o', Bool.and_eq_true] at hh; rw [z]; exact hh.1
    · rw [if_neg z] at hh; exact hh
  refine ⟨h1, ⟨h2, h2'⟩, h3, fun s hs => ⟨(h4 s hs).1, fun o' hh => (h4 s hs).2.1 o' (qo o' hh), (h4 s hs).2.2⟩, h5, fun w hw gw => ?_, fun w hw gw o' ho' hl' => ?_, fun w hw gw => ?_, fun w hw gw hn => ?_, h10⟩
  · obtain ⟨a1, x, x1, x2, x3⟩ := h6 w hw gw
    refine ⟨Nat.le_trans (le w) a1, ?_⟩
    by_cases z : w = P (pN - 1)
    · rcases top with y | ⟨y1, y2⟩
      · exact ⟨x, x1, by rw [z, y, ← z]; exact x2, x3⟩
      · exact ⟨sc (P (pN - 1)) o, ⟨hv, y1⟩, by rw [z]; exact y2.symm, by rw [z]; exact RTc.one ⟨o, ho, rfl⟩⟩
    · exact ⟨x, x1, by rw [lo z]; exact x2, x3⟩
  · by_cases z : w = P (pN - 1) ∧ o' = o
    · rw [z.1, z.2]; exact ⟨hv, tle⟩
    · obtain ⟨a1, a2⟩ := h7 w hw gw o' ho' (fun s hs e => by
        have := hl' s hs e
        rw [st1_t] at this
        by_cases y : s = pN - 1
        · rw [if_pos y, hq o'] at this
          rw [decide_eq_false (fun u => z ⟨by rw [← e, y], u⟩), Bool.not_false, Bool.and_true] at this
          rw [y]; exact this
        · rw [if_neg y] at this; exact this)
      exact ⟨a1, fun g => Nat.le_trans (le w) (a2 g)⟩
  · by_cases z : w = P (pN - 1)
    · subst z
      exact ⟨pN - 1, by omega, Nat.le_refl _, RTc.refl, Nat.le_refl _, fun s' a b => by omega⟩
    · obtain ⟨s, s1, s2, s3, s4, s5⟩ := h8 w hw gw
      exact ⟨s, s1, s2, s3, by rw [lo z]; exact Nat.le_trans (le _) s4, s5⟩
  · exact Nat.lt_of_le_of_lt (le w) (h9 w hw gw hn)
/-- the low of the top's parent when the top leaves -/
def zL (lw P : Nat → Nat) (pN : Nat) : Nat → Nat := if pN = 1 then lw else st1 lw (P (pN - 2)) (mn (lw (P (pN - 1))) (lw (P (pN - 2))))
/-- the top leaves, its group still open -/
theorem z_leave (h : ZI V ak sc τ mk lw oN O pN P Q gN gr) (hp : 0 < pN) (hQ : Q (pN - 1) = 0) (hl : ¬ lw (P (pN - 1)) = mk (P (pN - 1))) : ZI V ak sc τ mk (zL lw P pN) oN O (pN - 1) P Q gN gr ∧ ¬ pN = 1 := by
  have h' := h
  obtain ⟨h1, ⟨h2, h2'⟩, h3, h4, h5, h6, h7, h8, h9, h10⟩ := h
  obtain ⟨t1, t2⟩ := (h4 (pN - 1) (by omega)).1
  obtain ⟨tl, tw, ⟨tw1, tw1'⟩, tw2, tw3⟩ := h6 _ t1 t2
  have p2 : ¬ pN = 1 := fun z => by
    obtain ⟨s, s1, s2, _⟩ := h8 tw tw1 tw1'
    rw [show s = pN - 1 by omega] at s2
    omega
  have par := (h4 (pN - 2) (by omega)).2.2 (by omega)
  rw [show pN - 2 + 1 = pN - 1 by omega] at par
  obtain ⟨u1, u2⟩ := (h4 (pN - 2) (by omega)).1
  generalize hz : zL lw P pN = l'
  have lz : l' = st1 lw (P (pN - 2)) (mn (lw (P (pN - 1))) (lw (P (pN - 2)))) := by rw [← hz]; exact if_neg p2
  have lo : ∀ {w : Nat}, ¬ w = P (pN - 2) → l' w = lw w := fun {w} hw => by rw [lz]; exact st1_n hw
  have le : ∀ w, l' w ≤ lw w := fun w => by
    by_cases z : w = P (pN - 2)
    · rw [lz, z, st1_s]; unfold mn; split <;> omega
    · rw [lo z]; exact Nat.le_refl _
  have lt : l' (P (pN - 2)) ≤ lw (P (pN - 1)) := by rw [lz, st1_s]; unfold mn; split <;> omega
  have ne : ¬ P (pN - 1) = P (pN - 2) := fun e => by have := h'.pinj (show pN - 1 < pN by omega) (show pN - 2 < pN by omega) e; omega
  refine ⟨⟨h1, ⟨h2, h2'⟩, h3, fun s hs => ⟨(h4 s (by omega)).1, (h4 s (by omega)).2.1, fun z => (h4 s (by omega)).2.2 (by omega)⟩, h5, fun w hw gw => ?_, fun w hw gw o ho hl' => ?_, fun w hw gw => ?_, fun w hw gw hn => ?_, h10⟩, p2⟩
  · obtain ⟨a1, x, x1, x2, x3⟩ := h6 w hw gw
    refine ⟨Nat.le_trans (le w) a1, ?_⟩
    by_cases z : w = P (pN - 2)
    · by_cases y : lw (P (pN - 1)) < lw (P (pN - 2))
      · refine ⟨tw, ⟨tw1, tw1'⟩, ?_, by rw [z]; exact (RTc.one par.2).trans tw3⟩
        rw [z, lz, st1_s, tw2]; unfold mn; rw [if_pos y]
      · refine ⟨x, x1, ?_, x3⟩
        rw [x2, z, lz, st1_s]; unfold mn; rw [if_neg y]
    · exact ⟨x, x1, by rw [lo z]; exact x2, x3⟩
  · obtain ⟨a1, a2⟩ := h7 w hw gw o ho (fun s hs e => by
      by_cases y : s = pN - 1
      · rw [y, hQ]; exact Nat.zero_testBit o
      · exact hl' s (by omega) e)
    exact ⟨a1, fun g => Nat.le_trans (le w) (a2 g)⟩
  · by_cases z : w = P (pN - 2)
    · subst z
      exact ⟨pN - 2, by omega, Nat.le_refl _, RTc.refl, Nat.le_refl _, fun s' a b => by omega⟩
    · obtain ⟨s, s1, s2, s3, s4, s5⟩ := h8 w hw gw
      rw [lo z]
      by_cases y : s = pN - 1
      · subst y
        exact ⟨pN - 2, by omega, by omega, (RTc.one par.2).trans s3, Nat.le_trans lt s4, fun s' a b => by omega⟩
      · exact ⟨s, by omega, s2, s3, Nat.le_trans (le _) s4, fun s' a b => s5 s' a (by omega)⟩
  · by_cases z : w = P (pN - 1)
    · subst z
      rw [lo ne]; omega
    · exact Nat.lt_of_le_of_lt (le w) (h9 w hw gw fun s hs e => by
        by_cases y : s = pN - 1
        · exact z (by rw [← e, y])
        · exact hn s (by omega) e)
/-- the top leaves with its group: all that stands open from it on -/
theorem z_bind (h : ZI V ak sc τ mk lw oN O pN P Q gN gr) (hp : 0 < pN) (hQ : Q (pN - 1) = 0) (hl : lw (P (pN - 1)) = mk (P (pN - 1))) {a : Nat} (ha : a < oN) (hO : O a = P (pN - 1)) {gr' : Nat → Nat} (hg : ∀ v, (∃ b, a ≤ b ∧ b < oN ∧ O b = v) → gr' v = gN + 1) (hg2 : ∀ v, ¬ (∃ b, a ≤ b ∧ b < oN ∧ O b = v) → gr' v = gr v) : ZI V ak sc τ mk (zL lw P pN) a O (pN - 1) P Q (gN + 1) gr' := by
  have h' := h
  obtain ⟨h1, ⟨h2, h2'⟩, h3, h4, h5, h6, h7, h8, h9, h10⟩ := h
  obtain ⟨t1, t2⟩ := (h4 (pN - 1) (by omega)).1
  have ez : zL lw P pN = lw := by
    unfold zL
    split
    · rfl
    · rename_i p2
      obtain ⟨u1, u2⟩ := (h4 (pN - 2) (by omega)).1
      have par := (h4 (pN - 2) (by omega)).2.2 (by omega)
      rw [show pN - 2 + 1 = pN - 1 by omega] at par
      have := (h6 _ u1 u2).1
      have e : mn (lw (P (pN - 1))) (lw (P (pN - 2))) = lw (P (pN - 2)) := by unfold mn; rw [if_neg (by omega)]
      rw [e]
      refine funext fun w => ?_
      rw [st1_t]; split
      · rename_i c; rw [c]
      · rfl
  rw [ez]
  have mem : ∀ v, (∃ b, a ≤ b ∧ b < oN ∧ O b = v) ↔ (¬ mk v = 0 ∧ gr v = 0 ∧ mk (P (pN - 1)) ≤ mk v) := fun v => by
    constructor
    · rintro ⟨b, b1, b2, b3⟩
      obtain ⟨c1, c2⟩ := h2 b b2
      rw [b3] at c1 c2
      refine ⟨c1, c2, ?_⟩
      by_cases z : a = b
      · rw [← b3, ← z, hO]; exact Nat.le_refl _
      · have := h2' a b (by omega) b2
        rw [hO, b3] at this; omega
    · rintro ⟨c1, c2, c3⟩
      obtain ⟨b, b1, b2⟩ := h3 v c1 c2
      refine ⟨b, ?_, b1, b2⟩
      by_cases z : b < a
      · have := h2' b a z ha
        rw [hO, b2] at this; omega
      · omega
  have gin : ∀ {v : Nat}, ¬ mk v = 0 → gr v = 0 → mk (P (pN - 1)) ≤ mk v → gr' v = gN + 1 := fun {v} c1 c2 c3 => hg v ((mem v).2 ⟨c1, c2, c3⟩)
  have gout : ∀ {v : Nat}, ¬ (¬ mk v = 0 ∧ gr v = 0 ∧ mk (P (pN - 1)) ≤ mk v) → gr' v = gr v := fun {v} c => hg2 v (fun z => c ((mem v).1 z))
  have gcl : ∀ {v : Nat}, ¬ gr v = 0 → gr' v = gr v := fun {v} c => gout fun z => c z.2.1
  have opn : ∀ {v : Nat}, ¬ mk v = 0 → gr' v = 0 → gr v = 0 ∧ mk v < mk (P (pN - 1)) := fun {v} c1 c2 => by
    by_cases z : gr v = 0
    · by_cases y : mk (P (pN - 1)) ≤ mk v
      · rw [gin c1 z y] at c2; omega
      · exact ⟨z, by omega⟩
    · rw [gcl z] at c2; exact absurd c2 z
  have low : ∀ {v : Nat}, ¬ mk v = 0 → gr v = 0 → mk (P (pN - 1)) ≤ mk v → RTc (zR ak sc) (P (pN - 1)) v ∧ mk (P (pN - 1)) ≤ lw v := fun {v} c1 c2 c3 => by
    obtain ⟨d1, d2⟩ := h'.last hp c1 c2 c3
    exact ⟨d1, by omega⟩
  have back : ∀ (n v : Nat), mk v ≤ n → ¬ mk v = 0 → gr v = 0 → mk (P (pN - 1)) ≤ mk v → RTc (zR ak sc) v (P (pN - 1)) := fun n => by
    induction n with
    | zero => intro v c0 c1 _ _; omega
    | succ n ih =>
      intro v c0 c1 c2 c3
      by_cases z : v = P (pN - 1)
      · rw [z]; exact RTc.refl
      · have lt := h9 v c1 c2 fun s hs e => by
          have hm := h'.pm (pN - 1 - s) s (by omega)
          rw [show s + (pN - 1 - s) = pN - 1 by omega, e] at hm
          exact z (h'.inj c1 c2 t1 t2 (by omega))
        obtain ⟨_, x, ⟨x1, x1'⟩, x2, x3⟩ := h6 v c1 c2
        have := (low c1 c2 c3).2
        exact x3.trans (ih x (by omega) x1 x1' (by omega))
  refine ⟨fun v => ⟨(h1 v).1, (h1 v).2.1, fun z => ?_⟩, ⟨fun b hb => ?_, fun b c hbc hc => h2' b c hbc (by omega)⟩, fun v c1 c2 => ?_, fun s hs => ⟨?_, (h4 s (by omega)).2.1, fun z => (h4 s (by omega)).2.2 (by omega)⟩, fun v c w hw => ?_, fun v c1 c2 => ?_, fun v c1 c2 o ho hl' => ?_, fun v c1 c2 => ?_, fun v c1 c2 hn => ?_, fun v w c e => ?_⟩
  · by_cases y : (¬ mk v = 0 ∧ gr v = 0 ∧ mk (P (pN - 1)) ≤ mk v)
    · rw [gin y.1 y.2.1 y.2.2]; exact ⟨y.1, Nat.le_refl _⟩
    · rw [gout y] at z ⊢
      obtain ⟨d1, d2⟩ := (h1 v).2.2 z
      exact ⟨d1, by omega⟩
  · obtain ⟨d1, d2⟩ := h2 b (by omega)
    have := h2' b a hb ha
    rw [hO] at this
    exact ⟨d1, by rw [gout (fun z => by omega)]; exact d2⟩
  · obtain ⟨d1, d2⟩ := opn c1 c2
    obtain ⟨b, b1, b2⟩ := h3 v c1 d1
    refine ⟨b, ?_, b2⟩
    by_cases z : b < a
    · exact z
    · have : mk (P (pN - 1)) ≤ mk v := ((mem v).1 ⟨b, by omega, b1, b2⟩).2.2
      omega
  · obtain ⟨d1, d2⟩ := (h4 s (by omega)).1
    have hm := h'.pm (pN - 1 - s) s (by omega)
    rw [show s + (pN - 1 - s) = pN - 1 by omega] at hm
    exact ⟨d1, by rw [gout (fun z => by omega)]; exact d2⟩
  · by_cases y : (¬ mk v = 0 ∧ gr v = 0 ∧ mk (P (pN - 1)) ≤ mk v)
    · rw [gin y.1 y.2.1 y.2.2]
      obtain ⟨o, o1, o2⟩ := hw
      obtain ⟨d1, d2⟩ := h7 v y.1 y.2.1 o o1 (fun s hs e => by
        by_cases u : s = pN - 1
        · rw [u, hQ]; exact Nat.zero_testBit o
        · have hm := h'.pm (pN - 1 - s) s (by omega)
          rw [show s + (pN - 1 - s) = pN - 1 by omega, e] at hm
          omega)
      rw [o2] at d1 d2
      by_cases u : gr w = 0
      · have := (low y.1 y.2.1 y.2.2).2
        have := d2 u
        rw [gin d1 u (by omega)]; exact ⟨by omega, Nat.le_refl _⟩
      · rw [gcl u]; exact ⟨u, by have := ((h1 w).2.2 u).2; omega⟩
    · rw [gout y] at c ⊢
      obtain ⟨d1, d2⟩ := h5 v c w hw
      rw [gcl d1]; exact ⟨d1, d2⟩
  · obtain ⟨d1, d2⟩ := opn c1 c2
    obtain ⟨e1, x, ⟨x1, x1'⟩, x2, x3⟩ := h6 v c1 d1
    exact ⟨e1, x, ⟨x1, by rw [gout (fun z => by omega)]; exact x1'⟩, x2, x3⟩
  · obtain ⟨d1, d2⟩ := opn c1 c2
    obtain ⟨e1, e2⟩ := h7 v c1 d1 o ho (fun s hs e => by
      by_cases u : s = pN - 1
      · rw [u] at e; rw [← e] at d2; omega
      · exact hl' s (by omega) e)
    refine ⟨e1, fun g => e2 ?_⟩
    by_cases z : gr (sc v o) = 0
    · exact z
    · rw [gcl z] at g; exact g
  · obtain ⟨d1, d2⟩ := opn c1 c2
    obtain ⟨s, s1, s2, s3, s4, s5⟩ := h8 v c1 d1
    refine ⟨s, ?_, s2, s3, s4, fun s' u1 u2 => s5 s' u1 (by omega)⟩
    by_cases z : s = pN - 1
    · rw [z] at s2; omega
    · omega
  · obtain ⟨d1, d2⟩ := opn c1 c2
    refine h9 v c1 d1 fun s hs e => ?_
    by_cases u : s = pN - 1
    · rw [u] at e; rw [← e] at d2; omega
    · exact hn s (by omega) e
  · by_cases y : (¬ mk v = 0 ∧ gr v = 0 ∧ mk (P (pN - 1)) ≤ mk v)
    · rw [gin y.1 y.2.1 y.2.2] at e
      have yw : (¬ mk w = 0 ∧ gr w = 0 ∧ mk (P (pN - 1)) ≤ mk w) := by
        by_cases z : (¬ mk w = 0 ∧ gr w = 0 ∧ mk (P (pN - 1)) ≤ mk w)
        · exact z
        · rw [gout z] at e
          have := ((h1 w).2.2 (by omega)).2; omega
      exact (back _ v (Nat.le_refl _) y.1 y.2.1 y.2.2).trans (low yw.1 yw.2.1 yw.2.2).1
    · rw [gout y] at c e
      have yw : ¬ (¬ mk w = 0 ∧ gr w = 0 ∧ mk (P (pN - 1)) ≤ mk w) := fun z => by
        rw [gin z.1 z.2.1 z.2.2] at e
        have := ((h1 v).2.2 c).2; omega
      rw [gout yw] at e
      exact h10 v w c e
end tar
