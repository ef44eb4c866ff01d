-- what holds of all rules told
def tdF (G : Gr) (p o : Nat) : Bool := tdB G (32 * p + o)
def RU (G : Gr) (p o : Nat) : Prop :=
  (G.i 9 p).testBit o = true ∧ G.i 14 (32 * p + o) ≤ G.i 15 (32 * p + o) ∧ G.i 15 (32 * p + o) ≤ G.i 0 2 ∧
  hgt (G.i 16) (G.i 14 (32 * p + o)) (G.i 15 (32 * p + o) - G.i 14 (32 * p + o)) 0 = some 1 ∧
  (∀ c, G.i 14 (32 * p + o) ≤ c → c < G.i 15 (32 * p + o) → G.i 16 c < 10000 ∨ G.i 16 c = 20000 ∨ (30000 ≤ G.i 16 c ∧ G.i 16 c < 30008) ∨ G.i 16 c = 40000 ∨ ∃ q, q < 32 ∧ G.i 16 c = 10000 + q ∧ (G.i 12 (32 * p + o)).testBit q = true) ∧
  (∀ q, (G.i 12 (32 * p + o)).testBit q = true → (G.i 8 p).testBit q = true) ∧
  ((G.i 11 p).testBit o = true ↔ ∃ c, G.i 14 (32 * p + o) ≤ c ∧ c < G.i 15 (32 * p + o) ∧ G.i 16 c = 20000)
def GI (G : Gr) : Prop := ∀ p, p < G.i 0 1 →
  (∀ o, o < 32 → tdB G (32 * p + o) = true → RU G p o) ∧
  (∀ o, (o < 32 → tdB G (32 * p + o) = false) → (G.i 11 p).testBit o = false) ∧
  (∀ o, 32 ≤ o → (G.i 10 p).testBit o = false) ∧
  (∀ q o, q < 32 → (G.i 13 (32 * p + q)).testBit o = (decide (o < 32) && (G.i 12 (32 * p + o)).testBit q))
theorem RU.eq {G G' : Gr} {p o : Nat} (h : RU G p o) (hn : G'.i 0 2 = G.i 0 2) (hk : ∀ k j, (k = 8 ∨ k = 9 ∨ k = 11) → j = p → G'.i k j = G.i k j) (hk2 : ∀ k j, 12 ≤ k → G'.i k j = G.i k j) : RU G' p o := by
  obtain ⟨a, b, c, d, e, f, g⟩ := h
  unfold RU
  have h16 : G'.i 16 = G.i 16 := funext fun j => hk2 16 j (by omega)
  rw [hk 9 p (by omega) rfl, hk 8 p (by omega) rfl, hk 11 p (by omega) rfl, hk2 14 _ (by omega), hk2 15 _ (by omega), hk2 12 _ (by omega), h16, hn]
  exact ⟨a, b, c, d, e, f, g⟩
theorem GI.eq {G G' : Gr} (h : GI G) (h1 : G'.i 0 1 = G.i 0 1) (hn : G'.i 0 2 = G.i 0 2) (hk : ∀ k j, 8 ≤ k → G'.i k j = G.i k j) : GI G' := by
  intro p hp
  rw [h1] at hp
  obtain ⟨a, b, c, d⟩ := h p hp
  have ht : ∀ i, tdB G' i = tdB G i := fun i => by unfold tdB; rw [hk _ _ (by omega)]
  refine ⟨fun o ho t => ?_, fun o t => ?_, fun o ho => ?_, fun q o hq => ?_⟩
  · rw [ht] at t
    exact (a o ho t).eq hn (fun k j q _ => hk k j (by omega)) (fun k j q => hk k j (by omega))
  · rw [hk _ _ (by omega)]; exact b o fun ho => by rw [← ht]; exact t ho
  · rw [hk _ _ (by omega)]; exact c o ho
  · rw [hk _ _ (by omega), hk _ _ (by omega)]; exact d q o hq
theorem GI_att {G : Gr} {s w : Nat} {inn : Bool} (h : GI G) : GI (gAtt G s w inn) := h.eq (gAtt_i0 ..) (gAtt_i0 ..) fun k j q => gAtt_ik _ _ _ _ _ _ (by omega) (by omega)
theorem GI_sym {G : Gr} {w : Nat} (h : GI G) : GI (gSym G w) := h.eq (by rw [gSym_i, if_neg (by omega), if_neg (by omega)]) (by rw [gSym_i, if_neg (by omega), if_neg (by omega)]) fun k j q => by rw [gSym_i, if_neg (by omega), if_neg (by omega)]
theorem GI_pro {G : Gr} {w : Nat} (h : GI G) (hs : G.i 0 1 < 12) (hz : ∀ i, 32 * G.i 0 1 ≤ i → i < 384 → G.i 12 i = 0 ∧ G.i 13 i = 0) : GI (gPro G w) := by
  have hk : ∀ k j, (12 ≤ k ∨ (8 ≤ k ∧ ¬ j = G.i 0 1)) → (gPro G w).i k j = G.i k j := fun k j q => by rw [gPro_i, if_neg (by omega), if_neg (by omega)]
  have hz0 : ∀ k, (k = 10 ∨ k = 11) → (gPro G w).i k (G.i 0 1) = 0 := fun k q => by rw [gPro_i, if_neg (by omega), if_pos (by omega)]
  intro p hp
  rw [gPro_i, if_pos ⟨rfl, rfl⟩] at hp
  by_cases e : p = G.i 0 1
  · subst e
    refine ⟨fun o ho t => ?_, fun o t => ?_, fun o ho => ?_, fun q o hq => ?_⟩
    · unfold tdB at t
      rw [show (32 * G.i 0 1 + o) / 32 = G.i 0 1 by omega, hz0 10 (by omega), Nat.zero_testBit] at t
      cases t
    · rw [hz0 11 (by omega)]; exact Nat.zero_testBit _
    · rw [hz0 10 (by omega)]; exact Nat.zero_testBit _
    · rw [hk 13 _ (by omega), hk 12 _ (by omega), (hz _ (by omega) (by omega)).2, Nat.zero_testBit]
      by_cases c : o < 32
      · rw [(hz (32 * G.i 0 1 + o) (by omega) (by omega)).1, Nat.zero_testBit, Bool.and_false]
      · rw [decide_eq_false c, Bool.false_and]
  · obtain ⟨a, b, c, d⟩ := h p (by omega)
    have ht : ∀ o, o < 32 → tdB (gPro G w) (32 * p + o) = tdB G (32 * p + o) := fun o ho => by unfold tdB; rw [hk 10 _ (by omega)]
    refine ⟨fun o ho t => ?_, fun o t => ?_, fun o ho => ?_, fun q o hq => ?_⟩
    · rw [ht o ho] at t
      exact (a o ho t).eq (by rw [gPro_i, if_neg (by omega), if_neg (by omega)]) (fun k j q1 q2 => hk k j (by omega)) (fun k j q => hk k j (by omega))
    · rw [hk 11 _ (by omega)]; exact b o fun ho => by rw [← ht o ho]; exact t ho
    · rw [hk 10 _ (by omega)]; exact c o ho
    · rw [hk 13 _ (by omega), hk 12 _ (by omega)]; exact d q o hq
theorem GI_sid {G : Gr} {p s : Nat} (h : GI G) (ht : G.i 10 p = 0) : GI (gSid G p s) := by
  have hk : ∀ k j, (k < 6 ∨ 10 ≤ k) → (gSid G p s).i k j = G.i k j := fun k j q => gSid_0 _ _ _ _ _ (by omega) (by omega) (by omega) (by omega)
  have h8 : ∀ q, ¬ q = p → (gSid G p s).i 8 q = G.i 8 q := fun q e => by unfold gSid; simp only [sI_i, Nat.reduceEqDiff, true_and, false_and, if_false, e]
  have h9 : ∀ q, ¬ q = p → (gSid G p s).i 9 q = G.i 9 q := fun q e => by unfold gSid; simp only [sI_i, Nat.reduceEqDiff, true_and, false_and, if_false, e]
  intro p' hp
  rw [hk 0 1 (by omega)] at hp
  obtain ⟨a, b, c, d⟩ := h p' hp
  have htd : ∀ i, tdB (gSid G p s) i = tdB G i := fun i => by unfold tdB; rw [hk 10 _ (by omega)]
  refine ⟨fun o ho t => ?_, fun o t => ?_, fun o ho => ?_, fun q o hq => ?_⟩
  · rw [htd] at t
    have e : ¬ p' = p := by
      intro e
      unfold tdB at t
      rw [show (32 * p' + o) / 32 = p' by omega, e, ht, Nat.zero_testBit] at t
      cases t
    refine (a o ho t).eq (hk 0 2 (by omega)) (fun k j q1 q2 => ?_) (fun k j q => hk k j (by omega))
    subst q2
    rcases q1 with q1 | q1 | q1
    · rw [q1]; exact h8 _ e
    · rw [q1]; exact h9 _ e
    · exact hk _ _ (by omega)
  · rw [hk 11 _ (by omega)]; exact b o fun ho => by rw [← htd]; exact t ho
  · rw [hk 10 _ (by omega)]; exact c o ho
  · rw [hk 13 _ (by omega), hk 12 _ (by omega)]; exact d q o hq
theorem gRul_10 (G : Gr) (p o j : Nat) : (gRul G p o).i 10 j = if j = p then G.i 10 p ||| 2 ^ o else G.i 10 j := by
  show (gBeg (sO (sP G p) o) p o).i 10 j = _
  unfold gBeg; simp only [sI_i, Nat.reduceEqDiff, true_and, false_and, if_false]; rfl
theorem gRul_14 (G : Gr) (p o j : Nat) : (gRul G p o).i 14 j = if j = 32 * p + o then G.i 0 2 else G.i 14 j := by
  show (gBeg (sO (sP G p) o) p o).i 14 j = _
  unfold gBeg; simp only [sI_i, Nat.reduceEqDiff, true_and, false_and, if_false]; rfl
theorem gEnd_15 (G : Gr) (p o j : Nat) : (gEnd G p o).i 15 j = if j = 32 * p + o then G.i 0 2 else G.i 15 j := by
  unfold gEnd; simp only [sI_i, true_and]
theorem GI_rule {G Z : Gr} {p o x : Nat} (h : GI G) (hp : p < G.i 0 1) (ho : o < 32) (htl : (G.i 9 p).testBit o = true) (ht : tdB G (32 * p + o) = false) (ha : G.i 12 (32 * p + o) = 0) (hx : x ≤ 20) (X : XE 1 x (gRul G p o) Z) : GI (gEnd Z p o) := by
  obtain ⟨x1, x2, x3, x4, x5, x6, x7, x8, x9, x10, x11, x12, x13⟩ := X
  obtain ⟨s1, s2, s3, s4, s5, s6⟩ := x1
  have ee : eI (gRul G p o) = 32 * p + o := rfl
  rw [ee] at x5 x6 x7 x10 x11
  have ecp : (gRul G p o).cp = p := rfl
  have eco : (gRul G p o).co = o := rfl
  rw [ecp] at x6 x8 x9 x11 x13
  rw [eco] at x8 x9 x11 x12
  have g : ∀ k j, ¬ k = 10 → ¬ k = 14 → (gRul G p o).i k j = G.i k j := fun k j q1 q2 => gRul_i _ _ _ _ _ q1 q2
  rw [g 0 2 (by omega) (by omega)] at x2 x3 x4 x5 x8
  have gZ : ∀ k j, ¬ k = 15 → (gEnd Z p o).i k j = Z.i k j := fun k j q => gEnd_i _ _ _ _ _ q
  have hZ : ∀ k j, ¬ k = 0 → ¬ k = 10 → ¬ k = 11 → ¬ k = 12 → ¬ k = 13 → ¬ k = 14 → ¬ k = 16 → Z.i k j = G.i k j := fun k j q0 q10 q11 q12 q13 q14 q16 => (s1 k j q0 q11 q12 q13 q16).trans (g k j q10 q14)
  have z10 : ∀ j, Z.i 10 j = if j = p then G.i 10 p ||| 2 ^ o else G.i 10 j := fun j => (s1 10 j (by omega) (by omega) (by omega) (by omega) (by omega)).trans (gRul_10 G p o j)
  have z14 : ∀ j, Z.i 14 j = if j = 32 * p + o then G.i 0 2 else G.i 14 j := fun j => (s1 14 j (by omega) (by omega) (by omega) (by omega) (by omega)).trans (gRul_14 G p o j)
  have z12 : ∀ j, ¬ j = 32 * p + o → Z.i 12 j = G.i 12 j := fun j q => (x10 j q).trans (g _ _ (by omega) (by omega))
  have znp : Z.i 0 1 = G.i 0 1 := s3.trans (g _ _ (by omega) (by omega))
  have h0 := h p hp
  have aw0 : (G.i 11 p).testBit o = false := h0.2.1 o fun _ => ht
  have e15 : ∀ j, (gEnd Z p o).i 15 j = if j = 32 * p + o then Z.i 0 2 else G.i 15 j := fun j => by
    rw [gEnd_15]; split
    · rfl
    · exact hZ 15 j (by omega) (by omega) (by omega) (by omega) (by omega) (by omega) (by omega)
  have htd : ∀ p' o', o' < 32 → tdB (gEnd Z p o) (32 * p' + o') = if p' = p ∧ o' = o then true else tdB G (32 * p' + o') := fun p' o' ho' => by
    unfold tdB
    rw [gZ 10 _ (by omega), z10, show (32 * p' + o') / 32 = p' by omega, show (32 * p' + o') % 32 = o' by omega]
    by_cases e1 : p' = p
    · rw [if_pos e1, Nat.testBit_or]
      by_cases e2 : o' = o
      · rw [if_pos ⟨e1, e2⟩, e2, Nat.testBit_two_pow_self, Bool.or_true]
      · rw [if_neg (fun q => e2 q.2), Nat.testBit_two_pow_of_ne (fun q => e2 q.symm), Bool.or_false, e1]
    · rw [if_neg e1, if_neg (fun q => e1 q.1)]
  intro p' hp'
  rw [gZ 0 1 (by omega), znp] at hp'
  obtain ⟨a, b, c, d⟩ := h p' hp'
  refine ⟨fun o' ho' t => ?_, fun o' t => ?_, fun o' ho' => ?_, fun q o' hq => ?_⟩
  · rw [htd p' o' ho'] at t
    by_cases e : p' = p ∧ o' = o
    · obtain ⟨e1, e2⟩ := e
      subst e1; subst e2
      unfold RU
      rw [gZ 9 _ (by omega), hZ 9 _ (by omega) (by omega) (by omega) (by omega) (by omega) (by omega) (by omega), gZ 14 _ (by omega), z14, if_pos rfl, e15, if_pos rfl, gZ 0 2 (by omega), gZ 12 _ (by omega), gZ 8 _ (by omega), hZ 8 _ (by omega) (by omega) (by omega) (by omega) (by omega) (by omega) (by omega), gZ 11 _ (by omega), show (gEnd Z p' o').i 16 = Z.i 16 from funext fun j => gZ 16 j (by omega)]
      refine ⟨htl, x2, Nat.le_refl _, x4 0 (by omega), x5, fun q hq => ?_, ?_⟩
      · rcases x6 q hq with hh | hh
        · rw [g 12 _ (by omega) (by omega), ha, Nat.zero_testBit] at hh; cases hh
        · rw [g 8 _ (by omega) (by omega)] at hh; exact hh
      · rw [x8, g 11 _ (by omega) (by omega), aw0]
        exact ⟨fun hh => hh.resolve_left (by decide), fun hh => Or.inr hh⟩
    · rw [if_neg e] at t
      obtain ⟨r1, r2, r3, r4, r5, r6, r7⟩ := a o' ho' t
      have ne : ¬ 32 * p' + o' = 32 * p + o := by omega
      have lo : ∀ c, c < G.i 0 2 → Z.i 16 c = G.i 16 c := fun c hc => (x3 c hc).trans (g _ _ (by omega) (by omega))
      unfold RU
      rw [gZ 9 _ (by omega), hZ 9 _ (by omega) (by omega) (by omega) (by omega) (by omega) (by omega) (by omega), gZ 14 _ (by omega), z14, if_neg ne, e15, if_neg ne, gZ 0 2 (by omega), gZ 12 _ (by omega), z12 _ ne, gZ 8 _ (by omega), hZ 8 _ (by omega) (by omega) (by omega) (by omega) (by omega) (by omega) (by omega), gZ 11 _ (by omega), x9 p' o' e, g 11 _ (by omega) (by omega), show (gEnd Z p o).i 16 = Z.i 16 from funext fun j => gZ 16 j (by omega)]
      refine ⟨r1, r2, by omega, ?_, fun c c1 c2 => ?_, r6, ?_⟩
      · rw [hgt_congr (g := G.i 16) _ _ _ fun j j1 j2 => lo j (by omega)]; exact r4
      · rw [lo c (by omega)]; exact r5 c c1 c2
      · rw [r7]
        exact ⟨fun ⟨c, c1, c2, c3⟩ => ⟨c, c1, c2, by rw [lo c (by omega)]; exact c3⟩, fun ⟨c, c1, c2, c3⟩ => ⟨c, c1, c2, by rw [← lo c (by omega)]; exact c3⟩⟩
  · rw [gZ 11 _ (by omega)]
    have e : ¬ (p' = p ∧ o' = o) := by
      rintro ⟨e1, e2⟩
      have := t (by omega)
      rw [htd p' o' (by omega), if_pos ⟨e1, e2⟩] at this
      cases this
    rw [x9 p' o' e, g 11 _ (by omega) (by omega)]
    refine b o' fun ho' => ?_
    have := t ho'
    rw [htd p' o' ho', if_neg e] at this
    exact this
  · rw [gZ 10 _ (by omega), z10]
    split
    · rename_i e; rw [Nat.testBit_or, Nat.testBit_two_pow_of_ne (by omega), Bool.or_false, ← e]; exact c o' ho'
    · exact c o' ho'
  · rw [gZ 13 _ (by omega), gZ 12 _ (by omega)]
    by_cases e1 : p' = p
    · subst e1
      by_cases e2 : o' = o
      · subst e2
        rw [x11 (fun q hq => ?_) q hq, decide_eq_true ho, Bool.true_and]
        rw [g 13 _ (by omega) (by omega), g 12 _ (by omega) (by omega), d q o' hq, decide_eq_true ho, Bool.true_and]
      · rw [x12 _ _ e2, g 13 _ (by omega) (by omega), d q o' hq]
        by_cases c32 : o' < 32
        · rw [z12 _ (by omega)]
        · rw [decide_eq_false c32, Bool.false_and, Bool.false_and]
    · rw [x13 _ (by omega), g 13 _ (by omega) (by omega), d q o' hq]
      by_cases c32 : o' < 32
      · rw [z12 _ (by omega)]
      · rw [decide_eq_false c32, Bool.false_and, Bool.false_and]
