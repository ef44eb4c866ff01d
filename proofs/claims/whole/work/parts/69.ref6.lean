-- the reference's next token
def kR (k : Nat) : Nat := if k = 0 then 0 else if k = 1 then 2 else if k = 2 then 3 else if k = 3 then 4 else 1
/-- cells of the reference's own token alone change -/
def UT (M M' : Mm) : Prop := M'.2.2 = M.2.2 ∧ (∀ a, ¬ a = 137 → M'.1 a = M.1 a ∧ M'.2.1 a = M.2.1 a) ∧ (∀ j, ¬ (11 ≤ j ∧ j ≤ 15) → M'.1 137 j = M.1 137 j) ∧ ∀ j, ¬ j = 18 → M'.2.1 137 j = M.2.1 137 j
theorem UT.refl {M : Mm} : UT M M := ⟨rfl, fun _ _ => ⟨rfl, rfl⟩, fun _ _ => rfl, fun _ _ => rfl⟩
theorem UT.trans {M M' M'' : Mm} (h : UT M M') (h' : UT M' M'') : UT M M'' := ⟨h'.1.trans h.1, fun a ha => ⟨(h'.2.1 a ha).1.trans (h.2.1 a ha).1, (h'.2.1 a ha).2.trans (h.2.1 a ha).2⟩, fun j hj => (h'.2.2.1 j hj).trans (h.2.2.1 j hj), fun j hj => (h'.2.2.2 j hj).trans (h.2.2.2 j hj)⟩
theorem UT.I {f : Nat} {v : Int32} {M : Mm} (hf : 11 ≤ f ∧ f ≤ 15) : UT M (upI M 137 f v) := ⟨by rw [up2], fun a ha => ⟨by rw [up1, if_neg ha], by rw [up2]⟩, fun j hj => by rw [up1, if_pos rfl, upd_a, if_neg (fun e => hj (by subst e; exact hf))], fun j _ => by rw [up2]⟩
theorem UT.J {v : Int64} {M : Mm} : UT M (upJ M 137 18 v) := ⟨by rw [upJ3], fun a ha => ⟨by rw [upJ1], by rw [upJ2, if_neg ha]⟩, fun j _ => by rw [upJ1], fun j hj => by rw [upJ2, if_pos rfl, updL_a, if_neg hj]⟩
theorem UT.u1 {M M' : Mm} (h : U1 12 M M') : UT M M' := ⟨by rw [h.1], fun a ha => ⟨h.2.1 a ha, by rw [h.1]⟩, fun j hj => h.2.2 j (by omega), fun j _ => by rw [h.1]⟩
theorem UT.u2 {M M' : Mm} (h : U2 12 14 M M') : UT M M' := ⟨by rw [h.1], fun a ha => ⟨h.2.1 a ha, by rw [h.1]⟩, fun j hj => h.2.2 j (by omega) (by omega), fun j _ => by rw [h.1]⟩
theorem UT.u3 {M M' : Mm} (h : U3 M M') : UT M M' := ⟨h.1, h.2.1, fun j hj => h.2.2.1 j (by omega), h.2.2.2⟩
theorem HR.UT {B : Nat → Nat} {n : Nat} {M M' : Mm} (h : HR B n M) (u : UT M M') : HR B n M' := ⟨(u.2.2.1 10 (by omega)).trans h.1, h.2.1, fun i hi => by rw [(u.2.1 138 (by decide)).1]; exact h.2.2 i hi⟩
/-- the token that the reference has before it -/
def RX (x : Tok) (M : Mm) : Prop := M.1 137 13 = nI (kR x.1) ∧ M.1 137 11 = nI x.2.1 ∧ M.1 137 12 = nI x.2.2.1 ∧ (x.1 = 1 → M.2.1 137 18 = lN (conv 8 x.2.2.2)) ∧ (x.1 = 2 → M.1 137 14 = nI x.2.2.2) ∧ (x.1 = 3 → M.1 137 15 = nI x.2.2.2)
theorem toks_blanks (B : Nat → Nat) (n : Nat) : ∀ d i, n - i = d → toks B n i = toks B n (rE isBl B n i) := by
  intro d
  induction d with
  | zero => intro i hd; rw [rE_stop (by omega)]
  | succ d ih =>
    intro i hd
    by_cases h : i < n ∧ isBl (B i) = true
    · rw [rE_step h.1 h.2, toks_bl h.1 h.2]; exact ih (i + 1) (by omega)
    · rw [rE_stop h]
theorem r_go0 {B : Nat → Nat} {n i : Nat} {M : Mm} (N : Nat) (hN : 2000 < N) (hB : HR B n M) (hi : i ≤ n) (h12 : M.1 137 12 = nI i) : ∃ M', D_X12_go N 137 M = some M' ∧ RX (tk (toks B n i) 0) M' ∧ UT M M' := by
  have hn := hB.2.1
  unfold D_X12_go
  generalize hk : (fun (M3 : Mm) => ((pI M3 137 11 (M3.1 137 12)).bind fun M4 => (D_X12_byteAt N 137 (M4.1 137 12) M4).bind fun q3 => _)) = kE
  obtain ⟨M3, a, b, c⟩ := r_blank N kE N i M hi (by omega) h12 hB
  rw [a, ← hk, toks_blanks B n (n - i) i rfl]
  have hj : rE isBl B n i ≤ n := rE_le hi
  have hend := rE_end (P := isBl) (B := B) hi
  have u3 := UT.u1 b
  revert hj hend c
  generalize rE isBl B n i = j
  intro c hj hend
  have B3 := hB.UT u3
  have u4 : UT M3 (upI M3 137 11 (nI j)) := UT.I (by omega)
  have B4 := B3.UT u4
  simp only [c, pI_n, Option.bind_some]
  have c4 : (upI M3 137 11 (nI j)).1 137 12 = nI j := by rw [up1, if_pos rfl, upd_a, if_neg (by decide)]; exact c
  have d4 : (upI M3 137 11 (nI j)).1 137 11 = nI j := upI_s _ _ _ _
  revert c4 d4 B4 u4
  generalize upI M3 137 11 (nI j) = M4
  intro u4 B4 c4 d4
  have U := u3.trans u4
  rw [c4, r_byteAt N B4 (by omega), Option.bind_some]
  by_cases h : j < n
  · have hb := (B4.2.2 j h).2
    have hnb : ¬ isBl (B j) = true := fun q => hend ⟨h, q⟩
    rw [toks_tok h hnb, show tk (tokAt B n j :: toks B n (tokAt B n j).2.2.1) 0 = tokAt B n j from rfl]
    have e1 : ¬ bC B n j = m1 := by unfold bC; rw [if_pos h]; exact n_ne_m1 (by omega)
    rw [if_neg e1, r_isLe N B4, Option.bind_some, decide_eq_true h, Bool.true_and]
    cases l : isLe (B j)
    · rw [bI_f, if_pos rfl, r_isDi N B4, Option.bind_some, decide_eq_true h, Bool.true_and]
      cases d : isDi (B j)
      · rw [bI_f, if_pos rfl, show bC B n j = nI (B j) from if_pos h, nI_add]
        rw [r_sign N (B j) _ hb]
        have et : tokAt B n j = (if isSg (B j) = true then 3 else 4, j, j + 1, B j) := by unfold tokAt; rw [if_neg (by rw [l]; decide), if_neg (by rw [d]; decide)]
        rw [et]
        cases s : isSg (B j)
        · refine ⟨_, rfl, ⟨?_, ?_, ?_, ?_, ?_, ?_⟩, ?_⟩
          · simp [up1, up2, upJ1, upJ2, upJ3, upN1, upN2, upN3, upd_a, updL_a, mR1, kR]
          · simp [up1, up2, upJ1, upJ2, upJ3, upN1, upN2, upN3, upd_a, updL_a, mR1, d4]
          · simp [up1, up2, upJ1, upJ2, upJ3, upN1, upN2, upN3, upd_a, updL_a, mR1]
          · intro q; simp at q
          · intro q; simp at q
          · intro q; simp at q
          · exact ((U.trans (UT.I (by omega))).trans (UT.I (by omega))).trans (UT.I (by omega))
        · refine ⟨_, rfl, ⟨?_, ?_, ?_, ?_, ?_, ?_⟩, ?_⟩
          · simp [up1, up2, upJ1, upJ2, upJ3, upN1, upN2, upN3, upd_a, updL_a, mR1, kR]
          · simp [up1, up2, upJ1, upJ2, upJ3, upN1, upN2, upN3, upd_a, updL_a, mR1, d4]
          · simp [up1, up2, upJ1, upJ2, upJ3, upN1, upN2, upN3, upd_a, updL_a, mR1]
          · intro q; simp at q
          · intro q; simp at q
          · intro q; simp [up1, up2, upJ1, upJ2, upJ3, upN1, upN2, upN3, upd_a, updL_a, mR1]
          · exact ((U.trans (UT.I (by omega))).trans (UT.I (by omega))).trans (UT.I (by omega))
      · rw [bI_t, if_neg z10]
        obtain ⟨M5, p1, p2, p3, p4⟩ := r_number (B := B) (n := n) N j (fun (M14 : Mm) => ((if ((M14.1 137 12) - (M14.1 137 11)) ≤ (nI 4) then (some (nI 3)) else (some (nI 1))).bind fun p268 => some (upI M14 137 13 p268))) N j (upI M4 137 14 (nI 0)) (Nat.le_refl _) (by omega) (by omega) (by simp [up1, up2, upJ1, upJ2, upJ3, upN1, upN2, upN3, upd_a, updL_a, mR1, d4]) (by simp [up1, up2, upJ1, upJ2, upJ3, upN1, upN2, upN3, upd_a, updL_a, mR1, c4]) (by rw [Nat.sub_self]; exact upI_s _ _ _ _) (B4.UT (UT.I (by omega)))
        rw [p1, p3]
        have U5 := (U.trans (UT.I (f := 14) (v := nI 0) (by omega))).trans (UT.u2 p2)
        have e11 : M5.1 137 11 = nI j := by rw [p2.2.2 11 (by decide) (by decide)]; simp [up1, up2, upJ1, upJ2, upJ3, upN1, upN2, upN3, upd_a, updL_a, mR1, d4]
        have hle : rE isDi B n j ≤ n := rE_le hj
        have hge : j ≤ rE isDi B n j := rE_ge
        have et : tokAt B n j = (if rE isDi B n j - j ≤ 4 then 2 else 4, j, rE isDi B n j, spell 10 48 B j (rE isDi B n j - j)) := by unfold tokAt; rw [if_neg (by rw [l]; decide), if_pos d]
        rw [et, e11, n_sub hge]
        have e4 : (nI (rE isDi B n j - j) ≤ nI 4) = (rE isDi B n j - j ≤ 4) := n_le (by omega) (by omega)
        simp only [e4]
        by_cases g : rE isDi B n j - j ≤ 4
        · rw [if_pos g]
          refine ⟨_, rfl, ⟨?_, ?_, ?_, ?_, ?_, ?_⟩, U5.trans (UT.I (by omega))⟩
          · simp [up1, up2, upJ1, upJ2, upJ3, upN1, upN2, upN3, upd_a, updL_a, mR1, kR, g]
          · simp [up1, up2, upJ1, upJ2, upJ3, upN1, upN2, upN3, upd_a, updL_a, mR1, e11]
          · simp [up1, up2, upJ1, upJ2, upJ3, upN1, upN2, upN3, upd_a, updL_a, mR1, p3]
          · intro q; simp [g] at q
          · intro q
            simp only [up1, up2, upJ1, upJ2, upJ3, upN1, upN2, upN3, upd_a, updL_a, mR1, if_true, Nat.reduceEqDiff, if_false]
            rw [p4]
            unfold mn
            by_cases g2 : rE isDi B n j - j < 4
            · rw [if_pos g2]
            · rw [if_neg g2, show rE isDi B n j - j = 4 by omega]
          · intro q; simp [g] at q
        · rw [if_neg g]
          refine ⟨_, rfl, ⟨?_, ?_, ?_, ?_, ?_, ?_⟩, U5.trans (UT.I (by omega))⟩
          · simp [up1, up2, upJ1, upJ2, upJ3, upN1, upN2, upN3, upd_a, updL_a, mR1, kR, g]
          · simp [up1, up2, upJ1, upJ2, upJ3, upN1, upN2, upN3, upd_a, updL_a, mR1, e11]
          · simp [up1, up2, upJ1, upJ2, upJ3, upN1, upN2, upN3, upd_a, updL_a, mR1, p3]
          · intro q; simp [g] at q
          · intro q; simp [g] at q
          · intro q; simp [g] at q
    · rw [bI_t, if_neg z10]
      obtain ⟨M5, p1, p2, p3, p4⟩ := r_word (B := B) (n := n) N j (fun (M21 : Mm) => ((if ((M21.1 137 12) - (M21.1 137 11)) ≤ (nI 8) then (some (nI 2)) else (some (nI 1))).bind fun p168 => some (upI M21 137 13 p168))) N j (upJ M4 137 18 (lN 0)) (Nat.le_refl _) (by omega) (by omega) d4 c4 (by rw [Nat.sub_self]; exact upJ_s _ _ _ _) (B4.UT UT.J)
      rw [pJ_n, Option.bind_some, p1, p3]
      have U5 := (U.trans (UT.J (v := lN 0))).trans (UT.u3 p2)
      have e11 : M5.1 137 11 = nI j := by rw [p2.2.2.1 11 (by decide)]; exact d4
      have hle : rE isLe B n j ≤ n := rE_le hj
      have hge : j ≤ rE isLe B n j := rE_ge
      have et : tokAt B n j = (if rE isLe B n j - j ≤ 8 then 1 else 4, j, rE isLe B n j, spell 32 96 B j (rE isLe B n j - j)) := by unfold tokAt; rw [if_pos l]
      rw [et, e11, n_sub hge]
      have e4 : (nI (rE isLe B n j - j) ≤ nI 8) = (rE isLe B n j - j ≤ 8) := n_le (by omega) (by omega)
      simp only [e4]
      by_cases g : rE isLe B n j - j ≤ 8
      · rw [if_pos g]
        refine ⟨_, rfl, ⟨?_, ?_, ?_, ?_, ?_, ?_⟩, U5.trans (UT.I (by omega))⟩
        · simp [up1, up2, upJ1, upJ2, upJ3, upN1, upN2, upN3, upd_a, updL_a, mR1, kR, g]
        · simp [up1, up2, upJ1, upJ2, upJ3, upN1, upN2, upN3, upd_a, updL_a, mR1, e11]
        · simp [up1, up2, upJ1, upJ2, upJ3, upN1, upN2, upN3, upd_a, updL_a, mR1, p3]
        · intro q
          show (upI M5 137 13 (nI 2)).2.1 137 18 = _
          rw [up2, p4, conv_spell 8 _ g (fun k hk => rE_all (by omega) (show j + k < rE isLe B n j by omega))]
          unfold mn
          by_cases g2 : rE isLe B n j - j < 8
          · rw [if_pos g2]
          · rw [if_neg g2, show rE isLe B n j - j = 8 by omega]
        · intro q; simp [g] at q
        · intro q; simp [g] at q
      · rw [if_neg g]
        refine ⟨_, rfl, ⟨?_, ?_, ?_, ?_, ?_, ?_⟩, U5.trans (UT.I (by omega))⟩
        · simp [up1, up2, upJ1, upJ2, upJ3, upN1, upN2, upN3, upd_a, updL_a, mR1, kR, g]
        · simp [up1, up2, upJ1, upJ2, upJ3, upN1, upN2, upN3, upd_a, updL_a, mR1, e11]
        · simp [up1, up2, upJ1, upJ2, upJ3, upN1, upN2, upN3, upd_a, updL_a, mR1, p3]
        · intro q; simp [g] at q
        · intro q; simp [g] at q
        · intro q; simp [g] at q
  · have ej : j = n := by omega
    rw [toks_end (by omega), show tk [(0, n, n, 0)] 0 = (0, n, n, 0) from rfl, show bC B n j = m1 from if_neg h, if_pos rfl]
    refine ⟨_, rfl, ⟨?_, ?_, ?_, ?_, ?_, ?_⟩, U.trans (UT.I (by omega))⟩
    · simp [up1, up2, upJ1, upJ2, upJ3, upN1, upN2, upN3, upd_a, updL_a, mR1, kR]
    · simp [up1, up2, upJ1, upJ2, upJ3, upN1, upN2, upN3, upd_a, updL_a, mR1, d4, ej]
    · simp [up1, up2, upJ1, upJ2, upJ3, upN1, upN2, upN3, upd_a, updL_a, mR1, c4, ej]
    · intro q; simp at q
    · intro q; simp at q
    · intro q; simp at q
