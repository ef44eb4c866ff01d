-- the reference plans
theorem r_isProd {G : Gr} {p : Nat} {M : Mm} (N : Nat) (K : QT G M) (h9 : M.1 137 9 = nI 1) (hp : p < G.i 0 1) : D_X12_isProduction N 137 (nI p) M = some (nI 1) := by
  have hnp := K.g.np
  unfold D_X12_isProduction
  simp only [jn]
  rw [h9, if_neg z10, show (137 : Nat) + 2 = 139 from rfl, ldI_n (by omega) (by omega), K.1.1.2.1, Option.bind_some, n_sub (by omega), r_isFrom N M (by omega) (by omega) (by omega), Option.bind_some, decide_eq_true (by omega), bI_t, if_neg z10, okZ_1]
theorem r_isOcc {G : Gr} {p o : Nat} {M : Mm} (N : Nat) (K : QT G M) (h9 : M.1 137 9 = nI 1) (hp : p < G.i 0 1) (ho : o < 32) : D_X12_isOcc N 137 (nI p) (nI o) M = some (bI ((G.i 8 p).testBit o)) := by
  have hnp := K.g.np
  have hsd := K.g.sd hp
  have hns := K.g.ns
  unfold D_X12_isOcc
  simp only [jn]
  rw [r_isProd N K h9 hp, Option.bind_some, if_neg z10, if_neg (by rw [n_lt (by omega) (by omega)]; omega), dv_n (by omega) (by omega) (by omega), Option.bind_some, show (137 : Nat) + 2 = 139 from rfl, r_isPosition N len139 K.1 K.g.1 hp hsd.1 (by omega), Option.bind_some, K.g.us hp]
  simp only [bI_0]
  by_cases c : o / 8 < G.i 6 p
  · have hs := K.g.sy hp c
    have h4 := K.g.at' hs
    rw [decide_eq_true c, if_neg (by decide), rm_n (by omega) (by omega) (by omega), Option.bind_some, Option.bind_some, K.sym N hp c, Option.bind_some, K.att N hs, Option.bind_some]
    have e : (nI (G.i 4 (G.i 7 (4 * p + o / 8)) + G.i 5 (G.i 7 (4 * p + o / 8))) ≤ nI (o % 8)) = (G.i 4 (G.i 7 (4 * p + o / 8)) + G.i 5 (G.i 7 (4 * p + o / 8)) ≤ o % 8) := n_le (by omega) (by omega)
    simp only [e]
    by_cases d : G.i 4 (G.i 7 (4 * p + o / 8)) + G.i 5 (G.i 7 (4 * p + o / 8)) ≤ o % 8
    · rw [if_pos d, okZ_0, decide_eq_false (by omega)]; rfl
    · rw [if_neg d, okZ_1, decide_eq_true (by omega)]; rfl
  · rw [decide_eq_false c, if_pos rfl, okZ_0]; rfl
def fD (G : Gr) (A : Nat → Nat) (s v a : Nat) : Bool := decide (vW G A s a = v)
def fO (G : Gr) (A : Nat → Nat) (s v a : Nat) : Bool := decide (G.i 4 s ≤ a) && decide (vW G A s a = v)
theorem durI_w {G : Gr} {A : Nat → Nat} {s v : Nat} : wid (fD G A s v) (G.i 4 s) = durI G A s v := by
  apply Nat.eq_of_testBit_eq
  intro i
  rw [Bool.eq_iff_iff, durI_b, wid_b, Bool.and_eq_true, decide_eq_true_iff]
  unfold fD
  rw [decide_eq_true_iff]
theorem durO_w {G : Gr} {A : Nat → Nat} {s v : Nat} : wid (fO G A s v) (att G s) = durO G A s v := by
  apply Nat.eq_of_testBit_eq
  intro i
  rw [Bool.eq_iff_iff, durO_b, wid_b, Bool.and_eq_true, decide_eq_true_iff]
  unfold fO
  rw [Bool.and_eq_true, decide_eq_true_iff, decide_eq_true_iff]
  exact ⟨fun q => ⟨⟨q.2.1, q.1⟩, q.2.2⟩, fun q => ⟨q.1.2, q.1.1, q.2⟩⟩
theorem fO_0 {G : Gr} {A : Nat → Nat} {s v : Nat} : wid (fO G A s v) (G.i 4 s) = 0 := by
  apply Nat.eq_of_testBit_eq
  intro i
  rw [wid_b, Nat.zero_testBit]
  unfold fO
  by_cases c : i < G.i 4 s
  · rw [decide_eq_false (show ¬ G.i 4 s ≤ i by omega), Bool.false_and, Bool.and_false]
  · rw [decide_eq_false c, Bool.false_and]
theorem wid_mul {f : Nat → Bool} {i k : Nat} : wid f (i + 1) * 2 ^ k = if f i = true then wid f i * 2 ^ k ||| 2 ^ (k + i) else wid f i * 2 ^ k := by
  rw [wid]
  by_cases c : f i = true
  · rw [if_pos c, if_pos c, mul_or, ← Nat.pow_add, Nat.add_comm i k]
  · rw [if_neg c, if_neg c]
theorem r_insOf {G : Gr} {A : Nat → Nat} {s k v : Nat} {M : Mm} (N : Nat) (hN : 2000 < N) (hI : Ind G A) (K : RI' G A M) (hV : RV' G A (G.i 0 0) M) (hs : s < G.i 0 0) (hn : slf G A s = false) (hk : k < 4) (hv : v < 2 ^ 31) : D_X12_insOf N 137 (nI k) (nI s) (nI v) M = some (nI (durI G A s v * 2 ^ (8 * k))) := by
  have hq := K.1.g
  have h4 := hq.at' hs
  have hns := hq.ns
  have hm := (hV s hs hn).2
  have hw : ∀ b, b < att G s → vW G A s b ≤ 5 := fun b hb => Nat.le_trans (vW_bd (hI.ac hq hs hn) h4 hb).2 (vV_bd (hI.ac hq hs hn) h4).2
  have key : ∀ (fu i : Nat), i ≤ G.i 4 s → 9 < i + fu → L_X12_insOf_6 137 (nI s) M (nI v) (nI k) fu (nI (wid (fD G A s v) i * 2 ^ (8 * k))) (nI i) = some (nI (durI G A s v * 2 ^ (8 * k))) := by
    intro fu
    induction fu with
    | zero => intro i h1 h2; omega
    | succ fu ih =>
      intro i h1 h2
      rw [L_X12_insOf_6, show (137 : Nat) + 2 = 139 from rfl, show (137 : Nat) + 12 = 149 from rfl, nI_add, ldI_n (by omega) (by omega), (K.1.1.2.1 s hs).1, Option.bind_some]
      simp (disch := omega) only [n_le]
      by_cases e : G.i 4 s ≤ i
      · have ei : i = G.i 4 s := by omega
        subst ei
        rw [if_pos e, durI_w]
      · have hwi := hw i (by unfold att; omega)
        rw [if_neg e, pk_mul, nI_add, ldI_n (by omega) (by omega), hm i (by unfold att; omega), Option.bind_some]
        simp only [Option.bind_some, nI_add, pk_mul, n_shl 1 (show 8 * k + i < 32 by omega), Nat.one_mul, n_or, Nat.or_zero, n_eq (show vW G A s i < 2 ^ 31 by omega) hv]
        have r := ih (i + 1) (by omega) (by omega)
        rw [wid_mul] at r
        by_cases c : vW G A s i = v
        · rw [if_pos c]
          rw [if_pos (show fD G A s v i = true from decide_eq_true c)] at r; exact r
        · rw [if_neg c]
          rw [if_neg (show ¬ fD G A s v i = true from fun q => c (of_decide_eq_true q))] at r; exact r
  unfold D_X12_insOf
  have := key N 0 (Nat.zero_le _) (by omega)
  rw [wid, Nat.zero_mul] at this
  exact this
theorem r_outsOf {G : Gr} {A : Nat → Nat} {s k v : Nat} {M : Mm} (N : Nat) (hN : 2000 < N) (hI : Ind G A) (K : RI' G A M) (hV : RV' G A (G.i 0 0) M) (hs : s < G.i 0 0) (hn : slf G A s = false) (hk : k < 4) (hv : v < 2 ^ 31) : D_X12_outsOf N 137 (nI k) (nI s) (nI v) M = some (nI (durO G A s v * 2 ^ (8 * k))) := by
  have hq := K.1.g
  have h4 := hq.at' hs
  have h8 := hq.att8 hs
  have hns := hq.ns
  have hm := (hV s hs hn).2
  have hw : ∀ b, b < att G s → vW G A s b ≤ 5 := fun b hb => Nat.le_trans (vW_bd (hI.ac hq hs hn) h4 hb).2 (vV_bd (hI.ac hq hs hn) h4).2
  have key : ∀ (fu i : Nat), G.i 4 s ≤ i → i ≤ att G s → 9 < i + fu → L_X12_outsOf_13 N 137 (nI s) M (nI v) (nI k) fu (nI (wid (fO G A s v) i * 2 ^ (8 * k))) (nI i) = some (nI (durO G A s v * 2 ^ (8 * k))) := by
    intro fu
    induction fu with
    | zero => intro i h0 h1 h2; omega
    | succ fu ih =>
      intro i h0 h1 h2
      rw [L_X12_outsOf_13, K.1.att N hs, Option.bind_some]
      have ea : (nI (G.i 4 s + G.i 5 s) ≤ nI i) = (att G s ≤ i) := n_le (by omega) (by omega)
      simp only [ea]
      by_cases e : att G s ≤ i
      · have ei : i = att G s := by omega
        subst ei
        rw [if_pos e, durO_w]
      · have hwi := hw i (by omega)
        rw [if_neg e, show (137 : Nat) + 12 = 149 from rfl, pk_mul, nI_add, ldI_n (by omega) (by omega), hm i (by omega), Option.bind_some]
        simp only [Option.bind_some, nI_add, pk_mul, n_shl 1 (show 8 * k + i < 32 by omega), Nat.one_mul, n_or, Nat.or_zero, n_eq (show vW G A s i < 2 ^ 31 by omega) hv]
        have r := ih (i + 1) (by omega) (by omega) (by omega)
        rw [wid_mul] at r
        by_cases c : vW G A s i = v
        · rw [if_pos c]
          rw [if_pos (show fO G A s v i = true by unfold fO; rw [decide_eq_true h0, decide_eq_true c]; rfl)] at r; exact r
        · rw [if_neg c]
          rw [if_neg (show ¬ fO G A s v i = true by unfold fO; rw [decide_eq_false c, Bool.and_false]; decide)] at r; exact r
  unfold D_X12_outsOf
  have := key N (G.i 4 s) (Nat.le_refl _) (by unfold att; omega) (by omega)
  rw [fO_0, Nat.zero_mul] at this
  rw [show (137 : Nat) + 2 = 139 from rfl, nI_add, ldI_n (by omega) (by omega), (K.1.1.2.1 s hs).1, Option.bind_some]
  exact this
theorem r_nextRule {G : Gr} {A : Nat → Nat} {p k : Nat} {M : Mm} (N : Nat) (hN : 2000 < N) (h : OrdP G A p) (K : RI' G A M) (h9 : M.1 137 9 = nI 1) (hk : k < 2 ^ 32) : D_X12_nextRule N 137 (nI p) (nI k) M = some (fR (nrI G p k) 32) := by
  have hq := K.1.g
  have hp := h.2.2.1
  have key : ∀ (fu o : Nat), o ≤ 32 → 33 < o + fu → (∀ j, j < o → ((G.i 9 p).testBit j && !k.testBit j && decide (andn (G.i 12 (32 * p + j)) k = 0)) = false) → L_X12_nextRule_2 N 137 (nI p) M (nI k) fu (nI o) = some (fR (nrI G p k) 32) := by
    intro fu
    induction fu with
    | zero => intro o h1 h2; omega
    | succ fu ih =>
      intro o h1 h2 hj
      rw [L_X12_nextRule_2]
      simp (disch := omega) only [n_le]
      by_cases e : 32 ≤ o
      · have eo : o = 32 := by omega
        subst eo
        have : nrI G p k = 32 := fb_eq (Nat.le_refl _) hj (Or.inl rfl)
        rw [if_pos e, this]; rfl
      · have next : ((G.i 9 p).testBit o && !k.testBit o && decide (andn (G.i 12 (32 * p + o)) k = 0)) = false → L_X12_nextRule_2 N 137 (nI p) M (nI k) fu (nI (o + 1)) = some (fR (nrI G p k) 32) := fun c =>
          ih (o + 1) (by omega) (by omega) fun j hj2 => by
            by_cases z : j = o
            · rw [z]; exact c
            · exact hj j (by omega)
        rw [if_neg e, r_isOcc N K.1 h9 hp (by omega), Option.bind_some]
        simp only [bI_0, Option.bind_some, nI_add]
        cases u : (G.i 8 p).testBit o
        · rw [if_pos rfl]
          refine next ?_
          cases t : (G.i 9 p).testBit o
          · rfl
          · rw [hq.tl_us hp t] at u; cases u
        · rw [if_neg (by decide), show (137 : Nat) + 2 = 139 from rfl, r_canTell N len139 K.1.1 hq.1 hq.2.2.1 hp (by omega) u, Option.bind_some]
          simp only [bI_0]
          cases t : (G.i 9 p).testBit o
          · rw [if_pos rfl]; exact next (by rw [t]; rfl)
          · rw [if_neg (by decide), r_has N M hk (by omega), Option.bind_some]
            simp only [bI_0]
            cases x : k.testBit o
            · rw [if_pos rfl, K.1.asks N hp (by omega), Option.bind_some, n_andn (h.ak32 (by omega))]
              simp only [andn_0 (h.ak32 (show o < 32 by omega))]
              by_cases c : andn (G.i 12 (32 * p + o)) k = 0
              · have : nrI G p k = o := fb_eq (by omega) hj (Or.inr (by rw [t, x, decide_eq_true c]; rfl))
                rw [if_pos c, this, fR, if_pos (by omega)]
              · rw [if_neg c]; exact next (by rw [decide_eq_false c, Bool.and_false])
            · rw [if_neg (by decide)]; exact next (by rw [x]; simp)
  unfold D_X12_nextRule
  exact key N 0 (by omega) (by omega) fun j hj => by omega
/-- a plan on the way, as the reference has it -/
def RRo (G : Gr) (p : Nat) (S : PSt) (M : Mm) : Prop := M.1 137 33 = nI S.2.2.2.length ∧ LSt M 151 0 S.2.2.2 ∧ ∀ k, 1 ≤ k → k < G.i 6 p → M.1 152 k = nI (S.2.2.1 k)
theorem r_nextChild {G : Gr} {A : Nat → Nat} {p : Nat} {S : PSt} {M : Mm} (N : Nat) (hN : 2000 < N) (h : OrdP G A p) (I : PI2 G A p S) (K : RI' G A M) (hV : RV' G A (G.i 0 0) M) (hd : ∀ k, 1 ≤ k → k < G.i 6 p → M.1 152 k = nI (S.2.2.1 k)) : D_X12_nextChild N 137 (nI p) (nI S.1) M = some (if ncI G A p S.1 S.2.2.1 < G.i 6 p - 1 then nI (ncI G A p S.1 S.2.2.1 + 1) else m1) := by
  have hq := K.1.g
  have hp := h.2.2.1
  have hnp := hq.np
  have hsd := hq.sd hp
  have hns := hq.ns
  have key : ∀ (fu k : Nat), k + 1 ≤ G.i 6 p → 5 < k + fu → (∀ j, j < k → chO G A p S.1 S.2.2.1 (j + 1) = false) → L_X12_nextChild_2 137 (nI p) M N (nI S.1) fu (nI (k + 1)) = some (if ncI G A p S.1 S.2.2.1 < G.i 6 p - 1 then nI (ncI G A p S.1 S.2.2.1 + 1) else m1) := by
    intro fu
    induction fu with
    | zero => intro k h1 h2; omega
    | succ fu ih =>
      intro k h1 h2 hj
      rw [L_X12_nextChild_2, show (137 : Nat) + 2 = 139 from rfl, show (137 : Nat) + 15 = 152 from rfl, show (137 : Nat) + 13 = 150 from rfl, nI_add, ldI_n (by omega) (by omega), K.1.kid hp, Option.bind_some]
      simp (disch := omega) only [n_lt]
      by_cases e : G.i 6 p - 1 < k + 1
      · have ek : k = G.i 6 p - 1 := by omega
        have : ncI G A p S.1 S.2.2.1 = G.i 6 p - 1 := fb_eq (Nat.le_refl _) (fun j q => hj j (by omega)) (Or.inl rfl)
        rw [if_pos e, if_neg (by omega)]
      · have hk : k + 1 < G.i 6 p := by omega
        have hs := hq.sy hp hk
        have h4 := hq.at' hs
        have h8 := hq.att8 hs
        have hn := h.2.2.2.1 (k + 1) hk
        have hVb := (vV_bd (h.2.1.ac hq hs hn) h4).2
        have hdb := I.1.2.2.2.2 (k + 1) (by omega) hk
        have next : chO G A p S.1 S.2.2.1 (k + 1) = false → L_X12_nextChild_2 137 (nI p) M N (nI S.1) fu (nI (k + 1 + 1)) = some (if ncI G A p S.1 S.2.2.1 < G.i 6 p - 1 then nI (ncI G A p S.1 S.2.2.1 + 1) else m1) := fun c =>
          ih (k + 1) (by omega) (by omega) fun j hj2 => by
            by_cases z : j = k
            · rw [z]; exact c
            · exact hj j (by omega)
        rw [if_neg e, K.1.sym N hp hk, Option.bind_some, ldI_n (show k + 1 < 4 by omega) (by omega), hd (k + 1) (by omega) hk, Option.bind_some, ldI_n (by omega) (by omega), (hV _ hs hn).1, Option.bind_some]
        simp only [n_eq (show S.2.2.1 (k + 1) < 2 ^ 31 by omega) (show vV G A (G.i 7 (4 * p + (k + 1))) < 2 ^ 31 by omega), Option.bind_some, nI_add]
        by_cases c : S.2.2.1 (k + 1) = vV G A (G.i 7 (4 * p + (k + 1)))
        · rw [if_pos c]
          exact next (by rw [chO_b, decide_eq_false (show ¬ S.2.2.1 (k + 1) < vV G A (G.i 7 (4 * p + (k + 1))) by omega), Bool.false_and])
        · rw [if_neg c, r_insOf N hN h.2.1 K hV hs hn (by omega) (by omega), Option.bind_some, n_andn (durI_lt h8 (by omega))]
          simp only [andn_0 (durI_lt h8 (show k + 1 < 4 by omega))]
          by_cases d : andn (durI G A (G.i 7 (4 * p + (k + 1))) (S.2.2.1 (k + 1) + 1) * 2 ^ (8 * (k + 1))) S.1 = 0
          · have : ncI G A p S.1 S.2.2.1 = k := fb_eq (by omega) hj (Or.inr (by
              show chO G A p S.1 S.2.2.1 (k + 1) = true
              rw [chO_b, decide_eq_true (show S.2.2.1 (k + 1) < vV G A (G.i 7 (4 * p + (k + 1))) by omega), decide_eq_true d]; rfl))
            rw [if_pos d, this, if_pos (by omega)]
          · rw [if_neg d]
            exact next (by rw [chO_b, decide_eq_false d, Bool.and_false])
  unfold D_X12_nextChild
  exact key N 0 (by omega) (by omega) fun j hj => by omega
def PPl (b j : Nat) : Prop := b = 151 ∨ b = 152 ∨ b = 137 ∧ j = 33
theorem RI'.ppl {G : Gr} {A : Nat → Nat} {M M' : Mm} (h : RI' G A M) (f : FX PPl M M') : RI' G A M' := h.fx f (fun j q => by unfold PPl at q; omega) (fun j q => by unfold PPl at q; omega) (fun j q => by unfold PPl at q; omega)
theorem RV'.ppl {G : Gr} {A : Nat → Nat} {n : Nat} {M M' : Mm} (h : RV' G A n M) (f : FX PPl M M') : RV' G A n M' := fun s hs hn => ⟨(f.2 150 s (fun q => by unfold PPl at q; omega)).1.trans (h s hs hn).1, fun b hb => (f.2 149 _ (fun q => by unfold PPl at q; omega)).1.trans ((h s hs hn).2 b hb)⟩
theorem r_step {x : Nat} {L : List Nat} {M : Mm} (N : Nat) (hl : M.1 137 33 = nI L.length) (h99 : L.length < 100) (hL : LSt M 151 0 L) : ∃ M', D_X12_step N 137 (nI x) M = some M' ∧ M'.1 137 33 = nI (L ++ [x]).length ∧ LSt M' 151 0 (L ++ [x]) ∧ FX (fun b j => b = 151 ∨ b = 137 ∧ j = 33) M M' := by
  unfold D_X12_step
  rw [show (137 : Nat) + 14 = 151 from rfl, hl, stI_n (by omega) (by omega), Option.bind_some, show (upI M 151 L.length (nI x)).1 137 33 = nI L.length by rw [up1, if_neg (by decide)]; exact hl, nI_add, pI_n, Option.bind_some]
  refine ⟨_, rfl, ?_, ?_, ?_⟩
  · rw [upI_s, List.length_append]; rfl
  · intro i y hy
    rw [up1, if_neg (by decide), Nat.zero_add, upI_j]
    rcases get_app hy with ⟨c, d⟩ | ⟨c, d⟩
    · rw [if_neg (by omega)]; have := hL i y d; rw [Nat.zero_add] at this; exact this
    · rw [if_pos (by omega), d]
  · exact (FX.I (P := fun b j => b = 151 ∨ b = 137 ∧ j = 33) (Or.inl rfl)).trans (FX.I (Or.inr ⟨rfl, rfl⟩))
