-- the class lays a plan: visits, the loop
theorem chO_b {G : Gr} {A : Nat → Nat} {p K : Nat} {d : Nat → Nat} {k : Nat} : chO G A p K d k = (decide (d k < vV G A (G.i 7 (4 * p + k))) && decide (andn (durI G A (G.i 7 (4 * p + k)) (d k + 1) * 2 ^ (8 * k)) K = 0)) := rfl
theorem durI_lt {G : Gr} {A : Nat → Nat} {s v k : Nat} (h8 : att G s ≤ 8) (hk : k < 4) : durI G A s v * 2 ^ (8 * k) < 2 ^ 32 := lt_of_bits fun i hi => by
  obtain ⟨q1, q2⟩ := (mul_bit _ _ _).mp hi
  have := (durI_b.mp q2).1
  unfold att at h8
  omega
theorem loop_addVisit {g p : Nat} {G : Gr} {A : Nat → Nat} {S : PSt} {M : Mm} (N : Nat) (hN : 2000 < N) (h : OrdP G A p) (I : PI2 G A p S) (K : CG g G M) (hP : HP G A (G.i 0 0) M) (R : LRo G p S M) (kE : Int32 → Int32 → Option (Int32 × Mm)) : ∀ (fu k : Nat), k + 1 ≤ G.i 6 p → 5 < k + fu → (∀ j, j < k → chO G A p S.1 S.2.2.1 (j + 1) = false) → L_X5_addVisit_2 kE g (nI p) M N 15 fu (nI (k + 1)) = if ncI G A p S.1 S.2.2.1 < G.i 6 p - 1 then kE (nI (ncI G A p S.1 S.2.2.1 + 1)) (nI (dur G A (G.i 7 (4 * p + (ncI G A p S.1 S.2.2.1 + 1))) (S.2.2.1 (ncI G A p S.1 S.2.2.1 + 1) + 1))) else some (nI 0, M)
  | 0, k, h1, h2, _ => by have := h.1.sd h.2.2.1; omega
  | fu + 1, k, h1, h2, hj => by
    have hnp := h.1.np
    have hp := h.2.2.1
    have hsd := h.1.sd hp
    have hns := h.1.ns
    rw [L_X5_addVisit_2, ldI_n (by omega) (by omega), K.a 6 p (by omega), Option.bind_some]
    simp (disch := omega) only [n_le]
    by_cases e : G.i 6 p ≤ k + 1
    · have ek : k = G.i 6 p - 1 := by omega
      have : ncI G A p S.1 S.2.2.1 = G.i 6 p - 1 := fb_eq (Nat.le_refl _) (fun j q => hj j (by omega)) (Or.inl rfl)
      rw [if_pos e, if_neg (by omega)]; rfl
    · have hk : k + 1 < G.i 6 p := by omega
      have hs := h.1.sy hp hk
      have h4 := h.1.at' hs
      have h8 := h.1.att8 hs
      have hn := h.2.2.2.1 (k + 1) hk
      have hV := (vV_bd (h.2.1.ac h.1 hs hn) h4).2
      have hd := I.1.2.2.2.2 (k + 1) (by omega) hk
      have next : chO G A p S.1 S.2.2.1 (k + 1) = false → L_X5_addVisit_2 kE g (nI p) M N 15 fu (nI (k + 1 + 1)) = if ncI G A p S.1 S.2.2.1 < G.i 6 p - 1 then kE (nI (ncI G A p S.1 S.2.2.1 + 1)) (nI (dur G A (G.i 7 (4 * p + (ncI G A p S.1 S.2.2.1 + 1))) (S.2.2.1 (ncI G A p S.1 S.2.2.1 + 1) + 1))) else some (nI 0, M) := fun c =>
        loop_addVisit N hN h I K hP R kE fu (k + 1) (by omega) (by omega) fun j hj2 => by
          by_cases z : j = k
          · rw [z]; exact c
          · exact hj j (by omega)
      have ec : cnV G A (G.i 7 (4 * p + (k + 1))) = vV G A (G.i 7 (4 * p + (k + 1))) := by unfold cnV; rw [hn, if_neg (by decide)]
      rw [if_neg e, s_side N K (by omega) (by omega), Option.bind_some, show (15 : Nat) + 5 = 20 from rfl, show (15 : Nat) + 1 = 16 from rfl, ldI_n (show k + 1 < 4 by omega) (by omega), R.2.1 (k + 1) (by omega) hk, Option.bind_some, nI_add, s_during N hN h.1 h.2.1 hs (by omega) hn K hP, Option.bind_some, s_insOf N K (by omega) h4.1, Option.bind_some, n_and, pk_mul, n_shl _ (show 8 * (k + 1) < 32 by omega), Option.bind_some, Option.bind_some, ldI_n (by omega) (by omega), (hP _ hs).1, ec, Option.bind_some, R.1, show dur G A (G.i 7 (4 * p + (k + 1))) (S.2.2.1 (k + 1) + 1) &&& inB G (G.i 7 (4 * p + (k + 1))) = durI G A (G.i 7 (4 * p + (k + 1))) (S.2.2.1 (k + 1) + 1) from rfl, n_andn (durI_lt h8 (by omega))]
      simp only [andn_0 (durI_lt h8 (show k + 1 < 4 by omega)), n_le (show vV G A (G.i 7 (4 * p + (k + 1))) < 2 ^ 31 by omega) (show S.2.2.1 (k + 1) < 2 ^ 31 by omega), Option.bind_some, nI_add]
      by_cases c : vV G A (G.i 7 (4 * p + (k + 1))) ≤ S.2.2.1 (k + 1)
      · rw [if_pos c]
        exact next (by rw [chO_b, decide_eq_false (show ¬ S.2.2.1 (k + 1) < vV G A (G.i 7 (4 * p + (k + 1))) by omega), Bool.false_and])
      · rw [if_neg c]
        by_cases d : andn (durI G A (G.i 7 (4 * p + (k + 1))) (S.2.2.1 (k + 1) + 1) * 2 ^ (8 * (k + 1))) S.1 = 0
        · have : ncI G A p S.1 S.2.2.1 = k := fb_eq (by omega) hj (Or.inr (by
            show chO G A p S.1 S.2.2.1 (k + 1) = true
            rw [chO_b, decide_eq_true (show S.2.2.1 (k + 1) < vV G A (G.i 7 (4 * p + (k + 1))) by omega), decide_eq_true d]; rfl))
          rw [if_pos d, this, if_pos (by omega)]
        · rw [if_neg d]
          exact next (by rw [chO_b, decide_eq_false d, Bool.and_false])
theorem s_addVisit {g p : Nat} {G : Gr} {A : Nat → Nat} {S : PSt} {M : Mm} (N : Nat) (hN : 2000 < N) (h : OrdP G A p) (I : PI2 G A p S) (K : CG g G M) (hP : HP G A (G.i 0 0) M) (R : LRo G p S M) : (¬ ncI G A p S.1 S.2.2.1 < G.i 6 p - 1 → D_X5_addVisit N 15 g (nI p) M = some (nI 0, M)) ∧ (ncI G A p S.1 S.2.2.1 < G.i 6 p - 1 → ∃ M', D_X5_addVisit N 15 g (nI p) M = some (nI 1, M') ∧ LRo G p (stC G A p S) M' ∧ FX (PLy p) M M') := by
  have hnp := h.1.np
  have hp := h.2.2.1
  have hsd := h.1.sd hp
  have hl : S.2.2.2.length ≤ 35 := by have := I.2.1; omega
  unfold D_X5_addVisit
  rw [show nI 1 = nI (0 + 1) from rfl, loop_addVisit N hN h I K hP R _ N 0 (by omega) (by omega) fun j hj => by omega]
  refine ⟨fun c => if_neg c, fun c => ?_⟩
  rw [if_pos c]
  have est := st_C h I c
  obtain ⟨c1, c2⟩ := ncI_t c
  obtain ⟨R1, R2, R3, R4, R5, R6⟩ := R
  have e1 : (stC G A p S).1 = S.1 ||| durO G A (G.i 7 (4 * p + (ncI G A p S.1 S.2.2.1 + 1))) (S.2.2.1 (ncI G A p S.1 S.2.2.1 + 1) + 1) * 2 ^ (8 * (ncI G A p S.1 S.2.2.1 + 1)) := rfl
  have e2 : (stC G A p S).2.2.1 = fun k => if k = ncI G A p S.1 S.2.2.1 + 1 then S.2.2.1 k + 1 else S.2.2.1 k := rfl
  have e3 : (stC G A p S).2.2.2 = S.2.2.2 ++ [10 * (ncI G A p S.1 S.2.2.1 + 1) + (S.2.2.1 (ncI G A p S.1 S.2.2.1 + 1) + 1)] := rfl
  unfold LRo
  rw [est.2.1, est.2.2, e1, e2, e3]
  generalize ncI G A p S.1 S.2.2.1 = k at c c1 c2
  have hk : k + 1 < G.i 6 p := by omega
  rw [show (15 : Nat) + 5 = 20 from rfl, show (15 : Nat) + 7 = 22 from rfl, ldI_n (show k + 1 < 4 by omega) (by omega), R2 (k + 1) (by omega) hk, Option.bind_some, nI_add, stI_n (show k + 1 < 4 by omega) (by omega), Option.bind_some, ldI_n (show k + 1 < 4 by omega) (by omega), upI_s, Option.bind_some, pk_mul, nI_add]
  obtain ⟨M1, a1, a2, a3, a4⟩ := s_addStep (M := upI M 20 (k + 1) (nI (S.2.2.1 (k + 1) + 1))) (x := 10 * (k + 1) + (S.2.2.1 (k + 1) + 1)) (L := S.2.2.2) N (show p < 12 by omega) (by rw [up1, if_neg (by decide)]; exact R3) (by omega) (fun i y hy => by rw [up1, if_neg (by decide)]; exact R4 i y hy)
  have e22 : M1.1 22 p = nI (vsD G p S.2.2.1) := (a4.2 22 p (fun q => by unfold PAd at q; omega)).1.trans (by rw [up1, if_neg (by decide)]; exact R5)
  have e15 : M1.1 15 6 = nI S.1 := (a4.2 15 6 (fun q => by unfold PAd at q; omega)).1.trans (by rw [up1, if_neg (by decide)]; exact R1)
  have ek : S.1 ||| dur G A (G.i 7 (4 * p + (k + 1))) (S.2.2.1 (k + 1) + 1) * 2 ^ (8 * (k + 1)) = S.1 ||| durO G A (G.i 7 (4 * p + (k + 1))) (S.2.2.1 (k + 1) + 1) * 2 ^ (8 * (k + 1)) := by
    rw [dur_io, or_mul, or_sub c2]
  rw [a1, Option.bind_some, ldI_n (by omega) (by omega), e22, Option.bind_some, nI_add, stI_n (by omega) (by omega), Option.bind_some, show (upI M1 22 p (nI (vsD G p S.2.2.1 + 1))).1 15 6 = nI S.1 by rw [up1, if_neg (by decide)]; exact e15, pk_mul, n_shl _ (show 8 * (k + 1) < 32 by omega), n_or, ek, pI_n, Option.bind_some]
  refine ⟨_, rfl, ⟨upI_s _ _ _ _, fun j j1 j2 => ?_, ?_, ?_, ?_, ?_⟩, ?_⟩
  · rw [up1, if_neg (by decide), up1, if_neg (by decide), (a4.2 20 j (fun q => by unfold PAd at q; omega)).1, upI_j]
    show _ = nI (if j = k + 1 then S.2.2.1 j + 1 else S.2.2.1 j)
    by_cases z : j = k + 1
    · rw [if_pos z, if_pos z, z]
    · rw [if_neg z, if_neg z]; exact R2 j j1 j2
  · rw [up1, if_neg (by decide), up1, if_neg (by decide)]; exact a2
  · intro i y hy
    rw [up1, if_neg (by decide), up1, if_neg (by decide)]; exact a3 i y hy
  · rw [up1, if_neg (by decide), upI_s]
  · rw [up1, if_neg (by decide), up1, if_neg (by decide), (a4.2 23 p (fun q => by unfold PAd at q; omega)).1, up1, if_neg (by decide)]; exact R6
  · exact (((FX.I (P := PLy p) (by unfold PLy; omega)).trans (a4.mono fun a j q => q.ly)).trans (FX.I (by unfold PLy; omega))).trans (FX.I (by unfold PLy; omega))
theorem PLy.cg {g k p b j : Nat} (hg : g = 35 ∨ g = 52) (hk : k ≤ 16) (e : b = g + k) : ¬ PLy p b j := fun q => by unfold PLy at q; omega
theorem loop_lay {g p : Nat} {G : Gr} {A : Nat → Nat} (N : Nat) (hN : 2000 < N) (hg : g = 35 ∨ g = 52) (h : OrdP G A p) (kE : Mm → Option Mm) : ∀ (fu n : Nat) (M : Mm), n ≤ 36 → 37 < n + fu → CG g G M → HP G A (G.i 0 0) M → LRo G p (pIt G A p n) M → ∃ M', L_X5_lay_67 kE kE N 15 g (nI (G.i 7 (4 * p))) (nI p) (nI (vV G A (G.i 7 (4 * p)))) fu (nI (pIt G A p n).2.1) (nI n) M = kE M' ∧ LRo G p (pF G A p) M' ∧ FX (PLy p) M M'
  | 0, n, M, h1, h2, _, _, _ => by omega
  | fu + 1, n, M, h1, h2, K, hP, R => by
    have hnp := h.1.np
    have hp := h.2.2.1
    have hsd := h.1.sd hp
    have hns := h.1.ns
    have hs : G.i 7 (4 * p) < G.i 0 0 := h.1.sy hp (show 0 < G.i 6 p by omega)
    have h4 := h.1.at' hs
    have h8 := h.1.att8 hs
    have hn : slf G A (G.i 7 (4 * p)) = false := h.2.2.2.1 0 (by omega)
    have hV := (vV_bd (h.2.1.ac h.1 hs hn) h4).2
    have I := pIt_ok h n
    rw [L_X5_lay_67]
    simp (disch := omega) only [n_le]
    by_cases e : 36 ≤ n
    · have en : n = 36 := by omega
      have : pIt G A p n = pF G A p := by rw [en]; rfl
      rw [this] at R
      rw [if_pos e]; exact ⟨M, rfl, R, FX.refl⟩
    · generalize hS : pIt G A p n = S at I R
      have hv := I.1.2.2.2.1
      have hl : S.2.2.2.length ≤ 35 := by have := I.2.1; omega
      have ho : durO G A (G.i 7 (4 * p)) S.2.1 < 2 ^ 32 := lt_of_bits fun i hi => by
        have := (durO_b.mp hi).1.2
        omega
      have next : ∀ (M1 : Mm) (v : Nat), ¬ pKd G A p S = 3 → v = (pSt G A p S).2.1 → LRo G p (pSt G A p S) M1 → FX (PLy p) M M1 → ∃ M', L_X5_lay_67 kE kE N 15 g (nI (G.i 7 (4 * p))) (nI p) (nI (vV G A (G.i 7 (4 * p)))) fu (nI v) (nI (n + 1)) M1 = kE M' ∧ LRo G p (pF G A p) M' ∧ FX (PLy p) M M' := fun M1 v hk ev R1 f1 => by
        have es : pIt G A p (n + 1) = pSt G A p S := by rw [pIt_s, hS, if_neg hk]
        obtain ⟨M2, b1, b2, b3⟩ := loop_lay N hN hg h kE fu (n + 1) M1 (by omega) (by omega) (K.fx f1 fun k hk' j q => q.cg hg hk' rfl) (hP.fx f1 (fun j q => by unfold PLy at q; omega) (fun j q => by unfold PLy at q; omega)) (by rw [es]; exact R1)
        rw [es, ← ev] at b1
        exact ⟨M2, b1, b2, f1.trans b3⟩
      rw [if_neg e, s_during N hN h.1 h.2.1 hs (by omega) hn K hP, Option.bind_some, s_outsOf N K (by omega) h4.1 h4.2, Option.bind_some, n_and, Option.bind_some, R.1, show dur G A (G.i 7 (4 * p)) S.2.1 &&& ouB G (G.i 7 (4 * p)) = durO G A (G.i 7 (4 * p)) S.2.1 from rfl, n_andn ho]
      simp only [jn, andn_0 ho, n_le (show vV G A (G.i 7 (4 * p)) < 2 ^ 31 by omega) (show S.2.1 < 2 ^ 31 by omega), nI_add, Option.bind_some]
      have hkd : pKd G A p S = if S.2.1 < vV G A (G.i 7 (4 * p)) ∧ andn (durO G A (G.i 7 (4 * p)) S.2.1) S.1 = 0 then 0 else if nrI G p S.1 < 32 then 1 else if ncI G A p S.1 S.2.2.1 < G.i 6 p - 1 then 2 else 3 := rfl
      have other : ¬ (S.2.1 < vV G A (G.i 7 (4 * p)) ∧ andn (durO G A (G.i 7 (4 * p)) S.2.1) S.1 = 0) → ∃ M', ((D_X5_addRule N 15 g (nI p) M).bind fun q6 => (if q6.1 = nI 0 then ((D_X5_addVisit N 15 g (nI p) q6.2).bind fun q7 => (if q7.1 = nI 0 then (kE q7.2) else (L_X5_lay_67 kE kE N 15 g (nI (G.i 7 (4 * p))) (nI p) (nI (vV G A (G.i 7 (4 * p)))) fu (nI S.2.1) (nI (n + 1)) q7.2))) else (L_X5_lay_67 kE kE N 15 g (nI (G.i 7 (4 * p))) (nI p) (nI (vV G A (G.i 7 (4 * p)))) fu (nI S.2.1) (nI (n + 1)) q6.2))) = kE M' ∧ LRo G p (pF G A p) M' ∧ FX (PLy p) M M' := fun c0 => by
        rw [if_neg c0] at hkd
        obtain ⟨r0, r1⟩ := s_addRule N hN h I K R
        by_cases c1 : nrI G p S.1 < 32
        · rw [if_pos c1] at hkd
          obtain ⟨M1, a1, a2, a3⟩ := r1 c1
          have es : pSt G A p S = stR G p S := by unfold pSt; rw [hkd]; rfl
          rw [a1, Option.bind_some, if_neg (show ¬ nI 1 = nI 0 by decide +kernel)]
          exact next M1 S.2.1 (by omega) (by rw [es]; rfl) (by rw [es]; exact a2) a3
        · rw [if_neg c1] at hkd
          rw [r0 c1, Option.bind_some, if_pos rfl]
          obtain ⟨v0, v1⟩ := s_addVisit N hN h I K hP R
          by_cases c2 : ncI G A p S.1 S.2.2.1 < G.i 6 p - 1
          · rw [if_pos c2] at hkd
            obtain ⟨M1, a1, a2, a3⟩ := v1 c2
            have es : pSt G A p S = stC G A p S := by unfold pSt; rw [hkd]; rfl
            rw [a1, Option.bind_some, if_neg (show ¬ nI 1 = nI 0 by decide +kernel)]
            exact next M1 S.2.1 (by omega) (by rw [es]; rfl) (by rw [es]; exact a2) a3
          · rw [if_neg c2] at hkd
            have eF : pF G A p = S := by rw [← hS]; exact pF_at h (by rw [hS]; exact hkd)
            rw [v0 c2, Option.bind_some, if_pos rfl]
            exact ⟨M, rfl, by rw [eF]; exact R, FX.refl⟩
      by_cases c : vV G A (G.i 7 (4 * p)) ≤ S.2.1
      · rw [if_pos c]; exact other fun q => by omega
      · rw [if_neg c]
        by_cases d : andn (durO G A (G.i 7 (4 * p)) S.2.1) S.1 = 0
        · rw [if_pos ⟨by omega, d⟩] at hkd
          have es : pSt G A p S = stL G A p S := by unfold pSt; rw [hkd]; rfl
          obtain ⟨R1, R2, R3, R4, R5, R6⟩ := R
          obtain ⟨M1, a1, a2, a3, a4⟩ := s_addStep (x := 1000 + S.2.1) N (show p < 12 by omega) R3 (by omega) R4
          have f1 : FX (PLy p) M M1 := a4.mono fun a j q => q.ly
          have K1 := K.fx f1 fun k hk' j q => q.cg hg hk' rfl
          have hP1 : HP G A (G.i 0 0) M1 := hP.fx f1 (fun j q => by unfold PLy at q; omega) (fun j q => by unfold PLy at q; omega)
          have e15 : M1.1 15 6 = nI S.1 := (a4.2 15 6 (fun q => by unfold PAd at q; omega)).1.trans R1
          rw [if_pos d, a1, Option.bind_some, s_during N hN h.1 h.2.1 hs (by omega) hn K1 hP1, Option.bind_some, s_insOf N K1 (by omega) h4.1, Option.bind_some, n_and, e15, n_or, pI_n, Option.bind_some]
          refine next _ (S.2.1 + 1) (by omega) (by rw [es]; rfl) ?_ (f1.trans (FX.I (Or.inl ⟨rfl, rfl⟩)))
          rw [es]
          refine ⟨upI_s _ _ _ _, fun k k1 k2 => ?_, ?_, ?_, ?_, ?_⟩
          · rw [up1, if_neg (by decide), (a4.2 20 k (fun q => by unfold PAd at q; omega)).1]; exact R2 k k1 k2
          · rw [up1, if_neg (by decide)]; exact a2
          · intro i y hy; rw [up1, if_neg (by decide)]; exact a3 i y hy
          · rw [up1, if_neg (by decide), (a4.2 22 p (fun q => by unfold PAd at q; omega)).1]; exact R5
          · rw [up1, if_neg (by decide), (a4.2 23 p (fun q => by unfold PAd at q; omega)).1, (st_L h I hkd).2.1]; exact R6
        · rw [if_neg d]; exact other fun q => d q.2
/-- a production's plan -/
def pL (G : Gr) (A : Nat → Nat) (p : Nat) : List Nat := (pF G A p).2.2.2 ++ [1000 + vV G A (G.i 7 (4 * p))]
/-- a plan that is laid -/
def LYd (G : Gr) (A : Nat → Nat) (p : Nat) (M : Mm) : Prop := M.1 21 p = nI (pL G A p).length ∧ LSt M 19 (36 * p) (pL G A p) ∧ M.1 22 p = nI (vsD G p (pF G A p).2.2.1) ∧ M.1 23 p = nI (tlK G p (pF G A p).1)
theorem pF_ok {G : Gr} {A : Nat → Nat} {p : Nat} (h : OrdP G A p) : PI2 G A p (pF G A p) := by unfold pF; exact pIt_ok h 36
theorem pL_40 {G : Gr} {A : Nat → Nat} {p : Nat} (h : OrdP G A p) : (pL G A p).length ≤ 36 := by
  have := (pF_ok h).2.1
  unfold pL
  rw [List.length_append]
  simp only [List.length_cons, List.length_nil]
  omega
theorem s_lay {g p : Nat} {G : Gr} {A : Nat → Nat} {M : Mm} (N : Nat) (hN : 2000 < N) (hg : g = 35 ∨ g = 52) (h : OrdP G A p) (K : CG g G M) (hP : HP G A (G.i 0 0) M) : ∃ M', D_X5_lay N 15 g (nI p) M = some M' ∧ LYd G A p M' ∧ FX (PLy p) M M' := by
  have hnp := h.1.np
  have hp := h.2.2.1
  have hsd := h.1.sd hp
  have hns := h.1.ns
  have hs : G.i 7 (4 * p) < G.i 0 0 := h.1.sy hp (show 0 < G.i 6 p by omega)
  have h4 := h.1.at' hs
  have hn : slf G A (G.i 7 (4 * p)) = false := h.2.2.2.1 0 (by omega)
  have hV := (vV_bd (h.2.1.ac h.1 hs hn) h4).2
  have ec : cnV G A (G.i 7 (4 * p)) = vV G A (G.i 7 (4 * p)) := by unfold cnV; rw [hn, if_neg (by decide)]
  have l20 : len 20 = 4 := rfl
  unfold D_X5_lay
  rw [show (15 : Nat) + 6 = 21 from rfl, show (15 : Nat) + 7 = 22 from rfl, show (15 : Nat) + 8 = 23 from rfl, show (15 : Nat) + 1 = 16 from rfl, show (15 : Nat) + 5 = 20 from rfl, stI_n (by omega) (by omega), Option.bind_some, stI_n (by omega) (by omega), Option.bind_some, stI_n (by omega) (by omega), Option.bind_some]
  have f3 : FX (PLy p) M (upI (upI (upI M 21 p (nI 0)) 22 p (nI 0)) 23 p (nI 0)) := ((FX.I (P := PLy p) (by unfold PLy; omega)).trans (FX.I (by unfold PLy; omega))).trans (FX.I (by unfold PLy; omega))
  have m21 : (upI (upI (upI M 21 p (nI 0)) 22 p (nI 0)) 23 p (nI 0)).1 21 p = nI 0 := by rw [up1, if_neg (by decide), up1, if_neg (by decide), upI_s]
  have m22 : (upI (upI (upI M 21 p (nI 0)) 22 p (nI 0)) 23 p (nI 0)).1 22 p = nI 0 := by rw [up1, if_neg (by decide), upI_s]
  have m23 : (upI (upI (upI M 21 p (nI 0)) 22 p (nI 0)) 23 p (nI 0)).1 23 p = nI 0 := upI_s _ _ _ _
  generalize upI (upI (upI M 21 p (nI 0)) 22 p (nI 0)) 23 p (nI 0) = M3 at f3 m21 m22 m23
  have K3 := K.fx f3 fun k hk' j q => q.cg hg hk' rfl
  have hP3 : HP G A (G.i 0 0) M3 := hP.fx f3 (fun j q => by unfold PLy at q; omega) (fun j q => by unfold PLy at q; omega)
  have sd0 := s_side N K3 (show p < 12 by omega) (show 0 < 4 by decide)
  rw [Nat.add_zero] at sd0
  rw [sd0, Option.bind_some, ldI_n (by omega) (by omega), (hP3 _ hs).1, ec, Option.bind_some, s_during N hN h.1 h.2.1 hs (by omega) hn K3 hP3, Option.bind_some, s_insOf N K3 (by omega) h4.1, Option.bind_some, n_and, pI_n, Option.bind_some]
  have f4 : FX (PLy p) M (upI M3 15 6 (nI (durI G A (G.i 7 (4 * p)) 1))) := f3.trans (FX.I (Or.inl ⟨rfl, rfl⟩))
  have r15 : (upI M3 15 6 (nI (durI G A (G.i 7 (4 * p)) 1))).1 15 6 = nI (durI G A (G.i 7 (4 * p)) 1) := upI_s _ _ _ _
  have r21 : (upI M3 15 6 (nI (durI G A (G.i 7 (4 * p)) 1))).1 21 p = nI 0 := by rw [up1, if_neg (by decide)]; exact m21
  have r22 : (upI M3 15 6 (nI (durI G A (G.i 7 (4 * p)) 1))).1 22 p = nI 0 := by rw [up1, if_neg (by decide)]; exact m22
  have r23 : (upI M3 15 6 (nI (durI G A (G.i 7 (4 * p)) 1))).1 23 p = nI 0 := by rw [up1, if_neg (by decide)]; exact m23
  rw [show dur G A (G.i 7 (4 * p)) 1 &&& inB G (G.i 7 (4 * p)) = durI G A (G.i 7 (4 * p)) 1 from rfl]
  generalize upI M3 15 6 (nI (durI G A (G.i 7 (4 * p)) 1)) = M4 at f4 r15 r21 r22 r23
  rw [fill_n N 20 (nI 0) M4 l20 (by omega) (by omega), Option.bind_some]
  have f5 : FX (PLy p) M (upR M4.1 20 (fun j => if j < 4 then nI 0 else M4.1 20 j), M4.2) := f4.trans ⟨rfl, fun a j q => ⟨by
    rw [mR1, if_neg (fun z => q (by unfold PLy; omega))], rfl⟩⟩
  have R5 : LRo G p (pIt G A p 0) (upR M4.1 20 (fun j => if j < 4 then nI 0 else M4.1 20 j), M4.2) := by
    obtain ⟨_, t0, v0⟩ := pS0_ok h
    refine ⟨?_, fun k k1 k2 => ?_, ?_, fun i y hy => ?_, ?_, ?_⟩
    · rw [mR1, if_neg (by decide)]; exact r15
    · rw [mR1, if_pos rfl, if_pos (by omega)]; rfl
    · rw [mR1, if_neg (by decide)]; exact r21
    · exact absurd (show ([] : List Nat)[i]? = some y from hy) (by simp)
    · rw [mR1, if_neg (by decide)]; exact r22.trans (congrArg nI v0.symm)
    · rw [mR1, if_neg (by decide)]; exact r23.trans (congrArg nI t0.symm)
  obtain ⟨M6, b1, b2, b3⟩ := loop_lay N hN hg h (fun (M9 : Mm) => ((D_X5_add N 15 (nI p) ((nI 1000) + nI (vV G A (G.i 7 (4 * p)))) M9).bind fun M10 => some M10)) N 0 (upR M4.1 20 (fun j => if j < 4 then nI 0 else M4.1 20 j), M4.2) (Nat.zero_le _) (by omega) (K.fx f5 fun k hk' j q => q.cg hg hk' rfl) (hP.fx f5 (fun j q => by unfold PLy at q; omega) (fun j q => by unfold PLy at q; omega)) R5
  obtain ⟨R1, R2, R3, R4, R5', R6⟩ := b2
  have hl : (pF G A p).2.2.2.length ≤ 35 := by have := (pF_ok h).2.1; omega
  obtain ⟨M7, a1, a2, a3, a4⟩ := s_addStep (x := 1000 + vV G A (G.i 7 (4 * p))) N (show p < 12 by omega) R3 (by omega) R4
  refine ⟨M7, ?_, ⟨a2, a3, ?_, ?_⟩, (f5.trans b3).trans (a4.mono fun a j q => q.ly)⟩
  · refine Eq.trans b1 ?_
    show ((D_X5_add N 15 (nI p) ((nI 1000) + nI (vV G A (G.i 7 (4 * p)))) M6).bind fun M10 => some M10) = some M7
    rw [nI_add, a1, Option.bind_some]
  · exact (a4.2 22 p (fun q => by unfold PAd at q; omega)).1.trans R5'
  · exact (a4.2 23 p (fun q => by unfold PAd at q; omega)).1.trans R6
theorem LYd.fx {G : Gr} {A : Nat → Nat} {p : Nat} {P : Nat → Nat → Prop} {M M' : Mm} (h : LYd G A p M) (f : FX P M M') (hh : (pL G A p).length ≤ 36) (hP : ∀ b j, P b j → ¬ (b = 19 ∧ 36 * p ≤ j ∧ j < 36 * p + 36) ∧ ¬ ((b = 21 ∨ b = 22 ∨ b = 23) ∧ j = p)) : LYd G A p M' := by
  obtain ⟨h1, h2, h3, h4⟩ := h
  exact ⟨(f.2 21 p (fun q => by have := hP _ _ q; omega)).1.trans h1, h2.fx f (fun j j1 j2 q => by have := hP _ _ q; omega), (f.2 22 p (fun q => by have := hP _ _ q; omega)).1.trans h3, (f.2 23 p (fun q => by have := hP _ _ q; omega)).1.trans h4⟩
def PFp (b j : Nat) : Prop := b = 15 ∧ j = 6 ∨ 19 ≤ b ∧ b ≤ 23
theorem loop_plans {g : Nat} {G : Gr} {A : Nat → Nat} (N : Nat) (hN : 2000 < N) (h : QG G) (hg : g = 35 ∨ g = 52) (hI : Ind G A) : ∀ (fu p : Nat) (M : Mm), p ≤ G.i 0 1 → G.i 0 1 < p + fu → CG g G M → HP G A (G.i 0 0) M → M.1 15 3 = fR (blk G A) (G.i 0 1) → (¬ blk G A < G.i 0 1 → ∀ q, q < p → LYd G A q M) → ∃ M', L_X5_find_122 g 15 N fu (nI p) M = some M' ∧ (¬ blk G A < G.i 0 1 → ∀ q, q < G.i 0 1 → LYd G A q M') ∧ FX PFp M M'
  | 0, p, M, h1, h2, _, _, _, _ => by omega
  | fu + 1, p, M, h1, h2, K, hP, hB, hL => by
    have hnp := h.np
    rw [L_X5_find_122, K.f 1]
    simp (disch := omega) only [n_le]
    by_cases e : G.i 0 1 ≤ p
    · have ep : p = G.i 0 1 := by omega
      subst ep
      rw [if_pos e]; exact ⟨M, rfl, hL, FX.refl⟩
    · rw [if_neg e, hB]
      simp only [fR_m1 (show G.i 0 1 < 2 ^ 31 by omega)]
      by_cases c : blk G A < G.i 0 1
      · rw [if_neg (not_not_intro c)]; exact ⟨M, rfl, fun q => absurd c q, FX.refl⟩
      · have ho : ∀ q, q < G.i 0 1 → OrdP G A q := fun q hq => OrdP.of h hI hq (fb_below (show q < blk G A by have := fb_le (bPf G A) (G.i 0 1); unfold blk at c ⊢; omega))
        obtain ⟨M1, a1, a2, a3⟩ := s_lay N hN hg (ho p (by omega)) K hP
        have f1 : FX PFp M M1 := a3.mono fun a j q => by unfold PLy at q; unfold PFp; omega
        rw [if_pos c, a1, Option.bind_some, Option.bind_some, nI_add]
        obtain ⟨M2, b1, b2, b3⟩ := loop_plans N hN h hg hI fu (p + 1) M1 (by omega) (by omega) (K.fx a3 fun k hk' j q => q.cg hg hk' rfl) (hP.fx a3 (fun j q => by unfold PLy at q; omega) (fun j q => by unfold PLy at q; omega)) ((a3.2 15 3 (fun q => by unfold PLy at q; omega)).1.trans hB) (fun c q hq => by
          by_cases z : q = p
          · rw [z]; exact a2
          · exact (hL c q (by omega)).fx a3 (pL_40 (ho q (by omega))) fun b j y => by unfold PLy at y; omega)
        exact ⟨M2, b1, b2, f1.trans b3⟩
def PFd (b j : Nat) : Prop := b = 15 ∧ (j = 3 ∨ j = 6) ∨ 16 ≤ b ∧ b ≤ 23
/-- all that the class finds of visits -/
def PLN (G : Gr) (A : Nat → Nat) (M : Mm) : Prop := HP G A (G.i 0 0) M ∧ (∀ q, q < G.i 0 1 → HRo 18 (32 * q) (8 * G.i 6 q) (wdC G A q) M) ∧ M.1 15 3 = fR (blk G A) (G.i 0 1) ∧ (¬ blk G A < G.i 0 1 → ∀ q, q < G.i 0 1 → LYd G A q M)
theorem s_plans {g : Nat} {G : Gr} {A : Nat → Nat} {M : Mm} (N : Nat) (hN : 2000 < N) (h : QG G) (hg : g = 35 ∨ g = 52) (hI : Ind G A) (K : CG g G M) (hM : HRo 10 0 64 A M) (hC : ∀ q, q < G.i 0 1 → HRo 11 (32 * q) (8 * G.i 6 q) (iC G A q) M) : ∃ M', D_X5_find N 15 g 9 M = some M' ∧ PLN G A M' ∧ FX PFd M M' := by
  have hns := h.ns
  have hnp := h.np
  unfold D_X5_find
  obtain ⟨M1, a1, a2, a3⟩ := loop_counts N hN h hg hI (fun (M4 : Mm) => ((pI M4 15 3 m1).bind fun M5 => (some (((M5.1 g 1) - (nI 1)))).bind fun l3_4 => (L_X5_find_74 (fun (M9 : Mm) => (L_X5_find_122 g 15 N N (nI 0) M9)) N 15 g 9 N l3_4 M5))) N 0 M (Nat.zero_le _) (by omega) K hM (fun s hs => by omega)
  have f2 : FX PFd M (upI M1 15 3 m1) := (a3.mono fun a j q => by unfold P67 at q; unfold PFd; omega).trans (FX.I (by unfold PFd; omega))
  have hP2 : HP G A (G.i 0 0) (upI M1 15 3 m1) := a2.fx (FX.I (P := fun b j => b = 15 ∧ j = 3) ⟨rfl, rfl⟩) (fun j q => by have := q.1; omega) (fun j q => by have := q.1; omega)
  have K2 : CG g G (upI M1 15 3 m1) := K.fx f2 fun k hk j q => by unfold PFd at q; omega
  obtain ⟨M3, b1, b2, b3, b4⟩ := loop_block N hN h hg hI (fun (M9 : Mm) => (L_X5_find_122 g 15 N N (nI 0) M9)) N (G.i 0 1) (upI M1 15 3 m1) (Nat.le_refl _) (by omega) K2 hP2 (fun q hq => (hC q hq).fx f2 fun j _ _ z => by unfold PFd at z; have := h.sd hq; omega) (fun q q1 q2 => by omega) (Or.inr ⟨fun j j1 j2 => by omega, upI_s _ _ _ _⟩)
  have K3 : CG g G M3 := K2.fx b4 fun k hk j q => by unfold PBl at q; omega
  have hP3 : HP G A (G.i 0 0) M3 := hP2.fx b4 (fun j q => by unfold PBl at q; omega) (fun j q => by unfold PBl at q; omega)
  obtain ⟨M4, c1, c2, c3⟩ := loop_plans N hN h hg hI N 0 M3 (Nat.zero_le _) (by omega) K3 hP3 b3 (fun _ q hq => by omega)
  refine ⟨M4, ?_, ⟨hP3.fx c3 (fun j q => by unfold PFp at q; omega) (fun j q => by unfold PFp at q; omega), fun q hq => (b2 q hq).fx c3 fun j _ _ z => by unfold PFp at z; omega, (c3.2 15 3 (fun q => by unfold PFp at q; omega)).1.trans b3, c2⟩, (f2.trans (b4.mono fun a j q => by unfold PBl at q; unfold PFd; omega)).trans (c3.mono fun a j q => by unfold PFp at q; unfold PFd; omega)⟩
  refine Eq.trans a1 ?_
  rw [pI_n, Option.bind_some, show (upI M1 15 3 m1).1 g 1 = nI (G.i 0 1) from K2.f 1, Option.bind_some, b1]
  exact c1
