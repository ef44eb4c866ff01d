-- the reference: an occ, a leaf
theorem RG.same {a b sy pr e : Nat} {G G' : Gr} {M : Mm} (h : RG a b G sy pr e M) (hk : ∀ k j, ¬ k = 11 → ¬ k = 13 → (k = 12 → ¬ j = e) → G'.i k j = G.i k j) (hl : G'.l = G.l) : RG a b G' sy pr e M := by
  obtain ⟨⟨a1, a2, a3, a4⟩, b, c, d, f⟩ := h
  have hk' : ∀ k j, ¬ k = 11 → ¬ k = 12 → ¬ k = 13 → G'.i k j = G.i k j := fun k j q1 q2 q3 => hk k j q1 q3 (fun q => absurd q q2)
  have ht : ∀ i, tdB G' i = tdB G i := fun i => by unfold tdB; rw [hk' _ _ (by omega) (by omega) (by omega)]
  have hto : tolds G' e = tolds G e := by unfold tolds; rw [hk' _ _ (by omega) (by omega) (by omega)]; simp only [ht]
  refine ⟨⟨a1, a2, by rw [hto]; exact a3, by rw [hk' _ _ (by omega) (by omega) (by omega)]; exact a4⟩, fun t ht2 => ?_, fun q hq => ?_, fun i hi => ?_, fun c2 hc2 => ?_⟩
  · rw [hk' _ _ (by omega) (by omega) (by omega)] at ht2
    rw [hk' _ _ (by omega) (by omega) (by omega), hk' _ _ (by omega) (by omega) (by omega), hl]
    exact b t ht2
  · rw [hk' _ _ (by omega) (by omega) (by omega)] at hq
    rw [hl, hk' _ _ (by omega) (by omega) (by omega), hk' _ _ (by omega) (by omega) (by omega)]
    refine ⟨(c q hq).1, fun hd => ⟨((c q hq).2 hd).1, ((c q hq).2 hd).2.1, fun k hk2 => ?_⟩⟩
    rw [hk' _ _ (by omega) (by omega) (by omega)]; exact ((c q hq).2 hd).2.2 k hk2
  · rw [hk' _ _ (by omega) (by omega) (by omega), hk' _ _ (by omega) (by omega) (by omega), ht]
    refine ⟨(d i hi).1, (d i hi).2.1, fun q => ?_⟩
    rw [hk _ _ (by omega) (by omega) (fun _ => q)]; exact (d i hi).2.2 q
  · rw [hk' _ _ (by omega) (by omega) (by omega)] at hc2
    rw [hk' _ _ (by omega) (by omega) (by omega)]; exact f c2 hc2
theorem RG_cod {G : Gr} {v sy pr e : Nat} {M M' : Mm} (h : RG 140 142 G sy pr e M) (h0 : W0 G) (hp : pr ≤ 12) (hc : G.i 0 2 < 1000)
    (lo : ∀ j, ¬ j = 3 → ¬ j = 1616 + G.i 0 2 → ¬ j = 2716 + G.i 0 2 → M'.1 140 j = M.1 140 j) (lw : M'.2.1 142 = M.2.1 142)
    (l1 : M'.1 140 3 = nI (G.i 0 2 + 1)) (l2 : M'.1 140 (1616 + G.i 0 2) = nI (cR v).1) (l3 : M'.1 140 (2716 + G.i 0 2) = nI (cR v).2) : RG 140 142 (gCod G v) sy pr e M' := by
  obtain ⟨⟨a1, a2, a3, a4⟩, b, c, d, f⟩ := h
  have n8 := h0.1
  have n12 := h0.2.1
  have hk : ∀ k j, ¬ k = 0 → ¬ k = 16 → (gCod G v).i k j = G.i k j := fun k j q1 q2 => gCod_i _ _ _ _ q1 q2
  have hk0 : ∀ j, ¬ j = 2 → (gCod G v).i 0 j = G.i 0 j := fun j q => by rw [gCod_0, if_neg q]
  have ht : ∀ i, tdB (gCod G v) i = tdB G i := fun i => by unfold tdB; rw [hk _ _ (by omega) (by omega)]
  have hto : tolds (gCod G v) e = tolds G e := by unfold tolds; rw [hk0 _ (by omega)]; simp only [ht]
  have lo' : ∀ j, ¬ j = 3 → j < 1616 → M'.1 140 j = M.1 140 j := fun j q1 q2 => lo j q1 (by omega) (by omega)
  refine ⟨⟨by rw [lo' 0 (by omega) (by omega)]; exact a1, by rw [lo' 1 (by omega) (by omega)]; exact a2, by rw [lo' 2 (by omega) (by omega), hto]; exact a3, by rw [l1, gCod_0, if_pos rfl]⟩, fun t ht2 => ?_, fun q hq => ?_, fun i hi => ?_, fun c2 hc2 => ?_⟩
  · rw [hk0 _ (by omega)] at ht2
    rw [hk _ _ (by omega) (by omega), hk _ _ (by omega) (by omega), show (gCod G v).l = G.l from rfl, lo' _ (by omega) (by omega), lo' _ (by omega) (by omega), lw]
    exact b t ht2
  · rw [hk0 _ (by omega)] at hq
    have hsq := (h0.2.2.2.2 q hq).2.1
    rw [lw, show (gCod G v).l = G.l from rfl, hk _ _ (by omega) (by omega), hk _ _ (by omega) (by omega), lo' _ (by omega) (by omega), lo' _ (by omega) (by omega)]
    refine ⟨(c q hq).1, fun hd => ⟨((c q hq).2 hd).1, ((c q hq).2 hd).2.1, fun k hk2 => ?_⟩⟩
    rw [hk _ _ (by omega) (by omega), lo' _ (by omega) (by omega)]; exact ((c q hq).2 hd).2.2 k hk2
  · rw [hk _ _ (by omega) (by omega), hk _ _ (by omega) (by omega), hk _ _ (by omega) (by omega), ht, lo' _ (by omega) (by omega), lo' _ (by omega) (by omega), lo' _ (by omega) (by omega), lo' _ (by omega) (by omega)]
    exact d i hi
  · rw [gCod_0, if_pos rfl] at hc2
    have e16 : (gCod G v).i 16 c2 = if c2 = G.i 0 2 then v else G.i 16 c2 := by unfold gCod; simp only [sI_i, Nat.reduceEqDiff, true_and, false_and, if_false]
    rw [e16]
    by_cases q : c2 = G.i 0 2
    · rw [if_pos q, q]; exact ⟨l2, l3⟩
    · rw [if_neg q, lo _ (by omega) (by omega) (by omega), lo _ (by omega) (by omega) (by omega)]; exact f c2 (by omega)
/-- the reference within an expression -/
def QE (B : Nat → Nat) (n : Nat) (T : List Tok) (h : Nat) (G : Gr) (M : Mm) : Prop := RK B n T h G (G.i 0 0) (G.i 0 1) (32 * G.cp + G.co) M ∧ M.1 137 20 = nI G.pa ∧ M.1 137 21 = nI (G.i 12 (32 * G.cp + G.co)) ∧ ZR G (G.i 0 1) ∧ W4 G ∧ 1 ≤ G.i 6 G.cp ∧ tdB G (32 * G.cp + G.co) = true
def PO (a j : Nat) : Prop := a = 137 ∧ (11 ≤ j ∧ j ≤ 15 ∨ j = 18 ∨ j = 19)
theorem UT.po {M M' : Mm} (h : UT M M') : FX PO M M' := h.x.mono fun a j q => by unfold PT at q; unfold PO; omega
theorem FX.pp {M M' : Mm} (h : FX PO M M') : FX PR M M' := h.mono fun a j q => Or.inl (by unfold PO at q; unfold PB; omega)
theorem v_codes {B : Nat → Nat} {n h sy pr e v x y : Nat} {T : List Tok} {G : Gr} {M : Mm} (N : Nat) (K : RK B n T h G sy pr e M) (h0 : W0 G) (hp : pr ≤ 12) (hc : G.i 0 2 < 1000) (hv : cR v = (x, y)) : ∃ M', D_X12_codes N 137 (nI x) (nI y) M = some M' ∧ RK B n T h (gCod G v) sy pr e M' ∧ FX (fun a _ => a = 140 ∨ a = 142) M M' := by
  unfold D_X12_codes
  rw [show (137 : Nat) + 3 = 140 from rfl, ldI_n (by omega) (by omega), K.2.1.1.2.2.2, Option.bind_some, nI_add, stI_n (by omega) (by omega), Option.bind_some, ldI_n (by omega) (by omega), upI_j, if_neg (by omega), K.2.1.1.2.2.2, Option.bind_some, nI_add, stI_n (by omega) (by omega), Option.bind_some, ldI_n (by omega) (by omega), upI_j, if_neg (by omega), upI_j, if_neg (by omega), K.2.1.1.2.2.2, Option.bind_some, nI_add, stI_n (by omega) (by omega), Option.bind_some]
  have f1 : FX (fun a _ => a = 140 ∨ a = 142) M (upI (upI (upI M 140 (1616 + G.i 0 2) (nI x)) 140 (2716 + G.i 0 2) (nI y)) 140 3 (nI (G.i 0 2 + 1))) := ((FX.I (Or.inl rfl)).trans (FX.I (Or.inl rfl))).trans (FX.I (Or.inl rfl))
  refine ⟨_, rfl, K.set f1 (RG_cod K.2.1 h0 hp hc (fun j j1 j2 j3 => ?_) rfl ?_ ?_ ?_), f1⟩
  · rw [upI_j, if_neg j1, upI_j, if_neg j3, upI_j, if_neg j2]
  · rw [upI_j, if_pos rfl]
  · rw [upI_j, if_neg (by omega), upI_j, if_neg (by omega), upI_j, if_pos rfl, hv]
  · rw [upI_j, if_neg (by omega), upI_j, if_pos rfl, hv]
theorem FX.o {M M' : Mm} (f : FX (fun a _ => a = 140 ∨ a = 142) M M') (j : Nat) : M'.1 137 j = M.1 137 j := (f.2 137 j (by omega)).1
theorem RG.side {a b sy pr e p k : Nat} {G : Gr} {M : Mm} (h : RG a b G sy pr e M) (hp : p < G.i 0 1) (hk : k < G.i 6 p) : M.1 a (if k = 0 then 20 + p else 44 + 3 * p + (k - 1)) = nI (G.i 7 (4 * p + k)) := by
  obtain ⟨g1, g2, g3⟩ := (h.2.2.1 p hp).2 (by omega)
  by_cases e : k = 0
  · rw [if_pos e, e]; exact g1
  · rw [if_neg e]
    have := g3 (k - 1) (by omega)
    rw [show 4 * p + (k - 1) + 1 = 4 * p + k by omega] at this
    exact this
theorem r_symbolAt {a b sy pr e p k : Nat} {G : Gr} {M : Mm} (N : Nat) (hlen : len a = 3816) (h : RG a b G sy pr e M) (h0 : W0 G) (hp : p < G.i 0 1) (hk : k < G.i 6 p) : D_X12_symbolAt N a (nI p) (nI k) M = some (nI (G.i 7 (4 * p + k))) := by
  have n12 := h0.2.1
  have hs := (h0.2.2.2.2 p hp).2.1
  have hh := h.side hp hk
  unfold D_X12_symbolAt
  rw [hlen]
  have e0 : (nI k = nI 0) = (k = 0) := n_eq (by omega) (by omega)
  simp only [e0]
  by_cases e : k = 0
  · rw [if_pos e] at hh ⊢
    rw [nI_add, ldI_n (by omega) (by omega), hh]; rfl
  · rw [if_neg e] at hh ⊢
    rw [pk_mul, nI_add, nI_add, n_sub (by omega), show 44 + 3 * p + k - 1 = 44 + 3 * p + (k - 1) by omega, ldI_n (by omega) (by omega), hh]; rfl
theorem r_isFrom {x a b : Nat} (N : Nat) (M : Mm) (hx : x < 2 ^ 31) (ha : a < 2 ^ 31) (hb : b < 2 ^ 31) : D_X12_isFrom N (nI x) (nI a) (nI b) M = some (bI (decide (a ≤ x ∧ x ≤ b))) := by
  unfold D_X12_isFrom
  simp only [jn, n_lt hx ha, n_lt hb hx]
  by_cases e : x < a
  · rw [if_pos e, decide_eq_false (by omega)]; rfl
  · rw [if_neg e]
    by_cases e2 : b < x
    · rw [if_pos e2, decide_eq_false (by omega)]; rfl
    · rw [if_neg e2, decide_eq_true (by omega)]; rfl
theorem r_isPosition {a b sy pr e p k : Nat} {G : Gr} {M : Mm} (N : Nat) (hlen : len a = 3816) (h : RG a b G sy pr e M) (h0 : W0 G) (hp : p < G.i 0 1) (hd : 1 ≤ G.i 6 p) (hk : k < 2 ^ 31) : D_X12_isPosition N a (nI p) (nI k) M = some (bI (decide (k < G.i 6 p))) := by
  have n12 := h0.2.1
  have hs := (h0.2.2.2.2 p hp).2.1
  unfold D_X12_isPosition
  rw [hlen, nI_add, ldI_n (by omega) (by omega), ((h.2.2.1 p hp).2 hd).2.1, Option.bind_some, r_isFrom N M hk (by omega) (by omega), Option.bind_some, okZ_b]
  rw [show decide (0 ≤ k ∧ k ≤ G.i 6 p - 1) = decide (k < G.i 6 p) from decide_eq_decide.mpr (by omega)]
def ROr (B : Nat → Nat) (n : Nat) (T : List Tok) (G : Gr) (sy pr e : Nat) (M : Mm) (r : Sum (Nat × Nat) (Nat × Nat)) (x : Option (Int32 × Mm)) : Prop := match r with
  | .inl er => ∃ M', x = some (nI 0, M') ∧ RF er M' ∧ FX PR M M'
  | .inr y => ∃ M', x = some (nI 1, M') ∧ RK B n T y.1 G sy pr e M' ∧ M'.1 137 19 = nI y.2 ∧ y.2 < 32 ∧ FX PO M M'
theorem v_readOccName {B : Nat → Nat} {n h1 p at' sy pr e : Nat} {T : List Tok} {G : Gr} {M : Mm} (N : Nat) (hN : 2000 < N) (K : RK B n T h1 G sy pr e M) (h0 : W0 G) (hp : p < G.i 0 1) (ha : at' < G.i 6 p) : ROr B n T G sy pr e M (pON T h1 p at' G) (D_X12_readOccName N 137 (nI p) (nI at') M) := by
  have n8 := h0.1
  have hsd := (h0.2.2.2.2 p hp).2.1
  have hsy := (h0.2.2.2.2 p hp).2.2 at' ha
  unfold D_X12_readOccName pON
  have r := v_eats (c := 46) N hN (by omega) K
  unfold pSign at r
  by_cases e1 : isSn T h1 46
  · rw [if_pos e1] at r ⊢
    obtain ⟨M1, a1, ⟨K10, u1⟩, p1⟩ := r
    have K1 : RK B n T (adv T h1) G sy pr e M1 := K10
    rw [a1, Option.bind_some, if_neg z10, r_isName N hN K1.1, Option.bind_some]
    cases e2 : isNm (tk T (adv T h1))
    · rw [bI_f, if_pos rfl, if_neg (by decide)]
      obtain ⟨M2, b1, b2, b3⟩ := r_bad (y := 2) N K1.1
      exact ⟨M2, by rw [b1, Option.bind_some, retZ_0], b2, p1.trans b3.pr⟩
    · rw [bI_t, if_neg z10, if_pos rfl, show (137 : Nat) + 3 = 140 from rfl, show (137 : Nat) + 5 = 142 from rfl, r_symbolAt N len140 K1.2.1 h0 hp ha, Option.bind_some]
      generalize hs : G.i 7 (4 * p + at') = s at *
      obtain ⟨b1, b2, b3, b4⟩ := K1.2.1.2.1 s hsy
      obtain ⟨c1, c2, c3, c4⟩ := h0.2.2.2.1 s hsy
      rw [r_attributesIn N len140 (by omega) b1 b2, Option.bind_some, (K1.1.wd (isNm_k e2)).1, pk_mul, nI_add, r_findIn (f := fun j => G.l 2 (8 * s + j)) N hN len142 (by omega) (fun j hj => ⟨b4 j hj, c4 j hj⟩) (nm_ok K1.1.t.1 K1.1.h e2), Option.bind_some]
      simp only [fR_m1 (show G.i 4 s + G.i 5 s < 2 ^ 31 by omega)]
      show ROr B n T G sy pr e M (if attN G s (posK T (adv T h1)) < G.i 4 s + G.i 5 s then _ else _) (if ¬ attN G s (posK T (adv T h1)) < G.i 4 s + G.i 5 s then _ else _)
      by_cases e3 : attN G s (posK T (adv T h1)) < G.i 4 s + G.i 5 s
      · rw [if_pos e3, if_neg (not_not_intro e3)]
        have e4 : fR (fi (fun j => G.l 2 (8 * s + j)) (tk T (adv T h1)).2.2.2 (G.i 4 s + G.i 5 s)) (G.i 4 s + G.i 5 s) = nI (attN G s (posK T (adv T h1))) := fR_n e3
        rw [e4, pk_mul, nI_add, pI_n, Option.bind_some, retZ_1]
        have f1 : FX (fun a j => a = 137 ∧ j = 19) M1 (upI M1 137 19 (nI (8 * at' + attN G s (posK T (adv T h1))))) := FX.I ⟨rfl, rfl⟩
        exact ⟨_, rfl, ⟨K1.1.fx f1 (fun j q => by omega) (fun j hj q => by omega), K1.2.1.eq (by rw [up1, if_neg (by decide)]) rfl, (f1.2 137 16 (by omega)).1.trans K1.2.2.1, (f1.2 137 17 (by omega)).1.trans K1.2.2.2⟩, upI_s _ _ _ _, by show 8 * at' + _ < 32; omega, u1.po.trans (f1.mono fun a j q => ⟨q.1, by omega⟩)⟩
      · rw [if_neg e3, if_pos e3]
        obtain ⟨M2, b1, b2, b3⟩ := r_bad (y := 3) N K1.1
        exact ⟨M2, by rw [b1, Option.bind_some, retZ_0], b2, p1.trans b3.pr⟩
  · rw [if_neg e1] at r ⊢
    obtain ⟨M1, a1, b1, p1⟩ := r
    exact ⟨M1, by rw [a1, Option.bind_some, if_pos rfl, retZ_0], b1, p1⟩
