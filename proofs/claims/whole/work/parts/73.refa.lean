-- the reference: a symbol's line, whole
theorem RG.hd {sy pr e sy' pr' : Nat} {G : Gr} {M : Mm} (h : RG 140 142 G sy pr e M) (hp : pr' ≤ pr) (M' : Mm) (h0 : M'.1 140 0 = nI sy') (h1 : M'.1 140 1 = nI pr') (ho : ∀ j, 2 ≤ j → M'.1 140 j = M.1 140 j) (h2 : M'.2.1 142 = M.2.1 142) : RG 140 142 G sy' pr' e M' := by
  obtain ⟨⟨a1, a2, a3, a4⟩, b, c, d, f⟩ := h
  refine ⟨⟨h0, h1, by rw [ho 2 (by omega)]; exact a3, by rw [ho 3 (by omega)]; exact a4⟩, fun s hs => ?_, fun p hq => ?_, fun i hi => ?_, fun k hk => ?_⟩
  · rw [ho _ (by omega), ho _ (by omega), h2]; exact b s hs
  · rw [ho _ (by omega), ho _ (by omega), h2]
    refine ⟨(c p hq).1, fun hd => ⟨((c p hq).2 hd).1, ((c p hq).2 hd).2.1, fun k hk => ?_⟩⟩
    rw [ho _ (by omega)]; exact ((c p hq).2 hd).2.2 k hk
  · rw [ho _ (by omega), ho _ (by omega), ho _ (by omega), ho _ (by omega)]; exact d i (by omega)
  · rw [ho _ (by omega), ho _ (by omega)]; exact f k hk
theorem RG_sym {G : Gr} {w pr e : Nat} {M : Mm} (h : RG 140 142 G (G.i 0 0) pr e M) (h0 : W0 G) (hs : G.i 0 0 < 8) : RG 140 142 (gSym G w) (G.i 0 0) pr e (upI (upI (upJ M 142 (G.i 0 0) (lN (conv 8 w))) 140 (4 + G.i 0 0) (nI 0)) 140 (12 + G.i 0 0) (nI 0)) := by
  obtain ⟨⟨a1, a2, a3, a4⟩, b, c, d, f⟩ := h
  have n12 := h0.2.1
  have hk : ∀ k j, ¬ k = 0 → ¬ k = 4 → ¬ k = 5 → (gSym G w).i k j = G.i k j := fun k j q1 q2 q3 => by rw [gSym_i, if_neg (by omega), if_neg (by omega)]
  have hk0 : ∀ j, ¬ j = 0 → (gSym G w).i 0 j = G.i 0 j := fun j q => by rw [gSym_i, if_neg (by omega), if_neg (by omega)]
  have hns : (gSym G w).i 0 0 = G.i 0 0 + 1 := by rw [gSym_i, if_pos ⟨rfl, rfl⟩]
  have ht : ∀ i, tdB (gSym G w) i = tdB G i := fun i => by unfold tdB; rw [hk _ _ (by omega) (by omega) (by omega)]
  have hto : tolds (gSym G w) e = tolds G e := by unfold tolds; rw [hk0 1 (by omega)]; simp only [ht]
  generalize hM : upI (upI (upJ M 142 (G.i 0 0) (lN (conv 8 w))) 140 (4 + G.i 0 0) (nI 0)) 140 (12 + G.i 0 0) (nI 0) = M'
  have lo : ∀ j, ¬ j = 4 + G.i 0 0 → ¬ j = 12 + G.i 0 0 → M'.1 140 j = M.1 140 j := fun j q1 q2 => by
    rw [← hM, upI_j, if_neg q2, upI_j, if_neg q1, upJ1]
  have l4 : M'.1 140 (4 + G.i 0 0) = nI 0 := by rw [← hM, upI_j, if_neg (by omega), upI_j, if_pos rfl]
  have l12 : M'.1 140 (12 + G.i 0 0) = nI 0 := by rw [← hM, upI_j, if_pos rfl]
  have lw : ∀ j, M'.2.1 142 j = if j = G.i 0 0 then lN (conv 8 w) else M.2.1 142 j := fun j => by rw [← hM, up2, up2, upJ_j]
  refine ⟨⟨?_, ?_, ?_, ?_⟩, fun t ht2 => ?_, fun p hp => ?_, fun i hi => ?_, fun c2 hc2 => ?_⟩
  · rw [lo 0 (by omega) (by omega)]; exact a1
  · rw [lo 1 (by omega) (by omega)]; exact a2
  · rw [lo 2 (by omega) (by omega), hto]; exact a3
  · rw [lo 3 (by omega) (by omega), hk0 2 (by omega)]; exact a4
  · rw [hns] at ht2
    rw [gSym_l, gSym_i, gSym_i]
    by_cases q : t = G.i 0 0
    · subst q
      rw [if_neg (by omega), if_pos ⟨Or.inl rfl, rfl⟩, if_neg (by omega), if_pos ⟨Or.inr rfl, rfl⟩, if_pos ⟨rfl, rfl⟩]
      refine ⟨l4, l12, ?_, fun j hj => by omega⟩
      rw [lw, if_pos rfl]
    · obtain ⟨e1, e2, e3, e4⟩ := b t (by omega)
      rw [if_neg (by omega), if_neg (by omega), if_neg (by omega), if_neg (by omega), if_neg (by omega)]
      have hbt := h0.2.2.2.1 t (by omega)
      refine ⟨?_, ?_, ?_, fun j hj => ?_⟩
      · rw [lo _ (by omega) (by omega)]; exact e1
      · rw [lo _ (by omega) (by omega)]; exact e2
      · rw [lw, if_neg (by omega)]; exact e3
      · rw [lw, if_neg (by omega), gSym_l, if_neg (by omega)]; exact e4 j hj
  · rw [hk0 1 (by omega)] at hp
    obtain ⟨e1, e2⟩ := c p hp
    refine ⟨?_, fun hd => ?_⟩
    · rw [lw, if_neg (by omega), gSym_l, if_neg (by omega)]; exact e1
    · rw [hk 6 p (by omega) (by omega) (by omega)] at hd ⊢
      obtain ⟨g1, g2, g3⟩ := e2 hd
      refine ⟨?_, ?_, fun k hk2 => ?_⟩
      · rw [lo _ (by omega) (by omega), hk _ _ (by omega) (by omega) (by omega)]; exact g1
      · rw [lo _ (by omega) (by omega)]; exact g2
      · rw [lo _ (by omega) (by omega), hk _ _ (by omega) (by omega) (by omega)]; exact g3 k hk2
  · obtain ⟨e1, e2, e3⟩ := d i hi
    rw [ht]
    refine ⟨?_, ?_, fun q => ⟨?_, ?_⟩⟩
    · rw [lo _ (by omega) (by omega), hk _ _ (by omega) (by omega) (by omega)]; exact e1
    · rw [lo _ (by omega) (by omega), hk _ _ (by omega) (by omega) (by omega)]; exact e2
    · rw [lo _ (by omega) (by omega), hk _ _ (by omega) (by omega) (by omega)]; exact (e3 q).1
    · rw [lo _ (by omega) (by omega)]; exact (e3 q).2
  · rw [hk0 2 (by omega)] at hc2
    rw [lo _ (by omega) (by omega), lo _ (by omega) (by omega), hk _ _ (by omega) (by omega) (by omega)]; exact f c2 hc2
/-- between lines -/
def QL (B : Nat → Nat) (n : Nat) (T : List Tok) (h : Nat) (G : Gr) (M : Mm) : Prop := RK B n T h G (G.i 0 0) (G.i 0 1) 1000 M ∧ W0 G ∧ ZR G (G.i 0 1) ∧ W4 G ∧ GI G
theorem v_symA {B : Nat → Nat} {n h : Nat} {T : List Tok} {G : Gr} {M : Mm} (N : Nat) (hN : 2000 < N) (inn : Bool) (Q : QS B n T h G M) {Q' : Nat → Gr → Mm → Prop} {r : Nat → Gr → RS} {F : Mm → Option (Int32 × Mm)} (hF : ∀ h' G' M', QS B n T h' G' M' → G'.i 0 0 = G.i 0 0 → RV Q' M' (r h' G') (F M')) :
    RV Q' M (bnd (pSymA inn (if inn = true then 302 else 16052) T h G) r) ((D_X12_isWord N 137 (nI (if inn = true then 3 else 4)) M).bind fun q6 => if q6 = nI 0 then F M else ((D_X12_go N 137 M).bind fun M9 => (D_X12_readAttributes N 137 (nI (G.i 0 0 - 1)) (nI (if inn = true then 4 else 12)) M9).bind fun q7 => (if q7.1 = nI 0 then (retZ (nI 0) q7.2) else (F q7.2)))) := by
  have ew : wC (if inn = true then 3 else 4) = (if inn = true then 302 else 16052) := by cases inn <;> rfl
  rw [r_isWord N Q.1.1 (by split <;> omega), Option.bind_some, ew]
  unfold pSymA
  by_cases e : isWd T h (if inn = true then 302 else 16052)
  · rw [if_pos e, decide_eq_true e, bI_t, if_neg z10]
    obtain ⟨M1, g1, K1, g2, _⟩ := Q.1.go N hN
    rw [g1, Option.bind_some]
    refine RV.pre g2 ?_
    have r1 := v_readAttributes (B := B) (n := n) (T := T) N hN inn N 8 (adv T h) G M1 ⟨K1, Q.2⟩ (by omega) (by omega)
    unfold pAttrs D_X12_readAttributes
    refine RV.bind r1 (fun M' => ?_) (fun y M' hy hq => ?_)
    · rw [if_pos rfl, retZ_0]
    · rw [if_neg z10]; exact hF _ _ _ hq.1 hq.2
  · rw [if_neg e, decide_eq_false e, bI_f, if_pos rfl]
    exact hF _ _ _ Q rfl
theorem v_readSymbol {B : Nat → Nat} {n h : Nat} {T : List Tok} {G : Gr} {M : Mm} (N : Nat) (hN : 2000 < N) (Q : QL B n T h G M) : RV (QL B n T) M (pSym T h G) (D_X12_readSymbol N 137 M) := by
  obtain ⟨K, h0, hz, h4, hgi⟩ := Q
  have n8 := h0.1
  have n12 := h0.2.1
  have v0 : M.1 140 0 = nI (G.i 0 0) := K.2.1.1.1
  unfold D_X12_readSymbol pSym
  rw [show (137 : Nat) + 3 = 140 from rfl, show (137 : Nat) + 5 = 142 from rfl, ldI_n (by omega) (by omega), v0, Option.bind_some]
  have e8 : (nI (G.i 0 0) = nI 8) = (G.i 0 0 = 8) := n_eq (by omega) (by omega)
  simp only [e8]
  by_cases c : G.i 0 0 < 8
  · rw [if_pos c, if_neg (show ¬ G.i 0 0 = 8 by omega)]
    obtain ⟨M1, g1, K1, g2, _⟩ := K.go N hN
    rw [g1, Option.bind_some, r_isName N hN K1.1, Option.bind_some]
    refine RV.pre g2 ?_
    cases e1 : isNm (tk T (adv T h))
    · rw [bI_f, if_pos rfl, if_neg (by decide)]; exact v_bad N K1.1
    · have hw := nm_ok K1.1.t.1 K1.1.h e1
      have h18 := (K1.1.wd (isNm_k e1)).1
      rw [bI_t, if_neg z10, if_pos rfl, h18, r_findIn (f := G.l 1) N hN len142 (by omega) (fun j hj => ⟨by rw [Nat.zero_add]; exact (K1.2.1.2.1 j hj).2.2.1, (h0.2.2.2.1 j hj).2.2.1⟩) hw, Option.bind_some]
      simp only [fR_m1 (show G.i 0 0 < 2 ^ 31 by omega)]
      by_cases e2 : fi (G.l 1) (tk T (adv T h)).2.2.2 (G.i 0 0) < G.i 0 0
      · rw [if_pos e2, if_neg (not_not_intro e2)]; exact v_bad N K1.1
      · rw [if_neg e2, if_pos e2]
        have hG := RG_sym (w := (tk T (adv T h)).2.2.2) K1.2.1 h0 c
        have f1 : FX (fun a _ => a = 140 ∨ a = 142) M1 (upI (upI (upJ M1 142 (G.i 0 0) (lN (conv 8 (tk T (adv T h)).2.2.2))) 140 (4 + G.i 0 0) (nI 0)) 140 (12 + G.i 0 0) (nI 0)) := ((FX.J (Or.inr rfl)).trans (FX.I (Or.inl rfl))).trans (FX.I (Or.inl rfl))
        have K2 := K1.set f1 hG
        obtain ⟨M3, g3, K3, g4, _⟩ := K2.go N hN
        have eA : nI 0 + nI (G.i 0 0) = nI (G.i 0 0) := by rw [nI_add, Nat.zero_add]
        rw [eA, stJ_n (by omega) (by omega), Option.bind_some, nI_add, stI_n (by omega) (by omega), Option.bind_some, nI_add, stI_n (by omega) (by omega), Option.bind_some, g3, Option.bind_some]
        have ens : (gSym G (tk T (adv T h)).2.2.2).i 0 0 = G.i 0 0 + 1 := by rw [gSym_i, if_pos ⟨rfl, rfl⟩]
        have enp : (gSym G (tk T (adv T h)).2.2.2).i 0 1 = G.i 0 1 := by rw [gSym_i, if_neg (by omega), if_neg (by omega)]
        have Q3 : QS B n T (adv T (adv T h)) (gSym G (tk T (adv T h)).2.2.2) M3 := ⟨by rw [ens, enp]; exact K3, gSym_W h0 c hw, by rw [ens]; omega, by
          rw [enp]; exact hz.eq (fun j => by rw [gSym_i, if_neg (by omega), if_neg (by omega)]) (fun j => by rw [gSym_i, if_neg (by omega), if_neg (by omega)]) (fun j => by rw [gSym_i, if_neg (by omega), if_neg (by omega)]) (fun j => by rw [gSym_i, if_neg (by omega), if_neg (by omega)]) (fun i _ => by unfold tdB; rw [gSym_i, if_neg (by omega), if_neg (by omega)]), W5_sym h0 h4, GI_sym hgi⟩
        refine RV.pre (f1.r.trans g4) ?_
        have r := v_symA (Q' := QL B n T) N hN true Q3 (r := fun h3 G3 => pSymA false 16052 T h3 G3) (F := fun p118 => (D_X12_isWord N 137 (nI 4) p118).bind fun q6 => (jn (fun (p142 : Mm) => ((ldI 3816 140 (nI 0) p142).bind fun v2 => (stI 3816 140 (nI 0) (v2 + (nI 1)) p142).bind fun M8 => retZ (nI 1) M8)) fun J1 => (if q6 = nI 0 then (J1 p118) else ((D_X12_go N 137 p118).bind fun M9 => (D_X12_readAttributes N 137 (nI (G.i 0 0)) (nI 12) M9).bind fun q7 => (if q7.1 = nI 0 then (retZ (nI 0) q7.2) else (J1 q7.2)))))) (fun h' G' M' q' hns' => by
          have r2 := v_symA (Q' := QL B n T) N hN false q' (r := fun h3 G3 => .inr (h3, G3)) (F := fun p142 => ((ldI 3816 140 (nI 0) p142).bind fun v2 => (stI 3816 140 (nI 0) (v2 + (nI 1)) p142).bind fun M8 => retZ (nI 1) M8)) (fun h2 G2 M2 q2 hns2 => by
            have v0 : M2.1 140 0 = nI (G2.i 0 0 - 1) := q2.1.2.1.1.1
            have hp2 := q2.2.2.1
            rw [ldI_n (by omega) (by omega), v0, Option.bind_some, nI_add, stI_n (by omega) (by omega), Option.bind_some, retZ_1]
            have f2 : FX (fun a _ => a = 140 ∨ a = 142) M2 (upI M2 140 0 (nI (G2.i 0 0 - 1 + 1))) := FX.I (Or.inl rfl)
            refine ⟨_, rfl, ⟨q2.1.set f2 (q2.1.2.1.hd (Nat.le_refl _) _ ?_ ?_ (fun j hj => ?_) rfl), q2.2.1, q2.2.2.2.1, q2.2.2.2.2.1.1, q2.2.2.2.2.2⟩, f2.r⟩
            · rw [upI_j, if_pos rfl, show G2.i 0 0 - 1 + 1 = G2.i 0 0 by omega]
            · rw [upI_j, if_neg (by omega)]; exact q2.1.2.1.1.2.1
            · rw [upI_j, if_neg (by omega)])
          rw [show G'.i 0 0 - 1 = G.i 0 0 by rw [hns', ens]; rfl] at r2
          have eb : ∀ x : RS, (bnd x fun h3 G3 => Sum.inr (h3, G3)) = x := fun x => by cases x <;> rfl
          rw [eb] at r2
          exact r2)
        rw [show (gSym G (tk T (adv T h)).2.2.2).i 0 0 - 1 = G.i 0 0 by rw [ens]; rfl] at r
        exact r
  · rw [if_neg c, if_pos (show G.i 0 0 = 8 by omega)]; exact v_bad N K.1
