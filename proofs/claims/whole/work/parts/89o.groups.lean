-- the groups found
def GRP (G : Gr) (t : TR) (ce : Nat → Nat → Nat) (gN : Nat) (gr fr od : Nat → Nat) (kt : Nat → Bool) : Prop :=
  (∀ v, thT G t v ↔ ¬ gr v = 0) ∧ (∀ v, gr v ≤ gN) ∧ (∀ v w, thT G t v → nrT G t ce v w → gr w ≤ gr v) ∧ (∀ v w, ¬ gr v = 0 → gr v = gr w → RTc (NR G t ce) v w) ∧ OI gN gr fr od ∧ KTI gN fr od (sfT G t) kt ∧ fr gN ≤ 320
/-- the class's groups -/
def KG (c gN : Nat) (gr fr od : Nat → Nat) (kt : Nat → Bool) (M : Mm) : Prop := M.1 c 4 = nI gN ∧ (∀ v, v < 320 → M.1 (c + 3) v = nP (gr v)) ∧ KM2 c gN fr od kt M
section tok
variable {G : Gr} {t : TR} {ce : Nat → Nat → Nat} {me : Nat → Nat}
variable {c w : Nat} {M : Mm}
theorem zR_nr (hq : QG G) (h : TOK2 G t ce me) {v x : Nat} (hv : thT G t v) : zR (akT G t) (scT G t ce) v x ↔ nrT G t ce v x := ⟨fun ⟨o, o1, o2⟩ => ⟨o, tb_lt (akT_lt hq h hv) o1, o1, o2⟩, fun ⟨o, _, o1, o2⟩ => ⟨o, o1, o2⟩⟩
theorem zR_RTc (hq : QG G) (h : TOK2 G t ce me) {v x : Nat} (hv : thT G t v) (r : RTc (zR (akT G t) (scT G t ce)) v x) : RTc (NR G t ce) v x := by
  obtain ⟨n, r⟩ := r
  induction n generalizing v with
  | zero => exact ⟨0, r⟩
  | succ n ih =>
    obtain ⟨k, a, b⟩ := r
    have nr := (zR_nr hq h hv).1 a
    exact (RTc.one ⟨hv, nr⟩).trans (ih (nr_th hq h hv nr) b)
theorem t_exp0 {τ oN gN : Nat} {mk lw O P Q gr fr od : Nat → Nat} {kt : Nat → Bool} (N : Nat) (hN : 20000 < N) (hc : c = 106 ∨ c = 122) (hw : w = 69 ∨ w = 87) (h : TOK2 G t ce me) (hq : QG G) (L : CLk w G t ce me M) (T : TA G t ce c w τ mk lw oN O 0 P Q gN gr fr od kt (upI M c 13 (nI 0))) {v : Nat} (hv : thT G t v) (h0 : mk v = 0) :
    ∃ τ' mk' lw' oN' O' P' Q' gN' gr' fr' od' kt' M', D_X4_explore N c (nI v) M = some M' ∧ TA G t ce c w τ' mk' lw' oN' O' 0 P' Q' gN' gr' fr' od' kt' M' ∧ (∀ x, ¬ mk x = 0 ∨ x = v → ¬ mk' x = 0) ∧ FX (PKf c) M M' := by
  have f0 : FX (PKf c) M (upI M c 13 (nI 0)) := FX.I (by unfold PKf; omega)
  have L0 := L.kf hc hw f0
  unfold D_X4_explore
  rw [pI_n, Option.bind_some]
  obtain ⟨M1, s1, s2, s3⟩ := t_enter N hc hw h L0 T 0 FX.refl (fun z => absurd rfl z) hv h0 (Or.inl rfl)
  have tl := (T.vis (th_320 h hv).2 h0).1
  rw [s1, Option.bind_some]
  have mu : muT (τ + 1) (0 + 1) (st1 (st1 Q (0 - 1) 0) 0 (akT G t v)) + 0 ≤ 10880 := by
    unfold muT
    show psum _ 0 + (cnt (fun o => (st1 (st1 Q (0 - 1) 0) 0 (akT G t v) 0).testBit o) 32 + 1) + 33 * (320 - (τ + 1)) + 0 ≤ 10880
    rw [st1_s]
    have := cnt_32 (fun o => (akT G t v).testBit o)
    show 0 + _ + _ + 0 ≤ 10880
    omega
  obtain ⟨τ2, mk2, lw2, oN2, O2, P2, Q2, gN2, gr2, fr2, od2, kt2, M2, d1, d2, d3, d4⟩ := t_explore N (by omega) hc hw h hq N 0 (τ + 1) _ _ _ _ _ _ _ _ _ _ _ _ M1 (L0.kf hc hw s3) s2 mu (by omega)
  exact ⟨τ2, mk2, lw2, oN2, O2, P2, Q2, gN2, gr2, fr2, od2, kt2, M2, d1, d2, fun x hx => d3 x (by
    rw [st1_t]
    split
    · omega
    · rename_i ne
      rcases hx with hx | hx
      · exact hx
      · exact absurd hx ne), (f0.trans s3).trans d4⟩
theorem TA.m13 {τ oN gN : Nat} {mk lw O P Q gr fr od : Nat → Nat} {kt : Nat → Bool} (T : TA G t ce c w τ mk lw oN O 0 P Q gN gr fr od kt M) : TA G t ce c w τ mk lw oN O 0 P Q gN gr fr od kt (upI M c 13 (nI 0)) := by
  obtain ⟨Z, K1, K2, I, J, e1, e2⟩ := T
  exact ⟨Z, K1.pop (Nat.le_refl _), K2.fx (P' := fun b j => b = c ∧ j = 13) (FX.I ⟨rfl, rfl⟩) (fun z => by omega) (fun b j _ _ _ z => by omega), I, J, e1, e2⟩
theorem s_hasInst {i : Nat} (N : Nat) (hq : QG G) (h : TOK2 G t ce me) (C : CT w G t M) (hi : i < 8 * tn t) : D_X8_hasInstance N w (nI (i / 8)) (nI (i % 8)) M = some (bI (thB G t i)) := by
  have h40 := h.2.2.2.1
  have hk : i / 8 < tn t := by omega
  have cn := (C.2 _ hk).2.2.2.2.2.2.2.1
  unfold D_X8_hasInstance
  simp only [jn]
  have n0 : ¬ nI (i % 8) < nI 0 := by rw [n_lt (by omega) (by omega)]; omega
  rw [if_neg n0, ldI_n (by omega) (by omega), cn, Option.bind_some]
  unfold thB syT
  rw [decide_eq_true hk, Bool.true_and]
  have a31 : att G (G.i 7 (4 * tp t (i / 8))) ≤ 8 := (ni_le hq h.1 hk).2
  simp only [n_le (show att G (G.i 7 (4 * tp t (i / 8))) < 2 ^ 31 by omega) (show i % 8 < 2 ^ 31 by omega)]
  by_cases z : att G (G.i 7 (4 * tp t (i / 8))) ≤ i % 8
  · rw [if_pos z, decide_eq_false (by omega)]; rfl
  · rw [if_neg z, decide_eq_true (by omega)]; rfl
theorem t_findL (N : Nat) (hN : 20000 < N) (hc : c = 106 ∨ c = 122) (hw : w = 69 ∨ w = 87) (h : TOK2 G t ce me) (hq : QG G) : ∀ (fu i : Nat) (τ : Nat) (mq lw : Nat → Nat) (oN : Nat) (O P Q : Nat → Nat) (gN : Nat) (gr fr od : Nat → Nat) (kt : Nat → Bool) (M : Mm), i ≤ 8 * tn t → 321 < i + fu → CT w G t M → CLk w G t ce me M → M.2.2 c 6 = w → TA G t ce c w τ mq lw oN O 0 P Q gN gr fr od kt (upI M c 13 (nI 0)) → (∀ j, j < i → thT G t j → ¬ mq j = 0) → ∃ gN gr fr od kt M', L_X4_find_50 c N fu (nI i) M = some M' ∧ GRP G t ce gN gr fr od kt ∧ KG c gN gr fr od kt M' ∧ FX (PKf c) M M'
  | 0, i, τ, mq, lw, oN, O, P, Q, gN, gr, fr, od, kt, M, h1, h2, _, _, _, _, _ => by have := h.2.2.2.1; omega
  | fu + 1, i, τ, mq, lw, oN, O, P, Q, gN, gr, fr, od, kt, M, h1, h2, C, L, h6, T, hm => by
    have h40 := h.2.2.2.1
    have r6 : rf M c 6 8 = some w := by unfold rf; rw [h6]; rcases hw with e | e <;> subst e <;> rfl
    rw [L_X4_find_50, r6, Option.bind_some, C.1, pk_mul]
    simp only [n_le (show 8 * tn t < 2 ^ 31 by omega) (show i < 2 ^ 31 by omega)]
    by_cases e : 8 * tn t ≤ i
    · rw [if_pos e]
      obtain ⟨Z, K1, K2, I, J, e1, e2⟩ := T
      have t3 : τ ≤ 320 := by rw [e2]; exact cnt_le _ _
      have all : ∀ v, thT G t v ↔ ¬ gr v = 0 := fun v => by
        constructor
        · intro hv g0
          obtain ⟨s, s1, _⟩ := Z.2.2.2.2.2.2.2.1 v (hm v (by have := (th_320 h hv).1; omega) hv) g0
          omega
        · intro g0
          exact (Z.1 v).2.1 ((Z.1 v).2.2 g0).1
      refine ⟨gN, gr, fr, od, kt, M, rfl, ⟨all, fun v => ?_, fun v x hv hn => ?_, fun v x g0 ge => zR_RTc hq h ((all v).2 g0) (Z.2.2.2.2.2.2.2.2.2 v x g0 ge), I, J, by omega⟩, ⟨?_, fun v hv => ?_, ?_⟩, FX.refl⟩
      · by_cases z : gr v = 0
        · omega
        · exact ((Z.1 v).2.2 z).2
      · exact (Z.2.2.2.2.1 v ((all v).1 hv) x ((zR_nr hq h hv).2 hn)).2
      · have := K1.1.2.2.2.1; rw [upI_j, if_neg (by decide)] at this; exact this
      · have := (K1.2.1 v hv).2.1; rw [upI_n (by omega)] at this; exact this
      · exact K2.fx (P' := fun b j => b = c ∧ j = 13) (M' := M) ⟨by rw [up2], fun b j z => ⟨by
          by_cases y : b = c
          · subst y; rw [upI_j, if_neg (fun u => z ⟨rfl, u⟩)]
          · rw [upI_n y], by rw [up2]⟩⟩ (fun z => by omega) (fun b j _ _ _ z => by omega)
    · have i3 : i < 320 := by omega
      have K1 := T.2.1
      have mi : M.1 (c + 5) i = nI (mq i) := by have := (K1.2.1 i i3).1; rw [upI_n (by omega)] at this; exact this
      have ml : mq i ≤ 320 := by have := (T.1.1 i).1; have := (T.lt h).2.2.2.1; omega
      have skip : (thT G t i → ¬ mq i = 0) → ∃ gN gr fr od kt M', ((some (nI i + nI 1)).bind fun l => L_X4_find_50 c N fu l M) = some M' ∧ GRP G t ce gN gr fr od kt ∧ KG c gN gr fr od kt M' ∧ FX (PKf c) M M' := fun z => by
        rw [Option.bind_some, nI_add]
        exact t_findL N hN hc hw h hq fu (i + 1) τ mq lw oN O P Q gN gr fr od kt M (by omega) (by omega) C L h6 T (fun j hj th => by
          by_cases y : j = i
          · rw [y]; rw [y] at th; exact z th
          · exact hm j (by omega) th)
      rw [if_neg e, Option.bind_some, dv_n (by omega) (by omega) (by omega), Option.bind_some, rm_n (by omega) (by omega) (by omega), Option.bind_some, s_hasInst N hq h C (by omega), Option.bind_some]
      simp only [bI_0]
      cases x : thB G t i
      · rw [if_pos rfl]; exact skip fun z => absurd (thB_t.2 z) (by rw [x]; decide)
      · have th := thB_t.1 x
        rw [if_neg (by decide), ldI_n i3 (by omega), mi, Option.bind_some]
        simp only [n_eq (show mq i < 2 ^ 31 by omega) (show 0 < 2 ^ 31 by omega)]
        by_cases m0 : mq i = 0
        · rw [if_pos m0]
          obtain ⟨τ2, mk2, lw2, oN2, O2, P2, Q2, gN2, gr2, fr2, od2, kt2, M2, d1, d2, d3, d4⟩ := t_exp0 N hN hc hw h hq L T th m0
          rw [d1, Option.bind_some, Option.bind_some, nI_add]
          obtain ⟨gN3, gr3, fr3, od3, kt3, M3, f1, f2, f3, f4⟩ := t_findL N hN hc hw h hq fu (i + 1) τ2 mk2 lw2 oN2 O2 P2 Q2 gN2 gr2 fr2 od2 kt2 M2 (by omega) (by omega) (C.kf hc hw d4) (L.kf hc hw d4) (by rw [d4.1]; exact h6) d2.m13 (fun j hj th => by
            by_cases y : j = i
            · exact d3 j (Or.inr y)
            · exact d3 j (Or.inl (hm j (by omega) th)))
          exact ⟨gN3, gr3, fr3, od3, kt3, M3, f1, f2, f3, d4.trans f4⟩
        · rw [if_neg m0]; exact skip fun _ => m0
theorem s_findT (N : Nat) (hN : 20000 < N) (hc : c = 106 ∨ c = 122) (hw : w = 69 ∨ w = 87) (h : TOK2 G t ce me) (hq : QG G) (C : CT w G t M) (L : CLk w G t ce me M) : ∃ gN gr fr od kt M', D_X4_find N c w M = some M' ∧ GRP G t ce gN gr fr od kt ∧ KG c gN gr fr od kt M' ∧ Fr (fun a => c ≤ a ∧ a ≤ c + 9) M M' ∧ M'.2.2 c 6 = w := by
  have l2 : len (c + 2) = 321 := by rcases hc with e | e <;> subst e <;> rfl
  have l5 : len (c + 5) = 320 := by rcases hc with e | e <;> subst e <;> rfl
  have l3 : len (c + 3) = 320 := by rcases hc with e | e <;> subst e <;> rfl
  unfold D_X4_find
  rw [pN_n, Option.bind_some, pI_n, Option.bind_some, pI_n, Option.bind_some, pI_n, Option.bind_some, pI_n, Option.bind_some, stI_n (by omega) (by omega), Option.bind_some, fill_n N (c + 5) (nI 0) _ l5 (by omega) (by omega), Option.bind_some, fill_n N (c + 3) m1 _ l3 (by omega) (by omega), Option.bind_some]
  have e0 : ∃ M6 : Mm, M6 = upI (upI (upI (upI (upI (upN M c 6 w) c 4 (nI 0)) c 5 (nI 0)) c 10 (nI 0)) c 14 (nI 0)) (c + 2) 0 (nI 0) := ⟨_, rfl⟩
  obtain ⟨M6, h6⟩ := e0
  rw [← h6]
  have f6 : Fr (fun a => c ≤ a ∧ a ≤ c + 9) M M6 := by
    rw [h6]
    exact (((((Fr.N (S := fun a => c ≤ a ∧ a ≤ c + 9) (by omega)).trans (Fr.I (by omega))).trans (Fr.I (by omega))).trans (Fr.I (by omega))).trans (Fr.I (by omega))).trans (Fr.I (by omega))
  have g4 : M6.1 c 4 = nI 0 ∧ M6.1 c 5 = nI 0 ∧ M6.1 c 10 = nI 0 ∧ M6.1 c 14 = nI 0 ∧ M6.1 (c + 2) 0 = nI 0 ∧ M6.2.2 c 6 = w ∧ M6.2.1 = M.2.1 := by
    rw [h6]
    refine ⟨?_, ?_, ?_, ?_, upI_s _ _ _ _, ?_, ?_⟩
    · rw [upI_n (by omega), upI_j, if_neg (by decide), upI_j, if_neg (by decide), upI_j, if_neg (by decide), upI_s]
    · rw [upI_n (by omega), upI_j, if_neg (by decide), upI_j, if_neg (by decide), upI_s]
    · rw [upI_n (by omega), upI_j, if_neg (by decide), upI_s]
    · rw [upI_n (by omega), upI_s]
    · rw [up2, up2, up2, up2, up2, upN3, if_pos rfl]; simp
    · rw [up2, up2, up2, up2, up2, upN2]
  obtain ⟨q4, q5, q10, q14, q2, q6, qJ⟩ := g4
  have e8 : ∃ M8 : Mm, M8 = (upR ((upR M6.1 (c + 5) (fun j => if j < 320 then nI 0 else M6.1 (c + 5) j), M6.2) : Mm).1 (c + 3) (fun j => if j < 320 then m1 else ((upR M6.1 (c + 5) (fun j => if j < 320 then nI 0 else M6.1 (c + 5) j), M6.2) : Mm).1 (c + 3) j), ((upR M6.1 (c + 5) (fun j => if j < 320 then nI 0 else M6.1 (c + 5) j), M6.2) : Mm).2) := ⟨_, rfl⟩
  obtain ⟨M8, h8⟩ := e8
  rw [← h8]
  have r8 : ∀ b, M8.1 b = if b = c + 3 then (fun j => if j < 320 then m1 else M6.1 (c + 3) j) else if b = c + 5 then (fun j => if j < 320 then nI 0 else M6.1 (c + 5) j) else M6.1 b := fun b => by
    rw [h8, mR1]
    by_cases z : b = c + 3
    · rw [if_pos z, if_pos z, mR1, if_neg (show ¬ c + 3 = c + 5 by omega)]
    · rw [if_neg z, if_neg z, mR1]
  have s8 : M8.2 = M6.2 := by rw [h8]
  have f8 : FX (PKf c) M6 M8 := ⟨by rw [s8], fun b j z => ⟨by rw [r8, if_neg (fun y => z (by unfold PKf; omega)), if_neg (fun y => z (by unfold PKf; omega))], by rw [s8]⟩⟩
  have n8 : ∀ b j, ¬ b = c + 3 → ¬ b = c + 5 → M8.1 b j = M6.1 b j := fun b j x y => by rw [r8, if_neg x, if_neg y]
  have F8 : Fr (fun a => c ≤ a ∧ a ≤ c + 9) M M8 := f6.trans fun a ha => ⟨funext fun j => (f8.2 a j (fun z => ha z)).1, funext fun j => (f8.2 a j (fun z => ha z)).2, by rw [f8.1]⟩
  have C8 : CT w G t M8 := ⟨by rw [(F8 w (by omega)).1]; exact C.1, fun e he => (C.2 e he).of fun k _ _ => by rw [(F8 (w + k) (by omega)).1]⟩
  have L8 : CLk w G t ce me M8 := by
    refine ⟨fun k hk => ⟨by rw [(F8 (w + 11) (by omega)).1]; exact (L.1 k hk).1, fun j a b => by rw [(F8 (w + 11) (by omega)).1]; exact (L.1 k hk).2 j a b⟩, fun x hx => by rw [(F8 (w + 6) (by omega)).1]; exact L.2.1 x hx, fun i hi => ?_⟩
    unfold LI1
    rw [(F8 (w + 13) (by omega)).1, (F8 (w + 14) (by omega)).1, (F8 (w + 15) (by omega)).1]; exact L.2.2 i hi
  have r6 : M8.2.2 c 6 = w := by rw [s8]; exact q6
  have T0 : TA G t ce c w 0 (fun _ => 0) (fun _ => 0) 0 (fun _ => 0) 0 (fun _ => 0) (fun _ => 0) 0 (fun _ => 0) (fun _ => 0) (fun _ => 0) (fun _ => false) (upI M8 c 13 (nI 0)) := by
    refine ⟨⟨fun v => ⟨Nat.le_refl _, fun z => absurd rfl z, fun z => absurd rfl z⟩, ⟨fun a ha => absurd ha (Nat.not_lt_zero _), fun a b _ hb => absurd hb (Nat.not_lt_zero _)⟩, fun v z => absurd rfl z, fun s hs => absurd hs (Nat.not_lt_zero _), fun v z => absurd rfl z, fun v z => absurd rfl z, fun v z => absurd rfl z, fun v z => absurd rfl z, fun v z => absurd rfl z, fun v x z => absurd rfl z⟩, ⟨⟨?_, ?_, upI_s _ _ _ _, ?_, ?_⟩, fun v hv => ⟨?_, ?_, fun z => absurd rfl z⟩, fun a ha => absurd ha (Nat.not_lt_zero _), fun s hs => absurd hs (Nat.not_lt_zero _)⟩, ⟨?_, fun g hg => ?_, fun m hm => absurd hm (Nat.not_lt_zero _), fun g hg => absurd hg (Nat.not_lt_zero _)⟩, ⟨rfl, fun g hg => absurd hg (Nat.not_lt_zero _)⟩, fun g hg => absurd hg (Nat.not_lt_zero _), rfl, ?_⟩
    · rw [upI_j, if_neg (by decide), n8 _ _ (by omega) (by omega)]; exact q14
    · rw [upI_j, if_neg (by decide), n8 _ _ (by omega) (by omega)]; exact q10
    · rw [upI_j, if_neg (by decide), n8 _ _ (by omega) (by omega)]; exact q4
    · rw [up2]; exact r6
    · rw [upI_n (by omega), r8, if_neg (by omega), if_pos rfl, if_pos hv]
    · rw [upI_n (by omega), r8, if_pos rfl, if_pos hv]; rfl
    · rw [upI_j, if_neg (by decide), n8 _ _ (by omega) (by omega)]; exact q5
    · rw [show g = 0 by omega, upI_n (by omega), n8 _ _ (by omega) (by omega)]; exact q2
    · have := cnt_zero (f := fun v => !decide ((fun _ => 0 : Nat → Nat) v = 0)) (n := 0) 320 (fun i _ _ => rfl)
      rw [Nat.zero_add] at this; rw [this]; rfl
  obtain ⟨gN, gr, fr, od, kt, M', a1, a2, a3, a4⟩ := t_findL N hN hc hw h hq N 0 0 _ _ _ _ _ _ _ _ _ _ _ M8 (Nat.zero_le _) (by omega) C8 L8 r6 T0 (fun j hj => absurd hj (Nat.not_lt_zero _))
  exact ⟨gN, gr, fr, od, kt, M', a1, a2, a3, F8.trans fun a ha => ⟨funext fun j => (a4.2 a j (fun z => ha z)).1, funext fun j => (a4.2 a j (fun z => ha z)).2, by rw [a4.1]⟩, by rw [a4.1]; exact r6⟩
end tok
