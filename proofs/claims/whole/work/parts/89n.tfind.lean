-- the class finds the groups
section tok
variable {G : Gr} {t : TR} {ce : Nat → Nat → Nat} {me : Nat → Nat}
variable {c w τ oN pN gN : Nat} {mk lw O P Q gr fr od : Nat → Nat} {kt : Nat → Bool} {M : Mm}
theorem KM1.rest (K : KM1 c w τ mk lw oN O pN P Q gN gr M) {q : Nat} {M' : Mm} (f : FX (fun b j => b = c + 9 ∧ j = pN - 1) M M') (hm : ¬ pN = 0 → M'.1 (c + 9) (pN - 1) = nI q) : KM1 c w τ mk lw oN O pN P (st1 Q (pN - 1) q) gN gr M' := by
  obtain ⟨⟨a1, a2, a3, a4, a5⟩, b1, b2, b3⟩ := K
  refine ⟨⟨(f.2 c 14 (fun z => by omega)).1.trans a1, (f.2 c 10 (fun z => by omega)).1.trans a2, (f.2 c 13 (fun z => by omega)).1.trans a3, (f.2 c 4 (fun z => by omega)).1.trans a4, by rw [f.1]; exact a5⟩, fun x hx => ⟨(f.2 _ _ (fun z => by omega)).1.trans (b1 x hx).1, (f.2 _ _ (fun z => by omega)).1.trans (b1 x hx).2.1, fun hm => (f.2 _ _ (fun z => by omega)).1.trans ((b1 x hx).2.2 hm)⟩, fun a ha => (f.2 _ _ (fun z => by omega)).1.trans (b2 a ha), fun s hs => ⟨(f.2 _ _ (fun z => by omega)).1.trans (b3 s hs).1, ?_⟩⟩
  rw [st1_t]
  by_cases z : s = pN - 1
  · rw [if_pos z, z]; exact hm (by omega)
  · rw [if_neg z, (f.2 _ _ (fun y => by omega)).1]; exact (b3 s hs).2
theorem cnt_32 (f : Nat → Bool) : cnt f 32 ≤ 32 := cnt_le f 32
/-- a bit less to look at -/
theorem cnt_q {q q' z : Nat} (hz : z < 32) (h1 : q.testBit z = true) (h2 : ∀ j, q'.testBit j = (q.testBit j && !decide (j = z))) : cnt (fun o => q.testBit o) 32 = cnt (fun o => q'.testBit o) 32 + 1 := cnt_one (f := fun o => q'.testBit o) (g := fun o => q.testBit o) z hz (fun i _ hi => by show q'.testBit i = q.testBit i; rw [h2, decide_eq_false hi, Bool.not_false, Bool.and_true]) (by show q'.testBit z = false; rw [h2, decide_eq_true rfl, Bool.not_true, Bool.and_false]) h1
theorem mu_q {q : Nat} (hp : 0 < pN) : psum (fun s => cnt (fun o => (st1 Q (pN - 1) q s).testBit o) 32 + 1) pN + cnt (fun o => (Q (pN - 1)).testBit o) 32 = psum (fun s => cnt (fun o => (Q s).testBit o) 32 + 1) pN + cnt (fun o => q.testBit o) 32 := by
  have := psum_one (f := fun s => cnt (fun o => (st1 Q (pN - 1) q s).testBit o) 32 + 1) (g := fun s => cnt (fun o => (Q s).testBit o) 32 + 1) (n := pN) (pN - 1) (by omega) (fun i _ hi => by show cnt (fun o => (st1 Q (pN - 1) q i).testBit o) 32 + 1 = _; rw [st1_n hi])
  simp only [st1_s] at this
  omega
theorem psum_top {f : Nat → Nat} (hp : 0 < pN) : psum f pN = psum f (pN - 1) + f (pN - 1) := by
  obtain ⟨p, rfl⟩ : ∃ p, pN = p + 1 := ⟨pN - 1, by omega⟩
  rfl
/-- one bit of the top is looked at -/
theorem t_look (N : Nat) (hN : 2000 < N) (hc : c = 106 ∨ c = 122) (hw : w = 69 ∨ w = 87) (h : TOK2 G t ce me) (hq : QG G) (L : CLk w G t ce me M) (T : TA G t ce c w τ mk lw oN O pN P Q gN gr fr od kt M) (hp : 0 < pN) (hQ : ¬ Q (pN - 1) = 0) :
    ∃ τ' mk' lw' oN' O' pN' P' Q' M', ((stI 320 (c + 9) (nI (pN - 1)) (nI (Q (pN - 1)) &&& (nI (Q (pN - 1)) - nI 1)) M).bind fun M5 => (rf M5 c 6 8).bind fun r1 => (rf M5 c 6 8).bind fun r2 => (ldI 320 (r2 + 13) (nI (P (pN - 1))) M5).bind fun v3 => (D_J6_numberOfTrailingZeros_0f7a4 N (nI (Q (pN - 1))) M5).bind fun q1 => (D_X8_instance N r1 v3 q1 M5).bind fun q2 => D_X4_look N c (nI (P (pN - 1))) q2 M5) = some M' ∧ TA G t ce c w τ' mk' lw' oN' O' pN' P' Q' gN gr fr od kt M' ∧ muT τ' pN' Q' + 1 ≤ muT τ pN Q ∧ (∀ x, ¬ mk x = 0 → ¬ mk' x = 0) ∧ FX (PKf c) M M' := by
  obtain ⟨l1, l2, l3, l4, l5⟩ := T.lt h
  have p1 := T.pLe
  have T' := T
  obtain ⟨Z, K1, K2, I, J, e1, e2⟩ := T
  obtain ⟨u1, u2⟩ := (Z.2.2.2.1 (pN - 1) (by omega)).1
  have u3 := l3 (pN - 1) (by omega)
  have thu := (Z.1 _).2.1 u1
  obtain ⟨u8, _⟩ := th_320 h thu
  have sub := (Z.2.2.2.1 (pN - 1) (by omega)).2.1
  have qlt : Q (pN - 1) < 2 ^ 32 := lt_of_bits fun i hi => (ak_told hq h thu (sub i hi)).2.2.1
  obtain ⟨z1, z2, z3, _⟩ := low_of qlt hQ
  have hb := sub _ z2
  obtain ⟨b1, b2, b3, b4, b5⟩ := ak_told hq h thu hb
  obtain ⟨s1, s2⟩ := in_us hq h.1 b2 b4
  obtain ⟨v8, v3⟩ := th_320 h s2
  have hv3 : scT G t ce (P (pN - 1)) (tzT (Q (pN - 1))) < 320 := v3
  have f5 : FX (fun b j => b = c + 9 ∧ j = pN - 1) M (upI M (c + 9) (pN - 1) (nI (Q (pN - 1) &&& (Q (pN - 1) - 1)))) := FX.I ⟨rfl, rfl⟩
  have F5 : FX (PKf c) M (upI M (c + 9) (pN - 1) (nI (Q (pN - 1) &&& (Q (pN - 1) - 1)))) := f5.mono fun b j z => by unfold PKf; omega
  have m5 : (upI M (c + 9) (pN - 1) (nI (Q (pN - 1) &&& (Q (pN - 1) - 1)))).1 (c + 9) (pN - 1) = nI (Q (pN - 1) &&& (Q (pN - 1) - 1)) := upI_s _ _ _ _
  have K5 := K1.rest f5 (fun _ => m5)
  have K25 := K2.fx f5 (fun z => by omega) (fun b j _ _ _ z => by omega)
  have L5 := L.kf hc hw F5
  obtain ⟨w1, w2, w3⟩ := L5.2.2 _ u8
  rw [n_sub (show 1 ≤ Q (pN - 1) by omega), n_and, stI_n (by omega) (by omega), Option.bind_some]
  generalize upI M (c + 9) (pN - 1) (nI (Q (pN - 1) &&& (Q (pN - 1) - 1))) = M5 at f5 F5 m5 K5 K25 L5 w1 w2 w3
  rw [K5.w hw, Option.bind_some, Option.bind_some, ldI_n u3 (by omega), w1, Option.bind_some, s_ntz N M5 qlt hQ, Option.bind_some, nP_s (by omega), s_instance N hq h L5 b2 (by omega) s1, Option.bind_some]
  show ∃ τ' mk' lw' oN' O' pN' P' Q' M', D_X4_look N c (nI (P (pN - 1))) (nI (scT G t ce (P (pN - 1)) (tzT (Q (pN - 1))))) M5 = some M' ∧ _
  have hcq := cnt_q z1 z2 z3
  have hmq := mu_q (Q := Q) (q := Q (pN - 1) &&& (Q (pN - 1) - 1)) hp
  have mkv := (Z.1 (scT G t ce (P (pN - 1)) (tzT (Q (pN - 1))))).1
  unfold D_X4_look
  rw [ldI_n hv3 (by omega), (K5.2.1 _ hv3).1, Option.bind_some]
  simp only [n_eq (show mk (scT G t ce (P (pN - 1)) (tzT (Q (pN - 1)))) < 2 ^ 31 by omega) (show 0 < 2 ^ 31 by omega)]
  by_cases m0 : mk (scT G t ce (P (pN - 1)) (tzT (Q (pN - 1)))) = 0
  · rw [if_pos m0]
    obtain ⟨M', s1, s2, s3⟩ := t_enter N hc hw h L T' (Q (pN - 1) &&& (Q (pN - 1) - 1)) f5 (fun _ => m5) (v := scT G t ce (P (pN - 1)) (tzT (Q (pN - 1)))) s2 m0 (Or.inr ⟨_, hb, rfl, z3⟩)
    have tl := (T'.vis hv3 m0).1
    rw [s1, Option.bind_some]
    refine ⟨_, _, _, _, _, _, _, _, M', rfl, s2, ?_, fun x hx => ?_, s3⟩
    · unfold muT
      have a1 : psum (fun s => cnt (fun o => (st1 (st1 Q (pN - 1) (Q (pN - 1) &&& (Q (pN - 1) - 1))) pN (akT G t (scT G t ce (P (pN - 1)) (tzT (Q (pN - 1))))) s).testBit o) 32 + 1) (pN + 1) = psum (fun s => cnt (fun o => (st1 Q (pN - 1) (Q (pN - 1) &&& (Q (pN - 1) - 1)) s).testBit o) 32 + 1) pN + (cnt (fun o => (akT G t (scT G t ce (P (pN - 1)) (tzT (Q (pN - 1))))).testBit o) 32 + 1) := by
        show psum _ pN + (cnt (fun o => (st1 (st1 Q (pN - 1) (Q (pN - 1) &&& (Q (pN - 1) - 1))) pN (akT G t (scT G t ce (P (pN - 1)) (tzT (Q (pN - 1))))) pN).testBit o) 32 + 1) = _
        rw [st1_s, psum_congr (f := fun s => cnt (fun o => (st1 (st1 Q (pN - 1) (Q (pN - 1) &&& (Q (pN - 1) - 1))) pN (akT G t (scT G t ce (P (pN - 1)) (tzT (Q (pN - 1))))) s).testBit o) 32 + 1) (g := fun s => cnt (fun o => (st1 Q (pN - 1) (Q (pN - 1) &&& (Q (pN - 1) - 1)) s).testBit o) 32 + 1) fun i hi => by
          show cnt (fun o => (st1 (st1 Q _ _) pN _ i).testBit o) 32 + 1 = _
          rw [st1_n (show ¬ i = pN by omega)]]
      have a2 := cnt_32 (fun o => (akT G t (scT G t ce (P (pN - 1)) (tzT (Q (pN - 1))))).testBit o)
      rw [a1]
      omega
    · rw [st1_n (fun e => hx (by rw [e]; exact m0))]; exact hx
  · rw [if_neg m0, ldI_n hv3 (by omega), (K5.2.1 _ hv3).2.1, Option.bind_some]
    have Z' := z_see Z hp hb z3 m0
    have mm : muT τ pN (st1 Q (pN - 1) (Q (pN - 1) &&& (Q (pN - 1) - 1))) + 1 ≤ muT τ pN Q := by unfold muT; omega
    by_cases g0 : gr (scT G t ce (P (pN - 1)) (tzT (Q (pN - 1)))) = 0
    · have lu := l5 _ u1 u2
      rw [if_pos g0] at Z'
      rw [g0, show nP 0 = m1 from rfl, if_pos rfl, ldI_n u3 (by omega), (K5.2.1 _ u3).2.2 u1, Option.bind_some, Option.bind_some, mn_n (by omega) (by omega), stI_n u3 (by omega), Option.bind_some]
      have f6 : FX (fun b j => b = c + 6 ∧ j = P (pN - 1)) M5 (upI M5 (c + 6) (P (pN - 1)) (nI (if mk (scT G t ce (P (pN - 1)) (tzT (Q (pN - 1)))) < lw (P (pN - 1)) then mk (scT G t ce (P (pN - 1)) (tzT (Q (pN - 1)))) else lw (P (pN - 1))))) := FX.I ⟨rfl, rfl⟩
      exact ⟨_, _, _, _, _, _, _, _, _, rfl, ⟨Z', K5.low f6 u3 (fun x => rfl) (upI_s _ _ _ _), K25.fx f6 (fun z => by omega) (fun b j _ _ _ z => by omega), I, J, e1, e2⟩, mm, fun x hx => hx, F5.trans (f6.mono fun b j z => by unfold PKf; omega)⟩
    · have gl := ((Z.1 _).2.2 g0).2
      have gN3 : gN ≤ 320 := by have := I.mono gN 0 (by omega); rw [Nat.zero_add] at this; omega
      rw [if_neg g0] at Z'
      rw [nP_s (by omega), if_neg (n_ne_m1 (by omega))]
      exact ⟨_, _, _, _, _, _, _, _, _, rfl, ⟨Z', K5, K25, I, J, e1, e2⟩, mm, fun x hx => hx, F5⟩
/-- the path is gone through -/
theorem t_explore (N : Nat) (hN : 2000 < N) (hc : c = 106 ∨ c = 122) (hw : w = 69 ∨ w = 87) (h : TOK2 G t ce me) (hq : QG G) : ∀ (fu l2 : Nat) (τ : Nat) (mk lw : Nat → Nat) (oN : Nat) (O : Nat → Nat) (pN : Nat) (P Q : Nat → Nat) (gN : Nat) (gr fr od : Nat → Nat) (kt : Nat → Bool) (M : Mm), CLk w G t ce me M → TA G t ce c w τ mk lw oN O pN P Q gN gr fr od kt M → muT τ pN Q + l2 ≤ 10880 → 10881 < l2 + fu → ∃ τ' mk' lw' oN' O' P' Q' gN' gr' fr' od' kt' M', L_X4_explore_12 c N fu (nI l2) M = some M' ∧ TA G t ce c w τ' mk' lw' oN' O' 0 P' Q' gN' gr' fr' od' kt' M' ∧ (∀ x, ¬ mk x = 0 → ¬ mk' x = 0) ∧ FX (PKf c) M M'
  | 0, l2, τ, mq, lw, oN, O, pN, P, Q, gN, gr, fr, od, kt, M, L, T, hm, hf => by omega
  | fu + 1, l2, τ, mq, lw, oN, O, pN, P, Q, gN, gr, fr, od, kt, M, L, T, hm, hf => by
    have p1 := T.pLe
    obtain ⟨l1, l2', l3, l4, l5⟩ := T.lt h
    have K1 := T.2.1
    rw [L_X4_explore_12]
    by_cases z : pN = 0
    · subst z
      refine ⟨_, _, _, _, _, _, _, _, _, _, _, _, M, ?_, T, fun x hx => hx, FX.refl⟩
      rw [K1.1.2.2.1]
      split
      · rfl
      · rw [if_pos (show nI 0 ≤ nI 0 by decide +kernel)]
    · have m1' : 1 ≤ muT τ pN Q := by unfold muT; rw [psum_top (by omega)]; omega
      simp only [n_le (show 10880 < 2 ^ 31 by omega) (show l2 < 2 ^ 31 by omega)]
      rw [if_neg (by omega), K1.1.2.2.1]
      simp only [n_le (show pN < 2 ^ 31 by omega) (show 0 < 2 ^ 31 by omega)]
      obtain ⟨r1, r2⟩ := K1.2.2.2 (pN - 1) (by omega)
      have Z := T.1
      obtain ⟨u1, u2⟩ := (Z.2.2.2.1 (pN - 1) (by omega)).1
      have qlt : Q (pN - 1) < 2 ^ 32 := lt_of_bits fun i hi => (ak_told hq h ((Z.1 _).2.1 u1) ((Z.2.2.2.1 (pN - 1) (by omega)).2.1 i hi)).2.2.1
      rw [if_neg (by omega), n_sub (by omega), ldI_n (k := pN - 1) (by omega) (by omega), r1, Option.bind_some, ldI_n (k := pN - 1) (by omega) (by omega), r2, Option.bind_some]
      by_cases q0 : Q (pN - 1) = 0
      · rw [if_pos (by rw [q0])]
        obtain ⟨lw', oN', gN', gr', fr', od', kt', M', s1, s2, s3⟩ := t_leave N hN hc hw h hq L T (by omega) q0
        rw [s1, Option.bind_some, Option.bind_some, nI_add]
        have mm : muT τ (pN - 1) Q + 1 ≤ muT τ pN Q := by unfold muT; rw [psum_top (pN := pN) (by omega)]; omega
        obtain ⟨τ2, mk2, lw2, oN2, O2, P2, Q2, gN2, gr2, fr2, od2, kt2, M2, d1, d2, d3, d4⟩ := t_explore N hN hc hw h hq fu (l2 + 1) τ mq lw' oN' O (pN - 1) P Q gN' gr' fr' od' kt' M' (L.kf hc hw s3) s2 (by omega) (by omega)
        exact ⟨τ2, mk2, lw2, oN2, O2, P2, Q2, gN2, gr2, fr2, od2, kt2, M2, d1, d2, d3, s3.trans d4⟩
      · rw [if_neg (fun y => q0 (n_inj qlt (by decide) y))]
        obtain ⟨τ', mk', lw', oN', O', pN', P', Q', M', s1, s2, s3, s4, s5⟩ := t_look N hN hc hw h hq L T (by omega) q0
        have e : ∀ X : Option Mm, X = some M' → (X.bind fun M6 => (some (nI l2 + nI 1)).bind fun l2_3 => L_X4_explore_12 c N fu l2_3 M6) = L_X4_explore_12 c N fu (nI (l2 + 1)) M' := fun X hX => by rw [hX, Option.bind_some, Option.bind_some, nI_add]
        have e2 := e _ s1
        simp only [Option.bind_assoc] at e2
        obtain ⟨τ2, mk2, lw2, oN2, O2, P2, Q2, gN2, gr2, fr2, od2, kt2, M2, d1, d2, d3, d4⟩ := t_explore N hN hc hw h hq fu (l2 + 1) τ' mk' lw' oN' O' pN' P' Q' gN gr fr od kt M' (L.kf hc hw s5) s2 (by omega) (by omega)
        refine ⟨τ2, mk2, lw2, oN2, O2, P2, Q2, gN2, gr2, fr2, od2, kt2, M2, ?_, d2, fun x hx => d3 x (s4 x hx), s5.trans d4⟩
        rw [← d1]
        exact e2
end tok
