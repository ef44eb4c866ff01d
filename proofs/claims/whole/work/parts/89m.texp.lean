-- the class's search for groups, whole
def scT (G : Gr) (t : TR) (ce : Nat → Nat → Nat) (v o : Nat) : Nat := inT ce (bsT G t v - 1) o
def sfT (G : Gr) (t : TR) (v : Nat) : Bool := (akT G t v).testBit (ocT G t v)
def TA (G : Gr) (t : TR) (ce : Nat → Nat → Nat) (c w τ : Nat) (mk lw : Nat → Nat) (oN : Nat) (O : Nat → Nat) (pN : Nat) (P Q : Nat → Nat) (gN : Nat) (gr fr od : Nat → Nat) (kt : Nat → Bool) (M : Mm) : Prop :=
  ZI (thT G t) (akT G t) (scT G t ce) τ mk lw oN O pN P Q gN gr ∧ KM1 c w τ mk lw oN O pN P Q gN gr M ∧ KM2 c gN fr od kt M ∧ OI gN gr fr od ∧ KTI gN fr od (sfT G t) kt ∧ fr gN + oN = τ ∧ τ = cnt (fun v => !decide (mk v = 0)) 320
section tok
variable {G : Gr} {t : TR} {ce : Nat → Nat → Nat} {me : Nat → Nat}
variable {c w τ oN pN gN : Nat} {mk lw O P Q gr fr od : Nat → Nat} {kt : Nat → Bool} {M : Mm}
theorem TA.lt (h : TOK2 G t ce me) (T : TA G t ce c w τ mk lw oN O pN P Q gN gr fr od kt M) : (∀ v, ¬ mk v = 0 → v < 320) ∧ (∀ b, b < oN → O b < 320) ∧ (∀ s, s < pN → P s < 320) ∧ τ ≤ 320 ∧ (∀ v, ¬ mk v = 0 → gr v = 0 → lw v ≤ 320) := by
  obtain ⟨Z, K1, K2, I, J, e1, e2⟩ := T
  have a : ∀ v, ¬ mk v = 0 → v < 320 := fun v hv => (th_320 h ((Z.1 v).2.1 hv)).2
  have b : τ ≤ 320 := by rw [e2]; exact cnt_le _ _
  exact ⟨a, fun b hb => a _ (Z.2.1.1 b hb).1, fun s hs => a _ (Z.2.2.2.1 s hs).1.1, b, fun v hv gv => by have := (Z.2.2.2.2.2.1 v hv gv).1; have := (Z.1 v).1; omega⟩
theorem TA.pLe (T : TA G t ce c w τ mk lw oN O pN P Q gN gr fr od kt M) : pN ≤ τ := by
  obtain ⟨Z, _⟩ := T
  by_cases z : pN = 0
  · omega
  · have a := Z.pm (pN - 1) 0 (by omega)
    have b := (Z.2.2.2.1 0 (by omega)).1.1
    have d := (Z.1 (P (pN - 1))).1
    rw [Nat.zero_add] at a; omega
theorem TA.oLe (T : TA G t ce c w τ mk lw oN O pN P Q gN gr fr od kt M) : oN ≤ τ := by have := T.2.2.2.2.2.1; omega
theorem TA.vis (T : TA G t ce c w τ mk lw oN O pN P Q gN gr fr od kt M) {v : Nat} (hv : v < 320) (h0 : mk v = 0) : τ < 320 ∧ τ + 1 = cnt (fun x => !decide (st1 mk v (τ + 1) x = 0)) 320 := by
  have e := T.2.2.2.2.2.2
  have := cnt_one (f := fun x => !decide (mk x = 0)) (g := fun x => !decide (st1 mk v (τ + 1) x = 0)) (n := 320) v hv (fun i _ hi => by show (!decide (mk i = 0)) = !decide (st1 mk v (τ + 1) i = 0); rw [st1_n hi]) (by show (!decide (mk v = 0)) = false; rw [decide_eq_true h0]; rfl) (by show (!decide (st1 mk v (τ + 1) v = 0)) = true; rw [st1_s, decide_eq_false (by omega)]; rfl)
  have l := cnt_le (fun x => !decide (st1 mk v (τ + 1) x = 0)) 320
  omega
def PKf (c b _j : Nat) : Prop := c ≤ b ∧ b ≤ c + 9
theorem CLk.kf {M' : Mm} (hc : c = 106 ∨ c = 122) (hw : w = 69 ∨ w = 87) (h : CLk w G t ce me M) (f : FX (PKf c) M M') : CLk w G t ce me M' := h.fx f fun b j z q => by unfold PKf at q; omega
theorem CT.kf {M' : Mm} (hc : c = 106 ∨ c = 122) (hw : w = 69 ∨ w = 87) (h : CT w G t M) (f : FX (PKf c) M M') : CT w G t M' := h.fx f fun k j k1 _ q => by unfold PKf at q; omega
theorem KM2.fx {P' : Nat → Nat → Prop} {M' : Mm} (h : KM2 c gN fr od kt M) (f : FX P' M M') (h1 : ¬ P' c 5) (h2 : ∀ b j, c + 1 ≤ b → b ≤ c + 4 → ¬ b = c + 3 → ¬ P' b j) : KM2 c gN fr od kt M' := ⟨(f.2 c 5 h1).1.trans h.1, fun g hg => (f.2 _ _ (h2 _ _ (by omega) (by omega) (by omega))).1.trans (h.2.1 g hg), fun m hm => (f.2 _ _ (h2 _ _ (by omega) (by omega) (by omega))).1.trans (h.2.2.1 m hm), fun g hg => (f.2 _ _ (h2 _ _ (by omega) (by omega) (by omega))).1.trans (h.2.2.2 g hg)⟩
/-- a vertex comes -/
theorem t_enter (N : Nat) (hc : c = 106 ∨ c = 122) (hw : w = 69 ∨ w = 87) (h : TOK2 G t ce me) (L : CLk w G t ce me M) (T : TA G t ce c w τ mk lw oN O pN P Q gN gr fr od kt M) {M0 : Mm} (q : Nat) (f0 : FX (fun b j => b = c + 9 ∧ j = pN - 1) M M0) (hq0 : ¬ pN = 0 → M0.1 (c + 9) (pN - 1) = nI q) {v : Nat} (hv : thT G t v) (h0 : mk v = 0) (hp : pN = 0 ∨ ∃ o, (akT G t (P (pN - 1))).testBit o = true ∧ scT G t ce (P (pN - 1)) o = v ∧ ∀ o', q.testBit o' = ((Q (pN - 1)).testBit o' && !decide (o' = o))) :
    ∃ M', D_X4_enter N c (nI v) M0 = some M' ∧ TA G t ce c w (τ + 1) (st1 mk v (τ + 1)) (st1 lw v (τ + 1)) (oN + 1) (st1 O oN v) (pN + 1) (st1 P pN v) (st1 (st1 Q (pN - 1) q) pN (akT G t v)) gN gr fr od kt M' ∧ FX (PKf c) M M' := by
  obtain ⟨v8, v3⟩ := th_320 h hv
  obtain ⟨t1, t2⟩ := T.vis v3 h0
  have p1 := T.pLe
  have o1 := T.oLe
  obtain ⟨Z, K1, K2, I, J, e1, e2⟩ := T
  have Z' := z_enter Z hv h0 q hp
  have K0 : KM1 c w τ mk lw oN O pN P (st1 Q (pN - 1) q) gN gr M0 := by
    obtain ⟨⟨a1, a2, a3, a4, a5⟩, b1, b2, b3⟩ := K1
    refine ⟨⟨(f0.2 c 14 (fun z => by omega)).1.trans a1, (f0.2 c 10 (fun z => by omega)).1.trans a2, (f0.2 c 13 (fun z => by omega)).1.trans a3, (f0.2 c 4 (fun z => by omega)).1.trans a4, by rw [f0.1]; exact a5⟩, fun x hx => ⟨(f0.2 _ _ (fun z => by omega)).1.trans (b1 x hx).1, (f0.2 _ _ (fun z => by omega)).1.trans (b1 x hx).2.1, fun hm => (f0.2 _ _ (fun z => by omega)).1.trans ((b1 x hx).2.2 hm)⟩, fun a ha => (f0.2 _ _ (fun z => by omega)).1.trans (b2 a ha), fun s hs => ⟨(f0.2 _ _ (fun z => by omega)).1.trans (b3 s hs).1, ?_⟩⟩
    rw [st1_t]
    by_cases z : s = pN - 1
    · rw [if_pos z, z]; exact hq0 (by omega)
    · rw [if_neg z, (f0.2 _ _ (fun y => by omega)).1]; exact (b3 s hs).2
  have ha : M0.1 (w + 15) v = nI (akT G t v) := (f0.2 (w + 15) v (fun z => by clear hp Z'; omega)).1.trans (L.2.2 v v8).2.2
  obtain ⟨M', s1, s2, s3⟩ := s_enter (ak := akT G t) N hc hw K0 v3 (by omega) (by omega) ha
  refine ⟨M', s1, ⟨Z', s2, ?_, I, J, by omega, t2⟩, (f0.mono fun b j z => by unfold PKf; omega).trans (s3.mono fun b j z => by unfold PKf; omega)⟩
  exact (K2.fx f0 (fun z => by omega) (fun b j _ _ _ z => by omega)).fx s3 (fun z => by omega) (fun b j _ _ _ z => by omega)
/-- how much is left to do -/
def muT (τ pN : Nat) (Q : Nat → Nat) : Nat := psum (fun s => cnt (fun o => (Q s).testBit o) 32 + 1) pN + 33 * (320 - τ)
theorem KM1.low {l' : Nat → Nat} {u v : Nat} {M' : Mm} (K : KM1 c w τ mk lw oN O pN P Q gN gr M) (f : FX (fun b j => b = c + 6 ∧ j = u) M M') (hu : u < 320) (e : ∀ x, l' x = if x = u then v else lw x) (hm : M'.1 (c + 6) u = nI v) : KM1 c w τ mk l' oN O pN P Q gN gr M' := by
  obtain ⟨⟨a1, a2, a3, a4, a5⟩, b1, b2, b3⟩ := K
  refine ⟨⟨(f.2 c 14 (fun z => by omega)).1.trans a1, (f.2 c 10 (fun z => by omega)).1.trans a2, (f.2 c 13 (fun z => by omega)).1.trans a3, (f.2 c 4 (fun z => by omega)).1.trans a4, by rw [f.1]; exact a5⟩, fun x hx => ⟨(f.2 _ _ (fun z => by omega)).1.trans (b1 x hx).1, (f.2 _ _ (fun z => by omega)).1.trans (b1 x hx).2.1, fun hm' => ?_⟩, fun a ha => (f.2 _ _ (fun z => by omega)).1.trans (b2 a ha), fun s hs => ⟨(f.2 _ _ (fun z => by omega)).1.trans (b3 s hs).1, (f.2 _ _ (fun z => by omega)).1.trans (b3 s hs).2⟩⟩
  rw [e]
  by_cases z : x = u
  · rw [if_pos z, z]; exact hm
  · rw [if_neg z, (f.2 _ _ (fun y => by omega)).1]; exact (b1 x hx).2.2 hm'
theorem KM1.pop (K : KM1 c w τ mk lw oN O pN P Q gN gr M) {p : Nat} (hp : p ≤ pN) : KM1 c w τ mk lw oN O p P Q gN gr (upI M c 13 (nI p)) := by
  obtain ⟨⟨a1, a2, a3, a4, a5⟩, b1, b2, b3⟩ := K
  refine ⟨⟨by rw [upI_j, if_neg (by decide)]; exact a1, by rw [upI_j, if_neg (by decide)]; exact a2, upI_s _ _ _ _, by rw [upI_j, if_neg (by decide)]; exact a4, by rw [up2]; exact a5⟩, fun x hx => ⟨by rw [upI_n (by omega)]; exact (b1 x hx).1, by rw [upI_n (by omega)]; exact (b1 x hx).2.1, fun hm => by rw [upI_n (by omega)]; exact (b1 x hx).2.2 hm⟩, fun a ha => by rw [upI_n (by omega)]; exact b2 a ha, fun s hs => ⟨by rw [upI_n (by omega)]; exact (b3 s (by omega)).1, by rw [upI_n (by omega)]; exact (b3 s (by omega)).2⟩⟩
/-- the top leaves -/
theorem t_leave (N : Nat) (hN : 2000 < N) (hc : c = 106 ∨ c = 122) (hw : w = 69 ∨ w = 87) (h : TOK2 G t ce me) (hq : QG G) (L : CLk w G t ce me M) (T : TA G t ce c w τ mk lw oN O pN P Q gN gr fr od kt M) (hp : 0 < pN) (hQ : Q (pN - 1) = 0) :
    ∃ lw' oN' gN' gr' fr' od' kt' M', D_X4_leave N c (nI (P (pN - 1))) M = some M' ∧ TA G t ce c w τ mk lw' oN' O (pN - 1) P Q gN' gr' fr' od' kt' M' ∧ FX (PKf c) M M' := by
  obtain ⟨l1, l2, l3, l4, l5⟩ := T.lt h
  have p1 := T.pLe
  have o1 := T.oLe
  obtain ⟨Z, K1, K2, I, J, e1, e2⟩ := T
  obtain ⟨u1, u2⟩ := (Z.2.2.2.1 (pN - 1) (by omega)).1
  have u3 := l3 (pN - 1) (by omega)
  have Kp := K1.pop (p := pN - 1) (by omega)
  have fp : FX (PKf c) M (upI M c 13 (nI (pN - 1))) := FX.I (by unfold PKf; omega)
  have K2p : KM2 c gN fr od kt (upI M c 13 (nI (pN - 1))) := K2.fx (P' := fun b j => b = c ∧ j = 13) (FX.I ⟨rfl, rfl⟩) (fun z => by omega) (fun b j _ _ _ z => by omega)
  have key : ∃ M2, (if (upI M c 13 (nI (pN - 1))).1 c 13 ≤ nI 0 then (some (upI M c 13 (nI (pN - 1)))) else ((ldI 320 (c + 8) ((upI M c 13 (nI (pN - 1))).1 c 13 - (nI 1)) (upI M c 13 (nI (pN - 1)))).bind fun v3 => (ldI 320 (c + 8) ((upI M c 13 (nI (pN - 1))).1 c 13 - (nI 1)) (upI M c 13 (nI (pN - 1)))).bind fun v4 => (ldI 320 (c + 6) v4 (upI M c 13 (nI (pN - 1)))).bind fun v5 => (ldI 320 (c + 6) (nI (P (pN - 1))) (upI M c 13 (nI (pN - 1)))).bind fun v6 => (stI 320 (c + 6) v3 (mnI v5 v6) (upI M c 13 (nI (pN - 1)))).bind fun M4 => (some M4))) = some M2 ∧ KM1 c w τ mk (zL lw P pN) oN O (pN - 1) P Q gN gr M2 ∧ KM2 c gN fr od kt M2 ∧ FX (PKf c) M M2 := by
    rw [upI_s]
    simp only [n_le (show pN - 1 < 2 ^ 31 by omega) (show 0 < 2 ^ 31 by omega)]
    by_cases z : pN = 1
    · rw [if_pos (by omega)]
      refine ⟨_, rfl, ?_, K2p, fp⟩
      unfold zL; rw [if_pos z]; exact Kp
    · obtain ⟨v1, v2⟩ := (Z.2.2.2.1 (pN - 2) (by omega)).1
      have v3 := l3 (pN - 2) (by omega)
      have lu := l5 _ u1 u2
      have lv := l5 _ v1 v2
      generalize hM1 : upI M c 13 (nI (pN - 1)) = M1 at Kp fp K2p
      rw [if_neg (by omega), n_sub (by omega), show pN - 1 - 1 = pN - 2 by omega, ldI_n (k := pN - 2) (by omega) (by omega), (Kp.2.2.2 (pN - 2) (by omega)).1, Option.bind_some, Option.bind_some, ldI_n (k := P (pN - 2)) (by omega) (by omega), (Kp.2.1 _ v3).2.2 v1, Option.bind_some, ldI_n (k := P (pN - 1)) (by omega) (by omega), (Kp.2.1 _ u3).2.2 u1, Option.bind_some, mn_n (by omega) (by omega), stI_n (by omega) (by omega), Option.bind_some]
      have f2 : FX (fun b j => b = c + 6 ∧ j = P (pN - 2)) M1 (upI M1 (c + 6) (P (pN - 2)) (nI (if lw (P (pN - 1)) < lw (P (pN - 2)) then lw (P (pN - 1)) else lw (P (pN - 2))))) := FX.I ⟨rfl, rfl⟩
      refine ⟨_, rfl, Kp.low f2 v3 (fun x => ?_) (upI_s _ _ _ _), K2p.fx f2 (fun z => by omega) (fun b j _ _ _ z => by omega), fp.trans (f2.mono fun b j z => by unfold PKf; omega)⟩
      unfold zL; rw [if_neg z]; rfl
  obtain ⟨M2, k1, k2, k3, k4⟩ := key
  unfold D_X4_leave
  rw [K1.1.2.2.1, n_sub (by omega), pI_n, Option.bind_some, k1, Option.bind_some, ldI_n u3 (by omega), (k2.2.1 _ u3).2.2 u1, Option.bind_some, ldI_n u3 (by omega), (k2.2.1 _ u3).1, Option.bind_some]
  have zu : zL lw P pN (P (pN - 1)) = lw (P (pN - 1)) := by
    unfold zL
    split
    · rfl
    · rw [st1_n (fun e => by have := Z.pinj (show pN - 1 < pN by omega) (show pN - 2 < pN by omega) e; omega)]
  have lu := l5 _ u1 u2
  have mu := (Z.1 (P (pN - 1))).1
  rw [zu]
  simp only [n_eq (show lw (P (pN - 1)) < 2 ^ 31 by omega) (show mk (P (pN - 1)) < 2 ^ 31 by omega)]
  by_cases b : lw (P (pN - 1)) = mk (P (pN - 1))
  · rw [if_pos b]
    obtain ⟨a, a1, a2⟩ := Z.2.2.1 _ u1 u2
    rw [← a2]
    obtain ⟨od', fr', kt', M', s1, s2, s3, s4, s5, s6, s7⟩ := s_bindT (sf := sfT G t) (a := a) N hN hc hw k2 k3 I J l2 (fun x y hx hy e => by
      by_cases z : x = y
      · exact z
      · exfalso
        by_cases z2 : x < y
        · have := Z.2.1.2 x y z2 hy; rw [e] at this; omega
        · have := Z.2.1.2 y x (by omega) hx; rw [e] at this; omega) a1 (by omega) (fun v => by
      by_cases z : gr v = 0
      · omega
      · exact ((Z.1 v).2.2 z).2) (fun x hx => (Z.2.1.1 x hx).2) (fun M' f => by
      have th := (Z.1 _).2.1 u1
      obtain ⟨v8, _⟩ := th_320 h th
      have L' := (L.kf hc hw k4).kf hc hw f
      obtain ⟨q1, q2, q3⟩ := L'.2.2 _ v8
      have oc := (TOK.occ hq h v8).2
      have r6 : rf M' c 6 8 = some w := by unfold rf; rw [f.1, k4.1, K1.1.2.2.2.2]; rcases hw with e | e <;> subst e <;> rfl
      unfold D_X4_hangsOnItself sfT
      rw [a2, r6, Option.bind_some, ldI_n u3 (by omega), q3, Option.bind_some, Option.bind_some, ldI_n u3 (by omega), q2, Option.bind_some, bitI (akT_lt hq h th) oc]
      simp only [bI_0]
      cases (akT G t (P (pN - 1))).testBit (ocT G t (P (pN - 1)))
      · rw [if_pos rfl]; rfl
      · rw [if_neg (by decide)]; rfl)
    have Z' := z_bind Z hp hQ b a1 a2 (gr' := gX O oN gN gr (oN - a)) (fun v ⟨x, x1, x2, x3⟩ => gX_in (by omega) ⟨x, by omega, x2, x3⟩) (fun v hv => gX_out (by omega) fun ⟨x, x1, x2, x3⟩ => hv ⟨x, by omega, x2, x3⟩)
    rw [s1, Option.bind_some]
    exact ⟨_, a, _, _, fr', od', kt', M', rfl, ⟨Z', s2, s3, s4, s5, by omega, e2⟩, k4.trans (s7.mono fun b j z => z)⟩
  · rw [if_neg b]
    exact ⟨_, oN, gN, gr, fr, od, kt, M2, rfl, ⟨(z_leave Z hp hQ b).1, k2, k3, I, J, e1, e2⟩, k4⟩
end tok
