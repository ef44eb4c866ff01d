-- the class reads a node's name and number
def SW (w : Nat) : Nat → Prop := fun a => a = 2 ∨ SN w a
def uC (first : Nat) (P0 : Int32) (u : Nat) : Int32 := if u = 0 then P0 else nI (first + u - 1)
/-- the tree reader's memory -/
def KT (T : List Tok) (w g : Nat) (G : Gr) (first bh : Nat) (P0 : Int32) (h : Nat) (t : TR) (M : Mm) : Prop :=
  TK T h M ∧ CG g G M ∧ (M.2.2 8 0 = 2 ∧ M.2.2 8 1 = g ∧ M.2.2 8 2 = w ∧ M.1 8 3 = nI bh) ∧ M.1 w 0 = nI (first + tn t) ∧ first + bh + tn t ≤ 40 ∧
  ∀ e, e < tn t → CN w G (first + e) (tp t e) (to' t e) (uC first P0 (tu t e)) (tq t e) (td t e - 1) M ∧ tp t e < G.i 0 1 ∧ tu t e ≤ e ∧ 1 ≤ td t e ∧ td t e ≤ 12 ∧ (e = 0 ∨ 1 ≤ tu t e ∧ td t e = td t (tu t e - 1) + 1)
def TF (w : Nat) (e : Nat × Nat) (M M' : Mm) : Prop := M'.1 2 9 = nI e.1 ∧ M'.1 2 10 = nI e.2 ∧ Fr (SW w) M M' ∧ M'.1 2 6 = M.1 2 6
theorem TF.pre {w : Nat} {e : Nat × Nat} {M M1 M' : Mm} (h : Fr (SW w) M M1) (h6 : M1.1 2 6 = M.1 2 6) (f : TF w e M1 M') : TF w e M M' := ⟨f.1, f.2.1, h.trans f.2.2.1, f.2.2.2.trans h6⟩
theorem KT.t {T : List Tok} {w g first bh h : Nat} {P0 : Int32} {G : Gr} {t : TR} {M : Mm} (K : KT T w g G first bh P0 h t M) : rf M 8 0 7 = some 2 := by unfold rf; rw [K.2.2.1.1]; rfl
theorem KT.g {T : List Tok} {w g first bh h : Nat} {P0 : Int32} {G : Gr} {t : TR} {M : Mm} (hg : g = 35 ∨ g = 52) (K : KT T w g G first bh P0 h t M) : rf M 8 1 1 = some g := by unfold rf; rw [K.2.2.1.2.1]; rcases hg with e | e <;> subst e <;> rfl
theorem KT.w {T : List Tok} {w g first bh h : Nat} {P0 : Int32} {G : Gr} {t : TR} {M : Mm} (hw : w = 69 ∨ w = 87) (K : KT T w g G first bh P0 h t M) : rf M 8 2 8 = some w := by unfold rf; rw [K.2.2.1.2.2.1]; rcases hw with e | e <;> subst e <;> rfl
theorem KT.h {T : List Tok} {w g first bh h : Nat} {P0 : Int32} {G : Gr} {t : TR} {M : Mm} (K : KT T w g G first bh P0 h t M) : h < T.length := K.1.h
/-- the tape goes on -/
theorem KT.tape {T : List Tok} {w g first bh h h' : Nat} {P0 : Int32} {G : Gr} {t : TR} {M M' : Mm} (hg : g = 35 ∨ g = 52) (hw : w = 69 ∨ w = 87) (K : KT T w g G first bh P0 h t M) (h1 : TK T h' M') (f : Fr S1 M M') : KT T w g G first bh P0 h' t M' := by
  obtain ⟨k1, k2, k3, k4, k5, k6⟩ := K
  have e8 := f 8 (by unfold S1; omega)
  refine ⟨h1, k2.fr f (fun k hk q => by unfold S1 at q; omega), by rw [e8.2.2, e8.1]; exact k3, by rw [(f w (fun q => by unfold S1 at q; omega)).1]; exact k4, k5, fun e he => ?_⟩
  obtain ⟨a1, a2⟩ := k6 e he
  exact ⟨a1.of fun k _ _ => by rw [(f (w + k) (fun q => by unfold S1 at q; omega)).1], a2⟩
theorem S1.w {w a : Nat} (h : S1 a) : SW w a := Or.inl h
theorem kt_fail {n : Nat} {T : List Tok} {w g first bh h : Nat} {P0 : Int32} {G : Gr} {t : TR} {M : Mm} (N y : Nat) (hT : TT n T) (K : KT T w g G first bh P0 h t M) : ∃ M', D_X7_fail N 2 (nI y) M = some (nI 0, M') ∧ TF w (if (tk T h).1 = 4 then 1 else y, (tk T h).2.1) M M' := by
  obtain ⟨M', f, a1, a2, fr, kk, _⟩ := s_fail (y := y) N K.1 hT.w
  exact ⟨M', f, a1, a2, fr.mono fun a z => z.w, kk 6 (by decide) (by decide)⟩
theorem kt_adv {n : Nat} {T : List Tok} {w g first bh h : Nat} {P0 : Int32} {G : Gr} {t : TR} {M : Mm} (N : Nat) (hT : TT n T) (hg : g = 35 ∨ g = 52) (hw : w = 69 ∨ w = 87) (K : KT T w g G first bh P0 h t M) : ∃ M', D_X7_advance N 2 M = some M' ∧ KT T w g G first bh P0 (adv T h) t M' ∧ Fr (SW w) M M' ∧ M'.1 2 6 = M.1 2 6 := by
  obtain ⟨M', f, tk', fr, k2⟩ := s_adv N K.1 hT.w
  exact ⟨M', f, K.tape hg hw tk' fr, fr.mono fun a z => z.w, k2 6 (by decide) (by decide)⟩
def RTC (w : Nat) (Q : Nat → TR → Mm → Prop) (M : Mm) (r : RT) (x : Option (Int32 × Mm)) : Prop := match r with
  | .inl e => ∃ M', x = some (nI 0, M') ∧ TF w e M M'
  | .inr y => ∃ M', x = some (nI 1, M') ∧ Q y.1 y.2 M' ∧ Fr (SW w) M M' ∧ M'.1 2 6 = M.1 2 6
theorem kt_take {n : Nat} {T : List Tok} {w g first bh h c : Nat} {P0 : Int32} {G : Gr} {t : TR} {M : Mm} (N : Nat) (hT : TT n T) (hg : g = 35 ∨ g = 52) (hw : w = 69 ∨ w = 87) (hv : c < 2 ^ 31) (K : KT T w g G first bh P0 h t M) : RTC w (KT T w g G first bh P0) M (pSignT T c h t) (D_X7_takeSign N 2 (nI c) M) := by
  have s := s_takeSign (c := c) N K.1 hT.w hv (hT.c3 K.h)
  unfold pSignT isSn
  by_cases e : (tk T h).1 = 3 ∧ (tk T h).2.2.2 = c
  · rw [if_pos e] at s
    obtain ⟨M', f, a1, a2, a3⟩ := s
    rw [if_pos e]
    exact ⟨M', f, K.tape hg hw a1 a2, a2.mono fun a z => z.w, a3 6 (by decide) (by decide)⟩
  · rw [if_neg e] at s
    obtain ⟨M', f, a1, a2, a3, a4, _⟩ := s
    rw [if_neg e]
    exact ⟨M', f, a1, a2, a3.mono fun a z => z.w, a4 6 (by decide) (by decide)⟩
theorem tAdd_n (t : TR) (p o u q d : Nat) : tn (tAdd t p o u q d) = tn t + 1 := rfl
def UOK (w d : Nat) (u : Int32) (M : Mm) : Prop := (u = m1 ∧ d = 1) ∨ ∃ c', c' < 40 ∧ u = nI c' ∧ 2 ≤ d ∧ d ≤ 1000 ∧ M.1 (w + 5) c' = nI (d - 2)
theorem UOK.d {w d : Nat} {u : Int32} {M : Mm} (h : UOK w d u M) : 1 ≤ d := by
  rcases h with ⟨_, x⟩ | ⟨_, _, _, x, _⟩ <;> omega
def ndI (need : Nat) : Int32 := if need = 0 then m1 else nI (need - 1)
theorem s_hd {n : Nat} {T : List Tok} {w g first bh h u q d need : Nat} {P0 : Int32} {G : Gr} {t : TR} {M : Mm} (N : Nat) (hN : 2000 < N) (hT : TT n T) (hq : QG G) (hg : g = 35 ∨ g = 52) (hw : w = 69 ∨ w = 87) (hneed : need ≤ 8) (K : KT T w g G first bh P0 h t M) (hu : (u = 0 ∧ tn t = 0) ∨ (1 ≤ u ∧ u ≤ tn t ∧ d = td t (u - 1) + 1)) (hP : u = 0 → UOK w d P0 M) :
    RTC w (KT T w g G first bh P0) M (pHd T G (first + bh) need d u q h t) (D_X9_readNode N 8 (uC first P0 u) (nI q) (ndI need) M) := by
  have h0 : W0 G := hq.1
  obtain ⟨b1, b2, b3, b4, b5⟩ := h0
  have hk5 := K.2.2.2.2.1
  have hu' : UOK w d (uC first P0 u) M := by
    unfold uC
    rcases hu with ⟨u0, _⟩ | ⟨u1, u2, u3⟩
    · rw [if_pos u0]; exact hP u0
    · rw [if_neg (by omega)]
      obtain ⟨a, _, _, a3, a4, _⟩ := K.2.2.2.2.2 (u - 1) (by omega)
      have := a.2.2.2.2.1
      refine Or.inr ⟨first + u - 1, by omega, rfl, by omega, by omega, ?_⟩
      rw [show first + u - 1 = first + (u - 1) by omega, this, u3]
      congr 1
  have hd1 := hu'.d
  unfold D_X9_readNode pHd
  simp only [K.t, K.g hg, K.w hw, Option.bind_some]
  rw [s_isName N K.1 hT.w (hT.c1 K.h), Option.bind_some]
  simp only [bI_0]
  cases e1 : isNm (tk T h)
  · rw [if_neg (by decide), if_pos rfl]
    obtain ⟨M', f1, f2⟩ := kt_fail N 2 hT K
    rw [f1, Option.bind_some, retZ_0]; exact ⟨M', rfl, f2⟩
  · have hw63 := ok63 (nm_ok hT K.h e1)
    rw [if_pos rfl, if_neg (show ¬ true = false by decide), K.1.v, s_findProduction N hN K.2.1 b2 (fun j hj => ok63 (b5 j hj).1) hw63, Option.bind_some]
    simp only [fR_m1 (show G.i 0 1 < 2 ^ 31 by omega)]
    show RTC w _ M (if pnI G T h < G.i 0 1 then _ else _) (if ¬ pnI G T h < G.i 0 1 then _ else _)
    by_cases e2 : pnI G T h < G.i 0 1
    · rw [if_pos e2, if_neg (not_not_intro e2)]
      have hfr : fR (fi (G.l 3) (tk T h).2.2.2 (G.i 0 1)) (G.i 0 1) = nI (pnI G T h) := fR_n e2
      rw [hfr]
      have deep : (jn (fun (p75 : Unit) => (some (nI 0))) fun J2 => (if uC first P0 u = m1 then (J2 ()) else ((ldI 40 (w + 5) (uC first P0 u) M).bind fun v1 => (if (v1 + (nI 2)) ≤ (nI 12) then (J2 ()) else (some (nI 1)))))) = some (bI (decide (12 < d))) := by
        simp only [jn]
        rcases hu' with ⟨x1, x2⟩ | ⟨c', x1, x2, x3, x5, x4⟩
        · rw [if_pos x1, decide_eq_false (by omega)]; rfl
        · rw [x2, if_neg (n_ne_m1 (by omega)), ldI_n x1 (by omega), x4, Option.bind_some, nI_add, show d - 2 + 2 = d by omega]
          simp only [n_le (show d < 2 ^ 31 by omega) (show 12 < 2 ^ 31 by omega)]
          by_cases y : d ≤ 12
          · rw [if_pos y, decide_eq_false (by omega)]; rfl
          · rw [if_neg y, decide_eq_true (by omega)]; rfl
      have failT : ∀ y, RTC w (KT T w g G first bh P0) M (flT T h y) ((D_X7_fail N 2 (nI y) M).bind fun q => retZ q.1 q.2) := fun y => by
        obtain ⟨M', f1, f2⟩ := kt_fail N y hT K
        rw [f1, Option.bind_some, retZ_0]; exact ⟨M', rfl, f2⟩
      rw [deep, Option.bind_some]
      simp only [bI_0]
      by_cases e3 : 12 < d
      · rw [if_pos (Or.inr e3), if_neg (by rw [decide_eq_true e3]; decide)]; exact failT 6
      · rw [if_pos (decide_eq_false e3), K.2.2.2.1, K.2.2.1.2.2.2, nI_add]
        simp only [n_lt (show first + tn t + bh < 2 ^ 31 by omega) (show 40 < 2 ^ 31 by omega)]
        by_cases e4 : first + tn t + bh < 40
        · rw [if_pos e4, if_neg (show ¬ (40 ≤ first + bh + tn t ∨ 12 < d) by omega)]
          have hsd := hq.sd e2
          have sd0 := s_side N K.2.1 (show pnI G T h < 12 by omega) (show 0 < 4 by decide)
          rw [Nat.add_zero] at sd0
          have hs : G.i 7 (4 * pnI G T h) < G.i 0 0 := hq.sy e2 (show 0 < G.i 6 (pnI G T h) by omega)
          have good : RTC w (KT T w g G first bh P0) M (.inr (ownA T h, tAdd t (pnI G T h) (ownN T h) u q d)) (((D_X7_advance N 2 M).bind fun M1 => (rf M1 8 0 7).bind fun r8 => ((if (M1.1 r8 7) = (nI 2) then (some (nI 1)) else (some (nI 0))).bind fun p162 => ((rf M1 8 2 8).bind fun r9 => (rf M1 8 1 1).bind fun r10 => ((if p162 = nI 0 then (some (nI 0)) else ((rf M1 8 0 7).bind fun r12 => (some (((M1.2.1 r12 8)).toInt32)))).bind fun p191 => ((D_X8_add N r9 r10 (nI (pnI G T h)) p191 (uC first P0 u) (nI q) M1).bind fun M2 => (if p162 = nI 0 then (retZ (nI 1) M2) else ((rf M2 8 0 7).bind fun r11 => (D_X7_advance N r11 M2).bind fun M3 => (retZ (nI 1) M3))))))))) := by
            obtain ⟨M1, a1, a2, a3, a4⟩ := kt_adv N hT hg hw K
            have k4 := (hT.g a2.h).1
            have e7 : M1.1 2 7 = nI (tk T (adv T h)).1 := a2.1.2.2.2.2.1
            rw [a1, Option.bind_some]
            simp only [a2.t, a2.g hg, a2.w hw, Option.bind_some]
            rw [e7]
            have p162 : (if nI (tk T (adv T h)).1 = nI 2 then (some (nI 1)) else (some (nI 0))) = some (bI (decide ((tk T (adv T h)).1 = 2))) := by
              simp only [n_eq (show (tk T (adv T h)).1 < 2 ^ 31 by omega) (show 2 < 2 ^ 31 by omega)]
              by_cases y : (tk T (adv T h)).1 = 2
              · rw [if_pos y, decide_eq_true y]; rfl
              · rw [if_neg y, decide_eq_false y]; rfl
            have p191 : (if bI (decide ((tk T (adv T h)).1 = 2)) = nI 0 then (some (nI 0)) else (some (((M1.2.1 2 8)).toInt32))) = some (nI (ownN T h)) := by
              simp only [bI_0, decide_eq_false_iff_not]
              unfold ownN
              by_cases y : (tk T (adv T h)).1 = 2
              · rw [if_neg (not_not_intro y), if_pos y, a2.1.v, l_to]
              · rw [if_pos y, if_neg y]
            rw [p162, Option.bind_some, p191, Option.bind_some]
            obtain ⟨M2, c1, c2, c3, c4, c5, c6⟩ := s_addNode (o := ownN T h) (q := q) (u := uC first P0 u) (d := d - 1) N hq hg hw e2 (show first + tn t < 40 by omega) a2.2.1 a2.2.2.2.1 (by
              rcases hu' with ⟨x1, x2⟩ | ⟨c', x1, x2, x3, x5, x4⟩
              · exact Or.inl ⟨x1, by omega⟩
              · refine Or.inr ⟨c', x1, x2, by omega, ?_⟩
                rw [show d - 1 - 1 = d - 2 by omega, ← x4]
                obtain ⟨M1', q1, _, q3, _⟩ := s_adv N K.1 hT.w
                rw [q1] at a1; injection a1 with a1; subst a1
                rw [(q3 (w + 5) (fun z => by unfold S1 at z; omega)).1])
            have K2 : KT T w g G first bh P0 (adv T h) (tAdd t (pnI G T h) (ownN T h) u q d) M2 := by
              have e8 := c2 8 (by unfold SN; omega)
              refine ⟨a2.1.fr c2 (by unfold SN; omega) (by unfold SN; omega) (by unfold SN; omega) (by unfold SN; omega), a2.2.1.sn hg hw c2, by rw [e8.2.2, e8.1]; exact a2.2.2.1, by rw [c3, tAdd_n]; rfl, by rw [tAdd_n]; omega, fun e he => ?_⟩
              rw [tAdd_n] at he
              unfold tAdd tp to' tu tq td
              show CN w G (first + e) (st1 (tp t) (tn t) _ e) (st1 (to' t) (tn t) _ e) (uC first P0 (st1 (tu t) (tn t) u e)) (st1 (tq t) (tn t) q e) (st1 (td t) (tn t) d e - 1) M2 ∧ st1 (tp t) (tn t) _ e < _ ∧ st1 (tu t) (tn t) u e ≤ e ∧ 1 ≤ st1 (td t) (tn t) d e ∧ st1 (td t) (tn t) d e ≤ 12 ∧ (e = 0 ∨ 1 ≤ st1 (tu t) (tn t) u e ∧ st1 (td t) (tn t) d e = st1 (td t) (tn t) d (st1 (tu t) (tn t) u e - 1) + 1)
              by_cases z : e = tn t
              · subst z
                rw [st1_s, st1_s, st1_s, st1_s, st1_s]
                refine ⟨c5, e2, by omega, hd1, by omega, ?_⟩
                rcases hu with ⟨u0, u1⟩ | ⟨u1, u2, u3⟩
                · exact Or.inl u1
                · exact Or.inr ⟨u1, by rw [st1_n (by omega)]; exact u3⟩
              · obtain ⟨y1, y2, y3, y4, y5, y6⟩ := a2.2.2.2.2.2 e (by omega)
                rw [st1_n z, st1_n z, st1_n z, st1_n z, st1_n z]
                refine ⟨y1.of fun k k1 k2 => c6 k (first + e) k1 k2 (by omega), y2, y3, y4, y5, ?_⟩
                rcases y6 with y6 | y6
                · exact Or.inl y6
                · exact Or.inr ⟨y6.1, by rw [st1_n (by omega)]; exact y6.2⟩
            have F2 : Fr (SW w) M M2 := a3.trans (c2.mono fun a z => Or.inr z)
            have s6 : M2.1 2 6 = M.1 2 6 := by rw [(c2 2 (by unfold SN; omega)).1]; exact a4
            rw [c1, Option.bind_some]
            simp only [bI_0, decide_eq_false_iff_not]
            unfold ownA
            by_cases y : (tk T (adv T h)).1 = 2
            · rw [if_neg (not_not_intro y), if_pos y]
              obtain ⟨M3, d1, d2, d3, d4⟩ := kt_adv N hT hg hw K2
              rw [K2.t, Option.bind_some, d1, Option.bind_some, retZ_1]
              exact ⟨M3, rfl, d2, F2.trans d3, d4.trans s6⟩
            · rw [if_pos y, if_neg y, retZ_1]
              exact ⟨M2, rfl, K2, F2, s6⟩
          unfold ndI
          simp only [jn]
          by_cases e5 : need = 0
          · rw [if_pos e5, if_pos rfl, if_neg (fun z => z.1 e5)]; exact good
          · rw [if_neg e5, if_neg (n_ne_m1 (by omega)), sd0, Option.bind_some]
            simp only [n_eq (show need - 1 < 2 ^ 31 by omega) (show G.i 7 (4 * pnI G T h) < 2 ^ 31 by omega)]
            by_cases e6 : need - 1 = G.i 7 (4 * pnI G T h)
            · rw [if_pos e6, if_neg (fun z => z.2 (by omega))]; exact good
            · rw [if_neg e6, if_pos ⟨e5, by omega⟩]; exact failT 7
        · rw [if_neg e4, if_pos (show (40 ≤ first + bh + tn t ∨ 12 < d) by omega)]; exact failT 6
    · rw [if_neg e2, if_pos e2]
      obtain ⟨M', f1, f2⟩ := kt_fail N 3 hT K
      rw [f1, Option.bind_some, retZ_0]; exact ⟨M', rfl, f2⟩
