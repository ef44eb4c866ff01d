-- the class reads a tree: what stands ahead stays (the parts on reading a tree once more, with rows that stay)
def KZ (Z : Nat → Nat → Int32) (T : List Tok) (w g : Nat) (G : Gr) (first bh : Nat) (P0 : Int32) (h : Nat) (t : TR) (M : Mm) : Prop :=
  TK T h M ∧ CG g G M ∧ (M.2.2 8 0 = 2 ∧ M.2.2 8 1 = g ∧ M.2.2 8 2 = w ∧ M.1 8 3 = nI bh) ∧ M.1 w 0 = nI (first + tn t) ∧ first + bh + tn t ≤ 40 ∧
  (∀ e, e < tn t → CN w G (first + e) (tp t e) (to' t e) (uC first P0 (tu t e)) (tq t e) (td t e - 1) M ∧ tp t e < G.i 0 1 ∧ tu t e ≤ e ∧ 1 ≤ td t e ∧ td t e ≤ 12 ∧ (e = 0 ∨ 1 ≤ tu t e ∧ td t e = td t (tu t e - 1) + 1)) ∧ ∀ k e, 1 ≤ k → k ≤ 10 → e < first → M.1 (w + k) e = Z k e
theorem KZ.t {T : List Tok} {w g first bh h : Nat} {P0 : Int32} {Z : Nat → Nat → Int32} {G : Gr} {t : TR} {M : Mm} (K : KZ Z T w g G first bh P0 h t M) : rf M 8 0 7 = some 2 := by unfold rf; rw [K.2.2.1.1]; rfl
theorem KZ.g {T : List Tok} {w g first bh h : Nat} {P0 : Int32} {Z : Nat → Nat → Int32} {G : Gr} {t : TR} {M : Mm} (hg : g = 35 ∨ g = 52) (K : KZ Z T w g G first bh P0 h t M) : rf M 8 1 1 = some g := by unfold rf; rw [K.2.2.1.2.1]; rcases hg with e | e <;> subst e <;> rfl
theorem KZ.w {T : List Tok} {w g first bh h : Nat} {P0 : Int32} {Z : Nat → Nat → Int32} {G : Gr} {t : TR} {M : Mm} (hw : w = 69 ∨ w = 87) (K : KZ Z T w g G first bh P0 h t M) : rf M 8 2 8 = some w := by unfold rf; rw [K.2.2.1.2.2.1]; rcases hw with e | e <;> subst e <;> rfl
theorem KZ.h {T : List Tok} {w g first bh h : Nat} {P0 : Int32} {Z : Nat → Nat → Int32} {G : Gr} {t : TR} {M : Mm} (K : KZ Z T w g G first bh P0 h t M) : h < T.length := K.1.h
theorem KZ.tape {T : List Tok} {w g first bh h h' : Nat} {P0 : Int32} {Z : Nat → Nat → Int32} {G : Gr} {t : TR} {M M' : Mm} (hg : g = 35 ∨ g = 52) (hw : w = 69 ∨ w = 87) (K : KZ Z T w g G first bh P0 h t M) (h1 : TK T h' M') (f : Fr S1 M M') : KZ Z T w g G first bh P0 h' t M' := by
  obtain ⟨k1, k2, k3, k4, k5, k6, k7⟩ := K
  have e8 := f 8 (by unfold S1; omega)
  refine ⟨h1, k2.fr f (fun k hk q => by unfold S1 at q; omega), by rw [e8.2.2, e8.1]; exact k3, by rw [(f w (fun q => by unfold S1 at q; omega)).1]; exact k4, k5, fun e he => ?_, fun k e q1 q2 q3 => by rw [(f (w + k) (fun q => by unfold S1 at q; omega)).1]; exact k7 k e q1 q2 q3⟩
  obtain ⟨a1, a2⟩ := k6 e he
  exact ⟨a1.of fun k _ _ => by rw [(f (w + k) (fun q => by unfold S1 at q; omega)).1], a2⟩
theorem kz_fail {n : Nat} {T : List Tok} {w g first bh h : Nat} {P0 : Int32} {Z : Nat → Nat → Int32} {G : Gr} {t : TR} {M : Mm} (N y : Nat) (hT : TT n T) (K : KZ Z T w g G first bh P0 h t M) : ∃ M', D_X7_fail N 2 (nI y) M = some (nI 0, M') ∧ TF w (if (tk T h).1 = 4 then 1 else y, (tk T h).2.1) M M' := by
  obtain ⟨M', f, a1, a2, fr, kk, _⟩ := s_fail (y := y) N K.1 hT.w
  exact ⟨M', f, a1, a2, fr.mono fun a z => z.w, kk 6 (by decide) (by decide)⟩
theorem kz_adv {n : Nat} {T : List Tok} {w g first bh h : Nat} {P0 : Int32} {Z : Nat → Nat → Int32} {G : Gr} {t : TR} {M : Mm} (N : Nat) (hT : TT n T) (hg : g = 35 ∨ g = 52) (hw : w = 69 ∨ w = 87) (K : KZ Z T w g G first bh P0 h t M) : ∃ M', D_X7_advance N 2 M = some M' ∧ KZ Z T w g G first bh P0 (adv T h) t M' ∧ Fr (SW w) M M' ∧ M'.1 2 6 = M.1 2 6 := by
  obtain ⟨M', f, tk', fr, k2⟩ := s_adv N K.1 hT.w
  exact ⟨M', f, K.tape hg hw tk' fr, fr.mono fun a z => z.w, k2 6 (by decide) (by decide)⟩
theorem kz_take {n : Nat} {T : List Tok} {w g first bh h c : Nat} {P0 : Int32} {Z : Nat → Nat → Int32} {G : Gr} {t : TR} {M : Mm} (N : Nat) (hT : TT n T) (hg : g = 35 ∨ g = 52) (hw : w = 69 ∨ w = 87) (hv : c < 2 ^ 31) (K : KZ Z T w g G first bh P0 h t M) : RTC w (KZ Z T w g G first bh P0) M (pSignT T c h t) (D_X7_takeSign N 2 (nI c) M) := by
  have s := s_takeSign (c := c) N K.1 hT.w hv (hT.c3 K.h)
  unfold pSignT isSn
  by_cases e : (tk T h).1 = 3 ∧ (tk T h).2.2.2 = c
  · rw [if_pos e] at s
    obtain ⟨M', f, a1, a2, a3⟩ := s
    rw [if_pos e]
    exact ⟨M', f, K.tape hg hw a1 a2, a2.mono fun a z => z.w, a3 6 (by decide) (by decide)⟩
  · rw [if_neg e] at s
    obtain ⟨M', f, a1, a2, a3, a4, _⟩ := s
    rw [if_neg e]
    exact ⟨M', f, a1, a2, a3.mono fun a z => z.w, a4 6 (by decide) (by decide)⟩
theorem z_hd {n : Nat} {T : List Tok} {w g first bh h u q d need : Nat} {P0 : Int32} {Z : Nat → Nat → Int32} {G : Gr} {t : TR} {M : Mm} (N : Nat) (hN : 2000 < N) (hT : TT n T) (hq : QG G) (hg : g = 35 ∨ g = 52) (hw : w = 69 ∨ w = 87) (hneed : need ≤ 8) (K : KZ Z T w g G first bh P0 h t M) (hu : (u = 0 ∧ tn t = 0) ∨ (1 ≤ u ∧ u ≤ tn t ∧ d = td t (u - 1) + 1)) (hP : u = 0 → UOK w d P0 M) :
    RTC w (KZ Z T w g G first bh P0) M (pHd T G (first + bh) need d u q h t) (D_X9_readNode N 8 (uC first P0 u) (nI q) (ndI need) M) := by
  have h0 : W0 G := hq.1
  obtain ⟨b1, b2, b3, b4, b5⟩ := h0
  have hk5 := K.2.2.2.2.1
  have hu' : UOK w d (uC first P0 u) M := by
    unfold uC
    rcases hu with ⟨u0, _⟩ | ⟨u1, u2, u3⟩
    · rw [if_pos u0]; exact hP u0
    · rw [if_neg (by omega)]
      obtain ⟨a, _, _, a3, a4, _⟩ := K.2.2.2.2.2.1 (u - 1) (by omega)
      have := a.2.2.2.2.1
      refine Or.inr ⟨first + u - 1, by omega, rfl, by omega, by omega, ?_⟩
      rw [show first + u - 1 = first + (u - 1) by omega, this, u3]
      congr 1
  have hd1 := hu'.d
  unfold D_X9_readNode pHd
  simp only [K.t, K.g hg, K.w hw, Option.bind_some]
  rw [s_isName N K.1 hT.w (hT.c1 K.h), Option.bind_some]
  simp only [bI_0]
  cases e1 : isNm (tk T h)
  · rw [if_neg (by decide), if_pos rfl]
    obtain ⟨M', f1, f2⟩ := kz_fail N 2 hT K
    rw [f1, Option.bind_some, retZ_0]; exact ⟨M', rfl, f2⟩
  · have hw63 := ok63 (nm_ok hT K.h e1)
    rw [if_pos rfl, if_neg (show ¬ true = false by decide), K.1.v, s_findProduction N hN K.2.1 b2 (fun j hj => ok63 (b5 j hj).1) hw63, Option.bind_some]
    simp only [fR_m1 (show G.i 0 1 < 2 ^ 31 by omega)]
    show RTC w _ M (if pnI G T h < G.i 0 1 then _ else _) (if ¬ pnI G T h < G.i 0 1 then _ else _)
    by_cases e2 : pnI G T h < G.i 0 1
    · rw [if_pos e2, if_neg (not_not_intro e2)]
      have hfr : fR (fi (G.l 3) (tk T h).2.2.2 (G.i 0 1)) (G.i 0 1) = nI (pnI G T h) := fR_n e2
      rw [hfr]
      have deep : (jn (fun (p75 : Unit) => (some (nI 0))) fun J2 => (if uC first P0 u = m1 then (J2 ()) else ((ldI 40 (w + 5) (uC first P0 u) M).bind fun v1 => (if (v1 + (nI 2)) ≤ (nI 12) then (J2 ()) else (some (nI 1)))))) = some (bI (decide (12 < d))) := by
        simp only [jn]
        rcases hu' with ⟨x1, x2⟩ | ⟨c', x1, x2, x3, x5, x4⟩
        · rw [if_pos x1, decide_eq_false (by omega)]; rfl
        · rw [x2, if_neg (n_ne_m1 (by omega)), ldI_n x1 (by omega), x4, Option.bind_some, nI_add, show d - 2 + 2 = d by omega]
          simp only [n_le (show d < 2 ^ 31 by omega) (show 12 < 2 ^ 31 by omega)]
          by_cases y : d ≤ 12
          · rw [if_pos y, decide_eq_false (by omega)]; rfl
          · rw [if_neg y, decide_eq_true (by omega)]; rfl
      have failT : ∀ y, RTC w (KZ Z T w g G first bh P0) M (flT T h y) ((D_X7_fail N 2 (nI y) M).bind fun q => retZ q.1 q.2) := fun y => by
        obtain ⟨M', f1, f2⟩ := kz_fail N y hT K
        rw [f1, Option.bind_some, retZ_0]; exact ⟨M', rfl, f2⟩
      rw [deep, Option.bind_some]
      simp only [bI_0]
      by_cases e3 : 12 < d
      · rw [if_pos (Or.inr e3), if_neg (by rw [decide_eq_true e3]; decide)]; exact failT 6
      · rw [if_pos (decide_eq_false e3), K.2.2.2.1, K.2.2.1.2.2.2, nI_add]
        simp only [n_lt (show first + tn t + bh < 2 ^ 31 by omega) (show 40 < 2 ^ 31 by omega)]
        by_cases e4 : first + tn t + bh < 40
        · rw [if_pos e4, if_neg (show ¬ (40 ≤ first + bh + tn t ∨ 12 < d) by omega)]
          have hsd := hq.sd e2
          have sd0 := s_side N K.2.1 (show pnI G T h < 12 by omega) (show 0 < 4 by decide)
          rw [Nat.add_zero] at sd0
          have hs : G.i 7 (4 * pnI G T h) < G.i 0 0 := hq.sy e2 (show 0 < G.i 6 (pnI G T h) by omega)
          have good : RTC w (KZ Z T w g G first bh P0) M (.inr (ownA T h, tAdd t (pnI G T h) (ownN T h) u q d)) (((D_X7_advance N 2 M).bind fun M1 => (rf M1 8 0 7).bind fun r8 => ((if (M1.1 r8 7) = (nI 2) then (some (nI 1)) else (some (nI 0))).bind fun p162 => ((rf M1 8 2 8).bind fun r9 => (rf M1 8 1 1).bind fun r10 => ((if p162 = nI 0 then (some (nI 0)) else ((rf M1 8 0 7).bind fun r12 => (some (((M1.2.1 r12 8)).toInt32)))).bind fun p191 => ((D_X8_add N r9 r10 (nI (pnI G T h)) p191 (uC first P0 u) (nI q) M1).bind fun M2 => (if p162 = nI 0 then (retZ (nI 1) M2) else ((rf M2 8 0 7).bind fun r11 => (D_X7_advance N r11 M2).bind fun M3 => (retZ (nI 1) M3))))))))) := by
            obtain ⟨M1, a1, a2, a3, a4⟩ := kz_adv N hT hg hw K
            have k4 := (hT.g a2.h).1
            have e7 : M1.1 2 7 = nI (tk T (adv T h)).1 := a2.1.2.2.2.2.1
            rw [a1, Option.bind_some]
            simp only [a2.t, a2.g hg, a2.w hw, Option.bind_some]
            rw [e7]
            have p162 : (if nI (tk T (adv T h)).1 = nI 2 then (some (nI 1)) else (some (nI 0))) = some (bI (decide ((tk T (adv T h)).1 = 2))) := by
              simp only [n_eq (show (tk T (adv T h)).1 < 2 ^ 31 by omega) (show 2 < 2 ^ 31 by omega)]
              by_cases y : (tk T (adv T h)).1 = 2
              · rw [if_pos y, decide_eq_true y]; rfl
              · rw [if_neg y, decide_eq_false y]; rfl
            have p191 : (if bI (decide ((tk T (adv T h)).1 = 2)) = nI 0 then (some (nI 0)) else (some (((M1.2.1 2 8)).toInt32))) = some (nI (ownN T h)) := by
              simp only [bI_0, decide_eq_false_iff_not]
              unfold ownN
              by_cases y : (tk T (adv T h)).1 = 2
              · rw [if_neg (not_not_intro y), if_pos y, a2.1.v, l_to]
              · rw [if_pos y, if_neg y]
            rw [p162, Option.bind_some, p191, Option.bind_some]
            obtain ⟨M2, c1, c2, c3, c4, c5, c6⟩ := s_addNode (o := ownN T h) (q := q) (u := uC first P0 u) (d := d - 1) N hq hg hw e2 (show first + tn t < 40 by omega) a2.2.1 a2.2.2.2.1 (by
              rcases hu' with ⟨x1, x2⟩ | ⟨c', x1, x2, x3, x5, x4⟩
              · exact Or.inl ⟨x1, by omega⟩
              · refine Or.inr ⟨c', x1, x2, by omega, ?_⟩
                rw [show d - 1 - 1 = d - 2 by omega, ← x4]
                obtain ⟨M1', q1, _, q3, _⟩ := s_adv N K.1 hT.w
                rw [q1] at a1; injection a1 with a1; subst a1
                rw [(q3 (w + 5) (fun z => by unfold S1 at z; omega)).1])
            have K2 : KZ Z T w g G first bh P0 (adv T h) (tAdd t (pnI G T h) (ownN T h) u q d) M2 := by
              have e8 := c2 8 (by unfold SN; omega)
              refine ⟨a2.1.fr c2 (by unfold SN; omega) (by unfold SN; omega) (by unfold SN; omega) (by unfold SN; omega), a2.2.1.sn hg hw c2, by rw [e8.2.2, e8.1]; exact a2.2.2.1, by rw [c3, tAdd_n]; rfl, by rw [tAdd_n]; omega, fun e he => ?_, fun k e q1 q2 q3 => (c6 k e q1 q2 (by omega)).trans (a2.2.2.2.2.2.2 k e q1 q2 q3)⟩
              rw [tAdd_n] at he
              unfold tAdd tp to' tu tq td
              show CN w G (first + e) (st1 (tp t) (tn t) _ e) (st1 (to' t) (tn t) _ e) (uC first P0 (st1 (tu t) (tn t) u e)) (st1 (tq t) (tn t) q e) (st1 (td t) (tn t) d e - 1) M2 ∧ st1 (tp t) (tn t) _ e < _ ∧ st1 (tu t) (tn t) u e ≤ e ∧ 1 ≤ st1 (td t) (tn t) d e ∧ st1 (td t) (tn t) d e ≤ 12 ∧ (e = 0 ∨ 1 ≤ st1 (tu t) (tn t) u e ∧ st1 (td t) (tn t) d e = st1 (td t) (tn t) d (st1 (tu t) (tn t) u e - 1) + 1)
              by_cases z : e = tn t
              · subst z
                rw [st1_s, st1_s, st1_s, st1_s, st1_s]
                refine ⟨c5, e2, by omega, hd1, by omega, ?_⟩
                rcases hu with ⟨u0, u1⟩ | ⟨u1, u2, u3⟩
                · exact Or.inl u1
                · exact Or.inr ⟨u1, by rw [st1_n (by omega)]; exact u3⟩
              · obtain ⟨y1, y2, y3, y4, y5, y6⟩ := a2.2.2.2.2.2.1 e (by omega)
                rw [st1_n z, st1_n z, st1_n z, st1_n z, st1_n z]
                refine ⟨y1.of fun k k1 k2 => c6 k (first + e) k1 k2 (by omega), y2, y3, y4, y5, ?_⟩
                rcases y6 with y6 | y6
                · exact Or.inl y6
                · exact Or.inr ⟨y6.1, by rw [st1_n (by omega)]; exact y6.2⟩
            have F2 : Fr (SW w) M M2 := a3.trans (c2.mono fun a z => Or.inr z)
            have s6 : M2.1 2 6 = M.1 2 6 := by rw [(c2 2 (by unfold SN; omega)).1]; exact a4
            rw [c1, Option.bind_some]
            simp only [bI_0, decide_eq_false_iff_not]
            unfold ownA
            by_cases y : (tk T (adv T h)).1 = 2
            · rw [if_neg (not_not_intro y), if_pos y]
              obtain ⟨M3, d1, d2, d3, d4⟩ := kz_adv N hT hg hw K2
              rw [K2.t, Option.bind_some, d1, Option.bind_some, retZ_1]
              exact ⟨M3, rfl, d2, F2.trans d3, d4.trans s6⟩
            · rw [if_pos y, if_neg y, retZ_1]
              exact ⟨M2, rfl, K2, F2, s6⟩
          unfold ndI
          simp only [jn]
          by_cases e5 : need = 0
          · rw [if_pos e5, if_pos rfl, if_neg (fun z => z.1 e5)]; exact good
          · rw [if_neg e5, if_neg (n_ne_m1 (by omega)), sd0, Option.bind_some]
            simp only [n_eq (show need - 1 < 2 ^ 31 by omega) (show G.i 7 (4 * pnI G T h) < 2 ^ 31 by omega)]
            by_cases e6 : need - 1 = G.i 7 (4 * pnI G T h)
            · rw [if_pos e6, if_neg (fun z => z.2 (by omega))]; exact good
            · rw [if_neg e6, if_pos ⟨e5, by omega⟩]; exact failT 7
        · rw [if_neg e4, if_pos (show (40 ≤ first + bh + tn t ∨ 12 < d) by omega)]; exact failT 6
    · rw [if_neg e2, if_pos e2]
      obtain ⟨M', f1, f2⟩ := kz_fail N 3 hT K
      rw [f1, Option.bind_some, retZ_0]; exact ⟨M', rfl, f2⟩
section cls
variable {n : Nat} {T : List Tok} {w g first bh : Nat} {P0 : Int32} {Z : Nat → Nat → Int32} {G : Gr} (N : Nat)
theorem KZ.row {h : Nat} {t : TR} {M : Mm} (K : KZ Z T w g G first bh P0 h t M) {e : Nat} (he : e < tn t) : first + e < 40 ∧ CN w G (first + e) (tp t e) (to' t e) (uC first P0 (tu t e)) (tq t e) (td t e - 1) M ∧ tp t e < G.i 0 1 := ⟨by have := K.2.2.2.2.1; omega, (K.2.2.2.2.2.1 e he).1, (K.2.2.2.2.2.1 e he).2.1⟩
theorem z_child (hN : 2000 < N) (hT : TT n T) (hq : QG G) (hg : g = 35 ∨ g = 52) (hw : w = 69 ∨ w = 87) {h x k : Nat} {t : TR} {M : Mm} (K : KZ Z T w g G first bh P0 h t M) (hx : x < tn t) (k1 : 1 ≤ k) (hk : k < G.i 6 (tp t x)) : RTC w (KZ Z T w g G first bh P0) M (pHd T G (first + bh) (G.i 7 (4 * tp t x + k) + 1) (td t x + 1) (x + 1) k h t) (D_X9_readChild N 8 (nI (first + x)) (nI k) M) := by
  obtain ⟨r1, r2, r3⟩ := K.row hx
  have hsd := hq.sd r3
  have hns := hq.ns
  have hs := hq.sy r3 hk
  unfold D_X9_readChild
  rw [K.g hg, Option.bind_some, K.w hw, Option.bind_some, ldI_n r1 (by omega), r2.1, Option.bind_some, s_side N K.2.1 (by have := hq.np; omega) (by omega), Option.bind_some]
  refine RTC.back ?_
  have := z_hd (u := x + 1) (q := k) (d := td t x + 1) (need := G.i 7 (4 * tp t x + k) + 1) N hN hT hq hg hw (by omega) K (Or.inr ⟨by omega, by omega, rfl⟩) (fun z => by omega)
  unfold uC ndI at this
  rw [if_neg (by omega), if_neg (by omega), show first + (x + 1) - 1 = first + x by omega, Nat.add_sub_cancel] at this
  exact this
theorem z_nextC (hN : 2000 < N) (hT : TT n T) (hq : QG G) (hg : g = 35 ∨ g = 52) (hw : w = 69 ∨ w = 87) {h x k y : Nat} {t : TR} {M : Mm} (K : KZ Z T w g G first bh P0 h t M) (hy : y < tn t) (hu : tu t y = x + 1) (hqy : tq t y = k) (hx : x < tn t) (hk : k + 1 < G.i 6 (tp t x)) : RTC w (KZ Z T w g G first bh P0) M (pHd T G (first + bh) (G.i 7 (4 * tp t x + (k + 1)) + 1) (td t x + 1) (x + 1) (k + 1) h t) (D_X9_readNext N 8 (nI (first + y)) M) := by
  obtain ⟨r1, r2, r3⟩ := K.row hy
  have e3 := r2.2.2.1
  rw [hu] at e3
  unfold uC at e3
  rw [if_neg (by omega), show first + (x + 1) - 1 = first + x by omega] at e3
  unfold D_X9_readNext
  rw [K.w hw, Option.bind_some, ldI_n r1 (by omega), e3, Option.bind_some, Option.bind_some, ldI_n r1 (by omega), r2.2.2.2.1, Option.bind_some, hqy, nI_add]
  exact RTC.back (z_child N hN hT hq hg hw K hx (by omega) hk)
theorem z_isLast (hq : QG G) (hw : w = 69 ∨ w = 87) {h x k y : Nat} {t : TR} {M : Mm} (K : KZ Z T w g G first bh P0 h t M) (hy : y < tn t) (hu : tu t y = x + 1) (hqy : tq t y = k) (hx : x < tn t) (hk : k < G.i 6 (tp t x)) : D_X9_isLast N 8 (nI (first + y)) M = some (bI (decide (k = G.i 6 (tp t x) - 1))) := by
  obtain ⟨r1, r2, r3⟩ := K.row hy
  obtain ⟨q1, q2, q3⟩ := K.row hx
  have hsd := hq.sd q3
  have e3 := r2.2.2.1
  rw [hu] at e3
  unfold uC at e3
  rw [if_neg (by omega), show first + (x + 1) - 1 = first + x by omega] at e3
  unfold D_X9_isLast
  rw [K.w hw, Option.bind_some, ldI_n r1 (by omega), r2.2.2.2.1, Option.bind_some, Option.bind_some, Option.bind_some, ldI_n r1 (by omega), e3, Option.bind_some, ldI_n q1 (by omega), q2.2.2.2.2.2.2.2.2, Option.bind_some, hqy]
  simp only [n_eq (show k < 2 ^ 31 by omega) (show G.i 6 (tp t x) - 1 < 2 ^ 31 by omega)]
  by_cases e : k = G.i 6 (tp t x) - 1
  · rw [if_pos e, decide_eq_true e]; rfl
  · rw [if_neg e, decide_eq_false e]; rfl
end cls
theorem CAz_1 {w first bh x h : Nat} {g : Nat} {G : Gr} {P0 : Int32} {Z : Nat → Nat → Int32} {T : List Tok} {t : TR} (kE : Mm → Option (Int32 × Mm)) (N : Nat) {M : Mm} (hw : w = 69 ∨ w = 87) (K : KZ Z T w g G first bh P0 h t M) (ht : tn t = x + 2) : CA kE N first x (nI 1, M) = CL kE N first (x + 1) M := by
  unfold CA CL
  show (rf M 8 2 8).bind _ = _
  rw [K.w hw, Option.bind_some]
  show (some (M.1 w 0 - nI 1)).bind _ = _
  rw [K.2.2.2.1, Option.bind_some, n_sub (by omega), Option.bind_some, nI_add, ht, show first + (x + 2) - 1 = first + (x + 1) by omega]
section cls
variable {n : Nat} {T : List Tok} {w g first bh : Nat} {P0 : Int32} {Z : Nat → Nat → Int32} {G : Gr} (N : Nat) (kE : Mm → Option (Int32 × Mm))
def OAz (kE : Mm → Option (Int32 × Mm)) (N : Nat) (T : List Tok) (w g : Nat) (G : Gr) (first bh : Nat) (P0 : Int32) (Z : Nat → Nat → Int32) (x d : Nat) (t : TR) (M : Mm) (r : RT) (c : Option (Int32 × Mm)) : Prop := match r with
  | .inl e => ∃ M', c = some (nI 0, M') ∧ TF w e M M'
  | .inr y => ∃ M' u fu', c = CU kE N first (tn y.2 - 1) fu' u (first + x) M' ∧ u + d ≤ 12 ∧ fu' + u = N ∧ KZ Z T w g G first bh P0 y.1 y.2 M' ∧ Et t y.2 ∧ x < tn y.2 ∧ Fr (SW w) M M' ∧ M'.1 2 6 = M.1 2 6
theorem OAz.pre {x d : Nat} {t t1 : TR} {M M1 : Mm} {r : RT} {c : Option (Int32 × Mm)} (h : Fr (SW w) M M1) (h6 : M1.1 2 6 = M.1 2 6) (ht : Et t t1) (o : OAz kE N T w g G first bh P0 Z x d t1 M1 r c) : OAz kE N T w g G first bh P0 Z x d t M r c := by
  cases r with
  | inl e => obtain ⟨M', a, b⟩ := o; exact ⟨M', a, b.pre h h6⟩
  | inr e => obtain ⟨M', u, fu', a, b, c1, d1, e1, e2, f, f'⟩ := o; exact ⟨M', u, fu', a, b, c1, d1, ht.trans e1, e2, h.trans f, f'.trans h6⟩
theorem cz_child (hw : w = 69 ∨ w = 87) {x d k fu h : Nat} {t : TR} {M : Mm} {X : Option (Int32 × Mm)} {p need : Nat} (rc : Nat → Nat → Nat → Nat → Nat → TR → RT) (tb : TR) (K : KZ Z T w g G first bh P0 h t M) (hN' : tn t + 1 < N)
    (hX : RTC w (KZ Z T w g G first bh P0) M (pHd T G (first + bh) need d (x + 1) k h t) X) (cont : RT → RT)
    (h0 : ∀ e, cont (.inl e) = .inl e)
    (hgo : ∀ h' M', KZ Z T w g G first bh P0 h' (tAdd t (pnI G T h) (ownN T h) (x + 1) k d) M' → d ≤ 12 → pnI G T h < G.i 0 1 → OAz kE N T w g G first bh P0 Z p fu tb M' (cont (pRs T G rc (pnI G T h) d (tn t) h' (tAdd t (pnI G T h) (ownN T h) (x + 1) k d))) (CL kE N first (tn t) M')) (ht1 : 1 ≤ tn t) :
    OAz kE N T w g G first bh P0 Z p fu tb M (cont (bndT (pHd T G (first + bh) need d (x + 1) k h t) fun h' t' => pRs T G rc (pnI G T h) d (tn t) h' t')) ((X.bind fun q3 => (if q3.1 = nI 0 then some (nI 0, q3.2) else (some ((nI 1), q3.2)))).bind (CA kE N first (tn t - 1))) := by
  cases e : pHd T G (first + bh) need d (x + 1) k h t with
  | inl a =>
    rw [e] at hX
    obtain ⟨M', a1, a2⟩ := hX
    show OAz kE N T w g G first bh P0 Z p fu tb M (cont (.inl a)) _
    rw [h0, a1, Option.bind_some, if_pos rfl, Option.bind_some, CA_0 kE N first _ (by omega) (w := w) (by rw [a2.w hw]; exact K.2.2.1.2.2.1) hw]
    exact ⟨M', rfl, a2⟩
  | inr a =>
    rw [e] at hX
    obtain ⟨M', a1, a2, a3, a4⟩ := hX
    obtain ⟨r1, r2, r3, r4, _⟩ := pHd_r e
    subst r1
    show OAz kE N T w g G first bh P0 Z p fu tb M (cont (pRs T G rc (pnI G T h) d (tn t) (ownA T h) (tAdd t (pnI G T h) (ownN T h) (x + 1) k d))) _
    rw [a1, Option.bind_some, if_neg z10, Option.bind_some, CAz_1 kE N hw a2 (by rw [tAdd_n]; omega), Nat.sub_add_cancel ht1]
    exact OAz.pre N kE a3 a4 Et.refl (hgo _ _ a2 r3 r2)
theorem CLz_leaf {h x : Nat} {t : TR} {M : Mm} (N : Nat) (hw : w = 69 ∨ w = 87) (kE : Mm → Option (Int32 × Mm)) (K : KZ Z T w g G first bh P0 h t M) (hx : x < tn t) (hN : 2000 < N) (hx40 : x < 40) (h0 : G.i 6 (tp t x) - 1 = 0) : CL kE N first x M = CU kE N first x N 0 (first + x) M := by
  obtain ⟨r1, r2, r3⟩ := K.row hx
  unfold CL
  rw [show N - x = (N - (x + 1)) + 1 by omega, L_X9_read_49]
  simp only [n_lt (show 40 < 2 ^ 31 by omega) (show x < 2 ^ 31 by omega)]
  rw [if_neg (by omega), if_neg z10, K.w hw, Option.bind_some, ldI_n r1 (by omega), r2.2.2.2.2.2.2.2.2, h0, Option.bind_some, if_pos (show nI 0 ≤ nI 0 by decide +kernel), Option.bind_some, if_pos rfl]
  unfold CU CA D_X9_climb
  simp only [jn, eq_self, if_true, Option.bind_some]
theorem CLz_kids {h x : Nat} {t : TR} {M : Mm} (N : Nat) (hw : w = 69 ∨ w = 87) (kE : Mm → Option (Int32 × Mm)) (K : KZ Z T w g G first bh P0 h t M) (hx : x < tn t) (hN : 2000 < N) (hx40 : x < 40) (h0 : ¬ G.i 6 (tp t x) - 1 = 0) (h4 : G.i 6 (tp t x) ≤ 4) : CL kE N first x M = ((D_X7_takeSign N 2 (nI 40) M).bind fun q2 => (if q2.1 = nI 0 then some (nI 0, q2.2) else ((D_X9_readChild N 8 (nI (first + x)) (nI 1) q2.2).bind fun q3 => (if q3.1 = nI 0 then some (nI 0, q3.2) else (some ((nI 1), q3.2)))))).bind (CA kE N first x) := by
  obtain ⟨r1, r2, r3⟩ := K.row hx
  unfold CL
  rw [show N - x = (N - (x + 1)) + 1 by omega, L_X9_read_49]
  simp only [n_lt (show 40 < 2 ^ 31 by omega) (show x < 2 ^ 31 by omega)]
  rw [if_neg (by omega), if_neg z10, K.w hw, Option.bind_some, ldI_n r1 (by omega), r2.2.2.2.2.2.2.2.2, Option.bind_some]
  have e0 : ¬ nI (G.i 6 (tp t x) - 1) ≤ nI 0 := by
    rw [n_le (by omega) (by omega)]; omega
  rw [if_neg e0, Option.bind_some, if_neg z10, Option.bind_some]
  simp only [jn]
  rw [if_neg z10, if_neg (n_ne_m1 (by omega)), K.t, Option.bind_some, if_neg z10, Option.bind_some]
  have : ∀ A B : Option (Int32 × Mm), A = B → (if nI (first + x) = nI first then A else A) = B := fun A B e => by rw [ite_self]; exact e
  refine this _ _ ?_
  simp only [if_neg z10]
  rfl
theorem cz_rest (hN : 2000 < N) (hT : TT n T) (hq : QG G) (hg : g = 35 ∨ g = 52) (hw : w = 69 ∨ w = 87) : ∀ (fu d x h : Nat) (t : TR) (M : Mm), 14 ≤ fu + d + 1 → d ≤ 12 → tn t = x + 1 → td t x = d → KZ Z T w g G first bh P0 h t M → OAz kE N T w g G first bh P0 Z x d t M (pRs T G (pNd T G (first + bh) fu) (tp t x) d x h t) (CL kE N first x M)
  | 0, d, x, h, t, M, h1, h2, _, _, _ => by omega
  | fu + 1, d, x, h, t, M, h1, h2, ht, hd, K => by
    obtain ⟨r1, r2, r3⟩ := K.row (show x < tn t by omega)
    have hsd := hq.sd r3
    have hx40 : first + x < 40 := r1
    have ech := r2.2.2.2.2.2.2.2.2
    -- all kids behind the k-th
    have B : ∀ (m k y h : Nat) (t' : TR) (M' : Mm) (u fu' : Nat), m + k + 1 = G.i 6 (tp t x) → 1 ≤ k → Et t t' → y < tn t' → tu t' y = x + 1 → tq t' y = k → ¬ y = 0 → u + (d + 1) ≤ 12 → fu' + u = N → KZ Z T w g G first bh P0 h t' M' →
        OAz kE N T w g G first bh P0 Z x d t M' (bndT (pKs T G (pNd T G (first + bh) (fu + 1)) (tp t x) d x m k (.inr (h, t'))) fun h t => pSignT T 41 h t) (CU kE N first (tn t' - 1) fu' u (first + y) M') := fun m => by
      induction m with
      | zero =>
        intro k y h t' M' u fu' e1 e2 e3 e4 e5 e6 e7 e8 e9 K'
        have ex := e3.2 x (by omega)
        have il := z_isLast N hq hw K' e4 e5 e6 (show x < tn t' by have := e3.1; omega) (by rw [ex.1]; omega)
        have k5 := K'.2.2.2.2.1
        show OAz kE N T w g G first bh P0 Z x d t M' (pSignT T 41 h t') _
        have s := kz_take (c := 41) N hT hg hw (by omega) K'
        unfold CU
        rw [show fu' = (fu' - 1) + 1 by omega, L_X9_climb_5]
        simp only [n_lt (show 12 < 2 ^ 31 by omega) (show u < 2 ^ 31 by omega), n_eq (show first + y < 2 ^ 31 by omega) (show first < 2 ^ 31 by omega)]
        rw [if_neg (by omega), if_neg (by omega), il, Option.bind_some, ex.1, decide_eq_true (show k = G.i 6 (tp t x) - 1 by omega)]
        simp only [bI_0]
        rw [if_neg (by decide), K'.t, Option.bind_some]
        cases e : pSignT T 41 h t' with
        | inl a =>
          rw [e] at s
          obtain ⟨M1, a1, a2⟩ := s
          rw [a1, Option.bind_some, if_pos rfl, Option.bind_some, Option.bind_some, if_neg (m1_ne_n (by omega)), if_pos rfl, Option.bind_some, CA_0 kE N first _ (by omega) (w := w) (by rw [a2.w hw]; exact K'.2.2.1.2.2.1) hw]
          exact ⟨M1, rfl, a2⟩
        | inr a =>
          rw [e] at s
          obtain ⟨M1, a1, a2, a3, a4⟩ := s
          obtain ⟨q1, q2⟩ := pSignT_r e
          subst q1
          obtain ⟨s1, s2, s3⟩ := a2.row e4
          have e3' := s2.2.2.1
          rw [e5] at e3'
          unfold uC at e3'
          rw [if_neg (by omega), show first + (x + 1) - 1 = first + x by omega] at e3'
          rw [a1, Option.bind_some, if_neg z10, a2.w hw, Option.bind_some, ldI_n s1 (by omega), e3', Option.bind_some, Option.bind_some, nI_add]
          exact ⟨M1, u + 1, fu' - 1, rfl, by omega, by omega, a2, e3, by have := e3.1; show x < tn t'; omega, a3, a4⟩
      | succ m ih =>
        intro k y h t' M' u fu' e1 e2 e3 e4 e5 e6 e7 e8 e9 K'
        have ex := e3.2 x (by omega)
        have xt' : x < tn t' := by have := e3.1; omega
        have il := z_isLast N hq hw K' e4 e5 e6 xt' (by rw [ex.1]; omega)
        have k5 := K'.2.2.2.2.1
        have s := kz_take (c := 44) N hT hg hw (by omega) K'
        unfold CU
        rw [show fu' = (fu' - 1) + 1 by omega, L_X9_climb_5]
        simp only [n_lt (show 12 < 2 ^ 31 by omega) (show u < 2 ^ 31 by omega), n_eq (show first + y < 2 ^ 31 by omega) (show first < 2 ^ 31 by omega)]
        rw [if_neg (by omega), if_neg (by omega), il, Option.bind_some, ex.1, decide_eq_false (show ¬ k = G.i 6 (tp t x) - 1 by omega)]
        simp only [bI_0]
        rw [if_pos trivial, Option.bind_some, Option.bind_some]
        simp only [n_eq (show first + y < 2 ^ 31 by omega) (show first < 2 ^ 31 by omega)]
        rw [if_neg (by omega), if_neg (n_ne_m1 (by omega)), K'.t, Option.bind_some]
        show OAz kE N T w g G first bh P0 Z x d t M' (bndT (bndT (pSignT T (if k = 0 then 40 else 44) h t') fun h t1 => pKs T G (pNd T G (first + bh) (fu + 1)) (tp t x) d x m (k + 1) (pNd T G (first + bh) (fu + 1) (G.i 7 (4 * tp t x + k + 1) + 1) (d + 1) (x + 1) (k + 1) h t1)) fun h t => pSignT T 41 h t) _
        rw [if_neg (show ¬ k = 0 by omega)]
        cases e : pSignT T 44 h t' with
        | inl a =>
          rw [e] at s
          obtain ⟨M1, a1, a2⟩ := s
          rw [a1, Option.bind_some, if_pos rfl, Option.bind_some, CA_0 kE N first _ (by omega) (w := w) (by rw [a2.w hw]; exact K'.2.2.1.2.2.1) hw]
          exact ⟨M1, rfl, a2⟩
        | inr a =>
          rw [e] at s
          obtain ⟨M1, a1, a2, a3, a4⟩ := s
          obtain ⟨q1, q2⟩ := pSignT_r e
          subst q1
          have a2 : KZ Z T w g G first bh P0 (adv T h) t' M1 := a2
          rw [a1, Option.bind_some, if_neg z10]
          have sx := z_nextC N hN hT hq hg hw a2 e4 e5 e6 xt' (by rw [ex.1]; omega)
          rw [ex.1, ex.2.2.2.1, hd] at sx
          refine OAz.pre N kE a3 a4 Et.refl ?_
          show OAz kE N T w g G first bh P0 Z x d t M1 ((fun r => bndT (pKs T G (pNd T G (first + bh) (fu + 1)) (tp t x) d x m (k + 1) r) fun h t => pSignT T 41 h t) (pNd T G (first + bh) (fu + 1) (G.i 7 (4 * tp t x + (k + 1)) + 1) (d + 1) (x + 1) (k + 1) (adv T h) t')) _
          rw [pNd_s]
          refine cz_child N kE hw (pNd T G (first + bh) fu) t a2 (by omega) sx (fun r => bndT (pKs T G (pNd T G (first + bh) (fu + 1)) (tp t x) d x m (k + 1) r) fun h t => pSignT T 41 h t) (fun e => by show bndT (pKs T G _ _ _ _ _ _ (.inl e)) _ = _; rw [pKs_l]; rfl) (fun h' M2 K2 d12 hpn => ?_) (by omega)
          have rest := cz_rest hN hT hq hg hw fu (d + 1) (tn t') h' _ M2 (by omega) d12 (tAdd_n ..) (by show st1 (td t') (tn t') (d + 1) (tn t') = _; rw [st1_s]) K2
          have ep : tp (tAdd t' (pnI G T (adv T h)) (ownN T (adv T h)) (x + 1) (k + 1) (d + 1)) (tn t') = pnI G T (adv T h) := st1_s _ _ _
          rw [ep] at rest
          show OAz kE N T w g G first bh P0 Z x d t M2 (bndT (pKs T G (pNd T G (first + bh) (fu + 1)) (tp t x) d x m (k + 1) (pRs T G (pNd T G (first + bh) fu) (pnI G T (adv T h)) (d + 1) (tn t') h' _)) fun h t => pSignT T 41 h t) _
          cases er : pRs T G (pNd T G (first + bh) fu) (pnI G T (adv T h)) (d + 1) (tn t') h' (tAdd t' (pnI G T (adv T h)) (ownN T (adv T h)) (x + 1) (k + 1) (d + 1)) with
          | inl a =>
            rw [er] at rest
            rw [pKs_l]
            exact rest
          | inr a =>
            rw [er] at rest
            obtain ⟨M3, u3, f3, c1, c2, c3, c4, c5, c6, c7, c8⟩ := rest
            rw [c1]
            have ey := c5.2 (tn t') (by rw [tAdd_n]; omega)
            exact OAz.pre N kE c7 c8 Et.refl (ih (k + 1) (tn t') a.1 a.2 M3 u3 f3 (by omega) (by omega) (e3.trans (Et.add.trans c5)) c6 (by rw [ey.2.1]; exact st1_s _ _ _) (by rw [ey.2.2.1]; exact st1_s _ _ _) (by omega) (by omega) c3 c4)
    by_cases leaf : G.i 6 (tp t x) = 1
    · have er : pRs T G (pNd T G (first + bh) (fu + 1)) (tp t x) d x h t = .inr (h, t) := by
        unfold pRs
        rw [leaf]
        show (if 1 = 1 then (.inr (h, t) : RT) else pSignT T 41 h t) = .inr (h, t)
        exact if_pos rfl
      rw [er]
      refine ⟨M, 0, N, ?_, by omega, by omega, K, Et.refl, by show x < tn t; omega, Fr.refl, rfl⟩
      rw [show tn t - 1 = x by omega]
      exact CLz_leaf N hw kE K (by omega) hN (by omega) (by rw [leaf])
    · have s := kz_take (c := 40) N hT hg hw (by omega) K
      rw [CLz_kids N hw kE K (by omega) hN (by omega) (by omega) hsd.2]
      unfold pRs
      obtain ⟨m, hm⟩ : ∃ m, G.i 6 (tp t x) - 1 = m + 1 := ⟨G.i 6 (tp t x) - 2, by omega⟩
      rw [hm]
      show OAz kE N T w g G first bh P0 Z x d t M (bndT (bndT (pSignT T 40 h t) fun h t1 => pKs T G (pNd T G (first + bh) (fu + 1)) (tp t x) d x m 1 (pNd T G (first + bh) (fu + 1) (G.i 7 (4 * tp t x + 0 + 1) + 1) (d + 1) (x + 1) 1 h t1)) fun h t1 => if G.i 6 (tp t x) = 1 then .inr (h, t1) else pSignT T 41 h t1) _
      simp only [leaf, if_false]
      cases e : pSignT T 40 h t with
      | inl a =>
        rw [e] at s
        obtain ⟨M1, a1, a2⟩ := s
        rw [a1, Option.bind_some, if_pos rfl, Option.bind_some, CA_0 kE N first _ (by omega) (w := w) (by rw [a2.w hw]; exact K.2.2.1.2.2.1) hw]
        exact ⟨M1, rfl, a2⟩
      | inr a =>
        rw [e] at s
        obtain ⟨M1, a1, a2, a3, a4⟩ := s
        obtain ⟨q1, q2⟩ := pSignT_r e
        subst q1
        have a2 : KZ Z T w g G first bh P0 (adv T h) t M1 := a2
        rw [a1, Option.bind_some, if_neg z10]
        have sx := z_child (k := 1) N hN hT hq hg hw a2 (show x < tn t by omega) (by omega) (by omega)
        rw [hd] at sx
        refine OAz.pre N kE a3 a4 Et.refl ?_
        have e1 : x = tn t - 1 := by omega
        show OAz kE N T w g G first bh P0 Z x d t M1 ((fun r => bndT (pKs T G (pNd T G (first + bh) (fu + 1)) (tp t x) d x m 1 r) fun h t => pSignT T 41 h t) (pNd T G (first + bh) (fu + 1) (G.i 7 (4 * tp t x + 1) + 1) (d + 1) (x + 1) 1 (adv T h) t)) _
        rw [pNd_s]
        have cc := cz_child (fu := d) (p := x) N kE hw (pNd T G (first + bh) fu) t a2 (by omega) sx (fun r => bndT (pKs T G (pNd T G (first + bh) (fu + 1)) (tp t x) d x m 1 r) fun h t => pSignT T 41 h t) (fun e => by show bndT (pKs T G _ _ _ _ _ _ (.inl e)) _ = _; rw [pKs_l]; rfl) (fun h' M2 K2 d12 hpn => ?_) (by omega)
        · rw [← e1] at cc; exact cc
        have rest := cz_rest hN hT hq hg hw fu (d + 1) (tn t) h' _ M2 (by omega) d12 (tAdd_n ..) (by show st1 (td t) (tn t) (d + 1) (tn t) = _; rw [st1_s]) K2
        have ep : tp (tAdd t (pnI G T (adv T h)) (ownN T (adv T h)) (x + 1) 1 (d + 1)) (tn t) = pnI G T (adv T h) := st1_s _ _ _
        rw [ep] at rest
        show OAz kE N T w g G first bh P0 Z x d t M2 (bndT (pKs T G (pNd T G (first + bh) (fu + 1)) (tp t x) d x m 1 (pRs T G (pNd T G (first + bh) fu) (pnI G T (adv T h)) (d + 1) (tn t) h' _)) fun h t => pSignT T 41 h t) _
        cases er : pRs T G (pNd T G (first + bh) fu) (pnI G T (adv T h)) (d + 1) (tn t) h' (tAdd t (pnI G T (adv T h)) (ownN T (adv T h)) (x + 1) 1 (d + 1)) with
        | inl a =>
          rw [er] at rest
          rw [pKs_l]
          exact rest
        | inr a =>
          rw [er] at rest
          obtain ⟨M3, u3, f3, c1, c2, c3, c4, c5, c6, c7, c8⟩ := rest
          rw [c1]
          have ey := c5.2 (tn t) (by rw [tAdd_n]; omega)
          exact OAz.pre N kE c7 c8 Et.refl (B m 1 (tn t) a.1 a.2 M3 u3 f3 (by omega) (by omega) (Et.add.trans c5) c6 (by rw [ey.2.1]; exact st1_s _ _ _) (by rw [ey.2.2.1]; exact st1_s _ _ _) (by omega) (by omega) c3 c4)
end cls
theorem z_readT {n : Nat} {T : List Tok} {w g first bh q d need : Nat} {P0 : Int32} {Z : Nat → Nat → Int32} {G : Gr} {M : Mm} (N : Nat) (hN : 2000 < N) (hT : TT n T) (hq : QG G) (hg : g = 35 ∨ g = 52) (hw : w = 69 ∨ w = 87) (hneed : need ≤ 8) (K : TK T 0 M) (C : CG g G M) (h0 : M.1 w 0 = nI first) (hb : first + bh ≤ 40) (hP : UOK w d P0 M) (hZ : ∀ k e, 1 ≤ k → k ≤ 10 → e < first → M.1 (w + k) e = Z k e) :
    ∃ M2, Fr (fun a => a = 8) M M2 ∧ RTC w (KZ Z T w g G first bh P0) M2 (pTree T G (first + bh) need d q) (D_X9_read N 8 2 g w P0 (nI q) (ndI need) (nI bh) M) := by
  have f8 : Fr (fun a => a = 8) M (upI (upN (upN (upN M 8 0 2) 8 1 g) 8 2 w) 8 3 (nI bh)) := (((Fr.N (S := fun a => a = 8) rfl).trans (Fr.N rfl)).trans (Fr.N rfl)).trans (Fr.I rfl)
  refine ⟨upI (upN (upN (upN M 8 0 2) 8 1 g) 8 2 w) 8 3 (nI bh), f8, ?_⟩
  unfold D_X9_read
  rw [pN_n, Option.bind_some, pN_n, Option.bind_some, pN_n, Option.bind_some, pI_n, Option.bind_some]
  have e80 : (upI (upN (upN (upN M 8 0 2) 8 1 g) 8 2 w) 8 3 (nI bh)).2.2 8 0 = 2 := by rw [up2, upN3, if_pos rfl]; simp [upN3]
  have e81 : (upI (upN (upN (upN M 8 0 2) 8 1 g) 8 2 w) 8 3 (nI bh)).2.2 8 1 = g := by rw [up2, upN3, if_pos rfl]; simp [upN3]
  have e82 : (upI (upN (upN (upN M 8 0 2) 8 1 g) 8 2 w) 8 3 (nI bh)).2.2 8 2 = w := by rw [up2, upN3, if_pos rfl]; simp
  have e83 : (upI (upN (upN (upN M 8 0 2) 8 1 g) 8 2 w) 8 3 (nI bh)).1 8 3 = nI bh := upI_s _ _ _ _
  generalize upI (upN (upN (upN M 8 0 2) 8 1 g) 8 2 w) 8 3 (nI bh) = M2 at f8 e80 e81 e82 e83
  have K2 : KZ Z T w g G first bh P0 0 t0 M2 := ⟨K.fr f8 (by decide) (by decide) (by decide) (by decide), C.fr f8 (fun k hk z => by omega), ⟨e80, e81, e82, e83⟩, by rw [(f8 w (by omega)).1, h0]; rfl, by show first + bh + 0 ≤ 40; omega, fun e he => absurd he (Nat.not_lt_zero _), fun k e q1 q2 q3 => by rw [(f8 (w + k) (by omega)).1]; exact hZ k e q1 q2 q3⟩
  have hP2 : UOK w d P0 M2 := by
    unfold UOK
    rw [(f8 (w + 5) (by omega)).1]; exact hP
  have hd1 := hP2.d
  rw [K2.w hw, Option.bind_some, K2.2.2.2.1, Option.bind_some]
  have hd := z_hd (u := 0) (q := q) (d := d) (need := need) N hN hT hq hg hw hneed K2 (Or.inl ⟨rfl, rfl⟩) (fun _ => hP2)
  rw [show uC first P0 0 = P0 from if_pos rfl] at hd
  unfold pTree
  rw [pNd_s]
  cases e : pHd T G (first + bh) need d 0 q 0 t0 with
  | inl a =>
    rw [e] at hd
    obtain ⟨M', a1, a2⟩ := hd
    rw [a1, Option.bind_some, show N = (N - 1) + 1 by omega, L_X9_read_49]
    refine ⟨M', ?_, a2⟩
    show (if nI 40 < nI 0 then _ else if nI 0 = nI 0 then retZ (nI 0) M' else _) = _
    rw [if_neg (show ¬ nI 40 < nI 0 by decide +kernel), if_pos rfl, retZ_0]
  | inr a =>
    rw [e] at hd
    obtain ⟨M', a1, a2, a3, a4⟩ := hd
    obtain ⟨r1, r2, r3, r4, _⟩ := pHd_r e
    subst r1
    have a2 : KZ Z T w g G first bh P0 (ownA T 0) (tAdd t0 (pnI G T 0) (ownN T 0) 0 q d) M' := a2
    have rest := cz_rest N (kET N) hN hT hq hg hw 13 d 0 (ownA T 0) (tAdd t0 (pnI G T 0) (ownN T 0) 0 q d) M' (by omega) r3 (tAdd_n ..) (show td (tAdd t0 (pnI G T 0) (ownN T 0) 0 q d) 0 = d from rfl) a2
    rw [show tp (tAdd t0 (pnI G T 0) (ownN T 0) 0 q d) 0 = pnI G T 0 from rfl] at rest
    rw [a1, Option.bind_some]
    have ec : ∀ X, CL (kET N) N first 0 M' = X → L_X9_read_49 (kET N) 8 N (nI (first + tn t0)) N (nI 1) (nI (first + tn t0)) (nI 0) M' = X := fun X h => h
    show RTC w _ M2 (bndT (bndT (.inr (ownA T 0, tAdd t0 (pnI G T 0) (ownN T 0) 0 q d)) fun h' t' => pRs T G (pNd T G (first + bh) 13) (pnI G T 0) d (tn t0) h' t') fun h t => if (tk T h).1 = 0 then .inr (h, t) else flT T h 2) (L_X9_read_49 (kET N) 8 N (nI (first + tn t0)) N (nI 1) (nI (first + tn t0)) (nI 0) M')
    show RTC w _ M2 (bndT (pRs T G (pNd T G (first + bh) 13) (pnI G T 0) d 0 (ownA T 0) (tAdd t0 (pnI G T 0) (ownN T 0) 0 q d)) fun h t => if (tk T h).1 = 0 then .inr (h, t) else flT T h 2) _
    cases er : pRs T G (pNd T G (first + bh) 13) (pnI G T 0) d 0 (ownA T 0) (tAdd t0 (pnI G T 0) (ownN T 0) 0 q d) with
    | inl b =>
      rw [er] at rest
      obtain ⟨M3, b1, b2⟩ := rest
      exact ⟨M3, ec _ b1, b2.pre a3 a4⟩
    | inr b =>
      rw [er] at rest
      obtain ⟨M3, u, fu', b1, b2, b3, b4, b5, b6, b7, b8⟩ := rest
      have b1' := ec _ b1
      rw [b1']
      have eu : CU (kET N) N first (tn b.2 - 1) fu' u (first + 0) M3 = kET N M3 := by
        unfold CU
        rw [show fu' = (fu' - 1) + 1 by omega, L_X9_climb_5]
        simp only [n_lt (show 12 < 2 ^ 31 by omega) (show u < 2 ^ 31 by omega)]
        rw [if_neg (by omega), Nat.add_zero, if_pos rfl, Option.bind_some, Option.bind_some, if_pos rfl]
      rw [eu]
      unfold kET
      have k4 := (hT.g b4.h).1
      rw [b4.t, Option.bind_some, b4.1.2.2.2.2.1]
      simp only [jn, n_eq (show (tk T b.1).1 < 2 ^ 31 by omega) (show 0 < 2 ^ 31 by omega), Option.bind_some]
      show RTC w _ M2 (if (tk T b.1).1 = 0 then .inr (b.1, b.2) else flT T b.1 2) _
      by_cases z : (tk T b.1).1 = 0
      · rw [if_pos z, if_pos z, retZ_1]
        exact ⟨M3, rfl, b4, a3.trans b7, b8.trans a4⟩
      · rw [if_neg z, if_neg z]
        obtain ⟨M4, f1, f2⟩ := kz_fail N 2 hT b4
        rw [f1, Option.bind_some, if_pos rfl, retZ_0]
        exact ⟨M4, rfl, (f2.pre b7 b8).pre a3 a4⟩
