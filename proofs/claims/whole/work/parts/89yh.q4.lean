-- both sides answer: production, many
theorem cnt_add (f : Nat → Bool) (n : Nat) : ∀ m, cnt f (n + m) = cnt f n + cnt (fun a => f (n + a)) m
  | 0 => rfl
  | m + 1 => by
    show cnt f (n + m) + _ = cnt f n + (cnt _ m + _)
    rw [cnt_add f n m, Nat.add_assoc]
    rfl
theorem tdB_p (G : Gr) {p o : Nat} (ho : o < 32) : tdB G (32 * p + o) = (G.i 10 p).testBit o := by
  unfold tdB
  rw [show (32 * p + o) / 32 = p by omega, show (32 * p + o) % 32 = o by omega]
theorem tolds_e (G : Gr) (h : G.i 0 1 ≤ 12) : tolds G 1000 = cnt (tdB G) (32 * G.i 0 1) := cnt_congr fun i hi => by rw [decide_eq_false (by omega), Bool.not_false, Bool.true_and]
section q
variable {M : Mm} (N : Nat)
theorem QG.td32 {G : Gr} (hq : QG G) {p : Nat} (hp : p < G.i 0 1) : G.i 10 p < 2 ^ 32 := lt_of_bits fun i hi => by
  by_cases c : i < 32
  · exact c
  · have := (hq.2.2.2.2 p hp).2.2.1 i (by omega)
    rw [this] at hi; exact absurd hi (by decide)
theorem loop_allTold {g : Nat} {G : Gr} (C : CG g G M) (hq : QG G) : ∀ (fu p c : Nat), p ≤ G.i 0 1 → 12 < p + fu → c = cnt (tdB G) (32 * p) → L_X1_allTold_4 M g N fu (nI c) (nI p) = some (nI (cnt (tdB G) (32 * G.i 0 1)))
  | 0, p, c, h1, h2, _ => by have := hq.np; omega
  | fu + 1, p, c, h1, h2, hc => by
    have n12 := hq.np
    rw [L_X1_allTold_4, C.f 1]
    simp only [n_le (show G.i 0 1 < 2 ^ 31 by omega) (show p < 2 ^ 31 by omega)]
    by_cases e : G.i 0 1 ≤ p
    · rw [if_pos e, hc, show p = G.i 0 1 by omega]
    · have hp : p < G.i 0 1 := by omega
      rw [if_neg e, ldI_n (by omega) (by omega), C.a 10 p (by omega), Option.bind_some, s_bitCount N M (hq.td32 hp), Option.bind_some, Option.bind_some, Option.bind_some, nI_add, nI_add]
      exact loop_allTold C hq fu (p + 1) _ (by omega) (by omega) (by
        rw [hc, show 32 * (p + 1) = 32 * p + 32 by omega, cnt_add]
        congr 1
        exact cnt_congr fun i hi => (tdB_p G hi).symm)
theorem loop_prodT {p : Nat} {G : Gr} (K : QT G M) (hq : QG G) (hp : p < G.i 0 1) : ∀ (fu o c : Nat), o ≤ 32 → 32 < o + fu → c = cnt (fun i => (G.i 10 p).testBit i) o → L_X12_production_120 N 137 M (nI p) fu (nI c) (nI o) = D_X12_gives N 137 (nI (cnt (fun i => (G.i 10 p).testBit i) 32)) M
  | 0, o, c, h1, h2, _ => by omega
  | fu + 1, o, c, h1, h2, hc => by
    have n12 := hq.np
    rw [L_X12_production_120]
    simp only [n_le (show 32 < 2 ^ 31 by omega) (show o < 2 ^ 31 by omega), bind_pair]
    by_cases e : 32 ≤ o
    · rw [if_pos e, hc, show o = 32 by omega]
    · have r := ((K.1.2.2.2.1 (32 * p + o) (by omega)).2.2 (by omega)).2
      rw [if_neg e, pk_mul, nI_add, nI_add, show (137 : Nat) + 2 = 139 from rfl, ldI_n (by omega) (by omega), show 1232 + 32 * p + o = 1232 + (32 * p + o) by omega, r, tdB_p G (by omega), Option.bind_some, Option.bind_some, Option.bind_some, nI_add, nI_add]
      exact loop_prodT K hq hp fu (o + 1) _ (by omega) (by omega) (by rw [hc]; rfl)
theorem q_production (hN : 20000 < N) (I : INV M) (a b : Int32) : QOK M (D_X11_production N 1 a b M) (D_X12_production N 137 a b) := by
  obtain ⟨_, g, g', w, w', q, q', I0⟩ := I
  have R := I0.2.1
  obtain ⟨hg, hw, hq, _⟩ := R.gg
  have rg := R.g
  rcases arg2 b 5 (by decide) with h | ⟨k, hk, rfl, h1, h2⟩
  · refine QOK.ref (v := nI 1) N I0 FX.refl ?_ FX.refl ?_
    · unfold D_X11_production
      simp only [bind_pair]
      rw [if_out h]
    · unfold D_X12_production
      rw [out_from N _ h, Option.bind_some, if_pos rfl, bind_pair]
  · have x1 : D_X11_production N 1 a (nI k) M = (D_X1_hasProduction N g a M).bind fun q2 => (if q2 = nI 0 then D_X11_refuse N 1 (nI 4) M else (if nI k = nI 0 then ((D_X1_side N g a (nI 0) M).bind fun q4 => D_X11_answer N 1 q4 M) else (if nI k = nI 1 then ((D_X1_children N g a M).bind fun q6 => D_X11_answer N 1 q6 M) else (if nI k = nI 5 then ((ldI 12 (g + 10) a M).bind fun v1 => (D_J6_bitCount_0f7a4 N v1 M).bind fun q8 => D_X11_answer N 1 q8 M) else ((D_X1_children N g a M).bind fun q10 => (if nI k - nI 1 ≤ q10 then ((D_X1_side N g a (nI k - nI 1) M).bind fun q11 => D_X11_answer N 1 q11 M) else D_X11_refuse N 1 (nI 7) M)))))) := by
      unfold D_X11_production
      simp only [bind_pair]
      rw [if_in h1 h2, rg, Option.bind_some]
      simp only [Option.bind_some]
    have y1 : ∀ M, D_X12_production N 137 a (nI k) M = (D_X12_isProduction N 137 a M).bind fun q3 => (if q3 = nI 0 then D_X12_refuse N 137 (nI 4) M else (if nI k = nI 0 then ((ldI 3816 139 ((nI 20) + a) M).bind fun v1 => D_X12_gives N 137 v1 M) else (if nI k = nI 1 then ((ldI 3816 139 ((nI 32) + a) M).bind fun v2 => D_X12_gives N 137 v2 M) else (if nI 5 ≤ nI k then (L_X12_production_120 N 137 M a N (nI 0) (nI 0)) else ((ldI 3816 139 ((nI 32) + a) M).bind fun v4 => (if v4 ≤ (nI k - nI 2) then D_X12_refuse N 137 (nI 7) M else ((ldI 3816 139 ((((nI 44) + ((nI 3) * a)) + nI k) - (nI 2)) M).bind fun v5 => D_X12_gives N 137 v5 M))))))) := fun M => by
      unfold D_X12_production
      simp only [bind_pair]
      rw [from_yes N M hk (by decide), Option.bind_some, if_neg z10]
    rcases I0.2.2 with n0 | ⟨G, A, Gi, _, _⟩
    · exact QOK.ref (v := nI 4) N I0 FX.refl (by rw [x1, no_prod N a n0.2.1, Option.bind_some, if_pos rfl]) FX.refl (by rw [y1, rno_prod N a (n0.q hg hw f10).2.2.1, Option.bind_some, if_pos rfl])
    · rcases prod_A N a Gi with ⟨e1, e2⟩ | ⟨p, hp, rfl, e1, e2⟩
      · exact QOK.ref (v := nI 4) N I0 FX.refl (by rw [x1, e1, Option.bind_some, if_pos rfl]) FX.refl (by rw [y1, e2 _ (Gi.q hg f10), Option.bind_some, if_pos rfl])
      · have n12 := Gi.1.np
        have n8 := Gi.1.ns
        have sd := Gi.1.sd hp
        have C := Gi.2.2.1
        rw [e1, Option.bind_some, if_neg z10] at x1
        have y2 : ∀ v, D_X12_production N 137 (nI p) (nI k) (upI M 1 0 v) = _ := fun v => by rw [y1, e2 _ (Gi.q hg f10), Option.bind_some, if_neg z10]
        have K := fun v => (Gi.q hg f10 : GrI g G A (upI M 1 0 v)).2.2.2.1
        have rw2 := fun v => ((K v).1.2.2.1 p hp).2 sd.1
        rw [s_children N Gi.1 hp C] at x1
        rcases (show k = 0 ∨ k = 1 ∨ k = 5 ∨ (2 ≤ k ∧ k ≤ 4) by omega) with z | z | z | z
        · subst z
          rw [if_pos rfl, s_side N C (by omega) (by decide), Option.bind_some] at x1
          refine QOK.ans (v := nI (G.i 7 (4 * p))) N I0 FX.refl x1 FX.refl ?_
          rw [y2, if_pos rfl, nI_add, ldI_n (by omega) (by omega), (rw2 _).1, Option.bind_some]
        · subst z
          rw [if_neg z10, if_pos rfl, Option.bind_some] at x1
          refine QOK.ans (v := nI (G.i 6 p - 1)) N I0 FX.refl x1 FX.refl ?_
          rw [y2, if_neg z10, if_pos rfl, nI_add, ldI_n (by omega) (by omega), (rw2 _).2.1, Option.bind_some]
        · subst z
          rw [if_neg (by decide), if_neg (by decide), if_pos rfl, ldI_n (by omega) (by omega), C.a 10 p (by omega), Option.bind_some, s_bitCount N M (Gi.1.td32 hp), Option.bind_some] at x1
          refine QOK.ans (v := nI (cnt (fun i => (G.i 10 p).testBit i) 32)) N I0 FX.refl x1 FX.refl ?_
          rw [y2, if_neg (by decide), if_neg (by decide), if_pos (by decide)]
          exact loop_prodT N (K _) Gi.1 hp N 0 0 (by omega) (by omega) rfl
        · simp only [n_eq (show k < 2 ^ 31 by omega) (show 0 < 2 ^ 31 by decide), n_eq (show k < 2 ^ 31 by omega) (show 1 < 2 ^ 31 by decide), n_eq (show k < 2 ^ 31 by omega) (show 5 < 2 ^ 31 by decide)] at x1 y2
          rw [if_neg (by omega), if_neg (by omega), if_neg (by omega), n_sub (by omega), Option.bind_some] at x1
          simp only [n_le (show k - 1 < 2 ^ 31 by omega) (show G.i 6 p - 1 < 2 ^ 31 by omega)] at x1
          have y3 : ∀ v, D_X12_production N 137 (nI p) (nI k) (upI M 1 0 v) = if G.i 6 p - 1 ≤ k - 2 then D_X12_refuse N 137 (nI 7) (upI M 1 0 v) else ((ldI 3816 139 (nI (44 + 3 * p + k - 2)) (upI M 1 0 v)).bind fun v5 => D_X12_gives N 137 v5 (upI M 1 0 v)) := fun v => by
            rw [y2, if_neg (by omega), if_neg (by omega), if_neg (by rw [n_le (by decide) (by omega)]; omega), nI_add, ldI_n (by omega) (by omega), (rw2 _).2.1, Option.bind_some, n_sub (by omega), pk_mul, nI_add, nI_add, n_sub (by omega)]
            simp only [n_le (show G.i 6 p - 1 < 2 ^ 31 by omega) (show k - 2 < 2 ^ 31 by omega)]
          by_cases c : k - 1 ≤ G.i 6 p - 1
          · rw [if_pos c, s_side N C (by omega) (by omega), Option.bind_some] at x1
            refine QOK.ans (v := nI (G.i 7 (4 * p + (k - 1)))) N I0 FX.refl x1 FX.refl ?_
            have := (rw2 (nI 0)).2.2 (k - 2) (by omega)
            rw [y3, if_neg (by omega), ldI_n (by omega) (by omega), show 44 + 3 * p + k - 2 = 44 + 3 * p + (k - 2) by omega, this, Option.bind_some, show 4 * p + (k - 2) + 1 = 4 * p + (k - 1) by omega]
          · rw [if_neg c] at x1
            exact QOK.ref (v := nI 7) N I0 FX.refl x1 FX.refl (by rw [y3, if_pos (by omega)])
end q
