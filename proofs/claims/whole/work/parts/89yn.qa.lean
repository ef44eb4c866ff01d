-- both sides answer: knot, node
theorem nbt {b : Bool} (h : ¬ b = true) : b = false := by
  cases b
  · rfl
  · exact absurd rfl h
section q
variable {M : Mm} (N : Nat)
theorem q_knot (hN : 20000 < N) (I : INV M) (a b c : Int32) : QOK M (D_X11_knot N 1 a b c M) (D_X12_knot N 137 a b c) := by
  obtain ⟨_, g, g', w, w', q, q', I0⟩ := I
  have R := I0.2.1
  obtain ⟨hg, hw, hq, _⟩ := R.gg
  have rw' := R.w
  have rq := R.q
  rcases arg2 c 4 (by decide) with h | ⟨k, hk, rfl, h1, h2⟩
  · refine QOK.ref (v := nI 1) N I0 FX.refl ?_ FX.refl ?_
    · unfold D_X11_knot
      simp only [bind_pair]
      rw [if_out h]
    · unfold D_X12_knot
      rw [out_from N _ h, Option.bind_some, if_pos rfl, bind_pair]
  · have x1 : D_X11_knot N 1 a b (nI k) M = (D_X11_noInstance N 1 a b M).bind fun q2 => (if q2 = nI 0 then ((ldI 320 (q + 1 + 3) (nI 8 * a + b) M).bind fun v1 => (ldI 320 (q + 1 + 4) v1 M).bind fun v2 => (if v2 = nI 0 then D_X11_refuse N 1 (nI 7) M else (if k = 0 then ((D_X4_size N (q + 1) v1 M).bind fun q4 => D_X11_answer N 1 q4 M) else if k = 1 then ((ldI 320 (q + 13) v1 M).bind fun v3 => D_X11_answer N 1 v3 M) else if k = 2 then ((ldI 320 (q + 14) v1 M).bind fun v4 => (if v4 = nI 0 then D_X11_answer N 1 (nI 0) M else D_X11_answer N 1 (nI 1) M)) else if k = 3 then ((D_X4_first N (q + 1) v1 M).bind fun q9 => (dvI q9 (nI 8)).bind fun v5 => D_X11_answer N 1 v5 M) else ((D_X4_first N (q + 1) v1 M).bind fun q11 => (rmI q11 (nI 8)).bind fun v6 => D_X11_answer N 1 v6 M)))) else D_X11_refuse N 1 q2 M) := by
      unfold D_X11_knot
      simp only [bind_pair]
      rw [if_in h1 h2, rq]
      simp only [Option.bind_some]
      rcases (show k = 0 ∨ k = 1 ∨ k = 2 ∨ k = 3 ∨ k = 4 by omega) with z | z | z | z | z <;> subst z <;> rfl
    have y1 : ∀ M, D_X12_knot N 137 a b (nI k) M = ((D_X12_hasTree N 137 M).bind fun q3 => (if q3 = nI 0 then D_X12_refuse N 137 (nI 3) M else ((D_X12_isInstance N 137 a b M).bind fun q5 => (if q5 = nI 0 then D_X12_refuse N 137 (nI 4) M else (ldI 320 167 (nI 8 * a + b) M).bind fun v1 => (if v1 = m1 then D_X12_refuse N 137 (nI 7) M else (L_X12_knot_75 (fun (l5_4 : Int32) => (if k = 0 then D_X12_gives N 137 l5_4 M else if k = 1 then ((ldI 320 168 (nI 8 * a + b) M).bind fun v5 => D_X12_gives N 137 v5 M) else if k = 2 then ((ldI 320 175 (nI 8 * a + b) M).bind fun v6 => (if v6 = nI 0 then D_X12_gives N 137 (nI 0) M else D_X12_gives N 137 (nI 1) M)) else if k = 3 then ((ldI 320 167 (nI 8 * a + b) M).bind fun v7 => (dvI v7 (nI 8)).bind fun v8 => D_X12_gives N 137 v8 M) else ((ldI 320 167 (nI 8 * a + b) M).bind fun v9 => (rmI v9 (nI 8)).bind fun v10 => D_X12_gives N 137 v10 M))) M 137 (nI 8 * a + b) N (nI 0) (nI 0))))))) := fun M => by
      unfold D_X12_knot
      simp only [bind_pair]
      rw [from_yes N M hk (by decide), Option.bind_some, if_neg z10]
      rcases (show k = 0 ∨ k = 1 ∨ k = 2 ∨ k = 3 ∨ k = 4 by omega) with z | z | z | z | z <;> subst z <;> rfl
    rcases I0.tree with ⟨t1, t2⟩ | ⟨G, A, t, ce, me, gv, val, trn, uns, gN, gr, fr, od, kt, dg, Gi, V, e3⟩
    · exact QOK.ref (v := nI 3) N I0 FX.refl (by rw [x1, noInst_0 N a b rw' t1, Option.bind_some, if_neg (by decide)]) FX.refl (by rw [y1, no_hasTree N (t2 _), Option.bind_some, if_pos rfl])
    · have V2 := fun v => (V.q hw hq f10 : VI w q g G t ce me gv val trn uns gN gr fr od kt dg (upI M 1 0 v))
      rcases inst_A N Gi.1 a b rw' V with ⟨e1, e2⟩ | ⟨kk, i, hkk, hi, ht, rfl, rfl, e1, e2⟩
      · exact QOK.ref (v := nI 4) N I0 FX.refl (by rw [x1, e1, Option.bind_some, if_neg (by decide)]) FX.refl (by rw [y1, (V2 _).hasTree, Option.bind_some, if_neg z10, e2 _ (V2 _), Option.bind_some, if_pos rfl])
      · have n := V.n1
        have h := V.1
        have i320 := th_320 h ht
        have P := V.2.2.2.2.1.1
        have K := V.2.2.2.2.1.2.1
        have rows := V.2.2.2.2.1.2.2.2.2
        generalize ej : 8 * kk + i = j at ht i320
        have j0 := (P.1 j).1 ht
        have jN := P.2.1 j
        obtain ⟨x, hx⟩ : ∃ x, gr j = x + 1 := ⟨gr j - 1, by omega⟩
        have tie := P.tie Gi.1 h ht hx
        have gl := P.2.2.2.2.1.mono gN 0 (by omega)
        rw [Nat.zero_add] at gl
        have f320 := P.2.2.2.2.2.2
        have grp : M.1 (q + 1 + 3) j = nI x := by
          rw [K.2.1 j i320.2]
          unfold nP
          rw [hx, if_neg (by omega), Nat.add_sub_cancel]
        rw [e1, Option.bind_some, if_pos rfl, pk_mul, nI_add, ej, ldI_n i320.2 (by omega), grp, Option.bind_some, ldI_n (by omega) (by omega), K.2.2.2.2.2 x (by omega), Option.bind_some] at x1
        simp only [bI_0] at x1
        have y2 : ∀ v, D_X12_knot N 137 (nI kk) (nI i) (nI k) (upI M 1 0 v) = _ := fun v => by rw [y1, (V2 _).hasTree, Option.bind_some, if_neg z10, e2 _ (V2 _), Option.bind_some, if_neg z10, pk_mul, nI_add, ej, show (ldI 320 167 (nI j) (upI M 1 0 v)) = some (knI G t ce j) by rw [ldI_n i320.2 (by omega), (V2 v).rt.2.2.2.2.1 j i320.2], Option.bind_some]
        by_cases kj : knB G t ce j = true
        · have kx : kt x = true := by rw [← tie]; exact kj
          rw [kx, if_neg (by decide)] at x1
          obtain ⟨o1, o2, o3⟩ := P.2.2.2.2.1.2 x (by omega)
          obtain ⟨a1, a2, _⟩ := o2 (fr x) (Nat.le_refl _) o1
          have up := P.2.2.2.2.1.mono (gN - (x + 1)) (x + 1) (by omega)
          rw [show x + 1 + (gN - (x + 1)) = gN by omega] at up
          have least : ∀ y, gr y = gr (od (fr x)) → od (fr x) ≤ y := fun y hy => by
            obtain ⟨m, m1', m2', m3'⟩ := o3 y (by omega)
            by_cases c : m = fr x
            · rw [← m3', c]; exact Nat.le_refl _
            · have := P.2.2.2.2.1.inc (show x < gN by omega) (m - fr x - 1) (fr x) (Nat.le_refl _) (by omega)
              rw [show fr x + (m - fr x - 1) + 1 = m by omega, m3'] at this
              omega
          have to : thT G t (od (fr x)) := (P.1 _).2 (by omega)
          have ko : knB G t ce (od (fr x)) = true := by rw [P.tie Gi.1 h to a2]; exact kx
          have ho := (P.hd Gi.1 h to ko).2 least
          have hF : knF G t ce j = od (fr x) := by
            have m := P.mm Gi.1 h kj (od (fr x))
            rw [decide_eq_true (show gr (od (fr x)) = gr j by omega)] at m
            unfold mmT at m
            rw [Bool.and_eq_true, decide_eq_true_eq] at m
            rw [← m.2, ho]
          have hI : knI G t ce j = nI (od (fr x)) := by unfold knI; rw [if_pos kj, hF]
          have nm : ¬ nI (od (fr x)) = m1 := n_ne_m1 (by omega)
          -- the size
          have sz : D_X4_size N (q + 1) (nI x) M = some (nI (fr (x + 1) - fr x)) := by
            unfold D_X4_size
            rw [nI_add, ldI_n (by omega) (by omega), K.2.2.2.1 (x + 1) (by omega), Option.bind_some, ldI_n (by omega) (by omega), K.2.2.2.1 x (by omega), Option.bind_some, n_sub (by omega)]
          have fi : D_X4_first N (q + 1) (nI x) M = some (nI (od (fr x))) := by
            unfold D_X4_first
            rw [ldI_n (by omega) (by omega), K.2.2.2.1 x (by omega), Option.bind_some, ldI_n (by omega) (by omega), K.2.2.2.2.1 _ (by omega)]; rfl
          have cs : cnt (mG gr x) (8 * tn t) = fr (x + 1) - fr x := by
            rw [← P.2.2.2.2.1.size (GRP.v320 h P) (show x < gN by omega)]
            have := cnt_zero (f := mG gr x) (n := 8 * tn t) (320 - 8 * tn t) fun y hy _ => by
              refine decide_eq_false fun z => ?_
              have := (th_320 h ((P.1 y).2 (by omega))).1; omega
            rw [show 8 * tn t + (320 - 8 * tn t) = 320 by omega] at this
            exact this.symm
          have rl : ∀ (v : Int32) (kE : Int32 → Option (Int32 × Mm)) (fu y c : Nat), y ≤ 8 * tn t → 320 < y + fu → c = cnt (mG gr x) y → L_X12_knot_75 kE (upI M 1 0 v) 137 (nI j) fu (nI c) (nI y) = kE (nI (fr (x + 1) - fr x)) := fun v kE fu => by
            induction fu with
            | zero => intro y c h1 h2; omega
            | succ fu ih =>
              intro y c h1 h2 hc
              have W := V2 v
              rw [L_X12_knot_75, W.rt.1.2.1, pk_mul]
              simp only [n_le (show 8 * tn t < 2 ^ 31 by omega) (show y < 2 ^ 31 by omega)]
              by_cases e : 8 * tn t ≤ y
              · rw [if_pos e, hc, show y = 8 * tn t by omega, cs]
              · have y320 : y < 320 := by omega
                have st : cnt (mG gr x) (y + 1) = cnt (mG gr x) y + if mG gr x y = true then 1 else 0 := rfl
                rw [if_neg e, show (137 : Nat) + 37 = 174 from rfl, show (137 : Nat) + 30 = 167 from rfl, ldI_n y320 (by omega), (W.rt.2.1 y y320).1, Option.bind_some]
                simp only [bI_0, jn, Option.bind_some, nI_add]
                cases tb : thB G t y
                · have mf : mG gr x y = false := decide_eq_false fun z => thB_f.1 tb ((P.1 y).2 (by omega))
                  rw [if_pos rfl]
                  exact ih (y + 1) (c + 0) (by omega) (by omega) (by rw [st, mf, if_neg (by decide), hc])
                · rw [if_neg (by decide), ldI_n y320 (by omega), W.rt.2.2.2.2.1 y y320, Option.bind_some, ldI_n i320.2 (by omega), W.rt.2.2.2.2.1 j i320.2, Option.bind_some]
                  simp only [P.kn Gi.1 h i320.2 kj y320]
                  by_cases s : gr y = gr j
                  · have mt : mG gr x y = true := decide_eq_true (by omega)
                    rw [if_pos s]
                    exact ih (y + 1) (c + 1) (by omega) (by omega) (by rw [st, mt, if_pos rfl, hc])
                  · have mf : mG gr x y = false := decide_eq_false (by omega)
                    rw [if_neg s]
                    exact ih (y + 1) (c + 0) (by omega) (by omega) (by rw [st, mf, if_neg (by decide), hc])
          have y3 := fun v => (y2 v).trans (by rw [hI, if_neg nm, show nI 0 = nI 0 from rfl, rl v _ N 0 0 (Nat.zero_le _) (by omega) rfl])
          rcases (show k = 0 ∨ k = 1 ∨ k = 2 ∨ k = 3 ∨ k = 4 by omega) with z | z | z | z | z <;> subst z
          · rw [if_pos rfl, sz, Option.bind_some] at x1
            exact QOK.ans (v := nI (fr (x + 1) - fr x)) N I0 FX.refl x1 FX.refl (by rw [y3, if_pos rfl])
          · have r := rows j ht kj
            rw [hx, Nat.add_sub_cancel] at r
            rw [if_neg (by decide), if_pos rfl, ldI_n (by omega) (by omega), r.1, Option.bind_some] at x1
            refine QOK.ans (v := nI (trn j)) N I0 FX.refl x1 FX.refl ?_
            rw [y3, if_neg (by decide), if_pos rfl, ldI_n i320.2 (by omega), (((V2 _).vals Gi.1 ht).2 kj).1, Option.bind_some]
          · have r := rows j ht kj
            rw [hx, Nat.add_sub_cancel] at r
            rw [if_neg (by decide), if_neg (by decide), if_pos rfl, ldI_n (by omega) (by omega), r.2, Option.bind_some] at x1
            refine QOK.ans (v := bI (uns j)) N I0 FX.refl ?_ FX.refl ?_
            · rw [x1]
              cases uns j
              · rw [if_pos bI_f]; rfl
              · rw [if_neg (show ¬ bI true = nI 0 from z10)]; rfl
            · rw [y3, if_neg (by decide), if_neg (by decide), if_pos rfl, ldI_n i320.2 (by omega), (((V2 _).vals Gi.1 ht).2 kj).2, Option.bind_some]
              cases uns j
              · rw [if_pos bI_f]; rfl
              · rw [if_neg (show ¬ bI true = nI 0 from z10)]; rfl
          · rw [if_neg (by decide), if_neg (by decide), if_neg (by decide), if_pos rfl, fi, Option.bind_some, dv_n (by omega) (by decide) (by decide), Option.bind_some] at x1
            refine QOK.ans (v := nI (od (fr x) / 8)) N I0 FX.refl x1 FX.refl ?_
            rw [y3, if_neg (by decide), if_neg (by decide), if_neg (by decide), if_pos rfl, Option.bind_some, dv_n (by omega) (by decide) (by decide), Option.bind_some]
          · rw [if_neg (by decide), if_neg (by decide), if_neg (by decide), if_neg (by decide), fi, Option.bind_some, rm_n (by omega) (by decide) (by decide), Option.bind_some] at x1
            refine QOK.ans (v := nI (od (fr x) % 8)) N I0 FX.refl x1 FX.refl ?_
            rw [y3, if_neg (by decide), if_neg (by decide), if_neg (by decide), if_neg (by decide), Option.bind_some, rm_n (by omega) (by decide) (by decide), Option.bind_some]
        · have kj' : knB G t ce j = false := nbt kj
          have kx : kt x = false := by rw [← tie]; exact kj'
          rw [kx, if_pos rfl] at x1
          refine QOK.ref (v := nI 7) N I0 FX.refl x1 FX.refl ?_
          rw [y2, if_pos (by rw [knI_m1 i320.2]; exact kj')]
theorem q_node (hN : 20000 < N) (I : INV M) (a b : Int32) : QOK M (D_X11_node N 1 a b M) (D_X12_node N 137 a b) := by
  obtain ⟨_, g, g', w, w', q, q', I0⟩ := I
  have R := I0.2.1
  obtain ⟨hg, hw, hq, _⟩ := R.gg
  have rw' := R.w
  rcases arg2 b 8 (by decide) with h | ⟨k, hk, rfl, h1, h2⟩
  · refine QOK.ref (v := nI 1) N I0 FX.refl ?_ FX.refl ?_
    · unfold D_X11_node
      simp only [bind_pair]
      rw [if_out h]
    · unfold D_X12_node
      rw [out_from N _ h, Option.bind_some, if_pos rfl, bind_pair]
  · have x1 : D_X11_node N 1 a (nI k) M = (if M.1 w 0 = nI 0 then D_X11_refuse N 1 (nI 3) M else ((D_X8_hasNode N w a M).bind fun q3 => (if q3 = nI 0 then D_X11_refuse N 1 (nI 4) M else (if k = 0 then ((ldI 40 (w + 1) a M).bind fun v1 => D_X11_answer N 1 v1 M) else if k = 1 then ((ldI 40 (w + 2) a M).bind fun v1 => D_X11_answer N 1 v1 M) else if k = 2 then ((ldI 40 (w + 3) a M).bind fun v1 => D_X11_answer N 1 v1 M) else if k = 3 then ((ldI 40 (w + 10) a M).bind fun v1 => D_X11_answer N 1 v1 M) else if k = 7 then ((ldI 40 (w + 6) a M).bind fun v1 => D_X11_answer N 1 v1 M) else if k = 8 then ((ldI 40 (w + 5) a M).bind fun v1 => D_X11_answer N 1 v1 M) else ((ldI 40 (w + 10) a M).bind fun v10 => (if nI k - nI 3 ≤ v10 then ((D_X8_child N w a (nI k - nI 3) M).bind fun q20 => D_X11_answer N 1 q20 M) else D_X11_refuse N 1 (nI 7) M)))))) := by
      unfold D_X11_node
      simp only [bind_pair]
      rw [if_in h1 h2, rw']
      simp only [Option.bind_some]
      rcases (show k = 0 ∨ k = 1 ∨ k = 2 ∨ k = 3 ∨ k = 4 ∨ k = 5 ∨ k = 6 ∨ k = 7 ∨ k = 8 by omega) with z | z | z | z | z | z | z | z | z <;> subst z <;> rfl
    have y1 : ∀ M, D_X12_node N 137 a (nI k) M = (if M.1 137 50 = nI 0 then D_X12_refuse N 137 (nI 3) M else ((D_X12_isNode N 137 a M).bind fun q4 => (if q4 = nI 0 then D_X12_refuse N 137 (nI 4) M else (if k = 0 then ((ldI 40 157 a M).bind fun v1 => D_X12_gives N 137 v1 M) else if k = 1 then ((ldI 40 158 a M).bind fun v1 => D_X12_gives N 137 v1 M) else if k = 2 then ((ldI 40 159 a M).bind fun v1 => D_X12_gives N 137 v1 M) else if k = 3 then ((ldI 40 157 a M).bind fun v4 => (ldI 3816 139 ((nI 32) + v4) M).bind fun v5 => D_X12_gives N 137 v5 M) else if k = 7 then ((D_X12_sizeOf N 137 a M).bind fun q19 => D_X12_gives N 137 q19 M) else if k = 8 then ((D_X12_depthOf N 14 137 a M).bind fun q21 => D_X12_gives N 137 q21 M) else ((ldI 40 157 a M).bind fun v6 => (ldI 3816 139 ((nI 32) + v6) M).bind fun v7 => (if v7 ≤ (nI k - nI 4) then D_X12_refuse N 137 (nI 7) M else ((D_X12_child N 137 a (nI k - nI 4) M).bind fun q11 => D_X12_gives N 137 q11 M))))))) := fun M => by
      unfold D_X12_node
      simp only [bind_pair]
      rw [from_yes N M hk (by decide), Option.bind_some, if_neg z10]
      rcases (show k = 0 ∨ k = 1 ∨ k = 2 ∨ k = 3 ∨ k = 4 ∨ k = 5 ∨ k = 6 ∨ k = 7 ∨ k = 8 by omega) with z | z | z | z | z | z | z | z | z <;> subst z <;> rfl
    rcases I0.tree with ⟨t1, t2⟩ | ⟨G, A, t, ce, me, gv, val, trn, uns, gN, gr, fr, od, kt, dg, Gi, V, e3⟩
    · exact QOK.ref (v := nI 3) N I0 FX.refl (by rw [x1, if_pos t1]) FX.refl (by rw [y1, if_pos (t2 _)])
    · have V2 := fun v => (V.q hw hq f10 : VI w q g G t ce me gv val trn uns gN gr fr od kt dg (upI M 1 0 v))
      rw [if_neg V.w0] at x1
      rcases hasNode_c N a V with ⟨e1, e2⟩ | ⟨e, he, rfl, e1, e2⟩
      · exact QOK.ref (v := nI 4) N I0 FX.refl (by rw [x1, e1, Option.bind_some, if_pos rfl]) FX.refl (by rw [y1, if_neg (V2 _).s50, e2 _ (V2 _), Option.bind_some, if_pos rfl])
      · have n := V.n1
        have h := V.1
        have sd := Gi.1.sd (h.1.2.1 e he).1
        have tp12 := (h.1.2.1 e he).1
        have n12 := Gi.1.np
        obtain ⟨c1, c2, c3, c4, c5, _, _, _, c10⟩ := V.2.1.2 e he
        rw [e1, Option.bind_some, if_neg z10] at x1
        have y2 : ∀ v, D_X12_node N 137 (nI e) (nI k) (upI M 1 0 v) = _ := fun v => by rw [y1, if_neg (V2 _).s50, e2 _ (V2 _), Option.bind_some, if_neg z10]
        have rn := fun v => (V2 v).rt.1.2.2 e he
        have r32 : ∀ v, (ldI 3816 139 ((nI 32) + nI (tp t e)) (upI M 1 0 v)) = some (nI (G.i 6 (tp t e) - 1)) := fun v => by
          rw [nI_add, ldI_n (by omega) (by omega), (((V2 v).rt.1.1.1.2.2.1 (tp t e) tp12).2 sd.1).2.1]
        by_cases k0 : k = 0
        · rw [if_pos k0, ldI_n (by omega) (by omega), c1, Option.bind_some] at x1
          exact QOK.ans N I0 FX.refl x1 FX.refl (by rw [y2, if_pos k0, ldI_n (by omega) (by omega), (rn _).1, Option.bind_some])
        · rw [if_neg k0] at x1
          by_cases k1 : k = 1
          · rw [if_pos k1, ldI_n (by omega) (by omega), c2, Option.bind_some] at x1
            exact QOK.ans N I0 FX.refl x1 FX.refl (by rw [y2, if_neg k0, if_pos k1, ldI_n (by omega) (by omega), (rn _).2.1, Option.bind_some])
          · rw [if_neg k1] at x1
            by_cases k2 : k = 2
            · rw [if_pos k2, ldI_n (by omega) (by omega), c3, Option.bind_some] at x1
              exact QOK.ans N I0 FX.refl x1 FX.refl (by rw [y2, if_neg k0, if_neg k1, if_pos k2, ldI_n (by omega) (by omega), (rn _).2.2, Option.bind_some])
            · rw [if_neg k2] at x1
              by_cases k3 : k = 3
              · rw [if_pos k3, ldI_n (by omega) (by omega), c10, Option.bind_some] at x1
                exact QOK.ans N I0 FX.refl x1 FX.refl (by rw [y2, if_neg k0, if_neg k1, if_neg k2, if_pos k3, ldI_n (by omega) (by omega), (rn _).1, Option.bind_some, r32, Option.bind_some])
              · rw [if_neg k3] at x1
                by_cases k7 : k = 7
                · rw [if_pos k7, ldI_n (by omega) (by omega), V.2.2.1.2.1 e he, Option.bind_some] at x1
                  refine QOK.ans N I0 FX.refl x1 FX.refl ?_
                  rw [y2, if_neg k0, if_neg k1, if_neg k2, if_neg k3, if_pos k7, r_sizeOf N (by omega) Gi.1 h.1 n.2 (V2 _).rt.1.2 he, Option.bind_some]
                · rw [if_neg k7] at x1
                  by_cases k8 : k = 8
                  · rw [if_pos k8, ldI_n (by omega) (by omega), c5, Option.bind_some] at x1
                    refine QOK.ans N I0 FX.refl x1 FX.refl ?_
                    rw [y2, if_neg k0, if_neg k1, if_neg k2, if_neg k3, if_neg k7, if_pos k8, r_depthOf N h.1 n.2 (V2 _).rt.1.2 h.2.2.1 14 e he (by have := h.2.2.2.2 e he; omega), Option.bind_some]
                  · rw [if_neg k8, ldI_n (by omega) (by omega), c10, Option.bind_some, n_sub (by omega)] at x1
                    simp only [n_le (show k - 3 < 2 ^ 31 by omega) (show G.i 6 (tp t e) - 1 < 2 ^ 31 by omega)] at x1
                    have y3 : ∀ v, D_X12_node N 137 (nI e) (nI k) (upI M 1 0 v) = if G.i 6 (tp t e) - 1 ≤ k - 4 then D_X12_refuse N 137 (nI 7) (upI M 1 0 v) else (D_X12_child N 137 (nI e) (nI (k - 4)) (upI M 1 0 v)).bind fun q11 => D_X12_gives N 137 q11 (upI M 1 0 v) := fun v => by
                      rw [y2, if_neg k0, if_neg k1, if_neg k2, if_neg k3, if_neg k7, if_neg k8, ldI_n (by omega) (by omega), (rn _).1, Option.bind_some, r32, Option.bind_some, n_sub (by omega)]
                      simp only [n_le (show G.i 6 (tp t e) - 1 < 2 ^ 31 by omega) (show k - 4 < 2 ^ 31 by omega)]
                    by_cases c : k - 3 ≤ G.i 6 (tp t e) - 1
                    · have ch : D_X8_child N w (nI e) (nI (k - 3)) M = some (nI (ce e (k - 3))) := by
                        unfold D_X8_child
                        rw [pk_mul, nI_add, ldI_n (by omega) (by omega), (V.2.2.1.1 e he).2 (k - 3) (by omega) (by omega)]; rfl
                      rw [if_pos c, ch, Option.bind_some] at x1
                      refine QOK.ans N I0 FX.refl x1 FX.refl ?_
                      rw [y3, if_neg (by omega), r_child N (by omega) Gi.1 h.1 n.2 (V2 _).rt.1.2 he (show k - 4 + 1 < G.i 6 (tp t e) by omega), Option.bind_some, show k - 4 + 1 = k - 3 by omega]
                    · rw [if_neg c] at x1
                      exact QOK.ref N I0 FX.refl x1 FX.refl (by rw [y3, if_pos (by omega)])
end q
