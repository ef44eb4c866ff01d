-- both sides answer: many, span, knot
section q
variable {M : Mm} (N : Nat)
theorem q_many (hN : 20000 < N) (I : INV M) (a : Int32) : QOK M (D_X11_many N 1 a M) (D_X12_many N 137 a) := by
  obtain ⟨_, g, g', w, w', q, q', I0⟩ := I
  have R := I0.2.1
  obtain ⟨hg, hw, hq, _⟩ := R.gg
  have rg := R.g
  have rw' := R.w
  have rq := R.q
  rcases arg2 a 4 (by decide) with h | ⟨k, hk, rfl, h1, h2⟩
  · refine QOK.ref (v := nI 1) N I0 FX.refl ?_ FX.refl ?_
    · unfold D_X11_many
      simp only [bind_pair]
      rw [if_out h]
    · unfold D_X12_many
      rw [out_from N _ h, Option.bind_some, if_pos rfl, bind_pair]
  · have x1 : D_X11_many N 1 (nI k) M = if k = 4 then (if M.1 w 0 = nI 0 then D_X11_refuse N 1 (nI 3) M else D_X11_answer N 1 (M.1 (q + 1) 5) M) else if k = 0 then D_X11_answer N 1 (M.1 g 0) M else if k = 1 then D_X11_answer N 1 (M.1 g 1) M else if k = 2 then ((D_X1_allTold N g M).bind fun q4 => D_X11_answer N 1 q4 M) else D_X11_answer N 1 (M.1 w 0) M := by
      unfold D_X11_many
      simp only [bind_pair]
      rw [if_in h1 h2, rg, rw', rq]
      simp only [jn, Option.bind_some]
      rcases (show k = 0 ∨ k = 1 ∨ k = 2 ∨ k = 3 ∨ k = 4 by omega) with z | z | z | z | z <;> subst z <;> rfl
    have y1 : ∀ M, D_X12_many N 137 (nI k) M = if k = 4 then (if M.1 137 50 = nI 0 then D_X12_refuse N 137 (nI 3) M else ((D_X12_knots N 137 M).bind fun q4 => D_X12_gives N 137 q4 M)) else if k = 3 then D_X12_gives N 137 (M.1 137 50) M else (if M.1 137 9 = nI 0 then D_X12_gives N 137 (nI 0) M else ((ldI 3816 139 (nI k) M).bind fun v1 => D_X12_gives N 137 v1 M)) := fun M => by
      unfold D_X12_many
      simp only [bind_pair]
      rw [from_yes N M hk (by decide), Option.bind_some, if_neg z10]
      rcases (show k = 0 ∨ k = 1 ∨ k = 2 ∨ k = 3 ∨ k = 4 by omega) with z | z | z | z | z <;> subst z <;> rfl
    by_cases k4 : k = 4
    · rw [if_pos k4] at x1
      rcases I0.tree with ⟨t1, t2⟩ | ⟨G, A, t, ce, me, gv, val, trn, uns, gN, gr, fr, od, kt, dg, Gi, V, e3⟩
      · exact QOK.ref (v := nI 3) N I0 FX.refl (by rw [x1, if_pos t1]) FX.refl (by rw [y1, if_pos k4, if_pos (t2 _)])
      · have V2 := (V.q hw hq f10 : VI w q g G t ce me gv val trn uns gN gr fr od kt dg (upI M 1 0 (nI 0)))
        rw [if_neg V.w0, V.2.2.2.2.1.2.1.2.2.1] at x1
        refine QOK.ans (v := nI (cnt kt gN)) N I0 FX.refl x1 FX.refl ?_
        rw [y1, if_pos k4, if_neg V2.s50, r_knots N hN Gi.1 V2, Option.bind_some]
    · rw [if_neg k4] at x1
      by_cases k3 : k = 3
      · have x2 : D_X11_many N 1 (nI k) M = D_X11_answer N 1 (M.1 w 0) M := by
          rw [x1, if_neg (by omega), if_neg (by omega), if_neg (by omega)]
        rcases I0.tree with ⟨t1, t2⟩ | ⟨G, A, t, ce, me, gv, val, trn, uns, gN, gr, fr, od, kt, dg, Gi, V, e3⟩
        · rw [t1] at x2
          exact QOK.ans (v := nI 0) N I0 FX.refl x2 FX.refl (by rw [y1, if_neg k4, if_pos k3, t2])
        · have V2 := (V.q hw hq f10 : VI w q g G t ce me gv val trn uns gN gr fr od kt dg (upI M 1 0 (nI 0)))
          rw [V.2.1.1] at x2
          exact QOK.ans (v := nI (tn t)) N I0 FX.refl x2 FX.refl (by rw [y1, if_neg k4, if_pos k3, V2.rt.1.2.1])
      · rcases I0.2.2 with n0 | ⟨G, A, Gi, _, _⟩
        · have al : D_X1_allTold N g M = some (nI 0) := by
            unfold D_X1_allTold
            obtain ⟨n, hn⟩ : ∃ n, N = n + 1 := ⟨N - 1, by omega⟩
            subst hn
            rw [L_X1_allTold_4, n0.2.1, if_pos (by decide)]
          have x2 : D_X11_many N 1 (nI k) M = D_X11_answer N 1 (nI 0) M := by
            rw [x1, n0.1, n0.2.1, al, Option.bind_some, n0.2.2.2.1]
            by_cases k0 : k = 0
            · rw [if_pos k0]
            · by_cases k1 : k = 1
              · rw [if_neg k0, if_pos k1]
              · by_cases k2 : k = 2
                · rw [if_neg k0, if_neg k1, if_pos k2]
                · rw [if_neg k0, if_neg k1, if_neg k2]
          exact QOK.ans (v := nI 0) N I0 FX.refl x2 FX.refl (by rw [y1, if_neg k4, if_neg k3, if_pos (n0.q hg hw f10).2.2.1])
        · have K := (Gi.q hg f10 : GrI g G A (upI M 1 0 (nI 0)))
          have y2 : D_X12_many N 137 (nI k) (upI M 1 0 (nI 0)) = D_X12_gives N 137 ((upI M 1 0 (nI 0)).1 139 k) (upI M 1 0 (nI 0)) := by
            rw [y1, if_neg k4, if_neg k3, if_neg (by rw [K.fl]; exact z10), ldI_n (by omega) (by omega), Option.bind_some]
          have r0 := K.2.2.2.1.r0
          rcases (show k = 0 ∨ k = 1 ∨ k = 2 by omega) with z | z | z <;> subst z
          · rw [if_pos rfl, Gi.2.2.1.f 0] at x1
            exact QOK.ans (v := nI (G.i 0 0)) N I0 FX.refl x1 FX.refl (by rw [y2, r0.1])
          · rw [if_neg (by decide), if_pos rfl, Gi.2.2.1.f 1] at x1
            exact QOK.ans (v := nI (G.i 0 1)) N I0 FX.refl x1 FX.refl (by rw [y2, r0.2.1])
          · have l := loop_allTold N Gi.2.2.1 Gi.1 N 0 0 (Nat.zero_le _) (by omega) rfl
            have l : D_X1_allTold N g M = _ := l
            rw [if_neg (by decide), if_neg (by decide), if_pos rfl, l, Option.bind_some] at x1
            exact QOK.ans (v := nI (cnt (tdB G) (32 * G.i 0 1))) N I0 FX.refl x1 FX.refl (by rw [y2, r0.2.2, tolds_e G Gi.1.np])
theorem cnt_but {f : Nat → Bool} {i n : Nat} (hi : i < n) (h : f i = true) : cnt (fun x => !decide (x = i) && f x) n + 1 = cnt f n :=
  (cnt_one (f := fun x => !decide (x = i) && f x) (g := f) i hi (fun x _ hx => by show (!decide (x = i) && f x) = f x; rw [decide_eq_false hx, Bool.not_false, Bool.true_and]) (by show (!decide (i = i) && f i) = false; rw [decide_eq_true rfl]; rfl) h).symm
theorem q_span (hN : 20000 < N) (I : INV M) (a b c : Int32) : QOK M (D_X11_span N 1 a b c M) (D_X12_span N 137 a b c) := by
  obtain ⟨_, g, g', w, w', q, q', I0⟩ := I
  have R := I0.2.1
  obtain ⟨hg, hw, hq, _⟩ := R.gg
  have rg := R.g
  have rw' := R.w
  rcases arg2 c 1 (by decide) with h | ⟨k, hk, rfl, h1, h2⟩
  · refine QOK.ref (v := nI 1) N I0 FX.refl ?_ FX.refl ?_
    · unfold D_X11_span
      simp only [bind_pair]
      rw [if_out h]
    · unfold D_X12_span
      rw [out_from N _ h, Option.bind_some, if_pos rfl, bind_pair]
  · have x1 : D_X11_span N 1 a b (nI k) M = (D_X11_noInstance N 1 a b M).bind fun q2 => if q2 = nI 0 then (if k = 0 then ((D_X8_need N w (nI 8 * a + b) M).bind fun q3 => D_X11_answer N 1 q3.1 q3.2) else ((D_X8_reach N w g (nI 8 * a + b) M).bind fun q5 => D_X11_answer N 1 q5.1 q5.2)) else D_X11_refuse N 1 q2 M := by
      unfold D_X11_span
      simp only [bind_pair]
      rw [if_in h1 h2, rg, rw']
      simp only [Option.bind_some]
      rcases (show k = 0 ∨ k = 1 by omega) with z | z <;> subst z <;> rfl
    have y1 : ∀ M, D_X12_span N 137 a b (nI k) M = ((D_X12_hasTree N 137 M).bind fun q3 => (if q3 = nI 0 then D_X12_refuse N 137 (nI 3) M else ((D_X12_isInstance N 137 a b M).bind fun q5 => (if q5 = nI 0 then D_X12_refuse N 137 (nI 4) M else L_X12_span_57 M 137 N (nI 8 * a + b) (nI k) N (nI 1) (nI 0))))) := fun M => by
      unfold D_X12_span
      simp only [bind_pair]
      rw [from_yes N M hk (by decide), Option.bind_some, if_neg z10]
      rfl
    rcases I0.tree with ⟨t1, t2⟩ | ⟨G, A, t, ce, me, gv, val, trn, uns, gN, gr, fr, od, kt, dg, Gi, V, e3⟩
    · exact QOK.ref (v := nI 3) N I0 FX.refl (by rw [x1, noInst_0 N a b rw' t1, Option.bind_some, if_neg (by decide)]) FX.refl (by rw [y1, no_hasTree N (t2 _), Option.bind_some, if_pos rfl])
    · have V2 := fun v => (V.q hw hq f10 : VI w q g G t ce me gv val trn uns gN gr fr od kt dg (upI M 1 0 v))
      rcases inst_A N Gi.1 a b rw' V with ⟨e1, e2⟩ | ⟨kk, i, hkk, hi, ht, rfl, rfl, e1, e2⟩
      · exact QOK.ref (v := nI 4) N I0 FX.refl (by rw [x1, e1, Option.bind_some, if_neg (by decide)]) FX.refl (by rw [y1, (V2 _).hasTree, Option.bind_some, if_neg z10, e2 _ (V2 _), Option.bind_some, if_pos rfl])
      · have n := V.n1
        have h := V.1
        have i320 := th_320 h ht
        rw [e1, Option.bind_some, if_pos rfl, pk_mul, nI_add] at x1
        -- what the reference counts
        have rl : ∀ (M2 : Mm), VI w q g G t ce me gv val trn uns gN gr fr od kt dg M2 → ∀ (fu j x : Nat), j ≤ 8 * tn t → 320 < j + fu → x = 1 + cnt (fun x => !decide (x = 8 * kk + i) && (if k = 0 then rcB G t ce (8 * kk + i) x else rcB G t ce x (8 * kk + i))) j → L_X12_span_57 M2 137 N (nI (8 * kk + i)) (nI k) fu (nI x) (nI j) = D_X12_gives N 137 (nI (1 + cnt (fun x => !decide (x = 8 * kk + i) && (if k = 0 then rcB G t ce (8 * kk + i) x else rcB G t ce x (8 * kk + i))) (8 * tn t))) M2 := fun M2 W fu => by
          induction fu with
          | zero => intro j x h1 h2; omega
          | succ fu ih =>
            intro j x h1 h2 hx
            rw [L_X12_span_57, W.rt.1.2.1, pk_mul]
            simp only [n_le (show 8 * tn t < 2 ^ 31 by omega) (show j < 2 ^ 31 by omega), bind_pair, n_eq (show j < 2 ^ 31 by omega) (show 8 * kk + i < 2 ^ 31 by omega), n_eq (show k < 2 ^ 31 by omega) (show 0 < 2 ^ 31 by decide)]
            by_cases e : 8 * tn t ≤ j
            · rw [if_pos e, hx, show j = 8 * tn t by omega]
            · have st : cnt (fun x => !decide (x = 8 * kk + i) && (if k = 0 then rcB G t ce (8 * kk + i) x else rcB G t ce x (8 * kk + i))) (j + 1) = cnt (fun x => !decide (x = 8 * kk + i) && (if k = 0 then rcB G t ce (8 * kk + i) x else rcB G t ce x (8 * kk + i))) j + if (!decide (j = 8 * kk + i) && (if k = 0 then rcB G t ce (8 * kk + i) j else rcB G t ce j (8 * kk + i))) = true then 1 else 0 := rfl
              rw [if_neg e, Option.bind_some, nI_add]
              by_cases ei : j = 8 * kk + i
              · rw [if_pos ei]
                exact ih (j + 1) x (by omega) (by omega) (by rw [st, decide_eq_true ei]; exact hx)
              · have j320 : j < 320 := by omega
                rw [if_neg ei, show (137 : Nat) + 37 = 174 from rfl, ldI_n j320 (by omega), (W.rt.2.1 j j320).1, Option.bind_some]
                simp only [bI_0]
                rw [decide_eq_false ei, Bool.not_false, Bool.true_and] at st
                cases tb : thB G t j
                · have nz : (if k = 0 then rcB G t ce (8 * kk + i) j else rcB G t ce j (8 * kk + i)) = false := by
                    by_cases k0 : k = 0
                    · rw [if_pos k0]
                      cases u : rcB G t ce (8 * kk + i) j
                      · rfl
                      · exact absurd (rc_th Gi.1 h i320.1 u).2 (thB_f.1 tb)
                    · rw [if_neg k0]
                      cases u : rcB G t ce j (8 * kk + i)
                      · rfl
                      · exact absurd (rc_th Gi.1 h (by omega) u).1 (thB_f.1 tb)
                  rw [if_pos rfl]
                  exact ih (j + 1) x (by omega) (by omega) (by rw [st, nz]; exact hx)
                · have bt : (if k = 0 then D_X12_bit N 173 (nI (8 * kk + i)) (nI j) M2 else D_X12_bit N 173 (nI j) (nI (8 * kk + i)) M2) = some (bI (if k = 0 then rcB G t ce (8 * kk + i) j else rcB G t ce j (8 * kk + i))) := by
                    by_cases k0 : k = 0
                    · rw [if_pos k0, if_pos k0, r_bit N len173 W.rt.2.2.2.1 i320.2 j320]
                    · rw [if_neg k0, if_neg k0, r_bit N len173 W.rt.2.2.2.1 j320 i320.2]
                  have p : (jn (fun (p127 : Unit) => (some (nI 0))) fun J1 => (jn (fun (p123 : Unit) => (some (nI 1))) fun J2 => (if k = 0 then ((D_X12_bit N 173 (nI (8 * kk + i)) (nI j) M2).bind fun q8 => (if q8 = nI 0 then (J1 ()) else (J2 ()))) else ((D_X12_bit N 173 (nI j) (nI (8 * kk + i)) M2).bind fun q9 => (if q9 = nI 0 then (J1 ()) else (J2 ())))))) = some (bI (if k = 0 then rcB G t ce (8 * kk + i) j else rcB G t ce j (8 * kk + i))) := by
                    simp only [jn]
                    by_cases k0 : k = 0
                    · simp only [if_pos k0] at bt ⊢
                      rw [bt, Option.bind_some, ifb]
                    · simp only [if_neg k0] at bt ⊢
                      rw [bt, Option.bind_some, ifb]
                  rw [if_neg (by decide), show (137 : Nat) + 36 = 173 from rfl, p, Option.bind_some, Option.bind_some]
                  cases u : (if k = 0 then rcB G t ce (8 * kk + i) j else rcB G t ce j (8 * kk + i))
                  · rw [show nI x + bI false = nI (x + 0) from nI_add x 0]
                    exact ih (j + 1) (x + 0) (by omega) (by omega) (by rw [st, u]; exact hx)
                  · rw [show nI x + bI true = nI (x + 1) from nI_add x 1]
                    exact ih (j + 1) (x + 1) (by omega) (by omega) (by rw [st, u, if_pos rfl, hx, Nat.add_assoc])
        have fin : ∀ (sn : Nat → Bool) (M1 : Mm), FX (PBf w) M M1 → (∀ x, x < 8 * tn t → (sn x = true ↔ x = 8 * kk + i ∨ (if k = 0 then rcB G t ce (8 * kk + i) x else rcB G t ce x (8 * kk + i)) = true)) → (∀ x, sn x = true → x < 8 * tn t) → D_X11_span N 1 (nI kk) (nI i) (nI k) M = D_X11_answer N 1 (nI (cnt sn 320)) M1 → QOK M (D_X11_span N 1 (nI kk) (nI i) (nI k) M) (D_X12_span N 137 (nI kk) (nI i) (nI k)) := fun sn M1 f hs hl hx => by
          have f' : FX PQ M M1 := f.mono fun b j z => PBq hw z
          have W := ((V.q hw hq f').q hw hq f10 : VI w q g G t ce me gv val trn uns gN gr fr od kt dg (upI M1 1 0 (nI 0)))
          have e : cnt sn 320 = 1 + cnt (fun x => !decide (x = 8 * kk + i) && (if k = 0 then rcB G t ce (8 * kk + i) x else rcB G t ce x (8 * kk + i))) (8 * tn t) := by
            have e1 : cnt sn 320 = cnt sn (8 * tn t) := by
              have := cnt_zero (f := sn) (n := 8 * tn t) (320 - 8 * tn t) fun x hx _ => by
                cases u : sn x
                · rfl
                · have := hl x u; omega
              rw [show 8 * tn t + (320 - 8 * tn t) = 320 by omega] at this
              exact this
            have e2 := cnt_but (f := sn) (i := 8 * kk + i) (n := 8 * tn t) i320.1 ((hs _ i320.1).2 (Or.inl rfl))
            have e3 : cnt (fun x => !decide (x = 8 * kk + i) && sn x) (8 * tn t) = cnt (fun x => !decide (x = 8 * kk + i) && (if k = 0 then rcB G t ce (8 * kk + i) x else rcB G t ce x (8 * kk + i))) (8 * tn t) := cnt_congr fun x xl => by
              show (!decide (x = 8 * kk + i) && sn x) = (!decide (x = 8 * kk + i) && _)
              by_cases c : x = 8 * kk + i
              · rw [decide_eq_true c]; rfl
              · rw [decide_eq_false c, Bool.not_false, Bool.true_and, Bool.true_and]
                cases u : (if k = 0 then rcB G t ce (8 * kk + i) x else rcB G t ce x (8 * kk + i))
                · cases v : sn x
                  · rfl
                  · rcases (hs x xl).1 v with z | z
                    · exact absurd z c
                    · rw [u] at z; exact absurd z (by decide)
                · exact (hs x xl).2 (Or.inr u)
            rw [e1, ← e2, e3, Nat.add_comm]
          refine QOK.ans (v := nI (cnt sn 320)) N I0 f' hx FX.refl ?_
          rw [y1, W.hasTree, Option.bind_some, if_neg z10, e2 _ W, Option.bind_some, if_neg z10, pk_mul, nI_add, e]
          exact rl _ W N 0 1 (Nat.zero_le _) (by omega) rfl
        by_cases k0 : k = 0
        · obtain ⟨sn, M1, s1, s2, s3⟩ := s_need N (by omega) Gi.1 hw h V.2.2.1 ht
          rw [if_pos k0, s1, Option.bind_some] at x1
          refine fin sn M1 s3 (fun x xl => ?_) (fun x hx => ?_) x1
          · rw [if_pos k0, s2, RTc_nr Gi.1 h ht, RTc_rc Gi.1 h i320.1]
            exact ⟨fun z => z.imp Eq.symm id, fun z => z.imp Eq.symm id⟩
          · have := (s2 x).1 hx
            rw [RTc_nr Gi.1 h ht, RTc_rc Gi.1 h i320.1] at this
            rcases this with z | z
            · rw [← z]; exact i320.1
            · exact (th_320 h (rc_th Gi.1 h i320.1 z).2).1
        · obtain ⟨sn, M1, s1, s2, s3⟩ := s_reach N (by omega) Gi.1 hg hw h Gi.2.2.1 V.2.1 V.2.2.1 ht
          rw [if_neg k0, s1, Option.bind_some] at x1
          have lt : ∀ x, sn x = true → x < 8 * tn t := fun x hx => by
            have r := RTc_by.1 ((s2 x).1 hx)
            obtain ⟨m, hm⟩ := r
            cases m with
            | zero => rw [show x = 8 * kk + i from hm]; exact i320.1
            | succ m =>
              obtain ⟨y, hy, _⟩ := hm
              exact (th_320 h hy.1).1
          refine fin sn M1 s3 (fun x xl => ?_) lt x1
          rw [if_neg k0]
          refine ⟨fun hx => ?_, fun hx => (s2 x).2 (RTc_by.2 ?_)⟩
          · exact (RTc_rc Gi.1 h xl).1 (RTc_by.1 ((s2 x).1 hx))
          · rcases hx with z | z
            · rw [z]; exact RTc.refl
            · exact (RTc_rc Gi.1 h xl).2 (Or.inr z)
end q
