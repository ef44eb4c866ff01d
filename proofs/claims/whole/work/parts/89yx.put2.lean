section q
variable {M : Mm} (N : Nat)
theorem q_put (hN : 20000 < N) (I : INV M) (a b : Int32) : QOK M (D_X11_put N 1 a b M) (D_X12_put N 137 a b) := by
  obtain ⟨_, g, g', w, w', q, q', I0⟩ := I
  have R := I0.2.1
  obtain ⟨hg, hw, hqq, _⟩ := R.gg
  have rw' := R.w
  obtain ⟨B, n0, Co⟩ := I0.1
  rcases arg2 b 9999 (by decide) with hb | ⟨v, hv, rfl, hb1, hb2⟩
  · refine QOK.ref (v := nI 1) N I0 FX.refl ?_ FX.refl ?_
    · unfold D_X11_put
      simp only [bind_pair]
      rw [if_out hb]
    · unfold D_X12_put
      simp only [bind_pair]
      rw [out_from N _ hb, Option.bind_some, if_pos rfl]
  · have x1 : D_X11_put N 1 a (nI v) M = if M.1 w 0 = nI 0 then D_X11_refuse N 1 (nI 3) M else (D_X8_hasNode N w a M).bind fun q3 => if q3 = nI 0 then D_X11_refuse N 1 (nI 4) M else (ldI 40 (w + 2) a M).bind fun v1 => (stI 40 (w + 2) a (nI v) M).bind fun M1 => (rf M1 1 13 8).bind fun r5 => (D_X0_begin N 30 (M1.1 r5 0) M1).bind fun M2 => (if v1 = nI v then ((D_X11_reckonAnew N 1 M2).bind fun M3 => D_X11_answer N 1 v1 M3) else ((rf M2 1 11 1).bind fun r6 => (rf M2 1 13 8).bind fun r7 => (D_X0_markAskingOwn N 30 r6 r7 a M2).bind fun M4 => ((D_X11_reckonAnew N 1 M4).bind fun M5 => D_X11_answer N 1 v1 M5))) := by
      unfold D_X11_put
      simp only [bind_pair]
      rw [if_in hb1 hb2, rw']
      simp only [Option.bind_some]
    have y1 : ∀ M, D_X12_put N 137 a (nI v) M = ((D_X12_hasTree N 137 M).bind fun q3 => (if q3 = nI 0 then D_X12_refuse N 137 (nI 3) M else ((D_X12_isNode N 137 a M).bind fun q5 => (if q5 = nI 0 then D_X12_refuse N 137 (nI 4) M else ((ldI 40 158 a M).bind fun v1 => (D_X12_beginsChange N 137 M).bind fun M1 => (L_X12_put_58 (fun (M5 : Mm) => ((stI 40 158 a (nI v) M5).bind fun M6 => (D_X12_counts N 137 M6).bind fun M7 => D_X12_gives N 137 v1 M7)) 137 v1 (nI v) a N N (nI 0) M1)))))) := fun M => by
      unfold D_X12_put
      simp only [bind_pair]
      rw [from_yes N M hv (by decide), Option.bind_some, if_neg z10]
    rcases I0.tree2 with ⟨t1, t2⟩ | ⟨G, A, t, ce, me, gv, val, trn, uns, gN, gr, fr, od, kt, dg, Gi, Ck, V, e3⟩
    · exact QOK.ref (v := nI 3) N I0 FX.refl (by rw [x1, if_pos t1]) FX.refl (by rw [y1, no_hasTree N (t2 _), Option.bind_some, if_pos rfl])
    · have n := V.n1
      have h := V.1
      have V2 := fun v => (V.q hw hqq f10 : VI w q g G t ce me gv val trn uns gN gr fr od kt dg (upI M 1 0 v))
      rw [if_neg V.w0] at x1
      rcases hasNode_c N a V with ⟨e1, e2⟩ | ⟨k, hk, rfl, e1, e2⟩
      · exact QOK.ref (v := nI 4) N I0 FX.refl (by rw [x1, e1, Option.bind_some, if_pos rfl]) FX.refl (by rw [y1, (V2 _).hasTree, Option.bind_some, if_neg z10, e2 _ (V2 _), Option.bind_some, if_pos rfl])
      · have k40 : k < 40 := by omega
        rw [e1, Option.bind_some, if_neg z10, ldI_n k40 (by omega), (V.2.1.2 k hk).2.1, Option.bind_some, stI_n k40 (by omega), Option.bind_some, show rf (upI M (w + 2) k (nI v)) 1 13 8 = some w from rw', Option.bind_some, upI_n (by omega), V.2.1.1] at x1
        obtain ⟨M2, m2a, m2b, m2c, m2d⟩ := s_chBegin (m := tn t) (M := upI M (w + 2) k (nI v)) N (by omega) n.2
        rw [m2a, Option.bind_some] at x1
        have f2' : FX (fun b j => b = w + 2 ∧ j = k ∨ b = 31 ∨ b = 34) M M2 := (FX.I (v := nI v) (Or.inl ⟨rfl, rfl⟩)).trans (m2d.mono fun b j z => by omega)
        -- the tree with another own number
        have C2 : CT w G (putT t k v) M2 := by
          refine ⟨(f2'.2 w 0 (by omega)).1.trans V.2.1.1, fun e he => ?_⟩
          obtain ⟨c1, c2, c3, c4, c5, c6, c7, c8, c9⟩ := V.2.1.2 e he
          have o : ∀ i, 1 ≤ i → i ≤ 10 → ¬ i = 2 → M2.1 (w + i) e = M.1 (w + i) e := fun i i1 i2 i3 => (f2'.2 (w + i) e (by omega)).1
          refine ⟨by rw [o 1 (by omega) (by omega) (by omega)]; exact c1, ?_, by rw [o 3 (by omega) (by omega) (by omega)]; exact c3, by rw [o 4 (by omega) (by omega) (by omega)]; exact c4, by rw [o 5 (by omega) (by omega) (by omega)]; exact c5, by rw [o 7 (by omega) (by omega) (by omega)]; exact c6, by rw [o 8 (by omega) (by omega) (by omega)]; exact c7, by rw [o 9 (by omega) (by omega) (by omega)]; exact c8, by rw [o 10 (by omega) (by omega) (by omega)]; exact c9⟩
          show _ = nI (st1 (to' t) k v e)
          rw [(m2d.2 (w + 2) e (by omega)).1, upI_j]
          by_cases z : e = k
          · rw [if_pos z, z, st1_s]
          · rw [if_neg z, st1_n z]; exact c2
        have L2 : CLk w G t ce me M2 := V.2.2.1.fx f2' fun b j hb z => by omega
        obtain ⟨M3, hx, r31, f3⟩ : ∃ M3, D_X11_put N 1 (nI k) (nI v) M = ((D_X11_reckonAnew N 1 M3).bind fun M5 => D_X11_answer N 1 (nI (to' t k)) M5) ∧ (∀ i, thT G t i → M3.1 31 i = bI (mkP G t k i && !decide (nI (to' t k) = nI v))) ∧ FX (fun b _ => b = 31) M2 M3 := by
          by_cases z : nI (to' t k) = nI v
          · rw [if_pos z] at x1
            exact ⟨M2, x1, fun i hi => by rw [m2b i (th_320 h hi).2, decide_eq_true z, Bool.not_true, Bool.and_false]; rfl, FX.refl⟩
          · have R2 := R.fx f2'
            obtain ⟨M3, a1, a2, a3⟩ := s_markAskingOwn (M := M2) (t := putT t k v) N (by omega) Gi.1 h hg hw ((Gi.fx hg f2' fun b j z => by omega).2.2.1) C2 L2 hk m2b
            rw [if_neg z, R2.g, Option.bind_some, R2.w, Option.bind_some, a1, Option.bind_some] at x1
            exact ⟨M3, x1, fun i hi => by rw [decide_eq_false z, Bool.not_false, Bool.and_true]; exact a2 i hi, a3⟩
        have f2 : FX (fun b j => b = w + 2 ∧ j = k ∨ b = 31 ∨ b = 34) M M3 := f2'.trans (f3.mono fun b j z => by omega)
        have r34 : ∀ e, e < tn t → M3.1 34 e = nI e := fun e he => by rw [(f3.2 34 e (fun z => absurd (show (34 : Nat) = 31 from z) (by decide))).1]; exact m2c e he
        rw [hx]
        obtain ⟨M1, M4, z1, z2, z3⟩ := fin_change (M := M3) (g := g) (g' := g') (w := w) (w' := w') (q := q) (q' := q') (G := G) (A := A) (t := putT t k v) (ce := ce) (me := me) (gv := gv) (t0 := t) (ce0 := ce) (me0 := me) (gv0 := gv) (val0 := val) (w0 := w) (e := fun i => i) (mk := fun i => mkP G t k i && !decide (nI (to' t k) = nI v)) (mr := fun i => mkP G t k i && !decide (nI (to' t k) = nI v)) (nw := fun _ => false) N hN (R.fx f2) (Gi.fx hg f2 fun b j z => by omega) (Ck.fx f2 fun b j z => by omega) h (C2.fx f3 fun x j x1 x2 z => by omega) (L2.fx f3 fun b j hb z => by omega) (fun x hx => by
            rw [(f2.2 _ x (by omega)).1]; exact V.2.2.2.1 x hx) h (V.2.2.2.2.1.fx f2 fun b j z => by omega) (cor_put Gi.1 h) (fun i hi => ⟨_, r31 i hi, Or.inl, fun z => z.elim id fun u => absurd (show false = true from u) (by decide)⟩) (fun i hi => by
            have i8 := (th_320 h hi).1
            exact Or.inr ⟨i / 8, by omega, r34 _ (by omega), rfl, (Nat.div_add_mod i 8).symm⟩) (fun i _ => ⟨Or.inl, fun z => z.elim id fun u => absurd u (by decide)⟩) (nI (to' t k)) (fun M5 => D_X11_answer N 1 (nI (to' t k)) M5) (fun _ _ _ => rfl) (D_X12_put N 137 (nI k) (nI v)) (fun M4 => D_X12_gives N 137 (nI (to' t k)) M4) (fun _ _ => rfl) (fun M1 fy => by
            have V0 : RSI G t ce gv gr dg M3 := RSI.fx V.2.2.2.2.2.2.1 f2 fun b j z => by omega
            have V1 : RSI G t ce gv gr dg M1 := V0.fy fy fun b j z => by unfold PCl at z; omega
            have lo : ∀ b j, 137 ≤ b → M1.1 b j = M.1 b j := fun b j hb => (fy b j (fun z => by unfold PCl at z; omega)).1.trans (f2.2 b j (by omega)).1
            have T1 := V1.1.1
            have ht : D_X12_hasTree N 137 M1 = some (nI 1) := by
              unfold D_X12_hasTree
              rw [T1.2.1, if_neg (by rw [n_le (by omega) (by decide)]; omega), okZ_1]
            have hn : D_X12_isNode N 137 (nI k) M1 = some (nI 1) := by
              unfold D_X12_isNode
              rw [T1.2.1, n_sub (by omega), from_yes N M1 (by omega) (by omega), Option.bind_some, okZ_1]
            obtain ⟨Ma, a1, a2, a3⟩ := r_beginsChange (M := M1) N (by omega)
            have Sa : RSI G t ce gv gr dg Ma := V1.fx a3 fun b j z => by unfold PBg at z; omega
            obtain ⟨Mb, b1, b2, b3⟩ := r_putMarks (v1 := nI (to' t k)) (b := nI v) N (by omega) Gi.1 h Sa hk (fun i hi => (a2 i hi).1) (fun (M5 : Mm) => ((stI 40 158 (nI k) (nI v) M5).bind fun M6 => (D_X12_counts N 137 M6).bind fun M7 => D_X12_gives N 137 (nI (to' t k)) M7))
            have fr : FX (fun b j => PBg b j ∨ b = 158 ∧ j = k) M1 (upI Mb 158 k (nI v)) := ((a3.mono fun b j z => Or.inl z).trans (b3.mono fun b j z => Or.inl (by unfold PBg; omega))).trans (FX.I (by omega))
            refine ⟨upI Mb 158 k (nI v), ?_, fr.mono fun b j z => by unfold PBg at z; unfold Pr; omega, ⟨T1.1.fx fr (fun j z => by unfold PBg at z; omega) (fun j z => by unfold PBg at z; omega), by rw [(fr.2 137 50 (by unfold PBg; omega)).1]; exact T1.2.1, fun e he => ?_⟩, fun x hx => ?_, fun i hi => ?_, B, n0, ?_⟩
            · rw [y1, ht, Option.bind_some, if_neg z10, hn, Option.bind_some, if_neg z10, ldI_n k40 (by omega), (T1.2.2 k hk).2.1, Option.bind_some, a1, Option.bind_some, b1, stI_n k40 (by omega), Option.bind_some]
            · obtain ⟨w1, w2, w3⟩ := T1.2.2 e he
              refine ⟨by rw [(fr.2 157 e (by unfold PBg; omega)).1]; exact w1, ?_, by rw [(fr.2 159 e (by unfold PBg; omega)).1]; exact w3⟩
              show _ = nI (st1 (to' t) k v e)
              rw [upI_j]
              by_cases z : e = k
              · rw [if_pos z, z, st1_s]
              · rw [if_neg z, st1_n z, (b3.2 158 e (fun u => absurd (show (158 : Nat) = 177 from u) (by decide))).1, (a3.2 158 e (by unfold PBg; omega)).1]; exact w2
            · rw [(fr.2 163 x (by unfold PBg; omega)).1]; exact V1.1.2.2.2.2.2 x hx
            · obtain ⟨i8, i320⟩ := th_320 h hi
              obtain ⟨k1, k2, k3, k5⟩ := a2 i i320
              have o : ∀ b, (b = 178 ∨ b = 179 ∨ b = 170) → (upI Mb 158 k (nI v)).1 b i = Ma.1 b i := fun b hb => by rw [upI_n (by omega), (b3.2 b i (fun u => by omega)).1]
              refine ⟨?_, by rw [o 178 (by omega)]; exact k2, by rw [o 179 (by omega)]; exact k3, fun _ => ?_⟩
              · rw [upI_n (by decide)]; exact b2 i hi
              · rw [o 170 (by omega), k5, lo 166 i (by omega)]
                exact (V.vals Gi.1 hi).1
            · exact ((Co.t.fy f2.y fun b j z => by omega).fy fy fun b j z => by unfold PCl at z; omega).fy fr.y fun b j z => by unfold PBg at z; omega)
        exact ⟨nI (to' t k), M1, M4, z1, z2, z3⟩
end q
