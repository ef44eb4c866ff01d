-- both sides answer: graft
section q
variable {M : Mm} (N : Nat)
theorem q_graft (hN : 20000 < N) (I : INV M) (a b : Int32) : QOK M (D_X11_graft N 1 a b M) (D_X12_graft N 137 a b) := by
  obtain ⟨_, g, g', w, w', q, q', I0⟩ := I
  have R := I0.2.1
  obtain ⟨hg, hw, hqq, hg', hw', hqq'⟩ := R.gg
  have ne : (g = 35 ∧ g' = 52 ∨ g = 52 ∧ g' = 35) ∧ (w = 69 ∧ w' = 87 ∨ w = 87 ∧ w' = 69) := ⟨R.1.2.2, R.2.1.2.2⟩
  have nq : q = 105 ∧ q' = 121 ∨ q = 121 ∧ q' = 105 := R.2.2.2.2
  have rw' := R.w
  obtain ⟨B, n0, Co⟩ := I0.1
  have n1000 := Co.1
  have t5 : ∀ v, (upI M 1 0 v).1 137 5 = nI n0 := fun v => by rw [upI_n (by decide)]; exact Co.2.2.1
  rcases arg2 b n0 (by omega) with o | ⟨kk, hkk, rfl, h1, h2⟩
  · refine QOK.ref (v := nI 1) N I0 FX.refl ?_ FX.refl ?_
    · unfold D_X11_graft
      simp only [bind_pair]
      rw [show (1 : Nat) + 1 = 2 from rfl, holds_out N Co.2.1 o, Option.bind_some, if_pos rfl]
    · unfold D_X12_graft
      simp only [bind_pair]
      rw [t5, out_from N _ o, Option.bind_some, if_pos rfl]
  · rcases I0.tree2 with ⟨t1, t2⟩ | ⟨G, A, t, ce, me, gv, val, trn, uns, gN, gr, fr, od, kt, dg, Gi, Ck, V, e3⟩
    · refine QOK.ref (v := nI 3) N I0 FX.refl ?_ FX.refl ?_
      · unfold D_X11_graft
        simp only [bind_pair]
        rw [show (1 : Nat) + 1 = 2 from rfl, holds_in N Co.2.1 hkk (by omega), Option.bind_some, if_neg z10, rw', Option.bind_some, if_pos t1]
      · unfold D_X12_graft
        simp only [bind_pair]
        rw [t5, from_yes N _ hkk (by omega), Option.bind_some, if_neg z10, no_hasTree N (t2 _), Option.bind_some, if_pos rfl]
    · have V2 := fun v => (V.q hw hqq f10 : VI w q g G t ce me gv val trn uns gN gr fr od kt dg (upI M 1 0 v))
      have h := V.1
      have n := V.n1
      rcases hasNode_c N a V with ⟨e1, e2⟩ | ⟨k, hk, rfl, _, _⟩
      · refine QOK.ref (v := nI 4) N I0 FX.refl ?_ FX.refl ?_
        · unfold D_X11_graft
          simp only [bind_pair]
          rw [show (1 : Nat) + 1 = 2 from rfl, holds_in N Co.2.1 hkk (by omega), Option.bind_some, if_neg z10, rw', Option.bind_some, if_neg V.w0, Option.bind_some, e1, Option.bind_some, if_pos rfl]
        · unfold D_X12_graft
          simp only [bind_pair]
          rw [t5, from_yes N _ hkk (by omega), Option.bind_some, if_neg z10, (V2 _).hasTree, Option.bind_some, if_neg z10, e2 _ (V2 _), Option.bind_some, if_pos rfl]
      · have l := h.1.lt Gi.1 hk
        have hs : me k = k + (me k - k) := by omega
        generalize me k - k = s at hs
        have sg := s_graft (kk := kk) N hN R Gi Ck V Co hkk hk hs
        have P := V.2.2.2.2.1.1
        have S := V.2.2.2.2.2.2.1
        have ad := V.2.2.2.2.2.2.2
        -- the reference, in a memory that differs in the class's part alone
        have rg := fun (Mr : Mm) (fy : FY (fun b _ => b < 137) M Mr) => r_graft (B := B) (n0 := n0) (kk := kk) (val := val) N hN Gi.1 h P (S.fy fy fun b j z => z) (fun i hi => by rw [(fy 166 i (by omega)).1]; exact (V.vals Gi.1 hi).1) (by rw [(fy 137 5 (by omega)).1]; exact Co.2.2.1) n1000 (fun i hi => ⟨by rw [(fy 138 i (by omega)).1]; exact (Co.2.2.2.1 i hi).2.2, (Co.2.2.2.1 i hi).2.1⟩) hkk hk hs
        cases hp : pTree (toks B kk 0) G (tn t - s) (syT G t k + 1) (td t k) (tq t k) with
        | inl e =>
          rw [hp] at sg
          obtain ⟨M5, x1, w5, z1, z2, z3, y5⟩ := sg
          have y6 : FY (fun b _ => b < 137) M (upI M5 1 0 (nI 9)) := y5.trans (FX.I (P := fun b _ => b < 137) (by omega)).y
          have r := rg (upI M5 1 0 (nI 9)) y6
          rw [hp] at r
          obtain ⟨Mb, r1, r2, r3, r4, r5⟩ := r
          have lo : ∀ b j, b < 137 → (upI Mb 137 6 (nI 9)).1 b j = (upI M5 1 0 (nI 9)).1 b j := fun b j hb => by
            rw [upI_n (by omega), (r5.2 b j (by unfold PGf; omega)).1]
          refine ⟨m1, upI M5 1 0 (nI 9), upI Mb 137 6 (nI 9), by rw [x1]; rfl, by rw [r1]; rfl, fail_done I0 (((w5.trans (FX.I (P := PFl w' g') (by unfold PFl; omega)).w).trans (r5.w.mono fun b j z => by unfold PGf at z; unfold PFl; omega)).trans (FX.I (P := PFl w' g') (by unfold PFl; omega)).w) ?_ ?_ ?_ ?_ ?_⟩
          · rw [lo 1 0 (by omega), upI_s, upI_s]
          · rw [lo 2 6 (by omega), upI_n (by decide)]; exact z1
          · rw [upI_j, if_neg (by decide)]; exact r4
          · rw [lo 1 1 (by omega), upI_j, if_neg (by decide), z2, upI_j, if_neg (by decide), r2]
          · rw [lo 1 2 (by omega), upI_j, if_neg (by decide), z3, upI_j, if_neg (by decide), r3]
        | inr y =>
          rw [hp] at sg
          obtain ⟨cu, mu, M9, x1, tok, u0, k40, rs, h', p3, R9, gi9, ck9, ct9, cl9, gv9, m9, st9, cv9, z1, z2, z3, y9⟩ := sg
          have m1' := tok.1.1
          have ks := (h.1.2.1 k hk).2.2.2.1
          have cv9' : CV q w g G t ce me gv val trn uns gN gr fr od kt M9 := (V.2.2.2.2.1.fx (M' := (M9.1, M.2)) (P := fun b _ => ¬ (q + 1 ≤ b ∧ b ≤ q + 14)) ⟨rfl, fun b j nb => ⟨cv9 b j (by omega) (by omega), rfl⟩⟩ fun b j z => by omega : CV q w g G t ce me gv val trn uns gN gr fr od kt (M9.1, M.2))
          rw [x1]
          obtain ⟨M1, M2, a1, a2, a3⟩ := fin_change (M := M9) (g := g) (g' := g') (w := w') (w' := w) (q := q) (q' := q') (G := G) (A := A) (t := gfT t y.2 k s) (ce := gfC k s (tn y.2) ce cu) (me := gfM k s (tn y.2) me mu) (gv := gv) (t0 := t) (ce0 := ce) (me0 := me) (gv0 := gv) (val0 := val) (w0 := w) (e := fun i => 8 * sgG k s (tn y.2) (i / 8) + i % 8) (mk := mrkG G t y.2 gr kt k s) (mr := mrkG G t y.2 gr kt k s) (nw := fun i => nwG k (tn y.2) (i / 8)) N hN R9 gi9 ck9 h' ct9 cl9 gv9 h cv9' (cor_graft Gi.1 h h' P hk hs p3 rs m1') m9 (fun i hi => by
              have e1 : i / 8 < tn t + tn y.2 - s := hi.1
              rw [st9 _ e1]
              unfold sgR
              cases nw : nwG k (tn y.2) (i / 8)
              · rw [if_neg (by decide)]
                have nw' := of_decide_eq_false nw
                refine Or.inr ⟨sgG k s (tn y.2) (i / 8), ?_, rfl, nw, rfl⟩
                unfold sgG
                split <;> omega
              · rw [if_pos rfl]; exact Or.inl ⟨rfl, nw⟩) (fun i hi => ⟨Or.inl, fun z => z.elim id fun u => by
              unfold mrkG
              rw [show nwG k (tn y.2) (i / 8) = true from u, Bool.true_or, Bool.or_true]⟩) (nI (tn t + tn y.2 - s)) (pKg N) (fun M3 R3 f3 => by
              unfold pKg
              rw [R3.w, Option.bind_some, (f3 w' 0 (by unfold PCl; omega)).1, ct9.1]; rfl) (D_X12_graft N 137 (nI k) (nI kk)) (rKg N) (fun M7 T7 => by
              unfold rKg
              rw [T7.2.1]; rfl) (fun M1 fy => by
              have yr : FY (fun b _ => b < 137) M M1 := y9.trans (fy.mono fun b j z => by unfold PCl at z; omega)
              have r := rg M1 yr
              rw [hp] at r
              obtain ⟨Mh, r1, r2, r3, r4, r5, r6, r7, r8⟩ := r cu mu tok u0 k40 rs h'
              have lo : ∀ b j, (b = 2 ∧ j = 6 ∨ b = 1 ∧ (j = 1 ∨ j = 2)) → Mh.1 b j = M9.1 b j := fun b j hb => by
                rw [(r8.2 b j (by unfold PGr; omega)).1, (fy b j (by unfold PCl; omega)).1]
              refine ⟨Mh, r1, r8.mono fun b j z => by unfold PGr at z; unfold Pr; omega, r2, r3, r4, fun _ => 0, 0, by omega, ?_, r7, fun i hi => absurd hi (Nat.not_lt_zero _), ?_, ?_⟩
              · rw [lo 2 6 (by omega)]; exact z1
              · rw [lo 1 1 (by omega), r5]; exact z2
              · rw [lo 1 2 (by omega), r6]; exact z3)
          exact ⟨_, M1, M2, a1, a2, a3⟩
end q
