def PGd (b j : Nat) : Prop := b = 1 ∧ j = 0 ∨ b = 137 ∧ ¬ (j = 54 ∨ j = 55) ∨ 139 ≤ b ∧ b ≤ 144
section q
variable {M : Mm} (N : Nat)
theorem q_grammar (hN : 20000 < N) (I : INV M) (a : Int32) : QOK M (D_X11_grammar N 1 a M) (D_X12_grammar N 137 a) := by
  obtain ⟨_, g, g', w, w', q, q', I0⟩ := I
  have R := I0.2.1
  obtain ⟨hg, hw, hqq, hg', hw', hqq'⟩ := R.gg
  have ne : (g = 35 ∧ g' = 52 ∨ g = 52 ∧ g' = 35) ∧ (w = 69 ∧ w' = 87 ∨ w = 87 ∧ w' = 69) := ⟨R.1.2.2, R.2.1.2.2⟩
  obtain ⟨B, n0, Co⟩ := I0.1
  have n1000 := Co.1
  have x1 : D_X11_grammar N 1 a M = ((D_X7_holds N 2 a M).bind fun q1 => (if q1 = nI 0 then D_X11_refuse N 1 (nI 1) M else ((D_X7_begin N 2 a M).bind fun M1 => (rf M1 1 12 1).bind fun r1 => (D_X2_read N 7 2 r1 M1).bind fun q3 => (D_X11_keepFault N 1 q3.1 q3.2).bind fun M2 => (if q3.1 = nI 0 then D_X11_refuse N 1 (nI 9) M2 else ((D_X11_swapRules N 1 M2).bind fun M3 => (rf M3 1 13 8).bind fun r2 => (D_X8_clear N r2 M3).bind fun M5 => (rf M5 1 11 1).bind fun r3 => (D_X3_find N 9 r3 M5).bind fun M6 => (rf M6 1 11 1).bind fun r4 => (D_X5_find N 15 r4 9 M6).bind fun M7 => (D_X6_forget N 24 M7).bind fun M8 => (rf M8 1 11 1).bind fun r5 => D_X11_answer N 1 (M8.1 r5 1) M8))))) := by
    unfold D_X11_grammar
    simp only [bind_pair]
  rcases arg2 a n0 (by omega) with o | ⟨k, hk, rfl, h1, h2⟩
  · refine QOK.ref (v := nI 1) N I0 FX.refl (by rw [x1, holds_out N Co.2.1 o, Option.bind_some, if_pos rfl]) FX.refl ?_
    unfold D_X12_grammar
    simp only [bind_pair]
    rw [show (upI M 1 0 (nI 1)).1 137 5 = nI n0 from by rw [upI_n (by decide)]; exact Co.2.2.1, out_from N _ o, Option.bind_some, if_pos rfl]
  · rw [holds_in N Co.2.1 hk (by omega), Option.bind_some, if_neg z10] at x1
    obtain ⟨M1, b1, b2, b3, b4, b5⟩ := s_begin (B := B) N (by omega) (show k ≤ 1000 by omega) (fun i hi => ⟨(Co.2.2.2.1 i (by omega)).1, (Co.2.2.2.1 i (by omega)).2.1⟩)
    have w1 : FW (PFl w' g') M M1 := (b4.w (by unfold S2; omega) (by unfold S2; omega) (by unfold S2; omega)).mono fun b j z => by unfold S2 at z; unfold PFl; omega
    have R1 := R.fw w1
    have tE : TE (toks B k 0) := toks_TE B k k 0 (by omega)
    obtain ⟨G0, M2, d1, d1', d2⟩ := s_read N (by omega) b3 tE hg' b2
    have w2 : FW (PFl w' g') M M2 := w1.trans ((d1.w (by omega) (by omega) (by omega)).mono fun b j z => by unfold PFl; omega)
    have e2 : M2.1 2 6 = nI 0 := by rw [d1']; exact b5
    rw [b1, Option.bind_some, R1.g', Option.bind_some] at x1
    -- the reference, in any memory that has the tape
    have vg := fun (Mr : Mm) (h5 : Mr.1 137 5 = nI n0) (hB : ∀ i, i < n0 → Mr.1 138 i = nI (B i)) => v_grammar1 (B := B) (n := k) (t := n0) (M := Mr) N (by omega) G0 h5 n1000 hk (fun i hi => ⟨hB i (by omega), (Co.2.2.2.1 i (by omega)).2.1⟩)
    cases hp : pRead (toks B k 0) G0 with
    | inl e =>
      rw [hp] at d2
      obtain ⟨M4, r1, r2, r3, r4, _⟩ := d2
      obtain ⟨M5, k1, k2, k3, k4⟩ := s_keepFault N false M4
      have w4 : FW (PFl w' g') M M4 := w2.trans ((r4.1.w (by unfold SP SG; omega) (by unfold SP SG; omega) (by unfold SP SG; omega)).mono fun b j z => by unfold SP SG at z; unfold PFl; omega)
      have w5 : FW (PFl w' g') M M5 := w4.trans (k4.w.mono fun b j z => by unfold PFl; omega)
      have k1' : D_X11_keepFault N 1 (nI 0) M4 = some M5 := k1
      rw [r1, Option.bind_some, k1', Option.bind_some, if_pos rfl] at x1
      have w6 : FW (PFl w' g') M (upI M5 1 0 (nI 9)) := w5.trans ((FX.I (P := PFl w' g') (by unfold PFl; omega)).w)
      have hi6 : ∀ b j, 137 ≤ b → (upI M5 1 0 (nI 9)).1 b j = M.1 b j := fun b j hb => by
        rw [upI_n (by omega), (k4.2 b j (by omega)).1, (r4.1 b (by unfold SP SG; omega)).1, d1', (b4 b (by unfold S2; omega)).1]
      have v := vg (upI M5 1 0 (nI 9)) (by rw [hi6 _ _ (by omega)]; exact Co.2.2.1) (fun i hi => by rw [hi6 _ _ (by omega)]; exact (Co.2.2.2.1 i hi).2.2)
      unfold RGr at v
      rw [hp] at v
      obtain ⟨Ma, s1, s2, s3, s4, s5, s6, s7⟩ := v
      refine ⟨m1, upI M5 1 0 (nI 9), Ma, by rw [x1]; rfl, s1, fail_done9 I0 ((w6.mono fun b j z => Or.inl z).trans (s7.w.mono fun b j z => by unfold PG PR PB at z; unfold PFl; omega)) ?_ ?_ ?_ s5 ?_ ?_⟩
      · rw [s6, hi6 _ _ (by omega)]
      · rw [s4, (s7.2 1 0 (fun z => by unfold PG PR PB at z; omega)).1, upI_s]
      · rw [(s7.2 2 6 (fun z => by unfold PG PR PB at z; omega)).1, upI_n (by decide), (k4.2 2 6 (by omega)).1, r4.2.2]; exact e2
      · rw [s2, (s7.2 1 1 (fun z => by unfold PG PR PB at z; omega)).1, upI_j, if_neg (by decide), k2]; exact r2
      · rw [s3, (s7.2 1 2 (fun z => by unfold PG PR PB at z; omega)).1, upI_j, if_neg (by decide), k3]; exact r3
    | inr y =>
      rw [hp] at d2
      obtain ⟨M4, r1, r2, r4⟩ := d2
      -- what is read is a grammar
      have v0 := vg M Co.2.2.1 (fun i hi => (Co.2.2.2.1 i hi).2.2)
      unfold RGr at v0
      rw [hp] at v0
      obtain ⟨_, _, qt0, li, _⟩ := v0
      have qg : QG y.2 := qt0.g
      have ns1 : 1 ≤ y.2.i 0 0 := by
        unfold pRead at hp
        exact pRL_ns b3 tE 1000 true 0 (gClr G0) y (gClr_LI b2.2.1 b2.2.2.1) hp fun z => z.elim (fun u => absurd u (by decide)) fun u => absurd u (by decide)
      have n12 := qg.1.2.1
      obtain ⟨M5, k1, k2, k3, k4⟩ := s_keepFault N true M4
      have w4 : FW (PFl w' g') M M4 := w2.trans ((r4.1.w (by unfold SP SG; omega) (by unfold SP SG; omega) (by unfold SP SG; omega)).mono fun b j z => by unfold SP SG at z; unfold PFl; omega)
      have w5 : FW (PFl w' g') M M5 := w4.trans (k4.w.mono fun b j z => by unfold PFl; omega)
      have cg5 : CG g' y.2 M5 := r2.2.1.fx k4 fun i hi j z => by omega
      obtain ⟨sw, R6⟩ := RfI.swapG N (R.fw w5)
      have k1' : D_X11_keepFault N 1 (nI 1) M4 = some M5 := k1
      obtain ⟨M7, c1, c2, c3, c4⟩ := s_clearTree (M := upN (upN M5 1 12 g) 1 11 g') N (by omega) hw
      have cg6 : CG g' y.2 (upN (upN M5 1 12 g) 1 11 g') := cg5
      have f8 : FX (fun b j => b = w ∧ j = 0 ∨ b = w + 12 ∨ b = 1 ∧ j = 3) (upN (upN M5 1 12 g) 1 11 g') M7 := c4.mono fun b j z => by omega
      have cg8 : CG g' y.2 M7 := cg6.fx f8 fun i hi j z => by omega
      have R8 := R6.fx f8
      obtain ⟨A, M9, h9, i9, hh9, f9⟩ := s_findH N (by omega) qg hg' cg8
      have cg9 : CG g' y.2 M9 := cg8.fx f9 fun i hi j z => by unfold P9a P9 at z; omega
      have R9 := R8.fx f9
      obtain ⟨Mx, p1, p2, p3⟩ := s_plans N (by omega) qg hg' i9 cg9 hh9.1 hh9.2.1
      have cgx : CG g' y.2 Mx := cg9.fx p3 fun i hi j z => by unfold PFd at z; omega
      have Rx := R9.fx p3
      have hhx : HH y.2 A Mx := hh9.fx p3 fun b j z => by unfold PFd at z; omega
      have ft : FX (fun b j => b = 24 ∧ j = 5) Mx (upI Mx 24 5 (nI 0)) := FX.I ⟨rfl, rfl⟩
      have Rt := Rx.fx ft
      have cgt : CG g' y.2 (upI Mx 24 5 (nI 0)) := cgx.fx ft fun i hi j z => by omega
      have hht : HH y.2 A (upI Mx 24 5 (nI 0)) := hhx.fx ft fun b j z => by omega
      have plt : PLN y.2 A (upI Mx 24 5 (nI 0)) := p2.fx ft fun b j z => by omega
      have fg : D_X6_forget N 24 Mx = some (upI Mx 24 5 (nI 0)) := by
        unfold D_X6_forget
        rw [pZ_0, Option.bind_some]
      rw [r1, Option.bind_some, k1', Option.bind_some, if_neg z10, sw, Option.bind_some, R6.w, Option.bind_some, c1, Option.bind_some, R8.g, Option.bind_some, h9, Option.bind_some, R9.g, Option.bind_some, p1, Option.bind_some, fg, Option.bind_some, Rt.g, Option.bind_some, cgt.f 1] at x1
      -- from M5 on
      have ft9 : FX (fun b j => b = w ∧ j = 0 ∨ b = w + 12 ∨ b = 1 ∧ j = 3 ∨ 9 ≤ b ∧ b ≤ 23 ∨ b = 24 ∧ j = 5) (upN (upN M5 1 12 g) 1 11 g') (upI Mx 24 5 (nI 0)) := (((f8.mono fun b j z => by omega).trans (f9.mono fun b j z => by unfold P9a P9 at z; omega)).trans (p3.mono fun b j z => by unfold PFd at z; omega)).trans (ft.mono fun b j z => by omega)
      have s9 : ∀ b j, ¬ (b = w ∧ j = 0 ∨ b = w + 12 ∨ b = 1 ∧ j = 3 ∨ 9 ≤ b ∧ b ≤ 23 ∨ b = 24 ∧ j = 5) → (upI Mx 24 5 (nI 0)).1 b j = M5.1 b j := fun b j hb => (ft9.2 b j hb).1
      have hi10 : ∀ b j, 137 ≤ b → (upI (upI Mx 24 5 (nI 0)) 1 0 (nI 0)).1 b j = M.1 b j := fun b j hb => by
        rw [upI_n (by omega), s9 b j (by omega), (k4.2 b j (by omega)).1, (r4.1 b (by unfold SP SG; omega)).1, d1', (b4 b (by unfold S2; omega)).1]
      have v := vg (upI (upI Mx 24 5 (nI 0)) 1 0 (nI 0)) (by rw [hi10 _ _ (by omega)]; exact Co.2.2.1) (fun i hi => by rw [hi10 _ _ (by omega)]; exact (Co.2.2.2.1 i hi).2.2)
      unfold RGr at v
      rw [hp] at v
      obtain ⟨Ma, s1, s2, _, s3, s4, s5, s6, s7, s8⟩ := v
      obtain ⟨A', Mb, u1, u2, u3, u4⟩ := r_induces N (by omega) s2
      have ea : A' = A := u2.uniq i9
      subst ea
      have qtb : QT y.2 Mb := s2.fx u4 (fun j z => by unfold P34 at z; omega) (fun j z => by unfold P34 at z; omega)
      have fz : FX PGd (upI Mx 24 5 (nI 0)) (upI Mb 137 6 (nI 0)) := (((FX.I (P := PGd) (by unfold PGd; omega)).trans (s8.mono fun b j z => by unfold PH PG PR PB at z; unfold PGd; omega)).trans (u4.mono fun b j z => by unfold P34 at z; unfold PGd; omega)).trans (FX.I (by unfold PGd; omega))
      have lo : ∀ b j, ¬ PGd b j → (upI Mb 137 6 (nI 0)).1 b j = (upI Mx 24 5 (nI 0)).1 b j := fun b j hb => (fz.2 b j hb).1
      have e6 : ∀ b j, ¬ (b = 137 ∧ j = 6) → (upI Mb 137 6 (nI 0)).1 b j = Mb.1 b j := fun b j hb => ((FX.I (P := fun b j => b = 137 ∧ j = 6) (M := Mb) (v := nI 0) ⟨rfl, rfl⟩).2 b j hb).1
      have ub : ∀ j, Mb.1 137 j = Ma.1 137 j := fun j => (u4.2 137 j (by unfold P34; omega)).1
      have f7 : FX (fun b j => b = 137 ∧ j = 6) Mb (upI Mb 137 6 (nI 0)) := FX.I ⟨rfl, rfl⟩
      refine ⟨nI (y.2.i 0 1), upI (upI Mx 24 5 (nI 0)) 1 0 (nI 0), upI Mb 137 6 (nI 0), by rw [x1]; rfl, ?_, ?_, g', g, w, w', q, q', ⟨fun _ => 0, 0, by omega, ?_, ?_, fun i hi => absurd hi (Nat.not_lt_zero _), ?_, ?_, ?_, ?_⟩, Rt.fx fz, Or.inr ⟨y.2, A', ⟨qg, ns1, cgt.fx fz fun i hi j z => by unfold PGd at z; omega, qtb.fx f7 (fun j z => by omega) (fun j z => by omega), by rw [e6 137 9 (by omega), ub]; exact s6, i9, hht.fx fz fun b j z => by unfold PGd at z; omega, plt.fx fz fun b j z => by unfold PGd at z; omega, u3.fx f7 fun j _ _ z => by omega⟩, Or.inl (by rw [lo 24 5 (by unfold PGd; omega)]; exact upI_s _ _ _ _), Or.inl ⟨?_, ?_⟩⟩⟩
      · rw [s1, u1, Option.bind_some, ldI_n (by decide) (by decide), qtb.r0.2.1, Option.bind_some, bind_pair]; rfl
      · rw [upI_s, upI_n (by decide), (u4.2 1 0 (by unfold P34; omega)).1, (s8.2 1 0 (fun z => by unfold PH PG PR PB at z; omega)).1, upI_s]
      · rw [lo 2 6 (by unfold PGd; omega), s9 2 6 (by omega), (k4.2 2 6 (by omega)).1, r4.2.2]; exact e2
      · rw [e6 137 5 (by omega), ub]; exact s5
      · rw [e6 137 7 (by omega), ub, s3, lo 1 1 (by unfold PGd; omega), s9 1 1 (by omega), k2]; rfl
      · rw [e6 137 8 (by omega), ub, s4, lo 1 2 (by unfold PGd; omega), s9 1 2 (by omega), k3]; rfl
      · rw [lo 30 6 (by unfold PGd; omega), lo 137 54 (by unfold PGd; omega), s9 30 6 (by omega), s9 137 54 (by omega), w5.e (by unfold PFl; omega), w5.e (by unfold PFl; omega)]; exact Co.2.2.2.2.2.2.1
      · rw [lo 30 7 (by unfold PGd; omega), lo 137 55 (by unfold PGd; omega), s9 30 7 (by omega), s9 137 55 (by omega), w5.e (by unfold PFl; omega), w5.e (by unfold PFl; omega)]; exact Co.2.2.2.2.2.2.2
      · rw [lo w 0 (by unfold PGd; omega), upI_n (by omega), (p3.2 w 0 (by unfold PFd; omega)).1, (f9.2 w 0 (by unfold P9a P9; omega)).1]; exact c2
      · rw [e6 137 50 (by omega), ub]; exact s7
end q
