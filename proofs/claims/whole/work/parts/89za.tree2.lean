section q
variable {M : Mm} (N : Nat)
theorem n_taped {B : Nat → Nat} {n : Nat} (Co : CoI B n M) : M.1 2 6 = nI n ∧ M.1 137 5 = nI n ∧ n ≤ 1000 := ⟨Co.2.1, Co.2.2.1, Co.1⟩
/-- the class's memory with the two trees changed about -/
theorem RfI.swapW {g g' w w' q q' : Nat} (R : RfI g g' w w' q q' M) : D_X11_swapWood N 1 M = some (upN (upN M 1 14 w) 1 13 w') ∧ RfI g g' w' w q q' (upN (upN M 1 14 w) 1 13 w') := by
  have e : ∀ j, (upN (upN M 1 14 w) 1 13 w').2.2 1 j = if j = 13 then w' else if j = 14 then w else M.2.2 1 j := fun j => by
    rw [upN3, if_pos rfl]
    show (if j = 13 then w' else (upN M 1 14 w).2.2 1 j) = _
    rw [upN3, if_pos rfl]
  refine ⟨?_, ?_⟩
  · unfold D_X11_swapWood
    rw [R.w', Option.bind_some, R.w, Option.bind_some, pN_n, Option.bind_some, pN_n, Option.bind_some]
  · obtain ⟨⟨r1, r2, r3⟩, ⟨r4, r5, r6⟩, r7, r8, r9⟩ := R
    refine ⟨⟨by rw [e, if_neg (by decide), if_neg (by decide)]; exact r1, by rw [e, if_neg (by decide), if_neg (by decide)]; exact r2, r3⟩, ⟨by rw [e, if_pos rfl], by rw [e, if_neg (by decide), if_pos rfl], by omega⟩, by rw [e, if_neg (by decide), if_neg (by decide)]; exact r7, by rw [e, if_neg (by decide), if_neg (by decide)]; exact r8, r9⟩
theorem KT.ct {T : List Tok} {w g h : Nat} {G : Gr} {t : TR} (K : KT T w g G 0 0 m1 h t M) : CT w G t M ∧ tn t ≤ 40 ∧ ∀ e, e < tn t → td t e ≤ 12 := by
  obtain ⟨_, _, _, k4, k5, k6⟩ := K
  refine ⟨⟨by rw [k4, Nat.zero_add], fun e he => ?_⟩, by omega, fun e he => (k6 e he).2.2.2.2.1⟩
  have c := (k6 e he).1
  rw [Nat.zero_add] at c
  have : uC 0 m1 (tu t e) = nP (tu t e) := by unfold uC nP; rw [Nat.zero_add]
  rw [this] at c; exact c
theorem GrI.fy {P : Nat → Nat → Prop} {g : Nat} {G : Gr} {A : Nat → Nat} {M M' : Mm} (h : GrI g G A M) (f : FY P M M') (hP : ∀ b j, P b j → ¬ uG g b j) : GrI g G A M' := by
  have r : GrI g G A (M'.1, M'.2.1, M.2.2) := h.fw (⟨f, fun _ _ => rfl⟩ : FW P M (M'.1, M'.2.1, M.2.2)) hP
  exact r
theorem CKs.fy {P : Nat → Nat → Prop} {G : Gr} {M M' : Mm} (h : CKs G M) (f : FY P M M') (hP : ∀ b j, P b j → b < 24 ∨ 29 < b) : CKs G M' := by
  have r : CKs G (M'.1, M'.2.1, M.2.2) := h.fx f.x hP
  exact r
def PTd (b j : Nat) : Prop := b = 1 ∧ j = 0 ∨ b = 137 ∧ ¬ (j = 9 ∨ j = 54 ∨ j = 55) ∨ 157 ≤ b ∧ b ≤ 180
theorem q_tree (hN : 20000 < N) (I : INV M) (a : Int32) : QOK M (D_X11_tree N 1 a M) (D_X12_tree N 137 a) := by
  obtain ⟨_, g, g', w, w', q, q', I0⟩ := I
  have R := I0.2.1
  obtain ⟨hg, hw, hqq, hg', hw', hqq'⟩ := R.gg
  have ne : (g = 35 ∧ g' = 52 ∨ g = 52 ∧ g' = 35) ∧ (w = 69 ∧ w' = 87 ∨ w = 87 ∧ w' = 69) := ⟨R.1.2.2, R.2.1.2.2⟩
  obtain ⟨B, n0, Co⟩ := I0.1
  have n1000 := Co.1
  have x1 : D_X11_tree N 1 a M = ((D_X7_holds N 2 a M).bind fun q1 => (if q1 = nI 0 then D_X11_refuse N 1 (nI 1) M else (if M.1 g 0 = nI 0 then D_X11_refuse N 1 (nI 2) M else ((D_X7_begin N 2 a M).bind fun M1 => (rf M1 1 14 8).bind fun r2 => (D_X8_clear N r2 M1).bind fun M2 => (rf M2 1 11 1).bind fun r3 => (rf M2 1 14 8).bind fun r4 => (D_X9_read N 8 2 r3 r4 m1 (nI 0) m1 (nI 0) M2).bind fun q4 => (D_X11_keepFault N 1 q4.1 q4.2).bind fun M3 => (if q4.1 = nI 0 then D_X11_refuse N 1 (nI 9) M3 else ((rf M3 1 14 8).bind fun r5 => (rf M3 1 11 1).bind fun r6 => (D_X8_link N r5 r6 M3).bind fun M4 => (D_X11_swapWood N 1 M4).bind fun M5 => (pZ M5 1 3 (nI 0)).bind fun M6 => (rf M6 1 15 10).bind fun r7 => (rf M6 1 11 1).bind fun r8 => (rf M6 1 13 8).bind fun r9 => (D_X10_begin N r7 r8 r9 M6).bind fun M7 => (rf M7 1 15 10).bind fun r10 => (rf M7 1 13 8).bind fun r11 => (D_X4_find N (r10 + 1) r11 M7).bind fun M8 => (rf M8 1 15 10).bind fun r12 => (D_X10_reckonAll N r12 M8).bind fun M9 => (rf M9 1 13 8).bind fun r13 => D_X11_answer N 1 (M9.1 r13 0) M9)))))) := by
    unfold D_X11_tree
    simp only [bind_pair]
    rw [R.g]
    simp only [Option.bind_some]
  have y1 : ∀ M, M.1 137 5 = nI n0 → D_X12_tree N 137 a M = ((D_X12_isFrom N a (nI 0) (nI n0) M).bind fun q1 => (if q1 = nI 0 then D_X12_refuse N 137 (nI 1) M else (if (M.1 137 9) = nI 0 then D_X12_refuse N 137 (nI 2) M else ((pI M 137 52 (nI 0)).bind fun M1 => (D_X12_readTree N 137 a m1 (nI 1) M1).bind fun q4 => (D_X12_ends N 137 q4.1 q4.2).bind fun q5 => (if q5.1 ≤ nI 0 then ((pI q5.2 137 50 (q5.2.1 137 51)).bind fun M2 => (L_X12_tree_67 (fun (M7 : Mm) => (L_X12_tree_119 (fun (M10 : Mm) => ((pZ M10 137 53 (nI 0)).bind fun M11 => (D_X12_settles N 137 M11).bind fun M12 => D_X12_gives N 137 (M12.1 137 50) M12)) 137 N (nI 0) M7)) 137 N (nI 0) M2)) else D_X12_refuse N 137 (nI 9) q5.2))))) := fun M h => by
    unfold D_X12_tree
    simp only [bind_pair]
    rw [h]
  rcases arg2 a n0 (by omega) with o | ⟨k, hk, rfl, h1, h2⟩
  · exact QOK.ref (v := nI 1) N I0 FX.refl (by rw [x1, holds_out N Co.2.1 o, Option.bind_some, if_pos rfl]) FX.refl (by rw [y1 _ (by rw [upI_n (by decide)]; exact Co.2.2.1), out_from N _ o, Option.bind_some, if_pos rfl])
  · rw [holds_in N Co.2.1 hk (by omega), Option.bind_some, if_neg z10] at x1
    have y2 : ∀ M, M.1 137 5 = nI n0 → D_X12_tree N 137 (nI k) M = _ := fun M h => by rw [y1 M h, from_yes N M hk (by omega), Option.bind_some, if_neg z10]
    rcases I0.2.2 with n0' | ⟨G, A, Gi, Ck, Tr⟩
    · exact QOK.ref (v := nI 2) N I0 FX.refl (by rw [x1, if_pos n0'.1]) FX.refl (by rw [y2 _ (by rw [upI_n (by decide)]; exact Co.2.2.1), if_pos (n0'.q hg hw f10).2.2.1])
    · rw [if_neg Gi.g0] at x1
      -- the class cuts the text into tokens, and clears the other tree
      obtain ⟨M1, b1, b2, b3, b4, b5⟩ := s_begin (B := B) N (by omega) (show k ≤ 1000 by omega) (fun i hi => ⟨(Co.2.2.2.1 i (by omega)).1, (Co.2.2.2.1 i (by omega)).2.1⟩)
      have w1 : FW (PFl w' g') M M1 := (b4.w (by unfold S2; omega) (by unfold S2; omega) (by unfold S2; omega)).mono fun b j z => by unfold S2 at z; unfold PFl; omega
      have R1 := R.fw w1
      obtain ⟨M2, c1, c2, c3, c4⟩ := s_clearTree (M := M1) N (by omega) hw'
      have w2 : FW (PFl w' g') M M2 := w1.trans (c4.w.mono fun b j z => by unfold PFl; omega)
      have R2 := R.fw w2
      have gi2 : GrI g G A M2 := Gi.fw w2 fun b j z => by unfold PFl at z; unfold uG; omega
      have K2 : TK (toks B k 0) 0 M2 := b2.fr (FX.fr (S := fun b => b = w' ∨ b = w' + 12) (c4.mono fun b j z => by omega)) (by omega) (by omega) (by omega) (by omega)
      obtain ⟨M3, d1, d2⟩ := s_readT (n := k) (T := toks B k 0) (w := w') (g := g) (first := 0) (bh := 0) (q := 0) (d := 1) (need := 0) (P0 := m1) N (by omega) b3 Gi.1 hg hw' (by omega) K2 gi2.2.2.1 c2 (by omega) (Or.inl ⟨rfl, rfl⟩)
      have w3 : FW (PFl w' g') M M3 := w2.trans ((d1.w (by omega) (by omega) (by omega)).mono fun b j z => by unfold PFl; omega)
      have e3 : M3.1 2 6 = nI 0 := by rw [(d1 2 (by omega)).1, (c4.2 2 6 (by omega)).1]; exact b5
      have eb : D_X9_read N 8 2 g w' m1 (nI 0) (ndI 0) (nI 0) M2 = D_X9_read N 8 2 g w' m1 (nI 0) m1 (nI 0) M2 := rfl
      rw [eb] at d2
      rw [b1, Option.bind_some, R1.w', Option.bind_some, c1, Option.bind_some, R2.g, Option.bind_some, R2.w', Option.bind_some] at x1
      -- the reference reads it, in any memory that differs in the class's part
      have rt := fun (Mr : Mm) (gr : GrI g G A Mr) (hB : ∀ i, i < n0 → Mr.1 138 i = nI (B i)) => r_readT5 (B := B) (n := k) (st := 0) (need := 0) (d := 1) (q := 0) (G := G) (M := upI Mr 137 52 (nI 0)) N (by omega) Gi.1 (by omega) (fun i hi => ⟨by rw [upI_n (by decide)]; exact hB i (by omega), (Co.2.2.2.1 i (by omega)).2.1⟩) (gr.2.2.2.1.fx (FX.I (P := fun b j => b = 137 ∧ j = 52) ⟨rfl, rfl⟩) (fun j z => by omega) (fun j z => by omega)) (upI_s _ _ _ _) (by omega) (by omega) (by omega)
      have ri : ∀ Mr : Mm, GrI g G A Mr → Mr.1 137 5 = nI n0 → D_X12_tree N 137 (nI k) Mr = ((D_X12_readTree N 137 (nI k) (ndI 0) (nI 1) (upI Mr 137 52 (nI 0))).bind fun q4 => (D_X12_ends N 137 q4.1 q4.2).bind fun q5 => (if q5.1 ≤ nI 0 then ((pI q5.2 137 50 (q5.2.1 137 51)).bind fun M2 => (L_X12_tree_67 (fun (M7 : Mm) => (L_X12_tree_119 (fun (M10 : Mm) => ((pZ M10 137 53 (nI 0)).bind fun M11 => (D_X12_settles N 137 M11).bind fun M12 => D_X12_gives N 137 (M12.1 137 50) M12)) 137 N (nI 0) M7)) 137 N (nI 0) M2)) else D_X12_refuse N 137 (nI 9) q5.2)) := fun Mr gr h5 => by
        rw [y2 Mr h5, if_neg (by rw [gr.fl]; exact z10), pI_n, Option.bind_some]; rfl
      have PTx : ∀ b j, PTb b j → b = 137 ∧ ¬ (j = 9 ∨ j = 50 ∨ j = 72 ∨ j = 53 ∨ j = 54 ∨ j = 55) ∧ ¬ j = 6 ∧ ¬ j = 7 ∧ ¬ j = 8 ∨ 160 ≤ b ∧ b ≤ 162 := fun b j z => by
        rcases z with z | z
        · unfold PTr PB at z; omega
        · unfold PN at z; omega
      cases hp : pTree (toks B k 0) G (0 + 0) 0 1 0 with
      | inl e =>
        rw [hp] at d2
        obtain ⟨M4, r1, r2, r3, r4, r5⟩ := d2
        obtain ⟨M5, k1, k2, k3, k4⟩ := s_keepFault N false M4
        have w4 : FW (PFl w' g') M M4 := w3.trans ((r4.w (by unfold SW SN; omega) (by unfold SW SN; omega) (by unfold SW SN; omega)).mono fun b j z => by unfold SW SN at z; unfold PFl; omega)
        have w5 : FW (PFl w' g') M M5 := w4.trans (k4.w.mono fun b j z => by unfold PFl; omega)
        have k1' : D_X11_keepFault N 1 (nI 0) M4 = some M5 := k1
        rw [r1, Option.bind_some, k1', Option.bind_some, if_pos rfl] at x1
        have w6 : FW (PFl w' g') M (upI M5 1 0 (nI 9)) := w5.trans ((FX.I (P := PFl w' g') (by unfold PFl; omega)).w)
        have lo : ∀ b j, ¬ PFl w' g' b j → (upI M5 1 0 (nI 9)).1 b j = M.1 b j := fun b j hb => w6.e hb
        have gr6 : GrI g G A (upI M5 1 0 (nI 9)) := Gi.fw w6 fun b j z => by unfold PFl at z; unfold uG; omega
        have t5 : (upI M5 1 0 (nI 9)).1 137 5 = nI n0 := by
          rw [upI_n (by decide), (k4.2 137 5 (by omega)).1, (r4 137 (by unfold SW SN; omega)).1, (d1 137 (by omega)).1, (c4.2 137 5 (by omega)).1, (b4 137 (by unfold S2; omega)).1]; exact Co.2.2.1
        have rt' := rt (upI M5 1 0 (nI 9)) gr6 (fun i hi => by rw [lo 138 i (by unfold PFl; omega)]; exact (Co.2.2.2.1 i hi).2.2)
        have hp' : pTree (toks B k 0) G 0 0 1 0 = .inl e := hp
        rw [hp'] at rt'
        obtain ⟨Ma, s1, s2, s3, s5⟩ := rt'
        obtain ⟨Mb, u1, u2, u3, u4⟩ := r_ends N false Ma
        have u1' : D_X12_ends N 137 (nI 0) Ma = some (nI 9, Mb) := u1
        have fa : FX (PFl w' g') (upI M5 1 0 (nI 9)) Ma := (FX.I (P := PFl w' g') (by unfold PFl; omega)).trans (s3.mono fun b j z => by have := PTx b j z; unfold PFl; omega)
        have fb : FX (PFl w' g') (upI M5 1 0 (nI 9)) (upI Mb 137 6 (nI 9)) := (fa.trans (u4.mono fun b j z => by unfold PFl; omega)).trans (FX.I (by unfold PFl; omega))
        refine ⟨m1, upI M5 1 0 (nI 9), upI Mb 137 6 (nI 9), by rw [x1]; rfl, ?_, fail_done I0 (w6.trans fb.w) ?_ ?_ ?_ ?_ ?_⟩
        · rw [ri _ gr6 t5, s1, Option.bind_some, u1', Option.bind_some, if_neg (show ¬ nI 9 ≤ nI 0 by decide)]; rfl
        · rw [upI_n (by decide), upI_s, (u4.2 1 0 (by omega)).1, (s3.2 1 0 (fun z => by have := PTx _ _ z; omega)).1, upI_n (by decide), upI_s]
        · rw [upI_n (by decide), (u4.2 2 6 (by omega)).1, (s3.2 2 6 (fun z => by have := PTx _ _ z; omega)).1, upI_n (by decide), upI_n (by decide), (k4.2 2 6 (by omega)).1, r5]; exact e3
        · rw [upI_j, if_neg (by decide), (u4.2 137 5 (by omega)).1]; exact s5
        · rw [upI_n (by decide), upI_j, if_neg (by decide), u2, s2.1, (u4.2 1 1 (by omega)).1, (s3.2 1 1 (fun z => by have := PTx _ _ z; omega)).1, upI_n (by decide), upI_j, if_neg (by decide), k2]; exact r2
        · rw [upI_n (by decide), upI_j, if_neg (by decide), u3, s2.2, (u4.2 1 2 (by omega)).1, (s3.2 1 2 (fun z => by have := PTx _ _ z; omega)).1, upI_n (by decide), upI_j, if_neg (by decide), k3]; exact r3
      | inr y =>
        rw [hp] at d2
        obtain ⟨M4, r1, r2, r4, r5⟩ := d2
        obtain ⟨p1, p2, p3, p4, p5, ce, me, tok⟩ := pTree_tok Gi.1 hp
        obtain ⟨ct4, h40, hd12⟩ := r2.ct
        have h : TOK2 G y.2 ce me := ⟨tok, p3, p5, h40, hd12⟩
        have n1 := tok.1.1
        obtain ⟨M5, k1, k2, k3, k4⟩ := s_keepFault N true M4
        have w4 : FW (PFl w' g') M M4 := w3.trans ((r4.w (by unfold SW SN; omega) (by unfold SW SN; omega) (by unfold SW SN; omega)).mono fun b j z => by unfold SW SN at z; unfold PFl; omega)
        have w5 : FW (PFl w' g') M M5 := w4.trans (k4.w.mono fun b j z => by unfold PFl; omega)
        have gi5 : GrI g G A M5 := Gi.fw w5 fun b j z => by unfold PFl at z; unfold uG; omega
        have ct5 : CT w' G y.2 M5 := ct4.fx k4 fun x j x1 x2 z => by omega
        obtain ⟨M6, l1, l2, l3, l4⟩ := s_link N (by omega) Gi.1 hg hw' h gi5.2.2.1 ct5
        have w6 : FW (fun b j => PFl w' g' b j ∨ w' ≤ b ∧ b ≤ w' + 15) M M6 := (w5.mono fun b j z => Or.inl z).trans (l4.w.mono fun b j z => by unfold PLk at z; omega)
        have gi6 : GrI g G A M6 := Gi.fw w6 fun b j z => by unfold PFl at z; unfold uG; omega
        have gv6 : ∀ a, a < 4 → M6.1 (w' + 12) a = nI 0 := fun a ha => by
          rw [(l4.2 (w' + 12) a (fun z => by unfold PLk at z; omega)).1, (k4.2 (w' + 12) a (by omega)).1, (r4 (w' + 12) (by unfold SW SN; omega)).1, (d1 (w' + 12) (by omega)).1]
          exact c3 a ha
        have R6 := R.fw w6
        obtain ⟨sw, R7⟩ := RfI.swapW N R6
        have k1' : D_X11_keepFault N 1 (nI 1) M4 = some M5 := k1
        rw [r1, Option.bind_some, k1', Option.bind_some, if_neg z10, (R.fw w5).w', Option.bind_some, (R.fw w5).g, Option.bind_some, l1, Option.bind_some, sw, Option.bind_some, pZ_0, Option.bind_some] at x1
        have R8 : RfI g g' w' w q q' (upI (upN (upN M6 1 14 w) 1 13 w') 1 3 (nI 0)) := R7.fx (FX.I (P := fun b j => b = 1) rfl)
        have f8 : FX (fun b j => b = 1 ∧ j = 3) M6 (upI M6 1 3 (nI 0)) := FX.I ⟨rfl, rfl⟩
        have gi8 : GrI g G A (upI M6 1 3 (nI 0)) := gi6.fw f8.w fun b j z => by unfold uG; omega
        have ct8 : CT w' G y.2 (upI M6 1 3 (nI 0)) := l2.fx f8 fun x j x1 x2 z => by omega
        have cl8 : CLk w' G y.2 ce me (upI M6 1 3 (nI 0)) := l3.fx f8 fun b j hb z => by omega
        obtain ⟨val, trn, uns, gN, gr, fr, od, kt, Ma, Mb, M9, n1', n2', m1', m2', m3', fa', fb', m4'⟩ := s_reckonAll (M := upI (upN (upN M6 1 14 w) 1 13 w') 1 3 (nI 0)) (gv := fun _ => nI 0) N hN Gi.1 h hg hw' hqq gi8.2.2.1 ct8 cl8 (fun a ha => by
          show (upI M6 1 3 (nI 0)).1 (w' + 12) a = nI 0
          rw [upI_n (by omega)]; exact gv6 a ha)
        have ref9 : M9.2.2 1 = (upI (upN (upN M6 1 14 w) 1 13 w') 1 3 (nI 0)).2.2 1 := (m4' 1 (by omega)).2.2
        have R9 : RfI g g' w' w q q' M9 := by unfold RfI; rw [ref9]; exact R8
        have Ra : RfI g g' w' w q q' Ma := by unfold RfI; rw [(fa' 1 (by omega)).2.2]; exact R8
        have Rb : RfI g g' w' w q q' Mb := by unfold RfI; rw [(fb' 1 (by omega)).2.2]; exact R8
        have s9 : ∀ b j, ¬ (q ≤ b ∧ b ≤ q + 15) → ¬ (b = 1 ∧ j = 3) → M9.1 b j = M6.1 b j := fun b j h1 h2 => by
          rw [(m4' b h1).1]
          exact (f8.2 b j h2).1
        have y9 : FY (fun b j => q ≤ b ∧ b ≤ q + 15 ∨ b = 1 ∧ j = 3) M6 M9 := fun b j hb => ⟨s9 b j (fun z => hb (Or.inl z)) (fun z => hb (Or.inr z)), by
          rw [(m4' b (fun z => hb (Or.inl z))).2.1]; rfl⟩
        have Y9 : FY (fun b j => PFl w' g' b j ∨ w' ≤ b ∧ b ≤ w' + 15 ∨ q ≤ b ∧ b ≤ q + 15 ∨ b = 1 ∧ j = 3) M M9 := (w6.1.mono fun b j z => z.elim Or.inl fun u => Or.inr (Or.inl u)).trans (y9.mono fun b j z => Or.inr (Or.inr z))
        rw [R8.q, Option.bind_some, R8.g, Option.bind_some, R8.w, Option.bind_some, n1', Option.bind_some, Ra.q, Option.bind_some, Ra.w, Option.bind_some, n2', Option.bind_some, Rb.q, Option.bind_some, m1', Option.bind_some, R9.w, Option.bind_some, s9 w' 0 (by omega) (by omega), l2.1] at x1
        -- the reference, after the class
        have Y10 : FY (fun b j => PFl w' g' b j ∨ w' ≤ b ∧ b ≤ w' + 15 ∨ q ≤ b ∧ b ≤ q + 15 ∨ b = 1 ∧ (j = 0 ∨ j = 3)) M (upI M9 1 0 (nI 0)) := (Y9.mono fun b j z => z.elim Or.inl fun u => Or.inr (u.elim Or.inl fun u => Or.inr (u.elim Or.inl fun u => Or.inr ⟨u.1, Or.inr u.2⟩))).trans (FX.I (P := fun b j => PFl w' g' b j ∨ w' ≤ b ∧ b ≤ w' + 15 ∨ q ≤ b ∧ b ≤ q + 15 ∨ b = 1 ∧ (j = 0 ∨ j = 3)) (Or.inr (Or.inr (Or.inr ⟨rfl, Or.inl rfl⟩)))).y
        have gi10 : GrI g G A (upI M9 1 0 (nI 0)) := Gi.fy Y10 fun b j z => by unfold PFl at z; unfold uG; omega
        have hi10 : ∀ b j, 137 ≤ b → (upI M9 1 0 (nI 0)).1 b j = M.1 b j := fun b j hb => by
          rw [upI_n (by omega), s9 b j (by omega) (by omega), (l4.2 b j (fun z => by unfold PLk at z; omega)).1, (k4.2 b j (by omega)).1, (r4 b (by unfold SW SN; omega)).1, (d1 b (by omega)).1, (c4.2 b j (by omega)).1, (b4 b (by unfold S2; omega)).1]
        have t5 : (upI M9 1 0 (nI 0)).1 137 5 = nI n0 := by rw [hi10 137 5 (by omega)]; exact Co.2.2.1
        have rt' := rt (upI M9 1 0 (nI 0)) gi10 (fun i hi => by rw [hi10 138 i (by omega)]; exact (Co.2.2.2.1 i hi).2.2)
        have hp' : pTree (toks B k 0) G 0 0 1 0 = .inr y := hp
        rw [hp'] at rt'
        obtain ⟨Ma, s1, s2, s3, s5⟩ := rt'
        obtain ⟨Mb, u1, u2, u3, u4⟩ := r_ends N true Ma
        have u1' : D_X12_ends N 137 (nI 1) Ma = some (nI 0, Mb) := u1
        have m51 : Mb.1 137 51 = nI (tn y.2) := by rw [(u4.2 137 51 (by omega)).1]; exact s2.2.2.2.1.1
        have fc : FX (fun b j => b = 137 ∧ (j = 7 ∨ j = 8 ∨ j = 50)) Ma (upI Mb 137 50 (nI (tn y.2))) := (u4.mono fun b j z => by omega).trans (FX.I (by omega))
        obtain ⟨Md, v1, v2, v3⟩ := r_treeCopy h40 (fun (M7 : Mm) => (L_X12_tree_119 (fun (M10 : Mm) => ((pZ M10 137 53 (nI 0)).bind fun M11 => (D_X12_settles N 137 M11).bind fun M12 => D_X12_gives N 137 (M12.1 137 50) M12)) 137 N (nI 0) M7)) N 0 (upI Mb 137 50 (nI (tn y.2))) (by omega) (by omega) (upI_s _ _ _ _) ⟨by rw [(fc.2 137 51 (by omega)).1]; exact s2.2.2.2.1.1, fun e he => by rw [(fc.2 160 e (by omega)).1, (fc.2 161 e (by omega)).1, (fc.2 162 e (by omega)).1]; exact s2.2.2.2.1.2 e he⟩ (fun x hx => by omega)
        obtain ⟨Me, g1, g2, g3⟩ := r_treeGiven (fun (M10 : Mm) => ((pZ M10 137 53 (nI 0)).bind fun M11 => (D_X12_settles N 137 M11).bind fun M12 => D_X12_gives N 137 (M12.1 137 50) M12)) N 0 Md (by omega) (by omega) (fun x hx => by omega)
        have ff : FX (fun b j => b = 163 ∨ b = 137 ∧ j = 53) Md (upI Me 137 53 (nI 0)) := (g3.mono fun b j z => by omega).trans (FX.I (by omega))
        have rn : RN y.2 (upI Me 137 53 (nI 0)) := v2.fx ff (by omega) (fun b j hb hb' z => by omega)
        have qt : QT G (upI Me 137 53 (nI 0)) := ((s2.2.1.fx fc (fun j z => by omega) (fun j z => by omega)).fx v3 (fun j z => by omega) (fun j z => by omega)).fx ff (fun j z => by omega) (fun j z => by omega)
        obtain ⟨dg, Mg, o1, o2, o3, o4⟩ := r_settles (M := upI Me 137 53 (nI 0)) (gv := fun _ => nI 0) N (by omega) Gi.1 h m2'.1 ⟨qt, rn⟩ (fun a ha => by rw [upI_n (by decide)]; exact g2 a ha)
        -- all that the reference changed
        have fz : FX PTd M9 (upI Mg 137 6 (nI 0)) := ((((((((FX.I (P := PTd) (by unfold PTd; omega)).trans (FX.I (P := PTd) (a := 137) (k := 52) (v := nI 0) (by unfold PTd; omega))).trans (s3.mono fun b j z => by have := PTx b j z; unfold PTd; omega)).trans (fc.mono fun b j z => by unfold PTd; omega)).trans (v3.mono fun b j z => by unfold PTd; omega)).trans (ff.mono fun b j z => by unfold PTd; omega)).trans (o4.mono fun b j z => by unfold Pst at z; unfold PTd; omega)).trans (FX.I (by unfold PTd; omega)))
        have lo9 : ∀ b j, b < 137 → ¬ (b = 1 ∧ j = 0) → (upI Mg 137 6 (nI 0)).1 b j = M9.1 b j := fun b j h1 h2 => (fz.2 b j (fun z => by unfold PTd at z; omega)).1
        have e6 : ∀ b j, ¬ (b = 137 ∧ j = 6) → (upI Mg 137 6 (nI 0)).1 b j = Mg.1 b j := fun b j hb => ((FX.I (P := fun b j => b = 137 ∧ j = 6) (M := Mg) (v := nI 0) ⟨rfl, rfl⟩).2 b j hb).1
        have eg : ∀ b j, ¬ Pst b j → ¬ (b = 163 ∨ b = 137 ∧ j = 53) → ¬ (157 ≤ b ∧ b ≤ 159) → ¬ (b = 137 ∧ j = 50) → Mg.1 b j = Mb.1 b j := fun b j h1 h2 h3 h4 => by
          rw [(o4.2 b j h1).1, (ff.2 b j h2).1, (v3.2 b j h3).1]
          exact ((FX.I (P := fun b j => b = 137 ∧ j = 50) (M := Mb) (v := nI (tn y.2)) ⟨rfl, rfl⟩).2 b j h4).1
        have pg : ∀ j, ¬ j = 72 → ¬ j = 53 → ¬ j = 50 → Mg.1 137 j = Mb.1 137 j := fun j h1 h2 h3 => eg 137 j (by unfold Pst; omega) (by omega) (by omega) (by omega)
        have cw : ∀ b j, w' ≤ b → b ≤ w' + 15 → (upI Mg 137 6 (nI 0)).1 b j = M6.1 b j := fun b j h1 h2 => (lo9 b j (by omega) (by omega)).trans (s9 b j (by omega) (by omega))
        have CF : CT w' G y.2 (upI Mg 137 6 (nI 0)) := ⟨by rw [cw _ _ (by omega) (by omega)]; exact l2.1, fun e he => (l2.2 e he).of fun k k1 k2 => cw _ _ (by omega) (by omega)⟩
        have LF : CLk w' G y.2 ce me (upI Mg 137 6 (nI 0)) := by
          refine ⟨fun k hk => ⟨?_, fun j j1 j2 => ?_⟩, fun x hx => ?_, fun i hi => ?_⟩
          · rw [cw _ _ (by omega) (by omega)]; exact (l3.1 k hk).1
          · rw [cw _ _ (by omega) (by omega)]; exact (l3.1 k hk).2 j j1 j2
          · rw [cw _ _ (by omega) (by omega)]; exact l3.2.1 x hx
          · unfold LI1; rw [cw _ _ (by omega) (by omega), cw _ _ (by omega) (by omega), cw _ _ (by omega) (by omega)]; exact l3.2.2 i hi
        have YF : FY (fun b j => PFl w' g' b j ∨ w' ≤ b ∧ b ≤ w' + 15 ∨ q ≤ b ∧ b ≤ q + 15 ∨ b = 1 ∧ (j = 0 ∨ j = 3) ∨ PTd b j) M (upI Mg 137 6 (nI 0)) := (Y9.mono fun b j z => z.elim Or.inl fun u => Or.inr (u.elim Or.inl fun u => Or.inr (u.elim Or.inl fun u => Or.inr (Or.inl ⟨u.1, Or.inr u.2⟩)))).trans (fz.y.mono fun b j z => Or.inr (Or.inr (Or.inr (Or.inr z))))
        have f7 : FX (fun b j => b = 137 ∧ j = 6) Mg (upI Mg 137 6 (nI 0)) := FX.I ⟨rfl, rfl⟩
        refine ⟨nI (tn y.2), upI M9 1 0 (nI 0), upI Mg 137 6 (nI 0), by rw [x1]; rfl, ?_, ?_, g, g', w', w, q, q', ⟨fun _ => 0, 0, by omega, ?_, ?_, fun i hi => absurd hi (Nat.not_lt_zero _), ?_, ?_, ?_, ?_⟩, R9.fx fz, Or.inr ⟨G, A, Gi.fy YF fun b j z => by unfold PFl PTd at z; unfold uG; omega, Ck.fy YF fun b j z => by unfold PFl PTd at z; omega, Or.inr ⟨?_, y.2, ce, me, fun _ => nI 0, val, trn, uns, gN, gr, fr, od, kt, dg, h, CF, LF, fun a ha => by rw [cw _ _ (by omega) (by omega)]; exact gv6 a ha, m2'.fx fz fun b j z => by unfold PTd at z; omega, by rw [fz.1]; exact m3', o2.fx f7 fun b j z => by omega, o3⟩⟩⟩
        · rw [ri _ gi10 t5, s1, Option.bind_some, u1', Option.bind_some, if_pos (show nI 0 ≤ nI 0 by decide), m51, pI_n, Option.bind_some, v1, g1, pZ_0, Option.bind_some, o1, Option.bind_some, o2.1.1.2.1]; rfl
        · rw [upI_s, upI_n (by decide), eg 1 0 (by unfold Pst; omega) (by omega) (by omega) (by omega), (u4.2 1 0 (by omega)).1, (s3.2 1 0 (fun z => by have := PTx _ _ z; omega)).1, upI_n (by decide), upI_s]
        · rw [lo9 2 6 (by omega) (by omega), s9 2 6 (by omega) (by omega), (l4.2 2 6 (fun z => by unfold PLk at z; omega)).1, (k4.2 2 6 (by omega)).1, r5]; exact e3
        · rw [e6 137 5 (by omega), pg 5 (by omega) (by omega) (by omega), (u4.2 137 5 (by omega)).1]; exact s5
        · rw [e6 137 7 (by omega), pg 7 (by omega) (by omega) (by omega), u2, s2.2.2.2.2.2.1, lo9 1 1 (by omega) (by omega), s9 1 1 (by omega) (by omega), (l4.2 1 1 (fun z => by unfold PLk at z; omega)).1, k2]; rfl
        · rw [e6 137 8 (by omega), pg 8 (by omega) (by omega) (by omega), u3, s2.2.2.2.2.2.2, lo9 1 2 (by omega) (by omega), s9 1 2 (by omega) (by omega), (l4.2 1 2 (fun z => by unfold PLk at z; omega)).1, k3]; rfl
        · rw [(YF 30 6 (by unfold PFl PTd; omega)).1, (YF 137 54 (by unfold PFl PTd; omega)).1]; exact Co.2.2.2.2.2.2.1
        · rw [(YF 30 7 (by unfold PFl PTd; omega)).1, (YF 137 55 (by unfold PFl PTd; omega)).1]; exact Co.2.2.2.2.2.2.2
        · rw [lo9 1 3 (by omega) (by omega), (m4' 1 (by omega)).1, e6 137 53 (by omega), (o4.2 137 53 (by unfold Pst; omega)).1, upI_s]
          exact (upI_s _ _ _ _).symm
end q
