-- both sides answer: give
section tok
variable {G : Gr} {t : TR} {ce : Nat → Nat → Nat} {me : Nat → Nat} {gv : Nat → Int32}
theorem bs0_root (h : TOK2 G t ce me) {i : Nat} (hi : thT G t i) (hb : bsT G t i = 0) : i < 8 := by
  by_cases z : i / 8 = 0
  · omega
  · have := (h.1.2.2 (i / 8) (by omega) hi.1).1
    unfold bsT at hb
    split at hb <;> omega
/-- an in of the root's is given another value -/
theorem cor_give (hq : QG G) (h : TOK2 G t ce me) {k : Nat} {b : Int32} : COR G t t ce ce (fun x => if x = k then b else gv x) gv (fun i => decide (i = k) && !decide (gv k = b)) (fun _ => false) (fun i => i) := by
  refine ⟨fun i hi _ => hi, fun i j _ _ _ _ l => l, fun i hi _ mi => ⟨fun j nj _ => nj, fun u u0 hu => ?_, fun j0 r1 r2 => ⟨j0, rfl, rfl, r1, r2⟩⟩⟩
  have mi : (decide (i = k) && !decide (gv k = b)) = false := mi
  have e0 : wkT G t ce gv u i = wkT G t ce gv u0 i := wk_cg hq h hi fun j nj => (hu j nj).2
  show _ = wkT G t ce gv u0 i
  rw [← e0]
  unfold wkT
  by_cases z : bsT G t i = 0
  · rw [if_pos z, if_pos z]
    have := bs0_root h hi z
    rw [show i % 8 = i by omega]
    show (if i = k then b else gv i) = gv i
    by_cases y : i = k
    · rw [if_pos y]
      rw [decide_eq_true y, Bool.true_and, Bool.not_eq_false', decide_eq_true_eq] at mi
      rw [← mi, y]
    · rw [if_neg y]
  · rw [if_neg z, if_neg z]
end tok
section q
variable {M : Mm} (N : Nat)
theorem q_give (hN : 20000 < N) (I : INV M) (a b : Int32) : QOK M (D_X11_give N 1 a b M) (D_X12_give N 137 a b) := by
  obtain ⟨_, g, g', w, w', q, q', I0⟩ := I
  have R := I0.2.1
  obtain ⟨hg, hw, hqq, _⟩ := R.gg
  have rw' := R.w
  obtain ⟨B, n0, Co⟩ := I0.1
  have x1 : D_X11_give N 1 a b M = if M.1 w 0 = nI 0 then D_X11_refuse N 1 (nI 3) M else if a < nI 0 then D_X11_refuse N 1 (nI 4) M else (ldI 40 (w + 8) (nI 0) M).bind fun v1 => if a < v1 then (ldI 4 (w + 12) a M).bind fun v2 => (stI 4 (w + 12) a b M).bind fun M1 => (rf M1 1 13 8).bind fun r5 => (D_X0_begin N 30 (M1.1 r5 0) M1).bind fun M2 => (if v2 = b then ((D_X11_reckonAnew N 1 M2).bind fun M3 => D_X11_answer N 1 v2 M3) else ((D_X0_mark N 30 a M2).bind fun M4 => ((D_X11_reckonAnew N 1 M4).bind fun M5 => D_X11_answer N 1 v2 M5))) else D_X11_refuse N 1 (nI 4) M := by
    unfold D_X11_give
    simp only [bind_pair]
    rw [rw']
    simp only [Option.bind_some]
  have y1 : ∀ M, D_X12_give N 137 a b M = ((D_X12_hasTree N 137 M).bind fun q1 => (if q1 = nI 0 then D_X12_refuse N 137 (nI 3) M else ((D_X12_symbolOf N 137 (nI 0) M).bind fun q3 => (ldI 3816 139 ((nI 4) + q3) M).bind fun v1 => (D_X12_isFrom N a (nI 0) (v1 - (nI 1)) M).bind fun q4 => (if q4 = nI 0 then D_X12_refuse N 137 (nI 4) M else ((ldI 4 163 a M).bind fun v2 => (D_X12_beginsChange N 137 M).bind fun M1 => ((if v2 = b then (some (nI 0)) else (some (nI 1))).bind fun p67 => ((stZ 320 177 a p67 M1).bind fun M2 => (stI 4 163 a b M2).bind fun M3 => (D_X12_counts N 137 M3).bind fun M4 => D_X12_gives N 137 v2 M4))))))) := fun M => by
    unfold D_X12_give
    simp only [bind_pair]
  rcases I0.tree2 with ⟨t1, t2⟩ | ⟨G, A, t, ce, me, gv, val, trn, uns, gN, gr, fr, od, kt, dg, Gi, Ck, V, e3⟩
  · exact QOK.ref (v := nI 3) N I0 FX.refl (by rw [x1, if_pos t1]) FX.refl (by rw [y1, no_hasTree N (t2 _), Option.bind_some, if_pos rfl])
  · have n := V.n1
    have h := V.1
    have s8 := syT_lt Gi.1 h.1 (show 0 < tn t by omega)
    have n8 := Gi.1.1.1
    have i4 := Gi.1.at' s8
    have w8 : M.1 (w + 8) 0 = nI (G.i 4 (syT G t 0)) := (V.2.1.2 0 (by omega)).2.2.2.2.2.2.1
    have rsym : ∀ M1, VI w q g G t ce me gv val trn uns gN gr fr od kt dg M1 → ∀ (F : Int32 → Option (Int32 × Mm)), ((D_X12_symbolOf N 137 (nI 0) M1).bind fun q3 => (ldI 3816 139 ((nI 4) + q3) M1).bind F) = F (nI (G.i 4 (syT G t 0))) := fun M1 V1 F => by
      rw [r_symbolOf N V1.1 V1.rt.1 (by omega), Option.bind_some, nI_add, ldI_n (by omega) (by omega), (V1.rt.1.1.1.2.1 _ s8).1, Option.bind_some]
    have V2 := fun v => (V.q hw hqq f10 : VI w q g G t ce me gv val trn uns gN gr fr od kt dg (upI M 1 0 v))
    rw [if_neg V.w0] at x1
    have bad : D_X11_give N 1 a b M = D_X11_refuse N 1 (nI 4) M → (∀ M', D_X12_isFrom N a (nI 0) (nI (G.i 4 (syT G t 0)) - nI 1) M' = some (nI 0)) → QOK M (D_X11_give N 1 a b M) (D_X12_give N 137 a b) := fun hx hf => QOK.ref N I0 FX.refl hx FX.refl (by rw [y1, (V2 _).hasTree, Option.bind_some, if_neg z10, rsym _ (V2 _), hf, Option.bind_some, if_pos rfl])
    rcases below_cases a (G.i 4 (syT G t 0)) (by omega) with ⟨c, d⟩ | ⟨k, hk, rfl, c, d, e⟩
    · refine bad ?_ (d N)
      rcases c with c | ⟨c1, c2⟩
      · rw [x1, if_pos c]
      · rw [x1, if_neg c1, ldI_n (by omega) (by omega), w8, Option.bind_some, if_neg (by
          rcases n_cases a with z | ⟨x, hx, rfl⟩
          · exact absurd z c1
          · rw [n_le (by omega) hx] at c2
            rw [n_lt hx (by omega)]; omega)]
    · have k4 : k < 4 := by omega
      rw [if_neg c, ldI_n (by omega) (by omega), w8, Option.bind_some, if_pos (by rw [n_lt (by omega) (by omega)]; exact hk), ldI_n k4 (by omega), V.2.2.2.1 k k4, Option.bind_some, stI_n k4 (by omega), Option.bind_some, show rf (upI M (w + 12) k b) 1 13 8 = some w from rw', Option.bind_some, upI_n (by omega), V.2.1.1] at x1
      obtain ⟨M2, m2a, m2b, m2c, m2d⟩ := s_chBegin (m := tn t) (M := upI M (w + 12) k b) N (by omega) n.2
      rw [m2a, Option.bind_some] at x1
      -- the class's memory as it is reckoned anew
      obtain ⟨M3, hx, r31, f3⟩ : ∃ M3, D_X11_give N 1 (nI k) b M = ((D_X11_reckonAnew N 1 M3).bind fun M5 => D_X11_answer N 1 (gv k) M5) ∧ (∀ i, i < 320 → M3.1 31 i = bI (decide (i = k) && !decide (gv k = b))) ∧ FX (fun b _ => b = 31) M2 M3 := by
        by_cases z : gv k = b
        · rw [if_pos z] at x1
          exact ⟨M2, x1, fun i hi => by rw [m2b i hi, decide_eq_true z, Bool.not_true, Bool.and_false]; rfl, FX.refl⟩
        · rw [if_neg z] at x1
          refine ⟨upI M2 31 k (nI 1), ?_, fun i hi => ?_, FX.I rfl⟩
          · rw [x1]
            unfold D_X0_mark
            rw [show (30 : Nat) + 1 = 31 from rfl, stZ_1 (by omega) (by omega), Option.bind_some, Option.bind_some]
          · rw [upI_j, decide_eq_false z, Bool.not_false, Bool.and_true]
            by_cases y : i = k
            · rw [if_pos y, decide_eq_true y]; rfl
            · rw [if_neg y, decide_eq_false y, m2b i hi]; rfl
      have f2 : FX (fun b j => b = w + 12 ∧ j = k ∨ b = 31 ∨ b = 34) M M3 := ((FX.I (v := b) (Or.inl ⟨rfl, rfl⟩)).trans (m2d.mono fun b j z => by omega)).trans (f3.mono fun b j z => by omega)
      have r34 : ∀ e, e < tn t → M3.1 34 e = nI e := fun e he => by rw [(f3.2 34 e (fun z => absurd (show (34 : Nat) = 31 from z) (by decide))).1]; exact m2c e he
      have w12 : M3.1 (w + 12) k = b := by rw [(f3.2 _ k (by omega)).1, (m2d.2 _ k (by omega)).1, upI_s]
      rw [hx]
      obtain ⟨M1, M4, z1, z2, z3⟩ := fin_change (M := M3) (g := g) (g' := g') (w := w) (w' := w') (q := q) (q' := q') (G := G) (A := A) (t := t) (ce := ce) (me := me) (gv := fun x => if x = k then b else gv x) (t0 := t) (ce0 := ce) (me0 := me) (gv0 := gv) (val0 := val) (w0 := w) (e := fun i => i) (mk := fun i => decide (i = k) && !decide (gv k = b)) (mr := fun i => decide (i = k) && !decide (gv k = b)) (nw := fun _ => false) N hN (R.fx f2) (Gi.fx hg f2 fun b j z => by omega) (Ck.fx f2 fun b j z => by omega) h (V.2.1.fx f2 fun x j x1 x2 z => by omega) (V.2.2.1.fx f2 fun b j hb z => by omega) (fun x hx => by
          show M3.1 (w + 12) x = if x = k then b else gv x
          by_cases z : x = k
          · rw [if_pos z, z]; exact w12
          · rw [if_neg z, (f2.2 _ x (by omega)).1]; exact V.2.2.2.1 x hx) h (V.2.2.2.2.1.fx f2 fun b j z => by omega) (cor_give Gi.1 h) (fun i hi => ⟨_, r31 i (th_320 h hi).2, Or.inl, fun z => z.elim id fun u => absurd (show false = true from u) (by decide)⟩) (fun i hi => by
          have i8 := (th_320 h hi).1
          exact Or.inr ⟨i / 8, by omega, r34 _ (by omega), rfl, (Nat.div_add_mod i 8).symm⟩) (fun i _ => ⟨Or.inl, fun z => z.elim id fun u => absurd u (by decide)⟩) (gv k) (fun M5 => D_X11_answer N 1 (gv k) M5) (fun _ _ _ => rfl) (D_X12_give N 137 (nI k) b) (fun M4 => D_X12_gives N 137 (gv k) M4) (fun _ _ => rfl) (fun M1 fy => by
          -- the reference, after the class
          have V0 : RSI G t ce gv gr dg M3 := RSI.fx V.2.2.2.2.2.2.1 f2 fun b j z => by omega
          have V1 : RSI G t ce gv gr dg M1 := V0.fy fy fun b j z => by unfold PCl at z; omega
          have lo : ∀ b j, 137 ≤ b → M1.1 b j = M.1 b j := fun b j hb => (fy b j (fun z => by unfold PCl at z; omega)).1.trans (f2.2 b j (by omega)).1
          have T1 := V1.1.1
          have ht : D_X12_hasTree N 137 M1 = some (nI 1) := by
            unfold D_X12_hasTree
            rw [T1.2.1, if_neg (by rw [n_le (by omega) (by decide)]; omega), okZ_1]
          obtain ⟨Ma, a1, a2, a3⟩ := r_beginsChange (M := M1) N (by omega)
          have e163 : M1.1 163 k = gv k := V1.1.2.2.2.2.2 k k4
          have p67 : (if gv k = b then (some (nI 0)) else (some (nI 1)) : Option Int32) = some (bI (!decide (gv k = b))) := by
            by_cases z : gv k = b
            · rw [if_pos z, decide_eq_true z]; rfl
            · rw [if_neg z, decide_eq_false z]; rfl
          have st : stZ 320 177 (nI k) (bI (!decide (gv k = b))) Ma = some (upI Ma 177 k (bI (!decide (gv k = b)))) := by
            cases !decide (gv k = b)
            · exact stZ_0 (by omega) (by omega)
            · exact stZ_1 (by omega) (by omega)
          have fr : FX (fun b j => PBg b j ∨ b = 163) M1 (upI (upI Ma 177 k (bI (!decide (gv k = b)))) 163 k b) := ((a3.mono fun b j z => Or.inl z).trans (FX.I (by unfold PBg; omega))).trans (FX.I (by omega))
          refine ⟨upI (upI Ma 177 k (bI (!decide (gv k = b)))) 163 k b, ?_, fr.mono fun b j z => by unfold PBg at z; unfold Pr; omega, T1.fx fr fun b j z => by unfold PBg at z; omega, fun x hx => ?_, fun i hi => ?_, B, n0, ?_⟩
          · rw [y1, ht, Option.bind_some, if_neg z10, r_symbolOf N h T1 (by omega), Option.bind_some, nI_add, ldI_n (by omega) (by omega), (T1.1.1.2.1 _ s8).1, Option.bind_some, e, Option.bind_some, if_neg z10, ldI_n k4 (by omega), e163, Option.bind_some, a1, Option.bind_some, p67, Option.bind_some, st, Option.bind_some, stI_n k4 (by omega), Option.bind_some]
          · show _ = if x = k then b else gv x
            rw [upI_j]
            by_cases z : x = k
            · rw [if_pos z, if_pos z]
            · rw [if_neg z, if_neg z, upI_n (by decide), (a3.2 163 x (by unfold PBg; omega)).1]
              exact V1.1.2.2.2.2.2 x hx
          · obtain ⟨i8, i320⟩ := th_320 h hi
            obtain ⟨k1, k2, k3, k5⟩ := a2 i i320
            refine ⟨?_, ?_, ?_, fun _ => ?_⟩
            · rw [upI_n (by decide), upI_j]
              show _ = bI (decide (i = k) && !decide (gv k = b))
              by_cases z : i = k
              · rw [if_pos z, decide_eq_true z, Bool.true_and]
              · rw [if_neg z, decide_eq_false z, k1]; rfl
            · rw [upI_n (by decide), upI_n (by decide)]; exact k2
            · rw [upI_n (by decide), upI_n (by decide)]; exact k3
            · rw [upI_n (by decide), upI_n (by decide), k5, lo 166 i (by omega)]
              exact (V.vals Gi.1 hi).1
          · exact ((Co.t.fy f2.y fun b j z => by omega).fy fy fun b j z => by unfold PCl at z; omega).fy fr.y fun b j z => by unfold PBg at z; omega)
      exact ⟨gv k, M1, M4, z1, z2, z3⟩
end q
