-- the reference grafts
def rKg (N : Nat) (M21 : Mm) : Option (Int32 × Mm) := D_X12_gives N 137 (M21.1 137 50) M21
def PGf (b j : Nat) : Prop := b = 137 ∧ ¬ (j = 6 ∨ j = 9 ∨ j = 50 ∨ j = 72 ∨ j = 53 ∨ j = 54 ∨ j = 55) ∨ 160 ≤ b ∧ b ≤ 162
def PGr (b j : Nat) : Prop := b = 137 ∧ ¬ (j = 6 ∨ j = 9 ∨ j = 72 ∨ j = 53 ∨ j = 54 ∨ j = 55) ∨ 157 ≤ b ∧ b ≤ 162 ∨ b = 170 ∨ b = 171 ∨ b = 177 ∨ b = 178 ∨ b = 179
section tok
variable {G : Gr} {t : TR} {ce : Nat → Nat → Nat} {me : Nat → Nat} {gv val : Nat → Int32} {trn : Nat → Nat} {uns : Nat → Bool} {gN : Nat} {gr fr od : Nat → Nat} {kt : Nat → Bool} {dg : Nat → Bool} {k s : Nat}
theorem r_graft {B : Nat → Nat} {n0 kk : Nat} {M : Mm} (N : Nat) (hN : 20000 < N) (hq : QG G) (h : TOK2 G t ce me) (P : GRP G t ce gN gr fr od kt) (S : RSI G t ce gv gr dg M) (hv : ∀ i, thT G t i → M.1 166 i = val i) (h5 : M.1 137 5 = nI n0) (n1000 : n0 ≤ 1000) (hB : ∀ i, i < n0 → M.1 138 i = nI (B i) ∧ B i < 256) (hkk : kk ≤ n0) (hk : k < tn t) (hs : me k = k + s) :
    match pTree (toks B kk 0) G (tn t - s) (syT G t k + 1) (td t k) (tq t k) with
    | .inl e => ∃ M', D_X12_graft N 137 (nI k) (nI kk) M = D_X12_refuse N 137 (nI 9) M' ∧ M'.1 137 7 = nI e.1 ∧ M'.1 137 8 = nI e.2 ∧ M'.1 137 5 = nI 0 ∧ FX PGf M M'
    | .inr y => ∀ cu mu, TOK G y.2 cu mu → tu y.2 0 = 0 → tn t + tn y.2 - s ≤ 40 → G.i 7 (4 * tp y.2 0) = G.i 7 (4 * tp t k) → TOK2 G (gfT t y.2 k s) (gfC k s (tn y.2) ce cu) (gfM k s (tn y.2) me mu) → ∃ M', D_X12_graft N 137 (nI k) (nI kk) M = (D_X12_counts N 137 M').bind (rKg N) ∧ RT1 G (gfT t y.2 k s) M' ∧ (∀ a, a < 4 → M'.1 163 a = gv a) ∧ (∀ i, thT G (gfT t y.2 k s) i → M'.1 177 i = bI (mrkG G t y.2 gr kt k s i) ∧ M'.1 178 i = bI (nwG k (tn y.2) (i / 8)) ∧ M'.1 179 i = nI 0 ∧ (nwG k (tn y.2) (i / 8) = false → M'.1 170 i = val (8 * sgG k s (tn y.2) (i / 8) + i % 8))) ∧ M'.1 137 7 = nI 0 ∧ M'.1 137 8 = m1 ∧ M'.1 137 5 = nI 0 ∧ FX PGr M M' := by
  have n1 := h.1.1.1
  have h40 := h.2.2.2.1
  have l := h.1.lt hq hk
  have n4 := (h.1.2.1 k hk).2.2.2.1
  have s8 := syT_lt hq h.1 hk
  have ns8 := hq.ns
  have td12 := h.2.2.2.2 k hk
  have td1 := tok_td1 h.1 h.2.2.1 k k (Nat.le_refl _) hk
  have T := S.1.1
  have y1 : D_X12_graft N 137 (nI k) (nI kk) M = ((D_X12_isFrom N (nI kk) (nI 0) (M.1 137 5) M).bind fun q1 => (if q1 = nI 0 then D_X12_refuse N 137 (nI 1) M else ((D_X12_hasTree N 137 M).bind fun q3 => (if q3 = nI 0 then D_X12_refuse N 137 (nI 3) M else ((D_X12_isNode N 137 (nI k) M).bind fun q5 => (if q5 = nI 0 then D_X12_refuse N 137 (nI 4) M else ((D_X12_sizeOf N 137 (nI k) M).bind fun q7 => (pI M 137 52 ((M.1 137 50) - q7)).bind fun M1 => (D_X12_symbolOf N 137 (nI k) M1).bind fun q8 => (D_X12_depthOf N 14 137 (nI k) M1).bind fun q9 => (D_X12_readTree N 137 (nI kk) q8 (q9 + (nI 1)) M1).bind fun q10 => (D_X12_ends N 137 q10.1 q10.2).bind fun q11 => (if q11.1 ≤ nI 0 then ((D_X12_beginsChange N 137 q11.2).bind fun M2 => (L_X12_graft_99 (fun (M6 : Mm) => ((some (((M6.1 137 51) - q7))).bind fun l4_4 => (D_X12_movesBehind N 137 (nI k + q7) l4_4 M6).bind fun M7 => (ldI 40 159 (nI k) M7).bind fun v2 => (L_X12_graft_178 (fun (M16 : Mm) => ((pI M16 137 50 ((M16.1 137 50) + l4_4)).bind fun M17 => (D_X12_symbolOf N 137 (nI k) M17).bind fun q13 => (ldI 3816 139 ((nI 4) + q13) M17).bind fun v6 => (L_X12_graft_331 (fun (M20 : Mm) => ((D_X12_counts N 137 M20).bind fun M21 => D_X12_gives N 137 (M21.1 137 50) M21)) N 137 (nI k) N v6 M17))) 137 (nI k) v2 N N (nI 0) M7))) 137 N (nI k) q7 N (nI 0) M2)) else D_X12_refuse N 137 (nI 9) q11.2)))))))) := by
    unfold D_X12_graft
    simp only [bind_pair]
  have ht : D_X12_hasTree N 137 M = some (nI 1) := by
    unfold D_X12_hasTree
    rw [T.2.1, if_neg (by rw [n_le (by omega) (by decide)]; omega), okZ_1]
  have hn : D_X12_isNode N 137 (nI k) M = some (nI 1) := by
    unfold D_X12_isNode
    rw [T.2.1, n_sub (by omega), from_yes N M (by omega) (by omega), Option.bind_some, okZ_1]
  have f52 : FX (fun b j => b = 137 ∧ j = 52) M (upI M 137 52 (nI (tn t - s))) := FX.I ⟨rfl, rfl⟩
  have T1 : RT1 G t (upI M 137 52 (nI (tn t - s))) := T.fx f52 fun b j z => by omega
  rw [h5, from_yes N M hkk (by omega), Option.bind_some, if_neg z10, ht, Option.bind_some, if_neg z10, hn, Option.bind_some, if_neg z10, r_sizeOf N (by omega) hq h.1 h40 T.2 hk, Option.bind_some, show me k - k = s by omega, T.2.1, n_sub (by omega), pI_n, Option.bind_some, r_symbolOf N h T1 hk, Option.bind_some, r_depthOf N h.1 h40 T1.2 h.2.2.1 14 k hk (by omega), Option.bind_some, nI_add, nI_add, show td t k - 1 + 1 = td t k by omega] at y1
  have rt := r_readT5 (B := B) (n := kk) (st := tn t - s) (need := syT G t k + 1) (d := td t k) (q := tq t k) (G := G) (M := upI M 137 52 (nI (tn t - s))) N (by omega) hq (by omega) (fun i hi => by rw [upI_n (by decide)]; exact hB i (by omega)) T1.1 (upI_s _ _ _ _) (by omega) (by omega) (by omega)
  have end' : ndI (syT G t k + 1) = nI (syT G t k) := if_neg (by omega)
  rw [end'] at rt
  have PTx : ∀ b j, PTb b j → b = 137 ∧ ¬ (j = 6 ∨ j = 7 ∨ j = 8 ∨ j = 9 ∨ j = 50 ∨ j = 72 ∨ j = 53 ∨ j = 54 ∨ j = 55) ∨ 160 ≤ b ∧ b ≤ 162 := fun b j z => by
    rcases z with z | z
    · unfold PTr PB at z; omega
    · unfold PN at z; omega
  cases hp : pTree (toks B kk 0) G (tn t - s) (syT G t k + 1) (td t k) (tq t k) with
  | inl e =>
    rw [hp] at rt
    obtain ⟨Ma, s1, s2, s3, s5⟩ := rt
    obtain ⟨Mb, u1, u2, u3, u4⟩ := r_ends N false Ma
    have u1' : D_X12_ends N 137 (nI 0) Ma = some (nI 9, Mb) := u1
    rw [s1, Option.bind_some, u1', Option.bind_some, if_neg (show ¬ nI 9 ≤ nI 0 by decide)] at y1
    exact ⟨Mb, y1, u2.trans s2.1, u3.trans s2.2, by rw [(u4.2 137 5 (by omega)).1]; exact s5, ((f52.mono fun b j z => by unfold PGf; omega).trans (s3.mono fun b j z => by have := PTx b j z; unfold PGf; omega)).trans (u4.mono fun b j z => by unfold PGf; omega)⟩
  | inr y =>
    rw [hp] at rt
    obtain ⟨Ma, s1, s2, s3, s5⟩ := rt
    intro cu mu tok u0 k40 rs h'
    have m1' := tok.1.1
    obtain ⟨Mb, u1, u2, u3, u4⟩ := r_ends N true Ma
    have u1' : D_X12_ends N 137 (nI 1) Ma = some (nI 0, Mb) := u1
    obtain ⟨Mc, c1, c2, c3⟩ := r_beginsChange (M := Mb) N (by omega)
    -- what the text changed
    have fb : FX PGf M Mb := ((f52.mono fun b j z => by unfold PGf; omega).trans (s3.mono fun b j z => by have := PTx b j z; unfold PGf; omega)).trans (u4.mono fun b j z => by unfold PGf; omega)
    have Sb : RSI G t ce gv gr dg Mb := S.fx fb fun b j z => by unfold PGf at z; omega
    have Sc : RSI G t ce gv gr dg Mc := Sb.fx c3 fun b j z => by unfold PBg at z; omega
    have v166 : ∀ j, Mb.1 166 j = M.1 166 j := fun j => (fb.2 166 j (by unfold PGf; omega)).1
    -- who is in a knot with one that goes
    obtain ⟨Md, d1, d2, d3⟩ := r_graftTied (k := k) (s := s) N (by omega) hq h P Sc (by omega) (fun (M6 : Mm) => ((some (((M6.1 137 51) - nI s))).bind fun l4_4 => (D_X12_movesBehind N 137 (nI (k + s)) l4_4 M6).bind fun M7 => (ldI 40 159 (nI k) M7).bind fun v2 => (L_X12_graft_178 (fun (M16 : Mm) => ((pI M16 137 50 ((M16.1 137 50) + l4_4)).bind fun M17 => (D_X12_symbolOf N 137 (nI k) M17).bind fun q13 => (ldI 3816 139 ((nI 4) + q13) M17).bind fun v6 => (L_X12_graft_331 (fun (M20 : Mm) => ((D_X12_counts N 137 M20).bind fun M21 => D_X12_gives N 137 (M21.1 137 50) M21)) N 137 (nI k) N v6 M17))) 137 (nI k) v2 N N (nI 0) M7)))
    have Td : RT1 G t Md := Sc.1.1.fx d3 fun b j z => by omega
    have m51 : ∀ Mx : Mm, FX (fun b j => PBg b j ∨ b = 177) Mb Mx → RTT y.2 Mx := fun Mx f => by
      have o : ∀ b j, (b = 137 ∧ j = 51 ∨ 160 ≤ b ∧ b ≤ 162) → Mx.1 b j = Ma.1 b j := fun b j hb => by rw [(f.2 b j (by unfold PBg; omega)).1, (u4.2 b j (by omega)).1]
      exact ⟨by rw [o _ _ (by omega)]; exact s2.2.2.2.1.1, fun e he => by rw [o _ _ (by omega), o _ _ (by omega), o _ _ (by omega)]; exact s2.2.2.2.1.2 e he⟩
    have fd : FX (fun b j => PBg b j ∨ b = 177) Mb Md := (c3.mono fun b j z => Or.inl z).trans (d3.mono fun b j z => Or.inr z)
    have Rd := m51 Md fd
    -- the nodes behind move
    obtain ⟨Me, e1, e2, e3, e4⟩ := r_movesBehind (M := Md) (m := tn y.2) N (by omega) hq h.1 hk hs m1' h40 k40 Td.2.1 (fun e he => (Td.2.2 e he).2.2) (fun x hx => ⟨_, d2 x hx⟩)
    have v2 : Me.1 159 k = nP (tu t k) := by rw [(e4.2 159 k (by unfold PMv; omega)).1]; exact (Td.2.2 k hk).2.2
    have Re : RTT y.2 Me := ⟨by rw [(e4.2 137 51 (by unfold PMv; omega)).1]; exact Rd.1, fun e he => by rw [(e4.2 160 e (by unfold PMv; omega)).1, (e4.2 161 e (by unfold PMv; omega)).1, (e4.2 162 e (by unfold PMv; omega)).1]; exact Rd.2 e he⟩
    obtain ⟨Mf, f1, f2, f3, f4⟩ := r_graftNew (u := y.2) (k := k) (p0 := tu t k) N (by omega) tok (by omega) (fun (M16 : Mm) => ((pI M16 137 50 ((M16.1 137 50) + (nI (tn y.2) - nI s))).bind fun M17 => (D_X12_symbolOf N 137 (nI k) M17).bind fun q13 => (ldI 3816 139 ((nI 4) + q13) M17).bind fun v6 => (L_X12_graft_331 (fun (M20 : Mm) => ((D_X12_counts N 137 M20).bind fun M21 => D_X12_gives N 137 (M21.1 137 50) M21)) N 137 (nI k) N v6 M17))) N 0 Me (by omega) (by omega) Re (fun x hx => by omega) (fun x a x1 x2 => by omega)
    have f50 : Mf.1 137 50 = nI (tn t) := by rw [(f4.2 137 50 (by unfold PNw; omega)).1, (e4.2 137 50 (by unfold PMv; omega)).1]; exact Td.2.1
    have fg : FX (fun b j => b = 137 ∧ j = 50) Mf (upI Mf 137 50 (nI (tn t + tn y.2 - s))) := FX.I ⟨rfl, rfl⟩
    -- rows of the nodes now
    have rng : ∀ b e, (157 ≤ b ∧ b ≤ 159) → e < k → Mf.1 b e = Md.1 b e := fun b e hb he => by rw [(f4.2 b e (by unfold PNw; omega)).1, (e4.2 b e (by unfold PMv; omega)).1]
    have rnG : RN (gfT t y.2 k s) (upI Mf 137 50 (nI (tn t + tn y.2 - s))) := by
      refine ⟨upI_s _ _ _ _, fun e he => ?_⟩
      have he : e < tn t + tn y.2 - s := he
      rw [(fg.2 157 e (by omega)).1, (fg.2 158 e (by omega)).1, (fg.2 159 e (by omega)).1]
      by_cases z1 : e < k
      · obtain ⟨q1, q2, q3, _⟩ := gT_a (t := t) (u := y.2) (s := s) z1
        rw [rng 157 e (by omega) z1, rng 158 e (by omega) z1, rng 159 e (by omega) z1, q1, q2, q3]
        exact Td.2.2 e (by omega)
      · by_cases z2 : e < k + tn y.2
        · obtain ⟨q1, q2, q3, _⟩ := gT_b (t := t) (u := y.2) (s := s) (show k ≤ e by omega) z2
          obtain ⟨o1, o2, o3⟩ := f2 (e - k) (by omega)
          rw [show k + (e - k) = e by omega] at o1 o2 o3
          rw [o1, o2, o3, q1, q2, q3]
          refine ⟨rfl, rfl, congrArg nP ?_⟩
          by_cases z3 : e = k
          · rw [if_pos (by omega), if_pos z3]
          · rw [if_neg (by omega), if_neg z3]
        · obtain ⟨q1, q2, q3, _⟩ := gT_c (t := t) (u := y.2) (k := k) (s := s) (show k + tn y.2 ≤ e by omega)
          have on : ∀ b, 157 ≤ b → b ≤ 159 → Mf.1 b e = Me.1 b e := fun b h1 h2 => (f4.2 b e (by unfold PNw; omega)).1
          rw [on 157 (by omega) (by omega), on 158 (by omega) (by omega), on 159 (by omega) (by omega), q1, q2, q3]
          have old := Td.2.2 (e + s - tn y.2) (by omega)
          by_cases z3 : tn y.2 = s
          · have em := e3 z3
            have ee : e + s - tn y.2 = e := by omega
            rw [em, ee]
            rw [ee] at old
            refine ⟨old.1, old.2.1, ?_⟩
            rw [old.2.2]
            unfold gfP
            split
            · rfl
            · rw [z3, Nat.add_sub_cancel]
          · obtain ⟨a1, a2, a3, _⟩ := e2 z3 (e + s - tn y.2) (by omega) (by omega)
            rw [show e + s - tn y.2 + tn y.2 - s = e by omega] at a1 a2 a3
            rw [a1, a2, a3]
            exact ⟨old.1, old.2.1, rfl⟩
    have qtG : QT G (upI Mf 137 50 (nI (tn t + tn y.2 - s))) := (((Td.1.fx e4 (fun j z => by unfold PMv at z; omega) (fun j z => by unfold PMv at z; omega)).fx f4 (fun j z => by unfold PNw at z; omega) (fun j z => by unfold PNw at z; omega)).fx fg (fun j z => by omega) (fun j z => by omega))
    have eks : syT G (gfT t y.2 k s) k = syT G t k := by
      have := gf_sy (s := s) (e := k) rs m1' (decide_eq_false (by omega))
      rw [this]
      unfold sgG
      rw [if_pos (Nat.le_refl _)]
    have kn : k < tn (gfT t y.2 k s) := by show k < tn t + tn y.2 - s; omega
    have i8 := ni_le hq h.1 hk
    have niE : G.i 4 (syT G (gfT t y.2 k s) k) = G.i 4 (syT G t k) := congrArg (fun x => G.i 4 x) eks
    have atE : att G (syT G (gfT t y.2 k s) k) = att G (syT G t k) := congrArg (fun x => att G x) eks
    have nia : G.i 4 (syT G t k) ≤ att G (syT G t k) := Nat.le_add_right _ _
    obtain ⟨Mh, g1, g2, g3⟩ := r_graftOuts N hq h' kn (fun (M20 : Mm) => ((D_X12_counts N 137 M20).bind fun M21 => D_X12_gives N 137 (M21.1 137 50) M21)) N (G.i 4 (syT G (gfT t y.2 k s) k)) (upI Mf 137 50 (nI (tn t + tn y.2 - s))) (Nat.le_refl _) (by rw [niE, atE]; exact nia) (by omega) ⟨qtG, rnG⟩ (fun x x1 x2 => by omega)
    have run : D_X12_graft N 137 (nI k) (nI kk) M = (D_X12_counts N 137 Mh).bind (rKg N) := by
      rw [y1, s1, Option.bind_some, u1', Option.bind_some, if_pos (show nI 0 ≤ nI 0 by decide), c1, Option.bind_some, d1, Rd.1, Option.bind_some, e1, Option.bind_some, ldI_n (by omega) (by omega), v2, Option.bind_some, f1, f50, n_shift (by omega), pI_n, Option.bind_some, r_symbolOf N h' ⟨qtG, rnG⟩ kn, Option.bind_some, nI_add, ldI_n (by rw [eks]; omega) (by omega), (qtG.1.2.1 _ (by rw [eks]; exact s8)).1, Option.bind_some, g1]
      rfl
    -- all that changed
    have fh : FX PGr M Mh := ((((((fb.mono fun b j z => by unfold PGf at z; unfold PGr; omega).trans (c3.mono fun b j z => by unfold PBg at z; unfold PGr; omega)).trans (d3.mono fun b j z => by unfold PGr; omega)).trans (e4.mono fun b j z => by unfold PMv at z; unfold PGr; omega)).trans (f4.mono fun b j z => by unfold PNw at z; unfold PGr; omega)).trans (fg.mono fun b j z => by unfold PGr; omega)).trans (g3.mono fun b j z => by unfold PGr; omega)
    have h137 : ∀ j, ¬ j = 50 → Mh.1 137 j = Mb.1 137 j := fun j hj => by rw [(g3.2 137 j (by omega)).1, (fg.2 137 j (by omega)).1, (f4.2 137 j (by unfold PNw; omega)).1, (e4.2 137 j (by unfold PMv; omega)).1, (fd.2 137 j (by unfold PBg; omega)).1]
    refine ⟨Mh, run, ⟨qtG.fx g3 (fun j z => by omega) (fun j z => by omega), rnG.fx g3 (by omega) (fun b j hb hb' z => by omega)⟩, fun a ha => by rw [(fh.2 163 a (by unfold PGr; omega)).1]; exact S.1.2.2.2.2.2 a ha, fun i hi => ?_, ?_, ?_, ?_, fh⟩
    · have e1' : i / 8 < tn t + tn y.2 - s := hi.1
      have eI : 8 * (i / 8) + i % 8 = i := by omega
      have r179 : Mh.1 179 i = nI 0 := by
        rw [(g3.2 179 i (by omega)).1, (fg.2 179 i (by omega)).1, (f4.2 179 i (by unfold PNw; omega)).1, (e4.2 179 i (by unfold PMv; omega)).1, (d3.2 179 i (by omega)).1]
        exact (c2 i (by omega)).2.2.1
      have g177 : ∀ x, ¬ (8 * k + G.i 4 (syT G t k) ≤ x ∧ x < 8 * k + att G (syT G t k)) → Mh.1 177 x = Mf.1 177 x := fun x hx => by
        rw [(g3.2 177 x (by rw [niE, atE]; omega)).1, (fg.2 177 x (by omega)).1]
      have gel : ∀ b x, (b = 170 ∨ b = 178) → Mh.1 b x = Mf.1 b x := fun b x hb => by rw [(g3.2 b x (by omega)).1, (fg.2 b x (by omega)).1]
      have mrk : mrkG G t y.2 gr kt k s i = ((decide (i / 8 = k) && decide (G.i 4 (syT G t k) ≤ i % 8)) || (nwG k (tn y.2) (i / 8) || gnA G t gr kt k (8 * (k + s)) (gr (8 * sgG k s (tn y.2) (i / 8) + i % 8) - 1))) := rfl
      have old : ∀ x, thT G t x → Md.1 177 x = bI (gnA G t gr kt k (8 * (k + s)) (gr x - 1)) ∧ Md.1 178 x = nI 0 ∧ Md.1 170 x = val x := fun x hx => by
        obtain ⟨x8, x320⟩ := th_320 h hx
        have o := c2 x x320
        refine ⟨by rw [d2 x x8, thB_t.2 hx, Bool.true_and], by rw [(d3.2 178 x (by omega)).1]; exact o.2.1, ?_⟩
        rw [(d3.2 170 x (by omega)).1, o.2.2.2, v166]; exact hv x hx
      by_cases z1 : i / 8 < k
      · have nw : nwG k (tn y.2) (i / 8) = false := decide_eq_false (by omega)
        have sg : sgG k s (tn y.2) (i / 8) = i / 8 := if_pos (by omega)
        have th := gf_th (show k + s ≤ tn t by omega) (by omega) rs m1' hi nw
        rw [sg, eI] at th
        obtain ⟨o1, o2, o3⟩ := old i th
        have un : ∀ b, (b = 170 ∨ b = 177 ∨ b = 178) → Mf.1 b i = Md.1 b i := fun b hb => by rw [(f4.2 b i (by unfold PNw; omega)).1, (e4.2 b i (by unfold PMv; omega)).1]
        rw [mrk, nw, sg, eI, decide_eq_false (show ¬ i / 8 = k by omega), Bool.false_and, Bool.false_or, Bool.false_or]
        exact ⟨by rw [g177 i (by omega), un 177 (by omega)]; exact o1, by rw [gel 178 i (by omega), un 178 (by omega)]; exact o2, r179, fun _ => by rw [gel 170 i (by omega), un 170 (by omega)]; exact o3⟩
      · by_cases z2 : i / 8 = k
        · have nw : nwG k (tn y.2) (i / 8) = false := decide_eq_false (by omega)
          have sg : sgG k s (tn y.2) (i / 8) = i / 8 := if_pos (by omega)
          have th := gf_th (show k + s ≤ tn t by omega) (by omega) rs m1' hi nw
          rw [sg, eI] at th
          obtain ⟨o1, o2, o3⟩ := old i th
          have un : ∀ b, (b = 170 ∨ b = 177 ∨ b = 178) → Mf.1 b i = Md.1 b i := fun b hb => by rw [(f4.2 b i (by unfold PNw; omega)).1, (e4.2 b i (by unfold PMv; omega)).1]
          have at' : i % 8 < att G (syT G t k) := by
            have := hi.2
            rw [z2, eks] at this; exact this
          rw [mrk, nw, sg, eI, decide_eq_true z2, Bool.true_and, Bool.false_or]
          refine ⟨?_, by rw [gel 178 i (by omega), un 178 (by omega)]; exact o2, r179, fun _ => by rw [gel 170 i (by omega), un 170 (by omega)]; exact o3⟩
          by_cases z3 : G.i 4 (syT G t k) ≤ i % 8
          · have o := g2 (i % 8) (by rw [niE]; exact z3) (by rw [atE]; exact at')
            rw [show 8 * k + i % 8 = i by omega] at o
            rw [o, decide_eq_true z3]; rfl
          · rw [g177 i (by omega), un 177 (by omega), o1, decide_eq_false z3, Bool.false_or]
        · by_cases z3 : i / 8 < k + tn y.2
          · have nw : nwG k (tn y.2) (i / 8) = true := decide_eq_true (by omega)
            obtain ⟨o1, o2⟩ := f3 (i / 8 - k) (i % 8) (by omega) (by omega) (by omega)
            rw [show 8 * (k + (i / 8 - k)) + i % 8 = i by omega] at o1 o2
            rw [mrk, nw, decide_eq_false z2, Bool.false_and, Bool.false_or, Bool.true_or]
            exact ⟨by rw [g177 i (by omega)]; exact o1, by rw [gel 178 i (by omega)]; exact o2, r179, fun z => absurd z (by decide)⟩
          · have nw : nwG k (tn y.2) (i / 8) = false := decide_eq_false (by omega)
            have sg : sgG k s (tn y.2) (i / 8) = i / 8 + s - tn y.2 := if_neg (by omega)
            have th := gf_th (show k + s ≤ tn t by omega) (by omega) rs m1' hi nw
            obtain ⟨o1, o2, o3⟩ := old _ th
            have un : ∀ b, (b = 170 ∨ b = 177 ∨ b = 178) → Mf.1 b i = Me.1 b i := fun b hb => (f4.2 b i (by unfold PNw; omega)).1
            have mv : Me.1 170 i = Md.1 170 (8 * sgG k s (tn y.2) (i / 8) + i % 8) ∧ Me.1 177 i = Md.1 177 (8 * sgG k s (tn y.2) (i / 8) + i % 8) ∧ Me.1 178 i = nI 0 := by
              by_cases z4 : tn y.2 = s
              · have em := e3 z4
                rw [em, show 8 * sgG k s (tn y.2) (i / 8) + i % 8 = i by rw [sg]; omega]
                refine ⟨rfl, rfl, ?_⟩
                rw [show 8 * sgG k s (tn y.2) (i / 8) + i % 8 = i by rw [sg]; omega] at o2
                exact o2
              · obtain ⟨_, _, _, a4⟩ := e2 z4 (sgG k s (tn y.2) (i / 8)) (by rw [sg]; omega) (by rw [sg]; omega)
                have a := a4 (i % 8) (by omega)
                rw [show 8 * (sgG k s (tn y.2) (i / 8) + tn y.2 - s) + i % 8 = i by rw [sg]; omega] at a
                exact a
            rw [mrk, nw, decide_eq_false z2, Bool.false_and, Bool.false_or, Bool.false_or]
            exact ⟨by rw [g177 i (by omega), un 177 (by omega), mv.2.1]; exact o1, by rw [gel 178 i (by omega), un 178 (by omega)]; exact mv.2.2, r179, fun _ => by rw [gel 170 i (by omega), un 170 (by omega), mv.1]; exact o3⟩
    · rw [h137 7 (by decide), u2]; exact s2.2.2.2.2.2.1
    · rw [h137 8 (by decide), u3]; exact s2.2.2.2.2.2.2
    · rw [h137 5 (by decide), (u4.2 137 5 (by omega)).1]; exact s5
end tok
