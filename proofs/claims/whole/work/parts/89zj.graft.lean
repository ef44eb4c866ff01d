-- the class grafts
def pKg (N : Nat) (M9 : Mm) : Option (Int32 × Mm) := (rf M9 1 13 8).bind fun r24 => D_X11_answer N 1 (M9.1 r24 0) M9
section tok
variable {g g' w w' q q' : Nat} {G : Gr} {t : TR} {ce : Nat → Nat → Nat} {me : Nat → Nat} {gv val : Nat → Int32} {trn : Nat → Nat} {uns : Nat → Bool} {gN : Nat} {gr fr od : Nat → Nat} {kt : Nat → Bool} {dg : Nat → Bool} {A : Nat → Nat} {k s : Nat} {M : Mm}
/-- the class's memory once a text is read that holds a tree: it differs from M ahead of the reference's only -/
def GOK (g g' w w' q q' : Nat) (G : Gr) (A : Nat → Nat) (t u : TR) (ce cu : Nat → Nat → Nat) (me mu : Nat → Nat) (gv : Nat → Int32) (gr : Nat → Nat) (kt : Nat → Bool) (k s : Nat) (M M' : Mm) : Prop :=
  RfI g g' w' w q q' M' ∧ GrI g G A M' ∧ CKs G M' ∧ CT w' G (gfT t u k s) M' ∧ CLk w' G (gfT t u k s) (gfC k s (tn u) ce cu) (gfM k s (tn u) me mu) M' ∧ (∀ a, a < 4 → M'.1 (w' + 12) a = gv a) ∧ MKD G (gfT t u k s) (mrkG G t u gr kt k s) (fun i => nwG k (tn u) (i / 8)) M' ∧ (∀ e, e < tn t + tn u - s → M'.1 34 e = sgR k s (tn u) e) ∧ (∀ b j, q + 1 ≤ b → b ≤ q + 14 → M'.1 b j = M.1 b j) ∧ M'.1 2 6 = nI 0 ∧ M'.1 1 1 = nI 0 ∧ M'.1 1 2 = m1 ∧ FY (fun b _ => b < 137) M M'
theorem s_graft {B : Nat → Nat} {n0 kk : Nat} (N : Nat) (hN : 20000 < N) (R : RfI g g' w w' q q' M) (Gi : GrI g G A M) (Ck : CKs G M) (V : VI w q g G t ce me gv val trn uns gN gr fr od kt dg M) (Co : CoI B n0 M) (hkk : kk ≤ n0) (hk : k < tn t) (hs : me k = k + s) :
    match pTree (toks B kk 0) G (tn t - s) (syT G t k + 1) (td t k) (tq t k) with
    | .inl e => ∃ M', D_X11_graft N 1 (nI k) (nI kk) M = D_X11_refuse N 1 (nI 9) M' ∧ FW (PFl w' g') M M' ∧ M'.1 2 6 = nI 0 ∧ M'.1 1 1 = nI e.1 ∧ M'.1 1 2 = nI e.2 ∧ FY (fun b _ => b < 137) M M'
    | .inr y => ∃ cu mu M', D_X11_graft N 1 (nI k) (nI kk) M = (D_X11_reckonAnew N 1 M').bind (pKg N) ∧ TOK G y.2 cu mu ∧ tu y.2 0 = 0 ∧ tn t + tn y.2 - s ≤ 40 ∧ G.i 7 (4 * tp y.2 0) = G.i 7 (4 * tp t k) ∧ TOK2 G (gfT t y.2 k s) (gfC k s (tn y.2) ce cu) (gfM k s (tn y.2) me mu) ∧ tq y.2 0 = tq t k ∧ GOK g g' w w' q q' G A t y.2 ce cu me mu gv gr kt k s M M' := by
  obtain ⟨hg, hw, hqq, hg', hw', hqq'⟩ := R.gg
  have ne : (g = 35 ∧ g' = 52 ∨ g = 52 ∧ g' = 35) ∧ (w = 69 ∧ w' = 87 ∨ w = 87 ∧ w' = 69) := ⟨R.1.2.2, R.2.1.2.2⟩
  have n1000 := Co.1
  have n := V.n1
  have h := V.1
  have l := h.1.lt Gi.1 hk
  have n4 := (h.1.2.1 k hk).2.2.2.1
  have s8 := syT_lt Gi.1 h.1 hk
  have ns8 := Gi.1.ns
  have P := V.2.2.2.2.1.1
  have td12 := h.2.2.2.2 k hk
  have td1 := tok_td1 h.1 h.2.2.1 k k (Nat.le_refl _) hk
  have x1 : D_X11_graft N 1 (nI k) (nI kk) M = ((D_X7_holds N 2 (nI kk) M).bind fun q1 => (if q1 = nI 0 then D_X11_refuse N 1 (nI 1) M else (if M.1 w 0 = nI 0 then D_X11_refuse N 1 (nI 3) M else ((D_X8_hasNode N w (nI k) M).bind fun q4 => (if q4 = nI 0 then D_X11_refuse N 1 (nI 4) M else ((D_X7_begin N 2 (nI kk) M).bind fun M1 => (rf M1 1 14 8).bind fun r3 => (rf M1 1 11 1).bind fun r4 => (rf M1 1 13 8).bind fun r5 => (D_X8_copyAhead N r3 r4 r5 (nI k) M1).bind fun M2 => (rf M2 1 13 8).bind fun r6 => (rf M2 1 13 8).bind fun r7 => (ldI 40 (r7 + 6) (nI k) M2).bind fun v1 => (rf M2 1 13 8).bind fun r8 => (ldI 40 (r8 + 7) (nI k) M2).bind fun v2 => (rf M2 1 11 1).bind fun r9 => (rf M2 1 14 8).bind fun r10 => (rf M2 1 13 8).bind fun r11 => (ldI 40 (r11 + 3) (nI k) M2).bind fun v3 => (rf M2 1 13 8).bind fun r12 => (ldI 40 (r12 + 4) (nI k) M2).bind fun v4 => (D_X9_read N 8 2 r9 r10 v3 v4 v2 (((M2.1 r6 0) - nI k) - v1) M2).bind fun q6 => (D_X11_keepFault N 1 q6.1 q6.2).bind fun M3 => (if q6.1 = nI 0 then D_X11_refuse N 1 (nI 9) M3 else ((rf M3 1 14 8).bind fun r13 => (rf M3 1 14 8).bind fun r14 => (rf M3 1 11 1).bind fun r15 => (rf M3 1 13 8).bind fun r16 => (D_X8_copyBehind N r14 r15 r16 (nI k) ((M3.1 r13 0) - nI k) M3).bind fun M4 => (rf M4 1 14 8).bind fun r17 => (rf M4 1 11 1).bind fun r18 => (D_X8_link N r17 r18 M4).bind fun M5 => (rf M5 1 13 8).bind fun r19 => (rf M5 1 13 8).bind fun r20 => (ldI 40 (r20 + 6) (nI k) M5).bind fun v5 => (D_X0_beginGraft N 30 (M5.1 r19 0) (nI k) v5 ((M3.1 r13 0) - nI k) M5).bind fun M6 => (rf M6 1 13 8).bind fun r21 => (rf M6 1 14 8).bind fun r22 => (rf M6 1 15 10).bind fun r23 => (D_X0_markGraft N 30 r21 r22 (r23 + 1) M6).bind fun M7 => (D_X11_swapWood N 1 M7).bind fun M8 => (D_X11_reckonAnew N 1 M8).bind fun M9 => (rf M9 1 13 8).bind fun r24 => D_X11_answer N 1 (M9.1 r24 0) M9)))))))) := by
    unfold D_X11_graft
    simp only [bind_pair]
    rw [R.w]
    simp only [Option.bind_some]
  have hn : D_X8_hasNode N w (nI k) M = some (nI 1) := by
    rcases hasNode_c N (nI k) V with ⟨e1, _⟩ | ⟨x, hx, e, e1, _⟩
    · unfold D_X8_hasNode at e1
      simp only [jn, okZ_0, okZ_1] at e1
      rw [V.2.1.1, if_neg (by rw [n_lt (by omega) (by decide)]; omega), if_neg (by rw [n_le (by omega) (by omega)]; omega)] at e1
      exact absurd (Option.some.inj e1) z10
    · exact e1
  rw [holds_in N Co.2.1 hkk (by omega), Option.bind_some, if_neg z10, if_neg V.w0, hn, Option.bind_some, if_neg z10] at x1
  obtain ⟨M1, b1, b2, b3, b4, b5⟩ := s_begin (B := B) N (by omega) (show kk ≤ 1000 by omega) (fun i hi => ⟨(Co.2.2.2.1 i (by omega)).1, (Co.2.2.2.1 i (by omega)).2.1⟩)
  have w1 : FW (PFl w' g') M M1 := (b4.w (by unfold S2; omega) (by unfold S2; omega) (by unfold S2; omega)).mono fun b j z => by unfold S2 at z; unfold PFl; omega
  have R1 := R.fw w1
  have gi1 : GrI g G A M1 := Gi.fw w1 fun b j z => by unfold PFl at z; unfold uG; omega
  have ct1 : CT w G t M1 := ⟨by rw [w1.e (by unfold PFl; omega)]; exact V.2.1.1, fun e he => (V.2.1.2 e he).of fun x x1 x2 => w1.e (by unfold PFl; omega)⟩
  obtain ⟨M2, c1, c2, c3, c4⟩ := s_copyAhead N (by omega) Gi.1 hg ne.2 h hk gi1.2.2.1 ct1
  have w2 : FW (PFl w' g') M M2 := w1.trans ((c4.w (by unfold SN; omega) (by unfold SN; omega) (by unfold SN; omega)).mono fun b j z => by unfold SN at z; unfold PFl; omega)
  have R2 := R.fw w2
  have gi2 : GrI g G A M2 := Gi.fw w2 fun b j z => by unfold PFl at z; unfold uG; omega
  have row : ∀ b j, w ≤ b → b ≤ w + 15 → M2.1 b j = M.1 b j := fun b j h1 h2 => w2.e (by unfold PFl; omega)
  obtain ⟨d1, d2, d3, d4, d5, d6, _⟩ := V.2.1.2 k hk
  have K2 : TK (toks B kk 0) 0 M2 := b2.fr c4 (by unfold SN; omega) (by unfold SN; omega) (by unfold SN; omega) (by unfold SN; omega)
  have ebh : (M2.1 w 0 - nI k) - nI (me k - k) = nI (tn t - k - s) := by rw [row w 0 (by omega) (by omega), V.2.1.1, n_sub (by omega), n_sub (by omega), show tn t - k - (me k - k) = tn t - k - s by omega]
  obtain ⟨M3, e1, e2⟩ := z_readT (n := kk) (T := toks B kk 0) (w := w') (g := g) (first := k) (bh := tn t - k - s) (q := tq t k) (d := td t k) (need := syT G t k + 1) (P0 := nP (tu t k)) (Z := fun x e => M2.1 (w' + x) e) N (by omega) b3 Gi.1 hg hw' (by omega) K2 gi2.2.2.1 c2.1 (by omega) (by
    by_cases z : k = 0
    · subst z
      exact Or.inl ⟨by rw [h.1.1.2.1]; rfl, h.2.2.1⟩
    · obtain ⟨y1, y2, _⟩ := h.1.2.2 k (by omega) hk
      have yd := h.1.td (show 1 ≤ k by omega) hk
      have y3 := tok_td1 h.1 h.2.2.1 _ (tu t k - 1) (Nat.le_refl _) (by omega)
      refine Or.inr ⟨tu t k - 1, by omega, nP_s y1, by omega, by omega, ?_⟩
      rw [(c2.2 (tu t k - 1) (by omega)).2.2.2.2.1, yd]
      rfl) (fun x e _ _ _ => rfl)
  have w3 : FW (PFl w' g') M M3 := w2.trans ((e1.w (by omega) (by omega) (by omega)).mono fun b j z => by unfold PFl; omega)
  have e3 : M3.1 2 6 = nI 0 := by rw [(e1 2 (by omega)).1, (c4 2 (by unfold SN; omega)).1]; exact b5
  have end' : ndI (syT G t k + 1) = nI (syT G t k) := if_neg (by omega)
  rw [end'] at e2
  rw [b1, Option.bind_some, R1.w', Option.bind_some, R1.g, Option.bind_some, R1.w, Option.bind_some, c1, Option.bind_some, R2.w, Option.bind_some, Option.bind_some, ldI_n (by omega) (by omega), row (w + 6) k (by omega) (by omega), V.2.2.1.2.1 k hk, Option.bind_some, Option.bind_some, ldI_n (by omega) (by omega), row (w + 7) k (by omega) (by omega), d6, Option.bind_some, R2.g, Option.bind_some, R2.w', Option.bind_some, Option.bind_some, ldI_n (by omega) (by omega), row (w + 3) k (by omega) (by omega), d3, Option.bind_some, Option.bind_some, ldI_n (by omega) (by omega), row (w + 4) k (by omega) (by omega), d4, Option.bind_some, ebh] at x1
  rw [show k + (tn t - k - s) = tn t - s by omega] at e2
  -- the reference's part stays
  have y3 : FY (fun b _ => b < 137) M M3 := (((b4.y.mono fun b j z => by unfold S2 at z; omega).trans (c4.y.mono fun b j z => by unfold SN at z; omega)).trans (e1.y.mono fun b j z => by omega))
  cases hp : pTree (toks B kk 0) G (tn t - s) (syT G t k + 1) (td t k) (tq t k) with
  | inl e =>
    rw [hp] at e2
    obtain ⟨M4, r1, r2, r3, r4, r5⟩ := e2
    obtain ⟨M5, k1, k2, k3, k4⟩ := s_keepFault N false M4
    have w4 : FW (PFl w' g') M M4 := w3.trans ((r4.w (by unfold SW SN; omega) (by unfold SW SN; omega) (by unfold SW SN; omega)).mono fun b j z => by unfold SW SN at z; unfold PFl; omega)
    have w5 : FW (PFl w' g') M M5 := w4.trans (k4.w.mono fun b j z => by unfold PFl; omega)
    have k1' : D_X11_keepFault N 1 (nI 0) M4 = some M5 := k1
    have r1' : D_X9_read N 8 2 g w' (nP (tu t k)) (nI (tq t k)) (nI (G.i 7 (4 * tp t k))) (nI (tn t - k - s)) M2 = some (nI 0, M4) := r1
    rw [r1', Option.bind_some, k1', Option.bind_some, if_pos rfl] at x1
    exact ⟨M5, x1, w5, by rw [(k4.2 2 6 (by omega)).1, r5]; exact e3, k2.trans r2, k3.trans r3, (y3.trans (r4.y.mono fun b j z => by unfold SW SN at z; omega)).trans (k4.y.mono fun b j z => by omega)⟩
  | inr y =>
    rw [hp] at e2
    obtain ⟨M4, r1, r2, r4, r5⟩ := e2
    obtain ⟨p1, p2, p3, p4, p5, cu, mu, tok⟩ := pTree_tok Gi.1 hp
    have m1' := tok.1.1
    have rs : G.i 7 (4 * tp y.2 0) = G.i 7 (4 * tp t k) := by
      have : G.i 7 (4 * tp y.2 0) + 1 = syT G t k + 1 := p4 (by omega)
      exact Nat.succ.inj this
    have k40 : tn t + tn y.2 - s ≤ 40 := by have := r2.2.2.2.2.1; omega
    have h' := gf_tok2 Gi.1 h tok hk hs p3 rs p5 k40 (fun e he => (r2.2.2.2.2.2.1 e he).2.2.2.2.1)
    have ctp4 := KZ.ctp (s := s) r2 c2 (fun _ _ => rfl) p2 (fun e e1 e2 => (tok.2.2 e e1 e2).1) m1'
    obtain ⟨M5, k1, k2, k3, k4⟩ := s_keepFault N true M4
    have w4 : FW (PFl w' g') M M4 := w3.trans ((r4.w (by unfold SW SN; omega) (by unfold SW SN; omega) (by unfold SW SN; omega)).mono fun b j z => by unfold SW SN at z; unfold PFl; omega)
    have w5 : FW (PFl w' g') M M5 := w4.trans (k4.w.mono fun b j z => by unfold PFl; omega)
    have R5 := R.fw w5
    have gi5 : GrI g G A M5 := Gi.fw w5 fun b j z => by unfold PFl at z; unfold uG; omega
    have row5 : ∀ b j, w ≤ b → b ≤ w + 15 → M5.1 b j = M.1 b j := fun b j h1 h2 => w5.e (by unfold PFl; omega)
    have ct5 : CT w G t M5 := ⟨by rw [row5 _ _ (by omega) (by omega)]; exact V.2.1.1, fun e he => (V.2.1.2 e he).of fun x x1 x2 => row5 _ _ (by omega) (by omega)⟩
    have ctp5 : CTp w' G (gfT t y.2 k s) (k + tn y.2) M5 := ⟨by rw [(k4.2 w' 0 (by omega)).1]; exact ctp4.1, fun e he => (ctp4.2 e he).of fun x x1 x2 => (k4.2 _ _ (by omega)).1⟩
    have w6v : M5.1 (w + 6) k = nI s := by rw [row5 _ _ (by omega) (by omega), V.2.2.1.2.1 k hk, show me k - k = s by omega]
    obtain ⟨M6, f1, f2, f3⟩ := s_copyBehind N (by omega) Gi.1 hg ne.2 h hk hs h' m1' gi5.2.2.1 ct5 w6v ctp5
    have w6 : FW (PFl w' g') M M6 := w5.trans ((f3.w (by unfold SN; omega) (by unfold SN; omega) (by unfold SN; omega)).mono fun b j z => by unfold SN at z; unfold PFl; omega)
    have R6 := R.fw w6
    have gi6 : GrI g G A M6 := Gi.fw w6 fun b j z => by unfold PFl at z; unfold uG; omega
    obtain ⟨M7, l1, l2, l3, l4⟩ := s_link N (by omega) Gi.1 hg hw' h' gi6.2.2.1 f2
    have R7 := R6.fx l4
    have k1' : D_X11_keepFault N 1 (nI 1) M4 = some M5 := k1
    have r1' : D_X9_read N 8 2 g w' (nP (tu t k)) (nI (tq t k)) (nI (G.i 7 (4 * tp t k))) (nI (tn t - k - s)) M2 = some (nI 1, M4) := r1
    have came : M5.1 w' 0 - nI k = nI (tn y.2) := by rw [ctp5.1, n_sub (by omega), show k + tn y.2 - k = tn y.2 by omega]
    have w70 : M7.1 w 0 = nI (tn t) := by rw [(l4.2 w 0 (by unfold PLk; omega)).1, (f3 w (by unfold SN; omega)).1]; exact ct5.1
    have w76 : M7.1 (w + 6) k = nI s := by rw [(l4.2 (w + 6) k (by unfold PLk; omega)).1, (f3 (w + 6) (by unfold SN; omega)).1]; exact w6v
    obtain ⟨M8, g1, g2, g3, g4, g5, g6⟩ := s_beginGraft (n := tn t) (k := k) (s := s) (m := tn y.2) (M := M7) N (by omega) (by omega) (by omega) m1' n.2 k40
    have R8 := R7.fx g6
    have ct8 : CT w G t M8 := ⟨by rw [(g6.2 w 0 (by unfold PBG; omega)).1]; exact w70, fun e he => (ct5.2 e he).of fun x x1 x2 => by rw [(g6.2 (w + x) e (by unfold PBG; omega)).1, (l4.2 (w + x) e (by unfold PLk; omega)).1, (f3 (w + x) (by unfold SN; omega)).1]⟩
    have ct8' : CT w' G (gfT t y.2 k s) M8 := l2.fx g6 fun x j x1 x2 z => by unfold PBG at z; omega
    have kgr : ∀ b j, q + 1 ≤ b → b ≤ q + 14 → M8.1 b j = M.1 b j := fun b j h1 h2 => by
      rw [(g6.2 b j (by unfold PBG; omega)).1, (l4.2 b j (by unfold PLk; omega)).1]; exact w6.e (by unfold PFl; omega)
    have kg8 : KG (q + 1) gN gr fr od kt M8 := by
      obtain ⟨o1, o2, o3, o4, o5, o6⟩ := V.2.2.2.2.1.2.1
      exact ⟨by rw [kgr _ _ (by omega) (by omega)]; exact o1, fun v hv => by rw [kgr _ _ (by omega) (by omega)]; exact o2 v hv, by rw [kgr _ _ (by omega) (by omega)]; exact o3, fun g hg => by rw [kgr _ _ (by omega) (by omega)]; exact o4 g hg, fun m hm => by rw [kgr _ _ (by omega) (by omega)]; exact o5 m hm, fun g hg => by rw [kgr _ _ (by omega) (by omega)]; exact o6 g hg⟩
    obtain ⟨M9, i1, i2, i3⟩ := s_markGraft N (by omega) Gi.1 h ne.2 hqq (show k + s ≤ tn t by omega) (by omega) rs m1' h' P ct8 ct8' kg8 g4 g5 g3 g2
    have R9 := R8.fx i3
    obtain ⟨sw, R10⟩ := RfI.swapW N R9
    have g1' : D_X0_beginGraft N 30 (nI (tn t)) (nI k) (nI s) (nI (tn y.2)) M7 = some M8 := g1
    rw [r1', Option.bind_some, k1', Option.bind_some, if_neg z10, R5.w', Option.bind_some, Option.bind_some, R5.g, Option.bind_some, R5.w, Option.bind_some, came, f1, Option.bind_some, R6.w', Option.bind_some, R6.g, Option.bind_some, l1, Option.bind_some, R7.w, Option.bind_some, Option.bind_some, ldI_n (by omega) (by omega), w76, Option.bind_some, w70, g1', Option.bind_some, R8.w, Option.bind_some, R8.w', Option.bind_some, R8.q, Option.bind_some, i1, Option.bind_some, sw, Option.bind_some] at x1
    -- all that the class changed
    have w9 : FW (fun b j => PFl w' g' b j ∨ w' ≤ b ∧ b ≤ w' + 15 ∨ 30 ≤ b ∧ b ≤ 34) M M9 := (((w6.mono fun b j z => Or.inl z).trans (l4.w.mono fun b j z => by unfold PLk at z; exact Or.inr (Or.inl (by omega)))).trans (g6.w.mono fun b j z => by unfold PBG at z; exact Or.inr (Or.inr (by omega)))).trans (i3.w.mono fun b j z => Or.inr (Or.inr (by omega)))
    have gi9 : GrI g G A M9 := Gi.fw w9 fun b j z => by
      rcases z with z | z
      · unfold PFl at z; unfold uG; omega
      · unfold uG; omega
    have ck9 : CKs G M9 := Ck.fw w9 fun b j z => by
      rcases z with z | z
      · unfold PFl at z; omega
      · omega
    have y9 : FY (fun b _ => b < 137) M M9 := ((((((y3.trans (r4.y.mono fun b j z => by unfold SW SN at z; omega)).trans (k4.y.mono fun b j z => by omega)).trans (f3.y.mono fun b j z => by unfold SN at z; omega)).trans (l4.y.mono fun b j z => by unfold PLk at z; omega)).trans (g6.y.mono fun b j z => by unfold PBG at z; omega)).trans (i3.y.mono fun b j z => by omega))
    have cl9 : ∀ b j, w' ≤ b → b ≤ w' + 15 → M9.1 b j = M7.1 b j := fun b j h1 h2 => by rw [(i3.2 b j (by omega)).1, (g6.2 b j (by unfold PBG; omega)).1]
    have n5 : ∀ b j, (b = 2 ∧ j = 6 ∨ b = 1) → M9.1 b j = M5.1 b j := fun b j hb => by rw [(i3.2 b j (by omega)).1, (g6.2 b j (by unfold PBG; omega)).1, (l4.2 b j (by unfold PLk; omega)).1, (f3 b (by unfold SN; omega)).1]
    refine ⟨cu, mu, upN (upN M9 1 14 w) 1 13 w', x1, tok, p2, k40, rs, h', p3, R10, gi9, ck9, ?_, ?_, fun a ha => ?_, i2, fun e he => ?_, ?_, ?_, ?_, ?_, y9⟩
    · exact ⟨by show M9.1 w' 0 = _; rw [cl9 _ _ (by omega) (by omega)]; exact l2.1, fun e he => (l2.2 e he).of fun x x1 x2 => cl9 _ _ (by omega) (by omega)⟩
    · refine ⟨fun k hk => ⟨?_, fun j j1 j2 => ?_⟩, fun x hx => ?_, fun i hi => ?_⟩
      · show M9.1 _ _ = _
        rw [cl9 _ _ (by omega) (by omega)]; exact (l3.1 k hk).1
      · show M9.1 _ _ = _
        rw [cl9 _ _ (by omega) (by omega)]; exact (l3.1 k hk).2 j j1 j2
      · show M9.1 _ _ = _
        rw [cl9 _ _ (by omega) (by omega)]; exact l3.2.1 x hx
      · obtain ⟨t1, t2, t3⟩ := l3.2.2 i hi
        exact ⟨(cl9 _ _ (by omega) (by omega)).trans t1, (cl9 _ _ (by omega) (by omega)).trans t2, (cl9 _ _ (by omega) (by omega)).trans t3⟩
    · show M9.1 (w' + 12) a = gv a
      rw [cl9 _ _ (by omega) (by omega), (l4.2 (w' + 12) a (by unfold PLk; omega)).1, (f3 (w' + 12) (by unfold SN; omega)).1, (k4.2 (w' + 12) a (by omega)).1, (r4 (w' + 12) (by unfold SW SN; omega)).1, (e1 (w' + 12) (by omega)).1, c3 a ha, w1.e (by unfold PFl; omega)]
      exact V.2.2.2.1 a ha
    · show M9.1 34 e = _
      rw [(i3.2 34 e (by omega)).1]; exact g3 e he
    · intro b j h1 h2
      show M9.1 b j = _
      rw [(i3.2 b j (by omega)).1]; exact kgr b j h1 h2
    · show M9.1 2 6 = nI 0
      rw [n5 2 6 (by omega), (k4.2 2 6 (by omega)).1, r5]; exact e3
    · show M9.1 1 1 = nI 0
      rw [n5 1 1 (by omega), k2]; rfl
    · show M9.1 1 2 = m1
      rw [n5 1 2 (by omega), k3]; rfl
end tok
