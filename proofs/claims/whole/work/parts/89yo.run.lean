-- both sides answer: run
/-- what a production's children ask for -/
def chS (G : Gr) (f : Nat → Nat) (p : Nat) : Nat := psum (fun k => f (G.i 7 (4 * p + (k + 1)))) (G.i 6 p - 1)
/-- each node but the root is one node's child -/
theorem run_sum {G : Gr} {t : TR} {ce : Nat → Nat → Nat} {me : Nat → Nat} (hq : QG G) (h : TOK G t ce me) (f : Nat → Nat) : ∀ d x, me x - x ≤ d → x < tn t → psum (fun e => chS G f (tp t e)) (me x) + psum (fun e => f (syT G t e)) x + f (syT G t x) = psum (fun e => f (syT G t e)) (me x) + psum (fun e => chS G f (tp t e)) x
  | 0, x, h1, hx => by have := h.lt hq hx; omega
  | d + 1, x, h1, hx => by
    obtain ⟨a1, a2, a3, a4, a5⟩ := h.2.1 x hx
    have sd := hq.sd a1
    have key : ∀ j, j + 1 ≤ G.i 6 (tp t x) → psum (fun e => chS G f (tp t e)) (ce x (j + 1)) + psum (fun e => f (syT G t e)) x + f (syT G t x) + psum (fun k => f (G.i 7 (4 * tp t x + (k + 1)))) j = psum (fun e => f (syT G t e)) (ce x (j + 1)) + psum (fun e => chS G f (tp t e)) x + chS G f (tp t x) := fun j => by
      induction j with
      | zero =>
        intro hj
        rw [Nat.zero_add, a2]
        show (psum _ x + chS G f (tp t x)) + _ + _ + 0 = (psum _ x + f (syT G t x)) + _ + _
        omega
      | succ j ih =>
        intro hj
        have i1 := ih (by omega)
        obtain ⟨b1, b2, b3, b4, b5, b6⟩ := a5 (j + 1) (by omega) (by omega)
        have kd := h.kid hx (show 1 ≤ j + 1 by omega) (show j + 1 < G.i 6 (tp t x) by omega)
        have c1 := chn_le (fun k a b => (a5 k a b).1) (show 1 ≤ j + 1 + 1 by omega) (show j + 1 + 1 ≤ G.i 6 (tp t x) by omega) (Nat.le_refl _)
        have i2 := run_sum hq h f d (ce x (j + 1)) (by omega) kd.2.1
        rw [b6] at i2
        have e : syT G t (ce x (j + 1)) = G.i 7 (4 * tp t x + (j + 1)) := b4
        rw [e] at i2
        show _ + _ + _ + (psum _ j + f (G.i 7 (4 * tp t x + (j + 1)))) = _
        omega
    have := key (G.i 6 (tp t x) - 1) (by omega)
    rw [show G.i 6 (tp t x) - 1 + 1 = G.i 6 (tp t x) by omega, a3] at this
    have e2 : psum (fun k => f (G.i 7 (4 * tp t x + (k + 1)))) (G.i 6 (tp t x) - 1) = chS G f (tp t x) := rfl
    omega
theorem run_all {G : Gr} {t : TR} {ce : Nat → Nat → Nat} {me : Nat → Nat} (hq : QG G) (h : TOK G t ce me) (f : Nat → Nat) : f (syT G t 0) + psum (fun e => chS G f (tp t e)) (tn t) = psum (fun e => f (syT G t e)) (tn t) := by
  have := run_sum hq h f _ 0 (Nat.le_refl _) h.1.1
  rw [h.1.2.2] at this
  have e1 : psum (fun e => f (syT G t e)) 0 = 0 := rfl
  have e2 : psum (fun e => chS G f (tp t e)) 0 = 0 := rfl
  omega
theorem LYd.fin {G : Gr} {A : Nat → Nat} {p : Nat} {M : Mm} (h : OrdP G A p) (L : LYd G A p M) : M.1 22 p = nI (chS G (vV G A) p) ∧ M.1 23 p = nI (cnt (fun o => (G.i 9 p).testBit o) 32) := by
  obtain ⟨_, k2, k3⟩ := pKd_3 h (pF_ok h).1 (pF_3 h)
  refine ⟨?_, ?_⟩
  · rw [L.2.2.1]
    exact congrArg nI (psum_congr fun i hi => k3 (i + 1) (by omega) (by omega))
  · rw [L.2.2.2]
    refine congrArg nI (cnt_congr fun o _ => ?_)
    show ((G.i 9 p).testBit o && (pF G A p).1.testBit o) = (G.i 9 p).testBit o
    cases c : (G.i 9 p).testBit o
    · rfl
    · rw [k2 o (h.1.tl_us h.2.2.1 c)]; rfl
section q
variable {M : Mm} (N : Nat)
theorem q_run (hN : 20000 < N) (I : INV M) (a : Int32) : QOK M (D_X11_run N 1 a M) (D_X12_run N 137 a) := by
  obtain ⟨_, g, g', w, w', q, q', I0⟩ := I
  have R := I0.2.1
  obtain ⟨hg, hw, hq, _⟩ := R.gg
  have rw' := R.w
  rcases arg2 a 1 (by decide) with h | ⟨k, hk, rfl, h1, h2⟩
  · refine QOK.ref (v := nI 1) N I0 FX.refl ?_ FX.refl ?_
    · unfold D_X11_run
      simp only [bind_pair]
      rw [if_out h]
    · unfold D_X12_run
      rw [out_from N _ h, Option.bind_some, if_pos rfl, bind_pair]
  · have x1 : D_X11_run N 1 (nI k) M = if M.1 w 0 = nI 0 then D_X11_refuse N 1 (nI 3) M else if M.1 15 3 = m1 then ((if k = 0 then (ldI 40 (w + 7) (nI 0) M).bind fun v5 => ldI 8 16 v5 M else some (nI 0)).bind fun p73 => L_X11_run_76 M 1 N (nI k) N p73 (nI 0)) else D_X11_refuse N 1 (nI 5) M := by
      unfold D_X11_run
      simp only [bind_pair]
      rw [if_in h1 h2, rw', Option.bind_some, Option.bind_some, show (1 : Nat) + 14 = 15 from rfl]
      rcases (show k = 0 ∨ k = 1 by omega) with z | z <;> subst z
      · simp only [if_pos (show nI 0 = nI 0 from rfl), show (0 : Nat) = 0 from rfl, if_true]
        by_cases c : M.1 w 0 = nI 0
        · rw [if_pos c, if_pos c]
        · rw [if_neg c, if_neg c]
          by_cases d : M.1 15 3 = m1
          · rw [if_pos d, if_pos d]
            cases ldI 40 (w + 7) (nI 0) M with
            | none => rfl
            | some v =>
              show ((ldI 8 (15 + 1) v M).bind fun v6 => some v6).bind _ = (ldI 8 16 v M).bind _
              cases ldI 8 16 v M <;> rfl
          · rw [if_neg d, if_neg d]
      · rw [if_neg z10, if_neg (show ¬ (1 : Nat) = 0 by decide)]
    have y1 : ∀ M, D_X12_run N 137 (nI k) M = ((D_X12_hasTree N 137 M).bind fun q3 => (if q3 = nI 0 then D_X12_refuse N 137 (nI 3) M else ((D_X12_block N 137 M).bind fun q5 => (if q5.1 = m1 then ((D_X12_laysAllVisits N 137 q5.2).bind fun M1 => (L_X12_run_50 M1 137 N (nI k) N (nI 0) (nI 0))) else D_X12_refuse N 137 (nI 5) q5.2)))) := fun M => by
      unfold D_X12_run
      simp only [bind_pair]
      rw [from_yes N M hk (by decide), Option.bind_some, if_neg z10]
    rcases I0.tree with ⟨t1, t2⟩ | ⟨G, A, t, ce, me, gv, val, trn, uns, gN, gr, fr, od, kt, dg, Gi, V, e3⟩
    · exact QOK.ref (v := nI 3) N I0 FX.refl (by rw [x1, if_pos t1]) FX.refl (by rw [y1, no_hasTree N (t2 _), Option.bind_some, if_pos rfl])
    · have V2 := fun v => (V.q hw hq f10 : VI w q g G t ce me gv val trn uns gN gr fr od kt dg (upI M 1 0 v))
      have np12 := Gi.1.1.2.1
      have n := V.n1
      rw [if_neg V.w0, Gi.pl.2.2.1] at x1
      simp only [fR_m1 (show G.i 0 1 < 2 ^ 31 by omega)] at x1
      have fin : ∀ v : Int32, ∃ M2, D_X12_block N 137 (upI M 1 0 v) = some (fR (blk G A) (G.i 0 1), M2) ∧ FX PVb (upI M 1 0 v) M2 := fun v => r_block N (by omega) Gi.hi (Gi.q hg (f10 (v := v))).ri
      have y2 : ∀ v, D_X12_run N 137 (nI k) (upI M 1 0 v) = _ := fun v => by rw [y1, (V2 v).hasTree, Option.bind_some, if_neg z10]
      by_cases c : blk G A < G.i 0 1
      · rw [if_neg (not_not_intro c)] at x1
        obtain ⟨M2, b1, b2⟩ := fin (nI 5)
        refine QOK.ref (v := nI 5) N I0 FX.refl x1 (b2.mono fun b j z => PQv z) ?_
        rw [y2, b1, Option.bind_some]
        simp only [fR_m1 (show G.i 0 1 < 2 ^ 31 by omega)]
        rw [if_neg (not_not_intro c)]
      · rw [if_pos c] at x1
        obtain ⟨M2, b1, b2⟩ := fin (nI 0)
        obtain ⟨M3, d1, d2, d3⟩ := r_laysAllVisits N (by omega) ((Gi.q hg (f10 (v := nI 0))).ri.pvb b2) Gi.hi
        have f3 : FX (fun b j => PQ b j ∧ ¬ b = 1) (upI M 1 0 (nI 0)) M3 := (b2.mono fun b j z => PQv z).trans (d3.mono fun b j z => PQv (by unfold PVa at z; unfold PVb PVa; omega))
        have f3' : FX PQ (upI M 1 0 (nI 0)) M3 := f3.mono fun b j z => z.1
        have V3 : VI w q g G t ce me gv val trn uns gN gr fr od kt dg M3 := (V2 (nI 0)).q hw hq f3'
        have G3 : GrI g G A M3 := (Gi.q hg (f10 (v := nI 0))).q hg f3'
        have ord : ∀ p, p < G.i 0 1 → OrdP G A p := fun p hp => by
          have e : blk G A = G.i 0 1 := by have := fb_le (bPf G A) (G.i 0 1); unfold blk at c ⊢; omega
          exact OrdP.of Gi.1 Gi.hi hp (fb_below (show p < fb (bPf G A) (G.i 0 1) by unfold blk at e; omega))
        have ns : ∀ e, e < tn t → slf G A (syT G t e) = false := fun e he => by
          have tp12 := (V.1.1.2.1 e he).1
          have sd := Gi.1.sd tp12
          have := (ord _ tp12).2.2.2.1 0 (by omega)
          exact this
        have y3 : D_X12_run N 137 (nI k) (upI M 1 0 (nI 0)) = L_X12_run_50 M3 137 N (nI k) N (nI 0) (nI 0) := by
          rw [y2, b1, Option.bind_some]
          simp only [fR_m1 (show G.i 0 1 < 2 ^ 31 by omega)]
          rw [if_pos c, d1, Option.bind_some]
        -- the class's sum
        have cl : ∀ (row : Nat → Nat), (∀ p, p < G.i 0 1 → (if k = 0 then M.1 22 p else M.1 23 p) = nI (row p)) → ∀ (fu i : Nat) (s : Nat), i ≤ tn t → 40 < i + fu → ∀ c0, s = c0 + psum (fun e => row (tp t e)) i → L_X11_run_76 M 1 N (nI k) fu (nI s) (nI i) = D_X11_answer N 1 (nI (c0 + psum (fun e => row (tp t e)) (tn t))) M := fun row hr fu => by
          induction fu with
          | zero => intro i s h1 h2; omega
          | succ fu ih =>
            intro i s h1 h2 c0 hs
            rw [L_X11_run_76, rw', Option.bind_some, V.2.1.1]
            simp only [n_le (show tn t < 2 ^ 31 by omega) (show i < 2 ^ 31 by omega), bind_pair]
            by_cases e : tn t ≤ i
            · rw [if_pos e, hs, show i = tn t by omega]
            · have tp12 := (V.1.1.2.1 i (by omega)).1
              have hri := hr _ tp12
              have w1 := (V.2.1.2 i (by omega)).1
              have st : s + row (tp t i) = c0 + psum (fun e => row (tp t e)) (i + 1) := by rw [hs]; show _ = c0 + (psum _ i + row (tp t i)); omega
              rw [if_neg e]
              by_cases z : k = 0
              · subst z
                rw [if_pos rfl] at hri
                rw [if_pos rfl, Option.bind_some, ldI_n (by omega) (by omega), w1, Option.bind_some, show (1 : Nat) + 14 + 7 = 22 from rfl, ldI_n (by omega) (by omega), hri, Option.bind_some, Option.bind_some, Option.bind_some, nI_add, nI_add]
                exact ih (i + 1) _ (by omega) (by omega) c0 st
              · rw [if_neg z] at hri
                rw [if_neg (by rw [n_eq (by omega) (by decide)]; exact z), Option.bind_some, ldI_n (by omega) (by omega), w1, Option.bind_some, show (1 : Nat) + 14 + 8 = 23 from rfl, ldI_n (by omega) (by omega), hri, Option.bind_some, Option.bind_some, Option.bind_some, nI_add, nI_add]
                exact ih (i + 1) _ (by omega) (by omega) c0 st
        -- the reference's sum
        have inn : ∀ (i s : Nat) (kE : Int32 → Option (Int32 × Mm)), i < tn t → L_X12_run_82 kE (nI k) 137 (nI i) M3 N N (nI s) (nI 0) = kE (nI (s + if k = 1 then cnt (fun o => (G.i 9 (tp t i)).testBit o) 32 else 0)) := fun i s kE hi => by
          have tp12 := (V.1.1.2.1 i hi).1
          have w1 := (V3.rt.1.2.2 i hi).1
          by_cases z : k = 1
          · rw [if_pos z]
            subst z
            have key : ∀ fu o c, o ≤ 32 → 32 < o + fu → c = s + cnt (fun o => (G.i 9 (tp t i)).testBit o) o → L_X12_run_82 kE (nI 1) 137 (nI i) M3 N fu (nI c) (nI o) = kE (nI (s + cnt (fun o => (G.i 9 (tp t i)).testBit o) 32)) := fun fu => by
              induction fu with
              | zero => intro o c h1 h2; omega
              | succ fu ih =>
                intro o c h1 h2 hc
                rw [L_X12_run_82]
                simp only [n_le (show 32 < 2 ^ 31 by decide) (show o < 2 ^ 31 by omega), jn]
                by_cases e : 32 ≤ o
                · rw [if_pos e, hc, show o = 32 by omega]
                · have st : cnt (fun o => (G.i 9 (tp t i)).testBit o) (o + 1) = cnt (fun o => (G.i 9 (tp t i)).testBit o) o + if (G.i 9 (tp t i)).testBit o = true then 1 else 0 := rfl
                  rw [if_neg e, if_pos trivial, show (137 : Nat) + 20 = 157 from rfl, ldI_n (by omega) (by omega), w1, Option.bind_some, r_isOcc N G3.2.2.2.1 G3.fl tp12 (by omega), Option.bind_some, Option.bind_some, Option.bind_some, Option.bind_some, Option.bind_some, nI_add, nI_add, nI_add]
                  simp only [bI_0]
                  cases u : (G.i 8 (tp t i)).testBit o
                  · have tf : (G.i 9 (tp t i)).testBit o = false := by
                      cases v : (G.i 9 (tp t i)).testBit o
                      · rfl
                      · rw [Gi.1.tl_us tp12 v] at u; exact absurd u (by decide)
                    rw [if_pos rfl]
                    exact ih (o + 1) (c + 0) (by omega) (by omega) (by rw [st, tf, if_neg (by decide), hc]; omega)
                  · rw [if_neg (by decide), show (137 : Nat) + 2 = 139 from rfl, r_canTell N len139 G3.2.2.2.1.1 Gi.1.1 Gi.1.2.2.1 tp12 (by omega) u, Option.bind_some]
                    simp only [bI_0]
                    cases v : (G.i 9 (tp t i)).testBit o
                    · rw [if_pos rfl]
                      exact ih (o + 1) (c + 0) (by omega) (by omega) (by rw [st, v, if_neg (by decide), hc]; omega)
                    · rw [if_neg (by decide)]
                      exact ih (o + 1) (c + 1) (by omega) (by omega) (by rw [st, v, if_pos rfl, hc]; omega)
            exact key N 0 s (by omega) (by omega) rfl
          · obtain ⟨fu, rfl⟩ : ∃ fu, N = fu + 1 := ⟨N - 1, by omega⟩
            rw [if_neg z, L_X12_run_82, if_neg (by decide), if_neg (by rw [n_eq (by omega) (by decide)]; exact z)]; rfl
        have rl : ∀ (row : Nat → Nat), (∀ e, e < tn t → row e = (if k = 0 then vV G A (syT G t e) else 0) + (if k = 1 then cnt (fun o => (G.i 9 (tp t e)).testBit o) 32 else 0)) → ∀ (fu i : Nat) (s : Nat), i ≤ tn t → 40 < i + fu → s = psum row i → L_X12_run_50 M3 137 N (nI k) fu (nI s) (nI i) = D_X12_gives N 137 (nI (psum row (tn t))) M3 := fun row hr fu => by
          induction fu with
          | zero => intro i s h1 h2; omega
          | succ fu ih =>
            intro i s h1 h2 hs
            rw [L_X12_run_50, V3.rt.1.2.1]
            simp only [n_le (show tn t < 2 ^ 31 by omega) (show i < 2 ^ 31 by omega), bind_pair]
            by_cases e : tn t ≤ i
            · rw [if_pos e, hs, show i = tn t by omega]
            · have hri := hr i (by omega)
              have s8 := syT_lt Gi.1 V.1.1 (show i < tn t by omega)
              have n8 := Gi.1.1.1
              have st : psum row (i + 1) = psum row i + row i := rfl
              rw [if_neg e]
              by_cases z : k = 0
              · rw [if_pos (by rw [z]), r_symbolOf N V3.1 V3.rt.1 (by omega), Option.bind_some, show (137 : Nat) + 13 = 150 from rfl, ldI_n (by omega) (by omega), (d2 _ s8 (ns i (by omega))).1, Option.bind_some, Option.bind_some, Option.bind_some, nI_add, nI_add, inn i _ _ (by omega), Option.bind_some]
                rw [if_pos z] at hri
                exact ih (i + 1) _ (by omega) (by omega) (by rw [st, hri, hs]; omega)
              · rw [if_neg (by rw [n_eq (by omega) (by decide)]; exact z), Option.bind_some, Option.bind_some, nI_add, nI_add, inn i _ _ (by omega), Option.bind_some]
                rw [if_neg z] at hri
                exact ih (i + 1) _ (by omega) (by omega) (by rw [st, hri, hs]; omega)
        by_cases z : k = 0
        · rw [if_pos z] at x1
          have w7 := (V.2.1.2 0 (by omega)).2.2.2.2.2.1
          have s8 := syT_lt Gi.1 V.1.1 (show 0 < tn t by omega)
          have n8 := Gi.1.1.1
          have ec : cnV G A (syT G t 0) = vV G A (syT G t 0) := by unfold cnV; rw [ns 0 (by omega), if_neg (by decide)]
          have w7' : M.1 (w + 7) 0 = nI (syT G t 0) := w7
          rw [ldI_n (by omega) (by omega), w7', Option.bind_some, ldI_n (by omega) (by omega), (Gi.pl.1 _ s8).1, ec, Option.bind_some, cl (chS G (vV G A)) (fun p hp => by rw [if_pos z]; exact ((Gi.pl.2.2.2 c p hp).fin (ord p hp)).1) N 0 (vV G A (syT G t 0)) (by omega) (by omega) (vV G A (syT G t 0)) (by rw [show psum (fun e => chS G (vV G A) (tp t e)) 0 = 0 from rfl, Nat.add_zero]), run_all Gi.1 V.1.1] at x1
          refine QOK.ans N I0 FX.refl x1 f3 ?_
          rw [y3]
          exact rl (fun e => vV G A (syT G t e)) (fun e he => by rw [if_pos z, if_neg (by omega), Nat.add_zero]) N 0 0 (by omega) (by omega) (by rw [psum])
        · have k1 : k = 1 := by omega
          rw [if_neg z, Option.bind_some, cl (fun p => cnt (fun o => (G.i 9 p).testBit o) 32) (fun p hp => by rw [if_neg z]; exact ((Gi.pl.2.2.2 c p hp).fin (ord p hp)).2) N 0 0 (by omega) (by omega) 0 (by rw [show psum (fun e => cnt (fun o => (G.i 9 (tp t e)).testBit o) 32) 0 = 0 from rfl]), Nat.zero_add] at x1
          refine QOK.ans N I0 FX.refl x1 f3 ?_
          rw [y3]
          exact rl (fun e => cnt (fun o => (G.i 9 (tp t e)).testBit o) 32) (fun e he => by rw [if_neg z, if_pos k1, Nat.zero_add]) N 0 0 (by omega) (by omega) (by rw [psum])
end q
