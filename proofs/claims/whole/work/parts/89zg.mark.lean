-- the class marks what a graft makes to be reckoned anew
def nwG (k m e : Nat) : Bool := decide (k < e ∧ e < k + m)
/-- for which node a node stands -/
def sgG (k s m e : Nat) : Nat := if e ≤ k then e else e + s - m
def sgR (k s m e : Nat) : Int32 := if nwG k m e = true then m1 else nI (sgG k s m e)
def PBG (b j : Nat) : Prop := b = 31 ∨ b = 33 ∨ b = 34 ∨ b = 30 ∧ (j = 4 ∨ j = 5)
theorem s_beginGraft {n k s m : Nat} {M : Mm} (N : Nat) (hN : 2000 < N) (hk : k + s ≤ n) (hs : 1 ≤ s) (hm : 1 ≤ m) (h40 : n ≤ 40) (h40' : n + m - s ≤ 40) : ∃ M', D_X0_beginGraft N 30 (nI n) (nI k) (nI s) (nI m) M = some M' ∧ (∀ j, j < 320 → M'.1 31 j = nI 0) ∧ (∀ e, e < n + m - s → M'.1 34 e = sgR k s m e) ∧ M'.1 30 4 = nI k ∧ M'.1 30 5 = nI s ∧ FX PBG M M' := by
  obtain ⟨M1, a1, a2, a3, a4⟩ := s_chBegin (m := k + 1) (M := M) N hN (by omega)
  have k1 : ∀ (kE : Mm → Option Mm) fu e M, k + 1 ≤ e → e ≤ k + m → 41 < e + fu → (∀ x, x < e → x < k + m → M.1 34 x = sgR k s m x) → ∃ M', L_X0_beginGraft_22 kE (nI k) (nI m) 30 fu (nI e) M = kE M' ∧ (∀ x, x < k + m → M'.1 34 x = sgR k s m x) ∧ FX (fun b _ => b = 34) M M' := fun kE fu => by
    induction fu with
    | zero => intro e M h0 h1 h2; omega
    | succ fu ih =>
      intro e M h0 h1 h2 h3
      rw [L_X0_beginGraft_22, nI_add]
      simp only [n_le (show k + m < 2 ^ 31 by omega) (show e < 2 ^ 31 by omega), n_le (show 40 < 2 ^ 31 by decide) (show e < 2 ^ 31 by omega)]
      by_cases c : k + m ≤ e
      · rw [if_pos c]; exact ⟨M, rfl, fun x hx => h3 x (by omega) hx, FX.refl⟩
      · rw [if_neg c, if_neg (by omega), show (30 : Nat) + 4 = 34 from rfl, stI_n (by omega) (by omega), Option.bind_some, Option.bind_some, nI_add]
        obtain ⟨M', b1, b2, b3⟩ := ih (e + 1) (upI M 34 e m1) (by omega) (by omega) (by omega) fun x hx hx2 => by
          rw [upI_j]
          by_cases z : x = e
          · rw [if_pos z, z]
            unfold sgR nwG
            rw [decide_eq_true (show k < e ∧ e < k + m by omega), if_pos rfl]
          · rw [if_neg z]; exact h3 x (by omega) hx2
        exact ⟨M', b1, b2, (FX.I (P := fun b _ => b = 34) rfl).trans b3⟩
  have k2 : ∀ fu i M, k + s ≤ i → i ≤ n → 40 < i + fu → (∀ x, x < i + m - s → M.1 34 x = sgR k s m x) → ∃ M', L_X0_beginGraft_57 (nI n) (nI s) (nI m) 30 fu (nI i) M = some M' ∧ (∀ x, x < n + m - s → M'.1 34 x = sgR k s m x) ∧ FX (fun b _ => b = 34) M M' := fun fu => by
    induction fu with
    | zero => intro e M h0 h1 h2; omega
    | succ fu ih =>
      intro i M h0 h1 h2 h3
      rw [L_X0_beginGraft_57]
      simp only [n_le (show n < 2 ^ 31 by omega) (show i < 2 ^ 31 by omega)]
      by_cases c : n ≤ i
      · rw [if_pos c]; exact ⟨M, rfl, fun x hx => h3 x (by omega), FX.refl⟩
      · have ei : nI i - nI s + nI m = nI (i + m - s) := by rw [n_sub (by omega), nI_add]; congr 1; omega
        rw [if_neg c, ei, if_neg (by rw [n_le (by decide) (by omega)]; omega), show (30 : Nat) + 4 = 34 from rfl, stI_n (by omega) (by omega), Option.bind_some, Option.bind_some, nI_add]
        obtain ⟨M', b1, b2, b3⟩ := ih (i + 1) (upI M 34 (i + m - s) (nI i)) (by omega) (by omega) (by omega) fun x hx => by
          rw [upI_j]
          by_cases z : x = i + m - s
          · rw [if_pos z, z]
            unfold sgR nwG sgG
            rw [decide_eq_false (show ¬ (k < i + m - s ∧ i + m - s < k + m) by omega), if_neg (by decide), if_neg (by omega)]
            congr 1
            omega
          · rw [if_neg z]; exact h3 x (by omega)
        exact ⟨M', b1, b2, (FX.I (P := fun b _ => b = 34) rfl).trans b3⟩
  have f3 : FX PBG M (upI (upI M1 30 4 (nI k)) 30 5 (nI s)) := ((a4.mono fun b j z => by unfold PBG; omega).trans (FX.I (by unfold PBG; omega))).trans (FX.I (by unfold PBG; omega))
  obtain ⟨M4, b1, b2, b3⟩ := k1 (fun (M6 : Mm) => ((some ((nI k + nI s))).bind fun l5_4 => (L_X0_beginGraft_57 (nI n) (nI s) (nI m) 30 N l5_4 M6))) N (k + 1) (upI (upI M1 30 4 (nI k)) 30 5 (nI s)) (Nat.le_refl _) (by omega) (by omega) fun x hx _ => by
    rw [upI_n (by decide), upI_n (by decide), a3 x hx]
    unfold sgR nwG sgG
    rw [decide_eq_false (show ¬ (k < x ∧ x < k + m) by omega), if_neg (by decide), if_pos (by omega)]
  obtain ⟨M5, c1, c2, c3⟩ := k2 N (k + s) M4 (Nat.le_refl _) hk (by omega) fun x hx => b2 x (by omega)
  have f5 : FX (fun b _ => b = 34) (upI (upI M1 30 4 (nI k)) 30 5 (nI s)) M5 := b3.trans c3
  refine ⟨M5, ?_, fun j hj => by rw [(f5.2 31 j (fun z => absurd (show (31 : Nat) = 34 from z) (by decide))).1, upI_n (by decide), upI_n (by decide)]; exact a2 j hj, c2, by rw [(f5.2 30 4 (fun z => absurd (show (30 : Nat) = 34 from z) (by decide))).1, upI_j, if_neg (by decide), upI_s], by rw [(f5.2 30 5 (fun z => absurd (show (30 : Nat) = 34 from z) (by decide))).1, upI_s], f3.trans (f5.mono fun b j z => by unfold PBG; omega)⟩
  unfold D_X0_beginGraft
  rw [nI_add, a1, Option.bind_some, pI_n, Option.bind_some, pI_n, Option.bind_some, Option.bind_some, b1, Option.bind_some, nI_add]
  exact c1
section tok
variable {G : Gr} {t : TR} {ce : Nat → Nat → Nat} {me : Nat → Nat}
variable {gN : Nat} {gr fr od : Nat → Nat} {kt : Nat → Bool}
/-- a group of one that goes, and tied -/
def gnA (G : Gr) (t : TR) (gr : Nat → Nat) (kt : Nat → Bool) (k i g : Nat) : Bool := decide (fb (fun x => decide (8 * k ≤ x) && thB G t x && decide (gr x = g + 1)) i < i) && kt g
theorem gnA_t {k i g : Nat} : gnA G t gr kt k i g = true ↔ (∃ x, x < i ∧ 8 * k ≤ x ∧ thT G t x ∧ gr x = g + 1) ∧ kt g = true := by
  unfold gnA
  rw [Bool.and_eq_true, decide_eq_true_eq, fb_lt]
  simp only [Bool.and_eq_true, decide_eq_true_eq, thB_t]
  constructor
  · rintro ⟨⟨x, h1, ⟨h2, h3⟩, h4⟩, h5⟩; exact ⟨⟨x, h1, h2, h3, h4⟩, h5⟩
  · rintro ⟨⟨x, h1, h2, h3, h4⟩, h5⟩; exact ⟨⟨x, h1, ⟨h2, h3⟩, h4⟩, h5⟩
theorem s_findGone {w q k s : Nat} {M : Mm} (N : Nat) (hN : 2000 < N) (hq : QG G) (h : TOK2 G t ce me) (hw : w = 69 ∨ w = 87) (hqq : q = 105 ∨ q = 121) (hk : k + s ≤ tn t) (P : GRP G t ce gN gr fr od kt) (C : CT w G t M) (K : KG (q + 1) gN gr fr od kt M) (h4 : M.1 30 4 = nI k) (h5 : M.1 30 5 = nI s) : ∃ M', D_X0_findGone N 30 w (q + 1) M = some M' ∧ (∀ g, g < 320 → g < gN → M'.1 33 g = bI (gnA G t gr kt k (8 * (k + s)) g)) ∧ FX (fun b _ => b = 33) M M' := by
  have h40 := h.2.2.2.1
  have g320 := P.g320
  have key : ∀ fu i M, 8 * k ≤ i → i ≤ 8 * (k + s) → 320 < i + fu → CT w G t M → KG (q + 1) gN gr fr od kt M → M.1 30 4 = nI k → M.1 30 5 = nI s → (∀ g, g < gN → M.1 33 g = bI (gnA G t gr kt k i g)) → ∃ M', L_X0_findGone_15 30 N w (q + 1) fu (nI i) M = some M' ∧ (∀ g, g < gN → M'.1 33 g = bI (gnA G t gr kt k (8 * (k + s)) g)) ∧ FX (fun b _ => b = 33) M M' := fun fu => by
    induction fu with
    | zero => intro i M h0 h1 h2; omega
    | succ fu ih =>
      intro i M h0 h1 h2 C K h4 h5 r
      rw [L_X0_findGone_15, h4, h5, nI_add, pk_mul]
      simp only [n_le (show 8 * (k + s) < 2 ^ 31 by omega) (show i < 2 ^ 31 by omega)]
      by_cases e : 8 * (k + s) ≤ i
      · rw [if_pos e]
        have : i = 8 * (k + s) := by omega
        subst this
        exact ⟨M, rfl, r, FX.refl⟩
      · have i320 : i < 320 := by omega
        rw [if_neg e, dv_n (by omega) (by decide) (by decide), Option.bind_some, rm_n (by omega) (by decide) (by decide), Option.bind_some, s_hasInst N hq h C (by omega), Option.bind_some]
        simp only [bI_0]
        cases tb : thB G t i
        · rw [if_pos rfl, Option.bind_some, nI_add]
          refine ih (i + 1) M (by omega) (by omega) (by omega) C K h4 h5 fun g hg => ?_
          rw [r g hg]
          refine congrArg bI (Bool.eq_iff_iff.2 ?_)
          rw [gnA_t, gnA_t]
          refine and_congr ⟨fun ⟨x, x1, x2⟩ => ⟨x, by omega, x2⟩, fun ⟨x, x1, x2, x3, x4⟩ => ⟨x, ?_, x2, x3, x4⟩⟩ Iff.rfl
          by_cases z : x = i
          · rw [z] at x3; exact absurd x3 (thB_f.1 tb)
          · omega
        · have ti := thB_t.1 tb
          have g0 := (P.1 i).1 ti
          have gl := P.2.1 i
          have st : stZ 320 33 (nI (gr i - 1)) (bI (kt (gr i - 1))) M = some (upI M 33 (gr i - 1) (bI (kt (gr i - 1)))) := by
            cases kt (gr i - 1)
            · exact stZ_0 (by omega) (by omega)
            · exact stZ_1 (by omega) (by omega)
          rw [if_neg (by decide), ldI_n i320 (by omega), K.2.1 i i320, Option.bind_some, nP_s (by omega), ldI_n (by omega) (by omega), K.2.2.2.2.2 _ (by omega), Option.bind_some, show (30 : Nat) + 3 = 33 from rfl, st, Option.bind_some, Option.bind_some, nI_add]
          have f1 : FX (fun b _ => b = 33) M (upI M 33 (gr i - 1) (bI (kt (gr i - 1)))) := FX.I rfl
          obtain ⟨M', b1, b2, b3⟩ := ih (i + 1) _ (by omega) (by omega) (by omega) (C.fx f1 fun x j x1 x2 z => by omega) (K.fx f1 fun b j z => by omega) (by rw [upI_n (by decide)]; exact h4) (by rw [upI_n (by decide)]; exact h5) fun g hg => by
            rw [upI_j]
            by_cases z : g = gr i - 1
            · rw [if_pos z]
              refine congrArg bI (Bool.eq_iff_iff.2 ?_)
              rw [gnA_t, z]
              exact ⟨fun y => ⟨⟨i, by omega, h0, ti, by omega⟩, y⟩, fun y => y.2⟩
            · rw [if_neg z, r g hg]
              refine congrArg bI (Bool.eq_iff_iff.2 ?_)
              rw [gnA_t, gnA_t]
              refine and_congr ⟨fun ⟨x, x1, x2⟩ => ⟨x, by omega, x2⟩, fun ⟨x, x1, x2, x3, x4⟩ => ⟨x, ?_, x2, x3, x4⟩⟩ Iff.rfl
              by_cases y : x = i
              · rw [y] at x4; omega
              · omega
          exact ⟨M', b1, b2, f1.trans b3⟩
  obtain ⟨M1, a1, a2, a3⟩ := s_clearFlags (a := 33) (n := 320) (M := M) N rfl (by omega) hN
  obtain ⟨M2, b1, b2, b3⟩ := key N (8 * k) M1 (Nat.le_refl _) (by omega) (by omega) (C.fx a3 fun x j x1 x2 z => by omega) (K.fx a3 fun b j z => by omega) (by rw [(a3.2 30 4 (fun z => absurd (show (30 : Nat) = 33 from z) (by decide))).1]; exact h4) (by rw [(a3.2 30 5 (fun z => absurd (show (30 : Nat) = 33 from z) (by decide))).1]; exact h5) fun g hg => by
    rw [a2 g (by omega)]
    have : gnA G t gr kt k (8 * k) g = false := by
      cases z : gnA G t gr kt k (8 * k) g
      · rfl
      · obtain ⟨⟨x, x1, x2, _⟩, _⟩ := gnA_t.1 z
        omega
    rw [this]; rfl
  refine ⟨M2, ?_, fun g _ hg => b2 g hg, a3.trans b3⟩
  unfold D_X0_findGone
  have e4 : M1.1 30 4 = nI k := by rw [(a3.2 30 4 (fun z => absurd (show (30 : Nat) = 33 from z) (by decide))).1]; exact h4
  rw [show (30 : Nat) + 3 = 33 from rfl, a1, Option.bind_some, e4, pk_mul, Option.bind_some]
  exact b1
variable {u : TR} {cu : Nat → Nat → Nat} {mu : Nat → Nat} {k s : Nat}
/-- what a graft marks -/
def mrkG (G : Gr) (t u : TR) (gr : Nat → Nat) (kt : Nat → Bool) (k s i : Nat) : Bool := (decide (i / 8 = k) && decide (G.i 4 (syT G t k) ≤ i % 8)) || (nwG k (tn u) (i / 8) || gnA G t gr kt k (8 * (k + s)) (gr (8 * sgG k s (tn u) (i / 8) + i % 8) - 1))
theorem gf_sy {e : Nat} (rs : G.i 7 (4 * tp u 0) = G.i 7 (4 * tp t k)) (m1' : 1 ≤ tn u) (hn : nwG k (tn u) e = false) : syT G (gfT t u k s) e = syT G t (sgG k s (tn u) e) := by
  unfold nwG at hn
  have hn := of_decide_eq_false hn
  unfold syT sgG
  by_cases c : e < k
  · rw [(gT_a c).1, if_pos (by omega)]
  · by_cases d : e = k
    · subst d
      rw [(gT_b (Nat.le_refl _) (by omega)).1, Nat.sub_self, if_pos (Nat.le_refl _)]; exact rs
    · rw [(gT_c (by omega)).1, if_neg (by omega)]
theorem gf_th {i : Nat} (hk : k + s ≤ tn t) (hs : 1 ≤ s) (rs : G.i 7 (4 * tp u 0) = G.i 7 (4 * tp t k)) (m1' : 1 ≤ tn u) (hi : thT G (gfT t u k s) i) (hn : nwG k (tn u) (i / 8) = false) : thT G t (8 * sgG k s (tn u) (i / 8) + i % 8) := by
  have e1 : i / 8 < tn t + tn u - s := hi.1
  have e2 := hi.2
  rw [gf_sy rs m1' hn] at e2
  have d8 : (8 * sgG k s (tn u) (i / 8) + i % 8) / 8 = sgG k s (tn u) (i / 8) := by omega
  have m8 : (8 * sgG k s (tn u) (i / 8) + i % 8) % 8 = i % 8 := by omega
  have hn := of_decide_eq_false hn
  refine ⟨?_, ?_⟩
  · rw [d8]
    unfold sgG
    split <;> omega
  · rw [d8, m8]; exact e2
/-- marks so far: what is new is not marked -/
def MXG (G : Gr) (t u : TR) (gr : Nat → Nat) (kt : Nat → Bool) (k s B : Nat) (M : Mm) : Prop := ∀ i, thT G (gfT t u k s) i → (nwG k (tn u) (i / 8) = true → M.1 31 i = nI 0) ∧ (nwG k (tn u) (i / 8) = false → i < B → M.1 31 i = bI (mrkG G t u gr kt k s i))
theorem s_markGraft {w w' q : Nat} {M : Mm} (N : Nat) (hN : 2000 < N) (hq : QG G) (h : TOK2 G t ce me) (ww : w = 69 ∧ w' = 87 ∨ w = 87 ∧ w' = 69) (hqq : q = 105 ∨ q = 121) (hk : k + s ≤ tn t) (hs : 1 ≤ s) (rs : G.i 7 (4 * tp u 0) = G.i 7 (4 * tp t k)) (m1' : 1 ≤ tn u) (h' : TOK2 G (gfT t u k s) (gfC k s (tn u) ce cu) (gfM k s (tn u) me mu)) (P : GRP G t ce gN gr fr od kt) (C : CT w G t M) (C' : CT w' G (gfT t u k s) M) (K : KG (q + 1) gN gr fr od kt M) (h4 : M.1 30 4 = nI k) (h5 : M.1 30 5 = nI s) (r34 : ∀ e, e < tn t + tn u - s → M.1 34 e = sgR k s (tn u) e) (z31 : ∀ j, j < 320 → M.1 31 j = nI 0) : ∃ M', D_X0_markGraft N 30 w w' (q + 1) M = some M' ∧ MKD G (gfT t u k s) (mrkG G t u gr kt k s) (fun i => nwG k (tn u) (i / 8)) M' ∧ FX (fun b _ => b = 31 ∨ b = 33) M M' := by
  have h40 := h.2.2.2.1
  have h40' : tn t + tn u - s ≤ 40 := h'.2.2.2.1
  have g320 := P.g320
  have en : tn (gfT t u k s) = tn t + tn u - s := rfl
  obtain ⟨M1, a1, a2, a3⟩ := s_findGone N hN hq h (show w = 69 ∨ w = 87 by omega) hqq hk P C K h4 h5
  have inn : ∀ (kE : Mm → Option Mm) e, e < tn t + tn u - s → ∀ fu a M, a ≤ 8 → 8 < a + fu → CT w' G (gfT t u k s) M → KG (q + 1) gN gr fr od kt M → M.1 30 4 = nI k → M.1 34 e = sgR k s (tn u) e → (∀ g, g < 320 → g < gN → M.1 33 g = bI (gnA G t gr kt k (8 * (k + s)) g)) → MXG G t u gr kt k s (8 * e + a) M → ∃ M', L_X0_markGraft_21 kE N w' (nI e) 30 (q + 1) fu (nI a) M = kE M' ∧ MXG G t u gr kt k s (8 * (e + 1)) M' ∧ FX (fun b _ => b = 31) M M' := fun kE e he fu => by
    induction fu with
    | zero => intro a M h1 h2; omega
    | succ fu ih =>
      intro a M h1 h2 C' K h4 r34 r33 r31
      rw [L_X0_markGraft_21]
      simp only [n_le (show 8 < 2 ^ 31 by decide) (show a < 2 ^ 31 by omega)]
      by_cases c : 8 ≤ a
      · rw [if_pos c]
        refine ⟨M, rfl, fun i hi => ⟨(r31 i hi).1, fun z hx => (r31 i hi).2 z (by omega)⟩, FX.refl⟩
      · have d8 : (8 * e + a) / 8 = e := by omega
        have m8 : (8 * e + a) % 8 = a := by omega
        have hI := s_hasInst (i := 8 * e + a) N hq h' C' (by rw [en]; omega)
        rw [d8, m8] at hI
        rw [if_neg c, hI, Option.bind_some]
        simp only [bI_0]
        cases tb : thB G (gfT t u k s) (8 * e + a)
        · rw [if_pos rfl, Option.bind_some, nI_add]
          exact ih (a + 1) M (by omega) (by omega) C' K h4 r34 r33 fun i hi => ⟨(r31 i hi).1, fun z hx => by
            by_cases y : i = 8 * e + a
            · rw [y] at hi; exact absurd hi (thB_f.1 tb)
            · exact (r31 i hi).2 z (by omega)⟩
        · have ti := thB_t.1 tb
          have isN : D_X0_isNew N 30 (nI e) M = some (bI (nwG k (tn u) e)) := by
            unfold D_X0_isNew
            rw [show (30 : Nat) + 4 = 34 from rfl, ldI_n (by omega) (by omega), r34, Option.bind_some]
            unfold sgR
            cases nw : nwG k (tn u) e
            · have nw' := of_decide_eq_false nw
              have e0 : (if false = true then m1 else nI (sgG k s (tn u) e)) = nI (sgG k s (tn u) e) := if_neg (by decide)
              rw [e0, if_neg (n_ne_m1 (by unfold sgG; split <;> omega)), okZ_0]; rfl
            · have e0 : (if true = true then m1 else nI (sgG k s (tn u) e)) = m1 := if_pos rfl
              rw [e0, if_pos rfl, okZ_1]; rfl
          rw [if_neg (by decide), isN, Option.bind_some]
          simp only [bI_0]
          cases nw : nwG k (tn u) e
          · rw [if_pos rfl]
            have go : ∃ M', ((stZ 320 31 (nI 8 * nI e + nI a) (bI (mrkG G t u gr kt k s (8 * e + a))) M).bind fun M4 => ((some (nI a + (nI 1))).bind fun l5_3 => (L_X0_markGraft_21 kE N w' (nI e) 30 (q + 1) fu l5_3 M4))) = kE M' ∧ MXG G t u gr kt k s (8 * (e + 1)) M' ∧ FX (fun b _ => b = 31) M M' := by
              have st : stZ 320 31 (nI (8 * e + a)) (bI (mrkG G t u gr kt k s (8 * e + a))) M = some (upI M 31 (8 * e + a) (bI (mrkG G t u gr kt k s (8 * e + a)))) := by
                cases mrkG G t u gr kt k s (8 * e + a)
                · exact stZ_0 (by omega) (by omega)
                · exact stZ_1 (by omega) (by omega)
              rw [pk_mul, nI_add, st, Option.bind_some, Option.bind_some, nI_add]
              have f1 : FX (fun b _ => b = 31) M (upI M 31 (8 * e + a) (bI (mrkG G t u gr kt k s (8 * e + a)))) := FX.I rfl
              obtain ⟨M', b1, b2, b3⟩ := ih (a + 1) _ (by omega) (by omega) (C'.fx f1 fun x j x1 x2 z => by omega) (K.fx f1 fun b j z => by omega) (by rw [upI_n (by decide)]; exact h4) (by rw [upI_n (by decide)]; exact r34) (fun g g1 g2 => by rw [upI_n (by decide)]; exact r33 g g1 g2) fun i hi => ⟨fun z => by
                rw [upI_j, if_neg (fun y => by rw [y, d8, nw] at z; exact absurd z (by decide))]; exact (r31 i hi).1 z, fun z hx => by
                rw [upI_j]
                by_cases y : i = 8 * e + a
                · rw [if_pos y, y]
                · rw [if_neg y]; exact (r31 i hi).2 z (by omega)⟩
              exact ⟨M', b1, b2, f1.trans b3⟩
            have em : mrkG G t u gr kt k s (8 * e + a) = ((decide (e = k) && decide (G.i 4 (syT G t k) ≤ a)) || gnA G t gr kt k (8 * (k + s)) (gr (8 * sgG k s (tn u) e + a) - 1)) := by
              unfold mrkG
              rw [d8, m8, nw, Bool.false_or]
            have ek : syT G (gfT t u k s) k = syT G t k := by
              have := gf_sy (s := s) (e := k) rs m1' (decide_eq_false (by omega))
              rw [this]
              unfold sgG
              rw [if_pos (Nat.le_refl _)]
            rw [show (30 : Nat) + 4 = 34 from rfl, show (30 : Nat) + 3 = 33 from rfl, show (30 : Nat) + 1 = 31 from rfl, h4]
            simp only [jn, n_eq (show e < 2 ^ 31 by omega) (show k < 2 ^ 31 by omega)]
            have p65 : (if e = k then ((ldI 40 (w' + 8) (nI e) M).bind fun v3 => (if nI a < v3 then (some (nI 0)) else (some (nI 1)))) else (some (nI 0))) = some (bI (decide (e = k) && decide (G.i 4 (syT G t k) ≤ a))) := by
              by_cases z : e = k
              · have c8 := (C'.2 e he).2.2.2.2.2.2.1
                have e8 : G.i 4 (G.i 7 (4 * tp (gfT t u k s) e)) = G.i 4 (syT G t k) := by rw [z]; exact congrArg (fun x => G.i 4 x) ek
                have i4 := (hq.at' (syT_lt hq h.1 (show k < tn t by omega))).1
                rw [if_pos z, ldI_n (by omega) (by omega), c8, e8, Option.bind_some, decide_eq_true z, Bool.true_and]
                simp only [n_lt (show a < 2 ^ 31 by omega) (show G.i 4 (syT G t k) < 2 ^ 31 by omega)]
                by_cases y : a < G.i 4 (syT G t k)
                · rw [if_pos y, decide_eq_false (by omega)]; rfl
                · rw [if_neg y, decide_eq_true (by omega)]; rfl
              · rw [if_neg z, decide_eq_false z]; rfl
            rw [p65, Option.bind_some]
            simp only [bI_0]
            cases o : (decide (e = k) && decide (G.i 4 (syT G t k) ≤ a))
            · rw [o, Bool.false_or] at em
              have nw' := of_decide_eq_false nw
              have sr : sgR k s (tn u) e = nI (sgG k s (tn u) e) := by unfold sgR; rw [nw, if_neg (by decide)]
              have th := gf_th hk hs rs m1' ti (by rw [d8]; exact nw)
              rw [d8, m8] at th
              obtain ⟨v8, v320⟩ := th_320 h th
              have g0 := (P.1 _).1 th
              have gl := P.2.1 (8 * sgG k s (tn u) e + a)
              have p : (if bI (mrkG G t u gr kt k s (8 * e + a)) = nI 0 then (some (nI 0)) else (some (nI 1)) : Option Int32) = some (bI (mrkG G t u gr kt k s (8 * e + a))) := ifb _
              rw [if_pos rfl, ldI_n (by omega) (by omega), r34, sr, Option.bind_some, pk_mul, nI_add, ldI_n v320 (by omega), K.2.1 _ v320, Option.bind_some, nP_s (by omega), ldI_n (by omega) (by omega), r33 _ (by omega) (by omega), Option.bind_some, ← em, p, Option.bind_some]
              exact go
            · rw [o, Bool.true_or] at em
              rw [if_neg (by decide), Option.bind_some]
              rw [em] at go
              exact go
          · rw [if_neg (by decide), Option.bind_some, nI_add]
            exact ih (a + 1) M (by omega) (by omega) C' K h4 r34 r33 fun i hi => ⟨(r31 i hi).1, fun z hx => by
              by_cases y : i = 8 * e + a
              · rw [y, d8, nw] at z; exact absurd z (by decide)
              · exact (r31 i hi).2 z (by omega)⟩
  have out : ∀ fu e M, e ≤ tn t + tn u - s → 40 < e + fu → CT w' G (gfT t u k s) M → KG (q + 1) gN gr fr od kt M → M.1 30 4 = nI k → (∀ e, e < tn t + tn u - s → M.1 34 e = sgR k s (tn u) e) → (∀ g, g < 320 → g < gN → M.1 33 g = bI (gnA G t gr kt k (8 * (k + s)) g)) → MXG G t u gr kt k s (8 * e) M → ∃ M', L_X0_markGraft_9 w' N 30 (q + 1) fu (nI e) M = some M' ∧ MKD G (gfT t u k s) (mrkG G t u gr kt k s) (fun i => nwG k (tn u) (i / 8)) M' ∧ FX (fun b _ => b = 31) M M' := fun fu => by
    induction fu with
    | zero => intro e M h1 h2; omega
    | succ fu ih =>
      intro e M h1 h2 C' K h4 r34 r33 r31
      rw [L_X0_markGraft_9, C'.1, en]
      simp only [n_le (show tn t + tn u - s < 2 ^ 31 by omega) (show e < 2 ^ 31 by omega)]
      by_cases c : tn t + tn u - s ≤ e
      · rw [if_pos c]
        refine ⟨M, rfl, fun i hi => ?_, FX.refl⟩
        have hn := hi.1
        rw [en] at hn
        show ∃ b, M.1 31 i = bI b ∧ (mrkG G t u gr kt k s i = true ↔ b = true ∨ nwG k (tn u) (i / 8) = true)
        cases z : nwG k (tn u) (i / 8)
        · exact ⟨_, (r31 i hi).2 z (by omega), Or.inl, fun y => y.elim id fun y => absurd y (by decide)⟩
        · refine ⟨false, (r31 i hi).1 z, fun _ => Or.inr rfl, fun _ => ?_⟩
          unfold mrkG
          rw [z, Bool.true_or, Bool.or_true]
      · rw [if_neg c]
        obtain ⟨M2, b1, b2, b3⟩ := inn (fun (M5 : Mm) => ((some (nI e + (nI 1))).bind fun l4_2 => (L_X0_markGraft_9 w' N 30 (q + 1) fu l4_2 M5))) e (by omega) N 0 M (by omega) (by omega) C' K h4 (r34 e (by omega)) r33 r31
        rw [b1, Option.bind_some, nI_add]
        obtain ⟨M3, d1, d2, d3⟩ := ih (e + 1) M2 (by omega) (by omega) (C'.fx b3 fun x j x1 x2 z => by omega) (K.fx b3 fun b j z => by omega) (by rw [(b3.2 30 4 (fun z => absurd (show (30 : Nat) = 31 from z) (by decide))).1]; exact h4) (fun x hx => by rw [(b3.2 34 x (fun z => absurd (show (34 : Nat) = 31 from z) (by decide))).1]; exact r34 x hx) (fun g g1 g2 => by rw [(b3.2 33 g (fun z => absurd (show (33 : Nat) = 31 from z) (by decide))).1]; exact r33 g g1 g2) b2
        exact ⟨M3, d1, d2, b3.trans d3⟩
  have n33 : ∀ b j, ¬ b = 33 → M1.1 b j = M.1 b j := fun b j hb => (a3.2 b j hb).1
  obtain ⟨M2, b1, b2, b3⟩ := out N 0 M1 (by omega) (by omega) (C'.fx a3 fun x j x1 x2 z => by omega) (K.fx a3 fun b j z => by omega) (by rw [n33 30 4 (by decide)]; exact h4) (fun e he => by rw [n33 34 e (by decide)]; exact r34 e he) a2 (fun i hi => ⟨fun _ => by rw [n33 31 i (by decide)]; exact z31 i (th_320 h' hi).2, fun _ hx => absurd hx (by omega)⟩)
  refine ⟨M2, ?_, b2, (a3.mono fun b j z => Or.inr z).trans (b3.mono fun b j z => Or.inl z)⟩
  unfold D_X0_markGraft
  rw [a1, Option.bind_some]
  exact b1
end tok
