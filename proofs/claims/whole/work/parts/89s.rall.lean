-- the class works out all values
section tok
variable {G : Gr} {t : TR} {ce : Nat → Nat → Nat} {me : Nat → Nat}
variable {gN : Nat} {gr fr od : Nat → Nat} {kt : Nat → Bool}
def mG (gr : Nat → Nat) (g x : Nat) : Bool := decide (gr x = g + 1)
def psG (fr od : Nat → Nat) (g k : Nat) : Nat := if fr g + k < fr (g + 1) then od (fr g + k) else 320
theorem OI.inc (I : OI gN gr fr od) {g : Nat} (hg : g < gN) : ∀ d a, fr g ≤ a → a + d + 1 < fr (g + 1) → od a < od (a + d + 1)
  | 0, a, p, q => ((I.2 g hg).2.1 a p (by omega)).2.2 q
  | d + 1, a, p, q => by
    have := I.inc hg d a p (by omega)
    have := ((I.2 g hg).2.1 (a + d + 1) (by omega) (by omega)).2.2 (by omega)
    rw [show a + (d + 1) + 1 = a + d + 1 + 1 by omega]; omega
/-- between one member and the next there is none -/
theorem ps_gap (I : OI gN gr fr od) {g k x : Nat} (hg : g < gN) (h1 : k = 0 ∨ ∃ k', k = k' + 1 ∧ psG fr od g k' < x) (h2 : x < psG fr od g k) (hk : fr g + k ≤ fr (g + 1)) (h320 : ∀ v, gr v = g + 1 → v < 320) : mG gr g x = false := by
  refine decide_eq_false fun e => ?_
  obtain ⟨m, m1, m2, m3⟩ := (I.2 g hg).2.2 x e
  unfold psG at h2
  by_cases c : m < fr g + k
  · rcases h1 with z | ⟨k', z, z2⟩
    · omega
    · unfold psG at z2
      rw [if_pos (by omega)] at z2
      by_cases y : m = fr g + k'
      · rw [y] at m3; omega
      · have := I.inc hg (fr g + k' - m - 1) m m1 (by omega)
        rw [show m + (fr g + k' - m - 1) + 1 = fr g + k' by omega] at this; omega
  · rw [if_pos (by omega)] at h2
    by_cases y : m = fr g + k
    · rw [y] at m3; omega
    · have := I.inc hg (m - (fr g + k) - 1) (fr g + k) (by omega) (by omega)
      rw [show fr g + k + (m - (fr g + k) - 1) + 1 = m by omega] at this; omega
theorem ps_mono (I : OI gN gr fr od) {g k : Nat} (hg : g < gN) (hk : fr g + k < fr (g + 1)) : psG fr od g k < psG fr od g (k + 1) ∧ psG fr od g k < 320 ∧ mG gr g (psG fr od g k) = true := by
  have a := (I.2 g hg).2.1 (fr g + k) (by omega) hk
  unfold psG
  rw [if_pos hk]
  refine ⟨?_, a.1, decide_eq_true a.2.1⟩
  split
  · exact a.2.2 (by omega)
  · exact a.1
theorem kI_stop {wk : (Nat → Int32) → Nat → Int32} {m : Nat → Bool} {n : Nat} {v : Nat → Int32} (h : (kI wk m n v).2.1 = false) : ∀ d, kI wk m (n + d) v = kI wk m n v
  | 0 => rfl
  | d + 1 => by
    have e := kI_stop h d
    rw [show n + (d + 1) = n + d + 1 by omega, kI_s, e, h, if_neg (by decide)]
/-- the class's work over its memory -/
def WK (q w g : Nat) (G : Gr) (t : TR) (ce : Nat → Nat → Nat) (me : Nat → Nat) (gv : Nat → Int32) (gN : Nat) (gr fr od : Nat → Nat) (kt : Nat → Bool) (M : Mm) : Prop := WQ q w g M ∧ CG g G M ∧ CT w G t M ∧ CLk w G t ce me M ∧ (∀ a, a < 4 → M.1 (w + 12) a = gv a) ∧ KG (q + 1) gN gr fr od kt M
def PWk (q b _j : Nat) : Prop := q + 12 ≤ b ∧ b ≤ q + 15
theorem WK.fx {q w g : Nat} {gv : Nat → Int32} {M M' : Mm} (hg : g = 35 ∨ g = 52) (hw : w = 69 ∨ w = 87) (hq : q = 105 ∨ q = 121) (h : WK q w g G t ce me gv gN gr fr od kt M) (f : FX (PWk q) M M') : WK q w g G t ce me gv gN gr fr od kt M' := by
  obtain ⟨h1, h2, h3, h4, h5, h6, h7, h8⟩ := h
  exact ⟨⟨by rw [f.1]; exact h1.1, by rw [f.1]; exact h1.2⟩, h2.fx f fun k hk j z => by unfold PWk at z; omega, h3.fx f fun k j k1 _ z => by unfold PWk at z; omega, h4.fx f fun b j z y => by unfold PWk at y; omega, fun a ha => (f.2 _ _ (fun z => by unfold PWk at z; omega)).1.trans (h5 a ha), (f.2 _ _ (fun z => by unfold PWk at z; omega)).1.trans h6, fun v hv => (f.2 _ _ (fun z => by unfold PWk at z; omega)).1.trans (h7 v hv), h8.fx f (fun z => by unfold PWk at z; omega) (fun b j _ _ _ z => by unfold PWk at z; omega)⟩
theorem s_member {c g k : Nat} {M : Mm} (N : Nat) (K : KG c gN gr fr od kt M) (I : OI gN gr fr od) (h320 : fr gN ≤ 320) (hg : g < gN) (hk : fr g + k < fr (g + 1)) : D_X4_member N c (nI g) (nI k) M = some (nI (psG fr od g k)) := by
  have up := I.mono (gN - (g + 1)) (g + 1) (by omega)
  have gl := I.mono gN 0 (by omega)
  rw [show g + 1 + (gN - (g + 1)) = gN by omega] at up
  rw [Nat.zero_add] at gl
  unfold D_X4_member psG
  rw [ldI_n (by omega) (by omega), K.2.2.2.1 g (by omega), Option.bind_some, nI_add, ldI_n (by omega) (by omega), K.2.2.2.2.1 _ (by omega), if_pos hk]; rfl
theorem s_iterate {q w g x : Nat} {gv : Nat → Int32} {M : Mm} (N : Nat) (hN : 2000 < N) (hq : QG G) (h : TOK2 G t ce me) (hg : g = 35 ∨ g = 52) (hw : w = 69 ∨ w = 87) (hqq : q = 105 ∨ q = 121) (W : WK q w g G t ce me gv gN gr fr od kt M) (P : GRP G t ce gN gr fr od kt) (hx : x < gN) (hkt : kt x = true) :
    ∃ M', D_X10_reckonGroup N q (nI x) M = some M' ∧ M'.1 (q + 12) = (kI (wkT G t ce gv) (mG gr x) 64 (zer (mG gr x) (M.1 (q + 12)))).1 ∧ M'.1 (q + 13) x = nI (kI (wkT G t ce gv) (mG gr x) 64 (zer (mG gr x) (M.1 (q + 12)))).2.2 ∧ M'.1 (q + 14) x = bI (kI (wkT G t ce gv) (mG gr x) 64 (zer (mG gr x) (M.1 (q + 12)))).2.1 ∧ FX (fun b j => b = q + 12 ∨ b = q + 15 ∨ (b = q + 13 ∨ b = q + 14) ∧ j = x) M M' := by
  have P' := P
  obtain ⟨g1, g2, g3, g4, I, g6, g7⟩ := P
  have v320 : ∀ v, gr v = x + 1 → v < 320 := fun v e => (th_320 h ((g1 v).2 (by omega))).2
  have up := I.mono (gN - (x + 1)) (x + 1) (by omega)
  rw [show x + 1 + (gN - (x + 1)) = gN by omega] at up
  have gl := I.mono gN 0 (by omega)
  rw [Nat.zero_add] at gl
  have o1 := (I.2 x hx).1
  have nPW : ∀ {M M' : Mm}, FX (fun b j => b = q + 12 ∨ b = q + 15 ∨ (b = q + 13 ∨ b = q + 14) ∧ j = x) M M' → FX (PWk q) M M' := fun f => f.mono fun b j z => by unfold PWk; omega
  have sz : D_X4_size N (q + 1) (nI x) M = some (nI (fr (x + 1) - fr x)) := by
    have K := W.2.2.2.2.2
    unfold D_X4_size
    rw [nI_add, ldI_n (by omega) (by omega), K.2.2.2.1 (x + 1) (by omega), Option.bind_some, ldI_n (by omega) (by omega), K.2.2.2.1 x (by omega), Option.bind_some, n_sub (by omega)]
  -- zeroes
  have zeros : ∀ (kE : Mm → Option Mm) (fu k : Nat) (M1 : Mm), fr x + k ≤ fr (x + 1) → 321 < k + fu → WK q w g G t ce me gv gN gr fr od kt M1 → (∀ y, M1.1 (q + 12) y = if mG gr x y = true ∧ y < psG fr od x k then nI 0 else M.1 (q + 12) y) → ∃ M2, L_X10_reckonGroup_44 kE (nI (fr (x + 1) - fr x)) N q (nI x) fu (nI k) M1 = kE M2 ∧ M2.1 (q + 12) = zer (mG gr x) (M.1 (q + 12)) ∧ WK q w g G t ce me gv gN gr fr od kt M2 ∧ FX (fun b j => b = q + 12 ∨ b = q + 15 ∨ (b = q + 13 ∨ b = q + 14) ∧ j = x) M1 M2 := fun kE fu => by
    induction fu with
    | zero => intro k M1 a b; omega
    | succ fu ih =>
      intro k M1 a b W1 hv
      rw [L_X10_reckonGroup_44]
      simp only [n_le (show fr (x + 1) - fr x < 2 ^ 31 by omega) (show k < 2 ^ 31 by omega)]
      by_cases e : fr (x + 1) - fr x ≤ k
      · rw [if_pos e]
        refine ⟨M1, rfl, funext fun y => ?_, W1, FX.refl⟩
        rw [hv y]
        unfold zer psG
        rw [if_neg (show ¬ fr x + k < fr (x + 1) by omega)]
        by_cases c : mG gr x y = true
        · rw [if_pos ⟨c, v320 y (of_decide_eq_true c)⟩, if_pos c]
        · rw [if_neg (fun z => c z.1), if_neg c]
      · have lt : fr x + k < fr (x + 1) := by omega
        obtain ⟨p1, p2, p3⟩ := ps_mono I hx lt
        rw [if_neg e, s_member N W1.2.2.2.2.2 I g7 hx lt, Option.bind_some, stI_n p2 (by omega), Option.bind_some, Option.bind_some, nI_add]
        have f1 : FX (fun b j => b = q + 12 ∨ b = q + 15 ∨ (b = q + 13 ∨ b = q + 14) ∧ j = x) M1 (upI M1 (q + 12) (psG fr od x k) (nI 0)) := FX.I (Or.inl rfl)
        obtain ⟨M2, a1, a2, a3, a4⟩ := ih (k + 1) (upI M1 (q + 12) (psG fr od x k) (nI 0)) (by omega) (by omega) (W1.fx hg hw hqq (nPW f1)) (fun y => by
          rw [upI_j]
          by_cases c : y = psG fr od x k
          · rw [if_pos c, if_pos ⟨by rw [c]; exact p3, by omega⟩]
          · rw [if_neg c, hv y]
            by_cases d : mG gr x y = true ∧ y < psG fr od x k
            · rw [if_pos d, if_pos ⟨d.1, by omega⟩]
            · rw [if_neg d]
              by_cases d2 : mG gr x y = true ∧ y < psG fr od x (k + 1)
              · have := ps_gap I (k := k + 1) (x := y) hx (Or.inr ⟨k, rfl, by
                  by_cases u : y < psG fr od x k
                  · exact absurd ⟨d2.1, u⟩ d
                  · omega⟩) d2.2 (by omega) v320
                rw [this] at d2; exact absurd d2.1 (by decide)
              · rw [if_neg d2])
        exact ⟨M2, a1, a2, a3, f1.trans a4⟩
  -- one turn
  have turn : ∀ (kE : Int32 → Mm → Option Mm) (v : Nat → Int32) (fu k : Nat) (M1 : Mm), fr x + k ≤ fr (x + 1) → 321 < k + fu → WK q w g G t ce me gv gN gr fr od kt M1 → M1.1 (q + 12) = tI (wkT G t ce gv) (mG gr x) (psG fr od x k) v → ∃ M2, L_X10_reckonGroup_91 kE (nI (fr (x + 1) - fr x)) N q (nI x) fu (bI (tC (wkT G t ce gv) (mG gr x) (psG fr od x k) v)) (nI k) M1 = kE (bI (tC (wkT G t ce gv) (mG gr x) 320 v)) M2 ∧ M2.1 (q + 12) = tI (wkT G t ce gv) (mG gr x) 320 v ∧ WK q w g G t ce me gv gN gr fr od kt M2 ∧ FX (fun b j => b = q + 12 ∨ b = q + 15 ∨ (b = q + 13 ∨ b = q + 14) ∧ j = x) M1 M2 := fun kE v fu => by
    induction fu with
    | zero => intro k M1 a b; omega
    | succ fu ih =>
      intro k M1 a b W1 hv
      rw [L_X10_reckonGroup_91]
      simp only [n_le (show fr (x + 1) - fr x < 2 ^ 31 by omega) (show k < 2 ^ 31 by omega)]
      by_cases e : fr (x + 1) - fr x ≤ k
      · have ep : psG fr od x k = 320 := by unfold psG; rw [if_neg (by omega)]
        rw [if_pos e]
        rw [ep] at hv ⊢
        exact ⟨M1, rfl, hv, W1, FX.refl⟩
      · have lt : fr x + k < fr (x + 1) := by omega
        obtain ⟨p1, p2, p3⟩ := ps_mono I hx lt
        have th : thT G t (psG fr od x k) := (g1 _).2 (by have := of_decide_eq_true p3; omega)
        obtain ⟨W1a, W1b, W1c, W1d, W1e, W1f⟩ := W1
        have W1 : WK q w g G t ce me gv gN gr fr od kt M1 := ⟨W1a, W1b, W1c, W1d, W1e, W1f⟩
        obtain ⟨M2, r1, r2⟩ := s_reckon N hN hq h hg hw hqq th W1a W1b W1c W1d W1e
        have e12 : M2.1 (q + 12) = M1.1 (q + 12) := funext fun j => (r2.2 _ _ (fun z => by omega)).1
        rw [if_neg e, s_member N W1f I g7 hx lt, Option.bind_some, ldI_n p2 (by omega), Option.bind_some, r1, Option.bind_some, stI_n p2 (by omega), Option.bind_some, ldI_n p2 (by omega), upI_s, Option.bind_some]
        have fr2 : FX (fun b j => b = q + 12 ∨ b = q + 15 ∨ (b = q + 13 ∨ b = q + 14) ∧ j = x) M1 (upI M2 (q + 12) (psG fr od x k) (wkT G t ce gv (M1.1 (q + 12)) (psG fr od x k))) := (r2.mono fun b j z => Or.inr (Or.inl z)).trans (FX.I (Or.inl rfl))
        have gap : ∀ y, psG fr od x k + 1 ≤ y → y < psG fr od x k + 1 + (psG fr od x (k + 1) - (psG fr od x k + 1)) → mG gr x y = false := fun y y1 y2 => ps_gap I (k := k + 1) hx (Or.inr ⟨k, rfl, by omega⟩) (by omega) (by omega) v320
        obtain ⟨t1, t2⟩ := tI_skip (wk := wkT G t ce gv) (m := mG gr x) (v := v) (a := psG fr od x k + 1) _ gap
        rw [show psG fr od x k + 1 + (psG fr od x (k + 1) - (psG fr od x k + 1)) = psG fr od x (k + 1) by omega] at t1 t2
        have n12 : (upI M2 (q + 12) (psG fr od x k) (wkT G t ce gv (M1.1 (q + 12)) (psG fr od x k))).1 (q + 12) = tI (wkT G t ce gv) (mG gr x) (psG fr od x (k + 1)) v := by
          rw [t1]
          show _ = (if mG gr x (psG fr od x k) = true then upd (tI (wkT G t ce gv) (mG gr x) (psG fr od x k) v) (psG fr od x k) (wkT G t ce gv (tI (wkT G t ce gv) (mG gr x) (psG fr od x k) v) (psG fr od x k)) else _)
          rw [if_pos p3, ← hv]
          refine funext fun y => ?_
          rw [upI_j, upd_a, e12]
        have nC : tC (wkT G t ce gv) (mG gr x) (psG fr od x (k + 1)) v = (tC (wkT G t ce gv) (mG gr x) (psG fr od x k) v || !decide (wkT G t ce gv (M1.1 (q + 12)) (psG fr od x k) = M1.1 (q + 12) (psG fr od x k))) := by
          rw [t2]
          show (tC (wkT G t ce gv) (mG gr x) (psG fr od x k) v || (mG gr x (psG fr od x k) && !decide (wkT G t ce gv (tI (wkT G t ce gv) (mG gr x) (psG fr od x k) v) (psG fr od x k) = tI (wkT G t ce gv) (mG gr x) (psG fr od x k) v (psG fr od x k)))) = _
          rw [p3, Bool.true_and, ← hv]
        obtain ⟨M3, a1, a2, a3, a4⟩ := ih (k + 1) (upI M2 (q + 12) (psG fr od x k) (wkT G t ce gv (M1.1 (q + 12)) (psG fr od x k))) (by omega) (by omega) (W1.fx hg hw hqq (nPW fr2)) n12
        refine ⟨M3, ?_, a2, a3, fr2.trans a4⟩
        rw [← a1, nC]
        by_cases c : wkT G t ce gv (M1.1 (q + 12)) (psG fr od x k) = M1.1 (q + 12) (psG fr od x k)
        · rw [if_pos c, decide_eq_true c, Option.bind_some, Option.bind_some, nI_add, show nI 0 = bI false from rfl, bI_or, Bool.not_true]
        · rw [if_neg c, decide_eq_false c, Option.bind_some, Option.bind_some, nI_add, show nI 1 = bI true from rfl, bI_or, Bool.not_false]
  have start : ∀ v : Nat → Int32, tI (wkT G t ce gv) (mG gr x) (psG fr od x 0) v = v ∧ tC (wkT G t ce gv) (mG gr x) (psG fr od x 0) v = false := fun v => by
    have := tI_skip (wk := wkT G t ce gv) (m := mG gr x) (v := v) (a := 0) (psG fr od x 0) (fun y y1 y2 => ps_gap I (k := 0) hx (Or.inl rfl) (by omega) (by omega) v320)
    rw [Nat.zero_add] at this
    exact this
  -- the turns
  have turns : ∀ (fu n : Nat) (M1 : Mm), n ≤ 64 → 66 < n + fu → WK q w g G t ce me gv gN gr fr od kt M1 → M1.1 (q + 12) = (kI (wkT G t ce gv) (mG gr x) n (zer (mG gr x) (M.1 (q + 12)))).1 → (¬ n = 0 → M1.1 (q + 13) x = nI (kI (wkT G t ce gv) (mG gr x) n (zer (mG gr x) (M.1 (q + 12)))).2.2) → (∀ n', n' < n → (kI (wkT G t ce gv) (mG gr x) n' (zer (mG gr x) (M.1 (q + 12)))).2.1 = true) → ∃ M2, L_X10_reckonGroup_75 q (nI x) (nI (fr (x + 1) - fr x)) N fu (bI (kI (wkT G t ce gv) (mG gr x) n (zer (mG gr x) (M.1 (q + 12)))).2.1) (nI (n + 1)) M1 = some M2 ∧ M2.1 (q + 12) = (kI (wkT G t ce gv) (mG gr x) 64 (zer (mG gr x) (M.1 (q + 12)))).1 ∧ M2.1 (q + 13) x = nI (kI (wkT G t ce gv) (mG gr x) 64 (zer (mG gr x) (M.1 (q + 12)))).2.2 ∧ M2.1 (q + 14) x = bI (kI (wkT G t ce gv) (mG gr x) 64 (zer (mG gr x) (M.1 (q + 12)))).2.1 ∧ FX (fun b j => b = q + 12 ∨ b = q + 15 ∨ (b = q + 13 ∨ b = q + 14) ∧ j = x) M1 M2 := fun fu => by
    induction fu with
    | zero => intro n M1 a b; omega
    | succ fu ih =>
      intro n M1 a b W1 hv ht hr
      rw [L_X10_reckonGroup_75]
      simp only [n_lt (show 64 < 2 ^ 31 by omega) (show n + 1 < 2 ^ 31 by omega)]
      have fin : kI (wkT G t ce gv) (mG gr x) 64 (zer (mG gr x) (M.1 (q + 12))) = kI (wkT G t ce gv) (mG gr x) n (zer (mG gr x) (M.1 (q + 12))) → ¬ n = 0 → ∃ M2, ((stZ 320 (q + 14) (nI x) (bI (kI (wkT G t ce gv) (mG gr x) n (zer (mG gr x) (M.1 (q + 12)))).2.1) M1).bind fun M5 => some M5) = some M2 ∧ M2.1 (q + 12) = (kI (wkT G t ce gv) (mG gr x) 64 (zer (mG gr x) (M.1 (q + 12)))).1 ∧ M2.1 (q + 13) x = nI (kI (wkT G t ce gv) (mG gr x) 64 (zer (mG gr x) (M.1 (q + 12)))).2.2 ∧ M2.1 (q + 14) x = bI (kI (wkT G t ce gv) (mG gr x) 64 (zer (mG gr x) (M.1 (q + 12)))).2.1 ∧ FX (fun b j => b = q + 12 ∨ b = q + 15 ∨ (b = q + 13 ∨ b = q + 14) ∧ j = x) M1 M2 := fun e n0 => by
        rw [e, stZ_n (by omega) (by omega), Option.bind_some]
        exact ⟨_, rfl, by rw [upI_n (by omega)]; exact hv, by rw [upI_n (by omega)]; exact ht n0, upI_s _ _ _ _, FX.I (by omega)⟩
      by_cases e : 64 < n + 1
      · rw [if_pos e]
        have en : n = 64 := by omega
        subst en
        exact fin rfl (by omega)
      · rw [if_neg e]
        simp only [bI_0]
        cases c : (kI (wkT G t ce gv) (mG gr x) n (zer (mG gr x) (M.1 (q + 12)))).2.1
        · rw [if_pos rfl]
          have st := kI_stop c (64 - n)
          rw [show n + (64 - n) = 64 by omega] at st
          have n0 : ¬ n = 0 := fun z => by subst z; exact absurd (show true = false from c) (by decide)
          have ff := fin st n0
          rw [c] at ff
          exact ff
        · rw [if_neg (by decide)]
          obtain ⟨s1, s2⟩ := start (kI (wkT G t ce gv) (mG gr x) n (zer (mG gr x) (M.1 (q + 12)))).1
          obtain ⟨M2, a1, a2, a3, a4⟩ := turn (fun (l3_7 : Int32) (M9 : Mm) => ((stI 320 (q + 13) (nI x) (nI (n + 1)) M9).bind fun M10 => (some (nI (n + 1) + (nI 1))).bind fun l4_2 => (L_X10_reckonGroup_75 q (nI x) (nI (fr (x + 1) - fr x)) N fu l3_7 l4_2 M10))) (kI (wkT G t ce gv) (mG gr x) n (zer (mG gr x) (M.1 (q + 12)))).1 N 0 M1 (by omega) (by omega) W1 (by rw [s1]; exact hv)
          rw [s2] at a1
          have es : kI (wkT G t ce gv) (mG gr x) (n + 1) (zer (mG gr x) (M.1 (q + 12))) = (tI (wkT G t ce gv) (mG gr x) 320 (kI (wkT G t ce gv) (mG gr x) n (zer (mG gr x) (M.1 (q + 12)))).1, tC (wkT G t ce gv) (mG gr x) 320 (kI (wkT G t ce gv) (mG gr x) n (zer (mG gr x) (M.1 (q + 12)))).1, n + 1) := by rw [kI_s, c, if_pos rfl]
          have a1 : L_X10_reckonGroup_91 _ _ N q _ N (nI 0) (nI 0) M1 = _ := a1
          rw [a1, stI_n (by omega) (by omega), Option.bind_some, Option.bind_some, nI_add]
          have f2 : FX (fun b j => b = q + 12 ∨ b = q + 15 ∨ (b = q + 13 ∨ b = q + 14) ∧ j = x) M1 (upI M2 (q + 13) x (nI (n + 1))) := a4.trans (FX.I (by omega))
          obtain ⟨M3, b1, b2, b3, b4, b5⟩ := ih (n + 1) (upI M2 (q + 13) x (nI (n + 1))) (by omega) (by omega) (W1.fx hg hw hqq (nPW f2)) (by rw [es, upI_n (by omega)]; exact a2) (fun _ => by rw [es, upI_s]) (fun n' hn' => by
            by_cases z : n' = n
            · rw [z]; exact c
            · exact hr n' (by omega))
          rw [es] at b1
          refine ⟨M3, ?_, b2, b3, b4, f2.trans b5⟩
          have e2 : ∀ a b c, ((a, b, c) : (Nat → Int32) × Bool × Nat).2.1 = b := fun _ _ _ => rfl
          rw [e2] at b1
          exact b1
  unfold D_X10_reckonGroup
  rw [show q + 1 + 4 = (q + 1) + 4 from rfl, ldI_n (by omega) (by omega), W.2.2.2.2.2.2.2.2.2.2 x hx, hkt, Option.bind_some, if_neg (show ¬ bI true = nI 0 from z10), sz, Option.bind_some]
  obtain ⟨M1, z1, z2, z3, z4⟩ := zeros (fun (M3 : Mm) => (L_X10_reckonGroup_75 q (nI x) (nI (fr (x + 1) - fr x)) N N (nI 1) (nI 1) M3)) N 0 M (by omega) (by omega) W (fun y => by
    by_cases d : mG gr x y = true ∧ y < psG fr od x 0
    · have := ps_gap I (k := 0) (x := y) hx (Or.inl rfl) d.2 (by omega) v320
      rw [this] at d; exact absurd d.1 (by decide)
    · rw [if_neg d])
  rw [z1]
  obtain ⟨M2, b1, b2, b3, b4, b5⟩ := turns N 0 M1 (by omega) (by omega) z3 z2 (fun z => absurd rfl z) (fun n' hn' => absurd hn' (Nat.not_lt_zero _))
  exact ⟨M2, b1, b2, b3, b4, z4.trans b5⟩
end tok
