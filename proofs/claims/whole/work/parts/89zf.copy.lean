-- the class copies the nodes that stay
def CTp (w : Nat) (G : Gr) (T : TR) (c : Nat) (M : Mm) : Prop := M.1 w 0 = nI c ∧ ∀ e, e < c → CN w G e (tp T e) (to' T e) (nP (tu T e)) (tq T e) (td T e - 1) M
theorem nP_b {v : Nat} (h : 1 ≤ v) : nP v = nI (v - 1) := nP_s h
section tok
variable {G : Gr} {T : TR} {ce : Nat → Nat → Nat} {me : Nat → Nat}
theorem s_addT {w g c : Nat} {M : Mm} (N : Nat) (hq : QG G) (hg : g = 35 ∨ g = 52) (hw : w = 69 ∨ w = 87) (h : TOK2 G T ce me) (hc : c < tn T) (K : CG g G M) (P : CTp w G T c M) : ∃ M', D_X8_add N w g (nI (tp T c)) (nI (to' T c)) (nP (tu T c)) (nI (tq T c)) M = some M' ∧ CTp w G T (c + 1) M' ∧ Fr (SN w) M M' := by
  have h40 := h.2.2.2.1
  obtain ⟨M', a1, a2, a3, a4, a5, a6⟩ := s_addNode (o := to' T c) (q := tq T c) (u := nP (tu T c)) (d := td T c - 1) N hq hg hw (h.1.2.1 c hc).1 (show c < 40 by omega) K P.1 (by
    by_cases z : c = 0
    · subst z
      exact Or.inl ⟨by rw [h.1.1.2.1]; rfl, by rw [h.2.2.1]⟩
    · obtain ⟨b1, b2, b3, b4, b5⟩ := h.1.2.2 c (by omega) hc
      have t1 := h.1.td (show 1 ≤ c by omega) hc
      have d1 := tok_td1 h.1 h.2.2.1 _ (tu T c - 1) (Nat.le_refl _) (by omega)
      refine Or.inr ⟨tu T c - 1, by omega, nP_s b1, by omega, ?_⟩
      rw [(P.2 (tu T c - 1) (by omega)).2.2.2.2.1, t1]
      rfl)
  refine ⟨M', a1, ⟨a3, fun e he => ?_⟩, a2⟩
  by_cases z : e = c
  · rw [z]; exact a5
  · exact (P.2 e (by omega)).of fun k k1 k2 => a6 k e k1 k2 z
end tok
section tok
variable {G : Gr} {t : TR} {ce : Nat → Nat → Nat} {me : Nat → Nat}
theorem s_copyAhead {w w' g k : Nat} {M : Mm} (N : Nat) (hN : 2000 < N) (hq : QG G) (hg : g = 35 ∨ g = 52) (ww : w = 69 ∧ w' = 87 ∨ w = 87 ∧ w' = 69) (h : TOK2 G t ce me) (hk : k < tn t) (K : CG g G M) (C : CT w G t M) : ∃ M', D_X8_copyAhead N w' g w (nI k) M = some M' ∧ CTp w' G t k M' ∧ (∀ a, a < 4 → M'.1 (w' + 12) a = M.1 (w + 12) a) ∧ Fr (fun b => SN w' b ∨ b = w' + 12) M M' := by
  have h40 := h.2.2.2.1
  have key : ∀ fu i M, i ≤ k → 40 < i + fu → CG g G M → CT w G t M → CTp w' G t i M → ∃ M', L_X8_copyAhead_22 (nI k) w N w' g fu (nI i) M = some M' ∧ CTp w' G t k M' ∧ Fr (SN w') M M' := fun fu => by
    induction fu with
    | zero => intro i M h1 h2; omega
    | succ fu ih =>
      intro i M h1 h2 K C P
      rw [L_X8_copyAhead_22]
      simp only [n_le (show k < 2 ^ 31 by omega) (show i < 2 ^ 31 by omega)]
      by_cases e : k ≤ i
      · rw [if_pos e]
        have : i = k := by omega
        subst this
        exact ⟨M, rfl, P, Fr.refl⟩
      · obtain ⟨c1, c2, c3, c4, _⟩ := C.2 i (by omega)
        obtain ⟨M1, a1, a2, a3⟩ := s_addT N hq hg (show w' = 69 ∨ w' = 87 by omega) h (show i < tn t by omega) K P
        rw [if_neg e, ldI_n (by omega) (by omega), c1, Option.bind_some, ldI_n (by omega) (by omega), c2, Option.bind_some, ldI_n (by omega) (by omega), c3, Option.bind_some, ldI_n (by omega) (by omega), c4, Option.bind_some, a1, Option.bind_some, Option.bind_some, nI_add]
        obtain ⟨M2, b1, b2, b3⟩ := ih (i + 1) M1 (by omega) (by omega) (K.fr a3 fun x hx z => by unfold SN at z; omega) ⟨by rw [(a3 w (by unfold SN; omega)).1]; exact C.1, fun e he => (C.2 e he).of fun x x1 x2 => by rw [(a3 (w + x) (by unfold SN; omega)).1]⟩ a2
        exact ⟨M2, b1, b2, a3.trans b3⟩
  unfold D_X8_copyAhead
  rw [pI_n, Option.bind_some, show (cpI 4 (w + 12) (nI 0) 4 (w' + 12) (nI 0) (nI 4) (upI M w' 0 (nI 0))) = _ from cpI_n (by omega) (by omega) (by decide) (by decide), Option.bind_some]
  generalize hM2 : ((upR (upI M w' 0 (nI 0)).1 (w' + 12) _, (upI M w' 0 (nI 0)).2) : Mm) = M2
  have f2 : Fr (fun b => SN w' b ∨ b = w' + 12) M M2 := fun b hb => by
    rw [← hM2]
    refine ⟨?_, rfl, rfl⟩
    show upR _ _ _ b = _
    rw [show ∀ r, upR (upI M w' 0 (nI 0)).1 (w' + 12) r b = (upI M w' 0 (nI 0)).1 b from fun r => if_neg fun z => hb (Or.inr z)]
    exact upI_n fun z => hb (Or.inl (by unfold SN; omega))
  have v0 : M2.1 w' 0 = nI 0 := by
    rw [← hM2]
    show upR _ _ _ w' 0 = _
    rw [show ∀ r, upR (upI M w' 0 (nI 0)).1 (w' + 12) r w' = (upI M w' 0 (nI 0)).1 w' from fun r => if_neg (by omega)]
    exact upI_s _ _ _ _
  have v12 : ∀ a, a < 4 → M2.1 (w' + 12) a = M.1 (w + 12) a := fun a ha => by
    rw [← hM2]
    show upR _ _ _ (w' + 12) a = _
    rw [show ∀ r, upR (upI M w' 0 (nI 0)).1 (w' + 12) r (w' + 12) = r from fun r => if_pos rfl]
    refine (if_pos ⟨by omega, by omega⟩).trans ?_
    rw [upI_n (by omega), Nat.zero_add, Nat.sub_zero]
  obtain ⟨M3, a1, a2, a3⟩ := key N 0 M2 (by omega) (by omega) (K.fr f2 fun x hx z => by unfold SN at z; omega) ⟨by rw [(f2 w (by unfold SN; omega)).1]; exact C.1, fun e he => (C.2 e he).of fun x x1 x2 => by rw [(f2 (w + x) (by unfold SN; omega)).1]⟩ ⟨v0, fun e he => by omega⟩
  exact ⟨M3, a1, a2, fun a ha => by rw [(a3 (w' + 12) (by unfold SN; omega)).1]; exact v12 a ha, f2.trans (a3.mono fun b z => Or.inl z)⟩
variable {u : TR} {cu : Nat → Nat → Nat} {mu : Nat → Nat} {k s : Nat}
theorem s_copyBehind {w w' g : Nat} {M : Mm} (N : Nat) (hN : 2000 < N) (hq : QG G) (hg : g = 35 ∨ g = 52) (ww : w = 69 ∧ w' = 87 ∨ w = 87 ∧ w' = 69) (h : TOK2 G t ce me) (hk : k < tn t) (hs : me k = k + s) (h' : TOK2 G (gfT t u k s) (gfC k s (tn u) ce cu) (gfM k s (tn u) me mu)) (m1' : 1 ≤ tn u) (K : CG g G M) (C : CT w G t M) (L6 : M.1 (w + 6) k = nI s) (P : CTp w' G (gfT t u k s) (k + tn u) M) : ∃ M', D_X8_copyBehind N w' g w (nI k) (nI (tn u)) M = some M' ∧ CT w' G (gfT t u k s) M' ∧ Fr (SN w') M M' := by
  have h40 := h.2.2.2.1
  have h40' : tn t + tn u - s ≤ 40 := h'.2.2.2.1
  have l := h.1.lt hq hk
  have n4 := (h.1.2.1 k hk).2.2.2.1
  have key : ∀ fu i M, k + s ≤ i → i ≤ tn t → 40 < i + fu → CG g G M → CT w G t M → CTp w' G (gfT t u k s) (i + tn u - s) M → ∃ M', L_X8_copyBehind_14 w (nI k) (nI s) (nI (tn u)) N w' g fu (nI i) M = some M' ∧ CT w' G (gfT t u k s) M' ∧ Fr (SN w') M M' := fun fu => by
    induction fu with
    | zero => intro i M h0 h1 h2; omega
    | succ fu ih =>
      intro i M hi h1 h2 K C P
      rw [L_X8_copyBehind_14, C.1]
      simp only [n_le (show tn t < 2 ^ 31 by omega) (show i < 2 ^ 31 by omega)]
      by_cases e : tn t ≤ i
      · rw [if_pos e]
        have : i = tn t := by omega
        subst this
        exact ⟨M, rfl, P, Fr.refl⟩
      · obtain ⟨c1, c2, c3, c4, _⟩ := C.2 i (by omega)
        obtain ⟨b1, b2, _⟩ := h.1.2.2 i (by omega) (by omega)
        have p2 := h.1.par2 hq hk hs hi (by omega)
        have ec : i + tn u - s + s - tn u = i := by omega
        obtain ⟨q1, q2, q3, q4, q5⟩ := gT_c (t := t) (u := u) (k := k) (s := s) (e := i + tn u - s) (by omega)
        rw [ec] at q1 q2 q3 q4 q5
        have p67 : (if nI k ≤ nP (tu t i) then (some ((nP (tu t i) - nI s) + nI (tn u))) else (some (nP (tu t i))) : Option Int32) = some (nP (tu (gfT t u k s) (i + tn u - s))) := by
          rw [q3, nP_s b1]
          simp only [n_le (show k < 2 ^ 31 by omega) (show tu t i - 1 < 2 ^ 31 by omega)]
          rcases p2 with p2 | p2
          · rw [if_neg (by omega), gfP_0 p2, nP_s b1]
          · rw [if_pos (by omega), gfP_1 (by omega) (by omega), nP_s (by omega), n_sub (by omega), nI_add]
            congr 2
            omega
        obtain ⟨M1, a1, a2, a3⟩ := s_addT N hq hg (show w' = 69 ∨ w' = 87 by omega) h' (show i + tn u - s < tn (gfT t u k s) from by show i + tn u - s < tn t + tn u - s; omega) K P
        rw [q1, q2, q4] at a1
        rw [if_neg e, ldI_n (by omega) (by omega), c3, Option.bind_some, ldI_n (by omega) (by omega), c1, Option.bind_some, ldI_n (by omega) (by omega), c2, Option.bind_some, p67, Option.bind_some, ldI_n (by omega) (by omega), c4, Option.bind_some, a1, Option.bind_some, Option.bind_some, nI_add]
        obtain ⟨M2, d1, d2, d3⟩ := ih (i + 1) M1 (by omega) (by omega) (by omega) (K.fr a3 fun x hx z => by unfold SN at z; omega) ⟨by rw [(a3 w (by unfold SN; omega)).1]; exact C.1, fun e he => (C.2 e he).of fun x x1 x2 => by rw [(a3 (w + x) (by unfold SN; omega)).1]⟩ (by rw [show i + 1 + tn u - s = i + tn u - s + 1 by omega]; exact a2)
        exact ⟨M2, d1, d2, a3.trans d3⟩
  unfold D_X8_copyBehind
  rw [ldI_n (by omega) (by omega), L6, Option.bind_some, nI_add, Option.bind_some]
  exact key N (k + s) M (Nat.le_refl _) (by omega) (by omega) K C (by rw [show k + s + tn u - s = k + tn u by omega]; exact P)
/-- the nodes ahead, and those read, are the first of the new tree -/
theorem KZ.ctp {T : List Tok} {w g hh : Nat} {Z : Nat → Nat → Int32} {bh : Nat} {M0 M : Mm} (K : KZ Z T w g G k bh (nP (tu t k)) hh u M) (P : CTp w G t k M0) (hZ : ∀ x e, Z x e = M0.1 (w + x) e) (u0 : tu u 0 = 0) (hu1 : ∀ e, 1 ≤ e → e < tn u → 1 ≤ tu u e) (m1' : 1 ≤ tn u) : CTp w G (gfT t u k s) (k + tn u) M := by
  obtain ⟨_, _, _, k4, _, k6, k7⟩ := K
  refine ⟨k4, fun e he => ?_⟩
  by_cases c : e < k
  · obtain ⟨q1, q2, q3, q4, q5⟩ := gT_a (t := t) (u := u) (s := s) c
    rw [q1, q2, q3, q4, q5]
    exact (P.2 e c).of fun x x1 x2 => by rw [k7 x e x1 x2 c, hZ]
  · obtain ⟨q1, q2, q3, q4, q5⟩ := gT_b (t := t) (u := u) (s := s) (show k ≤ e by omega) he
    have r := (k6 (e - k) (by omega)).1
    rw [show k + (e - k) = e by omega] at r
    have eu : uC k (nP (tu t k)) (tu u (e - k)) = nP (if e = k then tu t k else tu u (e - k) + k) := by
      by_cases z : e = k
      · rw [if_pos z, z, Nat.sub_self, u0]; rfl
      · have := hu1 (e - k) (by omega) (by omega)
        rw [if_neg z, nP_s (u := tu u (e - k) + k) (by omega)]
        unfold uC
        rw [if_neg (by omega)]
        congr 1
        omega
    rw [q1, q2, q3, q4, q5, ← eu]
    exact r
end tok
