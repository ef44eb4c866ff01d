-- a tree of which a node and all below it is another one
def gfP (k s m e : Nat) : Nat := if e ≤ k then e else e + m - s
def gf3 {α : Type} (k m : Nat) (a b c : Nat → α) (e : Nat) : α := if e < k then a e else if e < k + m then b e else c e
theorem gf3_a {α : Type} {k m e : Nat} {a b c : Nat → α} (h : e < k) : gf3 k m a b c e = a e := if_pos h
theorem gf3_b {α : Type} {k m e : Nat} {a b c : Nat → α} (h : k ≤ e) (h' : e < k + m) : gf3 k m a b c e = b e := (if_neg (by omega)).trans (if_pos h')
theorem gf3_c {α : Type} {k m e : Nat} {a b c : Nat → α} (h : k + m ≤ e) : gf3 k m a b c e = c e := (if_neg (by omega)).trans (if_neg (by omega))
def gfT (t u : TR) (k s : Nat) : TR := (tn t + tn u - s,
  gf3 k (tn u) (tp t) (fun e => tp u (e - k)) (fun e => tp t (e + s - tn u)),
  gf3 k (tn u) (to' t) (fun e => to' u (e - k)) (fun e => to' t (e + s - tn u)),
  gf3 k (tn u) (tu t) (fun e => if e = k then tu t k else tu u (e - k) + k) (fun e => gfP k s (tn u) (tu t (e + s - tn u))),
  gf3 k (tn u) (tq t) (fun e => tq u (e - k)) (fun e => tq t (e + s - tn u)),
  gf3 k (tn u) (td t) (fun e => td u (e - k)) (fun e => td t (e + s - tn u)))
def gfC (k s m : Nat) (ce cu : Nat → Nat → Nat) : Nat → Nat → Nat := gf3 k m (fun x j => gfP k s m (ce x j)) (fun x j => k + cu (x - k) j) (fun x j => gfP k s m (ce (x + s - m) j))
def gfM (k s m : Nat) (me mu : Nat → Nat) : Nat → Nat := gf3 k m (fun x => gfP k s m (me x)) (fun x => k + mu (x - k)) (fun x => gfP k s m (me (x + s - m)))
/-- places that stay, in their order -/
theorem gfP_lt {k s m a b : Nat} (hm : 1 ≤ m) (hs : 1 ≤ s) (ha : a ≤ k ∨ k + s ≤ a) (hb : b ≤ k ∨ k + s ≤ b) (h : a < b) : gfP k s m a < gfP k s m b := by
  unfold gfP
  split <;> split <;> omega
theorem gfP_le {k s m a b : Nat} (hm : 1 ≤ m) (hs : 1 ≤ s) (ha : a ≤ k ∨ k + s ≤ a) (hb : b ≤ k ∨ k + s ≤ b) (h : a ≤ b) : gfP k s m a ≤ gfP k s m b := by
  unfold gfP
  split <;> split <;> omega
theorem gfP_0 {k s m a : Nat} (h : a ≤ k) : gfP k s m a = a := if_pos h
theorem gfP_1 {k s m a : Nat} (hs : 1 ≤ s) (h : k + s ≤ a) : gfP k s m a = a + m - s := if_neg (by omega)
theorem gT_tp (t u : TR) (k s e : Nat) : tp (gfT t u k s) e = gf3 k (tn u) (tp t) (fun e => tp u (e - k)) (fun e => tp t (e + s - tn u)) e := rfl
theorem gT_to (t u : TR) (k s e : Nat) : to' (gfT t u k s) e = gf3 k (tn u) (to' t) (fun e => to' u (e - k)) (fun e => to' t (e + s - tn u)) e := rfl
theorem gT_tu (t u : TR) (k s e : Nat) : tu (gfT t u k s) e = gf3 k (tn u) (tu t) (fun e => if e = k then tu t k else tu u (e - k) + k) (fun e => gfP k s (tn u) (tu t (e + s - tn u))) e := rfl
theorem gT_tq (t u : TR) (k s e : Nat) : tq (gfT t u k s) e = gf3 k (tn u) (tq t) (fun e => tq u (e - k)) (fun e => tq t (e + s - tn u)) e := rfl
theorem gT_td (t u : TR) (k s e : Nat) : td (gfT t u k s) e = gf3 k (tn u) (td t) (fun e => td u (e - k)) (fun e => td t (e + s - tn u)) e := rfl
theorem gT_a {t u : TR} {k s e : Nat} (h : e < k) : tp (gfT t u k s) e = tp t e ∧ to' (gfT t u k s) e = to' t e ∧ tu (gfT t u k s) e = tu t e ∧ tq (gfT t u k s) e = tq t e ∧ td (gfT t u k s) e = td t e := by
  rw [gT_tp, gT_to, gT_tu, gT_tq, gT_td, gf3_a h, gf3_a h, gf3_a h, gf3_a h, gf3_a h]; exact ⟨rfl, rfl, rfl, rfl, rfl⟩
theorem gT_b {t u : TR} {k s e : Nat} (h : k ≤ e) (h' : e < k + tn u) : tp (gfT t u k s) e = tp u (e - k) ∧ to' (gfT t u k s) e = to' u (e - k) ∧ tu (gfT t u k s) e = (if e = k then tu t k else tu u (e - k) + k) ∧ tq (gfT t u k s) e = tq u (e - k) ∧ td (gfT t u k s) e = td u (e - k) := by
  rw [gT_tp, gT_to, gT_tu, gT_tq, gT_td, gf3_b h h', gf3_b h h', gf3_b h h', gf3_b h h', gf3_b h h']; exact ⟨rfl, rfl, rfl, rfl, rfl⟩
theorem gT_c {t u : TR} {k s e : Nat} (h : k + tn u ≤ e) : tp (gfT t u k s) e = tp t (e + s - tn u) ∧ to' (gfT t u k s) e = to' t (e + s - tn u) ∧ tu (gfT t u k s) e = gfP k s (tn u) (tu t (e + s - tn u)) ∧ tq (gfT t u k s) e = tq t (e + s - tn u) ∧ td (gfT t u k s) e = td t (e + s - tn u) := by
  rw [gT_tp, gT_to, gT_tu, gT_tq, gT_td, gf3_c h, gf3_c h, gf3_c h, gf3_c h, gf3_c h]; exact ⟨rfl, rfl, rfl, rfl, rfl⟩
section tok
variable {G : Gr} {t u : TR} {ce cu : Nat → Nat → Nat} {me mu : Nat → Nat} {k s : Nat}
/-- a node's end, or a child, is not within another one that it isn't below -/
theorem TOK.off (h : TOK G t ce me) (hq : QG G) (hk : k < tn t) (hs : me k = k + s) {x j : Nat} (hx : x < k) (j1 : 1 ≤ j) (j2 : j ≤ G.i 6 (tp t x)) : ce x j ≤ k ∨ k + s ≤ ce x j := by
  obtain ⟨a1, a2, a3, a4, a5⟩ := h.2.1 x (by omega)
  by_cases c : k < ce x j ∧ ce x j < k + s
  · exfalso
    by_cases e : j = G.i 6 (tp t x)
    · subst e
      rw [a3] at c
      have := h.nest hq _ x k (Nat.le_refl _) (by omega) (by omega) c.1
      omega
    · have b := (a5 j j1 (by omega)).2.1
      have := h.in' hq hk c.1 (by omega)
      omega
  · omega
theorem TOK.offm (h : TOK G t ce me) (hq : QG G) (hk : k < tn t) (hs : me k = k + s) {x : Nat} (hx : x < k) : me x ≤ k ∨ k + s ≤ me x := by
  obtain ⟨a1, a2, a3, a4, a5⟩ := h.2.1 x (by omega)
  have sd := hq.sd a1
  rw [← a3]
  exact h.off hq hk hs hx sd.1 (Nat.le_refl _)
theorem TOK.offb (h : TOK G t ce me) (hq : QG G) {x j : Nat} (hx : x < tn t) (j1 : 1 ≤ j) (j2 : j ≤ G.i 6 (tp t x)) : x + 1 ≤ ce x j := by
  obtain ⟨a1, a2, a3, a4, a5⟩ := h.2.1 x hx
  have := chn_le (fun k a b => (a5 k a b).1) (Nat.le_refl _) j1 j2
  omega
/-- parents of nodes behind are ahead of it, or behind it -/
theorem TOK.par2 (h : TOK G t ce me) (hq : QG G) (hk : k < tn t) (hs : me k = k + s) {e : Nat} (h1 : k + s ≤ e) (h2 : e < tn t) : tu t e ≤ k ∨ k + s + 1 ≤ tu t e := by
  have l := h.lt hq hk
  obtain ⟨b1, b2, b3, b4, b5⟩ := h.2.2 e (by omega) h2
  by_cases c : k + 1 ≤ tu t e ∧ tu t e ≤ k + s
  · exfalso
    have kd := h.kid (x := tu t e - 1) (by omega) b3 b4
    rw [← b5] at kd
    have := h.nest hq _ k (tu t e - 1) (Nat.le_refl _) hk (by omega) (by omega)
    omega
  · omega
theorem gf_tok (hq : QG G) (h : TOK G t ce me) (hu : TOK G u cu mu) (hk : k < tn t) (hs : me k = k + s) (rq : tq u 0 = tq t k) (rs : G.i 7 (4 * tp u 0) = G.i 7 (4 * tp t k)) (rd : td u 0 = td t k) : TOK G (gfT t u k s) (gfC k s (tn u) ce cu) (gfM k s (tn u) me mu) := by
  have m1' := hu.1.1
  have l := h.lt hq hk
  have s1 : 1 ≤ s := by omega
  have n4 := (h.2.1 k hk).2.2.2.1
  have en : tn (gfT t u k s) = tn t + tn u - s := rfl
  have off := fun {x j : Nat} hx j1 j2 => h.off (x := x) (j := j) hq hk hs hx j1 j2
  have mu0 := hu.1.2.2
  -- a node of the tree and a child place: what the child is now
  have kid : ∀ c x j, 1 ≤ j → c < tn t → (c ≤ k ∨ k + s ≤ c) → tq t c = j → td t c = td t x + 1 → (tu t c ≤ k ∨ k + s + 1 ≤ tu t c) → tu (gfT t u k s) (gfP k s (tn u) c) = gfP k s (tn u) (tu t c) ∧ tq (gfT t u k s) (gfP k s (tn u) c) = j ∧ G.i 7 (4 * tp (gfT t u k s) (gfP k s (tn u) c)) = G.i 7 (4 * tp t c) ∧ td (gfT t u k s) (gfP k s (tn u) c) = td t x + 1 ∧ (gfM k s (tn u) me mu) (gfP k s (tn u) c) = gfP k s (tn u) (me c) := fun c x j j1 hc ho eq ed hp => by
    by_cases c1 : c < k
    · obtain ⟨q1, _, q3, q4, q5⟩ := gT_a (t := t) (u := u) (s := s) c1
      have em : gfM k s (tn u) me mu c = gfP k s (tn u) (me c) := gf3_a c1
      rw [gfP_0 (show c ≤ k by omega), q1, q3, q4, q5, em]
      have tc : tu t c ≤ k := by
        by_cases z : c = 0
        · rw [z, h.1.2.1]; omega
        · have := (h.2.2 c (by omega) hc).2.1; omega
      exact ⟨(gfP_0 tc).symm, eq, rfl, ed, rfl⟩
    · by_cases c2 : c = k
      · subst c2
        obtain ⟨q1, _, q3, q4, q5⟩ := gT_b (t := t) (u := u) (s := s) (Nat.le_refl c) (by omega)
        have em : gfM c s (tn u) me mu c = c + mu (c - c) := gf3_b (Nat.le_refl _) (by omega)
        rw [gfP_0 (Nat.le_refl _), q1, q3, q4, q5, em, if_pos rfl, Nat.sub_self, mu0, hs]
        have tc : tu t c ≤ c := by
          by_cases z : c = 0
          · rw [z, h.1.2.1]; omega
          · exact (h.2.2 c (by omega) hc).2.1
        exact ⟨(gfP_0 tc).symm, rq.trans eq, rs, rd.trans ed, by rw [gfP_1 s1 (Nat.le_refl _)]; omega⟩
      · have c3 : k + s ≤ c := by omega
        have e1 : c + tn u - s + s - tn u = c := by omega
        obtain ⟨q1, _, q3, q4, q5⟩ := gT_c (t := t) (u := u) (k := k) (s := s) (e := c + tn u - s) (by omega)
        have em : gfM k s (tn u) me mu (c + tn u - s) = gfP k s (tn u) (me (c + tn u - s + s - tn u)) := gf3_c (by omega)
        rw [gfP_1 s1 c3, q1, q3, q4, q5, em, e1]
        exact ⟨rfl, eq, rfl, ed, rfl⟩
  refine ⟨⟨by omega, ?_, ?_⟩, fun x hx => ?_, fun e e1 e2 => ?_⟩
  · by_cases z : k = 0
    · subst z
      rw [(gT_b (Nat.le_refl _) (by omega)).2.2.1, if_pos rfl]; exact h.1.2.1
    · rw [(gT_a (by omega)).2.2.1]; exact h.1.2.1
  · by_cases z : k = 0
    · subst z
      have em : gfM 0 s (tn u) me mu 0 = 0 + mu (0 - 0) := gf3_b (Nat.le_refl _) (by omega)
      rw [em, Nat.sub_self, mu0]
      have := h.1.2.2
      omega
    · have em : gfM k s (tn u) me mu 0 = gfP k s (tn u) (me 0) := gf3_a (by omega)
      rw [em, h.1.2.2, gfP_1 s1 (by omega), en]
  · -- each node, its children and its end
    rw [en] at hx
    by_cases c1 : x < k
    · obtain ⟨a1, a2, a3, a4, a5⟩ := h.2.1 x (by omega)
      have sd := hq.sd a1
      have ep : tp (gfT t u k s) x = tp t x := (gT_a c1).1
      have ec : gfC k s (tn u) ce cu x = fun j => gfP k s (tn u) (ce x j) := gf3_a c1
      have em : gfM k s (tn u) me mu x = gfP k s (tn u) (me x) := gf3_a c1
      have ed : td (gfT t u k s) x = td t x := (gT_a c1).2.2.2.2
      rw [ep, ec, em, ed, en]
      refine ⟨a1, ?_, ?_, ?_, fun j j1 j2 => ?_⟩
      · show gfP k s (tn u) (ce x 1) = x + 1
        rw [a2, gfP_0 (by omega)]
      · show gfP k s (tn u) (ce x _) = _
        rw [a3]
      · have := gfP_le m1' s1 (h.offm hq hk hs c1) (Or.inr (show k + s ≤ tn t by omega)) a4
        rw [gfP_1 s1 (show k + s ≤ tn t by omega)] at this
        exact this
      · obtain ⟨b1, b2, b3, b4, b5, b6⟩ := a5 j j1 j2
        have kd := h.kid (show x < tn t by omega) j1 j2
        obtain ⟨d1, d2, d3, d4, d5⟩ := kid (ce x j) x j j1 kd.2.1 (off c1 j1 (by omega)) b3 b5 (Or.inl (by omega))
        refine ⟨gfP_lt m1' s1 (off c1 j1 (by omega)) (off c1 (by omega) (by omega)) b1, ?_, d2, d3.trans b4, d4, ?_⟩
        · rw [d1, b2, gfP_0 (by omega)]
        · rw [d5, b6]
    · by_cases c2 : x < k + tn u
      · obtain ⟨a1, a2, a3, a4, a5⟩ := hu.2.1 (x - k) (by omega)
        have sd := hq.sd a1
        have ep : tp (gfT t u k s) x = tp u (x - k) := (gT_b (by omega) c2).1
        have ec : gfC k s (tn u) ce cu x = fun j => k + cu (x - k) j := gf3_b (by omega) c2
        have em : gfM k s (tn u) me mu x = k + mu (x - k) := gf3_b (by omega) c2
        have ed : td (gfT t u k s) x = td u (x - k) := (gT_b (by omega) c2).2.2.2.2
        rw [ep, ec, em, ed, en]
        refine ⟨a1, ?_, ?_, ?_, fun j j1 j2 => ?_⟩
        · show k + cu (x - k) 1 = x + 1
          rw [a2]; omega
        · show k + cu (x - k) _ = _
          rw [a3]
        · omega
        · obtain ⟨b1, b2, b3, b4, b5, b6⟩ := a5 j j1 j2
          have kd := hu.kid (show x - k < tn u by omega) j1 j2
          have es : k + cu (x - k) j - k = cu (x - k) j := by omega
          obtain ⟨f3, _, f1, f2, f4⟩ := gT_b (t := t) (u := u) (k := k) (s := s) (e := k + cu (x - k) j) (by omega) (by omega)
          rw [if_neg (by omega), es] at f1
          rw [es] at f2 f3 f4
          have f5 : gfM k s (tn u) me mu (k + cu (x - k) j) = k + mu (k + cu (x - k) j - k) := gf3_b (by omega) (by omega)
          rw [es] at f5
          show k + cu (x - k) j < k + cu (x - k) (j + 1) ∧ tu (gfT t u k s) (k + cu (x - k) j) = x + 1 ∧ tq (gfT t u k s) (k + cu (x - k) j) = j ∧ G.i 7 (4 * tp (gfT t u k s) (k + cu (x - k) j)) = G.i 7 (4 * tp u (x - k) + j) ∧ td (gfT t u k s) (k + cu (x - k) j) = td u (x - k) + 1 ∧ gfM k s (tn u) me mu (k + cu (x - k) j) = k + cu (x - k) (j + 1)
          rw [f1, f2, f3, f4, f5, b2, b6]
          exact ⟨by omega, by omega, b3, b4, b5, rfl⟩
      · have y1 : k + s ≤ x + s - tn u := by omega
        obtain ⟨a1, a2, a3, a4, a5⟩ := h.2.1 (x + s - tn u) (by omega)
        have sd := hq.sd a1
        have ep : tp (gfT t u k s) x = tp t (x + s - tn u) := (gT_c (by omega)).1
        have ec : gfC k s (tn u) ce cu x = fun j => gfP k s (tn u) (ce (x + s - tn u) j) := gf3_c (by omega)
        have em : gfM k s (tn u) me mu x = gfP k s (tn u) (me (x + s - tn u)) := gf3_c (by omega)
        have ed : td (gfT t u k s) x = td t (x + s - tn u) := (gT_c (by omega)).2.2.2.2
        have ob := fun {j : Nat} j1 j2 => h.offb (j := j) hq (show x + s - tn u < tn t by omega) j1 j2
        have lm := h.lt hq (show x + s - tn u < tn t by omega)
        rw [ep, ec, em, ed, en]
        refine ⟨a1, ?_, ?_, ?_, fun j j1 j2 => ?_⟩
        · show gfP k s (tn u) (ce (x + s - tn u) 1) = x + 1
          rw [a2, gfP_1 s1 (by omega)]; omega
        · show gfP k s (tn u) (ce (x + s - tn u) _) = _
          rw [a3]
        · rw [gfP_1 s1 (by omega)]; omega
        · obtain ⟨b1, b2, b3, b4, b5, b6⟩ := a5 j j1 j2
          have o1 := ob j1 (by omega)
          have o2 := ob (j := j + 1) (by omega) (by omega)
          have kd := h.kid (show x + s - tn u < tn t by omega) j1 j2
          obtain ⟨d1, d2, d3, d4, d5⟩ := kid (ce (x + s - tn u) j) (x + s - tn u) j j1 kd.2.1 (Or.inr (by omega)) b3 b5 (Or.inr (by omega))
          refine ⟨gfP_lt m1' s1 (Or.inr (by omega)) (Or.inr (by omega)) b1, ?_, d2, d3.trans b4, d4, ?_⟩
          · rw [d1, b2, gfP_1 s1 (by omega)]; omega
          · rw [d5, b6]
  · -- each node but the root is a child
    rw [en] at e2
    by_cases c1 : e < k
    · obtain ⟨b1, b2, b3, b4, b5⟩ := h.2.2 e e1 (by omega)
      have ep : tu (gfT t u k s) e = tu t e := (gT_a c1).2.2.1
      have eq : tq (gfT t u k s) e = tq t e := (gT_a c1).2.2.2.1
      have ex : tp (gfT t u k s) (tu t e - 1) = tp t (tu t e - 1) := (gT_a (by omega)).1
      have ec : gfC k s (tn u) ce cu (tu t e - 1) = fun j => gfP k s (tn u) (ce (tu t e - 1) j) := gf3_a (by omega)
      rw [ep, eq, ex, ec]
      refine ⟨b1, b2, b3, b4, ?_⟩
      show e = gfP k s (tn u) (ce (tu t e - 1) (tq t e))
      rw [← b5, gfP_0 (by omega)]
    · by_cases c2 : e = k
      · subst c2
        obtain ⟨b1, b2, b3, b4, b5⟩ := h.2.2 e e1 hk
        have ep : tu (gfT t u e s) e = tu t e := (gT_b (Nat.le_refl _) (by omega)).2.2.1.trans (if_pos rfl)
        have eq : tq (gfT t u e s) e = tq t e := (gT_b (Nat.le_refl _) (by omega)).2.2.2.1.trans (by rw [Nat.sub_self]; exact rq)
        have ex : tp (gfT t u e s) (tu t e - 1) = tp t (tu t e - 1) := (gT_a (by omega)).1
        have ec : gfC e s (tn u) ce cu (tu t e - 1) = fun j => gfP e s (tn u) (ce (tu t e - 1) j) := gf3_a (by omega)
        rw [ep, eq, ex, ec]
        refine ⟨b1, b2, b3, b4, ?_⟩
        show e = gfP e s (tn u) (ce (tu t e - 1) (tq t e))
        rw [← b5, gfP_0 (Nat.le_refl _)]
      · by_cases c3 : e < k + tn u
        · obtain ⟨b1, b2, b3, b4, b5⟩ := hu.2.2 (e - k) (by omega) (by omega)
          have ep : tu (gfT t u k s) e = tu u (e - k) + k := (gT_b (by omega) c3).2.2.1.trans (if_neg c2)
          have eq : tq (gfT t u k s) e = tq u (e - k) := (gT_b (by omega) c3).2.2.2.1
          have ei : tu u (e - k) + k - 1 - k = tu u (e - k) - 1 := by omega
          have ex : tp (gfT t u k s) (tu u (e - k) + k - 1) = tp u (tu u (e - k) - 1) := (gT_b (by omega) (by omega)).1.trans (by rw [ei])
          have ec : gfC k s (tn u) ce cu (tu u (e - k) + k - 1) = fun j => k + cu (tu u (e - k) - 1) j := (gf3_b (by omega) (by omega)).trans (by rw [ei])
          rw [ep, eq, ex, ec]
          refine ⟨by omega, by omega, b3, b4, ?_⟩
          show e = k + cu (tu u (e - k) - 1) (tq u (e - k))
          rw [← b5]; omega
        · have y1 : k + s ≤ e + s - tn u := by omega
          obtain ⟨b1, b2, b3, b4, b5⟩ := h.2.2 (e + s - tn u) (by omega) (by omega)
          have p2 := h.par2 hq hk hs y1 (by omega)
          have ep : tu (gfT t u k s) e = gfP k s (tn u) (tu t (e + s - tn u)) := (gT_c (by omega)).2.2.1
          have eq : tq (gfT t u k s) e = tq t (e + s - tn u) := (gT_c (by omega)).2.2.2.1
          rw [ep, eq]
          rcases p2 with p2 | p2
          · have ex : tp (gfT t u k s) (tu t (e + s - tn u) - 1) = tp t (tu t (e + s - tn u) - 1) := (gT_a (by omega)).1
            have ec : gfC k s (tn u) ce cu (tu t (e + s - tn u) - 1) = fun j => gfP k s (tn u) (ce (tu t (e + s - tn u) - 1) j) := gf3_a (by omega)
            rw [gfP_0 p2, ex, ec]
            refine ⟨b1, by omega, b3, b4, ?_⟩
            show e = gfP k s (tn u) (ce (tu t (e + s - tn u) - 1) (tq t (e + s - tn u)))
            rw [← b5, gfP_1 s1 y1]; omega
          · have ei : tu t (e + s - tn u) + tn u - s - 1 + s - tn u = tu t (e + s - tn u) - 1 := by omega
            have ex : tp (gfT t u k s) (tu t (e + s - tn u) + tn u - s - 1) = tp t (tu t (e + s - tn u) - 1) := (gT_c (by omega)).1.trans (by rw [ei])
            have ec : gfC k s (tn u) ce cu (tu t (e + s - tn u) + tn u - s - 1) = fun j => gfP k s (tn u) (ce (tu t (e + s - tn u) - 1) j) := (gf3_c (by omega)).trans (by rw [ei])
            rw [gfP_1 s1 (by omega), ex, ec]
            refine ⟨by omega, by omega, b3, b4, ?_⟩
            show e = gfP k s (tn u) (ce (tu t (e + s - tn u) - 1) (tq t (e + s - tn u)))
            rw [← b5, gfP_1 s1 y1]; omega
theorem gf_tok2 (hq : QG G) (h : TOK2 G t ce me) (hu : TOK G u cu mu) (hk : k < tn t) (hs : me k = k + s) (rq : tq u 0 = tq t k) (rs : G.i 7 (4 * tp u 0) = G.i 7 (4 * tp t k)) (rd : td u 0 = td t k) (h40 : tn t + tn u - s ≤ 40) (h12 : ∀ e, e < tn u → td u e ≤ 12) : TOK2 G (gfT t u k s) (gfC k s (tn u) ce cu) (gfM k s (tn u) me mu) := by
  have m1' := hu.1.1
  have l := h.1.lt hq hk
  have n4 := (h.1.2.1 k hk).2.2.2.1
  refine ⟨gf_tok hq h.1 hu hk hs rq rs rd, ?_, ?_, h40, fun e he => ?_⟩
  · by_cases z : k = 0
    · subst z
      rw [(gT_b (Nat.le_refl _) (by omega)).2.2.2.1]
      exact rq.trans h.2.1
    · rw [(gT_a (by omega)).2.2.2.1]; exact h.2.1
  · by_cases z : k = 0
    · subst z
      rw [(gT_b (Nat.le_refl _) (by omega)).2.2.2.2]
      exact rd.trans h.2.2.1
    · rw [(gT_a (by omega)).2.2.2.2]; exact h.2.2.1
  · have he : e < tn t + tn u - s := he
    by_cases c1 : e < k
    · rw [(gT_a c1).2.2.2.2]; exact h.2.2.2.2 e (by omega)
    · by_cases c2 : e < k + tn u
      · rw [(gT_b (by omega) c2).2.2.2.2]; exact h12 _ (by omega)
      · rw [(gT_c (by omega)).2.2.2.2]; exact h.2.2.2.2 _ (by omega)
end tok
