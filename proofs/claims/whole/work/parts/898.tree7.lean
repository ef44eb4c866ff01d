-- a tree's children and ends
def TOK (G : Gr) (t : TR) (ce : Nat → Nat → Nat) (me : Nat → Nat) : Prop :=
  (1 ≤ tn t ∧ tu t 0 = 0 ∧ me 0 = tn t) ∧
  (∀ x, x < tn t → tp t x < G.i 0 1 ∧ ce x 1 = x + 1 ∧ ce x (G.i 6 (tp t x)) = me x ∧ me x ≤ tn t ∧ ∀ k, 1 ≤ k → k < G.i 6 (tp t x) → ce x k < ce x (k + 1) ∧ tu t (ce x k) = x + 1 ∧ tq t (ce x k) = k ∧ G.i 7 (4 * tp t (ce x k)) = G.i 7 (4 * tp t x + k) ∧ td t (ce x k) = td t x + 1 ∧ me (ce x k) = ce x (k + 1)) ∧
  ∀ e, 1 ≤ e → e < tn t → 1 ≤ tu t e ∧ tu t e ≤ e ∧ 1 ≤ tq t e ∧ tq t e < G.i 6 (tp t (tu t e - 1)) ∧ e = ce (tu t e - 1) (tq t e)
/-- where in a chain a number lies -/
theorem chn_find {c : Nat → Nat} {n e : Nat} (h : ∀ k, 1 ≤ k → k < n → c k < c (k + 1)) (hn : 1 ≤ n) (h1 : c 1 ≤ e) (h2 : e < c n) : ∃ k, 1 ≤ k ∧ k < n ∧ c k ≤ e ∧ e < c (k + 1) := by
  have key : ∀ m, 1 ≤ m → m ≤ n → e < c m → ∃ k, 1 ≤ k ∧ k < m ∧ c k ≤ e ∧ e < c (k + 1) := fun m => by
    induction m with
    | zero => intro a; omega
    | succ m ih =>
      intro a b c'
      by_cases z : e < c m
      · by_cases y : 1 ≤ m
        · obtain ⟨k, k1, k2, k3⟩ := ih y (by omega) z
          exact ⟨k, k1, by omega, k3⟩
        · have : m = 0 := by omega
          subst this
          rw [Nat.zero_add] at c'; omega
      · by_cases y : 1 ≤ m
        · exact ⟨m, y, by omega, by omega, c'⟩
        · have : m = 0 := by omega
          subst this
          rw [Nat.zero_add] at c'; omega
  exact key n hn (Nat.le_refl _) h2
theorem chn_le {c : Nat → Nat} {n : Nat} (h : ∀ k, 1 ≤ k → k < n → c k < c (k + 1)) {i j : Nat} (hi : 1 ≤ i) (hij : i ≤ j) (hj : j ≤ n) : c i ≤ c j := by
  have := chn_lt h (j - i) i hi (by omega)
  rw [show i + (j - i) = j by omega] at this
  omega
theorem chn_lts {c : Nat → Nat} {n : Nat} (h : ∀ k, 1 ≤ k → k < n → c k < c (k + 1)) {i j : Nat} (hi : 1 ≤ i) (hij : i < j) (hj : j ≤ n) : c i < c j := by
  have := chn_lt h (j - i) i hi (by omega)
  rw [show i + (j - i) = j by omega] at this
  omega
theorem Pt.sub {G : Gr} {t : TR} (hq : QG G) : ∀ {fu x m : Nat}, Pt G t fu x m → ∀ e, x ≤ e → e < m → ∃ fu' m', Pt G t (fu' + 1) e m' ∧ m' ≤ m
  | 0, _, _, h, _, _, _ => absurd h id
  | fu + 1, x, m, h, e, h1, h2 => by
    by_cases z : e = x
    · subst z; exact ⟨fu, m, h, Nat.le_refl _⟩
    · obtain ⟨hp, c, c1, c2, c3⟩ := h
      have hsd := hq.sd hp
      obtain ⟨k, k1, k2, k3, k4⟩ := chn_find (fun k a b => (c3 k a b).1) hsd.1 (show c 1 ≤ e by omega) (by omega)
      obtain ⟨fu', m', p1, p2⟩ := Pt.sub hq (c3 k k1 k2).2.2.2.2.2 e k3 k4
      have := chn_le (fun k a b => (c3 k a b).1) (show 1 ≤ k + 1 by omega) (show k + 1 ≤ G.i 6 (tp t x) by omega) (Nat.le_refl _)
      exact ⟨fu', m', p1, by omega⟩
theorem Pt.uniq {G : Gr} {t : TR} (hq : QG G) : ∀ {fu fu' x m m' : Nat}, Pt G t fu x m → Pt G t fu' x m' → m = m'
  | 0, _, _, _, _, h, _ => absurd h id
  | fu + 1, 0, _, _, _, _, h => absurd h id
  | fu + 1, fu' + 1, x, m, m', h, h' => by
    obtain ⟨hp, c, c1, c2, c3⟩ := h
    obtain ⟨_, c', c1', c2', c3'⟩ := h'
    have hsd := hq.sd hp
    have key : ∀ k, 1 ≤ k → k ≤ G.i 6 (tp t x) → c k = c' k := fun k => by
      induction k with
      | zero => intro a; omega
      | succ k ih =>
        intro a b
        by_cases z : k = 0
        · subst z; rw [Nat.zero_add, c1, c1']
        · have e := ih (by omega) (by omega)
          have p := (c3 k (by omega) (by omega)).2.2.2.2.2
          have p' := (c3' k (by omega) (by omega)).2.2.2.2.2
          rw [← e] at p'
          exact Pt.uniq hq p p'
    rw [← c2, ← c2']
    exact key _ hsd.1 (Nat.le_refl _)
theorem Pt.tok {G : Gr} {t : TR} {fu : Nat} (hq : QG G) (h : Pt G t fu 0 (tn t)) (h0 : tu t 0 = 0) : ∃ ce me, TOK G t ce me := by
  have hn : 1 ≤ tn t := h.lt hq
  have ex : ∀ e, ∃ p : (Nat → Nat) × Nat, e < tn t → p.2 ≤ tn t ∧ tp t e < G.i 0 1 ∧ p.1 1 = e + 1 ∧ p.1 (G.i 6 (tp t e)) = p.2 ∧ (∃ fu, Pt G t fu e p.2) ∧ ∀ k, 1 ≤ k → k < G.i 6 (tp t e) → p.1 k < p.1 (k + 1) ∧ tu t (p.1 k) = e + 1 ∧ tq t (p.1 k) = k ∧ G.i 7 (4 * tp t (p.1 k)) = G.i 7 (4 * tp t e + k) ∧ td t (p.1 k) = td t e + 1 ∧ ∃ fu, Pt G t fu (p.1 k) (p.1 (k + 1)) := fun e => by
    by_cases z : e < tn t
    · obtain ⟨fu', m', p1, p2⟩ := h.sub hq e (Nat.zero_le _) z
      have p1' := p1
      obtain ⟨hp, c, c1, c2, c3⟩ := p1
      refine ⟨(c, m'), fun _ => ⟨p2, hp, c1, c2, ⟨fu' + 1, p1'⟩, fun k k1 k2 => ?_⟩⟩
      obtain ⟨d1, d2, d3, d4, d5, d6⟩ := c3 k k1 k2
      exact ⟨d1, d2, d3, d4, d5, fu', d6⟩
    · exact ⟨(fun _ => 0, 0), fun y => absurd y z⟩
  obtain ⟨f, hf⟩ := Classical.axiomOfChoice ex
  have up : ∀ x, x < tn t → ∀ k, 1 ≤ k → k < G.i 6 (tp t x) → (f x).1 k < tn t := fun x hx k k1 k2 => by
    obtain ⟨a1, a2, a3, a4, a5, a6⟩ := hf x hx
    have := chn_lts (fun k a b => (a6 k a b).1) k1 k2 (Nat.le_refl _)
    omega
  have fw : ∀ x, x < tn t → tp t x < G.i 0 1 ∧ (f x).1 1 = x + 1 ∧ (f x).1 (G.i 6 (tp t x)) = (f x).2 ∧ (f x).2 ≤ tn t ∧ ∀ k, 1 ≤ k → k < G.i 6 (tp t x) → (f x).1 k < (f x).1 (k + 1) ∧ tu t ((f x).1 k) = x + 1 ∧ tq t ((f x).1 k) = k ∧ G.i 7 (4 * tp t ((f x).1 k)) = G.i 7 (4 * tp t x + k) ∧ td t ((f x).1 k) = td t x + 1 ∧ (f ((f x).1 k)).2 = (f x).1 (k + 1) := fun x hx => by
    obtain ⟨a1, a2, a3, a4, a5, a6⟩ := hf x hx
    refine ⟨a2, a3, a4, a1, fun k k1 k2 => ?_⟩
    obtain ⟨d1, d2, d3, d4, d5, fu', d6⟩ := a6 k k1 k2
    obtain ⟨_, _, _, _, ⟨fu2, b5⟩, _⟩ := hf _ (up x hx k k1 k2)
    exact ⟨d1, d2, d3, d4, d5, Pt.uniq hq b5 d6⟩
  have find : ∀ d x e, e - x ≤ d → x < tn t → x < e → e < (f x).2 → ∃ y k, y < tn t ∧ 1 ≤ k ∧ k < G.i 6 (tp t y) ∧ e = (f y).1 k := fun d => by
    induction d with
    | zero => intro x e a b c; omega
    | succ d ih =>
      intro x e a b c c'
      obtain ⟨a1, a2, a3, a4, a5⟩ := fw x b
      obtain ⟨k, k1, k2, k3, k4⟩ := chn_find (fun k a b => (a5 k a b).1) (hq.sd a1).1 (show (f x).1 1 ≤ e by omega) (by omega)
      by_cases z : e = (f x).1 k
      · exact ⟨x, k, b, k1, k2, z⟩
      · have l1 : (f x).1 1 ≤ (f x).1 k := chn_le (fun k a b => (a5 k a b).1) (Nat.le_refl _) k1 (by omega)
        exact ih ((f x).1 k) e (by omega) (up x b k k1 k2) (by omega) (by rw [(a5 k k1 k2).2.2.2.2.2]; exact k4)
  have m0 : (f 0).2 = tn t := by
    obtain ⟨fu2, b5⟩ := (hf 0 (by omega)).2.2.2.2.1
    exact Pt.uniq hq b5 h
  refine ⟨fun x => (f x).1, fun x => (f x).2, ⟨hn, h0, m0⟩, fw, fun e e1 e2 => ?_⟩
  obtain ⟨y, k, y1, k1, k2, k3⟩ := find e 0 e (by omega) (by omega) (by omega) (by rw [m0]; exact e2)
  obtain ⟨a1, a2, a3, a4, a5⟩ := fw y y1
  obtain ⟨d1, d2, d3, d4, d5, d6⟩ := a5 k k1 k2
  rw [← k3] at d2 d3
  have l1 : (f y).1 1 ≤ (f y).1 k := chn_le (fun k a b => (a5 k a b).1) (Nat.le_refl _) k1 (by omega)
  rw [d2, d3, Nat.add_sub_cancel]
  exact ⟨by omega, by omega, k1, k2, k3⟩
section tok
variable {G : Gr} {t : TR} {ce : Nat → Nat → Nat} {me : Nat → Nat}
theorem TOK.kid (h : TOK G t ce me) {x k : Nat} (hx : x < tn t) (k1 : 1 ≤ k) (k2 : k < G.i 6 (tp t x)) : x < ce x k ∧ ce x k < tn t ∧ ce x k < me x := by
  obtain ⟨a1, a2, a3, a4, a5⟩ := h.2.1 x hx
  have l1 := chn_le (fun k a b => (a5 k a b).1) (Nat.le_refl _) k1 (show k ≤ G.i 6 (tp t x) by omega)
  have l2 := chn_lts (fun k a b => (a5 k a b).1) k1 k2 (Nat.le_refl _)
  omega
theorem TOK.lt (h : TOK G t ce me) (hq : QG G) {x : Nat} (hx : x < tn t) : x < me x := by
  obtain ⟨a1, a2, a3, a4, a5⟩ := h.2.1 x hx
  have l1 := chn_le (fun k a b => (a5 k a b).1) (Nat.le_refl _) (hq.sd a1).1 (Nat.le_refl _)
  omega
/-- ends lie within ends -/
theorem TOK.nest (h : TOK G t ce me) (hq : QG G) : ∀ d x y, y - x ≤ d → x < tn t → x ≤ y → y < me x → me y ≤ me x := fun d => by
  induction d with
  | zero => intro x y a b c c'; rw [show y = x by omega]; exact Nat.le_refl _
  | succ d ih =>
    intro x y a b c c'
    by_cases z : y = x
    · rw [z]; exact Nat.le_refl _
    · obtain ⟨a1, a2, a3, a4, a5⟩ := h.2.1 x b
      obtain ⟨k, k1, k2, k3, k4⟩ := chn_find (fun k a b => (a5 k a b).1) (hq.sd a1).1 (show ce x 1 ≤ y by omega) (by omega)
      have kd := h.kid b k1 k2
      have m := (a5 k k1 k2).2.2.2.2.2
      have := ih (ce x k) y (by omega) kd.2.1 k3 (by omega)
      have l2 := chn_le (fun k a b => (a5 k a b).1) (show 1 ≤ k + 1 by omega) (show k + 1 ≤ G.i 6 (tp t x) by omega) (Nat.le_refl _)
      omega
/-- below a node parents are not ahead of it; behind its end the next node's parent is -/
theorem TOK.in' (h : TOK G t ce me) (hq : QG G) {x e : Nat} (hx : x < tn t) (h1 : x < e) (h2 : e < me x) : x + 1 ≤ tu t e := by
  have a4 := (h.2.1 x hx).2.2.2.1
  obtain ⟨b1, b2, b3, b4, b5⟩ := h.2.2 e (by omega) (by omega)
  by_cases z : x + 1 ≤ tu t e
  · exact z
  · exfalso
    -- the parent y lies ahead of x, and x within it
    have hy : tu t e - 1 < tn t := by omega
    obtain ⟨c1, c2, c3, c4, c5⟩ := h.2.1 (tu t e - 1) hy
    have kd := h.kid hy b3 b4
    rw [← b5] at kd
    -- x is in a child of y ahead of e, so that child's end is behind e
    obtain ⟨k, k1, k2, k3, k4⟩ := chn_find (c := ce (tu t e - 1)) (e := x) (fun k a b => (c5 k a b).1) (hq.sd c1).1 (by omega) (by omega)
    have m := (c5 k k1 k2).2.2.2.2.2
    have kk := h.kid hy k1 k2
    have nn := h.nest hq _ (ce (tu t e - 1) k) x (Nat.le_refl _) kk.2.1 k3 (by omega)
    by_cases w : tq t e ≤ k
    · have := chn_le (fun k a b => (c5 k a b).1) b3 w (by omega); omega
    · have := chn_le (fun k a b => (c5 k a b).1) (show 1 ≤ k + 1 by omega) (show k + 1 ≤ tq t e by omega) (by omega); omega
theorem TOK.out (h : TOK G t ce me) (hq : QG G) {x : Nat} (hx : x < tn t) (h2 : me x < tn t) : tu t (me x) ≤ x := by
  have l := h.lt hq hx
  obtain ⟨b1, b2, b3, b4, b5⟩ := h.2.2 (me x) (by omega) h2
  by_cases z : tu t (me x) ≤ x
  · exact z
  · exfalso
    have hy : tu t (me x) - 1 < tn t := by omega
    have kd := h.kid hy b3 b4
    rw [← b5] at kd
    have nn := h.nest hq _ x (tu t (me x) - 1) (Nat.le_refl _) hx (by omega) (by omega)
    omega
theorem TOK.td (h : TOK G t ce me) {e : Nat} (h1 : 1 ≤ e) (h2 : e < tn t) : td t e = td t (tu t e - 1) + 1 := by
  obtain ⟨b1, b2, b3, b4, b5⟩ := h.2.2 e h1 h2
  have := ((h.2.1 (tu t e - 1) (by omega)).2.2.2.2 (tq t e) b3 b4).2.2.2.2.1
  rwa [← b5] at this
theorem TOK.sy (h : TOK G t ce me) {e : Nat} (h1 : 1 ≤ e) (h2 : e < tn t) : G.i 7 (4 * tp t e) = G.i 7 (4 * tp t (tu t e - 1) + tq t e) := by
  obtain ⟨b1, b2, b3, b4, b5⟩ := h.2.2 e h1 h2
  have := ((h.2.1 (tu t e - 1) (by omega)).2.2.2.2 (tq t e) b3 b4).2.2.2.1
  rwa [← b5] at this
/-- the children of a node are those whose parent it is -/
theorem TOK.chd (h : TOK G t ce me) {x e : Nat} (h1 : 1 ≤ e) (h2 : e < tn t) (hu : tu t e = x + 1) : e = ce x (tq t e) ∧ 1 ≤ tq t e ∧ tq t e < G.i 6 (tp t x) := by
  obtain ⟨b1, b2, b3, b4, b5⟩ := h.2.2 e h1 h2
  rw [hu, Nat.add_sub_cancel] at b4 b5
  exact ⟨b5, b3, b4⟩
end tok
