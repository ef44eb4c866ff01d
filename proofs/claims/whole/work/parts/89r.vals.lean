-- what values must be
def tI (wk : (Nat → Int32) → Nat → Int32) (m : Nat → Bool) : Nat → (Nat → Int32) → Nat → Int32
  | 0, v => v
  | n + 1, v => if m n = true then upd (tI wk m n v) n (wk (tI wk m n v) n) else tI wk m n v
def tC (wk : (Nat → Int32) → Nat → Int32) (m : Nat → Bool) : Nat → (Nat → Int32) → Bool
  | 0, _ => false
  | n + 1, v => tC wk m n v || (m n && !decide (wk (tI wk m n v) n = tI wk m n v n))
/-- up to n turns: the values, whether the last changed any, how many -/
def kI (wk : (Nat → Int32) → Nat → Int32) (m : Nat → Bool) : Nat → (Nat → Int32) → (Nat → Int32) × Bool × Nat
  | 0, v => (v, true, 0)
  | n + 1, v => if (kI wk m n v).2.1 = true then (tI wk m 320 (kI wk m n v).1, tC wk m 320 (kI wk m n v).1, n + 1) else kI wk m n v
def zer (m : Nat → Bool) (v : Nat → Int32) : Nat → Int32 := fun x => if m x = true then nI 0 else v x
theorem kI_s (wk : (Nat → Int32) → Nat → Int32) (m : Nat → Bool) (n : Nat) (v : Nat → Int32) : kI wk m (n + 1) v = if (kI wk m n v).2.1 = true then (tI wk m 320 (kI wk m n v).1, tC wk m 320 (kI wk m n v).1, n + 1) else kI wk m n v := rfl
theorem tI_out {wk : (Nat → Int32) → Nat → Int32} {m : Nat → Bool} {v : Nat → Int32} {x : Nat} (hx : m x = false) : ∀ n, tI wk m n v x = v x
  | 0 => rfl
  | n + 1 => by
    show (if m n = true then upd (tI wk m n v) n (wk (tI wk m n v) n) else tI wk m n v) x = v x
    by_cases c : m n = true
    · rw [if_pos c, upd_a, if_neg (fun e => by rw [e] at hx; rw [hx] at c; exact absurd c (by decide))]; exact tI_out hx n
    · rw [if_neg c]; exact tI_out hx n
theorem kI_out {wk : (Nat → Int32) → Nat → Int32} {m : Nat → Bool} {v : Nat → Int32} {x : Nat} (hx : m x = false) : ∀ n, (kI wk m n v).1 x = v x
  | 0 => rfl
  | n + 1 => by
    rw [kI_s]; split
    · exact (tI_out hx 320).trans (kI_out hx n)
    · exact kI_out hx n
/-- agreement on what counts stays -/
theorem tI_cg {wk : (Nat → Int32) → Nat → Int32} {m : Nat → Bool} {A : Nat → Prop} (hm : ∀ x, m x = true → A x) (hw : ∀ u u' x, m x = true → (∀ y, A y → u y = u' y) → wk u x = wk u' x) {v v' : Nat → Int32} (e : ∀ y, A y → v y = v' y) : ∀ n, (∀ y, A y → tI wk m n v y = tI wk m n v' y) ∧ tC wk m n v = tC wk m n v'
  | 0 => ⟨e, rfl⟩
  | n + 1 => by
    obtain ⟨a, b⟩ := tI_cg hm hw e n
    refine ⟨fun y hy => ?_, ?_⟩
    · show (if m n = true then upd (tI wk m n v) n (wk (tI wk m n v) n) else tI wk m n v) y = (if m n = true then upd (tI wk m n v') n (wk (tI wk m n v') n) else tI wk m n v') y
      by_cases c : m n = true
      · rw [if_pos c, if_pos c, upd_a, upd_a, hw _ _ n c a]
        split
        · rfl
        · exact a y hy
      · rw [if_neg c, if_neg c]; exact a y hy
    · show (tC wk m n v || (m n && !decide (wk (tI wk m n v) n = tI wk m n v n))) = (tC wk m n v' || (m n && !decide (wk (tI wk m n v') n = tI wk m n v' n)))
      rw [b]
      cases c : m n
      · rfl
      · rw [hw _ _ n c a, a n (hm n c)]
theorem kI_cg {wk : (Nat → Int32) → Nat → Int32} {m : Nat → Bool} {A : Nat → Prop} (hm : ∀ x, m x = true → A x) (hw : ∀ u u' x, m x = true → (∀ y, A y → u y = u' y) → wk u x = wk u' x) {v v' : Nat → Int32} (e : ∀ y, A y → v y = v' y) : ∀ n, (∀ y, A y → (kI wk m n v).1 y = (kI wk m n v').1 y) ∧ (kI wk m n v).2 = (kI wk m n v').2
  | 0 => ⟨e, rfl⟩
  | n + 1 => by
    obtain ⟨a, b⟩ := kI_cg hm hw e n
    obtain ⟨c, d⟩ := tI_cg hm hw a 320
    rw [kI_s, kI_s, b]
    split
    · exact ⟨c, by show (tC wk m 320 (kI wk m n v).1, n + 1) = (tC wk m 320 (kI wk m n v').1, n + 1); rw [d]⟩
    · exact ⟨a, b⟩
theorem tI_skip {wk : (Nat → Int32) → Nat → Int32} {m : Nat → Bool} {v : Nat → Int32} {a : Nat} : ∀ (d : Nat), (∀ x, a ≤ x → x < a + d → m x = false) → tI wk m (a + d) v = tI wk m a v ∧ tC wk m (a + d) v = tC wk m a v
  | 0, _ => ⟨rfl, rfl⟩
  | d + 1, h => by
    obtain ⟨p, q⟩ := tI_skip d fun x x1 x2 => h x x1 (by omega)
    have e := h (a + d) (by omega) (by omega)
    refine ⟨?_, ?_⟩
    · show (if m (a + d) = true then _ else tI wk m (a + d) v) = _
      rw [e, if_neg (by decide)]; exact p
    · show (tC wk m (a + d) v || (m (a + d) && _)) = _
      rw [e, Bool.false_and, Bool.or_false]; exact q
section tok
variable {G : Gr} {t : TR} {ce : Nat → Nat → Nat} {me : Nat → Nat}
/-- the members of an instance's knot -/
def mmT (G : Gr) (t : TR) (ce : Nat → Nat → Nat) (i j : Nat) : Bool := knB G t ce j && decide (knF G t ce j = knF G t ce i)
def VALp (G : Gr) (t : TR) (ce : Nat → Nat → Nat) (gv val : Nat → Int32) (trn : Nat → Nat) (uns : Nat → Bool) : Prop :=
  ∀ i, thT G t i → (knB G t ce i = false → val i = wkT G t ce gv val i) ∧ (knB G t ce i = true → val i = (kI (wkT G t ce gv) (mmT G t ce i) 64 (zer (mmT G t ce i) val)).1 i ∧ trn i = (kI (wkT G t ce gv) (mmT G t ce i) 64 (zer (mmT G t ce i) val)).2.2 ∧ uns i = (kI (wkT G t ce gv) (mmT G t ce i) 64 (zer (mmT G t ce i) val)).2.1)
theorem knB_t (hq : QG G) (h : TOK2 G t ce me) {i : Nat} : knB G t ce i = true ↔ thT G t i ∧ rcB G t ce i i = true := by unfold knB; rw [Bool.and_eq_true, thB_t]
theorem rcB_of (hq : QG G) (h : TOK2 G t ce me) {i j : Nat} (hi : thT G t i) (r : RTc (NR G t ce) i j) : i = j ∨ rcB G t ce i j = true := (RTc_rc hq h (th_320 h hi).1).1 r
/-- in one knot: each reaches the other -/
theorem knF_eq (hq : QG G) (h : TOK2 G t ce me) {i j : Nat} (ki : knB G t ce i = true) : (knB G t ce j = true ∧ knF G t ce j = knF G t ce i) ↔ (rcB G t ce i j = true ∧ rcB G t ce j i = true) := by
  obtain ⟨ti, ri⟩ := (knB_t hq h).1 ki
  obtain ⟨i8, i3⟩ := th_320 h ti
  obtain ⟨_, fi⟩ := knF_le i3 ki
  simp only [Bool.and_eq_true] at fi
  obtain ⟨⟨f1, f2⟩, f3⟩ := fi
  have f8 := (th_320 h (thB_t.1 f1)).1
  constructor
  · rintro ⟨kj, e⟩
    obtain ⟨tj, rj⟩ := (knB_t hq h).1 kj
    obtain ⟨j8, j3⟩ := th_320 h tj
    obtain ⟨_, fj⟩ := knF_le j3 kj
    simp only [Bool.and_eq_true] at fj
    rw [e] at fj
    exact ⟨rc_trans hq h i8 f8 f2 fj.2, rc_trans hq h j8 f8 fj.1.2 f3⟩
  · rintro ⟨a, b⟩
    have tj := (rc_th hq h i8 a).2
    obtain ⟨j8, j3⟩ := th_320 h tj
    have rj := rc_trans hq h j8 i8 b a
    refine ⟨(knB_t hq h).2 ⟨tj, rj⟩, fb_congr fun x _ => ?_⟩
    cases tx : thB G t x
    · rfl
    · have x8 := (th_320 h (thB_t.1 tx)).1
      have e1 : rcB G t ce j x = rcB G t ce i x := Bool.eq_iff_iff.2 ⟨fun z => rc_trans hq h i8 j8 a z, fun z => rc_trans hq h j8 i8 b z⟩
      have e2 : rcB G t ce x j = rcB G t ce x i := Bool.eq_iff_iff.2 ⟨fun z => rc_trans hq h x8 j8 z b, fun z => rc_trans hq h x8 i8 z a⟩
      rw [e1, e2]
variable {gN : Nat} {gr fr od : Nat → Nat} {kt : Nat → Bool}
theorem GRP.le (g : GRP G t ce gN gr fr od kt) {i j : Nat} (r : RTc (NR G t ce) i j) : gr j ≤ gr i := by
  obtain ⟨n, r⟩ := r
  induction n generalizing i with
  | zero => have r : i = j := r; subst r; exact Nat.le_refl _
  | succ n ih =>
    obtain ⟨k, a, b⟩ := r
    exact Nat.le_trans (ih b) (g.2.2.1 i k a.1 a.2)
/-- one group: the same, or each reaches the other -/
theorem GRP.same (hq : QG G) (h : TOK2 G t ce me) (g : GRP G t ce gN gr fr od kt) {i j : Nat} (hi : thT G t i) (hj : thT G t j) : gr i = gr j ↔ i = j ∨ (rcB G t ce i j = true ∧ rcB G t ce j i = true) := by
  constructor
  · intro e
    have a := rcB_of hq h hi (g.2.2.2.1 i j ((g.1 i).1 hi) e)
    have b := rcB_of hq h hj (g.2.2.2.1 j i ((g.1 j).1 hj) e.symm)
    rcases a with a | a
    · exact Or.inl a
    · rcases b with b | b
      · exact Or.inl b.symm
      · exact Or.inr ⟨a, b⟩
  · rintro (e | ⟨a, b⟩)
    · rw [e]
    · have a' := g.le ((RTc_rc hq h (th_320 h hi).1).2 (Or.inr a))
      have b' := g.le ((RTc_rc hq h (th_320 h hj).1).2 (Or.inr b))
      omega
/-- what an instance alone hangs on comes ahead of it -/
theorem GRP.alone (hq : QG G) (h : TOK2 G t ce me) (g : GRP G t ce gN gr fr od kt) {i j : Nat} (hi : thT G t i) (hk : knB G t ce i = false) (hn : nrT G t ce i j) : gr j < gr i := by
  have le := g.2.2.1 i j hi hn
  by_cases e : gr j = gr i
  · exfalso
    have tj := nr_th hq h hi hn
    have r := g.2.2.2.1 j i ((g.1 j).1 tj) e
    have : rcB G t ce i i = true := (rc_t hq h (th_320 h hi).1).2 ⟨j, ⟨hi, hn⟩, r⟩
    rw [(knB_t hq h).2 ⟨hi, this⟩] at hk
    exact absurd hk (by decide)
  · omega
/-- the members of a knot are those of its group -/
theorem GRP.mm (hq : QG G) (h : TOK2 G t ce me) (g : GRP G t ce gN gr fr od kt) {i : Nat} (ki : knB G t ce i = true) (j : Nat) : mmT G t ce i j = decide (gr j = gr i) := by
  obtain ⟨ti, ri⟩ := (knB_t hq h).1 ki
  have i0 := (g.1 i).1 ti
  unfold mmT
  refine Bool.eq_iff_iff.2 ?_
  rw [Bool.and_eq_true, decide_eq_true_eq, decide_eq_true_eq, knF_eq hq h ki]
  constructor
  · rintro ⟨a, b⟩
    have tj := (rc_th hq h (th_320 h ti).1 a).2
    exact (g.same hq h tj ti).2 (Or.inr ⟨b, a⟩)
  · intro e
    have tj := (g.1 j).2 (by omega)
    rcases (g.same hq h tj ti).1 e with z | ⟨a, b⟩
    · rw [z]; exact ⟨ri, ri⟩
    · exact ⟨b, a⟩
/-- values of one kind alone -/
theorem VALp.uniq (hq : QG G) (h : TOK2 G t ce me) (g : GRP G t ce gN gr fr od kt) {gv val val' : Nat → Int32} {trn trn' : Nat → Nat} {uns uns' : Nat → Bool} (v : VALp G t ce gv val trn uns) (v' : VALp G t ce gv val' trn' uns') : ∀ n i, gr i ≤ n → thT G t i → val i = val' i ∧ (knB G t ce i = true → trn i = trn' i ∧ uns i = uns' i) := fun n => by
  induction n with
  | zero => intro i a b; exact absurd (by omega) ((g.1 i).1 b)
  | succ n ih =>
    intro i a hi
    by_cases small : gr i ≤ n
    · exact ih i small hi
    · cases k : knB G t ce i
      · refine ⟨?_, fun z => absurd z (by decide)⟩
        rw [(v i hi).1 k, (v' i hi).1 k]
        refine wk_cg hq h hi fun j hj => ?_
        have := g.alone hq h hi k hj
        exact (ih j (by omega) (nr_th hq h hi hj)).1
      · obtain ⟨a1, a2, a3⟩ := (v i hi).2 k
        obtain ⟨b1, b2, b3⟩ := (v' i hi).2 k
        have i0 := (g.1 i).1 hi
        have cg := kI_cg (wk := wkT G t ce gv) (m := mmT G t ce i) (A := fun y => thT G t y ∧ gr y ≤ gr i) (fun x hx => by
          rw [g.mm hq h k, decide_eq_true_eq] at hx
          exact ⟨(g.1 x).2 (by omega), by omega⟩) (fun u u' x hx e => by
          rw [g.mm hq h k, decide_eq_true_eq] at hx
          have tx := (g.1 x).2 (by omega)
          exact wk_cg hq h tx fun j hj => e j ⟨nr_th hq h tx hj, by have := g.2.2.1 x j tx hj; omega⟩) (v := zer (mmT G t ce i) val) (v' := zer (mmT G t ce i) val') (fun y hy => by
          unfold zer
          split
          · rfl
          · rename_i c
            rw [g.mm hq h k, decide_eq_true_eq] at c
            exact (ih y (by omega) hy.1).1) 64
        exact ⟨by rw [a1, b1]; exact cg.1 i ⟨hi, Nat.le_refl _⟩, fun _ => ⟨by rw [a2, b2, cg.2], by rw [a3, b3, cg.2]⟩⟩
theorem sf_nr (hq : QG G) (h : TOK2 G t ce me) {v : Nat} (hv : thT G t v) : sfT G t v = true ↔ nrT G t ce v v := by
  constructor
  · intro a
    obtain ⟨b1, b2, b3, b4, b5⟩ := ak_told hq h hv a
    exact ⟨_, b3, a, (oc_own hq h hv b1).2.2.2⟩
  · rintro ⟨o, o1, o2, o3⟩
    obtain ⟨b1, b2, b3, b4, b5⟩ := ak_told hq h hv o2
    obtain ⟨c1, c2, c3, c4⟩ := oc_own hq h hv b1
    have e := in_inj hq h.1 b2 (in_us hq h.1 b2 b4).1 c3 (o3.trans c4.symm)
    unfold sfT
    rw [← e]; exact o2
/-- a group is a knot exactly when its members are in one -/
theorem GRP.tie (hq : QG G) (h : TOK2 G t ce me) (g : GRP G t ce gN gr fr od kt) {i x : Nat} (hi : thT G t i) (hx : gr i = x + 1) : knB G t ce i = kt x := by
  obtain ⟨g1, g2, g3, g4, g5, g6, g7⟩ := g
  have g : GRP G t ce gN gr fr od kt := ⟨g1, g2, g3, g4, g5, g6, g7⟩
  have hxN : x < gN := by have := g2 i; omega
  obtain ⟨o1, o2, o3⟩ := g5.2 x hxN
  obtain ⟨mi, i1, i2, i3⟩ := o3 i hx
  rw [g6 x hxN]
  refine Bool.eq_iff_iff.2 ?_
  rw [knB_t hq h, Bool.or_eq_true, decide_eq_true_eq]
  have f0 := o2 (fr x) (Nat.le_refl _) o1
  have tf : thT G t (od (fr x)) := (g1 _).2 (by omega)
  constructor
  · rintro ⟨_, r⟩
    obtain ⟨k, k1, k2⟩ := (rc_t hq h (th_320 h hi).1).1 r
    have tk' := k1.th hq h
    have ek : gr k = gr i := by have := g3 i k hi k1.2; have := g.le k2; omega
    by_cases z : 1 < fr (x + 1) - fr x
    · exact Or.inl z
    · right
      obtain ⟨mk', j1, j2, j3⟩ := o3 k (by omega)
      have e1 : mi = fr x := by omega
      have e2 : mk' = fr x := by omega
      rw [e1] at i3
      rw [e2, i3] at j3
      rw [i3]
      exact (sf_nr hq h hi).2 (by have := k1.2; rw [← j3] at this; exact this)
  · rintro (z | z)
    · -- another member
      have ex : ∃ y, fr x ≤ y ∧ y < fr (x + 1) ∧ ¬ y = mi := by
        by_cases c : mi = fr x
        · exact ⟨fr x + 1, by omega, by omega, by omega⟩
        · exact ⟨fr x, Nat.le_refl _, o1, fun e => c e.symm⟩
      obtain ⟨y, y1, y2, y3⟩ := ex
      have yo := o2 y y1 y2
      have ty : thT G t (od y) := (g1 _).2 (by omega)
      have ne : ¬ i = od y := fun e => by
        have mono : ∀ d a, fr x ≤ a → a + d + 1 < fr (x + 1) → od a < od (a + d + 1) := fun d => by
          induction d with
          | zero => intro a p q; exact (o2 a p (by omega)).2.2 q
          | succ d ih => intro a p q; have := ih a p (by omega); have := (o2 (a + d + 1) (by omega) (by omega)).2.2 (by omega); rw [show a + (d + 1) + 1 = a + d + 1 + 1 by omega]; omega
        by_cases c : y < mi
        · have := mono (mi - y - 1) y y1 (by omega)
          rw [show y + (mi - y - 1) + 1 = mi by omega] at this; omega
        · have := mono (y - mi - 1) mi i1 (by omega)
          rw [show mi + (y - mi - 1) + 1 = y by omega] at this; omega
      rcases (g.same hq h hi ty).1 (by omega) with w | ⟨a, b⟩
      · exact absurd w ne
      · exact ⟨hi, rc_trans hq h (th_320 h hi).1 (th_320 h ty).1 a b⟩
    · have nr := (sf_nr hq h tf).1 z
      have rf' : rcB G t ce (od (fr x)) (od (fr x)) = true := (rc_t hq h (th_320 h tf).1).2 ⟨_, ⟨tf, nr⟩, RTc.refl⟩
      rcases (g.same hq h hi tf).1 (by omega) with w | ⟨a, b⟩
      · rw [w]; exact ⟨tf, rf'⟩
      · exact ⟨hi, rc_trans hq h (th_320 h hi).1 (th_320 h tf).1 a b⟩
end tok
