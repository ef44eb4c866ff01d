-- turns over members that stand for others
section map
variable {wk wk0 : (Nat → Int32) → Nat → Int32} {m m0 : Nat → Bool} {e : Nat → Nat} {A : Nat → Prop}
/-- the members of the one stand for those of the other, in their order -/
def MP (m m0 : Nat → Bool) (e : Nat → Nat) (A : Nat → Prop) : Prop := (∀ x, m x = true → m0 (e x) = true ∧ A x ∧ x < 320) ∧ (∀ y, m0 y = true → ∃ x, m x = true ∧ e x = y) ∧ (∀ x x', m x = true → m x' = true → x < x' → e x < e x') ∧ (∀ x, m0 x = true → x < 320) ∧ (∀ y x, A y → m x = true → e y = e x → y = x)
theorem MP.lt (h : MP m m0 e A) {x x' : Nat} (a : m x = true) (b : m x' = true) : e x < e x' ↔ x < x' := by
  refine ⟨fun q => ?_, h.2.2.1 x x' a b⟩
  by_cases c : x < x'
  · exact c
  · by_cases d : x = x'
    · rw [d] at q; omega
    · have := h.2.2.1 x' x b a (by omega); omega
theorem tI_map (h : MP m m0 e A) (hw : ∀ u u0 x, m x = true → (∀ y, A y → u y = u0 (e y)) → wk u x = wk0 u0 (e x)) {v v0 : Nat → Int32} (hv : ∀ y, A y → v y = v0 (e y)) : ∀ n n0, (∀ x, m x = true → (x < n ↔ e x < n0)) → (∀ y, A y → tI wk m n v y = tI wk0 m0 n0 v0 (e y)) ∧ tC wk m n v = tC wk0 m0 n0 v0
  | 0, n0, hn => by
    have z := tI_skip (wk := wk0) (m := m0) (v := v0) (a := 0) n0 fun y _ y2 => by
      cases c : m0 y
      · rfl
      · obtain ⟨x, x1, x2⟩ := h.2.1 y c
        have := (hn x x1).2 (by omega)
        omega
    rw [Nat.zero_add] at z
    rw [z.1, z.2]
    exact ⟨hv, rfl⟩
  | n + 1, n0, hn => by
    cases c : m n
    · obtain ⟨a, b⟩ := tI_map h hw hv n n0 fun x hx => by
        rw [← hn x hx]
        have : ¬ x = n := fun z => by rw [z, c] at hx; exact absurd hx (by decide)
        omega
      refine ⟨fun y hy => ?_, ?_⟩
      · show (if m n = true then _ else tI wk m n v) y = _
        rw [c, if_neg (by decide)]; exact a y hy
      · show (tC wk m n v || (m n && _)) = _
        rw [c, Bool.false_and, Bool.or_false]; exact b
    · have ln : e n < n0 := (hn n c).1 (by omega)
      obtain ⟨m1', An, _⟩ := h.1 n c
      obtain ⟨a, b⟩ := tI_map h hw hv n (e n) fun x hx => (h.lt hx c).symm
      have sk := tI_skip (wk := wk0) (m := m0) (v := v0) (a := e n + 1) (n0 - (e n + 1)) fun y y1 y2 => by
        cases d : m0 y
        · rfl
        · obtain ⟨x, x1, x2⟩ := h.2.1 y d
          have p1 := (h.lt c x1).1 (by omega)
          have p2 := (hn x x1).2 (by omega)
          omega
      rw [show e n + 1 + (n0 - (e n + 1)) = n0 by omega] at sk
      have ew := hw _ _ n c a
      refine ⟨fun y hy => ?_, ?_⟩
      · rw [sk.1]
        show (if m n = true then upd (tI wk m n v) n (wk (tI wk m n v) n) else tI wk m n v) y = (if m0 (e n) = true then upd (tI wk0 m0 (e n) v0) (e n) (wk0 (tI wk0 m0 (e n) v0) (e n)) else tI wk0 m0 (e n) v0) (e y)
        rw [c, if_pos rfl, m1', if_pos rfl, upd_a, upd_a]
        by_cases z : y = n
        · rw [if_pos z, if_pos (by rw [z])]; exact ew
        · rw [if_neg z, if_neg (fun q => z (h.2.2.2.2 y n hy c q))]; exact a y hy
      · rw [sk.2]
        show (tC wk m n v || (m n && !decide (wk (tI wk m n v) n = tI wk m n v n))) = (tC wk0 m0 (e n) v0 || (m0 (e n) && !decide (wk0 (tI wk0 m0 (e n) v0) (e n) = tI wk0 m0 (e n) v0 (e n))))
        rw [c, m1', b, ew, a n An]
theorem kI_map (h : MP m m0 e A) (hw : ∀ u u0 x, m x = true → (∀ y, A y → u y = u0 (e y)) → wk u x = wk0 u0 (e x)) {v v0 : Nat → Int32} (hv : ∀ y, A y → v y = v0 (e y)) : ∀ n, (∀ y, A y → (kI wk m n v).1 y = (kI wk0 m0 n v0).1 (e y)) ∧ (kI wk m n v).2 = (kI wk0 m0 n v0).2
  | 0 => ⟨hv, rfl⟩
  | n + 1 => by
    obtain ⟨a, b⟩ := kI_map h hw hv n
    obtain ⟨c, d⟩ := tI_map h hw a 320 320 fun x hx => by
      obtain ⟨p1, _, p2⟩ := h.1 x hx
      have := h.2.2.2.1 _ p1
      omega
    rw [kI_s, kI_s, b]
    split
    · refine ⟨c, ?_⟩
      show (tC wk m 320 (kI wk m n v).1, n + 1) = (tC wk0 m0 320 (kI wk0 m0 n v0).1, n + 1)
      rw [d]
    · exact ⟨a, b⟩
end map
-- what is not to be reckoned anew is as it was
section keep
variable {G : Gr} {t t0 : TR} {ce ce0 : Nat → Nat → Nat} {me me0 : Nat → Nat} {gv gv0 : Nat → Int32} {mk nw : Nat → Bool} {e : Nat → Nat}
/-- a tree that was changed: for which instances ahead of it those stand that are not new; what is not marked hangs as it did, is told as it was, and is within its knot still -/
def COR (G : Gr) (t t0 : TR) (ce ce0 : Nat → Nat → Nat) (gv gv0 : Nat → Int32) (mk nw : Nat → Bool) (e : Nat → Nat) : Prop :=
  (∀ i, thT G t i → nw i = false → thT G t0 (e i)) ∧ (∀ i j, thT G t i → thT G t j → nw i = false → nw j = false → i < j → e i < e j) ∧
  ∀ i, thT G t i → nw i = false → mk i = false → (∀ j, nrT G t ce i j → nw j = false → nrT G t0 ce0 (e i) (e j)) ∧
    (∀ u u0, (∀ j, nrT G t ce i j → nw j = false ∧ u j = u0 (e j)) → wkT G t ce gv u i = wkT G t0 ce0 gv0 u0 (e i)) ∧
    (∀ j0, rcB G t0 ce0 (e i) j0 = true → rcB G t0 ce0 j0 (e i) = true → ∃ j, nw j = false ∧ e j = j0 ∧ rcB G t ce i j = true ∧ rcB G t ce j i = true)
variable {gN : Nat} {gr fr od : Nat → Nat} {kt : Nat → Bool} {val val0 : Nat → Int32} {trn trn0 : Nat → Nat} {uns uns0 : Nat → Bool}
theorem COR.inj (C : COR G t t0 ce ce0 gv gv0 mk nw e) {i j : Nat} (hi : thT G t i) (hj : thT G t j) (ni : nw i = false) (nj : nw j = false) (h : e i = e j) : i = j := by
  by_cases a : i < j
  · have := C.2.1 i j hi hj ni nj a; omega
  · by_cases b : j < i
    · have := C.2.1 j i hj hi nj ni b; omega
    · omega
theorem mm_rc (hq : QG G) (h : TOK2 G t ce me) {i j : Nat} (ki : knB G t ce i = true) : mmT G t ce i j = true ↔ rcB G t ce i j = true ∧ rcB G t ce j i = true := by
  rw [← knF_eq hq h ki]
  unfold mmT
  rw [Bool.and_eq_true, decide_eq_true_eq]
theorem keep_group (hq : QG G) (h : TOK2 G t ce me) (h0 : TOK2 G t0 ce0 me0) (P : GRP G t ce gN gr fr od kt) (C : COR G t t0 ce ce0 gv gv0 mk nw e) (V : VALp G t ce gv val trn uns) (V0 : VALp G t0 ce0 gv0 val0 trn0 uns0) {x : Nat} (hX : ∀ i, gr i = x + 1 → mk i = false ∧ nw i = false ∧ ∀ j, nrT G t ce i j → nw j = false ∧ (¬ gr j = x + 1 → val j = val0 (e j))) {i : Nat} (gi : gr i = x + 1) : val i = val0 (e i) ∧ knB G t0 ce0 (e i) = knB G t ce i ∧ (knB G t ce i = true → trn i = trn0 (e i) ∧ uns i = uns0 (e i)) := by
  have th : ∀ {j}, gr j = x + 1 → thT G t j := fun {j} gj => (P.1 j).2 (by omega)
  have th0 : ∀ {j}, gr j = x + 1 → thT G t0 (e j) := fun {j} gj => C.1 j (th gj) (hX j gj).2.1
  have step : ∀ {a k}, gr a = x + 1 → NR G t ce a k → NR G t0 ce0 (e a) (e k) := fun {a k} ga n => ⟨th0 ga, (C.2.2 a (th ga) (hX a ga).2.1 (hX a ga).1).1 k n.2 ((hX a ga).2.2 k n.2).1⟩
  have mid : ∀ {a k b}, gr a = x + 1 → gr b = x + 1 → NR G t ce a k → RTc (NR G t ce) k b → gr k = x + 1 := fun {a k b} ga gb n r => by
    have l1 := P.2.2.1 a k n.1 n.2
    have l2 := P.le r
    omega
  have path : ∀ n a b, gr a = x + 1 → gr b = x + 1 → Rn (NR G t ce) n a b → RTc (NR G t0 ce0) (e a) (e b) := fun n => by
    induction n with
    | zero => intro a b _ _ r; have r : a = b := r; rw [r]; exact RTc.refl
    | succ n ih =>
      intro a b ga gb r
      obtain ⟨k, k1, k2⟩ := r
      exact (RTc.one (step ga k1)).trans (ih k b (mid ga gb k1 ⟨n, k2⟩) gb k2)
  have rc0 : ∀ {a b}, gr a = x + 1 → gr b = x + 1 → rcB G t ce a b = true → rcB G t0 ce0 (e a) (e b) = true := fun {a b} ga gb r => by
    obtain ⟨k, k1, n, k2⟩ := (rc_t hq h (th_320 h (th ga)).1).1 r
    exact (rc_t hq h0 (th_320 h0 (th0 ga)).1).2 ⟨e k, step ga k1, path n k b (mid ga gb k1 ⟨n, k2⟩) gb k2⟩
  have ti := th gi
  obtain ⟨mi, ni, hj⟩ := hX i gi
  obtain ⟨c1, c2, c3⟩ := C.2.2 i ti ni mi
  have kk : knB G t0 ce0 (e i) = knB G t ce i := by
    refine Bool.eq_iff_iff.2 ?_
    rw [knB_t hq h, knB_t hq h0]
    constructor
    · rintro ⟨_, r⟩
      obtain ⟨j, j1, j2, j3, j4⟩ := c3 (e i) r r
      exact ⟨ti, rc_trans hq h (th_320 h ti).1 (th_320 h (rc_th hq h (th_320 h ti).1 j3).2).1 j3 j4⟩
    · exact fun z => ⟨th0 gi, rc0 gi gi z.2⟩
  cases k : knB G t ce i
  · rw [k] at kk
    refine ⟨?_, kk, fun z => absurd z (by decide)⟩
    rw [(V i ti).1 k, (V0 (e i) (th0 gi)).1 kk]
    refine c2 _ _ fun j nj => ⟨(hj j nj).1, (hj j nj).2 ?_⟩
    have := P.alone hq h ti k nj
    omega
  · rw [k] at kk
    obtain ⟨v1, v2, v3⟩ := (V i ti).2 k
    obtain ⟨w1, w2, w3⟩ := (V0 (e i) (th0 gi)).2 kk
    have mm : ∀ j, mmT G t ce i j = true ↔ gr j = x + 1 := fun j => by rw [P.mm hq h k j, decide_eq_true_eq, gi]
    have Ath : ∀ y, (gr y = x + 1 ∨ ∃ k, gr k = x + 1 ∧ nrT G t ce k y) → thT G t y ∧ nw y = false := fun y hy => by
      rcases hy with z | ⟨k, k1, k2⟩
      · exact ⟨th z, (hX y z).2.1⟩
      · exact ⟨nr_th hq h (th k1) k2, ((hX k k1).2.2 y k2).1⟩
    have mp : MP (mmT G t ce i) (mmT G t0 ce0 (e i)) e (fun y => gr y = x + 1 ∨ ∃ k, gr k = x + 1 ∧ nrT G t ce k y) := by
      refine ⟨fun y hy => ?_, fun y hy => ?_, fun a b ha hb l => ?_, fun y hy => ?_, fun y z hy hz q => ?_⟩
      · have gy := (mm y).1 hy
        obtain ⟨r1, r2⟩ := (mm_rc hq h k).1 hy
        exact ⟨(mm_rc hq h0 kk).2 ⟨rc0 gi gy r1, rc0 gy gi r2⟩, Or.inl gy, (th_320 h (th gy)).2⟩
      · obtain ⟨r1, r2⟩ := (mm_rc hq h0 kk).1 hy
        obtain ⟨j, j1, j2, j3, j4⟩ := c3 y r1 r2
        exact ⟨j, (mm_rc hq h k).2 ⟨j3, j4⟩, j2⟩
      · have ga := (mm a).1 ha
        have gb := (mm b).1 hb
        exact C.2.1 a b (th ga) (th gb) (hX a ga).2.1 (hX b gb).2.1 l
      · obtain ⟨r1, r2⟩ := (mm_rc hq h0 kk).1 hy
        exact (th_320 h0 (rc_th hq h0 (th_320 h0 (th0 gi)).1 r1).2).2
      · obtain ⟨t1, t2⟩ := Ath y hy
        have gz := (mm z).1 hz
        exact C.inj t1 (th gz) t2 (hX z gz).2.1 q
    obtain ⟨u1, u2⟩ := kI_map (wk := wkT G t ce gv) (wk0 := wkT G t0 ce0 gv0) mp (fun u u0 y hy a => by
      have gy := (mm y).1 hy
      exact (C.2.2 y (th gy) (hX y gy).2.1 (hX y gy).1).2.1 u u0 fun j nj => ⟨((hX y gy).2.2 j nj).1, a j (Or.inr ⟨y, gy, nj⟩)⟩) (v := zer (mmT G t ce i) val) (v0 := zer (mmT G t0 ce0 (e i)) val0) (fun y hy => by
      unfold zer
      by_cases c : mmT G t ce i y = true
      · rw [if_pos c, if_pos (mp.1 y c).1]
      · have c0 : ¬ mmT G t0 ce0 (e i) (e y) = true := fun z => by
          obtain ⟨y', z1, z2⟩ := mp.2.1 _ z
          have := mp.2.2.2.2 y y' hy z1 z2.symm
          rw [this] at c
          exact c z1
        rw [if_neg c, if_neg c0]
        rcases hy with z | ⟨k', k1, k2⟩
        · exact absurd ((mm y).2 z) c
        · exact ((hX k' k1).2.2 y k2).2 fun z => c ((mm y).2 z)) 64
    refine ⟨?_, kk, fun _ => ⟨?_, ?_⟩⟩
    · rw [v1, w1]; exact u1 i (Or.inl gi)
    · rw [v2, w2, u2]
    · rw [v3, w3, u2]
end keep
