-- all that is needed, all that is reached
section tok
variable {G : Gr} {t : TR} {ce : Nat → Nat → Nat} {me : Nat → Nat}
theorem ab_told (hq : QG G) {p o q : Nat} (hp : p < G.i 0 1) (ho : o < 32) (hb : (G.i 13 (32 * p + o)).testBit q = true) : q < 32 ∧ (G.i 8 p).testBit q = true := by
  rw [(hq.2.2.2.2 _ hp).2.2.2 o q ho] at hb
  simp only [Bool.and_eq_true, decide_eq_true_eq] at hb
  exact ⟨hb.1, (hq.ask hp hb.1 hb.2).2.1⟩
theorem ab_lt (hq : QG G) {p o : Nat} (hp : p < G.i 0 1) (ho : o < 32) : G.i 13 (32 * p + o) < 2 ^ 32 := lt_of_bits fun _ hb => (ab_told hq hp ho hb).1
theorem akT_lt (hq : QG G) (h : TOK2 G t ce me) {i : Nat} (hi : thT G t i) : akT G t i < 2 ^ 32 := lt_of_bits fun _ hb => (ak_told hq h hi hb).2.2.1
theorem s_bfBegin {w i : Nat} {M : Mm} (N : Nat) (hN : 2000 < N) (hw : w = 69 ∨ w = 87) (hi : i < 320) : ∃ M', D_X8_begin N w (nI i) M = some M' ∧ BSt w 1 (fun _ => i) (fun x => decide (x = i)) M' ∧ FX (PBf w) M M' := by
  have l16 : len (w + 16) = 320 := by rcases hw with e | e <;> subst e <;> rfl
  unfold D_X8_begin
  obtain ⟨M1, a1, a2, a3⟩ := s_clearFlags (M := M) N l16 (by omega) hN
  rw [a1, Option.bind_some, stZ_1 hi (by omega), Option.bind_some, stI_n (by omega) (by omega), Option.bind_some, pI_n, Option.bind_some]
  refine ⟨_, rfl, ⟨upI_s _ _ _ _, ?_, fun x hx => ?_, fun m hm => ?_, fun x hx hs => ?_⟩, (((a3.mono fun b j z => Or.inr (Or.inl z)).trans (FX.I (by omega))).trans (FX.I (by omega))).trans (FX.I (by omega))⟩
  · have e0 : cnt (fun _ => false) 320 = 0 := by
      have := cnt_zero (f := fun _ => false) (n := 0) 320 (fun i _ _ => rfl)
      rw [Nat.zero_add] at this; exact this
    have := cnt_one (f := fun _ => false) (g := fun x => decide (x = i)) (n := 320) i hi (fun j _ hj => (decide_eq_false hj).symm) rfl (decide_eq_true rfl)
    rw [this, e0]
  · rw [upI_n (by omega), upI_n (by omega), upI_j]
    show _ = bI (decide (x = i))
    by_cases z : x = i
    · rw [if_pos z, decide_eq_true z]; rfl
    · rw [if_neg z, decide_eq_false z]; exact a2 x hx
  · have : m = 0 := by omega
    subst this
    rw [upI_n (by omega), upI_s]
    exact ⟨rfl, hi, decide_eq_true rfl⟩
  · exact ⟨0, by omega, (of_decide_eq_true hs).symm⟩
/-- what is closed and reached is all that is reached -/
theorem bf_all {R : Nat → Nat → Prop} {i c : Nat} {l : Nat → Nat} {sn : Nat → Bool} {w : Nat} {M : Mm} (hB : BSt w c l sn M) (h0 : sn i = true) (hr : ∀ x, sn x = true → x < 320 ∧ RTc R i x) (hc : ∀ m, m < c → ∀ y, R (l m) y → sn y = true) (x : Nat) : sn x = true ↔ RTc R i x := by
  refine ⟨fun z => (hr x z).2, fun z => RTc.inv (P := fun x => sn x = true) (fun a b ha hab => ?_) z h0⟩
  obtain ⟨m, m1', m2'⟩ := hB.2.2.2.2 a (hr a ha).1 ha
  exact hc m m1' b (by rw [m2']; exact hab)
theorem s_need {w i : Nat} {M : Mm} (N : Nat) (hN : 2000 < N) (hq : QG G) (hw : w = 69 ∨ w = 87) (h : TOK2 G t ce me) (L : CLk w G t ce me M) (hi : thT G t i) : ∃ sn M', D_X8_need N w (nI i) M = some (nI (cnt sn 320), M') ∧ (∀ x, sn x = true ↔ RTc (nrT G t ce) i x) ∧ FX (PBf w) M M' := by
  have key : ∀ (fu n c : Nat) (l : Nat → Nat) (sn : Nat → Bool) (M : Mm), 320 < n + fu → n ≤ c → CLk w G t ce me M → BSt w c l sn M → sn i = true → (∀ x, sn x = true → thT G t x ∧ RTc (nrT G t ce) i x) → (∀ m, m < n → ∀ y, nrT G t ce (l m) y → sn y = true) → ∃ sn' M', L_X8_need_7 w N fu (nI n) M = some (nI (cnt sn' 320), M') ∧ (∀ x, sn' x = true ↔ RTc (nrT G t ce) i x) ∧ FX (PBf w) M M' := fun fu => by
    induction fu with
    | zero => intro n c l sn M h1 h2 L hB; have := cnt_le sn 320; have := hB.2.1; omega
    | succ fu ih =>
      intro n c l sn M h1 h2 L hB h0 hr hc
      have c320 : c ≤ 320 := by have := cnt_le sn 320; have := hB.2.1; omega
      rw [L_X8_need_7, hB.1]
      simp only [n_le (show c < 2 ^ 31 by omega) (show n < 2 ^ 31 by omega), n_le (show 320 < 2 ^ 31 by omega) (show n < 2 ^ 31 by omega)]
      by_cases e : c ≤ n
      · have en : n = c := by omega
        subst en
        rw [if_pos e]
        exact ⟨sn, M, by rw [← hB.2.1], fun x => bf_all hB h0 (fun x z => ⟨(th_320 h (hr x z).1).2, (hr x z).2⟩) hc x, FX.refl⟩
      · obtain ⟨q1, q2, q3⟩ := hB.2.2.2.1 n (by omega)
        have th := (hr _ q3).1
        obtain ⟨t8, _⟩ := th_320 h th
        obtain ⟨w1, w2, w3⟩ := L.2.2 _ t8
        rw [if_neg e, if_neg (by omega), ldI_n (k := n) (by omega) (by omega), q1, Option.bind_some, ldI_n q2 (by omega), w1, Option.bind_some, Option.bind_some, ldI_n q2 (by omega), w3, Option.bind_some]
        obtain ⟨c', l', sn', M', a1, a2, a3, a4, a5, a6⟩ := s_addAll (k := bsT G t (l n) - 1) (kI := nP (bsT G t (l n))) N hN hq hw h (akT_lt hq h th) (fun o ho => by
          obtain ⟨b1, b2, b3, b4, b5⟩ := ak_told hq h th ho
          exact ⟨nP_s (by omega), b2, b4⟩) L hB
        rw [a1, Option.bind_some, Option.bind_some, nI_add]
        have nr : ∀ y, nrT G t ce (l n) y ↔ ∃ o, (akT G t (l n)).testBit o = true ∧ inT ce (bsT G t (l n) - 1) o = y := fun y => ⟨fun ⟨o, _, o2, o3⟩ => ⟨o, o2, o3⟩, fun ⟨o, o2, o3⟩ => ⟨o, tb_lt (akT_lt hq h th) o2, o2, o3⟩⟩
        obtain ⟨sn2, M2, b1, b2, b3⟩ := ih (n + 1) c' l' sn' M' (by omega) (by omega) (L.bf a6) a2 ((a5 i).2 (Or.inl h0)) (fun x z => by
          rcases (a5 x).1 z with z | z
          · exact hr x z
          · have z := (nr x).2 z
            exact ⟨nr_th hq h th z, (hr _ q3).2.trans (RTc.one z)⟩) (fun m hm y hy => by
          rw [a4 m (by omega)] at hy
          by_cases u : m = n
          · rw [u] at hy; exact (a5 y).2 (Or.inr ((nr y).1 hy))
          · exact (a5 y).2 (Or.inl (hc m (by omega) y hy)))
        exact ⟨sn2, M2, b1, b2, a6.trans b3⟩
  obtain ⟨i8, i3⟩ := th_320 h hi
  unfold D_X8_need
  obtain ⟨M1, a1, a2, a3⟩ := s_bfBegin (M := M) N hN hw i3
  rw [a1, Option.bind_some]
  obtain ⟨sn, M2, b1, b2, b3⟩ := key N 0 1 _ _ M1 (by omega) (by omega) (L.bf a3) a2 (decide_eq_true rfl) (fun x z => by
    have z := of_decide_eq_true z
    subst z; exact ⟨hi, RTc.refl⟩) (fun m hm => absurd hm (Nat.not_lt_zero _))
  exact ⟨sn, M2, b1, b2, a3.trans b3⟩
/-- asked by -/
def byT (G : Gr) (t : TR) (ce : Nat → Nat → Nat) (j i : Nat) : Prop := thT G t i ∧ nrT G t ce i j
theorem s_reach {w g i : Nat} {M : Mm} (N : Nat) (hN : 2000 < N) (hq : QG G) (hg : g = 35 ∨ g = 52) (hw : w = 69 ∨ w = 87) (h : TOK2 G t ce me) (K : CG g G M) (C : CT w G t M) (L : CLk w G t ce me M) (hi : thT G t i) : ∃ sn M', D_X8_reach N w g (nI i) M = some (nI (cnt sn 320), M') ∧ (∀ x, sn x = true ↔ RTc (byT G t ce) i x) ∧ FX (PBf w) M M' := by
  have h40 := h.2.2.2.1
  have hnp := hq.np
  have key : ∀ (fu n c : Nat) (l : Nat → Nat) (sn : Nat → Bool) (M : Mm), 320 < n + fu → n ≤ c → CG g G M → CT w G t M → CLk w G t ce me M → BSt w c l sn M → sn i = true → (∀ x, sn x = true → thT G t x ∧ RTc (byT G t ce) i x) → (∀ m, m < n → ∀ y, byT G t ce (l m) y → sn y = true) → ∃ sn' M', L_X8_reach_7 w g N fu (nI n) M = some (nI (cnt sn' 320), M') ∧ (∀ x, sn' x = true ↔ RTc (byT G t ce) i x) ∧ FX (PBf w) M M' := fun fu => by
    induction fu with
    | zero => intro n c l sn M h1 h2 K C L hB; have := cnt_le sn 320; have := hB.2.1; omega
    | succ fu ih =>
      intro n c l sn M h1 h2 K C L hB h0 hr hc
      have c320 : c ≤ 320 := by have := cnt_le sn 320; have := hB.2.1; omega
      rw [L_X8_reach_7, hB.1]
      simp only [n_le (show c < 2 ^ 31 by omega) (show n < 2 ^ 31 by omega), n_le (show 320 < 2 ^ 31 by omega) (show n < 2 ^ 31 by omega)]
      by_cases e : c ≤ n
      · have en : n = c := by omega
        subst en
        rw [if_pos e]
        exact ⟨sn, M, by rw [← hB.2.1], fun x => bf_all hB h0 (fun x z => ⟨(th_320 h (hr x z).1).2, (hr x z).2⟩) hc x, FX.refl⟩
      · obtain ⟨q1, q2, q3⟩ := hB.2.2.2.1 n (by omega)
        have th := (hr _ q3).1
        have hk : l n / 8 < tn t := th.1
        have cn := C.2 _ hk
        have pk := (h.1.2.1 _ hk).1
        rw [if_neg e, if_neg (by omega), ldI_n (k := n) (by omega) (by omega), q1, Option.bind_some, dv_n (by omega) (by omega) (by omega), Option.bind_some, Option.bind_some, rm_n (by omega) (by omega) (by omega), Option.bind_some, ldI_n (k := l n / 8) (by omega) (by omega), cn.1, Option.bind_some, pk_mul, nI_add, ldI_n (by omega) (by omega), K.a 13 _ (by omega), Option.bind_some]
        obtain ⟨c', l', sn', M', a1, a2, a3, a4, a5, a6⟩ := s_addAll (k := l n / 8) (kI := nI (l n / 8)) N hN hq hw h (ab_lt hq pk (show l n % 8 < 32 by omega)) (fun o ho => ⟨rfl, hk, (ab_told hq pk (by omega) ho).2⟩) L hB
        have K1 := K.bf hg hw a6
        have C1 := C.bf a6
        have L1 := L.bf a6
        have cn1 := C1.2 _ hk
        rw [a1, Option.bind_some, ldI_n (k := l n / 8) (by omega) (by omega), cn1.2.2.1, Option.bind_some]
        have fin : ∀ (c2 : Nat) (l2 : Nat → Nat) (sn2 : Nat → Bool) (M2 : Mm), BSt w c2 l2 sn2 M2 → c ≤ c2 → (∀ m, m < c → l2 m = l m) → (∀ x, sn2 x = true ↔ sn x = true ∨ byT G t ce (l n) x) → FX (PBf w) M M2 → ∃ sn' M', L_X8_reach_7 w g N fu (nI (n + 1)) M2 = some (nI (cnt sn' 320), M') ∧ (∀ x, sn' x = true ↔ RTc (byT G t ce) i x) ∧ FX (PBf w) M M' := fun c2 l2 sn2 M2 b1 b2 b3 b4 b5 => by
          obtain ⟨sn3, M3, d1, d2, d3⟩ := ih (n + 1) c2 l2 sn2 M2 (by omega) (by omega) (K.bf hg hw b5) (C.bf b5) (L.bf b5) b1 ((b4 i).2 (Or.inl h0)) (fun x z => by
            rcases (b4 x).1 z with z | z
            · exact hr x z
            · exact ⟨z.1, (hr _ q3).2.trans (RTc.one z)⟩) (fun m hm y hy => by
            rw [b3 m (by omega)] at hy
            by_cases u : m = n
            · rw [u] at hy; exact (b4 y).2 (Or.inr hy)
            · exact (b4 y).2 (Or.inl (hc m (by omega) y hy)))
          exact ⟨sn3, M3, d1, d2, b5.trans d3⟩
        by_cases u0 : tu t (l n / 8) = 0
        · rw [u0, show nP 0 = m1 from rfl, if_pos rfl, Option.bind_some, nI_add]
          refine fin c' l' sn' M' a2 a3 a4 (fun x => (a5 x).trans ⟨fun z => ?_, fun z => ?_⟩) a6
          · rcases z with z | ⟨o, o1, o2⟩
            · exact Or.inl z
            · right; exact (nr_by hq h th).2 ⟨l n / 8, l n % 8, Or.inl ⟨rfl, rfl⟩, o, (ab_told hq pk (by omega) o1).1, o1, o2.symm⟩
          · rcases z with z | z
            · exact Or.inl z
            · obtain ⟨k, o, k1, q, r1, r2, r3⟩ := (nr_by hq h th).1 z
              rcases k1 with ⟨k1, k2⟩ | ⟨k1, _⟩
              · subst k1 k2; exact Or.inr ⟨q, r2, r3.symm⟩
              · exact absurd u0 k1
        · have e1 : 1 ≤ l n / 8 := by
            by_cases y : l n / 8 = 0
            · rw [y] at u0; exact absurd h.1.1.2.1 u0
            · omega
          obtain ⟨b1, b2, b3, b4, b5⟩ := h.1.2.2 (l n / 8) e1 hk
          have hx : tu t (l n / 8) - 1 < tn t := by omega
          have px := (h.1.2.1 _ hx).1
          have hsd := hq.sd px
          have cx := C1.2 _ hx
          rw [nP_s b1, if_neg (n_ne_m1 (by omega)), Option.bind_some, Option.bind_some, ldI_n (k := tu t (l n / 8) - 1) (by omega) (by omega), cx.1, Option.bind_some, ldI_n (k := l n / 8) (by omega) (by omega), cn1.2.2.2.1, Option.bind_some, pk_mul, pk_mul, nI_add, nI_add, ldI_n (by omega) (by omega), K1.a 13 _ (by omega), Option.bind_some, show 32 * tp t (tu t (l n / 8) - 1) + 8 * tq t (l n / 8) + l n % 8 = 32 * tp t (tu t (l n / 8) - 1) + (8 * tq t (l n / 8) + l n % 8) by omega]
          obtain ⟨c2, l2, sn2, M2, d1, d2, d3, d4, d5, d6⟩ := s_addAll (k := tu t (l n / 8) - 1) (kI := nI (tu t (l n / 8) - 1)) N hN hq hw h (ab_lt hq px (show 8 * tq t (l n / 8) + l n % 8 < 32 by omega)) (fun o ho => ⟨rfl, hx, (ab_told hq px (by omega) ho).2⟩) L1 a2
          rw [d1, Option.bind_some, Option.bind_some, nI_add]
          refine fin c2 l2 sn2 M2 d2 (by omega) (fun m hm => (d4 m (by omega)).trans (a4 m hm)) (fun x => ?_) (a6.trans d6)
          rw [d5, a5]
          constructor
          · rintro ((z | ⟨o, o1, o2⟩) | ⟨o, o1, o2⟩)
            · exact Or.inl z
            · exact Or.inr ((nr_by hq h th).2 ⟨l n / 8, l n % 8, Or.inl ⟨rfl, rfl⟩, o, (ab_told hq pk (by omega) o1).1, o1, o2.symm⟩)
            · exact Or.inr ((nr_by hq h th).2 ⟨tu t (l n / 8) - 1, 8 * tq t (l n / 8) + l n % 8, Or.inr ⟨u0, rfl, rfl⟩, o, (ab_told hq px (by omega) o1).1, o1, o2.symm⟩)
          · rintro (z | z)
            · exact Or.inl (Or.inl z)
            · obtain ⟨k, o, k1, q, r1, r2, r3⟩ := (nr_by hq h th).1 z
              rcases k1 with ⟨k1, k2⟩ | ⟨_, k1, k2⟩
              · subst k1 k2; exact Or.inl (Or.inr ⟨q, r2, r3.symm⟩)
              · subst k1 k2; exact Or.inr ⟨q, r2, r3.symm⟩
  obtain ⟨i8, i3⟩ := th_320 h hi
  unfold D_X8_reach
  obtain ⟨M1, a1, a2, a3⟩ := s_bfBegin (M := M) N hN hw i3
  rw [a1, Option.bind_some]
  obtain ⟨sn, M2, b1, b2, b3⟩ := key N 0 1 _ _ M1 (by omega) (by omega) (K.bf hg hw a3) (C.bf a3) (L.bf a3) a2 (decide_eq_true rfl) (fun x z => by
    have z := of_decide_eq_true z
    subst z; exact ⟨hi, RTc.refl⟩) (fun m hm => absurd hm (Nat.not_lt_zero _))
  exact ⟨sn, M2, b1, b2, a3.trans b3⟩
end tok
