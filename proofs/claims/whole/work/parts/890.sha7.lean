-- the reference casts shades
/-- the seeking as the reference keeps it, in round r; c0 the round of the first circle ahead of it -/
def HSh (r q : Nat) (S : SS) (M : Mm) : Prop := (∀ s, s < 8 → M.1 154 s = nI (S.1 s) ∧ ∀ i, i < S.1 s → M.1 153 (14 * s + i) = nI (S.2.1 s i)) ∧ M.1 137 41 = bI S.2.2.2.1 ∧ M.1 137 42 = bI S.2.2.2.2 ∧ M.1 137 39 = nI r ∧ M.1 137 40 = nI (if q = 0 ∧ S.2.2.1 = true then r else q)
theorem HSh.fx {P : Nat → Nat → Prop} {r q : Nat} {S : SS} {M M' : Mm} (h : HSh r q S M) (f : FX P M M') (h1 : ∀ j, ¬ P 153 j) (h2 : ∀ j, ¬ P 154 j) (h3 : ∀ j, 39 ≤ j → j ≤ 42 → ¬ P 137 j) : HSh r q S M' := ⟨fun s hs => ⟨(f.2 154 s (h2 s)).1.trans (h.1 s hs).1, fun i hi => (f.2 153 _ (h1 _)).1.trans ((h.1 s hs).2 i hi)⟩, (f.2 137 41 (h3 41 (by omega) (by omega))).1.trans h.2.1, (f.2 137 42 (h3 42 (by omega) (by omega))).1.trans h.2.2.1, (f.2 137 39 (h3 39 (by omega) (by omega))).1.trans h.2.2.2.1, (f.2 137 40 (h3 40 (by omega) (by omega))).1.trans h.2.2.2.2⟩
def PSm (b j : Nat) : Prop := b = 153 ∨ b = 154 ∨ b = 137 ∧ 40 ≤ j ∧ j ≤ 42
theorem r_keepsShade {r q s v : Nat} {S : SS} {M : Mm} (N : Nat) (hN : 2000 < N) (hs : s < 8) (hv : v < 2 ^ 16) (hS : HSh r q S M) (hO : SO S) : ∃ M', D_X12_keepsShade N 137 (nI s) (nI v) M = some M' ∧ HSh r q (sKeep s v S) M' ∧ FX PSm M M' := by
  obtain ⟨h12, hlt⟩ := hO s
  obtain ⟨m1', m2'⟩ := hS.1 s hs
  have l153 : len 153 = 112 := rfl
  have key : ∀ (kE : Option Mm) (fu i : Nat), i ≤ S.1 s → 13 < i + fu → (∀ j, j < i → decide (S.2.1 s j = v) = false) → L_X12_keepsShade_2 kE 137 (nI s) M (nI v) fu (nI i) = if sAt S s v < S.1 s then some M else kE := by
    intro kE fu
    induction fu with
    | zero => intro i h1 h2; omega
    | succ fu ih =>
      intro i h1 h2 hj
      rw [L_X12_keepsShade_2, show (137 : Nat) + 17 = 154 from rfl, show (137 : Nat) + 16 = 153 from rfl, ldI_n (by omega) (by omega), m1', Option.bind_some]
      simp only [n_le (show S.1 s < 2 ^ 31 by omega) (show i < 2 ^ 31 by omega)]
      by_cases e : S.1 s ≤ i
      · have ei : i = S.1 s := by omega
        have : sAt S s v = S.1 s := fb_eq (Nat.le_refl _) (fun j q => hj j (by omega)) (Or.inl rfl)
        rw [if_pos e, if_neg (by omega)]
      · have hl := hlt i (by omega)
        rw [if_neg e, pk_mul, nI_add, ldI_n (by omega) (by omega), m2' i (by omega), Option.bind_some]
        simp only [n_eq (show S.2.1 s i < 2 ^ 31 by omega) (show v < 2 ^ 31 by omega), Option.bind_some, nI_add]
        by_cases c : S.2.1 s i = v
        · have : sAt S s v = i := fb_eq (by omega) hj (Or.inr (decide_eq_true c))
          rw [if_pos c, if_pos (by omega)]
        · rw [if_neg c]
          exact ih (i + 1) (by omega) (by omega) fun j hj2 => by
            by_cases z : j = i
            · rw [z]; exact decide_eq_false c
            · exact hj j (by omega)
  unfold D_X12_keepsShade
  rw [key _ N 0 (by omega) (by omega) fun j hj => by omega]
  unfold sKeep
  by_cases c : sAt S s v < S.1 s
  · rw [if_pos c, if_pos c]; exact ⟨M, rfl, hS, FX.refl⟩
  · rw [if_neg c, if_neg c, show (137 : Nat) + 17 = 154 from rfl, show (137 : Nat) + 16 = 153 from rfl, pZ_1, Option.bind_some, ldI_n (by omega) (by omega), up1, if_neg (by decide), m1', Option.bind_some]
    simp only [n_eq (show S.1 s < 2 ^ 31 by omega) (show 12 < 2 ^ 31 by omega)]
    by_cases d : S.1 s = 12
    · rw [if_pos d, if_neg (by omega), pZ_1, Option.bind_some]
      refine ⟨_, rfl, ⟨fun t ht => ⟨?_, fun i hi => ?_⟩, ?_, ?_, ?_, ?_⟩, (FX.I (P := PSm) (by unfold PSm; omega)).trans (FX.I (by unfold PSm; omega))⟩
      · rw [up1, if_neg (by decide), up1, if_neg (by decide)]; exact (hS.1 t ht).1
      · rw [up1, if_neg (by decide), up1, if_neg (by decide)]; exact (hS.1 t ht).2 i hi
      · rw [upI_s]; rfl
      · rw [upI_j, if_neg (by decide), upI_s]; rfl
      · rw [upI_j, if_neg (by decide), upI_j, if_neg (by decide)]; exact hS.2.2.2.1
      · rw [upI_j, if_neg (by decide), upI_j, if_neg (by decide)]; exact hS.2.2.2.2
    · rw [if_neg d, if_pos (by omega), Option.bind_some, pk_mul, nI_add, stI_n (by omega) (by omega), Option.bind_some, ldI_n (by omega) (by omega)]
      rw [show (upI (upI M 137 42 (nI 1)) 153 (14 * s + S.1 s) (nI v)).1 154 s = nI (S.1 s) by rw [up1, if_neg (by decide), up1, if_neg (by decide)]; exact m1', Option.bind_some, nI_add, stI_n (by omega) (by omega), Option.bind_some]
      refine ⟨_, rfl, ⟨fun t ht => ⟨?_, fun i hi => ?_⟩, ?_, ?_, ?_, ?_⟩, ((FX.I (P := PSm) (by unfold PSm; omega)).trans (FX.I (by unfold PSm; omega))).trans (FX.I (by unfold PSm; omega))⟩
      · rw [upI_j]
        show _ = nI (if t = s then S.1 s + 1 else S.1 t)
        by_cases z : t = s
        · rw [if_pos z, if_pos z]
        · rw [if_neg z, if_neg z, up1, if_neg (by decide), up1, if_neg (by decide)]; exact (hS.1 t ht).1
      · have hi : i < (if t = s then S.1 s + 1 else S.1 t) := hi
        have ht12 := (hO t).1
        rw [up1, if_neg (by decide), upI_j]
        show _ = nI (if t = s ∧ i = S.1 s then v else S.2.1 t i)
        by_cases z : t = s
        · subst z
          rw [if_pos rfl] at hi
          by_cases y : i = S.1 t
          · rw [if_pos (by omega), if_pos ⟨rfl, y⟩]
          · rw [if_neg (by omega), if_neg (fun w => y w.2), up1, if_neg (by decide)]; exact m2' i (by omega)
        · rw [if_neg z] at hi
          rw [if_neg (by omega), if_neg (fun w => z w.1), up1, if_neg (by decide)]; exact (hS.1 t ht).2 i hi
      · rw [up1, if_neg (by decide), up1, if_neg (by decide), upI_j, if_neg (by decide)]; exact hS.2.1
      · rw [up1, if_neg (by decide), up1, if_neg (by decide), upI_s]; rfl
      · rw [up1, if_neg (by decide), up1, if_neg (by decide), upI_j, if_neg (by decide)]; exact hS.2.2.2.1
      · rw [up1, if_neg (by decide), up1, if_neg (by decide), upI_j, if_neg (by decide)]; exact hS.2.2.2.2
/-- rel while a child's shade is laid -/
def LSh (G : Gr) (p : Nat) (c : Nat → Nat) (k a : Nat) (M : Mm) : Prop := ∀ o, o < 32 → M.1 144 o = nI (if o / 8 = k ∧ o % 8 < a then shR G p c (k + 1) o else shR G p c k o)
theorem shR_lt {G : Gr} {p m o : Nat} {c : Nat → Nat} (h : QG G) (hp : p < G.i 0 1) : shR G p c m o < 2 ^ 32 := by
  have hsd := h.sd hp
  have h1 := (shR_sq (m := m) (c := c) h hp).2 o
  exact Nat.lt_of_lt_of_le h1 (Nat.pow_le_pow_right (by decide) (by omega))
theorem loop_shadeIn {G : Gr} {p k : Nat} {c : Nat → Nat} (N : Nat) (hq : QG G) (hp : p < G.i 0 1) (hk1 : 1 ≤ k) (hk : k < G.i 6 p) (hc : c k < 2 ^ 16) (kE : Mm → Option Mm) : ∀ (fu a : Nat) (M : Mm), G.i 4 (G.i 7 (4 * p + k)) ≤ a → a ≤ att G (G.i 7 (4 * p + k)) → 9 < a + fu → QT G M → LSh G p c k a M → ∃ M', L_X12_shadesBy_58 kE N 137 (nI (G.i 7 (4 * p + k))) (nI k) (nI (c k)) fu (nI a) M = kE M' ∧ HRo 144 0 32 (shR G p c (k + 1)) M' ∧ FX P4 M M'
  | 0, a, M, h0, h1, h2, _, _ => by have := hq.att8 (hq.sy hp hk); omega
  | fu + 1, a, M, h0, h1, h2, K, hL => by
    have hsd := hq.sd hp
    have hs := hq.sy hp hk
    have hns := hq.ns
    have h4 := hq.at' hs
    have h8 := hq.att8 hs
    have ea : att G (G.i 7 (4 * p + k)) = G.i 4 (G.i 7 (4 * p + k)) + G.i 5 (G.i 7 (4 * p + k)) := rfl
    rw [L_X12_shadesBy_58, K.att N hs, Option.bind_some, ← ea]
    simp only [n_le (show att G (G.i 7 (4 * p + k)) < 2 ^ 31 by omega) (show a < 2 ^ 31 by omega)]
    by_cases e : att G (G.i 7 (4 * p + k)) ≤ a
    · rw [if_pos e]
      refine ⟨M, rfl, fun o ho => ?_, FX.refl⟩
      rw [Nat.zero_add, hL o ho]
      by_cases z : o / 8 = k ∧ o % 8 < a
      · rw [if_pos z]
      · rw [if_neg z, shR_same]
        rintro ⟨y1, y2, y3⟩
        rw [y1] at y3
        omega
    · have l7 := hL (8 * k + a) (by omega)
      rw [if_neg (show ¬ ((8 * k + a) / 8 = k ∧ (8 * k + a) % 8 < a) by omega)] at l7
      have lIn : M.1 139 (4 + G.i 7 (4 * p + k)) = nI (G.i 4 (G.i 7 (4 * p + k))) := (K.1.2.1 _ hs).1
      rw [if_neg e, show (137 : Nat) + 7 = 144 from rfl, show (137 : Nat) + 2 = 139 from rfl, pk_mul, nI_add, ldI_n (by omega) (by omega), l7, Option.bind_some, nI_add, ldI_n (by omega) (by omega), lIn, Option.bind_some, n_sub h0, pk_mul, n_sshr (by omega) (by omega), n_and, n_shl _ (by omega), n_or, stI_n (by omega) (by omega), Option.bind_some, Option.bind_some, nI_add, ← shR_at hk1 hk h0 (by omega) (by omega)]
      have f1 : FX P4 M (upI M 144 (8 * k + a) (nI (shR G p c (k + 1) (8 * k + a)))) := FX.I rfl
      obtain ⟨M', b1, b2, b3⟩ := loop_shadeIn N hq hp hk1 hk hc kE fu (a + 1) _ (by omega) (by omega) (by omega) (P4.n K f1) (fun o ho => by
        rw [upI_j]
        by_cases z : o = 8 * k + a
        · subst z
          rw [if_pos rfl, if_pos (by omega)]
        · rw [if_neg z, hL o ho]
          by_cases y : o / 8 = k ∧ o % 8 < a
          · rw [if_pos y, if_pos (by omega)]
          · rw [if_neg y, if_neg (by omega)])
      exact ⟨M', b1, b2, f1.trans b3⟩
def chN (i j k m : Nat) : Nat := if m = 1 then i else if m = 2 then j else k
/-- which are chosen -/
def HCh (G : Gr) (p i j k : Nat) (M : Mm) : Prop := ∀ m, 1 ≤ m → m < G.i 6 p → M.1 156 m = nI (chN i j k m)
theorem VC.m {G : Gr} {p i j k : Nat} {S : SS} (hd : G.i 6 p ≤ 4) (v : VC G p i j k S) {m : Nat} (h1 : 1 ≤ m) (h2 : m < G.i 6 p) : chN i j k m < S.1 (G.i 7 (4 * p + m)) ∧ ch G p S i j k m = S.2.1 (G.i 7 (4 * p + m)) (chN i j k m) := by
  refine ⟨?_, rfl⟩
  unfold chN
  by_cases m1 : m = 1
  · subst m1; rw [if_pos rfl]; exact v.1 h2
  · rw [if_neg m1]
    by_cases m2 : m = 2
    · subst m2; rw [if_pos rfl]; exact v.2.1 h2
    · rw [if_neg m2]
      have m3 : m = 3 := by omega
      subst m3; exact v.2.2 h2
theorem loop_shadeAll {G : Gr} {p i j k r q : Nat} {S : SS} (N : Nat) (hN : 2000 < N) (hq : QG G) (hp : p < G.i 0 1) (hO : SO S) (v : VC G p i j k S) (kE : Mm → Option Mm) : ∀ (fu m : Nat) (M : Mm), 1 ≤ m → m ≤ G.i 6 p → 5 < m + fu → QT G M → HSh r q S M → HCh G p i j k M → HRo 144 0 32 (shR G p (ch G p S i j k) m) M → ∃ M', L_X12_shadesBy_7 kE 137 (nI p) N fu (nI m) M = kE M' ∧ HRo 144 0 32 (shR G p (ch G p S i j k) (G.i 6 p)) M' ∧ FX P4 M M'
  | 0, m, M, h0, h1, h2, _, _, _, _ => by have := hq.sd hp; omega
  | fu + 1, m, M, h0, h1, h2, K, hS, hC, hR => by
    have hsd := hq.sd hp
    have hnp := hq.np
    rw [L_X12_shadesBy_7, show (137 : Nat) + 2 = 139 from rfl, nI_add, ldI_n (by omega) (by omega), K.kid hp, Option.bind_some]
    simp only [n_lt (show G.i 6 p - 1 < 2 ^ 31 by omega) (show m < 2 ^ 31 by omega)]
    by_cases e : G.i 6 p - 1 < m
    · rw [if_pos e]
      have em : m = G.i 6 p := by omega
      subst em
      exact ⟨M, rfl, hR, FX.refl⟩
    · have hm : m < G.i 6 p := by omega
      have hs := hq.sy hp hm
      have hns := hq.ns
      have h4 := hq.at' hs
      obtain ⟨v1, v2⟩ := v.m hsd.2 h0 hm
      have o1 := hO (G.i 7 (4 * p + m))
      have w1 := o1.2 _ v1
      have lIn : M.1 139 (4 + G.i 7 (4 * p + m)) = nI (G.i 4 (G.i 7 (4 * p + m))) := (K.1.2.1 _ hs).1
      rw [if_neg e, K.sym N hp hm, Option.bind_some, show (137 : Nat) + 19 = 156 from rfl, show (137 : Nat) + 16 = 153 from rfl, ldI_n (by omega) (by omega), hC m h0 hm, Option.bind_some, pk_mul, nI_add, ldI_n (by omega) (by omega), (hS.1 _ (by omega)).2 _ v1, Option.bind_some, nI_add, ldI_n (by omega) (by omega), lIn, Option.bind_some, ← v2]
      obtain ⟨M1, a1, a2, a3⟩ := loop_shadeIn N hq hp h0 hm (c := ch G p S i j k) (by rw [v2]; exact w1) (fun (M5 : Mm) => ((some (nI m + (nI 1))).bind fun l2_2 => (L_X12_shadesBy_7 kE 137 (nI p) N fu l2_2 M5))) N (G.i 4 (G.i 7 (4 * p + m))) M (Nat.le_refl _) (by unfold att; omega) (by omega) K (fun o ho => by
        have := hR o ho
        rw [Nat.zero_add] at this
        by_cases z : o / 8 = m ∧ o % 8 < G.i 4 (G.i 7 (4 * p + m))
        · rw [if_pos z, this, shR_same]
          rintro ⟨y1, y2, y3⟩
          rw [y1] at y2
          omega
        · rw [if_neg z]; exact this)
      rw [a1, Option.bind_some, nI_add]
      obtain ⟨M2, b1, b2, b3⟩ := loop_shadeAll N hN hq hp hO v kE fu (m + 1) M1 (by omega) (by omega) (by omega) (P4.n K a3) (hS.fx a3 (fun j q => by unfold P4 at q; omega) (fun j q => by unfold P4 at q; omega) (fun j _ _ q => by unfold P4 at q; omega)) (fun m' q1 q2 => (a3.2 156 m' (fun q => by unfold P4 at q; omega)).1.trans (hC m' q1 q2)) a2
      exact ⟨M2, b1, b2, a3.trans b3⟩
theorem loop_shadeV {G : Gr} {p : Nat} {c : Nat → Nat} {M : Mm} (N : Nat) (hq : QG G) (hp : p < G.i 0 1) (K : QT G M) (hR : HRo 144 0 32 (shC G p c) M) : ∀ (fu l : Nat), l ≤ G.i 5 (G.i 7 (4 * p)) → 5 < l + fu → L_X12_shadesBy_168 N 137 (nI (G.i 7 (4 * p))) M fu (nI (shV G p c l)) (nI (G.i 4 (G.i 7 (4 * p)) + l)) = (D_X12_keepsShade N 137 (nI (G.i 7 (4 * p))) (nI (shV G p c (G.i 5 (G.i 7 (4 * p))))) M).bind fun M7 => some M7
  | 0, l, h1, h2 => by have := hq.at' (show G.i 7 (4 * p) < G.i 0 0 from hq.sy hp (show 0 < G.i 6 p by have := hq.sd hp; omega)); omega
  | fu + 1, l, h1, h2 => by
    have hsd := hq.sd hp
    have hns := hq.ns
    have hs : G.i 7 (4 * p) < G.i 0 0 := hq.sy hp (show 0 < G.i 6 p by omega)
    have h4 := hq.at' hs
    rw [L_X12_shadesBy_168, K.att N hs, Option.bind_some]
    simp only [n_le (show G.i 4 (G.i 7 (4 * p)) + G.i 5 (G.i 7 (4 * p)) < 2 ^ 31 by omega) (show G.i 4 (G.i 7 (4 * p)) + l < 2 ^ 31 by omega)]
    by_cases e : G.i 5 (G.i 7 (4 * p)) ≤ l
    · have el : l = G.i 5 (G.i 7 (4 * p)) := by omega
      rw [if_pos (by omega), el]
    · have hm := hR (G.i 4 (G.i 7 (4 * p)) + l) (by omega)
      rw [Nat.zero_add] at hm
      have lIn : M.1 139 (4 + G.i 7 (4 * p)) = nI (G.i 4 (G.i 7 (4 * p))) := (K.1.2.1 _ hs).1
      rw [if_neg (by omega), show (137 : Nat) + 7 = 144 from rfl, show (137 : Nat) + 2 = 139 from rfl, ldI_n (by omega) (by omega), hm, Option.bind_some, nI_add, ldI_n (by omega) (by omega), lIn, Option.bind_some, Option.bind_some, n_shl _ (by omega), n_sub (by have : 0 < 2 ^ G.i 4 (G.i 7 (4 * p)) := Nat.pow_pos (by decide); omega), n_and, n_sub (by omega), Nat.add_sub_cancel_left, pk_mul, n_shl _ (show 4 * l < 32 by omega), n_or, Option.bind_some, Option.bind_some, nI_add, Nat.one_mul]
      exact loop_shadeV N hq hp K hR fu (l + 1) (by omega) (by omega)
