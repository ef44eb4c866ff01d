-- the class casts shades, each with each
theorem PSh.cg {g k b j : Nat} (hg : g = 35 ∨ g = 52) (hk : k ≤ 16) (e : b = g + k) : ¬ PSh b j := fun q => by unfold PSh at q; omega
theorem loop_castV {g p : Nat} {G : Gr} {c : Nat → Nat} {M : Mm} (N : Nat) (hq : QG G) (hp : p < G.i 0 1) (K : CG g G M) (hR : HRo 28 0 (8 * G.i 6 p) (shC G p c) M) : ∀ (fu l : Nat), l ≤ G.i 5 (G.i 7 (4 * p)) → 5 < l + fu → L_X6_cast_110 g (nI (G.i 7 (4 * p))) M N 24 fu (nI (shV G p c l)) (nI l) = (D_X6_keep N 24 (nI (G.i 7 (4 * p))) (nI (shV G p c (G.i 5 (G.i 7 (4 * p))))) M).bind fun M7 => some M7
  | 0, l, h1, h2 => by have := hq.at' (show G.i 7 (4 * p) < G.i 0 0 from hq.sy hp (show 0 < G.i 6 p by have := hq.sd hp; omega)); omega
  | fu + 1, l, h1, h2 => by
    have hsd := hq.sd hp
    have hns := hq.ns
    have hs : G.i 7 (4 * p) < G.i 0 0 := hq.sy hp (show 0 < G.i 6 p by omega)
    have h4 := hq.at' hs
    rw [L_X6_cast_110, ldI_n (by omega) (by omega), K.a 5 _ (by omega), Option.bind_some]
    simp only [n_le (show G.i 5 (G.i 7 (4 * p)) < 2 ^ 31 by omega) (show l < 2 ^ 31 by omega)]
    by_cases e : G.i 5 (G.i 7 (4 * p)) ≤ l
    · have el : l = G.i 5 (G.i 7 (4 * p)) := by omega
      rw [if_pos e, el]
    · have hm := hR (G.i 4 (G.i 7 (4 * p)) + l) (by omega)
      rw [Nat.zero_add] at hm
      rw [if_neg e, ldI_n (by omega) (by omega), K.a 4 _ (by omega), Option.bind_some, nI_add, show (24 : Nat) + 4 = 28 from rfl, ldI_n (by omega) (by omega), hm, Option.bind_some, s_insOf N K (by omega) h4.1, Option.bind_some, n_and, pk_mul, n_shl _ (show 4 * l < 32 by omega), n_or, Option.bind_some, Option.bind_some, nI_add]
      exact loop_castV N hq hp K hR fu (l + 1) (by omega) (by omega)
theorem s_cast {g p i j k : Nat} {G : Gr} {S : SS} {M : Mm} (N : Nat) (hN : 2000 < N) (hq : QG G) (hg : g = 35 ∨ g = 52) (hp : p < G.i 0 1) (hi : 1 < G.i 6 p → i < S.1 (G.i 7 (4 * p + 1))) (hj : 2 < G.i 6 p → j < S.1 (G.i 7 (4 * p + 2))) (hk : 3 < G.i 6 p → k < S.1 (G.i 7 (4 * p + 3))) (K : CG g G M) (hS : CS G S M) (hO : SO S) : ∃ M', D_X6_cast N 24 g (nI p) (nI i) (nI j) (nI k) M = some M' ∧ CS G (sCast G p i j k S) M' ∧ FX PSh M M' := by
  have hnp := hq.np
  have hsd := hq.sd hp
  have hns := hq.ns
  have hs : G.i 7 (4 * p) < G.i 0 0 := hq.sy hp (show 0 < G.i 6 p by omega)
  have h4 := hq.at' hs
  have l28 : len 28 = 32 := rfl
  unfold D_X6_cast
  rw [show (24 : Nat) + 4 = 28 from rfl, pk_mul, cpI_n (by omega) (by omega) (by omega) (by omega), Option.bind_some]
  have f1 : FX P28 M (upR M.1 28 (fun k => if 0 ≤ k ∧ k < 0 + 32 then M.1 (g + 12) (32 * p + (k - 0)) else M.1 28 k), M.2) := ⟨rfl, fun a j q => ⟨by rw [mR1, if_neg (show ¬ a = 28 from fun z => q z)], rfl⟩⟩
  have r1 : HRo 28 0 (8 * G.i 6 p) (shR G p (ch G p S i j k) 1) (upR M.1 28 (fun k => if 0 ≤ k ∧ k < 0 + 32 then M.1 (g + 12) (32 * p + (k - 0)) else M.1 28 k), M.2) := fun o ho => by
    rw [Nat.zero_add o, mR1, if_pos rfl, if_pos (show 0 ≤ o ∧ o < 0 + 32 by omega), Nat.sub_zero, K.a 12 _ (by omega)]
    unfold shR shA
    rw [if_pos ho, if_neg (fun z => by omega), Nat.or_zero]
  generalize ((upR M.1 28 (fun k => if 0 ≤ k ∧ k < 0 + 32 then M.1 (g + 12) (32 * p + (k - 0)) else M.1 28 k), M.2) : Mm) = M1 at f1 r1
  obtain ⟨M2, a2, r2, f2⟩ := s_layShade (k := 1) (i := i) N hN hq hg hp (by omega) (by omega) (fun e => ⟨rfl, hi e⟩) (K.p28 hg f1) (hS.p28 f1) hO r1
  have F2 := f1.trans f2
  obtain ⟨M3, a3, r3, f3⟩ := s_layShade (k := 2) (i := j) N hN hq hg hp (by omega) (by omega) (fun e => ⟨rfl, hj e⟩) (K.p28 hg F2) (hS.p28 F2) hO r2
  have F3 := F2.trans f3
  obtain ⟨M4, a4, r4, f4⟩ := s_layShade (k := 3) (i := k) N hN hq hg hp (by omega) (by omega) (fun e => ⟨rfl, hk e⟩) (K.p28 hg F3) (hS.p28 F3) hO r3
  have F4 := F3.trans f4
  have K4 := K.p28 hg F4
  have r4' : HRo 28 0 (8 * G.i 6 p) (shR G p (ch G p S i j k) (G.i 6 p)) M4 := r4.cg fun o _ => shR_4 (m := 3 + 1) (by omega)
  obtain ⟨M5, a5, r5, f5⟩ := s_close N hN l28 (show 0 + 8 * G.i 6 p ≤ 32 by omega) (by omega) (by omega) ((shR_sq hq hp).lt (by omega)) r4'
  have F5 : FX P28 M M5 := F4.trans (f5.mono fun a j q => q.1)
  have K5 := K.p28 hg F5
  have S5 := hS.p28 F5
  rw [a2, Option.bind_some, a3, Option.bind_some, a4, Option.bind_some, ldI_n (by omega) (by omega), K4.a 6 p (by omega), Option.bind_some, pk_mul, a5, Option.bind_some, ldI_n (by omega) (by omega), K5.a 6 p (by omega), Option.bind_some, pk_mul, s_firstRound N hN l28 (show 0 + 8 * G.i 6 p ≤ 32 by omega) (by omega) (by omega) ((shC_sq hq hp).lt (by omega)) r5, Option.bind_some]
  have ex : (if fR (fb (fun o => (shC G p (ch G p S i j k) o).testBit o) (8 * G.i 6 p)) (8 * G.i 6 p) = m1 then some (nI 0) else some (nI 1)) = some (bI (shX G p (ch G p S i j k))) := by
    simp only [fR_m1 (show 8 * G.i 6 p < 2 ^ 31 by omega)]
    unfold shX
    by_cases c : fb (fun o => (shC G p (ch G p S i j k) o).testBit o) (8 * G.i 6 p) < 8 * G.i 6 p
    · rw [if_neg (not_not_intro c), decide_eq_true c]; rfl
    · rw [if_pos c, decide_eq_false c]; rfl
  rw [ex, Option.bind_some, S5.2.1, bI_or, pZ_b, Option.bind_some]
  have f6 : FX PSh M5 (upI M5 24 6 (bI (S.2.2.1 || shX G p (ch G p S i j k)))) := FX.I (by unfold PSh; omega)
  have K6 : CG g G (upI M5 24 6 (bI (S.2.2.1 || shX G p (ch G p S i j k)))) := K5.fx f6 fun k hk j q => q.cg hg hk rfl
  have S6 : CS G (S.1, S.2.1, (S.2.2.1 || shX G p (ch G p S i j k)), S.2.2.2.1, S.2.2.2.2) (upI M5 24 6 (bI (S.2.2.1 || shX G p (ch G p S i j k)))) := ⟨fun s hs => ⟨by rw [up1, if_neg (by decide)]; exact (S5.1 s hs).1, fun i hi => by rw [up1, if_neg (by decide)]; exact (S5.1 s hs).2 i hi⟩, upI_s _ _ _ _, by rw [upI_j, if_neg (by decide)]; exact S5.2.2⟩
  have r6 : HRo 28 0 (8 * G.i 6 p) (shC G p (ch G p S i j k)) (upI M5 24 6 (bI (S.2.2.1 || shX G p (ch G p S i j k)))) := fun o ho => by rw [up1, if_neg (by decide)]; exact r5 o ho
  generalize upI M5 24 6 (bI (S.2.2.1 || shX G p (ch G p S i j k))) = M6 at f6 K6 S6 r6
  have sd0 := s_side N K6 (show p < 12 by omega) (show 0 < 4 by decide)
  rw [Nat.add_zero] at sd0
  obtain ⟨M7, a7, b7, c7⟩ := sKeep_CS N hN (show G.i 7 (4 * p) < 8 by omega) (shV_lt (c := ch G p S i j k) hq hp (G.i 5 (G.i 7 (4 * p))) h4.2) S6 hO
  have lv := loop_castV N hq hp K6 r6 N 0 (Nat.zero_le _) (by omega)
  rw [show shV G p (ch G p S i j k) 0 = 0 from rfl] at lv
  rw [sd0, Option.bind_some, lv, a7, Option.bind_some]
  exact ⟨M7, rfl, b7, ((F5.mono fun a j q => Or.inl q).trans f6).trans c7⟩
/-- how many are there to choose from, and how many were -/
def HO (H O : Nat → Nat) (M : Mm) : Prop := ∀ s, s < 8 → M.1 26 s = nI (H s) ∧ (¬ H s = 0 → M.1 27 s = nI (O s))
theorem HO.fx {H O : Nat → Nat} {M M' : Mm} (h : HO H O M) (f : FX PSh M M') : HO H O M' := fun s hs => ⟨(f.2 26 s (fun q => by unfold PSh at q; omega)).1.trans (h s hs).1, fun z => (f.2 27 s (fun q => by unfold PSh at q; omega)).1.trans ((h s hs).2 z)⟩
theorem s_choices {g p m : Nat} {G : Gr} {H O : Nat → Nat} {M : Mm} (N : Nat) (hq : QG G) (hp : p < G.i 0 1) (hm : m < 4) (K : CG g G M) (hH : HO H O M) : D_X6_choices N 24 g (nI p) (nI m) M = some (nI (nCh G p H m)) := by
  have hnp := hq.np
  have hsd := hq.sd hp
  have hns := hq.ns
  unfold D_X6_choices nCh
  rw [ldI_n (by omega) (by omega), K.a 6 p (by omega), Option.bind_some]
  simp only [n_le (show G.i 6 p < 2 ^ 31 by omega) (show m < 2 ^ 31 by omega)]
  by_cases e : G.i 6 p ≤ m
  · rw [if_pos e, if_neg (by omega)]
  · have hs := hq.sy hp (show m < G.i 6 p by omega)
    rw [if_neg e, if_pos (by omega), s_side N K (by omega) hm, Option.bind_some, show (24 : Nat) + 2 = 26 from rfl, ldI_n (by omega) (by omega), (hH _ (by omega)).1]; rfl
theorem s_isNew {g p m i : Nat} {G : Gr} {H O : Nat → Nat} {M : Mm} (N : Nat) (hq : QG G) (hp : p < G.i 0 1) (hm : m < 4) (hi : i < 13) (hO : ∀ s, O s ≤ 12) (K : CG g G M) (hH : HO H O M) (hz : 0 < nCh G p H m) : D_X6_isNew N 24 g (nI p) (nI m) (nI i) M = some (bI (isN G p O m i)) := by
  have hnp := hq.np
  have hsd := hq.sd hp
  have hns := hq.ns
  unfold D_X6_isNew isN
  simp only [jn]
  rw [ldI_n (by omega) (by omega), K.a 6 p (by omega), Option.bind_some]
  simp only [n_le (show G.i 6 p < 2 ^ 31 by omega) (show m < 2 ^ 31 by omega)]
  by_cases e : G.i 6 p ≤ m
  · rw [if_pos e, decide_eq_false (show ¬ m < G.i 6 p by omega), okZ_0]; rfl
  · have hs := hq.sy hp (show m < G.i 6 p by omega)
    have ho := hO (G.i 7 (4 * p + m))
    rw [if_neg e, decide_eq_true (show m < G.i 6 p by omega), s_side N K (by omega) hm, Option.bind_some, show (24 : Nat) + 3 = 27 from rfl, ldI_n (by omega) (by omega), (hH _ (by omega)).2 (by unfold nCh at hz; rw [if_pos (by omega)] at hz; omega), Option.bind_some]
    simp only [n_lt (show i < 2 ^ 31 by omega) (show O (G.i 7 (4 * p + m)) < 2 ^ 31 by omega)]
    by_cases c : i < O (G.i 7 (4 * p + m))
    · rw [if_pos c, okZ_0, decide_eq_false (by omega)]; rfl
    · rw [if_neg c, okZ_1, decide_eq_true (by omega)]; rfl
theorem itN_inv {α : Type} {P : α → Prop} {f : Nat → α → α} : ∀ {n : Nat} {S : α}, (∀ i S, i < n → P S → P (f i S)) → P S → P (itN f n S)
  | 0, _, _, h => h
  | n + 1, S, hf, h => hf n _ (by omega) (itN_inv (n := n) (fun i S hi => hf i S (by omega)) h)
/-- once there are too many nothing more is cast -/
def sk (f : Nat → SS → SS) (n : Nat) (S : SS) : SS := if S.2.2.2.1 = true then S else f n S
def d2 (G : Gr) (H O : Nat → Nat) (p i j : Nat) : SS → SS := itN (sk (c3 G false H O p i j)) (nCh G p H 3)
def d1 (G : Gr) (H O : Nat → Nat) (p i : Nat) : SS → SS := itN (sk (d2 G H O p i)) (nCh G p H 2)
def d0 (G : Gr) (H O : Nat → Nat) (p : Nat) : SS → SS := itN (sk (d1 G H O p)) (nCh G p H 1)
def dPr (G : Gr) (H O : Nat → Nat) (r p : Nat) (S : SS) : SS := if G.i 6 p = 1 then (if r = 1 then sCast G p 0 0 0 S else S) else d0 G H O p S
def dRd (G : Gr) (H O : Nat → Nat) (r : Nat) : SS → SS := itN (dPr G H O r) (G.i 0 1)
theorem sk_t {f : Nat → SS → SS} {n : Nat} {S : SS} (h : S.2.2.2.1 = true) : sk f n S = S := if_pos h
theorem sk_f {f : Nat → SS → SS} {n : Nat} {S : SS} (h : S.2.2.2.1 = false) : sk f n S = f n S := if_neg (by rw [h]; decide)
theorem itN_t {f : Nat → SS → SS} {S : SS} (h : S.2.2.2.1 = true) : ∀ n, itN (sk f) n S = S
  | 0 => rfl
  | n + 1 => by
    show sk f n (itN (sk f) n S) = S
    rw [itN_t h n, sk_t h]
/-- what every cast keeps -/
def GS (H : Nat → Nat) (S : SS) : Prop := SO S ∧ ∀ s, H s ≤ S.1 s
theorem sKeep_le {s v t : Nat} {S : SS} : S.1 t ≤ (sKeep s v S).1 t := by
  unfold sKeep
  split
  · exact Nat.le_refl _
  · split
    · show S.1 t ≤ (if t = s then S.1 s + 1 else S.1 t)
      split
      · rename_i c1 c2 c3; subst c3; omega
      · exact Nat.le_refl _
    · exact Nat.le_refl _
theorem GS.cast {G : Gr} {H : Nat → Nat} {p i j k : Nat} {S : SS} (hq : QG G) (hp : p < G.i 0 1) (h : GS H S) : GS H (sCast G p i j k S) := ⟨h.1.cast hq hp, fun s => Nat.le_trans (h.2 s) (by unfold sCast; exact sKeep_le (S := (S.1, S.2.1, (S.2.2.1 || shX G p (ch G p S i j k)), S.2.2.2.1, S.2.2.2.2)))⟩
theorem GS.t3 {G : Gr} {b : Bool} {H O : Nat → Nat} {p i j k : Nat} {S : SS} (hq : QG G) (hp : p < G.i 0 1) (h : GS H S) : GS H (c3 G b H O p i j k S) := by
  unfold c3
  split
  · exact h.cast hq hp
  · exact h
theorem GS.t2 {G : Gr} {b : Bool} {H O : Nat → Nat} {p i j n : Nat} {S : SS} (hq : QG G) (hp : p < G.i 0 1) (h : GS H S) : GS H (itN (c3 G b H O p i j) n S) := itN_inv (P := GS H) (fun _ _ _ h => h.t3 hq hp) h
theorem GS.t1 {G : Gr} {b : Bool} {H O : Nat → Nat} {p i n : Nat} {S : SS} (hq : QG G) (hp : p < G.i 0 1) (h : GS H S) : GS H (itN (c2 G b H O p i) n S) := itN_inv (P := GS H) (fun _ _ _ h => h.t2 hq hp) h
theorem GS.t0 {G : Gr} {b : Bool} {H O : Nat → Nat} {p n : Nat} {S : SS} (hq : QG G) (hp : p < G.i 0 1) (h : GS H S) : GS H (itN (c1 G b H O p) n S) := itN_inv (P := GS H) (fun _ _ _ h => h.t1 hq hp) h
theorem GS.skp {H : Nat → Nat} {f : Nat → SS → SS} {n : Nat} {S : SS} (hf : GS H S → GS H (f n S)) (h : GS H S) : GS H (sk f n S) := by
  show GS H (if S.2.2.2.1 = true then S else f n S)
  split
  · exact h
  · exact hf h
theorem GS.u2 {G : Gr} {H O : Nat → Nat} {p i j n : Nat} {S : SS} (hq : QG G) (hp : p < G.i 0 1) (h : GS H S) : GS H (itN (sk (c3 G false H O p i j)) n S) := itN_inv (P := GS H) (fun _ _ _ h => h.skp fun h => h.t3 hq hp) h
theorem GS.u1 {G : Gr} {H O : Nat → Nat} {p i n : Nat} {S : SS} (hq : QG G) (hp : p < G.i 0 1) (h : GS H S) : GS H (itN (sk (d2 G H O p i)) n S) := itN_inv (P := GS H) (fun _ _ _ h => h.skp fun h => h.u2 hq hp) h
theorem GS.u0 {G : Gr} {H O : Nat → Nat} {p n : Nat} {S : SS} (hq : QG G) (hp : p < G.i 0 1) (h : GS H S) : GS H (itN (sk (d1 G H O p)) n S) := itN_inv (P := GS H) (fun _ _ _ h => h.skp fun h => h.u1 hq hp) h
theorem GS.upr {G : Gr} {H O : Nat → Nat} {r p : Nat} {S : SS} (hq : QG G) (hp : p < G.i 0 1) (h : GS H S) : GS H (dPr G H O r p S) := by
  unfold dPr
  split
  · split
    · exact h.cast hq hp
    · exact h
  · exact h.u0 hq hp
theorem GS.pr {G : Gr} {b : Bool} {H O : Nat → Nat} {r p : Nat} {S : SS} (hq : QG G) (hp : p < G.i 0 1) (h : GS H S) : GS H (sPr G b H O r p S) := by
  unfold sPr
  split
  · split
    · exact h.cast hq hp
    · exact h
  · split
    · exact h
    · exact h.t0 hq hp
theorem nCh_13 {G : Gr} {H : Nat → Nat} {S : SS} {p m : Nat} (h : GS H S) : nCh G p H m < 13 := by
  unfold nCh
  split
  · have := h.2 (G.i 7 (4 * p + m)); have := (h.1 (G.i 7 (4 * p + m))).1; omega
  · omega
theorem nCh_in {G : Gr} {H : Nat → Nat} {S : SS} {p m i : Nat} (h : GS H S) (hi : i < nCh G p H m) (hm : m < G.i 6 p) : i < S.1 (G.i 7 (4 * p + m)) := by
  unfold nCh at hi
  rw [if_pos hm] at hi
  have := h.2 (G.i 7 (4 * p + m)); omega
theorem itN_ov {f : Nat → SS → SS} {S : SS} {k n : Nat} (h : k ≤ n) (ov : (itN (sk f) k S).2.2.2.1 = true) : itN (sk f) n S = itN (sk f) k S := by
  obtain ⟨d, rfl⟩ := Nat.exists_eq_add_of_le h
  clear h
  induction d with
  | zero => rfl
  | succ d ih =>
    show sk f (k + d) (itN (sk f) (k + d) S) = _
    rw [ih, sk_t ov]
theorem loop_castK {g p i j : Nat} {G : Gr} {H O : Nat → Nat} {S : SS} (N : Nat) (hN : 2000 < N) (hq : QG G) (hg : g = 35 ∨ g = 52) (hp : p < G.i 0 1) (hi : i < nCh G p H 1) (hj : j < nCh G p H 2) (hS : GS H S) (hO : ∀ s, O s ≤ 12) (kE : Mm → Option Mm) : ∀ (fu k : Nat) (M : Mm), k ≤ nCh G p H 3 → 14 < k + fu → CG g G M → HO H O M → CS G (itN (sk (c3 G false H O p i j)) k S) M → ∃ M', L_X6_castEach_45 kE N 24 g (nI p) (nI i) (nI j) fu (nI k) M = kE M' ∧ CS G (d2 G H O p i j S) M' ∧ FX PSh M M'
  | 0, k, M, h1, h2, _, _, _ => by have := nCh_13 (G := G) (p := p) (m := 3) hS; omega
  | fu + 1, k, M, h1, h2, K, hH, hM => by
    have n1 := nCh_13 (G := G) (p := p) (m := 1) hS
    have n2 := nCh_13 (G := G) (p := p) (m := 2) hS
    have n3 := nCh_13 (G := G) (p := p) (m := 3) hS
    rw [L_X6_castEach_45, s_choices N hq hp (by omega) K hH, Option.bind_some]
    simp only [n_le (show nCh G p H 3 < 2 ^ 31 by omega) (show k < 2 ^ 31 by omega)]
    by_cases e : nCh G p H 3 ≤ k
    · have ek : k = nCh G p H 3 := by omega
      subst ek
      rw [if_pos e]; exact ⟨M, rfl, hM, FX.refl⟩
    · have gk : GS H (itN (sk (c3 G false H O p i j)) k S) := hS.u2 hq hp
      rw [if_neg e, show M.1 24 10 = bI (itN (sk (c3 G false H O p i j)) k S).2.2.2.1 from hM.2.2]
      have es : itN (sk (c3 G false H O p i j)) (k + 1) S = sk (c3 G false H O p i j) k (itN (sk (c3 G false H O p i j)) k S) := rfl
      cases ov : (itN (sk (c3 G false H O p i j)) k S).2.2.2.1
      · rw [sk_f ov] at es
        have e3 : c3 G false H O p i j k (itN (sk (c3 G false H O p i j)) k S) = if (false || isN G p O 1 i || isN G p O 2 j || isN G p O 3 k) = true then sCast G p i j k (itN (sk (c3 G false H O p i j)) k S) else itN (sk (c3 G false H O p i j)) k S := rfl
        have yes : (isN G p O 1 i || isN G p O 2 j || isN G p O 3 k) = true → ∃ M', ((D_X6_cast N 24 g (nI p) (nI i) (nI j) (nI k) M).bind fun M4 => L_X6_castEach_45 kE N 24 g (nI p) (nI i) (nI j) fu (nI (k + 1)) M4) = kE M' ∧ CS G (d2 G H O p i j S) M' ∧ FX PSh M M' := fun c => by
          obtain ⟨M1, a1, a2, a3⟩ := s_cast (i := i) (j := j) (k := k) N hN hq hg hp (fun m => nCh_in gk hi m) (fun m => nCh_in gk hj m) (fun m => nCh_in gk (by omega) m) K hM gk.1
          rw [a1, Option.bind_some]
          obtain ⟨M2, b1, b2, b3⟩ := loop_castK N hN hq hg hp hi hj hS hO kE fu (k + 1) M1 (by omega) (by omega) (K.fx a3 fun k hk j q => q.cg hg hk rfl) (hH.fx a3) (by rw [es, e3, Bool.false_or, if_pos c]; exact a2)
          exact ⟨M2, b1, b2, a3.trans b3⟩
        rw [if_pos bI_f, s_isNew N hq hp (by omega) (by omega) hO K hH (by omega), Option.bind_some]
        simp only [jn, bI_0, Option.bind_some, nI_add]
        cases x1 : isN G p O 1 i
        · rw [if_pos rfl, s_isNew N hq hp (by omega) (by omega) hO K hH (by omega), Option.bind_some]
          simp only [bI_0]
          cases x2 : isN G p O 2 j
          · rw [if_pos rfl, s_isNew N hq hp (by omega) (by omega) hO K hH (by omega), Option.bind_some]
            simp only [bI_0]
            cases x3 : isN G p O 3 k
            · rw [if_pos rfl]
              obtain ⟨M2, b1, b2, b3⟩ := loop_castK N hN hq hg hp hi hj hS hO kE fu (k + 1) M (by omega) (by omega) K hH (by rw [es, e3, x1, x2, x3, if_neg (by decide)]; exact hM)
              exact ⟨M2, b1, b2, b3⟩
            · rw [if_neg (by decide)]; exact yes (by rw [x1, x2, x3]; rfl)
          · rw [if_neg (by decide)]; exact yes (by rw [x1, x2]; rfl)
        · rw [if_neg (by decide)]; exact yes (by rw [x1]; rfl)
      · rw [if_neg (show ¬ bI true = nI 0 from z10)]
        exact ⟨M, rfl, by rw [d2, itN_ov h1 ov]; exact hM, FX.refl⟩
theorem loop_castJ {g p i : Nat} {G : Gr} {H O : Nat → Nat} {S : SS} (N : Nat) (hN : 2000 < N) (hq : QG G) (hg : g = 35 ∨ g = 52) (hp : p < G.i 0 1) (hi : i < nCh G p H 1) (hS : GS H S) (hO : ∀ s, O s ≤ 12) (kE : Mm → Option Mm) : ∀ (fu j : Nat) (M : Mm), j ≤ nCh G p H 2 → 14 < j + fu → CG g G M → HO H O M → CS G (itN (sk (d2 G H O p i)) j S) M → ∃ M', L_X6_castEach_23 kE N 24 g (nI p) (nI i) fu (nI j) M = kE M' ∧ CS G (d1 G H O p i S) M' ∧ FX PSh M M'
  | 0, j, M, h1, h2, _, _, _ => by have := nCh_13 (G := G) (p := p) (m := 2) hS; omega
  | fu + 1, j, M, h1, h2, K, hH, hM => by
    have n2 := nCh_13 (G := G) (p := p) (m := 2) hS
    rw [L_X6_castEach_23, s_choices N hq hp (by omega) K hH, Option.bind_some]
    simp only [n_le (show nCh G p H 2 < 2 ^ 31 by omega) (show j < 2 ^ 31 by omega)]
    by_cases e : nCh G p H 2 ≤ j
    · have ej : j = nCh G p H 2 := by omega
      subst ej
      rw [if_pos e]; exact ⟨M, rfl, hM, FX.refl⟩
    · have gj : GS H (itN (sk (d2 G H O p i)) j S) := hS.u1 hq hp
      rw [if_neg e, show M.1 24 10 = bI (itN (sk (d2 G H O p i)) j S).2.2.2.1 from hM.2.2]
      cases ov : (itN (sk (d2 G H O p i)) j S).2.2.2.1
      · rw [if_pos bI_f]
        obtain ⟨M1, a1, a2, a3⟩ := loop_castK (S := itN (sk (d2 G H O p i)) j S) (j := j) N hN hq hg hp hi (by omega) gj hO (fun (M5 : Mm) => ((some (nI j + (nI 1))).bind fun l4_2 => (L_X6_castEach_23 kE N 24 g (nI p) (nI i) fu l4_2 M5))) N 0 M (Nat.zero_le _) (by omega) K hH hM
        rw [a1, Option.bind_some, nI_add]
        obtain ⟨M2, b1, b2, b3⟩ := loop_castJ N hN hq hg hp hi hS hO kE fu (j + 1) M1 (by omega) (by omega) (K.fx a3 fun k hk j q => q.cg hg hk rfl) (hH.fx a3) (by
          show CS G (sk (d2 G H O p i) j (itN (sk (d2 G H O p i)) j S)) M1
          rw [sk_f ov]; exact a2)
        exact ⟨M2, b1, b2, a3.trans b3⟩
      · rw [if_neg (show ¬ bI true = nI 0 from z10)]
        exact ⟨M, rfl, by rw [d1, itN_ov h1 ov]; exact hM, FX.refl⟩
theorem loop_castI {g p : Nat} {G : Gr} {H O : Nat → Nat} {S : SS} (N : Nat) (hN : 2000 < N) (hq : QG G) (hg : g = 35 ∨ g = 52) (hp : p < G.i 0 1) (hS : GS H S) (hO : ∀ s, O s ≤ 12) : ∀ (fu i : Nat) (M : Mm), i ≤ nCh G p H 1 → 14 < i + fu → CG g G M → HO H O M → CS G (itN (sk (d1 G H O p)) i S) M → ∃ M', L_X6_castEach_2 N 24 g (nI p) fu (nI i) M = some M' ∧ CS G (d0 G H O p S) M' ∧ FX PSh M M'
  | 0, i, M, h1, h2, _, _, _ => by have := nCh_13 (G := G) (p := p) (m := 1) hS; omega
  | fu + 1, i, M, h1, h2, K, hH, hM => by
    have n1 := nCh_13 (G := G) (p := p) (m := 1) hS
    rw [L_X6_castEach_2, s_choices N hq hp (by omega) K hH, Option.bind_some]
    simp only [n_le (show nCh G p H 1 < 2 ^ 31 by omega) (show i < 2 ^ 31 by omega)]
    by_cases e : nCh G p H 1 ≤ i
    · have ei : i = nCh G p H 1 := by omega
      subst ei
      rw [if_pos e]; exact ⟨M, rfl, hM, FX.refl⟩
    · have gi : GS H (itN (sk (d1 G H O p)) i S) := hS.u0 hq hp
      rw [if_neg e, show M.1 24 10 = bI (itN (sk (d1 G H O p)) i S).2.2.2.1 from hM.2.2]
      cases ov : (itN (sk (d1 G H O p)) i S).2.2.2.1
      · rw [if_pos bI_f]
        obtain ⟨M1, a1, a2, a3⟩ := loop_castJ (S := itN (sk (d1 G H O p)) i S) (i := i) N hN hq hg hp (by omega) gi hO (fun (M6 : Mm) => ((some (nI i + (nI 1))).bind fun l3_2 => (L_X6_castEach_2 N 24 g (nI p) fu l3_2 M6))) N 0 M (Nat.zero_le _) (by omega) K hH hM
        rw [a1, Option.bind_some, nI_add]
        obtain ⟨M2, b1, b2, b3⟩ := loop_castI N hN hq hg hp hS hO fu (i + 1) M1 (by omega) (by omega) (K.fx a3 fun k hk j q => q.cg hg hk rfl) (hH.fx a3) (by
          show CS G (sk (d1 G H O p) i (itN (sk (d1 G H O p)) i S)) M1
          rw [sk_f ov]; exact a2)
        exact ⟨M2, b1, b2, a3.trans b3⟩
      · rw [if_neg (show ¬ bI true = nI 0 from z10)]
        exact ⟨M, rfl, by rw [d0, itN_ov h1 ov]; exact hM, FX.refl⟩
theorem s_castEach {g p : Nat} {G : Gr} {H O : Nat → Nat} {S : SS} {M : Mm} (N : Nat) (hN : 2000 < N) (hq : QG G) (hg : g = 35 ∨ g = 52) (hp : p < G.i 0 1) (hS : GS H S) (hO : ∀ s, O s ≤ 12) (K : CG g G M) (hH : HO H O M) (hM : CS G S M) : ∃ M', D_X6_castEach N 24 g (nI p) M = some M' ∧ CS G (d0 G H O p S) M' ∧ FX PSh M M' := loop_castI N hN hq hg hp hS hO N 0 M (Nat.zero_le _) (by omega) K hH hM
