-- the reference seeks shades
def PSb (b j : Nat) : Prop := b = 144 ∨ PSm b j
theorem QT.sb {G : Gr} {M M' : Mm} (h : QT G M) {P : Nat → Nat → Prop} (f : FX P M M') (hP : ∀ b j, P b j → b = 137 ∨ 142 < b) : QT G M' := h.fx f (fun j q => by have := hP _ _ q; omega) (fun j q => by have := hP _ _ q; omega)
theorem r_shadesBy {G : Gr} {p i j k r q : Nat} {S : SS} {M : Mm} (N : Nat) (hN : 2000 < N) (hq : QG G) (hp : p < G.i 0 1) (hr : 1 ≤ r ∧ r < 1000 ∧ q < 1000) (hO : SO S) (v : VC G p i j k S) (K : QT G M) (hS : HSh r q S M) (hC : HCh G p i j k M) : ∃ M', D_X12_shadesBy N 137 (nI p) M = some M' ∧ HSh r q (sCast G p i j k S) M' ∧ FX PSb M M' := by
  have hsd := hq.sd hp
  have hnp := hq.np
  have hns := hq.ns
  have hs : G.i 7 (4 * p) < G.i 0 0 := hq.sy hp (show 0 < G.i 6 p by omega)
  have h4 := hq.at' hs
  have nP4 : ∀ b j, P4 b j → b = 137 ∨ 142 < b := fun b j q => by unfold P4 at q; omega
  unfold D_X12_shadesBy
  obtain ⟨M1, a1, a2, a3⟩ := r_laysRules N hN hp K
  have K1 := K.sb a3 nP4
  have S1 := hS.fx a3 (fun j q => by unfold P4 at q; omega) (fun j q => by unfold P4 at q; omega) (fun j _ _ q => by unfold P4 at q; omega)
  have C1 : HCh G p i j k M1 := fun m x y => (a3.2 156 m (fun q => by unfold P4 at q; omega)).1.trans (hC m x y)
  have r1 : HRo 144 0 32 (shR G p (ch G p S i j k) 1) M1 := a2.cg fun o ho => by
    unfold shR shA
    by_cases e : o < 8 * G.i 6 p
    · rw [if_pos e, if_neg (fun z => by omega), Nat.or_zero]
    · rw [if_neg e, hq.ak_0 hp ho (us_out hq hp (by omega))]
  obtain ⟨M2, b1, b2, b3⟩ := loop_shadeAll N hN hq hp hO v (fun (M6 : Mm) => ((D_X12_closes N 137 M6).bind fun M7 => (D_X12_firstSelf N 137 M7).bind fun q3 => ((if q3 = m1 then (some M7) else (if (M7.1 137 40) = nI 0 then ((pI M7 137 40 (M7.1 137 39)).bind fun M10 => (some M10)) else (some M7))).bind fun p146 => ((ldI 3816 (137 + 2) ((nI 20) + nI p) p146).bind fun v7 => (ldI 3816 (137 + 2) ((nI 4) + v7) p146).bind fun v8 => (L_X12_shadesBy_168 N 137 v7 p146 N (nI 0) v8))))) N 1 M1 (by omega) (by omega) (by omega) K1 S1 C1 r1
  rw [a1, Option.bind_some, b1]
  obtain ⟨M3, c1, c2, c3⟩ := r_closes N hN ((shR_sq (m := G.i 6 p) (c := ch G p S i j k) hq hp).lt (by omega)) b2
  rw [clo_32 (shR_sq hq hp) (by omega)] at c2
  have F3 : FX P4 M M3 := (a3.trans b3).trans (c3.mono fun a j q => q)
  have K3 := K.sb F3 nP4
  have S3 := hS.fx F3 (fun j q => by unfold P4 at q; omega) (fun j q => by unfold P4 at q; omega) (fun j _ _ q => by unfold P4 at q; omega)
  have lt3 : LT (shC G p (ch G p S i j k)) := (shC_sq hq hp).lt (by omega)
  rw [c1, Option.bind_some, r_firstSelf N hN lt3 c2, Option.bind_some]
  have eX : (fR (fb (fun o => (shC G p (ch G p S i j k) o).testBit o) 32) 32 = m1) = (shX G p (ch G p S i j k) = false) := by
    rw [fR_m1 (by omega)]
    have w := fb_wide (f := fun o => (shC G p (ch G p S i j k) o).testBit o) (w := 8 * G.i 6 p) (w' := 32) (by omega) (fun x h1 h2 => by
      have := (shC_sq (c := ch G p S i j k) hq hp).1 x h1
      show (shC G p (ch G p S i j k) x).testBit x = false
      rw [this]; exact Nat.zero_testBit x)
    unfold shX
    by_cases z : fb (fun o => (shC G p (ch G p S i j k) o).testBit o) (8 * G.i 6 p) < 8 * G.i 6 p
    · rw [decide_eq_true z, w.1 z]
      refine propext ⟨fun y => absurd (show _ < 32 by omega) y, fun y => absurd y (by decide)⟩
    · rw [decide_eq_false z, w.2 z]
      refine propext ⟨fun _ => rfl, fun _ => by omega⟩
  have key : ∃ M4, (if fR (fb (fun o => (shC G p (ch G p S i j k) o).testBit o) 32) 32 = m1 then (some M3) else (if (M3.1 137 40) = nI 0 then ((pI M3 137 40 (M3.1 137 39)).bind fun M10 => (some M10)) else (some M3))) = some M4 ∧ HSh r q (S.1, S.2.1, (S.2.2.1 || shX G p (ch G p S i j k)), S.2.2.2.1, S.2.2.2.2) M4 ∧ FX (fun b j => b = 137 ∧ j = 40) M3 M4 := by
    simp only [eX]
    have e40 := S3.2.2.2.2
    have e39 := S3.2.2.2.1
    cases x : shX G p (ch G p S i j k)
    · rw [if_pos rfl, Bool.or_false]; exact ⟨M3, rfl, S3, FX.refl⟩
    · have lt : (if q = 0 ∧ S.2.2.1 = true then r else q) < 2 ^ 31 := by split <;> omega
      rw [if_neg (by decide), Bool.or_true, e40]
      simp only [n_eq lt (show 0 < 2 ^ 31 by omega)]
      by_cases y : (if q = 0 ∧ S.2.2.1 = true then r else q) = 0
      · rw [if_pos y, pI_n, Option.bind_some, e39]
        have q0 : q = 0 := by
          by_cases z : q = 0 ∧ S.2.2.1 = true
          · exact z.1
          · rw [if_neg z] at y; exact y
        refine ⟨_, rfl, ⟨fun s hs => ⟨by rw [up1, if_neg (by decide)]; exact (S3.1 s hs).1, fun i hi => by rw [up1, if_neg (by decide)]; exact (S3.1 s hs).2 i hi⟩, ?_, ?_, ?_, ?_⟩, FX.I ⟨rfl, rfl⟩⟩
        · rw [upI_j, if_neg (by decide)]; exact S3.2.1
        · rw [upI_j, if_neg (by decide)]; exact S3.2.2.1
        · rw [upI_j, if_neg (by decide)]; exact e39
        · rw [upI_s, if_pos ⟨q0, rfl⟩]
      · rw [if_neg y]
        refine ⟨M3, rfl, ⟨S3.1, S3.2.1, S3.2.2.1, e39, ?_⟩, FX.refl⟩
        rw [e40]
        show nI (if q = 0 ∧ S.2.2.1 = true then r else q) = nI (if q = 0 ∧ true = true then r else q)
        by_cases z2 : q = 0 ∧ S.2.2.1 = true
        · rw [if_pos z2, if_pos ⟨z2.1, rfl⟩]
        · rw [if_neg z2] at y
          rw [if_neg z2, if_neg (fun w => y w.1)]
  obtain ⟨M4, k1, k2, k3⟩ := key
  have K4 : QT G M4 := K3.sb k3 fun b j q => Or.inl q.1
  have r4 : HRo 144 0 32 (shC G p (ch G p S i j k)) M4 := c2.fx k3 fun j _ _ q => by omega
  have lLf : M4.1 139 (20 + p) = nI (G.i 7 (4 * p)) := ((K4.1.2.2.1 p hp).2 (by omega)).1
  have lIn : M4.1 139 (4 + G.i 7 (4 * p)) = nI (G.i 4 (G.i 7 (4 * p))) := (K4.1.2.1 _ hs).1
  rw [k1, Option.bind_some, show (137 : Nat) + 2 = 139 from rfl, nI_add, ldI_n (by omega) (by omega), lLf, Option.bind_some, nI_add, ldI_n (by omega) (by omega), lIn, Option.bind_some]
  have lv := loop_shadeV N hq hp K4 r4 N 0 (Nat.zero_le _) (by omega)
  rw [show shV G p (ch G p S i j k) 0 = 0 from rfl, Nat.add_zero] at lv
  obtain ⟨M5, d1, d2, d3⟩ := r_keepsShade N hN (show G.i 7 (4 * p) < 8 by omega) (shV_lt (c := ch G p S i j k) hq hp (G.i 5 (G.i 7 (4 * p))) h4.2) k2 (show SO (S.1, S.2.1, (S.2.2.1 || shX G p (ch G p S i j k)), S.2.2.2.1, S.2.2.2.2) from hO)
  rw [lv, d1, Option.bind_some]
  exact ⟨M5, rfl, d2, ((F3.mono fun b j q => Or.inl q).trans (k3.mono fun b j q => Or.inr (by unfold PSm; omega))).trans (d3.mono fun b j q => Or.inr q)⟩
def PSw (m b j : Nat) : Prop := b = 144 ∨ PSm b j ∨ b = 156 ∧ m ≤ j
theorem PSb.w {m b j : Nat} (h : PSb b j) : PSw m b j := by cases h with
  | inl h => exact Or.inl h
  | inr h => exact Or.inr (Or.inl h)
theorem PSw.m {m m' b j : Nat} (hm : m' ≤ m) (h : PSw m b j) : PSw m' b j := by
  rcases h with h | h | h
  · exact Or.inl h
  · exact Or.inr (Or.inl h)
  · exact Or.inr (Or.inr ⟨h.1, by omega⟩)
theorem PSw.n {m b j : Nat} (h : PSw m b j) : b = 137 ∨ 142 < b := by unfold PSw PSm at h; omega
/-- what holds while choosing -/
def Qc (G : Gr) (H : Nat → Nat) (r q : Nat) (S : SS) (M : Mm) : Prop := QT G M ∧ HSh r q S M ∧ (∀ s, s < G.i 0 0 → M.1 155 s = nI (H s)) ∧ GS H S
theorem Qc.w {G : Gr} {H : Nat → Nat} {r q m : Nat} {S S' : SS} {M M' : Mm} (h : Qc G H r q S M) (f : FX (PSw m) M M') (h1 : HSh r q S' M') (h2 : GS H S') : Qc G H r q S' M' := ⟨h.1.sb f fun b j q => q.n, h1, fun s hs => (f.2 155 s (fun q => by unfold PSw PSm at q; omega)).1.trans (h.2.2.1 s hs), h2⟩
theorem loop_ch {G : Gr} {H : Nat → Nat} {p m r q : Nat} {f : Nat → SS → SS} {rc : Nat → Int32 → Int32 → Mm → Option Mm} {L : Mm → Prop} (hq : QG G) (hp : p < G.i 0 1) (h1 : 1 ≤ m) (hm : m < G.i 6 p) (hL : ∀ M M', L M → FX (PSw m) M M' → L M') (hrc : ∀ x S M, x < H (G.i 7 (4 * p + m)) → Qc G H r q S M → M.1 156 m = nI x → L M → ∃ M', rc 137 (nI p) (nI (m + 1)) M = some M' ∧ Qc G H r q (f x S) M' ∧ FX (PSw (m + 1)) M M') (S : SS) : ∀ (fu x : Nat) (M : Mm), x ≤ H (G.i 7 (4 * p + m)) → 14 < x + fu → Qc G H r q (itN f x S) M → L M → ∃ M', L_X12_chooses_32 137 (nI (G.i 7 (4 * p + m))) (nI m) rc (nI p) fu (nI x) M = some M' ∧ Qc G H r q (itN f (H (G.i 7 (4 * p + m))) S) M' ∧ FX (PSw m) M M'
  | 0, x, M, e1, e2, Q, _ => by
    have a := (Q.2.2.2.1 (G.i 7 (4 * p + m))).1
    have b := Q.2.2.2.2 (G.i 7 (4 * p + m))
    omega
  | fu + 1, x, M, e1, e2, Q, hl => by
    have hsd := hq.sd hp
    have hns := hq.ns
    have hs := hq.sy hp hm
    have a := (Q.2.2.2.1 (G.i 7 (4 * p + m))).1
    have b := Q.2.2.2.2 (G.i 7 (4 * p + m))
    rw [L_X12_chooses_32, show (137 : Nat) + 18 = 155 from rfl, show (137 : Nat) + 19 = 156 from rfl, ldI_n (by omega) (by omega), Q.2.2.1 _ hs, Option.bind_some]
    simp only [n_le (show H (G.i 7 (4 * p + m)) < 2 ^ 31 by omega) (show x < 2 ^ 31 by omega)]
    by_cases e : H (G.i 7 (4 * p + m)) ≤ x
    · have ex : x = H (G.i 7 (4 * p + m)) := by omega
      rw [if_pos e]
      rw [ex] at Q
      exact ⟨M, rfl, Q, FX.refl⟩
    · have f0' : FX (fun b j => b = 156 ∧ j = m) M (upI M 156 m (nI x)) := FX.I ⟨rfl, rfl⟩
      have f0 : FX (PSw m) M (upI M 156 m (nI x)) := f0'.mono fun b j z => Or.inr (Or.inr ⟨z.1, by omega⟩)
      have Q0 : Qc G H r q (itN f x S) (upI M 156 m (nI x)) := Q.w f0 (Q.2.1.fx f0' (fun j z => by omega) (fun j z => by omega) (fun j z1 z2 z => by omega)) Q.2.2.2
      rw [if_neg e, stI_n (by omega) (by omega), Option.bind_some, nI_add]
      obtain ⟨M1, b1, b2, b3⟩ := hrc x (itN f x S) (upI M 156 m (nI x)) (by omega) Q0 (upI_s _ _ _ _) (hL _ _ hl f0)
      have F1 : FX (PSw m) M M1 := f0.trans (b3.mono fun b j z => z.m (by omega))
      rw [b1, Option.bind_some, Option.bind_some, nI_add]
      obtain ⟨M2, c1, c2, c3⟩ := loop_ch (f := f) hq hp h1 hm hL hrc S fu (x + 1) M1 (by omega) (by omega) b2 (hL _ _ hl F1)
      exact ⟨M2, c1, c2, F1.trans c3⟩
theorem chooses_s (N fu a0 : Nat) (a1 a2 : Int32) (M : Mm) : D_X12_chooses N (fu + 1) a0 a1 a2 M = DB_X12_chooses N (D_X12_chooses N fu) a0 a1 a2 M := rfl
/-- when all are chosen -/
theorem r_chEnd {G : Gr} {H : Nat → Nat} {p m i j k r q : Nat} {S : SS} {M : Mm} (N fu : Nat) (hN : 2000 < N) (hq : QG G) (hp : p < G.i 0 1) (hr : 1 ≤ r ∧ r < 1000 ∧ q < 1000) (hm : G.i 6 p ≤ m) (hm2 : m ≤ 4) (Q : Qc G H r q S M) (v : VC G p i j k S) (hC : HCh G p i j k M) : ∃ M', D_X12_chooses N (fu + 1) 137 (nI p) (nI m) M = some M' ∧ Qc G H r q (sCast G p i j k S) M' ∧ FX (PSw m) M M' := by
  have hsd := hq.sd hp
  have hnp := hq.np
  rw [chooses_s]
  unfold DB_X12_chooses
  rw [show (137 : Nat) + 2 = 139 from rfl, nI_add, ldI_n (by omega) (by omega), Q.1.kid hp, Option.bind_some]
  simp only [n_le (show m < 2 ^ 31 by omega) (show G.i 6 p - 1 < 2 ^ 31 by omega)]
  rw [if_neg (by omega)]
  obtain ⟨M1, a1, a2, a3⟩ := r_shadesBy N hN hq hp hr Q.2.2.2.1 v Q.1 Q.2.1 hC
  have a4 : FX (PSw m) M M1 := a3.mono fun b j z => z.w
  rw [a1, Option.bind_some]
  exact ⟨M1, rfl, Q.w a4 a2 (Q.2.2.2.cast hq hp), a4⟩
/-- one more to choose -/
theorem r_chMore {G : Gr} {H : Nat → Nat} {p m r q : Nat} {f : Nat → SS → SS} {L : Mm → Prop} {S : SS} {M : Mm} (N fu : Nat) (hN : 2000 < N) (hq : QG G) (hp : p < G.i 0 1) (h1 : 1 ≤ m) (hm : m < G.i 6 p) (hL : ∀ M M', L M → FX (PSw m) M M' → L M') (hrc : ∀ x S M, x < H (G.i 7 (4 * p + m)) → Qc G H r q S M → M.1 156 m = nI x → L M → ∃ M', D_X12_chooses N fu 137 (nI p) (nI (m + 1)) M = some M' ∧ Qc G H r q (f x S) M' ∧ FX (PSw (m + 1)) M M') (Q : Qc G H r q S M) (l : L M) : ∃ M', D_X12_chooses N (fu + 1) 137 (nI p) (nI m) M = some M' ∧ Qc G H r q (itN f (nCh G p H m) S) M' ∧ FX (PSw m) M M' := by
  have hsd := hq.sd hp
  have hnp := hq.np
  rw [chooses_s]
  unfold DB_X12_chooses nCh
  rw [if_pos hm, show (137 : Nat) + 2 = 139 from rfl, nI_add, ldI_n (by omega) (by omega), Q.1.kid hp, Option.bind_some]
  simp only [n_le (show m < 2 ^ 31 by omega) (show G.i 6 p - 1 < 2 ^ 31 by omega)]
  rw [if_pos (by omega), Q.1.sym N hp hm, Option.bind_some]
  exact loop_ch hq hp h1 hm hL hrc S N 0 M (Nat.zero_le _) (by omega) Q l
theorem c3_t {G : Gr} {H O : Nat → Nat} {p i j k : Nat} {S : SS} : c3 G true H O p i j k S = sCast G p i j k S := by unfold c3; rw [Bool.true_or, Bool.true_or, Bool.true_or, if_pos rfl]
theorem nCh_1 {G : Gr} {H : Nat → Nat} {p m : Nat} (h : G.i 6 p ≤ m) : nCh G p H m = 1 := by unfold nCh; rw [if_neg (by omega)]
theorem r_ch3 {G : Gr} {H O : Nat → Nat} {p i j r q : Nat} {S : SS} {M : Mm} (N fu : Nat) (hN : 2000 < N) (hq : QG G) (hp : p < G.i 0 1) (hr : 1 ≤ r ∧ r < 1000 ∧ q < 1000) (hi : i < nCh G p H 1) (hj : j < nCh G p H 2) (Q : Qc G H r q S M) (c1' : 1 < G.i 6 p → M.1 156 1 = nI i) (c2' : 2 < G.i 6 p → M.1 156 2 = nI j) : ∃ M', D_X12_chooses N (fu + 2) 137 (nI p) (nI 3) M = some M' ∧ Qc G H r q (c2 G true H O p i j S) M' ∧ FX (PSw 3) M M' := by
  have hsd := hq.sd hp
  by_cases e : G.i 6 p ≤ 3
  · have n3 := nCh_1 (G := G) (H := H) (p := p) e
    have e2 : c2 G true H O p i j S = sCast G p i j 0 S := by unfold c2; rw [n3]; exact c3_t
    rw [e2]
    exact r_chEnd N (fu + 1) hN hq hp hr e (by omega) Q (VC.of Q.2.2.2 hi hj (by rw [n3]; omega)) fun m x y => by
      have : m = 1 ∨ m = 2 := by omega
      cases this with
      | inl z => subst z; exact c1' y
      | inr z => subst z; exact c2' y
  · have s4 : G.i 6 p = 4 := by omega
    refine r_chMore (f := c3 G true H O p i j) (L := fun M => M.1 156 1 = nI i ∧ M.1 156 2 = nI j) N (fu + 1) hN hq hp (by omega) (by omega) (fun M M' l f => ⟨(f.2 156 1 (fun z => by unfold PSw PSm at z; omega)).1.trans l.1, (f.2 156 2 (fun z => by unfold PSw PSm at z; omega)).1.trans l.2⟩) (fun x S M hx Q ex l => ?_) Q ⟨c1' (by omega), c2' (by omega)⟩
    rw [c3_t]
    exact r_chEnd N fu hN hq hp hr (by omega) (by omega) Q (VC.of Q.2.2.2 hi hj (by unfold nCh; rw [if_pos (by omega)]; exact hx)) fun m x y => by
      have : m = 1 ∨ m = 2 ∨ m = 3 := by omega
      rcases this with z | z | z
      · subst z; exact l.1
      · subst z; exact l.2
      · subst z; exact ex
theorem r_ch2 {G : Gr} {H O : Nat → Nat} {p i r q : Nat} {S : SS} {M : Mm} (N fu : Nat) (hN : 2000 < N) (hq : QG G) (hp : p < G.i 0 1) (hr : 1 ≤ r ∧ r < 1000 ∧ q < 1000) (hi : i < nCh G p H 1) (Q : Qc G H r q S M) (c1' : 1 < G.i 6 p → M.1 156 1 = nI i) : ∃ M', D_X12_chooses N (fu + 3) 137 (nI p) (nI 2) M = some M' ∧ Qc G H r q (c1 G true H O p i S) M' ∧ FX (PSw 2) M M' := by
  have hsd := hq.sd hp
  by_cases e : G.i 6 p ≤ 2
  · have n2 := nCh_1 (G := G) (H := H) (p := p) e
    have n3 := nCh_1 (G := G) (H := H) (p := p) (show G.i 6 p ≤ 3 by omega)
    have e2 : c1 G true H O p i S = sCast G p i 0 0 S := by
      unfold c1; rw [n2]
      show c2 G true H O p i 0 S = _
      unfold c2; rw [n3]; exact c3_t
    rw [e2]
    exact r_chEnd N (fu + 2) hN hq hp hr e (by omega) Q (VC.of Q.2.2.2 hi (by rw [n2]; omega) (by rw [n3]; omega)) fun m x y => by
      have z : m = 1 := by omega
      subst z; exact c1' y
  · refine r_chMore (f := c2 G true H O p i) (L := fun M => M.1 156 1 = nI i) N (fu + 2) hN hq hp (by omega) (by omega) (fun M M' l f => (f.2 156 1 (fun z => by unfold PSw PSm at z; omega)).1.trans l) (fun x S M hx Q ex l => ?_) Q (c1' (by omega))
    exact r_ch3 (O := O) N fu hN hq hp hr hi (by unfold nCh; rw [if_pos (by omega)]; exact hx) Q (fun _ => l) (fun _ => ex)
theorem r_ch1 {G : Gr} {H O : Nat → Nat} {p r q : Nat} {S : SS} {M : Mm} (N fu : Nat) (hN : 2000 < N) (hq : QG G) (hp : p < G.i 0 1) (hr : 1 ≤ r ∧ r < 1000 ∧ q < 1000) (Q : Qc G H r q S M) : ∃ M', D_X12_chooses N (fu + 4) 137 (nI p) (nI 1) M = some M' ∧ Qc G H r q (if G.i 6 p = 1 then sCast G p 0 0 0 S else c0 G true H O p S) M' ∧ FX (PSw 1) M M' := by
  have hsd := hq.sd hp
  by_cases e : G.i 6 p = 1
  · rw [if_pos e]
    exact r_chEnd N (fu + 3) hN hq hp hr (by omega) (by omega) Q ⟨fun z => by omega, fun z => by omega, fun z => by omega⟩ fun m x y => by omega
  · rw [if_neg e]
    refine r_chMore (f := c1 G true H O p) (L := fun _ => True) N (fu + 3) hN hq hp (by omega) (by omega) (fun M M' l f => trivial) (fun x S M hx Q ex l => ?_) Q trivial
    exact r_ch2 (O := O) N fu hN hq hp hr (by unfold nCh; rw [if_pos (by omega)]; exact hx) Q (fun _ => ex)
def PSv (b j : Nat) : Prop := PSw 1 b j ∨ b = 155
theorem loop_knowns {G : Gr} {r q : Nat} {S : SS} (hns : G.i 0 0 ≤ 8) (kE : Mm → Option Mm) : ∀ (fu s : Nat) (M : Mm), s ≤ G.i 0 0 → 9 < s + fu → QT G M → HSh r q S M → (∀ t, t < s → M.1 155 t = nI (S.1 t)) → ∃ M', L_X12_round_17 kE 137 fu (nI s) M = kE M' ∧ HSh r q S M' ∧ (∀ t, t < G.i 0 0 → M'.1 155 t = nI (S.1 t)) ∧ FX (fun b _ => b = 155) M M'
  | 0, s, M, h1, h2, _, _, _ => by omega
  | fu + 1, s, M, h1, h2, K, hS, h5 => by
    have e0 : M.1 139 0 = nI (G.i 0 0) := K.1.1.1
    rw [L_X12_round_17, show (137 : Nat) + 2 = 139 from rfl, ldI_n (by omega) (by omega), e0, Option.bind_some]
    simp only [n_le (show G.i 0 0 < 2 ^ 31 by omega) (show s < 2 ^ 31 by omega)]
    by_cases e : G.i 0 0 ≤ s
    · rw [if_pos e]; exact ⟨M, rfl, hS, fun t ht => h5 t (by omega), FX.refl⟩
    · have f1 : FX (fun b _ => b = 155) M (upI M 155 s (nI (S.1 s))) := FX.I rfl
      rw [if_neg e, show (137 : Nat) + 17 = 154 from rfl, show (137 : Nat) + 18 = 155 from rfl, ldI_n (by omega) (by omega), (hS.1 s (by omega)).1, Option.bind_some, stI_n (by omega) (by omega), Option.bind_some, Option.bind_some, nI_add]
      obtain ⟨M', a1, a2, a3, a4⟩ := loop_knowns hns kE fu (s + 1) _ (by omega) (by omega) (K.sb f1 fun b j z => Or.inr (by omega)) (hS.fx f1 (fun j z => by omega) (fun j z => by omega) (fun j _ _ z => by omega)) (fun t ht => by
        rw [upI_j]
        by_cases z : t = s
        · rw [if_pos z, z]
        · rw [if_neg z]; exact h5 t (by omega))
      exact ⟨M', a1, a2, a3, f1.trans a4⟩
theorem loop_rProds {G : Gr} {H : Nat → Nat} {r q : Nat} {S : SS} (N : Nat) (hN : 2000 < N) (hq : QG G) (hr : 1 ≤ r ∧ r < 1000 ∧ q < 1000) : ∀ (fu p : Nat) (M : Mm), p ≤ G.i 0 1 → 13 < p + fu → Qc G H r q (itN (sPr G true H (fun _ => 0) r) p S) M → ∃ M', L_X12_round_47 137 N fu (nI p) M = some M' ∧ Qc G H r q (sRd G true H (fun _ => 0) r S) M' ∧ FX (PSw 1) M M'
  | 0, p, M, h1, h2, _ => by have := hq.np; omega
  | fu + 1, p, M, h1, h2, Q => by
    have hnp := hq.np
    have e1 : M.1 139 1 = nI (G.i 0 1) := Q.1.1.1.2.1
    rw [L_X12_round_47, show (137 : Nat) + 2 = 139 from rfl, ldI_n (by omega) (by omega), e1, Option.bind_some]
    simp only [n_le (show G.i 0 1 < 2 ^ 31 by omega) (show p < 2 ^ 31 by omega)]
    by_cases e : G.i 0 1 ≤ p
    · have ep : p = G.i 0 1 := by omega
      subst ep
      rw [if_pos e]; exact ⟨M, rfl, Q, FX.refl⟩
    · have hp : p < G.i 0 1 := by omega
      have hsd := hq.sd hp
      rw [if_neg e, nI_add, ldI_n (by omega) (by omega), Q.1.kid hp, Option.bind_some, Q.2.1.2.2.2.1]
      simp only [n_eq (show G.i 6 p - 1 < 2 ^ 31 by omega) (show 0 < 2 ^ 31 by omega), nI_1eq (show r < 2 ^ 31 by omega)]
      have es : itN (sPr G true H (fun _ => 0) r) (p + 1) S = sPr G true H (fun _ => 0) r p (itN (sPr G true H (fun _ => 0) r) p S) := rfl
      have two : ∀ (c d : Prop) [Decidable c] [Decidable d] (A B : Option Mm), (((if c then (some (nI 1)) else (some (nI 0))).bind fun p74 => ((if d then (some (nI 1)) else (some (nI 0))).bind fun p87 => (if p74 = p87 then A else B))) : Option Mm) = if (c ↔ d) then A else B := fun c d _ _ A B => by
        by_cases x : c <;> by_cases y : d <;> simp [x, y, z10, (show ¬ nI 0 = nI 1 by decide +kernel)]
      rw [two]
      have next : ∀ M1, Qc G H r q (itN (sPr G true H (fun _ => 0) r) (p + 1) S) M1 → FX (PSw 1) M M1 → ∃ M', ((some (nI p + nI 1)).bind fun l => L_X12_round_47 137 N fu l M1) = some M' ∧ Qc G H r q (sRd G true H (fun _ => 0) r S) M' ∧ FX (PSw 1) M M' := fun M1 Q1 F1 => by
        rw [Option.bind_some, nI_add]
        obtain ⟨M', b1, b2, b3⟩ := loop_rProds N hN hq hr fu (p + 1) M1 (by omega) (by omega) Q1
        exact ⟨M', b1, b2, F1.trans b3⟩
      by_cases c : G.i 6 p - 1 = 0 ↔ r = 1
      · rw [if_pos c]
        obtain ⟨M1, a1, a2, a3⟩ := r_ch1 (O := fun _ => 0) N 1 hN hq hp hr Q
        rw [a1, Option.bind_some]
        refine next M1 ?_ a3
        rw [es]
        have e2 : sPr G true H (fun _ => 0) r p (itN (sPr G true H (fun _ => 0) r) p S) = (if G.i 6 p = 1 then sCast G p 0 0 0 (itN (sPr G true H (fun _ => 0) r) p S) else c0 G true H (fun _ => 0) p (itN (sPr G true H (fun _ => 0) r) p S)) := by
          unfold sPr
          by_cases x : G.i 6 p = 1
          · rw [if_pos x, if_pos x, if_pos (c.1 (by omega))]
          · rw [if_neg x, if_neg x, if_neg (fun y => x (by have := c.2 y; omega))]
        rw [e2]; exact a2
      · rw [if_neg c]
        refine next M ?_ FX.refl
        rw [es]
        have e2 : sPr G true H (fun _ => 0) r p (itN (sPr G true H (fun _ => 0) r) p S) = itN (sPr G true H (fun _ => 0) r) p S := by
          unfold sPr
          by_cases x : G.i 6 p = 1
          · rw [if_pos x, if_neg (fun y => c ⟨fun _ => y, fun _ => by omega⟩)]
          · rw [if_neg x]
            by_cases y : r = 1
            · rw [if_pos y]
            · exact absurd ⟨fun z => absurd (by omega) x, fun z => absurd z y⟩ c
        rw [e2]; exact Q
/-- n rounds are done -/
def HSS (G : Gr) (n : Nat) (M : Mm) : Prop := (∀ s, s < 8 → M.1 154 s = nI ((kSh G n).1 s) ∧ ∀ i, i < (kSh G n).1 s → M.1 153 (14 * s + i) = nI ((kSh G n).2.1 s i)) ∧ M.1 137 41 = bI (oO G n) ∧ M.1 137 39 = nI n ∧ M.1 137 40 = nI (crN G n)
theorem crN_0 {G : Gr} : ∀ r, crN G r = 0 → oC G r = false
  | 0, _ => rfl
  | r + 1, h => by
    rw [show crN G (r + 1) = if oC G (r + 1) = true ∧ crN G r = 0 then r + 1 else crN G r from rfl] at h
    by_cases c : oC G (r + 1) = true ∧ crN G r = 0
    · rw [if_pos c] at h; omega
    · rw [if_neg c] at h
      cases x : oC G (r + 1)
      · rfl
      · exact absurd ⟨x, h⟩ c
theorem r_round {G : Gr} {r : Nat} {M : Mm} (N : Nat) (hN : 2000 < N) (hq : QG G) (hr : r < 900) (K : QT G M) (h : HSS G r M) : ∃ M', D_X12_round N 137 M = some M' ∧ QT G M' ∧ HSS G (r + 1) M' ∧ M'.1 137 42 = bI (kSh G (r + 1)).2.2.2.2 ∧ FX (fun b j => PSv b j ∨ b = 137 ∧ j = 39) M M' := by
  have hns := hq.ns
  obtain ⟨h1, h2, h3, h4⟩ := h
  have cr := crN_le G r
  have kk := (cQ_kSh hq r).1
  have gs := (cQ_ok hq r).1
  unfold D_X12_round
  rw [h3, nI_add, pI_n, Option.bind_some, pZ_0, Option.bind_some]
  have F1 : FX (fun b j => PSv b j ∨ b = 137 ∧ j = 39) M (upI (upI M 137 39 (nI (r + 1))) 137 42 (nI 0)) := (FX.I (P := fun b j => PSv b j ∨ b = 137 ∧ j = 39) (Or.inr ⟨rfl, rfl⟩)).trans (FX.I (Or.inl (by unfold PSv PSw PSm; omega)))
  have S1 : HSh (r + 1) (crN G r) (zN (kSh G r)) (upI (upI M 137 39 (nI (r + 1))) 137 42 (nI 0)) := by
    refine ⟨fun s hs => ⟨by rw [up1, if_neg (by decide), up1, if_neg (by decide)]; exact (h1 s hs).1, fun i hi => by rw [up1, if_neg (by decide), up1, if_neg (by decide)]; exact (h1 s hs).2 i hi⟩, ?_, ?_, ?_, ?_⟩
    · rw [upI_j, if_neg (by decide), upI_j, if_neg (by decide), h2]
      show bI (cQ G r).1.2.2.2.1 = bI (kSh G r).2.2.2.1
      rw [kk.2.2.2]
    · rw [upI_s]; rfl
    · rw [upI_j, if_neg (by decide), upI_s]
    · rw [upI_j, if_neg (by decide), upI_j, if_neg (by decide), h4]
      have : ¬ (crN G r = 0 ∧ (zN (kSh G r)).2.2.1 = true) := fun z => by
        have a := crN_0 r z.1
        have b : (kSh G r).2.2.1 = true := z.2
        rw [← kk.2.2.1] at b
        unfold oC at a
        rw [a] at b; exact absurd b (by decide)
      rw [if_neg this]
  have K1 := K.sb F1 fun b j z => by
    cases z with
    | inl z =>
      cases z with
      | inl z => exact z.n
      | inr z => exact Or.inr (by omega)
    | inr z => exact Or.inl z.1
  generalize upI (upI M 137 39 (nI (r + 1))) 137 42 (nI 0) = M1 at F1 S1 K1
  obtain ⟨M2, a1, a2, a3, a4⟩ := loop_knowns hns (fun (M5 : Mm) => (L_X12_round_47 137 N N (nI 0) M5)) N 0 M1 (Nat.zero_le _) (by omega) K1 S1 (fun t ht => by omega)
  have K2 := K1.sb a4 fun b j z => Or.inr (by omega)
  rw [a1]
  have g2 : GS (kSh G r).1 (zN (kSh G r)) := GS.e4 (S := (cQ G r).1) (T := zN (kSh G r)) (by rw [← kk.1]; exact ⟨gs, fun s => Nat.le_refl _⟩) kk
  obtain ⟨M3, b1, b2, b3⟩ := loop_rProds N hN hq (H := (kSh G r).1) (r := r + 1) (q := crN G r) (S := zN (kSh G r)) (by omega) N 0 M2 (Nat.zero_le _) (by omega) ⟨K2, a2, a3, g2⟩
  rw [← kSh_s] at b2
  have kk' := (cQ_kSh hq (r + 1)).1
  refine ⟨M3, b1, b2.1, ⟨b2.2.1.1, ?_, b2.2.1.2.2.2.1, ?_⟩, b2.2.1.2.2.1, (F1.trans (a4.mono fun b j z => Or.inl (Or.inr z))).trans (b3.mono fun b j z => Or.inl (Or.inl z))⟩
  · rw [b2.2.1.2.1]
    show bI (kSh G (r + 1)).2.2.2.1 = bI (cQ G (r + 1)).1.2.2.2.1
    rw [kk'.2.2.2]
  · rw [b2.2.1.2.2.2.2, show crN G (r + 1) = if oC G (r + 1) = true ∧ crN G r = 0 then r + 1 else crN G r from rfl]
    have e : (kSh G (r + 1)).2.2.1 = oC G (r + 1) := kk'.2.2.1.symm
    rw [e]
    by_cases x : crN G r = 0 ∧ oC G (r + 1) = true
    · rw [if_pos x, if_pos ⟨x.2, x.1⟩]
    · rw [if_neg x, if_neg (fun y => x ⟨y.2, y.1⟩)]
/-- the reference stops: no new, too much, or (b) a circle -/
def sB (G : Gr) (b : Bool) (r : Nat) : Bool := sE G r || (b && decide (0 < crN G r))
def nB (G : Gr) (b : Bool) : Nat := 1 + fb (fun i => sB G b (i + 1)) 97
theorem nB_le {G : Gr} (hq : QG G) (b : Bool) : nB G b ≤ nS G ∧ sB G b (nB G b) = true ∧ (∀ r, 1 ≤ r → r < nB G b → sB G b r = false) := by
  have h := nS_le hq
  have e : sB G b (nS G - 1 + 1) = true := by
    have : nS G - 1 + 1 = nS G := by unfold nS; omega
    rw [this]; unfold sB; rw [h.2]; rfl
  have lt : fb (fun i => sB G b (i + 1)) 97 ≤ nS G - 1 := by
    by_cases c : fb (fun i => sB G b (i + 1)) 97 ≤ nS G - 1
    · exact c
    · have := fb_below (f := fun i => sB G b (i + 1)) (n := 97) (j := nS G - 1) (by omega)
      rw [e] at this; exact absurd this (by decide)
  have l97 : fb (fun i => sB G b (i + 1)) 97 < 97 := by
    have : nS G - 1 < 97 := by unfold nS at h ⊢; omega
    omega
  refine ⟨by unfold nB; unfold nS at lt ⊢; omega, ?_, fun r h1 h2 => ?_⟩
  · have := fb_hit l97
    unfold nB; rw [Nat.add_comm]; exact this
  · have := fb_below (f := fun i => sB G b (i + 1)) (n := 97) (j := r - 1) (by unfold nB at h2; omega)
    rwa [show r - 1 + 1 = r by omega] at this
def PSs (b j : Nat) : Prop := PSv b j ∨ b = 137 ∧ j = 39
theorem loop_seeks {G : Gr} {b : Bool} (N : Nat) (hN : 2000 < N) (hq : QG G) : ∀ (fu r : Nat) (M : Mm), r < nB G b → 98 < r + fu → QT G M → HSS G r M → ∃ M', L_X12_seeks_36 N 137 (bI b) fu M = some M' ∧ QT G M' ∧ HSS G (nB G b) M' ∧ FX PSs M M'
  | 0, r, M, h1, h2, _, _ => by have := nB_le hq b; have := nS_le hq; omega
  | fu + 1, r, M, h1, h2, K, H => by
    have nb := nB_le hq b
    have ns := nS_le hq
    rw [L_X12_seeks_36]
    obtain ⟨M1, a1, a2, a3, a4, a5⟩ := r_round N hN hq (by omega) K H
    have cr := crN_le G (r + 1)
    rw [a1, Option.bind_some, a4, a3.2.1, a3.2.2.2]
    simp only [bI_0, n_le (show crN G (r + 1) < 2 ^ 31 by omega) (show 0 < 2 ^ 31 by omega)]
    have kn := kSh_new hq r
    have stop : sB G b (r + 1) = true → ∃ M', some M1 = some M' ∧ QT G M' ∧ HSS G (nB G b) M' ∧ FX PSs M M' := fun z => by
      have er : r + 1 = nB G b := by
        by_cases y : r + 1 < nB G b
        · rw [nb.2.2 (r + 1) (by omega) y] at z; exact absurd z (by decide)
        · omega
      rw [← er]; exact ⟨M1, rfl, a2, a3, a5⟩
    have more : sB G b (r + 1) = false → ∃ M', L_X12_seeks_36 N 137 (bI b) fu M1 = some M' ∧ QT G M' ∧ HSS G (nB G b) M' ∧ FX PSs M M' := fun z => by
      have lt : r + 1 < nB G b := by
        by_cases y : r + 1 = nB G b
        · rw [y, nb.2.1] at z; exact absurd z (by decide)
        · omega
      obtain ⟨M', c1, c2, c3, c4⟩ := loop_seeks N hN hq fu (r + 1) M1 lt (by omega) a2 a3
      exact ⟨M', c1, c2, c3, a5.trans c4⟩
    unfold sB at stop more
    rw [kn] at stop more
    cases x : (kSh G (r + 1)).2.2.2.2
    · rw [if_pos rfl]; exact stop (by rw [x]; cases oO G (r + 1) <;> rfl)
    · rw [if_neg (by decide)]
      cases y : oO G (r + 1)
      · rw [if_pos rfl]
        cases w : b
        · rw [if_pos rfl]; rw [w] at more; exact more (by rw [x, y]; rfl)
        · rw [if_neg (by decide)]
          rw [w] at more stop
          by_cases u : crN G (r + 1) ≤ 0
          · rw [if_pos u]; exact more (by rw [x, y, decide_eq_false (by omega)]; rfl)
          · rw [if_neg u]; exact stop (by rw [decide_eq_true (by omega)]; cases oO G (r + 1) <;> rw [x] <;> rfl)
      · rw [if_neg (by decide)]; exact stop (by rw [y]; rfl)
theorem loop_shade0 (kE : Mm → Option Mm) : ∀ (fu s : Nat) (M : Mm), s ≤ 8 → 8 < s + fu → (∀ t, t < s → M.1 154 t = nI 0) → ∃ M', L_X12_seeks_2 kE 137 fu (nI s) M = kE M' ∧ (∀ t, t < 8 → M'.1 154 t = nI 0) ∧ FX (fun b _ => b = 154) M M'
  | 0, s, M, h1, h2, _ => by omega
  | fu + 1, s, M, h1, h2, h => by
    rw [L_X12_seeks_2]
    simp only [n_le (show 8 < 2 ^ 31 by omega) (show s < 2 ^ 31 by omega)]
    by_cases e : 8 ≤ s
    · rw [if_pos e]; exact ⟨M, rfl, fun t ht => h t (by omega), FX.refl⟩
    · have f1 : FX (fun b _ => b = 154) M (upI M 154 s (nI 0)) := FX.I rfl
      rw [if_neg e, show (137 : Nat) + 17 = 154 from rfl, stI_n (by omega) (by omega), Option.bind_some, Option.bind_some, nI_add]
      obtain ⟨M', a1, a2, a3⟩ := loop_shade0 kE fu (s + 1) _ (by omega) (by omega) (fun t ht => by
        rw [upI_j]
        by_cases z : t = s
        · rw [if_pos z]
        · rw [if_neg z]; exact h t (by omega))
      exact ⟨M', a1, a2, f1.trans a3⟩
theorem r_seeks {G : Gr} {b : Bool} {M : Mm} (N : Nat) (hN : 2000 < N) (hq : QG G) (K : QT G M) : ∃ M', D_X12_seeks N 137 (bI b) M = some M' ∧ QT G M' ∧ HSS G (nB G b) M' ∧ FX PSs M M' := by
  unfold D_X12_seeks
  obtain ⟨M1, a1, a2, a3⟩ := loop_shade0 (fun (M3 : Mm) => ((pI M3 137 39 (nI 0)).bind fun M4 => (pI M4 137 40 (nI 0)).bind fun M5 => (pZ M5 137 41 (nI 0)).bind fun M6 => (L_X12_seeks_36 N 137 (bI b) N M6))) N 0 M (by omega) (by omega) (fun t ht => by omega)
  rw [a1, pI_n, Option.bind_some, pI_n, Option.bind_some, pZ_0, Option.bind_some]
  have f2 : FX PSs M1 (upI (upI (upI M1 137 39 (nI 0)) 137 40 (nI 0)) 137 41 (nI 0)) := ((FX.I (P := PSs) (by unfold PSs PSv PSw PSm; omega)).trans (FX.I (by unfold PSs PSv PSw PSm; omega))).trans (FX.I (by unfold PSs PSv PSw PSm; omega))
  have F2 : FX PSs M (upI (upI (upI M1 137 39 (nI 0)) 137 40 (nI 0)) 137 41 (nI 0)) := (a3.mono fun b j z => by unfold PSs PSv PSw PSm; omega).trans f2
  have K2 := K.sb F2 fun b j z => by unfold PSs PSv PSw PSm at z; omega
  have H0 : HSS G 0 (upI (upI (upI M1 137 39 (nI 0)) 137 40 (nI 0)) 137 41 (nI 0)) := ⟨fun s hs => ⟨by rw [up1, if_neg (by decide), up1, if_neg (by decide), up1, if_neg (by decide)]; exact a2 s hs, fun i hi => absurd hi (Nat.not_lt_zero _)⟩, by rw [upI_s]; rfl, by rw [upI_j, if_neg (by decide), upI_j, if_neg (by decide), upI_s], by rw [upI_j, if_neg (by decide), upI_s]; rfl⟩
  obtain ⟨M', b1, b2, b3, b4⟩ := loop_seeks (b := b) N hN hq N 0 _ (by unfold nB; omega) (by omega) K2 H0
  exact ⟨M', b1, b2, b3, F2.trans b4⟩
