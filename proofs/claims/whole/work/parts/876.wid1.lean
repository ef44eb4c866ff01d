-- what visits tell besides; the class's block
def cnV (G : Gr) (A : Nat → Nat) (s : Nat) : Nat := if slf G A s = true then 0 else vV G A s
def ahB (G : Gr) (A : Nat → Nat) (s a b : Nat) : Bool := decide (vW G A s b < vW G A s a) || (decide (vW G A s b = vW G A s a) && decide (G.i 4 s ≤ a) && decide (b < G.i 4 s))
def ahd (G : Gr) (A : Nat → Nat) (s a : Nat) : Nat := wid (ahB G A s a) (att G s)
def visR (G : Gr) (A : Nat → Nat) (p o : Nat) : Nat := if slf G A (G.i 7 (4 * p + o / 8)) = false ∧ o % 8 < att G (G.i 7 (4 * p + o / 8)) then ahd G A (G.i 7 (4 * p + o / 8)) (o % 8) * 2 ^ (8 * (o / 8)) else 0
def widR (G : Gr) (A : Nat → Nat) (p o : Nat) : Nat := if o < 8 * G.i 6 p then iC G A p o ||| visR G A p o else 0
def wdC (G : Gr) (A : Nat → Nat) (p : Nat) : Nat → Nat := clo (8 * G.i 6 p) (8 * G.i 6 p) (widR G A p)
theorem ahd_lt {G : Gr} {A : Nat → Nat} {s a : Nat} (h8 : att G s ≤ 8) : ahd G A s a < 256 := Nat.lt_of_lt_of_le (wid_lt _ _) (Nat.pow_le_pow_right (by decide) h8)
theorem QG.att8 {G : Gr} (h : QG G) {s : Nat} (hs : s < G.i 0 0) : att G s ≤ 8 := by have := h.at' hs; unfold att; omega
theorem visR_lt {G : Gr} {A : Nat → Nat} {p o : Nat} (h : QG G) (hp : p < G.i 0 1) (ho : o < 8 * G.i 6 p) : visR G A p o < 2 ^ (8 * G.i 6 p) := by
  unfold visR
  split
  · refine lt_of_bits fun i hi => ?_
    rw [Nat.testBit_mul_two_pow, Bool.and_eq_true] at hi
    have h1 := of_decide_eq_true hi.1
    have h2 := tb_lt (k := 8) (ahd_lt (h.att8 (h.sy hp (by omega)))) hi.2
    omega
  · exact Nat.two_pow_pos _
theorem widR_sq {G : Gr} {A : Nat → Nat} {p : Nat} (h : QG G) (hA : AOK G A) (hp : p < G.i 0 1) : SQ (8 * G.i 6 p) (widR G A p) := by
  refine ⟨fun o ho => by unfold widR; rw [if_neg (by omega)], fun o => ?_⟩
  unfold widR
  split
  · rename_i ho
    exact or_lt ((iC_sq h hA hp).2 o) (visR_lt h hp ho)
  · exact Nat.two_pow_pos _
theorem wdC_sq {G : Gr} {A : Nat → Nat} {p : Nat} (h : QG G) (hA : AOK G A) (hp : p < G.i 0 1) : SQ (8 * G.i 6 p) (wdC G A p) := clo_sq (widR_sq h hA hp) (Nat.le_refl _) _
/-- counts and visits, as the class has them -/
def HP (G : Gr) (A : Nat → Nat) (n : Nat) (M : Mm) : Prop := ∀ s, s < n → M.1 16 s = nI (cnV G A s) ∧ (slf G A s = false → ∀ b, b < att G s → M.1 17 (8 * s + b) = nI (vW G A s b))
theorem HP.fx {P : Nat → Nat → Prop} {G : Gr} {A : Nat → Nat} {n : Nat} {M M' : Mm} (h : HP G A n M) (f : FX P M M') (h1 : ∀ j, ¬ P 16 j) (h2 : ∀ j, ¬ P 17 j) : HP G A n M' := fun s hs => ⟨(f.2 16 s (h1 s)).1.trans (h s hs).1, fun hn b hb => (f.2 17 _ (h2 _)).1.trans ((h s hs).2 hn b hb)⟩
theorem slf_8 {G : Gr} {A : Nat → Nat} {s : Nat} (h : QG G) (hA : AOK G A) (hs : s < G.i 0 0) : (fb (fun o => (A (8 * s + o)).testBit o) 8 < 8) ↔ slf G A s = true := by
  have h8 := h.att8 hs
  obtain ⟨a, b⟩ := fb_wide (f := fun o => (A (8 * s + o)).testBit o) h8 fun j j1 j2 => by
    rw [hA.2.2 s hs j j1 j2]; exact Nat.zero_testBit _
  unfold slf
  rw [decide_eq_true_iff]
  constructor
  · intro h
    refine Decidable.byContradiction fun c => ?_
    rw [b c] at h; omega
  · intro c
    rw [a c]; omega
def P67 (b _j : Nat) : Prop := b = 16 ∨ b = 17
theorem loop_counts {g : Nat} {G : Gr} {A : Nat → Nat} (N : Nat) (hN : 2000 < N) (h : QG G) (hg : g = 35 ∨ g = 52) (hI : Ind G A) (kE : Mm → Option Mm) : ∀ (fu s : Nat) (M : Mm), s ≤ G.i 0 0 → 9 < s + fu → CG g G M → HRo 10 0 64 A M → HP G A s M → ∃ M', L_X5_find_2 kE g N 9 15 fu (nI s) M = kE M' ∧ HP G A (G.i 0 0) M' ∧ FX P67 M M'
  | 0, s, M, h1, h2, _, _, _ => by have := h.ns; omega
  | fu + 1, s, M, h1, h2, K, hM, hP => by
    have hns := h.ns
    have hA := hI.ok h
    rw [L_X5_find_2, K.f 0]
    simp (disch := omega) only [n_le]
    by_cases e : G.i 0 0 ≤ s
    · have es : s = G.i 0 0 := by omega
      subst es
      rw [if_pos e]; exact ⟨M, rfl, hP, FX.refl⟩
    · have hs : s < G.i 0 0 := by omega
      have h8 := h.att8 hs
      have l10 : len 10 = 64 := rfl
      have hrow : HRo 10 (8 * s) 8 (fun o => A (8 * s + o)) M := fun o ho => by
        have := hM (8 * s + o) (by omega)
        rw [Nat.zero_add] at this; exact this
      rw [if_neg e, show (9 : Nat) + 1 = 10 from rfl, show (15 : Nat) + 1 = 16 from rfl, pk_mul, s_firstRound N hN l10 (show 8 * s + 8 ≤ 64 by omega) (by omega) (by omega) (fun o => Nat.lt_trans (hA.2.1 _) (by decide)) hrow, Option.bind_some]
      have ef : (if fR (fb (fun o => (A (8 * s + o)).testBit o) 8) 8 = m1 then some (nI 0) else some (nI 1)) = some (bI (slf G A s)) := by
        simp only [fR_m1 (show 8 < 2 ^ 31 by decide)]
        cases c : slf G A s
        · rw [if_pos (fun z => by rw [(slf_8 h hA hs).mp z] at c; cases c)]; rfl
        · rw [if_neg (not_not_intro ((slf_8 h hA hs).mpr c))]; rfl
      rw [ef, Option.bind_some]
      simp only [bI_0, Option.bind_some, nI_add]
      have keep : ∀ (M1 : Mm) (v : Nat), v = cnV G A s → FX (fun b j => P17 s b j ∨ b = 16 ∧ j = s) M M1 → M1.1 16 s = nI v → (slf G A s = false → ∀ b, b < att G s → M1.1 17 (8 * s + b) = nI (vW G A s b)) → HP G A (s + 1) M1 := fun M1 v hv f1 h16 h17 s' hs' => by
        by_cases z : s' = s
        · subst z; exact ⟨by rw [h16, hv], h17⟩
        · obtain ⟨r1, r2⟩ := hP s' (by omega)
          refine ⟨(f1.2 16 s' (fun q => by unfold P17 at q; omega)).1.trans r1, fun hn b hb => ?_⟩
          have hb8 := h.att8 (show s' < G.i 0 0 by omega)
          exact (f1.2 17 (8 * s' + b) (fun q => by unfold P17 at q; omega)).1.trans (r2 hn b hb)
      cases c : slf G A s
      · rw [if_pos rfl]
        obtain ⟨M1, a1, a2, a3⟩ := s_orderOf N hN h hg hA.2.1 hs (hI.ac h hs c) K hM
        rw [a1, Option.bind_some, stI_n (by omega) (by omega), Option.bind_some]
        have f1 : FX (fun b j => P17 s b j ∨ b = 16 ∧ j = s) M (upI M1 16 s (nI (vV G A s))) := (a3.mono fun a j q => Or.inl q).trans (FX.I (Or.inr ⟨rfl, rfl⟩))
        have f2 : FX P67 M (upI M1 16 s (nI (vV G A s))) := f1.mono fun a j q => by unfold P17 at q; unfold P67; omega
        obtain ⟨M2, b1, b2, b3⟩ := loop_counts N hN h hg hI kE fu (s + 1) (upI M1 16 s (nI (vV G A s))) (by omega) (by omega) (K.fx f2 fun k hk j q => by unfold P67 at q; omega) (hM.fx f2 fun j _ _ q => by unfold P67 at q; omega) (keep (upI M1 16 s (nI (vV G A s))) (vV G A s) (by unfold cnV; rw [c, if_neg (by decide)]) f1 (upI_s M1 16 s (nI (vV G A s))) fun _ b hb => by rw [up1, if_neg (by decide)]; exact a2 b hb)
        exact ⟨M2, b1, b2, f2.trans b3⟩
      · rw [if_neg (by decide), stI_n (by omega) (by omega), Option.bind_some]
        have f1 : FX (fun b j => P17 s b j ∨ b = 16 ∧ j = s) M (upI M 16 s (nI 0)) := FX.I (Or.inr ⟨rfl, rfl⟩)
        have f2 : FX P67 M (upI M 16 s (nI 0)) := f1.mono fun a j q => by unfold P17 at q; unfold P67; omega
        obtain ⟨M2, b1, b2, b3⟩ := loop_counts N hN h hg hI kE fu (s + 1) (upI M 16 s (nI 0)) (by omega) (by omega) (K.fx f2 fun k hk j q => by unfold P67 at q; omega) (hM.fx f2 fun j _ _ q => by unfold P67 at q; omega) (keep (upI M 16 s (nI 0)) 0 (by unfold cnV; rw [c, if_pos rfl]) f1 (upI_s M 16 s (nI 0)) fun q => by rw [c] at q; cases q)
        exact ⟨M2, b1, b2, f2.trans b3⟩
theorem s_aheadOf {g s a : Nat} {G : Gr} {A : Nat → Nat} {M : Mm} (N : Nat) (hN : 2000 < N) (h : QG G) (hg : g = 35 ∨ g = 52) (hI : Ind G A) (hs : s < G.i 0 0) (ha : a < att G s) (hn : slf G A s = false) (K : CG g G M) (hP : HP G A (G.i 0 0) M) : D_X5_aheadOf N 15 g (nI s) (nI a) M = some (nI (ahd G A s a)) := by
  have h8 := h.att8 hs
  have h4 := h.at' hs
  have hns := h.ns
  have hw : ∀ b, b < att G s → vW G A s b ≤ 5 := fun b hb => Nat.le_trans (vW_bd (hI.ac h hs hn) h4 hb).2 (vV_bd (hI.ac h hs hn) h4).2
  have hm := fun b hb => (hP s hs).2 hn b hb
  unfold D_X5_aheadOf
  rw [show (15 : Nat) + 2 = 17 from rfl, pk_mul, nI_add, ldI_n (by omega) (by omega), hm a ha, Option.bind_some]
  have key : ∀ (k i : Nat), i ≤ att G s → 9 < i + k → L_X5_aheadOf_19 g (nI s) M 15 (nI (vW G A s a)) (nI a) k (nI (wid (ahB G A s a) i)) (nI i) = some (nI (ahd G A s a)) := by
    intro k
    induction k with
    | zero => intro i h1 h2; omega
    | succ k ih =>
      intro i h1 h2
      rw [L_X5_aheadOf_19, ldI_n (by omega) (by omega), K.a 4 s (by omega), Option.bind_some, ldI_n (by omega) (by omega), K.a 5 s (by omega), Option.bind_some, nI_add]
      have ea : (nI (G.i 4 s + G.i 5 s) ≤ nI i) = (att G s ≤ i) := n_le (by omega) (by omega)
      simp only [ea]
      by_cases e : att G s ≤ i
      · have ei : i = att G s := by omega
        subst ei
        rw [if_pos e]; rfl
      · have hwi := hw i (by omega)
        have hwa := hw a ha
        rw [if_neg e, show (15 : Nat) + 2 = 17 from rfl, pk_mul, nI_add, ldI_n (by omega) (by omega), hm i (by omega), Option.bind_some]
        simp only [jn, Option.bind_some, nI_add, n_shl 1 (show i < 32 by omega), Nat.one_mul, n_or, n_lt (show vW G A s i < 2 ^ 31 by omega) (show vW G A s a < 2 ^ 31 by omega), n_eq (show vW G A s i < 2 ^ 31 by omega) (show vW G A s a < 2 ^ 31 by omega), ldI_n (show s < 8 by omega) (show 8 ≤ 2 ^ 31 by decide), K.a 4 s (by omega), n_lt (show a < 2 ^ 31 by omega) (show G.i 4 s < 2 ^ 31 by omega), n_le (show G.i 4 s < 2 ^ 31 by omega) (show i < 2 ^ 31 by omega)]
        have yes : ahB G A s a i = true → L_X5_aheadOf_19 g (nI s) M 15 (nI (vW G A s a)) (nI a) k (nI (wid (ahB G A s a) i ||| 2 ^ i)) (nI (i + 1)) = some (nI (ahd G A s a)) := fun c => by
          have := ih (i + 1) (by omega) (by omega)
          rw [wid, if_pos c] at this; exact this
        have no : ahB G A s a i = false → L_X5_aheadOf_19 g (nI s) M 15 (nI (vW G A s a)) (nI a) k (nI (wid (ahB G A s a) i)) (nI (i + 1)) = some (nI (ahd G A s a)) := fun c => by
          have := ih (i + 1) (by omega) (by omega)
          rw [wid, if_neg (by rw [c]; decide)] at this; exact this
        by_cases c1 : vW G A s i < vW G A s a
        · rw [if_pos c1]; exact yes (by unfold ahB; rw [decide_eq_true c1]; rfl)
        · rw [if_neg c1]
          by_cases c2 : vW G A s i = vW G A s a
          · rw [if_pos c2]
            by_cases c3 : a < G.i 4 s
            · rw [if_pos c3]; exact no (by unfold ahB; rw [decide_eq_false c1, decide_eq_false (show ¬ G.i 4 s ≤ a by omega)]; simp)
            · rw [if_neg c3]
              by_cases c4 : G.i 4 s ≤ i
              · rw [if_pos c4]; exact no (by unfold ahB; rw [decide_eq_false c1, decide_eq_false (show ¬ i < G.i 4 s by omega)]; simp)
              · rw [if_neg c4]; exact yes (by unfold ahB; rw [decide_eq_true c2, decide_eq_true (show G.i 4 s ≤ a by omega), decide_eq_true (show i < G.i 4 s by omega)]; simp)
          · rw [if_neg c2]; exact no (by unfold ahB; rw [decide_eq_false c1, decide_eq_false c2]; rfl)
  exact key N 0 (Nat.zero_le _) (by omega)
theorem cnV_0 {G : Gr} {A : Nat → Nat} {s : Nat} (h : QG G) (hI : Ind G A) (hs : s < G.i 0 0) : (cnV G A s = 0 ↔ slf G A s = true) ∧ cnV G A s ≤ 5 := by
  unfold cnV
  cases c : slf G A s
  · have := vV_bd (hI.ac h hs c) (h.at' hs)
    rw [if_neg (by decide)]
    exact ⟨⟨fun q => by omega, fun q => by cases q⟩, this.2⟩
  · rw [if_pos rfl]; exact ⟨⟨fun _ => rfl, fun _ => rfl⟩, by omega⟩
def P18 (p b j : Nat) : Prop := b = 18 ∧ 32 * p ≤ j ∧ j < 32 * p + 32
theorem loop_widen {g p : Nat} {G : Gr} {A : Nat → Nat} (N : Nat) (hN : 2000 < N) (h : QG G) (hg : g = 35 ∨ g = 52) (hI : Ind G A) (hp : p < G.i 0 1) (kE : Mm → Option Mm) : ∀ (fu o : Nat) (M : Mm), o ≤ 8 * G.i 6 p → 33 < o + fu → CG g G M → HP G A (G.i 0 0) M → HRo 11 (32 * p) (8 * G.i 6 p) (iC G A p) M → HRo 18 (32 * p) o (widR G A p) M → ∃ M', L_X5_widen_3 kE g (nI p) N 15 9 fu (nI o) M = kE M' ∧ HRo 18 (32 * p) (8 * G.i 6 p) (widR G A p) M' ∧ FX (P18 p) M M'
  | 0, o, M, h1, h2, _, _, _, _ => by have := h.sd hp; omega
  | fu + 1, o, M, h1, h2, K, hP, hC, hR => by
    have hsd := h.sd hp
    have hnp := h.np
    rw [L_X5_widen_3, ldI_n (by omega) (by omega), K.a 6 p (by omega), Option.bind_some, pk_mul]
    simp (disch := omega) only [n_le]
    by_cases e : 8 * G.i 6 p ≤ o
    · have eo : o = 8 * G.i 6 p := by omega
      subst eo
      rw [if_pos e]; exact ⟨M, rfl, hR, FX.refl⟩
    · have hs := h.sy hp (show o / 8 < G.i 6 p by omega)
      have hns := h.ns
      have h4 := h.at' hs
      have h8 := h.att8 hs
      obtain ⟨c0, c5⟩ := cnV_0 h hI hs
      rw [if_neg e, dv_n (by omega) (by omega) (by omega), Option.bind_some, s_side N K (by omega) (by omega), Option.bind_some, show (15 : Nat) + 1 = 16 from rfl, show (15 : Nat) + 3 = 18 from rfl, show (9 : Nat) + 2 = 11 from rfl, ldI_n (by omega) (by omega), (hP _ hs).1, Option.bind_some]
      simp only [jn, rm_n (show o < 2 ^ 31 by omega) (show 0 < 8 by decide) (show 8 < 2 ^ 31 by decide), Option.bind_some, ldI_n (show G.i 7 (4 * p + o / 8) < 8 by omega) (show 8 ≤ 2 ^ 31 by decide), K.a 4 (G.i 7 (4 * p + o / 8)) (by omega), K.a 5 (G.i 7 (4 * p + o / 8)) (by omega), nI_add, n_le (show cnV G A (G.i 7 (4 * p + o / 8)) < 2 ^ 31 by omega) (show 0 < 2 ^ 31 by decide), n_le (show G.i 4 (G.i 7 (4 * p + o / 8)) + G.i 5 (G.i 7 (4 * p + o / 8)) < 2 ^ 31 by omega) (show o % 8 < 2 ^ 31 by omega)]
      have ep : (if cnV G A (G.i 7 (4 * p + o / 8)) ≤ 0 then some (nI 0) else if G.i 4 (G.i 7 (4 * p + o / 8)) + G.i 5 (G.i 7 (4 * p + o / 8)) ≤ o % 8 then some (nI 0) else some (nI 1)) = some (bI (decide (slf G A (G.i 7 (4 * p + o / 8)) = false ∧ o % 8 < att G (G.i 7 (4 * p + o / 8))))) := by
        by_cases c : cnV G A (G.i 7 (4 * p + o / 8)) ≤ 0
        · rw [if_pos c, decide_eq_false (fun z => by rw [c0.mp (by omega)] at z; cases z.1)]; rfl
        · rw [if_neg c]
          have cs : slf G A (G.i 7 (4 * p + o / 8)) = false := by
            cases x : slf G A (G.i 7 (4 * p + o / 8))
            · rfl
            · exact absurd (c0.mpr x) (by omega)
          by_cases d : G.i 4 (G.i 7 (4 * p + o / 8)) + G.i 5 (G.i 7 (4 * p + o / 8)) ≤ o % 8
          · rw [if_pos d, decide_eq_false (fun z => by have := z.2; unfold att at this; omega)]; rfl
          · rw [if_neg d, decide_eq_true ⟨cs, by unfold att; omega⟩]; rfl
      rw [ep, Option.bind_some]
      simp only [bI_0]
      have ev : (if decide (slf G A (G.i 7 (4 * p + o / 8)) = false ∧ o % 8 < att G (G.i 7 (4 * p + o / 8))) = false then some (nI 0) else (D_X5_aheadOf N 15 g (nI (G.i 7 (4 * p + o / 8))) (nI (o % 8)) M).bind fun q2 => some q2) = some (nI (if slf G A (G.i 7 (4 * p + o / 8)) = false ∧ o % 8 < att G (G.i 7 (4 * p + o / 8)) then ahd G A (G.i 7 (4 * p + o / 8)) (o % 8) else 0)) := by
        by_cases c : slf G A (G.i 7 (4 * p + o / 8)) = false ∧ o % 8 < att G (G.i 7 (4 * p + o / 8))
        · rw [decide_eq_true c, if_neg (by decide), if_pos c, s_aheadOf N hN h hg hI hs c.2 c.1 K hP]; rfl
        · rw [decide_eq_false c, if_pos rfl, if_neg c]
      rw [ev, Option.bind_some, pk_mul, nI_add, ldI_n (by omega) (by omega), hC o (by omega), Option.bind_some, pk_mul, n_shl _ (show 8 * (o / 8) < 32 by omega), n_or]
      have ew : iC G A p o ||| (if slf G A (G.i 7 (4 * p + o / 8)) = false ∧ o % 8 < att G (G.i 7 (4 * p + o / 8)) then ahd G A (G.i 7 (4 * p + o / 8)) (o % 8) else 0) * 2 ^ (8 * (o / 8)) = widR G A p o := by
        unfold widR visR
        rw [if_pos (show o < 8 * G.i 6 p by omega)]
        split
        · rfl
        · rw [Nat.zero_mul]
      rw [ew, stI_n (by omega) (by omega), Option.bind_some]
      have f1 : FX (P18 p) M (upI M 18 (32 * p + o) (nI (widR G A p o))) := FX.I ⟨rfl, by omega, by omega⟩
      obtain ⟨M', b1, b2, b3⟩ := loop_widen N hN h hg hI hp kE fu (o + 1) _ (by omega) (by omega) (K.fx f1 fun k hk j q => by have := q.1; omega) (hP.fx f1 (fun j q => by have := q.1; omega) (fun j q => by have := q.1; omega)) (hC.fx f1 fun j _ _ q => by have := q.1; omega) (fun i hi => by
        rw [upI_j]
        by_cases c : i = o
        · rw [if_pos (by omega), c]
        · rw [if_neg (by omega)]; exact hR i (by omega))
      exact ⟨M', b1, b2, f1.trans b3⟩
theorem s_widen {g p : Nat} {G : Gr} {A : Nat → Nat} {M : Mm} (N : Nat) (hN : 2000 < N) (h : QG G) (hg : g = 35 ∨ g = 52) (hI : Ind G A) (hp : p < G.i 0 1) (K : CG g G M) (hP : HP G A (G.i 0 0) M) (hC : HRo 11 (32 * p) (8 * G.i 6 p) (iC G A p) M) : ∃ M', D_X5_widen N 15 g 9 (nI p) M = some M' ∧ HRo 18 (32 * p) (8 * G.i 6 p) (wdC G A p) M' ∧ FX (P18 p) M M' := by
  have hsd := h.sd hp
  have hnp := h.np
  have l18 : len 18 = 384 := rfl
  unfold D_X5_widen
  obtain ⟨M1, a1, a2, a3⟩ := loop_widen N hN h hg hI hp (fun (M3 : Mm) => ((ldI 12 (g + 6) (nI p) M3).bind fun v9 => (D_X3_close N (15 + 3) ((nI 32) * nI p) ((nI 8) * v9) M3).bind fun M4 => some M4)) N 0 M (Nat.zero_le _) (by omega) K hP hC (fun o ho => by omega)
  obtain ⟨M2, b1, b2, b3⟩ := s_close N hN l18 (show 32 * p + 8 * G.i 6 p ≤ 384 by omega) (by omega) (by omega) ((widR_sq h (hI.ok h) hp).lt (by omega)) a2
  have K1 := K.fx a3 fun k hk j q => by have := q.1; omega
  rw [a1, ldI_n (by omega) (by omega), K1.a 6 p (by omega), Option.bind_some, show (15 : Nat) + 3 = 18 from rfl, pk_mul, pk_mul, b1, Option.bind_some]
  exact ⟨M2, rfl, b2, a3.trans (b3.mono fun a j q => ⟨q.1, q.2.1, by have := q.2.2; omega⟩)⟩
def bPf (G : Gr) (A : Nat → Nat) (p : Nat) : Bool := decide (fb (fun o => (wdC G A p o).testBit o) 32 < 32)
theorem bPf_w {G : Gr} {A : Nat → Nat} {p : Nat} (h : QG G) (hA : AOK G A) (hp : p < G.i 0 1) : (fb (fun o => (wdC G A p o).testBit o) (8 * G.i 6 p) < 8 * G.i 6 p) ↔ bPf G A p = true := by
  have hsd := h.sd hp
  obtain ⟨a, b⟩ := fb_wide (f := fun o => (wdC G A p o).testBit o) (w := 8 * G.i 6 p) (w' := 32) (by omega) fun j j1 j2 => by
    rw [(wdC_sq h hA hp).1 j j1]; exact Nat.zero_testBit _
  unfold bPf
  rw [decide_eq_true_iff]
  constructor
  · intro c; rw [a c]; omega
  · intro c
    refine Decidable.byContradiction fun d => ?_
    rw [b d] at c; omega
def blk (G : Gr) (A : Nat → Nat) : Nat := fb (bPf G A) (G.i 0 1)
/-- the first that blocks, from q on -/
def BQ (G : Gr) (A : Nat → Nat) (q : Nat) (x : Int32) : Prop := (∃ r, q ≤ r ∧ r < G.i 0 1 ∧ bPf G A r = true ∧ (∀ j, q ≤ j → j < r → bPf G A j = false) ∧ x = nI r) ∨ ((∀ j, q ≤ j → j < G.i 0 1 → bPf G A j = false) ∧ x = m1)
def PBl (b j : Nat) : Prop := b = 18 ∨ b = 15 ∧ j = 3
theorem loop_block {g : Nat} {G : Gr} {A : Nat → Nat} (N : Nat) (hN : 2000 < N) (h : QG G) (hg : g = 35 ∨ g = 52) (hI : Ind G A) (kE : Mm → Option Mm) : ∀ (fu p : Nat) (M : Mm), p ≤ G.i 0 1 → p < fu → CG g G M → HP G A (G.i 0 0) M → (∀ q, q < G.i 0 1 → HRo 11 (32 * q) (8 * G.i 6 q) (iC G A q) M) → (∀ q, p ≤ q → q < G.i 0 1 → HRo 18 (32 * q) (8 * G.i 6 q) (wdC G A q) M) → BQ G A p (M.1 15 3) → ∃ M', L_X5_find_74 kE N 15 g 9 fu (nI p - nI 1) M = kE M' ∧ (∀ q, q < G.i 0 1 → HRo 18 (32 * q) (8 * G.i 6 q) (wdC G A q) M') ∧ M'.1 15 3 = fR (blk G A) (G.i 0 1) ∧ FX PBl M M'
  | 0, p, M, h1, h2, _, _, _, _, _ => by omega
  | fu + 1, 0, M, h1, h2, K, hP, hC, hW, hB => by
    rw [L_X5_find_74, show nI 0 - nI 1 = m1 by decide +kernel, if_pos (show m1 < nI 0 by decide +kernel)]
    refine ⟨M, rfl, fun q hq => hW q (Nat.zero_le _) hq, ?_, FX.refl⟩
    rcases hB with ⟨r, r1, r2, r3, r4, r5⟩ | ⟨b1, b2⟩
    · have : blk G A = r := fb_eq (by omega) (fun j hj => r4 j (Nat.zero_le _) hj) (Or.inr r3)
      rw [r5, this, fR_n r2]
    · have : blk G A = G.i 0 1 := fb_eq (Nat.le_refl _) (fun j hj => b1 j (Nat.zero_le _) hj) (Or.inl rfl)
      rw [b2, this, fR_m (Nat.lt_irrefl _)]
  | fu + 1, p + 1, M, h1, h2, K, hP, hC, hW, hB => by
    have hnp := h.np
    have hp : p < G.i 0 1 := by omega
    have hsd := h.sd hp
    have l18 : len 18 = 384 := rfl
    obtain ⟨M1, a1, a2, a3⟩ := s_widen N hN h hg hI hp K hP (hC p hp)
    have K1 := K.fx a3 fun k hk j q => by have := q.1; omega
    have f1 : FX PBl M M1 := a3.mono fun a j q => Or.inl q.1
    have hW1 : ∀ q, p ≤ q → q < G.i 0 1 → HRo 18 (32 * q) (8 * G.i 6 q) (wdC G A q) M1 := fun q q1 q2 => by
      by_cases c : q = p
      · subst c; exact a2
      · have hsq := h.sd q2
        exact (hW q (by omega) q2).fx a3 fun j j1 j2 z => by have := z.2; omega
    have hC1 : ∀ q, q < G.i 0 1 → HRo 11 (32 * q) (8 * G.i 6 q) (iC G A q) M1 := fun q hq => (hC q hq).fx a3 fun j _ _ z => by have := z.1; omega
    have hP1 := hP.fx a3 (fun j q => by have := q.1; omega) (fun j q => by have := q.1; omega)
    have e15 : M1.1 15 3 = M.1 15 3 := (a3.2 15 3 (fun q => by have := q.1; omega)).1
    rw [L_X5_find_74, n_sub (by omega), show p + 1 - 1 = p from rfl, if_neg (by rw [n_lt (by omega) (by omega)]; omega), a1, Option.bind_some, ldI_n (by omega) (by omega), K1.a 6 p (by omega), Option.bind_some, show (15 : Nat) + 3 = 18 from rfl, pk_mul, pk_mul, s_firstRound N hN l18 (show 32 * p + 8 * G.i 6 p ≤ 384 by omega) (by omega) (by omega) ((wdC_sq h (hI.ok h) hp).lt (by omega)) a2, Option.bind_some]
    simp only [fR_m1 (show 8 * G.i 6 p < 2 ^ 31 by omega), Option.bind_some]
    have hb := bPf_w h (hI.ok h) hp
    have eD : nI p + m1 = nI p - nI 1 := by
      rw [show m1 = -(nI 1) by decide +kernel, ← Int32.sub_eq_add_neg]
    rw [eD]
    by_cases c : fb (fun o => (wdC G A p o).testBit o) (8 * G.i 6 p) < 8 * G.i 6 p
    · have f2 : FX PBl M1 (upI M1 15 3 (nI p)) := FX.I (Or.inr ⟨rfl, rfl⟩)
      rw [if_neg (not_not_intro c), pI_n, Option.bind_some]
      obtain ⟨M2, b1, b2, b3, b4⟩ := loop_block N hN h hg hI kE fu p _ (by omega) (by omega) (K1.fx f2 fun k hk j q => by unfold PBl at q; omega) (hP1.fx f2 (fun j q => by unfold PBl at q; omega) (fun j q => by unfold PBl at q; omega)) (fun q hq => (hC1 q hq).fx f2 fun j _ _ z => by unfold PBl at z; omega) (fun q q1 q2 o ho => by rw [up1, if_neg (by decide)]; exact hW1 q q1 q2 o ho) (Or.inl ⟨p, Nat.le_refl _, hp, hb.mp c, fun j j1 j2 => by omega, upI_s _ _ _ _⟩)
      exact ⟨M2, b1, b2, b3, (f1.trans f2).trans b4⟩
    · have hn : bPf G A p = false := by
        cases x : bPf G A p
        · rfl
        · exact absurd (hb.mpr x) c
      rw [if_pos c]
      obtain ⟨M2, b1, b2, b3, b4⟩ := loop_block N hN h hg hI kE fu p M1 (by omega) (by omega) K1 hP1 hC1 hW1 (by
        rw [e15]
        rcases hB with ⟨r, r1, r2, r3, r4, r5⟩ | ⟨b1, b2⟩
        · exact Or.inl ⟨r, by omega, r2, r3, fun j j1 j2 => by
            by_cases z : j = p
            · rw [z]; exact hn
            · exact r4 j (by omega) j2, r5⟩
        · exact Or.inr ⟨fun j j1 j2 => by
            by_cases z : j = p
            · rw [z]; exact hn
            · exact b1 j (by omega) j2, b2⟩)
      exact ⟨M2, b1, b2, b3, f1.trans b4⟩
