-- the reference's instances: who tells them
def thB (G : Gr) (t : TR) (i : Nat) : Bool := decide (i / 8 < tn t) && decide (i % 8 < att G (syT G t (i / 8)))
theorem thB_t {G : Gr} {t : TR} {i : Nat} : thB G t i = true ↔ thT G t i := by unfold thB thT; simp
theorem thB_f {G : Gr} {t : TR} {i : Nat} : thB G t i = false ↔ ¬ thT G t i := by rw [← thB_t]; simp
theorem r_from1 {x y : Nat} (N : Nat) (M : Mm) (hx : x < 2 ^ 31) (hy : y < 2 ^ 31) : D_X12_isFrom N (nI x) (nI 0) (nI y - nI 1) M = some (bI (decide (x < y))) := by
  by_cases z : y = 0
  · subst z
    unfold D_X12_isFrom
    rw [show nI 0 - nI 1 = m1 by decide +kernel]
    simp only [jn, n_lt hx (show 0 < 2 ^ 31 by omega)]
    rw [if_neg (by omega), if_pos (show m1 < nI x by rw [m1_lt_n hx]; trivial), decide_eq_false (by omega)]; rfl
  · rw [n_sub (by omega), r_isFrom N M hx (by omega) (by omega)]
    by_cases c : x < y
    · rw [decide_eq_true c, decide_eq_true (by omega)]
    · rw [decide_eq_false c, decide_eq_false (by omega)]
/-- the reference has a grammar and a tree -/
def RT1 (G : Gr) (t : TR) (M : Mm) : Prop := QT G M ∧ RN t M
def RBs (G : Gr) (t : TR) (m : Nat) (M : Mm) : Prop := ∀ i, i < m → M.1 174 i = bI (thB G t i) ∧ (thT G t i → M.1 164 i = nP (bsT G t i) ∧ M.1 165 i = nI (ocT G t i))
def PBs (b _j : Nat) : Prop := b = 164 ∨ b = 165 ∨ b = 174
theorem RN.fx {P : Nat → Nat → Prop} {t : TR} {M M' : Mm} (h : RN t M) (f : FX P M M') (h1 : ¬ P 137 50) (h2 : ∀ b j, 157 ≤ b → b ≤ 159 → ¬ P b j) : RN t M' := ⟨(f.2 137 50 h1).1.trans h.1, fun e he => by
  obtain ⟨a1, a2, a3⟩ := h.2 e he
  exact ⟨(f.2 157 e (h2 _ _ (by omega) (by omega))).1.trans a1, (f.2 158 e (h2 _ _ (by omega) (by omega))).1.trans a2, (f.2 159 e (h2 _ _ (by omega) (by omega))).1.trans a3⟩⟩
theorem RT1.fx {P : Nat → Nat → Prop} {G : Gr} {t : TR} {M M' : Mm} (h : RT1 G t M) (f : FX P M M') (hP : ∀ b j, P b j → 159 < b ∨ b = 137 ∧ ¬ j = 50) : RT1 G t M' := ⟨h.1.sb f fun b j z => by have := hP b j z; omega, h.2.fx f (fun z => by have := hP _ _ z; omega) (fun b j h1 h2 z => by have := hP b j z; omega)⟩
section tok
variable {G : Gr} {t : TR} {ce : Nat → Nat → Nat} {me : Nat → Nat} {M : Mm}
theorem r_isNode {k : Nat} (N : Nat) (R : RN t M) (ht : tn t < 2 ^ 31) (hk : k < 2 ^ 31) : D_X12_isNode N 137 (nI k) M = some (bI (decide (k < tn t))) := by
  unfold D_X12_isNode
  rw [R.1, r_from1 N M hk ht, Option.bind_some, okZ_b]
theorem r_symbolOf {k : Nat} (N : Nat) (h : TOK2 G t ce me) (R : RT1 G t M) (hk : k < tn t) : D_X12_symbolOf N 137 (nI k) M = some (nI (syT G t k)) := by
  have h40 := h.2.2.2.1
  have pk := (h.1.2.1 k hk).1
  have hnp := R.1.g.np
  have hsd := R.1.g.sd pk
  have l : M.1 139 (20 + tp t k) = nI (G.i 7 (4 * tp t k)) := ((R.1.1.2.2.1 _ pk).2 (by omega)).1
  unfold D_X12_symbolOf
  rw [show (137 : Nat) + 20 = 157 from rfl, show (137 : Nat) + 2 = 139 from rfl, ldI_n (by omega) (by omega), (R.2.2 k hk).1, Option.bind_some, nI_add, ldI_n (by omega) (by omega), l]; rfl
theorem r_isInst {k a : Nat} (N : Nat) (h : TOK2 G t ce me) (R : RT1 G t M) (hk : k < 2 ^ 31) (ha : a < 8) : D_X12_isInstance N 137 (nI k) (nI a) M = some (bI (thB G t (8 * k + a))) := by
  have h40 := h.2.2.2.1
  have hq := R.1.g
  have e1 : (8 * k + a) / 8 = k := by omega
  have e2 : (8 * k + a) % 8 = a := by omega
  unfold D_X12_isInstance thB
  rw [e1, e2, r_isNode N R.2 (by omega) hk, Option.bind_some]
  simp only [jn, bI_0]
  by_cases z : k < tn t
  · have hs := syT_lt hq h.1 z
    have h8 := (ni_le hq h.1 z).2
    rw [decide_eq_true z, if_neg (by decide), r_symbolOf N h R z, Option.bind_some, R.1.att N hs, Option.bind_some, r_from1 N M (by omega) (show G.i 4 (syT G t k) + G.i 5 (syT G t k) < 2 ^ 31 by unfold att at h8; omega), Option.bind_some]
    simp only [bI_0, Bool.true_and, decide_eq_false_iff_not]
    show (if ¬ a < att G (syT G t k) then okZ (nI 0) else okZ (nI 1)) = _
    by_cases y : a < att G (syT G t k)
    · rw [if_neg (not_not_intro y), decide_eq_true y]; rfl
    · rw [if_pos y, decide_eq_false y]; rfl
  · rw [decide_eq_false z, if_pos rfl, Bool.false_and]; rfl
theorem loop_bases (N : Nat) (hN : 2000 < N) (h : TOK2 G t ce me) : ∀ (fu i : Nat) (M : Mm), i ≤ 320 → 320 < i + fu → RT1 G t M → RBs G t i M → ∃ M', L_X12_laysBases_2 N 137 fu (nI i) M = some M' ∧ RBs G t 320 M' ∧ FX PBs M M'
  | 0, i, M, h1, h2, _, _ => by omega
  | fu + 1, i, M, h1, h2, R, hB => by
    have h40 := h.2.2.2.1
    have hq := R.1.g
    have nPB : ∀ b j, PBs b j → 159 < b ∨ b = 137 ∧ ¬ j = 50 := fun b j z => by unfold PBs at z; omega
    rw [L_X12_laysBases_2]
    simp only [n_le (show 320 < 2 ^ 31 by omega) (show i < 2 ^ 31 by omega)]
    by_cases e : 320 ≤ i
    · rw [if_pos e]; exact ⟨M, rfl, fun j hj => hB j (by omega), FX.refl⟩
    · rw [if_neg e, dv_n (by omega) (by omega) (by omega), Option.bind_some, rm_n (by omega) (by omega) (by omega), Option.bind_some, r_isInst N h R (by omega) (by omega), Option.bind_some, show 8 * (i / 8) + i % 8 = i by omega, show (137 : Nat) + 37 = 174 from rfl, stZ_n (by omega) (by omega), Option.bind_some, ldI_n (by omega) (by omega), upI_s, Option.bind_some]
      have f1 : FX PBs M (upI M 174 i (bI (thB G t i))) := FX.I (by unfold PBs; omega)
      have next : ∀ M2, FX PBs M M2 → (∀ j, ¬ j = i → M2.1 174 j = M.1 174 j ∧ M2.1 164 j = M.1 164 j ∧ M2.1 165 j = M.1 165 j) → (M2.1 174 i = bI (thB G t i) ∧ (thT G t i → M2.1 164 i = nP (bsT G t i) ∧ M2.1 165 i = nI (ocT G t i))) → ∃ M', ((some (nI i + nI 1)).bind fun l => L_X12_laysBases_2 N 137 fu l M2) = some M' ∧ RBs G t 320 M' ∧ FX PBs M M' := fun M2 f2 g1 g2 => by
        rw [Option.bind_some, nI_add]
        obtain ⟨M', b1, b2, b3⟩ := loop_bases N hN h fu (i + 1) M2 (by omega) (by omega) (R.fx f2 nPB) (fun j hj => by
          by_cases z : j = i
          · rw [z]; exact g2
          · obtain ⟨q1, q2, q3⟩ := g1 j z
            rw [q1, q2, q3]; exact hB j (by omega))
        exact ⟨M', b1, b2, f2.trans b3⟩
      simp only [bI_0]
      cases x : thB G t i
      · rw [if_pos rfl]
        refine next _ (by rw [x] at f1; exact f1) (fun j hj => ⟨by rw [upI_j, if_neg hj], by rw [upI_n (by decide)], by rw [upI_n (by decide)]⟩) ⟨by rw [upI_s, x], fun z => absurd (thB_t.2 z) (by rw [x]; decide)⟩
      · have th := thB_t.1 x
        rw [x] at f1
        have R1 := R.fx f1 nPB
        have hk := th.1
        have hs := syT_lt hq h.1 hk
        have hns := hq.ns
        have ni4 := (ni_le hq h.1 hk).1
        have lIn : (upI M 174 i (bI true)).1 139 (4 + syT G t (i / 8)) = nI (niT G t (i / 8)) := (R1.1.1.2.1 _ hs).1
        rw [if_neg (by decide), r_symbolOf N h R1 hk, Option.bind_some, show (137 : Nat) + 2 = 139 from rfl, nI_add, ldI_n (by omega) (by omega), lIn, Option.bind_some]
        have p64 : (if nI (niT G t (i / 8)) ≤ nI (i % 8) then (some (nI 0)) else (some (nI 1))) = some (bI (decide (i % 8 < niT G t (i / 8)))) := by
          simp only [n_le (show niT G t (i / 8) < 2 ^ 31 by omega) (show i % 8 < 2 ^ 31 by omega)]
          by_cases z : niT G t (i / 8) ≤ i % 8
          · rw [if_pos z, decide_eq_false (by omega)]; rfl
          · rw [if_neg z, decide_eq_true (by omega)]; rfl
        have rp := (R1.2.2 (i / 8) hk).2.2
        have p86 : (if bI (decide (i % 8 < niT G t (i / 8))) = nI 0 then (some (nI (i / 8))) else ((ldI 40 (137 + 22) (nI (i / 8)) (upI M 174 i (bI true))).bind fun v6 => (some v6))) = some (nP (bsT G t i)) := by
          simp only [bI_0, decide_eq_false_iff_not]
          unfold bsT
          by_cases z : i % 8 < niT G t (i / 8)
          · rw [if_neg (not_not_intro z), if_pos z, show (137 : Nat) + 22 = 159 from rfl, ldI_n (by omega) (by omega), rp]; rfl
          · rw [if_pos z, if_neg z, nP_s (by omega), Nat.add_sub_cancel]
        rw [p64, Option.bind_some, p86, Option.bind_some, show (137 : Nat) + 27 = 164 from rfl, stI_n (by omega) (by omega), Option.bind_some]
        have f2 : FX PBs (upI M 174 i (bI true)) (upI (upI M 174 i (bI true)) 164 i (nP (bsT G t i))) := FX.I (by unfold PBs; omega)
        have R2 := R1.fx f2 nPB
        have rp2 := (R2.2.2 (i / 8) hk).2.2
        have p121 : (jn (fun (p120 : Unit) => (some (nI (i % 8)))) fun J1 => (if bI (decide (i % 8 < niT G t (i / 8))) = nI 0 then (J1 ()) else ((ldI 40 (137 + 22) (nI (i / 8)) (upI (upI M 174 i (bI true)) 164 i (nP (bsT G t i)))).bind fun v5 => (if v5 = m1 then (J1 ()) else ((D_X12_positionOf N 137 (nI (i / 8)) (upI (upI M 174 i (bI true)) 164 i (nP (bsT G t i)))).bind fun q3 => (some (((nI 8) * q3) + nI (i % 8)))))))) = some (nI (ocT G t i)) := by
          simp only [jn, bI_0, decide_eq_false_iff_not]
          unfold ocT
          by_cases z : i % 8 < niT G t (i / 8)
          · rw [if_neg (not_not_intro z), if_pos z, show (137 : Nat) + 22 = 159 from rfl, ldI_n (by omega) (by omega), rp2, Option.bind_some]
            by_cases y : i / 8 = 0
            · rw [y, h.1.1.2.1, show nP 0 = m1 from rfl, if_pos rfl, h.2.1]
              congr 2; omega
            · obtain ⟨b1, _⟩ := h.1.2.2 (i / 8) (by omega) hk
              rw [nP_s b1, if_neg (n_ne_m1 (by have := h.1.par G hk; omega)), r_positionOf N hN hq h.1 h40 R2.2 (by omega) hk, Option.bind_some, pk_mul, nI_add]
          · rw [if_pos z, if_neg z]
        rw [p121, Option.bind_some, show (137 : Nat) + 28 = 165 from rfl, stI_n (by omega) (by omega), Option.bind_some]
        refine next _ ((f1.trans f2).trans (FX.I (by unfold PBs; omega))) (fun j hj => ⟨?_, ?_, ?_⟩) ⟨?_, fun _ => ⟨?_, ?_⟩⟩
        · rw [upI_n (by decide), upI_n (by decide), upI_j, if_neg hj]
        · rw [upI_n (by decide), upI_j, if_neg hj, upI_n (by decide)]
        · rw [upI_j, if_neg hj, upI_n (by decide), upI_n (by decide)]
        · rw [upI_n (by decide), upI_n (by decide), upI_s, x]
        · rw [upI_n (by decide), upI_s]
        · rw [upI_s]
theorem r_instanceOf {k o : Nat} (N : Nat) (hN : 2000 < N) (h : TOK2 G t ce me) (R : RT1 G t M) (hk : k < tn t) (ho : o < 32) (hd : o / 8 < G.i 6 (tp t k)) : D_X12_instanceOf N 137 (nI k) (nI o) M = some (nI (inT ce k o)) := by
  have h40 := h.2.2.2.1
  unfold D_X12_instanceOf inT
  simp only [n_le (show 8 < 2 ^ 31 by omega) (show o < 2 ^ 31 by omega)]
  by_cases z : 8 ≤ o
  · rw [if_pos z, if_neg (by omega), dv_n (by omega) (by omega) (by omega), Option.bind_some, n_sub (by omega), r_child N hN R.1.g h.1 h40 R.2 hk (by omega), Option.bind_some, rm_n (by omega) (by omega) (by omega), Option.bind_some, pk_mul, nI_add, show o / 8 - 1 + 1 = o / 8 by omega]
  · rw [if_neg z, if_pos (by omega), pk_mul, nI_add, show o % 8 = o by omega]
theorem r_asksOf {i : Nat} (N : Nat) (h : TOK2 G t ce me) (R : RT1 G t M) (hB : RBs G t 320 M) (hi : thT G t i) : D_X12_asksOf N 137 (nI i) M = some (nI (akT G t i)) := by
  have h40 := h.2.2.2.1
  obtain ⟨i8, i3⟩ := th_320 h hi
  have b1 := (hB i i3).1
  obtain ⟨b2, b3⟩ := (hB i i3).2 hi
  unfold D_X12_asksOf
  rw [show (137 : Nat) + 27 = 164 from rfl, show (137 : Nat) + 28 = 165 from rfl, show (137 : Nat) + 20 = 157 from rfl, ldI_n i3 (by omega), b2, Option.bind_some]
  unfold akT
  by_cases z : bsT G t i = 0
  · rw [z, show nP 0 = m1 from rfl, if_pos rfl, if_pos rfl]
  · obtain ⟨o1, o2, o3, o4⟩ := oc_own R.1.g h hi z
    rw [nP_s (by omega), if_neg (n_ne_m1 (by omega)), if_neg z, Option.bind_some, ldI_n (by omega) (by omega), (R.2.2 _ o1).1, Option.bind_some, ldI_n i3 (by omega), b3, Option.bind_some, R.1.asks N (h.1.2.1 _ o1).1 o2]; rfl
end tok
