-- the class links a tree
def CT (w : Nat) (G : Gr) (t : TR) (M : Mm) : Prop := M.1 w 0 = nI (tn t) ∧ ∀ e, e < tn t → CN w G e (tp t e) (to' t e) (nP (tu t e)) (tq t e) (td t e - 1) M
/-- the node that tells an instance (one more; 0 none), as which occ, and what it asks there -/
def niT (G : Gr) (t : TR) (k : Nat) : Nat := G.i 4 (G.i 7 (4 * tp t k))
def bsT (G : Gr) (t : TR) (i : Nat) : Nat := if i % 8 < niT G t (i / 8) then tu t (i / 8) else i / 8 + 1
def ocT (G : Gr) (t : TR) (i : Nat) : Nat := if i % 8 < niT G t (i / 8) then 8 * tq t (i / 8) + i % 8 else i % 8
def akT (G : Gr) (t : TR) (i : Nat) : Nat := if bsT G t i = 0 then 0 else G.i 12 (32 * tp t (bsT G t i - 1) + ocT G t i)
def LI1 (w : Nat) (G : Gr) (t : TR) (i : Nat) (M : Mm) : Prop := M.1 (w + 13) i = nP (bsT G t i) ∧ M.1 (w + 14) i = nI (ocT G t i) ∧ M.1 (w + 15) i = nI (akT G t i)
def PLi (w b _j : Nat) : Prop := b = w + 13 ∨ b = w + 14 ∨ b = w + 15
/-- places of a whole tree -/
def TOK2 (G : Gr) (t : TR) (ce : Nat → Nat → Nat) (me : Nat → Nat) : Prop := TOK G t ce me ∧ tq t 0 = 0 ∧ td t 0 = 1 ∧ tn t ≤ 40 ∧ ∀ e, e < tn t → td t e ≤ 12
theorem CN.fx {P : Nat → Nat → Prop} {w : Nat} {G : Gr} {e p o q d : Nat} {u : Int32} {M M' : Mm} (h : CN w G e p o u q d M) (f : FX P M M') (hP : ∀ k, 1 ≤ k → k ≤ 10 → ¬ k = 6 → ¬ P (w + k) e) : CN w G e p o u q d M' := by
  obtain ⟨a1, a2, a3, a4, a5, a6, a7, a8, a9⟩ := h
  exact ⟨(f.2 _ _ (hP 1 (by omega) (by omega) (by omega))).1.trans a1, (f.2 _ _ (hP 2 (by omega) (by omega) (by omega))).1.trans a2, (f.2 _ _ (hP 3 (by omega) (by omega) (by omega))).1.trans a3, (f.2 _ _ (hP 4 (by omega) (by omega) (by omega))).1.trans a4, (f.2 _ _ (hP 5 (by omega) (by omega) (by omega))).1.trans a5, (f.2 _ _ (hP 7 (by omega) (by omega) (by omega))).1.trans a6, (f.2 _ _ (hP 8 (by omega) (by omega) (by omega))).1.trans a7, (f.2 _ _ (hP 9 (by omega) (by omega) (by omega))).1.trans a8, (f.2 _ _ (hP 10 (by omega) (by omega) (by omega))).1.trans a9⟩
theorem CT.fx {P : Nat → Nat → Prop} {w : Nat} {G : Gr} {t : TR} {M M' : Mm} (h : CT w G t M) (f : FX P M M') (hP : ∀ k j, k ≤ 10 → ¬ k = 6 → ¬ P (w + k) j) : CT w G t M' := ⟨(f.2 w 0 (hP 0 0 (by omega) (by omega))).1.trans h.1, fun e he => (h.2 e he).fx f fun k _ k2 k3 => hP k e k2 k3⟩
theorem TOK.par (G : Gr) {t : TR} {ce : Nat → Nat → Nat} {me : Nat → Nat} (h : TOK G t ce me) {e : Nat} (he : e < tn t) : tu t e ≤ e := by
  by_cases z : e = 0
  · subst z; rw [h.1.2.1]; exact Nat.le_refl _
  · exact (h.2.2 e (by omega) he).2.1
theorem TOK.occ {G : Gr} {t : TR} {ce : Nat → Nat → Nat} {me : Nat → Nat} (hq : QG G) (h : TOK2 G t ce me) {i : Nat} (hi : i < 8 * tn t) : bsT G t i ≤ tn t ∧ ocT G t i < 32 := by
  have he : i / 8 < tn t := by omega
  have p := h.1.par G he
  unfold bsT ocT
  by_cases z : i % 8 < niT G t (i / 8)
  · rw [if_pos z, if_pos z]
    by_cases y : i / 8 = 0
    · rw [y, h.2.1]; rw [y] at p; omega
    · obtain ⟨b1, b2, b3, b4, b5⟩ := h.1.2.2 (i / 8) (by omega) he
      have := hq.sd (h.1.2.1 (tu t (i / 8) - 1) (by omega)).1
      omega
  · rw [if_neg z, if_neg z]; omega
theorem loop_linkI {w g k : Nat} {G : Gr} {t : TR} {ce : Nat → Nat → Nat} {me : Nat → Nat} (N : Nat) (hq : QG G) (hg : g = 35 ∨ g = 52) (hw : w = 69 ∨ w = 87) (h : TOK2 G t ce me) (hk : k < tn t) : ∀ (fu a : Nat) (M : Mm), a ≤ 8 → 8 < a + fu → CG g G M → CT w G t M → (∀ b, b < a → LI1 w G t (8 * k + b) M) → ∃ M', L_X8_linkInstances_2 (nI k) w g fu (nI a) M = some M' ∧ (∀ b, b < 8 → LI1 w G t (8 * k + b) M') ∧ FX (fun b j => PLi w b j ∧ 8 * k ≤ j ∧ j < 8 * k + 8) M M'
  | 0, a, M, h1, h2, _, _, _ => by omega
  | fu + 1, a, M, h1, h2, K, C, hL => by
    have h40 := h.2.2.2.1
    have hnp := hq.np
    rw [L_X8_linkInstances_2]
    simp only [n_le (show 8 < 2 ^ 31 by omega) (show a < 2 ^ 31 by omega)]
    by_cases e : 8 ≤ a
    · rw [if_pos e]; exact ⟨M, rfl, fun b hb => hL b (by omega), FX.refl⟩
    · have cn := C.2 k hk
      have pk := (h.1.2.1 k hk).1
      have hs : G.i 7 (4 * tp t k) < G.i 0 0 := hq.sy pk (show 0 < G.i 6 (tp t k) by have := hq.sd pk; omega)
      have h4 := hq.at' hs
      have md : (8 * k + a) % 8 = a := by omega
      have dv : (8 * k + a) / 8 = k := by omega
      have ni4 : niT G t k ≤ 4 := h4.1
      have oc := TOK.occ hq h (show 8 * k + a < 8 * tn t by omega)
      have ebs : bsT G t (8 * k + a) = if a < niT G t k then tu t k else k + 1 := by unfold bsT; rw [md, dv]
      have eoc : ocT G t (8 * k + a) = if a < niT G t k then 8 * tq t k + a else a := by unfold ocT; rw [md, dv]
      have p31 : (if nI (G.i 4 (G.i 7 (4 * tp t k))) ≤ nI a then (some (nI 0)) else (some (nI 1))) = some (bI (decide (a < niT G t k))) := by
        simp only [n_le (show G.i 4 (G.i 7 (4 * tp t k)) < 2 ^ 31 by omega) (show a < 2 ^ 31 by omega)]
        by_cases z : G.i 4 (G.i 7 (4 * tp t k)) ≤ a
        · rw [if_pos z, decide_eq_false (show ¬ a < niT G t k by unfold niT; omega)]; rfl
        · rw [if_neg z, decide_eq_true (show a < niT G t k by unfold niT; omega)]; rfl
      have p54 : (if bI (decide (a < niT G t k)) = nI 0 then (some (nI k)) else ((ldI 40 (w + 3) (nI k) M).bind fun v8 => (some v8))) = some (nP (bsT G t (8 * k + a))) := by
        simp only [bI_0, decide_eq_false_iff_not]
        rw [ebs]
        by_cases z : a < niT G t k
        · rw [if_neg (not_not_intro z), if_pos z, ldI_n (by omega) (by omega), cn.2.2.1]; rfl
        · rw [if_pos z, if_neg z, nP_s (by omega)]; rfl
      rw [if_neg e, pk_mul, nI_add, Option.bind_some, ldI_n (by omega) (by omega), cn.2.2.2.2.2.2.1, Option.bind_some, p31, Option.bind_some, p54, Option.bind_some, stI_n (by omega) (by omega), Option.bind_some]
      have f1 : FX (fun b j => PLi w b j ∧ 8 * k ≤ j ∧ j < 8 * k + 8) M (upI M (w + 13) (8 * k + a) (nP (bsT G t (8 * k + a)))) := FX.I ⟨Or.inl rfl, by omega, by omega⟩
      have C1 : CT w G t (upI M (w + 13) (8 * k + a) (nP (bsT G t (8 * k + a)))) := C.fx f1 fun k' j a1 a2 z => by unfold PLi at z; omega
      have cn1 := C1.2 k hk
      have p81 : (if bI (decide (a < niT G t k)) = nI 0 then (some (nI a)) else ((ldI 40 (w + 4) (nI k) (upI M (w + 13) (8 * k + a) (nP (bsT G t (8 * k + a))))).bind fun v7 => (some (((nI 8) * v7) + nI a)))) = some (nI (ocT G t (8 * k + a))) := by
        simp only [bI_0, decide_eq_false_iff_not]
        rw [eoc]
        by_cases z : a < niT G t k
        · rw [if_neg (not_not_intro z), if_pos z, ldI_n (by omega) (by omega), cn1.2.2.2.1, Option.bind_some, pk_mul, nI_add]
        · rw [if_pos z, if_neg z]
      rw [p81, Option.bind_some, stI_n (by omega) (by omega), Option.bind_some]
      have f2 : FX (fun b j => PLi w b j ∧ 8 * k ≤ j ∧ j < 8 * k + 8) (upI M (w + 13) (8 * k + a) (nP (bsT G t (8 * k + a)))) (upI (upI M (w + 13) (8 * k + a) (nP (bsT G t (8 * k + a)))) (w + 14) (8 * k + a) (nI (ocT G t (8 * k + a)))) := FX.I ⟨Or.inr (Or.inl rfl), by omega, by omega⟩
      have F2 := f1.trans f2
      have e13 : (upI (upI M (w + 13) (8 * k + a) (nP (bsT G t (8 * k + a)))) (w + 14) (8 * k + a) (nI (ocT G t (8 * k + a)))).1 (w + 13) (8 * k + a) = nP (bsT G t (8 * k + a)) := by rw [upI_n (by omega), upI_s]
      have e14 : (upI (upI M (w + 13) (8 * k + a) (nP (bsT G t (8 * k + a)))) (w + 14) (8 * k + a) (nI (ocT G t (8 * k + a)))).1 (w + 14) (8 * k + a) = nI (ocT G t (8 * k + a)) := upI_s _ _ _ _
      have C2 := C.fx F2 fun k' j a1 a2 z => by unfold PLi at z; omega
      have K2 : CG g G (upI (upI M (w + 13) (8 * k + a) (nP (bsT G t (8 * k + a)))) (w + 14) (8 * k + a) (nI (ocT G t (8 * k + a)))) := K.fx F2 fun k' hk' j z => by unfold PLi at z; omega
      have L2 : ∀ b, b < a → LI1 w G t (8 * k + b) (upI (upI M (w + 13) (8 * k + a) (nP (bsT G t (8 * k + a)))) (w + 14) (8 * k + a) (nI (ocT G t (8 * k + a)))) := fun b hb => by
        obtain ⟨q1, q2, q3⟩ := hL b hb
        refine ⟨?_, ?_, ?_⟩
        · rw [upI_n (by omega), upI_j, if_neg (by omega)]; exact q1
        · rw [upI_j, if_neg (by omega), upI_n (by omega)]; exact q2
        · rw [upI_n (by omega), upI_n (by omega)]; exact q3
      generalize upI (upI M (w + 13) (8 * k + a) (nP (bsT G t (8 * k + a)))) (w + 14) (8 * k + a) (nI (ocT G t (8 * k + a))) = M3 at F2 e13 e14 C2 K2 L2
      have fin : ∀ M4, M4 = upI M3 (w + 15) (8 * k + a) (nI (akT G t (8 * k + a))) → ∃ M', L_X8_linkInstances_2 (nI k) w g fu (nI (a + 1)) M4 = some M' ∧ (∀ b, b < 8 → LI1 w G t (8 * k + b) M') ∧ FX (fun b j => PLi w b j ∧ 8 * k ≤ j ∧ j < 8 * k + 8) M M' := fun M4 e4 => by
        have f4 : FX (fun b j => PLi w b j ∧ 8 * k ≤ j ∧ j < 8 * k + 8) M3 M4 := by rw [e4]; exact FX.I ⟨Or.inr (Or.inr rfl), by omega, by omega⟩
        obtain ⟨M', b1, b2, b3⟩ := loop_linkI N hq hg hw h hk fu (a + 1) M4 (by omega) (by omega) (K2.fx f4 fun k' hk' j z => by unfold PLi at z; omega) (C2.fx f4 fun k' j a1 a2 z => by unfold PLi at z; omega) (fun b hb => by
          rw [e4]
          unfold LI1
          rw [upI_n (by omega), upI_n (by omega), upI_j]
          by_cases z : b = a
          · subst z; rw [if_pos rfl]; exact ⟨e13, e14, rfl⟩
          · rw [if_neg (by omega)]; exact L2 b (by omega))
        exact ⟨M', b1, b2, (F2.trans f4).trans b3⟩
      rw [ldI_n (by omega) (by omega), Option.bind_some, e13]
      by_cases z : bsT G t (8 * k + a) = 0
      · rw [z, show nP 0 = m1 from rfl, if_pos rfl, stI_n (by omega) (by omega), Option.bind_some, Option.bind_some, nI_add]
        exact fin _ (by unfold akT; rw [if_pos z])
      · have bk : bsT G t (8 * k + a) - 1 < tn t := by omega
        have cb := C2.2 _ bk
        have pb := (h.1.2.1 _ bk).1
        rw [nP_s (by omega), if_neg (n_ne_m1 (by omega)), Option.bind_some, ldI_n (k := bsT G t (8 * k + a) - 1) (by omega) (by omega), cb.1, Option.bind_some, ldI_n (by omega) (by omega), e14, Option.bind_some, pk_mul, nI_add, ldI_n (by omega) (by omega), K2.a 12 _ (by omega), Option.bind_some, stI_n (by omega) (by omega), Option.bind_some, Option.bind_some, nI_add]
        exact fin _ (by unfold akT; rw [if_neg z])
