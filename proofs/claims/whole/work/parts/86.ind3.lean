-- the reference finds what is induced
theorem QT.fx {P : Nat → Nat → Prop} {G : Gr} {M M' : Mm} (h : QT G M) (f : FX P M M') (h1 : ∀ j, ¬ P 139 j) (h2 : ∀ j, ¬ P 141 j) : QT G M' := ⟨h.1.eq (by funext j; exact (f.2 139 j (h1 j)).1) (by funext j; exact (f.2 141 j (h2 j)).2), h.2⟩
theorem QT.kid {G : Gr} {M : Mm} (h : QT G M) {p : Nat} (hp : p < G.i 0 1) : M.1 139 (32 + p) = nI (G.i 6 p - 1) := ((h.1.2.2.1 p hp).2 (h.g.sd hp).1).2.1
theorem QT.sym {G : Gr} {M : Mm} (N : Nat) (h : QT G M) {p k : Nat} (hp : p < G.i 0 1) (hk : k < G.i 6 p) : D_X12_symbolAt N 139 (nI p) (nI k) M = some (nI (G.i 7 (4 * p + k))) := r_symbolAt N len139 h.1 h.g.1 hp hk
theorem QT.att {G : Gr} {M : Mm} (N : Nat) (h : QT G M) {s : Nat} (hs : s < G.i 0 0) : D_X12_attributes N 137 (nI s) M = some (nI (G.i 4 s + G.i 5 s)) := by
  unfold D_X12_attributes
  have := h.g.ns
  rw [show (137 : Nat) + 2 = 139 from rfl, r_attributesIn N len139 (by omega) (h.1.2.1 s hs).1 (h.1.2.1 s hs).2.1]; rfl
theorem QT.asks {G : Gr} {M : Mm} (N : Nat) (h : QT G M) {p o : Nat} (hp : p < G.i 0 1) (ho : o < 32) : D_X12_asks N 137 (nI p) (nI o) M = some (nI (G.i 12 (32 * p + o))) := by
  have hnp := h.g.np
  unfold D_X12_asks
  rw [show (137 : Nat) + 2 = 139 from rfl, pk_mul, nI_add, nI_add, ldI_n (by omega) (by omega), Nat.add_assoc, ((h.1.2.2.2.1 (32 * p + o) (by omega)).2.2 (by omega)).1]; rfl
def P4 (b _j : Nat) : Prop := b = 144
theorem loop_laysRules {G : Gr} {p : Nat} (N : Nat) (hp : p < G.i 0 1) : ∀ (fu o : Nat) (M : Mm), o ≤ 32 → 32 < o + fu → QT G M → HRo 144 0 o (fun o => G.i 12 (32 * p + o)) M → ∃ M', L_X12_laysRules_2 N 137 (nI p) fu (nI o) M = some M' ∧ HRo 144 0 32 (fun o => G.i 12 (32 * p + o)) M' ∧ FX P4 M M'
  | 0, o, M, h1, h2, _, _ => by omega
  | fu + 1, o, M, h1, h2, K, hR => by
    rw [L_X12_laysRules_2]
    simp (disch := omega) only [n_le]
    by_cases e : 32 ≤ o
    · rw [if_pos e]
      have eo : o = 32 := by omega
      subst eo
      exact ⟨M, rfl, hR, FX.refl⟩
    · rw [if_neg e, K.asks N hp (by omega), Option.bind_some, show (137 : Nat) + 7 = 144 from rfl, stI_n (by omega) (by omega), Option.bind_some, Option.bind_some, nI_add]
      have f1 : FX P4 M (upI M 144 o (nI (G.i 12 (32 * p + o)))) := FX.I rfl
      obtain ⟨M', a, b, c⟩ := loop_laysRules N hp fu (o + 1) _ (by omega) (by omega) (K.fx f1 (fun j q => by have : 139 = 144 := q; omega) (fun j q => by have : 141 = 144 := q; omega)) (fun i hi => by
        rw [Nat.zero_add, upI_j]
        by_cases q : i = o
        · rw [if_pos q, q]
        · rw [if_neg q]; have := hR i (by omega); rw [Nat.zero_add] at this; exact this)
      exact ⟨M', a, b, f1.trans c⟩
theorem r_laysRules {G : Gr} {p : Nat} {M : Mm} (N : Nat) (hN : 2000 < N) (hp : p < G.i 0 1) (K : QT G M) : ∃ M', D_X12_laysRules N 137 (nI p) M = some M' ∧ HRo 144 0 32 (fun o => G.i 12 (32 * p + o)) M' ∧ FX P4 M M' := loop_laysRules N hp N 0 M (by omega) (by omega) K fun o ho => by omega
/-- rel on the way: below m as it will be -/
def LW (G : Gr) (A : Nat → Nat) (p m : Nat) (M : Mm) : Prop := ∀ o, o < 32 → M.1 144 o = nI (if o < m then layR G A p o else G.i 12 (32 * p + o))
theorem LW.skip {G : Gr} {A : Nat → Nat} {p m m' : Nat} {M : Mm} (h : LW G A p m M) (hq : QG G) (hA : AOK G A) (hp : p < G.i 0 1) (hm : m ≤ m') (hu : ∀ o, m ≤ o → o < m' → o < 32 → (G.i 8 p).testBit o = false) : LW G A p m' M := fun o ho => by
  rw [h o ho]
  by_cases c : o < m
  · rw [if_pos c, if_pos (by omega)]
  · rw [if_neg c]
    by_cases c2 : o < m'
    · have u := hu o (by omega) c2 ho
      rw [if_pos c2, lay_0 hq hA hp u, hq.ak_0 hp ho u]
    · rw [if_neg c2]
theorem us_out {G : Gr} (hq : QG G) {p o : Nat} (hp : p < G.i 0 1) (h : 8 * G.i 6 p ≤ o) : (G.i 8 p).testBit o = false := by
  rw [hq.us hp, decide_eq_false (show ¬ o / 8 < G.i 6 p by omega)]; rfl
theorem us_out2 {G : Gr} (hq : QG G) {p k o : Nat} (hp : p < G.i 0 1) (h1 : 8 * k + (G.i 4 (G.i 7 (4 * p + k)) + G.i 5 (G.i 7 (4 * p + k))) ≤ o) (h2 : o < 8 * k + 8) : (G.i 8 p).testBit o = false := by
  rw [hq.us hp, show o / 8 = k by omega, decide_eq_false (show ¬ o % 8 < G.i 4 (G.i 7 (4 * p + k)) + G.i 5 (G.i 7 (4 * p + k)) by omega), Bool.and_false]
theorem us_in {G : Gr} (hq : QG G) {p k a : Nat} (hp : p < G.i 0 1) (hk : k < G.i 6 p) (ha : a < G.i 4 (G.i 7 (4 * p + k)) + G.i 5 (G.i 7 (4 * p + k))) (h8 : a < 8) : (G.i 8 p).testBit (8 * k + a) = true := by
  rw [hq.us hp, show (8 * k + a) / 8 = k by omega, show (8 * k + a) % 8 = a by omega, decide_eq_true hk, decide_eq_true ha]; rfl
theorem loop_addsIn {G : Gr} {A : Nat → Nat} {p k : Nat} (N : Nat) (hA : AOK G A) (hp : p < G.i 0 1) (hk : k < G.i 6 p) (kE : Mm → Option Mm) : ∀ (fu a : Nat) (M : Mm), a ≤ G.i 4 (G.i 7 (4 * p + k)) + G.i 5 (G.i 7 (4 * p + k)) → 9 < a + fu → QT G M → HRo 143 0 64 A M → LW G A p (8 * k + a) M → ∃ M', L_X12_addsInduced_28 kE N 137 (nI (G.i 7 (4 * p + k))) (nI k) fu (nI a) M = kE M' ∧ LW G A p (8 * (k + 1)) M' ∧ FX P4 M M'
  | 0, a, M, h1, h2, K, _, _ => by have := K.g.at' (K.g.sy hp hk); omega
  | fu + 1, a, M, h1, h2, K, hM, hL => by
    have hs := K.g.sy hp hk
    have h8 := K.g.at' hs
    have hns := K.g.ns
    have hsd := K.g.sd hp
    rw [L_X12_addsInduced_28, K.att N hs, Option.bind_some]
    simp (disch := omega) only [n_le]
    by_cases e : G.i 4 (G.i 7 (4 * p + k)) + G.i 5 (G.i 7 (4 * p + k)) ≤ a
    · rw [if_pos e]
      exact ⟨M, rfl, hL.skip K.g hA hp (by omega) fun o h1 h2 _ => us_out2 (k := k) K.g hp (by omega) (by omega), FX.refl⟩
    · have hl := hL (8 * k + a) (by omega)
      rw [if_neg (by omega)] at hl
      have hm := hM (8 * G.i 7 (4 * p + k) + a) (by omega)
      rw [Nat.zero_add] at hm
      rw [if_neg e, show (137 : Nat) + 7 = 144 from rfl, show (137 : Nat) + 6 = 143 from rfl, pk_mul, nI_add, ldI_n (by omega) (by omega), hl, Option.bind_some, pk_mul, nI_add, ldI_n (by omega) (by omega), hm, Option.bind_some, n_shl _ (show 8 * k < 32 by omega), n_or, stI_n (by omega) (by omega), Option.bind_some, Option.bind_some, nI_add]
      have f1 : FX P4 M (upI M 144 (8 * k + a) (nI (G.i 12 (32 * p + (8 * k + a)) ||| A (8 * G.i 7 (4 * p + k) + a) * 2 ^ (8 * k)))) := FX.I rfl
      obtain ⟨M', b1, b2, b3⟩ := loop_addsIn N hA hp hk kE fu (a + 1) _ (by omega) (by omega) (K.fx f1 (fun j q => by have : 139 = 144 := q; omega) (fun j q => by have : 141 = 144 := q; omega)) (hM.fx f1 fun j _ _ q => by have : 143 = 144 := q; omega) (fun o ho => by
        rw [upI_j]
        by_cases q : o = 8 * k + a
        · rw [if_pos q, if_pos (by omega), q]
          unfold layR rwI
          rw [if_pos (by omega), show (8 * k + a) / 8 = k by omega, show (8 * k + a) % 8 = a by omega]
        · rw [if_neg q, hL o ho]
          by_cases q2 : o < 8 * k + a
          · rw [if_pos q2, if_pos (by omega)]
          · rw [if_neg q2, if_neg (by omega)])
      exact ⟨M', b1, b2, f1.trans b3⟩
theorem loop_addsInduced {G : Gr} {A : Nat → Nat} {p : Nat} (N : Nat) (hN : 2000 < N) (hA : AOK G A) (hp : p < G.i 0 1) : ∀ (fu k : Nat) (M : Mm), k ≤ G.i 6 p → 5 < k + fu → QT G M → HRo 143 0 64 A M → LW G A p (8 * k) M → ∃ M', L_X12_addsInduced_2 137 (nI p) N fu (nI k) M = some M' ∧ HRo 144 0 32 (layR G A p) M' ∧ FX P4 M M'
  | 0, k, M, h1, h2, K, _, _ => by have := K.g.sd hp; omega
  | fu + 1, k, M, h1, h2, K, hM, hL => by
    have hsd := K.g.sd hp
    have hnp := K.g.np
    rw [L_X12_addsInduced_2, show (137 : Nat) + 2 = 139 from rfl, nI_add, ldI_n (by omega) (by omega), K.kid hp, Option.bind_some]
    simp (disch := omega) only [n_lt]
    by_cases e : G.i 6 p - 1 < k
    · rw [if_pos e]
      refine ⟨M, rfl, fun o ho => ?_, FX.refl⟩
      have := (hL.skip K.g hA hp (show 8 * k ≤ 32 by omega) fun o q1 q2 _ => us_out K.g hp (by omega)) o ho
      rw [Nat.zero_add, this, if_pos ho]
    · rw [if_neg e, K.sym N hp (by omega), Option.bind_some]
      obtain ⟨M1, a1, a2, a3⟩ := loop_addsIn N hA hp (show k < G.i 6 p by omega) (fun (M4 : Mm) => ((some (nI k + (nI 1))).bind fun l2_2 => (L_X12_addsInduced_2 137 (nI p) N fu l2_2 M4))) N 0 M (by omega) (by omega) K hM hL
      rw [a1, Option.bind_some, nI_add]
      obtain ⟨M2, b1, b2, b3⟩ := loop_addsInduced N hN hA hp fu (k + 1) M1 (by omega) (by omega) (K.fx a3 (fun j q => by have : 139 = 144 := q; omega) (fun j q => by have : 141 = 144 := q; omega)) (hM.fx a3 fun j _ _ q => by have : 143 = 144 := q; omega) a2
      exact ⟨M2, b1, b2, a3.trans b3⟩
theorem P4.n {M M' : Mm} {G : Gr} (K : QT G M) (f : FX P4 M M') : QT G M' := K.fx f (fun j q => by have : 139 = 144 := q; omega) (fun j q => by have : 141 = 144 := q; omega)
theorem HRo.p4 {a f w : Nat} {R : Nat → Nat} {M M' : Mm} (h : HRo a f w R M) (fx : FX P4 M M') (ha : ¬ a = 144) : HRo a f w R M' := h.fx fx fun j _ _ q => ha q
theorem r_laysInd {G : Gr} {A : Nat → Nat} {p : Nat} {M : Mm} (N : Nat) (hN : 2000 < N) (hA : AOK G A) (hp : p < G.i 0 1) (K : QT G M) (hM : HRo 143 0 64 A M) : ∃ M1 M', D_X12_laysRules N 137 (nI p) M = some M1 ∧ D_X12_addsInduced N 137 (nI p) M1 = some M' ∧ HRo 144 0 32 (layR G A p) M' ∧ FX P4 M M' := by
  obtain ⟨M1, a1, a2, a3⟩ := r_laysRules N hN hp K
  obtain ⟨M2, b1, b2, b3⟩ := loop_addsInduced N hN hA hp N 0 M1 (by omega) (by omega) (P4.n K a3) (hM.p4 a3 (by decide)) (fun o ho => by have := a2 o ho; rw [Nat.zero_add] at this; rw [if_neg (by omega)]; exact this)
  exact ⟨M1, M2, a1, b1, b2, a3.trans b3⟩
theorem r_laysClosed {G : Gr} {A : Nat → Nat} {p : Nat} {M : Mm} (N : Nat) (hN : 2000 < N) (hA : AOK G A) (hp : p < G.i 0 1) (K : QT G M) (hM : HRo 143 0 64 A M) : ∃ M', D_X12_laysClosed N 137 (nI p) M = some M' ∧ HRo 144 0 32 (iC G A p) M' ∧ FX P4 M M' := by
  have hsd := K.g.sd hp
  obtain ⟨M1, M2, a1, a2, a3, a4⟩ := r_laysInd N hN hA hp K hM
  have sq := lay_sq K.g hA hp
  obtain ⟨M3, b1, b2, b3⟩ := r_closes N hN (sq.lt (by omega)) a3
  rw [clo_32 sq (by omega)] at b2
  unfold D_X12_laysClosed
  rw [a1, Option.bind_some, a2, Option.bind_some, b1, Option.bind_some]
  exact ⟨M3, rfl, b2, a4.trans b3⟩
theorem gS_0 {G : Gr} {p o : Nat} {C A : Nat → Nat} (h : C o = 0) : gS G p C o A = A := by
  funext r
  unfold gS; rw [h, Nat.zero_div, Nat.zero_and, Nat.or_zero, ite_self]
theorem gat_skip {G : Gr} {p : Nat} {C A : Nat → Nat} {m : Nat} : ∀ d, (∀ o, m ≤ o → o < m + d → C o = 0) → gat G p C (m + d) A = gat G p C m A
  | 0, _ => rfl
  | d + 1, h => by
    rw [show m + (d + 1) = (m + d) + 1 from rfl, gat_s, gS_0 (h _ (by omega) (by omega))]
    exact gat_skip d fun o h1 h2 => h o h1 (by omega)
def P3 (b _j : Nat) : Prop := b = 143
theorem loop_indIn {G : Gr} {A C : Nat → Nat} {p k : Nat} (N : Nat) (hA : AOK G A) (hp : p < G.i 0 1) (hk : k < G.i 6 p) (hC : ∀ o, (G.i 8 p).testBit o = false → C o = 0) (hC32 : LT C) (kE : Int32 → Mm → Option Mm) : ∀ (fu a : Nat) (b : Bool) (M : Mm), a ≤ G.i 4 (G.i 7 (4 * p + k)) + G.i 5 (G.i 7 (4 * p + k)) → 9 < a + fu → QT G M → HRo 143 0 64 (gat G p C (8 * k + a) A) M → HRo 144 0 32 C M → ∃ b' M', L_X12_induces_75 kE N 137 (nI (G.i 7 (4 * p + k))) (nI k) fu (bI b) (nI a) M = kE (bI (b || b')) M' ∧ HRo 143 0 64 (gat G p C (8 * (k + 1)) A) M' ∧ FOK b' (gat G p C (8 * k + a) A) (gat G p C (8 * (k + 1)) A) ∧ FX P3 M M'
  | 0, a, b, M, h1, h2, K, _, _ => by have := K.g.at' (K.g.sy hp hk); omega
  | fu + 1, a, b, M, h1, h2, K, hM, hR => by
    have hs := K.g.sy hp hk
    have h8 := K.g.at' hs
    have hns := K.g.ns
    have hsd := K.g.sd hp
    rw [L_X12_induces_75, K.att N hs, Option.bind_some]
    simp (disch := omega) only [n_le]
    by_cases e : G.i 4 (G.i 7 (4 * p + k)) + G.i 5 (G.i 7 (4 * p + k)) ≤ a
    · rw [if_pos e]
      have sk : gat G p C (8 * (k + 1)) A = gat G p C (8 * k + a) A := by
        have := gat_skip (G := G) (p := p) (C := C) (A := A) (m := 8 * k + a) (8 - a) fun o q1 q2 => hC o (us_out2 (k := k) K.g hp (by omega) (by omega))
        rw [show 8 * k + a + (8 - a) = 8 * (k + 1) by omega] at this
        exact this
      rw [sk]
      exact ⟨false, M, by rw [Bool.or_false], hM, FOK.refl, FX.refl⟩
    · have gok := gat_ok K.g hA hp hC (8 * k + a) (by omega)
      have gok1 := gS_ok K.g gok hp (show 8 * k + a < 8 * G.i 6 p by omega) (hC (8 * k + a))
      have hl := hR (8 * k + a) (by omega)
      have er : rwI G p (8 * k + a) = 8 * G.i 7 (4 * p + k) + a := by unfold rwI; rw [show (8 * k + a) / 8 = k by omega, show (8 * k + a) % 8 = a by omega]
      have hm := hM (rwI G p (8 * k + a)) (by rw [er]; omega)
      rw [Nat.zero_add] at hm hl
      rw [if_neg e, show (137 : Nat) + 7 = 144 from rfl, show (137 : Nat) + 6 = 143 from rfl, pk_mul, nI_add, ← er, ldI_n (by rw [er]; omega) (by omega), hm, Option.bind_some, pk_mul, nI_add, ldI_n (by omega) (by omega), hl, Option.bind_some, n_shr (hC32 _) (show 8 * k < 32 by omega), n_and, n_or, Option.bind_some]
      have e1 : gat G p C (8 * k + a) A (rwI G p (8 * k + a)) ||| ((C (8 * k + a) / 2 ^ (8 * k)) &&& 255) = gS G p C (8 * k + a) (gat G p C (8 * k + a) A) (rwI G p (8 * k + a)) := by unfold gS; rw [if_pos rfl, show (8 * k + a) / 8 = k by omega]
      rw [e1]
      have l1 : gS G p C (8 * k + a) (gat G p C (8 * k + a) A) (rwI G p (8 * k + a)) < 2 ^ 31 := Nat.lt_trans (gok1.2.1 _) (by decide)
      have l2 : gat G p C (8 * k + a) A (rwI G p (8 * k + a)) < 2 ^ 31 := Nat.lt_trans (gok.2.1 _) (by decide)
      have ef := gS_fok (A := gat G p C (8 * k + a) A) (C := C) K.g hp (show 8 * k + a < 8 * G.i 6 p by omega)
      generalize hc : (!decide (gS G p C (8 * k + a) (gat G p C (8 * k + a) A) (rwI G p (8 * k + a)) = gat G p C (8 * k + a) A (rwI G p (8 * k + a)))) = c at ef
      have e2 : (jn (fun (p145 : Unit) => (some (nI 1))) fun J1 => (if bI b = nI 0 then ((some (nI (gat G p C (8 * k + a) A (rwI G p (8 * k + a))))).bind fun v5 => (if nI (gS G p C (8 * k + a) (gat G p C (8 * k + a) A) (rwI G p (8 * k + a))) = v5 then (some (nI 0)) else (J1 ()))) else (J1 ()))) = some (bI (b || c)) := by
        simp only [jn, Option.bind_some, n_eq l1 l2, bI_0]
        cases b
        · rw [if_pos rfl, Bool.false_or, ← hc]
          by_cases c : gS G p C (8 * k + a) (gat G p C (8 * k + a) A) (rwI G p (8 * k + a)) = gat G p C (8 * k + a) A (rwI G p (8 * k + a))
          · rw [if_pos c, decide_eq_true c]; rfl
          · rw [if_neg c, decide_eq_false c]; rfl
        · rw [if_neg (by decide)]; rfl
      rw [e2, Option.bind_some, stI_n (by rw [er]; omega) (by omega), Option.bind_some, Option.bind_some, nI_add]
      have f1 : FX P3 M (upI M 143 (rwI G p (8 * k + a)) (nI (gS G p C (8 * k + a) (gat G p C (8 * k + a) A) (rwI G p (8 * k + a))))) := FX.I rfl
      obtain ⟨b', M', c1, c2, c3, c4⟩ := loop_indIn N hA hp hk hC hC32 kE fu (a + 1) (b || c) _ (by omega) (by omega) (K.fx f1 (fun j q => by have : 139 = 143 := q; omega) (fun j q => by have : 141 = 143 := q; omega)) (fun i hi => by
        rw [Nat.zero_add, upI_j]
        show _ = nI (gS G p C (8 * k + a) (gat G p C (8 * k + a) A) i)
        by_cases z : i = rwI G p (8 * k + a)
        · rw [if_pos z, z]
        · rw [if_neg z]
          have := hM i hi
          rw [Nat.zero_add] at this
          unfold gS; rw [if_neg z]; exact this) (hR.fx f1 fun j _ _ q => by have : 144 = 143 := q; omega)
      exact ⟨c || b', M', by rw [c1, Bool.or_assoc], c2, ef.or c3, f1.trans c4⟩
theorem loop_indAt {G : Gr} {A C : Nat → Nat} {p : Nat} (N : Nat) (hN : 2000 < N) (hA : AOK G A) (hp : p < G.i 0 1) (hC : ∀ o, (G.i 8 p).testBit o = false → C o = 0) (hC32 : LT C) (kE : Int32 → Mm → Option Mm) : ∀ (fu k : Nat) (b : Bool) (M : Mm), k ≤ G.i 6 p → 5 < k + fu → QT G M → HRo 143 0 64 (gat G p C (8 * k) A) M → HRo 144 0 32 C M → ∃ b' M', L_X12_induces_48 kE 137 (nI p) N fu (bI b) (nI k) M = kE (bI (b || b')) M' ∧ HRo 143 0 64 (gat G p C (8 * G.i 6 p) A) M' ∧ FOK b' (gat G p C (8 * k) A) (gat G p C (8 * G.i 6 p) A) ∧ FX P3 M M'
  | 0, k, b, M, h1, h2, K, _, _ => by have := K.g.sd hp; omega
  | fu + 1, k, b, M, h1, h2, K, hM, hR => by
    have hsd := K.g.sd hp
    have hnp := K.g.np
    rw [L_X12_induces_48, show (137 : Nat) + 2 = 139 from rfl, nI_add, ldI_n (by omega) (by omega), K.kid hp, Option.bind_some]
    simp (disch := omega) only [n_lt]
    by_cases e : G.i 6 p - 1 < k
    · rw [if_pos e]
      have ek : k = G.i 6 p := by omega
      subst ek
      exact ⟨false, M, by rw [Bool.or_false], hM, FOK.refl, FX.refl⟩
    · rw [if_neg e, K.sym N hp (by omega), Option.bind_some]
      obtain ⟨b1, M1, a1, a2, a3, a4⟩ := loop_indIn N hA hp (show k < G.i 6 p by omega) hC hC32 (fun (l1_7 : Int32) (M10 : Mm) => ((some (nI k + (nI 1))).bind fun l3_2 => (L_X12_induces_48 kE 137 (nI p) N fu l1_7 l3_2 M10))) N 0 b M (by omega) (by omega) K hM hR
      rw [a1, Option.bind_some, nI_add]
      obtain ⟨b2, M2, c1, c2, c3, c4⟩ := loop_indAt N hN hA hp hC hC32 kE fu (k + 1) (b || b1) M1 (by omega) (by omega) (K.fx a4 (fun j q => by have : 139 = 143 := q; omega) (fun j q => by have : 141 = 143 := q; omega)) a2 (hR.fx a4 fun j _ _ q => by have : 144 = 143 := q; omega)
      exact ⟨b1 || b2, M2, by rw [c1, Bool.or_assoc], c2, a3.or c3, a4.trans c4⟩
def P34 (b _j : Nat) : Prop := b = 143 ∨ b = 144
theorem loop_indRound {G : Gr} {A : Nat → Nat} (N : Nat) (hN : 2000 < N) (hA : AOK G A) (kE : Int32 → Mm → Option Mm) : ∀ (fu p : Nat) (b : Bool) (M : Mm), p ≤ G.i 0 1 → 13 < p + fu → QT G M → HRo 143 0 64 (indP G p A) M → FOK b A (indP G p A) → ∃ b' M', L_X12_induces_31 kE 137 N fu (bI b) (nI p) M = kE (bI b') M' ∧ HRo 143 0 64 (indP G (G.i 0 1) A) M' ∧ FOK b' A (indP G (G.i 0 1) A) ∧ FX P34 M M'
  | 0, p, b, M, h1, h2, K, _, _ => by have := K.g.np; omega
  | fu + 1, p, b, M, h1, h2, K, hM, hb => by
    have hnp := K.g.np
    rw [L_X12_induces_31, show (137 : Nat) + 2 = 139 from rfl, ldI_n (by omega) (by omega), K.1.1.2.1, Option.bind_some]
    simp (disch := omega) only [n_le]
    by_cases e : G.i 0 1 ≤ p
    · rw [if_pos e]
      have ep : p = G.i 0 1 := by omega
      subst ep
      exact ⟨b, M, rfl, hM, hb, FX.refl⟩
    · have hp : p < G.i 0 1 := by omega
      have hsd := K.g.sd hp
      have ok := indP_ok K.g hA p (by omega)
      obtain ⟨M1, a1, a2, a3⟩ := r_laysClosed N hN ok hp K hM
      rw [if_neg e, a1, Option.bind_some]
      obtain ⟨b', M2, c1, c2, c3, c4⟩ := loop_indAt N hN ok hp (fun o hu => iC_0 K.g ok hp hu) ((iC_sq K.g ok hp).lt (by omega)) (fun (l1_8 : Int32) (M11 : Mm) => ((some (nI p + (nI 1))).bind fun l2_2 => (L_X12_induces_31 kE 137 N fu l1_8 l2_2 M11))) N 0 b M1 (by omega) (by omega) (P4.n K a3) (hM.p4 a3 (by decide)) a2
      rw [c1, Option.bind_some, nI_add]
      have fa : FX P34 M M2 := (a3.mono fun a j q => Or.inr q).trans (c4.mono fun a j q => Or.inl q)
      obtain ⟨b'', M3, d1, d2, d3, d4⟩ := loop_indRound N hN hA kE fu (p + 1) (b || b') M2 (by omega) (by omega) (K.fx fa (fun j q => by unfold P34 at q; omega) (fun j q => by unfold P34 at q; omega)) c2 (hb.or c3)
      exact ⟨b'', M3, d1, d2, d3, fa.trans d4⟩
theorem loop_induces {G : Gr} (N : Nat) (hN : 2000 < N) : ∀ (fu t : Nat) (M : Mm), 514 < t + fu → t ≤ muA (It G t) → QT G M → HRo 143 0 64 (It G t) M → ∃ A M', L_X12_induces_23 137 N fu (nI 1) M = some M' ∧ Ind G A ∧ HRo 143 0 64 A M' ∧ FX P34 M M'
  | 0, t, M, h1, h2, _, _ => by have := muA_le (It G t); omega
  | fu + 1, t, M, h1, h2, K, hM => by
    have hmu := muA_le (It G t)
    rw [L_X12_induces_23, if_neg z10]
    obtain ⟨b, M1, a1, a2, a3, a4⟩ := loop_indRound N hN (It_ok K.g t) (fun (l1_9 : Int32) (M12 : Mm) => (L_X12_induces_23 137 N fu l1_9 M12)) N 0 false M (by omega) (by omega) K hM FOK.refl
    have a1' : L_X12_induces_31 (fun (l1_9 : Int32) (M12 : Mm) => (L_X12_induces_23 137 N fu l1_9 M12)) 137 N N (nI 0) (nI 0) M = _ := a1
    rw [a1']
    cases b
    · have hf : It G (t + 1) = It G t := a3.1 rfl
      refine ⟨It G t, M1, ?_, ⟨t, rfl, hf⟩, ?_, a4⟩
      · cases fu with
        | zero => omega
        | succ fu => rw [L_X12_induces_23, bI_f, if_pos rfl]
      · have := a2; rw [show indP G (G.i 0 1) (It G t) = It G t from hf] at this; exact this
    · have hlt := muA_lt a3
      obtain ⟨A, M2, c1, c2, c3, c4⟩ := loop_induces N hN fu (t + 1) M1 (by omega) (by show t + 1 ≤ muA (indP G (G.i 0 1) (It G t)); omega) (K.fx a4 (fun j q => by unfold P34 at q; omega) (fun j q => by unfold P34 at q; omega)) a2
      exact ⟨A, M2, c1, c2, c3, a4.trans c4⟩
theorem loop_ind0 (kE : Mm → Option Mm) : ∀ (fu i : Nat) (M : Mm), i ≤ 64 → 64 < i + fu → HRo 143 0 i (fun _ => 0) M → ∃ M', L_X12_induces_2 kE 137 fu (nI i) M = kE M' ∧ HRo 143 0 64 (fun _ => 0) M' ∧ FX P3 M M'
  | 0, i, M, h1, h2, _ => by omega
  | fu + 1, i, M, h1, h2, hM => by
    rw [L_X12_induces_2]
    simp (disch := omega) only [n_le]
    by_cases e : 64 ≤ i
    · rw [if_pos e]
      have ei : i = 64 := by omega
      subst ei
      exact ⟨M, rfl, hM, FX.refl⟩
    · rw [if_neg e, show (137 : Nat) + 6 = 143 from rfl, stI_n (by omega) (by omega), Option.bind_some, Option.bind_some, nI_add]
      obtain ⟨M', a, b, c⟩ := loop_ind0 kE fu (i + 1) (upI M 143 i (nI 0)) (by omega) (by omega) (fun o ho => by
        rw [Nat.zero_add, upI_j]
        by_cases q : o = i
        · rw [if_pos q]
        · rw [if_neg q]; have := hM o (by omega); rw [Nat.zero_add] at this; exact this)
      exact ⟨M', a, b, (FX.I (P := P3) rfl).trans c⟩
theorem r_induces {G : Gr} {M : Mm} (N : Nat) (hN : 2000 < N) (K : QT G M) : ∃ A M', D_X12_induces N 137 M = some M' ∧ Ind G A ∧ HRo 143 0 64 A M' ∧ FX P34 M M' := by
  unfold D_X12_induces
  obtain ⟨M1, a1, a2, a3⟩ := loop_ind0 (fun (M3 : Mm) => (L_X12_induces_23 137 N N (nI 1) M3)) N 0 M (by omega) (by omega) (fun o ho => by omega)
  rw [a1]
  obtain ⟨A, M2, b1, b2, b3, b4⟩ := loop_induces N hN N 0 M1 (by omega) (Nat.zero_le _) (K.fx a3 (fun j q => by have : 139 = 143 := q; omega) (fun j q => by have : 141 = 143 := q; omega)) a2
  exact ⟨A, M2, b1, b2, b3, (a3.mono fun a j q => Or.inl q).trans b4⟩
