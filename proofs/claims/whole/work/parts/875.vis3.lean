-- what is induced for a symbol goes on hanging
theorem gat_mid {G : Gr} {p : Nat} {C A : Nat → Nat} {m : Nat} : ∀ d, LEA (gat G p C m A) (gat G p C (m + d) A)
  | 0 => LEA.refl
  | d + 1 => (gat_mid d).trans gS_le
theorem Ind.gS {G : Gr} {A : Nat → Nat} (h : Ind G A) {p o : Nat} (hp : p < G.i 0 1) (ho : o < 8 * G.i 6 p) : gS G p (iC G A p) o A = A := by
  have hf := h.fix
  have e1 := indP_same hf (show p + 1 ≤ G.i 0 1 by omega)
  have e2 := indP_same hf (show p ≤ G.i 0 1 by omega)
  rw [indP_s, e2] at e1
  have mid : ∀ n, n ≤ 8 * G.i 6 p → gat G p (iC G A p) n A = A := fun n hn => by
    refine (le_anti (gat_le n) ?_).symm
    have := gat_mid (G := G) (p := p) (C := iC G A p) (A := A) (m := n) (8 * G.i 6 p - n)
    rw [show n + (8 * G.i 6 p - n) = 8 * G.i 6 p by omega, e1] at this
    exact this
  have := mid (o + 1) (by omega)
  rw [gat_s, mid o (by omega)] at this
  exact this
theorem ind_pos {G : Gr} {A : Nat → Nat} (hq : QG G) (h : Ind G A) {p k a b : Nat} (hp : p < G.i 0 1) (hk : k < G.i 6 p) (ha : a < 8) (hb : b < 8) : (A (8 * G.i 7 (4 * p + k) + a)).testBit b = (iC G A p (8 * k + a)).testBit (8 * k + b) := by
  have hA := h.ok hq
  have er : rwI G p (8 * k + a) = 8 * G.i 7 (4 * p + k) + a := by unfold rwI; rw [show (8 * k + a) / 8 = k by omega, show (8 * k + a) % 8 = a by omega]
  cases c : (iC G A p (8 * k + a)).testBit (8 * k + b)
  · cases d : (A (8 * G.i 7 (4 * p + k) + a)).testBit b
    · rfl
    · have : bt (layR G A p) (8 * k + a) (8 * k + b) := by
        unfold bt layR
        rw [if_pos (by omega), Nat.testBit_or, er, show (8 * k + a) / 8 = k by omega, Nat.testBit_mul_two_pow, decide_eq_true (show 8 * k ≤ 8 * k + b by omega), Nat.add_sub_cancel_left, d]
        simp
      have := clo_sub (w := 8 * G.i 6 p) (by omega) this (8 * G.i 6 p)
      rw [show bt (clo (8 * G.i 6 p) (8 * G.i 6 p) (layR G A p)) (8 * k + a) (8 * k + b) = ((iC G A p (8 * k + a)).testBit (8 * k + b) = true) from rfl, c] at this
      cases this
  · have e := congrFun (h.gS hp (show 8 * k + a < 8 * G.i 6 p by omega)) (rwI G p (8 * k + a))
    unfold gS at e
    rw [if_pos rfl] at e
    rw [← er, ← e, Nat.testBit_or, Nat.testBit_and, Nat.testBit_div_two_pow, show (8 * k + a) / 8 = k by omega, show b + 8 * k = 8 * k + b by omega, c, show (255 : Nat) = 2 ^ 8 - 1 from rfl, Nat.testBit_two_pow_sub_one, decide_eq_true hb]
    simp
theorem It_none {G : Gr} {s : Nat} (h : ∀ p k, p < G.i 0 1 → k < G.i 6 p → ¬ G.i 7 (4 * p + k) = s) : ∀ t a, a < 8 → It G t (8 * s + a) = 0
  | 0, a, _ => rfl
  | t + 1, a, ha => by
    have ih := It_none h t a ha
    have key : ∀ p, p ≤ G.i 0 1 → indP G p (It G t) (8 * s + a) = 0 := by
      intro p
      induction p with
      | zero => intro _; exact ih
      | succ p ihp =>
        intro hp
        rw [indP_s]
        have : ∀ n, n ≤ 8 * G.i 6 p → gat G p (iC G (indP G p (It G t)) p) n (indP G p (It G t)) (8 * s + a) = 0 := by
          intro n
          induction n with
          | zero => intro _; exact ihp (by omega)
          | succ n ihn =>
            intro hn
            rw [gat_s]; unfold gS
            rw [if_neg, ihn (by omega)]
            intro e
            unfold rwI at e
            exact h p (n / 8) (by omega) (by omega) (by omega)
        exact this _ (Nat.le_refl _)
    exact key _ (Nat.le_refl _)
def slf (G : Gr) (A : Nat → Nat) (s : Nat) : Bool := decide (fb (fun a => (A (8 * s + a)).testBit a) (att G s) < att G s)
theorem Ind.ac {G : Gr} {A : Nat → Nat} (hq : QG G) (h : Ind G A) {s : Nat} (hs : s < G.i 0 0) (hn : slf G A s = false) : AcS G A s := by
  have h4 := hq.at' hs
  have h8 : att G s ≤ 8 := by unfold att; omega
  have hA := h.ok hq
  refine ⟨fun a ha => ?_, fun a b c ha hb h1 h2 => ?_⟩
  · have := of_decide_eq_false hn
    cases x : (A (8 * s + a)).testBit a
    · rfl
    · exact absurd (fb_ex (f := fun a => (A (8 * s + a)).testBit a) ha x) this
  · have hc : c < 8 := tb_lt (k := 8) (hA.2.1 _) h2
    by_cases e : ∃ p k, p < G.i 0 1 ∧ k < G.i 6 p ∧ G.i 7 (4 * p + k) = s
    · obtain ⟨p, k, hp, hk, es⟩ := e
      have hsd := hq.sd hp
      rw [← es] at h1 h2 ⊢
      rw [ind_pos hq h hp hk (by omega) (by omega)] at h1
      rw [ind_pos hq h hp hk (by omega) hc] at h2
      rw [ind_pos hq h hp hk (by omega) hc]
      exact clo_trans (w := 8 * G.i 6 p) (R := layR G A p) (by omega) (by omega) h1 h2
    · obtain ⟨t, et, _⟩ := h
      have := It_none (s := s) (G := G) (fun p k hp hk es => e ⟨p, k, hp, hk, es⟩) t a (by omega)
      rw [et, this, Nat.zero_testBit] at h1
      cases h1
-- the reference's orders
theorem r_isSelf {G : Gr} {A : Nat → Nat} {s : Nat} {M : Mm} (N : Nat) (hN : 2000 < N) (K : RI' G A M) (hA : AOK G A) (hs : s < G.i 0 0) : D_X12_isSelf N 137 (nI s) M = some (bI (slf G A s)) := by
  have h4 := K.1.g.at' hs
  have hns := K.1.g.ns
  have key : ∀ (k i : Nat), i ≤ att G s → 9 < i + k → (∀ j, j < i → (A (8 * s + j)).testBit j = false) → L_X12_isSelf_2 N 137 (nI s) M k (nI i) = some (bI (slf G A s)) := by
    intro k
    induction k with
    | zero => intro i h1 h2; unfold att at h1; omega
    | succ k ih =>
      intro i h1 h2 hj
      have h8 : att G s ≤ 8 := by unfold att; omega
      rw [L_X12_isSelf_2, K.1.att N hs, Option.bind_some]
      have ea : (nI (G.i 4 s + G.i 5 s) ≤ nI i) = (att G s ≤ i) := n_le (by omega) (by omega)
      simp only [ea]
      by_cases e : att G s ≤ i
      · rw [if_pos e, okZ_0]
        unfold slf
        rw [fb_eq h1 hj (Or.inl (by omega)), decide_eq_false (by omega)]; rfl
      · have hr := K.2 (8 * s + i) (by omega)
        rw [Nat.zero_add] at hr
        rw [if_neg e, show (137 : Nat) + 6 = 143 from rfl, pk_mul, nI_add, ldI_n (by omega) (by omega), hr, Option.bind_some, r_has N M (Nat.lt_trans (hA.2.1 _) (by decide)) (by omega), Option.bind_some]
        simp only [bI_0, Option.bind_some, nI_add]
        cases b : (A (8 * s + i)).testBit i
        · rw [if_pos rfl]
          refine ih (i + 1) (by omega) (by omega) fun j hj2 => ?_
          by_cases c : j = i
          · rw [c]; exact b
          · exact hj j (by omega)
        · rw [if_neg (by decide), okZ_1]
          unfold slf
          rw [fb_eq h1 hj (Or.inr b), decide_eq_true (by omega)]; rfl
  exact key N 0 (Nat.zero_le _) (by omega) fun j hj => by omega
def HS (S : Nat → Nat) (M : Mm) : Prop := ∀ a, a < 8 → M.1 148 a = nI (S a)
theorem r_isFree {G : Gr} {A : Nat → Nat} {s a : Nat} {S : Nat → Nat} {M : Mm} (N : Nat) (hN : 2000 < N) (K : RI' G A M) (hA : AOK G A) (hs : s < G.i 0 0) (ha : a < 8) (hS : HS S M) (hb : ∀ b, S b ≤ 9) : D_X12_isFree N 137 (nI s) (nI a) M = some (bI (vFree G A s S a)) := by
  have h4 := K.1.g.at' hs
  have hns := K.1.g.ns
  have h8 : att G s ≤ 8 := by unfold att; omega
  have key : ∀ (k i : Nat), i ≤ att G s → 9 < i + k → (∀ j, j < i → S j = 0 → (A (8 * s + j)).testBit a = false) → L_X12_isFree_2 N 137 (nI s) M (nI a) k (nI i) = some (bI (vFree G A s S a)) := by
    intro k
    induction k with
    | zero => intro i h1 h2; omega
    | succ k ih =>
      intro i h1 h2 hj
      rw [L_X12_isFree_2, K.1.att N hs, Option.bind_some]
      have ea : (nI (G.i 4 s + G.i 5 s) ≤ nI i) = (att G s ≤ i) := n_le (by omega) (by omega)
      simp only [ea]
      by_cases e : att G s ≤ i
      · rw [if_pos e, okZ_1, vFree_t.mpr fun x hx h0 => hj x (by omega) h0]; rfl
      · have hr := K.2 (8 * s + i) (by omega)
        rw [Nat.zero_add] at hr
        have hbi := hb i
        rw [if_neg e, show (137 : Nat) + 11 = 148 from rfl, ldI_n (by omega) (by omega), hS i (by omega), Option.bind_some]
        simp only [n_eq (show S i < 2 ^ 31 by omega) (show 0 < 2 ^ 31 by omega), Option.bind_some, nI_add]
        have next : (S i = 0 → (A (8 * s + i)).testBit a = false) → L_X12_isFree_2 N 137 (nI s) M (nI a) k (nI (i + 1)) = some (bI (vFree G A s S a)) := fun b =>
          ih (i + 1) (by omega) (by omega) fun j hj2 hs0 => by
            by_cases c : j = i
            · rw [c] at hs0 ⊢; exact b hs0
            · exact hj j (by omega) hs0
        by_cases z : S i = 0
        · rw [if_pos z, show (137 : Nat) + 6 = 143 from rfl, pk_mul, nI_add, ldI_n (by omega) (by omega), hr, Option.bind_some, r_has N M (Nat.lt_trans (hA.2.1 _) (by decide)) (by omega), Option.bind_some]
          simp only [bI_0]
          cases b : (A (8 * s + i)).testBit a
          · rw [if_pos rfl]; exact next fun _ => b
          · rw [if_neg (by decide), okZ_0]
            have : vFree G A s S a = false := by
              cases f : vFree G A s S a
              · rfl
              · rw [vFree_t.mp f i (by omega) z] at b; cases b
            rw [this]; rfl
        · rw [if_neg z]; exact next fun q => absurd q z
  exact key N 0 (Nat.zero_le _) (by omega) fun j hj => by omega
def P148 (b _j : Nat) : Prop := b = 148
theorem RI'.p148 {G : Gr} {A : Nat → Nat} {M M' : Mm} (h : RI' G A M) (f : FX P148 M M') : RI' G A M' := h.fx f (fun j q => by have : 139 = 148 := q; omega) (fun j q => by have : 141 = 148 := q; omega) (fun j q => by have : 143 = 148 := q; omega)
theorem vIt_out {G : Gr} {A : Nat → Nat} {s : Nat} {outs : Bool} {k : Nat} {S : Nat → Nat} {b : Nat} (hb : att G s ≤ b) : ∀ i, vIt G A s outs k S i b = S b
  | 0 => rfl
  | i + 1 => by rw [vIt_s]; unfold vPass; rw [vPs_out _ _ hb]; exact vIt_out hb i
theorem loop_fillsIn {G : Gr} {A : Nat → Nat} {s k : Nat} {outs : Bool} {S : Nat → Nat} (N : Nat) (hN : 2000 < N) (hA : AOK G A) (hs : s < G.i 0 0) (hk : k ≤ 9) (hb : ∀ b, S b ≤ k) (kE : Int32 → Mm → Option Mm) : ∀ (fu i : Nat) (M : Mm), i ≤ att G s → 9 < i + fu → RI' G A M → HS (vPs G A s outs k i S) M → M.1 137 31 = nI k → ∃ M', L_X12_fillsSet_11 kE N 137 (nI s) (bI outs) fu (bI (vB G A s outs k S i)) (nI i) M = kE (bI (vB G A s outs k S (att G s))) M' ∧ HS (vPass G A s outs k S) M' ∧ FX P148 M M'
  | 0, i, M, h1, h2, K, _, _ => by have := K.1.g.at' hs; unfold att at h1; omega
  | fu + 1, i, M, h1, h2, K, hS, h31 => by
    have h4 := K.1.g.at' hs
    have hns := K.1.g.ns
    have h8 : att G s ≤ 8 := by unfold att; omega
    rw [L_X12_fillsSet_11, K.1.att N hs, Option.bind_some]
    have ea : (nI (G.i 4 s + G.i 5 s) ≤ nI i) = (att G s ≤ i) := n_le (by omega) (by omega)
    simp only [ea]
    by_cases e : att G s ≤ i
    · have ei : i = att G s := by omega
      subst ei
      rw [if_pos e]; exact ⟨M, rfl, hS, FX.refl⟩
    · have hbd := vPs_bd (G := G) (A := A) (s := s) (outs := outs) hb i
      have hvb : vB G A s outs k S (i + 1) = (vB G A s outs k S i || vOk G A s outs (vPs G A s outs k i S) i) := rfl
      have skip : vOk G A s outs (vPs G A s outs k i S) i = false → ∃ M', L_X12_fillsSet_11 kE N 137 (nI s) (bI outs) fu (bI (vB G A s outs k S i)) (nI (i + 1)) M = kE (bI (vB G A s outs k S (att G s))) M' ∧ HS (vPass G A s outs k S) M' ∧ FX P148 M M' := fun ho => by
        have est : vPs G A s outs k (i + 1) S = vPs G A s outs k i S := by
          rw [vPs_s]; funext b; unfold vSt; rw [if_neg (fun z => by rw [ho] at z; cases z.1)]
        have r := loop_fillsIn N hN hA hs hk hb kE fu (i + 1) M (by omega) (by omega) K (by rw [est]; exact hS) h31
        rw [hvb, ho, Bool.or_false] at r
        exact r
      have hbi := hbd i
      rw [if_neg e, show (137 : Nat) + 11 = 148 from rfl, ldI_n (by omega) (by omega), hS i (by omega), Option.bind_some]
      simp only [n_eq (show vPs G A s outs k i S i < 2 ^ 31 by omega) (show 0 < 2 ^ 31 by omega), Option.bind_some, nI_add]
      by_cases z : vPs G A s outs k i S i = 0
      · rw [if_pos z, show (137 : Nat) + 2 = 139 from rfl, ldI_n (by omega) (by omega), (K.1.1.2.1 s hs).1, Option.bind_some]
        have ek : (if nI i < nI (G.i 4 s) then some (nI 0) else some (nI 1)) = some (bI (decide (G.i 4 s ≤ i))) := by
          simp only [n_lt (show i < 2 ^ 31 by omega) (show G.i 4 s < 2 ^ 31 by omega)]
          by_cases c : i < G.i 4 s
          · rw [if_pos c, decide_eq_false (by omega)]; rfl
          · rw [if_neg c, decide_eq_true (by omega)]; rfl
        have eb : ∀ x y : Bool, (bI x = bI y) = ((x == y) = true) := fun x y => by
          cases x <;> cases y <;> simp [bI, z10]
          exact fun q => z10 q.symm
        rw [ek, Option.bind_some]
        simp only [eb]
        by_cases c : (decide (G.i 4 s ≤ i) == outs) = true
        · rw [if_pos c, r_isFree N hN K hA hs (by omega) hS (fun b => by have := hbd b; omega), Option.bind_some]
          simp only [bI_0]
          cases f : vFree G A s (vPs G A s outs k i S) i
          · rw [if_pos rfl]; exact skip (by unfold vOk; rw [f, Bool.and_false])
          · have ho : vOk G A s outs (vPs G A s outs k i S) i = true := by unfold vOk; rw [decide_eq_true z, c, f]; rfl
            have est : ∀ b, vPs G A s outs k (i + 1) S b = if b = i then k else vPs G A s outs k i S b := fun b => by
              rw [vPs_s]; unfold vSt
              by_cases q : b = i
              · rw [if_pos ⟨ho, q⟩, if_pos q]
              · rw [if_neg (fun z => q z.2), if_neg q]
            rw [if_neg (by decide), h31, stI_n (by omega) (by omega), Option.bind_some]
            have f1 : FX P148 M (upI M 148 i (nI k)) := FX.I rfl
            obtain ⟨M', r1, r2, r3⟩ := loop_fillsIn (S := S) (outs := outs) N hN hA hs hk hb kE fu (i + 1) (upI M 148 i (nI k)) (by omega) (by omega) (K.p148 f1) (fun b hb8 => by
              rw [est, upI_j]
              by_cases q : b = i
              · rw [if_pos q, if_pos q]
              · rw [if_neg q, if_neg q]; exact hS b hb8) (by rw [up1, if_neg (by decide)]; exact h31)
            rw [hvb, ho, Bool.or_true] at r1
            exact ⟨M', r1, r2, f1.trans r3⟩
        · rw [if_neg c]
          have c' : (decide (G.i 4 s ≤ i) == outs) = false := by simpa using c
          exact skip (by unfold vOk; rw [c', Bool.and_false]; rfl)
      · rw [if_neg z]; exact skip (by unfold vOk; rw [decide_eq_false z]; rfl)
theorem loop_fillsSet {G : Gr} {A : Nat → Nat} {s k : Nat} {outs : Bool} {S : Nat → Nat} (N : Nat) (hN : 2000 < N) (hA : AOK G A) (hs : s < G.i 0 0) (hk : k ≤ 9) (hk0 : ¬ k = 0) (hb : ∀ b, S b ≤ k) : ∀ (fu i : Nat) (M : Mm), 10 < i + fu → vz G s (vIt G A s outs k S i) + i ≤ 8 → RI' G A M → HS (vIt G A s outs k S i) M → M.1 137 31 = nI k → ∃ M', L_X12_fillsSet_2 N 137 (nI s) (bI outs) fu (nI 1) M = some M' ∧ HS (vFill G A s outs k S) M' ∧ FX P148 M M'
  | 0, i, M, h1, h2, _, _, _ => by omega
  | fu + 1, i, M, h1, h2, K, hS, h31 => by
    rw [L_X12_fillsSet_2, if_neg z10]
    obtain ⟨M1, a1, a2, a3⟩ := loop_fillsIn (S := vIt G A s outs k S i) (outs := outs) N hN hA hs hk (vIt_bd hb i) (fun (l3_3 : Int32) (M4 : Mm) => (L_X12_fillsSet_2 N 137 (nI s) (bI outs) fu l3_3 M4)) N 0 M (Nat.zero_le _) (by omega) K hS h31
    have a1' : L_X12_fillsSet_11 (fun (l3_3 : Int32) (M4 : Mm) => (L_X12_fillsSet_2 N 137 (nI s) (bI outs) fu l3_3 M4)) N 137 (nI s) (bI outs) N (nI 0) (nI 0) M = _ := a1
    rw [a1']
    have pf := vPass_b (G := G) (A := A) (s := s) (outs := outs) (S := vIt G A s outs k S i) hk0
    cases c : vB G A s outs k (vIt G A s outs k S i) (att G s)
    · have hf := pf.1 c
      have e := vFill_of (S := S) (i := i) (by omega) hf
      refine ⟨M1, ?_, by rw [e]; rw [hf] at a2; exact a2, a3⟩
      cases fu with
      | zero => omega
      | succ fu => rw [L_X12_fillsSet_2, bI_f, if_pos rfl]
    · have hlt := pf.2.1 c
      obtain ⟨M2, b1, b2, b3⟩ := loop_fillsSet (S := S) (outs := outs) N hN hA hs hk hk0 hb fu (i + 1) M1 (by omega) (by show vz G s (vPass G A s outs k (vIt G A s outs k S i)) + (i + 1) ≤ 8; omega) (K.p148 a3) a2 ((a3.2 137 31 (fun q => by have : 137 = 148 := q; omega)).1.trans h31)
      exact ⟨M2, b1, b2, a3.trans b3⟩
theorem r_fillsSet {G : Gr} {A : Nat → Nat} {s k : Nat} {outs : Bool} {S : Nat → Nat} {M : Mm} (N : Nat) (hN : 2000 < N) (hA : AOK G A) (hs : s < G.i 0 0) (hk : k ≤ 9) (hk0 : ¬ k = 0) (hb : ∀ b, S b ≤ k) (K : RI' G A M) (hS : HS S M) (h31 : M.1 137 31 = nI k) : ∃ M', D_X12_fillsSet N 137 (nI s) (bI outs) M = some M' ∧ HS (vFill G A s outs k S) M' ∧ FX P148 M M' :=
  loop_fillsSet (S := S) N hN hA hs hk hk0 hb N 0 M (by omega) (by
    have h1 := vz_le G s S
    have h2 := K.1.g.at' hs
    have h3 : att G s ≤ 8 := by unfold att; omega
    show vz G s S + 0 ≤ 8
    omega) K hS h31
theorem vSet_out {G : Gr} {A : Nat → Nat} {s b : Nat} (hb : att G s ≤ b) : ∀ t, vSet G A s t b = 0
  | 0 => rfl
  | t + 1 => by rw [vSet_s]; exact (vIt_out hb 9).trans (vSet_out hb t)
theorem vz_some {G : Gr} {s : Nat} {S : Nat → Nat} : (fb (fun b => decide (S b = 0)) (att G s) < att G s) ↔ ¬ vz G s S = 0 := by
  constructor
  · intro h z
    exact vz_ne z h (of_decide_eq_true (fb_hit h))
  · intro h
    refine Decidable.byContradiction fun c => h ?_
    have : ∀ n, n ≤ att G s → cnt (fun a => decide (S a = 0)) n = 0 := by
      intro n
      induction n with
      | zero => intro _; rfl
      | succ n ih =>
        intro hn
        rw [cnt, ih (by omega), if_neg]
        intro z
        exact c (fb_ex hn z)
    exact this _ (Nat.le_refl _)
theorem loop_left {G : Gr} {A : Nat → Nat} {s : Nat} {S : Nat → Nat} {M : Mm} (N : Nat) (K : RI' G A M) (hs : s < G.i 0 0) (hS : HS S M) (hb : ∀ b, S b ≤ 9) (kE : Int32 → Option Mm) : ∀ (fu i : Nat) (b : Bool), i ≤ att G s → 9 < i + fu → (b = true ↔ ∃ j, j < i ∧ S j = 0) → L_X12_laysVisits_78 kE N 137 (nI s) M fu (bI b) (nI i) = kE (bI (!decide (vz G s S = 0)))
  | 0, i, b, h1, h2, _ => by have := K.1.g.at' hs; unfold att at h1; omega
  | fu + 1, i, b, h1, h2, hbb => by
    have h4 := K.1.g.at' hs
    have hns := K.1.g.ns
    have h8 : att G s ≤ 8 := by unfold att; omega
    rw [L_X12_laysVisits_78, K.1.att N hs, Option.bind_some]
    have ea : (nI (G.i 4 s + G.i 5 s) ≤ nI i) = (att G s ≤ i) := n_le (by omega) (by omega)
    simp only [ea, jn, Option.bind_some, nI_add, bI_0]
    by_cases e : att G s ≤ i
    · have ei : i = att G s := by omega
      subst ei
      rw [if_pos e]
      have : b = !decide (vz G s S = 0) := by
        have key : (b = true) ↔ ¬ vz G s S = 0 := hbb.trans ⟨fun ⟨j, j1, j2⟩ => vz_some.mp (fb_ex (f := fun b => decide (S b = 0)) j1 (decide_eq_true j2)), fun h => ⟨_, vz_some.mpr h, of_decide_eq_true (fb_hit (vz_some.mpr h))⟩⟩
        cases b
        · by_cases z : vz G s S = 0
          · rw [decide_eq_true z]; rfl
          · exact absurd (key.mpr z) (by decide)
        · rw [decide_eq_false (key.mp rfl)]; rfl
      rw [this]
    · have hbi := hb i
      rw [if_neg e]
      have go1 : (∃ j, j < i + 1 ∧ S j = 0) → L_X12_laysVisits_78 kE N 137 (nI s) M fu (nI 1) (nI (i + 1)) = kE (bI (!decide (vz G s S = 0))) := fun h =>
        loop_left N K hs hS hb kE fu (i + 1) true (by omega) (by omega) ⟨fun _ => h, fun _ => rfl⟩
      cases b
      · rw [if_pos rfl, show (137 : Nat) + 11 = 148 from rfl, ldI_n (by omega) (by omega), hS i (by omega), Option.bind_some]
        simp only [n_eq (show S i < 2 ^ 31 by omega) (show 0 < 2 ^ 31 by omega)]
        by_cases z : S i = 0
        · rw [if_pos z]; exact go1 ⟨i, by omega, z⟩
        · rw [if_neg z]
          refine loop_left N K hs hS hb kE fu (i + 1) false (by omega) (by omega) ⟨fun q => (by cases q), fun ⟨j, j1, j2⟩ => ?_⟩
          by_cases c : j = i
          · rw [c] at j2; exact absurd j2 z
          · exact hbb.mpr ⟨j, by omega, j2⟩
      · rw [if_neg (by decide)]
        obtain ⟨j, j1, j2⟩ := hbb.mp rfl
        exact go1 ⟨j, by omega, j2⟩
def P31 (b j : Nat) : Prop := b = 148 ∨ b = 137 ∧ j = 31
theorem RI'.p31 {G : Gr} {A : Nat → Nat} {M M' : Mm} (h : RI' G A M) (f : FX P31 M M') : RI' G A M' := h.fx f (fun j q => by unfold P31 at q; omega) (fun j q => by unfold P31 at q; omega) (fun j q => by unfold P31 at q; omega)
theorem loop_sets {G : Gr} {A : Nat → Nat} {s : Nat} (N : Nat) (hN : 2000 < N) (hA : AOK G A) (hs : s < G.i 0 0) (hAc : AcS G A s) (kE : Mm → Option Mm) : ∀ (fu t : Nat) (M : Mm), t ≤ vT G A s → 10 < t + fu → RI' G A M → HS (vSet G A s t) M → M.1 137 31 = nI t → ∃ M', L_X12_laysVisits_40 kE 137 N (nI s) fu (bI (!decide (vz G s (vSet G A s t) = 0))) M = kE M' ∧ HS (vSet G A s (vT G A s)) M' ∧ M'.1 137 31 = nI (vT G A s) ∧ FX P31 M M'
  | 0, t, M, h1, h2, K, _, _ => by have := (vT_le hAc (K.1.g.at' hs)).1; omega
  | fu + 1, t, M, h1, h2, K, hS, h31 => by
    obtain ⟨t9, tz⟩ := vT_le hAc (K.1.g.at' hs)
    rw [L_X12_laysVisits_40]
    simp only [bI_0]
    by_cases e : vz G s (vSet G A s t) = 0
    · have et : t = vT G A s := by
        refine Decidable.byContradiction fun c => ?_
        exact vT_no (show t < vT G A s by omega) e
      subst et
      rw [decide_eq_true e, if_pos (by decide)]
      exact ⟨M, rfl, hS, h31, FX.refl⟩
    · have hlt : t < vT G A s := by
        refine Decidable.byContradiction fun c => ?_
        have et : t = vT G A s := by omega
        exact e (by rw [et]; exact tz)
      rw [decide_eq_false e, if_neg (by decide), h31, nI_add, pI_n, Option.bind_some, upI_s, rm_n (by omega) (by omega) (by omega), Option.bind_some]
      have ek : (if nI ((t + 1) % 2) = nI 1 then some (nI 1) else some (nI 0)) = some (bI (decide (t % 2 = 0))) := by
        simp only [n_eq (show (t + 1) % 2 < 2 ^ 31 by omega) (show 1 < 2 ^ 31 by omega)]
        by_cases c : t % 2 = 0
        · rw [if_pos (by omega), decide_eq_true c]; rfl
        · rw [if_neg (by omega), decide_eq_false c]; rfl
      have f1 : FX P31 M (upI M 137 31 (nI (t + 1))) := FX.I (Or.inr ⟨rfl, rfl⟩)
      have bd : ∀ b, vSet G A s t b ≤ t + 1 := fun b => Nat.le_trans (vSet_bd t b) (Nat.le_succ t)
      obtain ⟨M1, a1, a2, a3⟩ := r_fillsSet (k := t + 1) (outs := decide (t % 2 = 0)) N hN hA hs (by omega) (by omega) bd (K.p31 f1) (fun a ha => by rw [up1, if_neg (by decide)]; exact hS a ha) (upI_s M 137 31 (nI (t + 1)))
      have f2 : FX P31 M M1 := f1.trans (a3.mono fun a j q => Or.inl q)
      have h31' : M1.1 137 31 = nI (t + 1) := (a3.2 137 31 (fun q => by have : 137 = 148 := q; omega)).1.trans (upI_s _ _ _ _)
      rw [ek, Option.bind_some, a1, Option.bind_some]
      have r := loop_left (S := vSet G A s (t + 1)) N (K.p31 f2) hs a2 (fun b => Nat.le_trans (vSet_bd (t + 1) b) (by omega)) (fun (l2_5 : Int32) => (L_X12_laysVisits_40 kE 137 N (nI s) fu l2_5 M1)) N 0 false (Nat.zero_le _) (by omega) ⟨fun q => (by cases q), fun ⟨j, j1, _⟩ => by omega⟩
      have r' : L_X12_laysVisits_78 (fun (l2_5 : Int32) => (L_X12_laysVisits_40 kE 137 N (nI s) fu l2_5 M1)) N 137 (nI s) M1 N (nI 0) (nI 0) = _ := r
      rw [r']
      obtain ⟨M2, b1, b2, b3, b4⟩ := loop_sets N hN hA hs hAc kE fu (t + 1) M1 (by omega) (by omega) (K.p31 f2) a2 h31'
      exact ⟨M2, b1, b2, b3, f2.trans b4⟩
theorem loop_zeroS {kE : Mm → Option Mm} : ∀ (fu i : Nat) (M : Mm), i ≤ 8 → 8 < i + fu → (∀ a, a < i → M.1 148 a = nI 0) → ∃ M', L_X12_laysVisits_2 kE 137 fu (nI i) M = kE M' ∧ HS (fun _ => 0) M' ∧ FX P148 M M'
  | 0, i, M, h1, h2, _ => by omega
  | fu + 1, i, M, h1, h2, hM => by
    rw [L_X12_laysVisits_2]
    simp (disch := omega) only [n_le]
    by_cases e : 8 ≤ i
    · rw [if_pos e]; exact ⟨M, rfl, fun a ha => hM a (by omega), FX.refl⟩
    · rw [if_neg e, show (137 : Nat) + 11 = 148 from rfl, stI_n (by omega) (by omega), Option.bind_some, Option.bind_some, nI_add]
      obtain ⟨M', a, b, c⟩ := loop_zeroS (kE := kE) fu (i + 1) (upI M 148 i (nI 0)) (by omega) (by omega) (fun a ha => by
        rw [upI_j]
        by_cases q : a = i
        · rw [if_pos q]
        · rw [if_neg q]; exact hM a (by omega))
      exact ⟨M', a, b, (FX.I (P := P148) rfl).trans c⟩
def PVs (s b j : Nat) : Prop := b = 148 ∨ b = 137 ∧ j = 31 ∨ b = 149 ∧ 8 * s ≤ j ∧ j < 8 * s + 8 ∨ b = 150 ∧ j = s
theorem RI'.pv {G : Gr} {A : Nat → Nat} {s : Nat} {M M' : Mm} (h : RI' G A M) (f : FX (PVs s) M M') : RI' G A M' := h.fx f (fun j q => by unfold PVs at q; omega) (fun j q => by unfold PVs at q; omega) (fun j q => by unfold PVs at q; omega)
theorem loop_visitOf {G : Gr} {A : Nat → Nat} {s v : Nat} {S : Nat → Nat} (N : Nat) (hs : s < G.i 0 0) (hS9 : ∀ a, S a ≤ 9) (hv : v ≤ 5) (hv2 : ∀ a, a < att G s → ¬ S a = 0 ∧ (S a + 1) / 2 ≤ v) : ∀ (fu a : Nat) (M : Mm), a ≤ att G s → 9 < a + fu → RI' G A M → HS S M → M.1 150 s = nI v → (∀ b, b < a → M.1 149 (8 * s + b) = nI (v - (S b - 1) / 2)) → ∃ M', L_X12_laysVisits_142 N 137 (nI s) fu (nI a) M = some M' ∧ (∀ b, b < att G s → M'.1 149 (8 * s + b) = nI (v - (S b - 1) / 2)) ∧ M'.1 150 s = nI v ∧ FX (PVs s) M M'
  | 0, a, M, h1, h2, K, _, _, _ => by have := K.1.g.at' hs; unfold att at h1; omega
  | fu + 1, a, M, h1, h2, K, hS, h150, hM => by
    have h4 := K.1.g.at' hs
    have hns := K.1.g.ns
    have h8 : att G s ≤ 8 := by unfold att; omega
    rw [L_X12_laysVisits_142, K.1.att N hs, Option.bind_some]
    have ea : (nI (G.i 4 s + G.i 5 s) ≤ nI a) = (att G s ≤ a) := n_le (by omega) (by omega)
    simp only [ea]
    by_cases e : att G s ≤ a
    · rw [if_pos e]; exact ⟨M, rfl, fun b hb => hM b (by omega), h150, FX.refl⟩
    · have hSa := hS9 a
      have hva := hv2 a (by omega)
      rw [if_neg e, show (137 : Nat) + 13 = 150 from rfl, show (137 : Nat) + 12 = 149 from rfl, show (137 : Nat) + 11 = 148 from rfl, ldI_n (by omega) (by omega), h150, Option.bind_some, ldI_n (by omega) (by omega), hS a (by omega), Option.bind_some, nI_add, dv_n (by omega) (by omega) (by omega), Option.bind_some, n_sub hva.2, nI_add, pk_mul, nI_add, stI_n (by omega) (by omega), Option.bind_some, Option.bind_some, nI_add, show v - (S a + 1) / 2 + 1 = v - (S a - 1) / 2 by omega]
      have f1 : FX (PVs s) M (upI M 149 (8 * s + a) (nI (v - (S a - 1) / 2))) := FX.I (Or.inr (Or.inr (Or.inl ⟨rfl, by omega, by omega⟩)))
      obtain ⟨M', b1, b2, b3, b4⟩ := loop_visitOf N hs hS9 hv hv2 fu (a + 1) _ (by omega) (by omega) (K.pv f1) (fun b hb => by rw [up1, if_neg (by decide)]; exact hS b hb) (by rw [up1, if_neg (by decide)]; exact h150) (fun b hb => by
        rw [upI_j]
        by_cases q : b = a
        · rw [if_pos (by omega), q]
        · rw [if_neg (by omega)]; exact hM b (by omega))
      exact ⟨M', b1, b2, b3, f1.trans b4⟩
theorem r_laysVisits {G : Gr} {A : Nat → Nat} {s : Nat} {M : Mm} (N : Nat) (hN : 2000 < N) (K : RI' G A M) (hA : AOK G A) (hs : s < G.i 0 0) (hAc : AcS G A s) : ∃ M', D_X12_laysVisits N 137 (nI s) M = some M' ∧ (∀ b, b < att G s → M'.1 149 (8 * s + b) = nI (vW G A s b)) ∧ M'.1 150 s = nI (vV G A s) ∧ FX (PVs s) M M' := by
  have h4 := K.1.g.at' hs
  have hns := K.1.g.ns
  have h8 : att G s ≤ 8 := by unfold att; omega
  obtain ⟨t9, tz⟩ := vT_le hAc h4
  have hv := vV_bd hAc h4
  unfold D_X12_laysVisits
  generalize hk : (fun (M3 : Mm) => ((pI M3 137 31 (nI 0)).bind fun M4 => (D_X12_attributes N 137 (nI s) M4).bind fun q1 => _)) = kE
  obtain ⟨M1, a1, a2, a3⟩ := loop_zeroS (kE := kE) N 0 M (by omega) (by omega) (fun a ha => by omega)
  rw [a1, ← hk]
  dsimp only
  rw [pI_n, Option.bind_some]
  have f1 : FX P31 M (upI M1 137 31 (nI 0)) := (a3.mono fun a j q => Or.inl q).trans (FX.I (Or.inr ⟨rfl, rfl⟩))
  have K1 := K.p31 f1
  rw [K1.1.att N hs, Option.bind_some]
  have hz0 : vz G s (vSet G A s 0) = att G s := by
    have : ∀ n, cnt (fun a => decide (vSet G A s 0 a = 0)) n = n := by
      intro n
      induction n with
      | zero => rfl
      | succ n ih => rw [cnt, ih, if_pos (decide_eq_true (show vSet G A s 0 n = 0 from rfl))]
    exact this _
  have ek : (if nI (G.i 4 s + G.i 5 s) ≤ nI 0 then some (nI 0) else some (nI 1)) = some (bI (!decide (vz G s (vSet G A s 0) = 0))) := by
    simp only [n_le (show G.i 4 s + G.i 5 s < 2 ^ 31 by omega) (show 0 < 2 ^ 31 by omega)]
    rw [hz0]
    unfold att
    by_cases c : G.i 4 s + G.i 5 s ≤ 0
    · rw [if_pos c, decide_eq_true (by omega)]; rfl
    · rw [if_neg c, decide_eq_false (by omega)]; rfl
  rw [ek, Option.bind_some]
  generalize hk2 : (fun (M8 : Mm) => ((if (M8.1 137 31) = nI 0 then (some (nI 1)) else _).bind fun p139 => _)) = kF
  obtain ⟨M2, b1, b2, b3, b4⟩ := loop_sets N hN hA hs hAc kF N 0 (upI M1 137 31 (nI 0)) (Nat.zero_le _) (by omega) K1 (fun a ha => by rw [up1, if_neg (by decide)]; exact a2 a ha) (upI_s _ _ _ _)
  rw [b1, ← hk2]
  dsimp only
  rw [b3]
  have ev : (if nI (vT G A s) = nI 0 then some (nI 1) else (dvI (nI (vT G A s) + nI 1) (nI 2)).bind fun v6 => some v6) = some (nI (vV G A s)) := by
    simp only [n_eq (show vT G A s < 2 ^ 31 by omega) (show 0 < 2 ^ 31 by omega)]
    unfold vV
    by_cases c : vT G A s = 0
    · rw [if_pos c, if_pos c]
    · rw [if_neg c, if_neg c, nI_add, dv_n (by omega) (by omega) (by omega), Option.bind_some]
  rw [ev, Option.bind_some, show (137 : Nat) + 13 = 150 from rfl, stI_n (by omega) (by omega), Option.bind_some]
  have f2 : FX (PVs s) M (upI M2 150 s (nI (vV G A s))) := ((f1.trans b4).mono fun a j q => by unfold P31 at q; unfold PVs; omega).trans (FX.I (Or.inr (Or.inr (Or.inr ⟨rfl, rfl⟩))))
  have hS : ∀ a, a < att G s → ¬ vSet G A s (vT G A s) a = 0 ∧ vSet G A s (vT G A s) a ≤ vT G A s := fun a ha => ⟨vz_ne tz ha, vSet_bd _ _⟩
  obtain ⟨M3, c1, c2, c3, c4⟩ := loop_visitOf (v := vV G A s) (S := vSet G A s (vT G A s)) N hs (fun a => Nat.le_trans (vSet_bd _ a) t9) hv.2 (fun a ha => ⟨(hS a ha).1, by
    have := hS a ha
    have hne : ¬ vT G A s = 0 := by omega
    unfold vV; rw [if_neg hne]; omega⟩) N 0 (upI M2 150 s (nI (vV G A s))) (Nat.zero_le _) (by omega) (K.pv f2) (fun a ha => by rw [up1, if_neg (by decide)]; exact b2 a ha) (upI_s _ _ _ _) (fun b hb => by omega)
  exact ⟨M3, c1, c2, c3, f2.trans c4⟩
/-- all visits laid -/
def RV' (G : Gr) (A : Nat → Nat) (n : Nat) (M : Mm) : Prop := ∀ s, s < n → slf G A s = false → M.1 150 s = nI (vV G A s) ∧ ∀ b, b < att G s → M.1 149 (8 * s + b) = nI (vW G A s b)
def PVa (b j : Nat) : Prop := b = 148 ∨ b = 149 ∨ b = 150 ∨ b = 137 ∧ j = 31
theorem RI'.pva {G : Gr} {A : Nat → Nat} {M M' : Mm} (h : RI' G A M) (f : FX PVa M M') : RI' G A M' := h.fx f (fun j q => by unfold PVa at q; omega) (fun j q => by unfold PVa at q; omega) (fun j q => by unfold PVa at q; omega)
theorem r_laysAllVisits {G : Gr} {A : Nat → Nat} {M : Mm} (N : Nat) (hN : 2000 < N) (K : RI' G A M) (hI : Ind G A) : ∃ M', D_X12_laysAllVisits N 137 M = some M' ∧ RV' G A (G.i 0 0) M' ∧ FX PVa M M' := by
  have hq := K.1.g
  have hA := hI.ok hq
  have hns := hq.ns
  have key : ∀ (k s : Nat) (M : Mm), s ≤ G.i 0 0 → 9 < s + k → RI' G A M → RV' G A s M → ∃ M', L_X12_laysAllVisits_2 137 N k (nI s) M = some M' ∧ RV' G A (G.i 0 0) M' ∧ FX PVa M M' := by
    intro k
    induction k with
    | zero => intro s M h1 h2; omega
    | succ k ih =>
      intro s M h1 h2 K hR
      rw [L_X12_laysAllVisits_2, show (137 : Nat) + 2 = 139 from rfl, ldI_n (by omega) (by omega), K.1.1.1.1, Option.bind_some]
      simp (disch := omega) only [n_le]
      by_cases e : G.i 0 0 ≤ s
      · have es : s = G.i 0 0 := by omega
        subst es
        rw [if_pos e]; exact ⟨M, rfl, hR, FX.refl⟩
      · have hs : s < G.i 0 0 := by omega
        have h4 := hq.at' hs
        rw [if_neg e, r_isSelf N hN K hA hs, Option.bind_some]
        simp only [bI_0, Option.bind_some, nI_add]
        cases c : slf G A s
        · rw [if_pos rfl]
          obtain ⟨M1, a1, a2, a3, a4⟩ := r_laysVisits N hN K hA hs (hI.ac hq hs c)
          rw [a1, Option.bind_some]
          have f1 : FX PVa M M1 := a4.mono fun a j q => by unfold PVs at q; unfold PVa; omega
          obtain ⟨M2, b1, b2, b3⟩ := ih (s + 1) M1 (by omega) (by omega) (K.pva f1) (fun s' hs' hn => by
            by_cases z : s' = s
            · subst z; exact ⟨a3, a2⟩
            · obtain ⟨r1, r2⟩ := hR s' (by omega) hn
              have h4' := hq.at' (show s' < G.i 0 0 by omega)
              refine ⟨(a4.2 150 s' (fun q => by unfold PVs at q; omega)).1.trans r1, fun b hb => ?_⟩
              have hb8 : b < 8 := by unfold att at hb; omega
              exact (a4.2 149 (8 * s' + b) (fun q => by unfold PVs at q; omega)).1.trans (r2 b hb))
          exact ⟨M2, b1, b2, f1.trans b3⟩
        · rw [if_neg (by decide)]
          exact ih (s + 1) M (by omega) (by omega) K fun s' hs' hn => by
            by_cases z : s' = s
            · rw [z, c] at hn; cases hn
            · exact hR s' (by omega) hn
  exact key N 0 M (Nat.zero_le _) (by omega) K fun s hs => by omega
