-- the reference's block
theorem bt_or {R V : Nat → Nat} {i j : Nat} : bt (fun o => R o ||| V o) i j ↔ bt R i j ∨ bt V i j := by
  unfold bt; rw [Nat.testBit_or, Bool.or_eq_true]
theorem clo_abs {w : Nat} {R V X Y : Nat → Nat} (hX : ∀ o, o < w → X o = clo w w R o ||| V o) (hY : ∀ o, o < w → Y o = R o ||| V o) (sX : SQ w X) (sY : SQ w Y) : clo w w X = clo w w Y := by
  have bX : ∀ i j, i < w → (bt X i j ↔ bt (clo w w R) i j ∨ bt V i j) := fun i j hi => by
    unfold bt; rw [hX i hi, Nat.testBit_or, Bool.or_eq_true]
  have bY : ∀ i j, i < w → (bt Y i j ↔ bt R i j ∨ bt V i j) := fun i j hi => by
    unfold bt; rw [hY i hi, Nat.testBit_or, Bool.or_eq_true]
  have T : ∀ {Z : Nat → Nat}, ∀ i l j, i < w → l < w → bt (clo w w Z) i l → bt (clo w w Z) l j → bt (clo w w Z) i j := fun i l j hi hl a b => clo_trans hi hl a b
  have h1 : ∀ i j, i < w → bt (clo w w X) i j → bt (clo w w Y) i j := fun i j hi h =>
    clo_least (S := bt (clo w w Y)) (fun i j hi hx => by
      rcases (bX i j hi).mp hx with a | a
      · exact clo_least (S := bt (clo w w Y)) (fun i j hi hr => clo_sub hi ((bY i j hi).mpr (Or.inl hr)) w) T w (Nat.le_refl _) i j hi a
      · exact clo_sub hi ((bY i j hi).mpr (Or.inr a)) w) T w (Nat.le_refl _) i j hi h
  have h2 : ∀ i j, i < w → bt (clo w w Y) i j → bt (clo w w X) i j := fun i j hi h =>
    clo_least (S := bt (clo w w X)) (fun i j hi hy => by
      rcases (bY i j hi).mp hy with a | a
      · exact clo_sub hi ((bX i j hi).mpr (Or.inl (clo_sub hi a w))) w
      · exact clo_sub hi ((bX i j hi).mpr (Or.inr a)) w) T w (Nat.le_refl _) i j hi h
  funext o
  by_cases c : o < w
  · apply Nat.eq_of_testBit_eq
    intro j
    cases x : (clo w w X o).testBit j
    · cases y : (clo w w Y o).testBit j
      · rfl
      · have := h2 o j c y; unfold bt at this; rw [x] at this; cases this
    · exact (h1 o j c x).symm
  · rw [(clo_sq sX (Nat.le_refl w) w).1 o (by omega), (clo_sq sY (Nat.le_refl w) w).1 o (by omega)]
def ordR (G : Gr) (A : Nat → Nat) (p o : Nat) : Nat := if o < 8 * G.i 6 p then layR G A p o ||| visR G A p o else 0
theorem ordR_sq {G : Gr} {A : Nat → Nat} {p : Nat} (h : QG G) (hA : AOK G A) (hp : p < G.i 0 1) : SQ (8 * G.i 6 p) (ordR G A p) := by
  refine ⟨fun o ho => by unfold ordR; rw [if_neg (by omega)], fun o => ?_⟩
  unfold ordR
  split
  · rename_i ho
    exact or_lt ((lay_sq h hA hp).2 o) (visR_lt h hp ho)
  · exact Nat.two_pow_pos _
theorem ord_wd {G : Gr} {A : Nat → Nat} {p : Nat} (h : QG G) (hA : AOK G A) (hp : p < G.i 0 1) : clo (8 * G.i 6 p) (8 * G.i 6 p) (ordR G A p) = wdC G A p :=
  (clo_abs (R := layR G A p) (V := visR G A p) (X := widR G A p) (Y := ordR G A p) (fun o ho => by unfold widR; rw [if_pos ho]; rfl) (fun o ho => by unfold ordR; rw [if_pos ho]) (widR_sq h hA hp) (ordR_sq h hA hp)).symm
def noS (G : Gr) (A : Nat → Nat) (p : Nat) : Prop := ∀ k, k < G.i 6 p → slf G A (G.i 7 (4 * p + k)) = false
theorem noS_of {G : Gr} {A : Nat → Nat} {p : Nat} (h : QG G) (hI : Ind G A) (hp : p < G.i 0 1) (hc : ¬ cirO G A p < 32) : noS G A p := fun k hk => by
  have hs := h.sy hp hk
  have h8 := h.att8 hs
  have hsd := h.sd hp
  cases c : slf G A (G.i 7 (4 * p + k))
  · rfl
  · have c' := of_decide_eq_true c
    have hh := fb_hit c'
    have e := ind_pos h hI hp hk (show fb (fun a => (A (8 * G.i 7 (4 * p + k) + a)).testBit a) (att G (G.i 7 (4 * p + k))) < 8 by omega) (show fb (fun a => (A (8 * G.i 7 (4 * p + k) + a)).testBit a) (att G (G.i 7 (4 * p + k))) < 8 by omega)
    rw [hh] at e
    exact absurd (fb_ex (f := fun o => (iC G A p o).testBit o) (n := 32) (by omega) e.symm) hc
theorem mul_or (x y k : Nat) : (x ||| y) * 2 ^ k = x * 2 ^ k ||| y * 2 ^ k := by
  apply Nat.eq_of_testBit_eq
  intro i
  rw [Nat.testBit_or, Nat.testBit_mul_two_pow, Nat.testBit_mul_two_pow, Nat.testBit_mul_two_pow, Nat.testBit_or]
  cases decide (k ≤ i) <;> simp
/-- rel while visits are added: below m done, at m up to b -/
def LV (G : Gr) (A : Nat → Nat) (p m b : Nat) (M : Mm) : Prop := ∀ o, o < 32 → M.1 144 o = nI (if o < m then ordR G A p o else if o = m then layR G A p o ||| wid (ahB G A (G.i 7 (4 * p + o / 8)) (o % 8)) b * 2 ^ (8 * (o / 8)) else layR G A p o)
theorem LV.skip {G : Gr} {A : Nat → Nat} {p m m' : Nat} {M : Mm} (h : LV G A p m 0 M) (hm : m ≤ m') (hu : ∀ o, m ≤ o → o < m' → o < 32 → ordR G A p o = layR G A p o) : LV G A p m' 0 M := fun o ho => by
  rw [h o ho]
  have z : ∀ x : Nat, layR G A p o ||| wid (ahB G A (G.i 7 (4 * p + o / 8)) (o % 8)) 0 * 2 ^ (8 * (o / 8)) = layR G A p o := fun _ => by rw [wid, Nat.zero_mul, Nat.or_zero]
  rw [z 0]
  by_cases c : o < m
  · rw [if_pos c, if_pos (by omega)]
  · rw [if_neg c, ite_self]
    by_cases d : o < m'
    · rw [if_pos d, hu o (by omega) d ho]
    · rw [if_neg d, ite_self]
def PVb (b j : Nat) : Prop := b = 144 ∨ PVa b j
theorem RI'.pvb {G : Gr} {A : Nat → Nat} {M M' : Mm} (h : RI' G A M) (f : FX PVb M M') : RI' G A M' := h.fx f (fun j q => by unfold PVb PVa at q; omega) (fun j q => by unfold PVb PVa at q; omega) (fun j q => by unfold PVb PVa at q; omega)
theorem RI'.p4 {G : Gr} {A : Nat → Nat} {M M' : Mm} (h : RI' G A M) (f : FX P4 M M') : RI' G A M' := h.fx f (fun j q => by have : 139 = 144 := q; omega) (fun j q => by have : 141 = 144 := q; omega) (fun j q => by have : 143 = 144 := q; omega)
theorem RV'.p4 {G : Gr} {A : Nat → Nat} {n : Nat} {M M' : Mm} (h : RV' G A n M) (f : FX P4 M M') : RV' G A n M' := fun s hs hn => ⟨(f.2 150 s (fun q => by have : 150 = 144 := q; omega)).1.trans (h s hs hn).1, fun b hb => (f.2 149 _ (fun q => by have : 149 = 144 := q; omega)).1.trans ((h s hs hn).2 b hb)⟩
theorem loop_addB {G : Gr} {A : Nat → Nat} {p k a : Nat} (N : Nat) (hI : Ind G A) (hp : p < G.i 0 1) (hk : k < G.i 6 p) (hn : slf G A (G.i 7 (4 * p + k)) = false) (ha : a < att G (G.i 7 (4 * p + k))) (kE : Mm → Option Mm) : ∀ (fu b : Nat) (M : Mm), b ≤ att G (G.i 7 (4 * p + k)) → 9 < b + fu → RI' G A M → RV' G A (G.i 0 0) M → LV G A p (8 * k + a) b M → ∃ M', L_X12_addsVisits_45 kE N 137 (nI (G.i 7 (4 * p + k))) (nI a) (nI k) fu (nI b) M = kE M' ∧ LV G A p (8 * k + a) (att G (G.i 7 (4 * p + k))) M' ∧ FX P4 M M'
  | 0, b, M, h1, h2, K, _, _ => by have := K.1.g.att8 (K.1.g.sy hp hk); omega
  | fu + 1, b, M, h1, h2, K, hV, hL => by
    have hq := K.1.g
    have hs := hq.sy hp hk
    have h8 := hq.att8 hs
    have h4 := hq.at' hs
    have hns := hq.ns
    have hsd := hq.sd hp
    rw [L_X12_addsVisits_45, K.1.att N hs, Option.bind_some]
    have ea : (nI (G.i 4 (G.i 7 (4 * p + k)) + G.i 5 (G.i 7 (4 * p + k))) ≤ nI b) = (att G (G.i 7 (4 * p + k)) ≤ b) := n_le (by omega) (by omega)
    simp only [ea]
    by_cases e : att G (G.i 7 (4 * p + k)) ≤ b
    · have eb : b = att G (G.i 7 (4 * p + k)) := by omega
      subst eb
      rw [if_pos e]; exact ⟨M, rfl, hL, FX.refl⟩
    · have hv := (hV _ hs hn).2
      have hw : ∀ b, b < att G (G.i 7 (4 * p + k)) → vW G A (G.i 7 (4 * p + k)) b ≤ 5 := fun b hb => Nat.le_trans (vW_bd (hI.ac hq hs hn) h4 hb).2 (vV_bd (hI.ac hq hs hn) h4).2
      have wa := hw a ha
      have wb := hw b (by omega)
      have hl := hL (8 * k + a) (by omega)
      rw [if_neg (Nat.lt_irrefl _), if_pos rfl, show (8 * k + a) / 8 = k by omega, show (8 * k + a) % 8 = a by omega] at hl
      rw [if_neg e, show (137 : Nat) + 12 = 149 from rfl, show (137 : Nat) + 2 = 139 from rfl, show (137 : Nat) + 7 = 144 from rfl, pk_mul, pk_mul]
      simp only [nI_add]
      rw [ldI_n (by omega) (by omega), hv a ha, Option.bind_some, ldI_n (by omega) (by omega), hv b (by omega), Option.bind_some]
      simp only [jn, Option.bind_some, ldI_n (show 4 + G.i 7 (4 * p + k) < 3816 by omega) (show 3816 ≤ 2 ^ 31 by decide), (K.1.1.2.1 _ hs).1, n_le (show vW G A (G.i 7 (4 * p + k)) a < 2 ^ 31 by omega) (show vW G A (G.i 7 (4 * p + k)) b < 2 ^ 31 by omega), n_eq (show vW G A (G.i 7 (4 * p + k)) a < 2 ^ 31 by omega) (show vW G A (G.i 7 (4 * p + k)) b < 2 ^ 31 by omega), n_lt (show a < 2 ^ 31 by omega) (show G.i 4 (G.i 7 (4 * p + k)) < 2 ^ 31 by omega), n_le (show G.i 4 (G.i 7 (4 * p + k)) < 2 ^ 31 by omega) (show b < 2 ^ 31 by omega)]
      have e1 : (if vW G A (G.i 7 (4 * p + k)) a ≤ vW G A (G.i 7 (4 * p + k)) b then some (nI 0) else some (nI 1)) = some (bI (decide (vW G A (G.i 7 (4 * p + k)) b < vW G A (G.i 7 (4 * p + k)) a))) := by
        by_cases c : vW G A (G.i 7 (4 * p + k)) a ≤ vW G A (G.i 7 (4 * p + k)) b
        · rw [if_pos c, decide_eq_false (by omega)]; rfl
        · rw [if_neg c, decide_eq_true (by omega)]; rfl
      have e2 : (if vW G A (G.i 7 (4 * p + k)) a = vW G A (G.i 7 (4 * p + k)) b then (if a < G.i 4 (G.i 7 (4 * p + k)) then some (nI 0) else if G.i 4 (G.i 7 (4 * p + k)) ≤ b then some (nI 0) else some (nI 1)) else some (nI 0)) = some (bI (decide (vW G A (G.i 7 (4 * p + k)) b = vW G A (G.i 7 (4 * p + k)) a) && decide (G.i 4 (G.i 7 (4 * p + k)) ≤ a) && decide (b < G.i 4 (G.i 7 (4 * p + k))))) := by
        by_cases c : vW G A (G.i 7 (4 * p + k)) a = vW G A (G.i 7 (4 * p + k)) b
        · rw [if_pos c, decide_eq_true c.symm]
          by_cases d : a < G.i 4 (G.i 7 (4 * p + k))
          · rw [if_pos d, decide_eq_false (show ¬ G.i 4 (G.i 7 (4 * p + k)) ≤ a by omega)]; rfl
          · rw [if_neg d, decide_eq_true (show G.i 4 (G.i 7 (4 * p + k)) ≤ a by omega)]
            by_cases f : G.i 4 (G.i 7 (4 * p + k)) ≤ b
            · rw [if_pos f, decide_eq_false (show ¬ b < G.i 4 (G.i 7 (4 * p + k)) by omega)]; rfl
            · rw [if_neg f, decide_eq_true (show b < G.i 4 (G.i 7 (4 * p + k)) by omega)]; rfl
        · rw [if_neg c, decide_eq_false (fun z => c z.symm)]; rfl
      rw [e1, e2]
      simp only [Option.bind_some, bI_0]
      have no : ahB G A (G.i 7 (4 * p + k)) a b = false → ∃ M', L_X12_addsVisits_45 kE N 137 (nI (G.i 7 (4 * p + k))) (nI a) (nI k) fu (nI (b + 1)) M = kE M' ∧ LV G A p (8 * k + a) (att G (G.i 7 (4 * p + k))) M' ∧ FX P4 M M' := fun c =>
        loop_addB N hI hp hk hn ha kE fu (b + 1) M (by omega) (by omega) K hV fun o ho => by
          rw [hL o ho]
          by_cases q : o = 8 * k + a
          · rw [q, if_neg (Nat.lt_irrefl _), if_pos rfl, if_neg (Nat.lt_irrefl _), if_pos rfl, show (8 * k + a) / 8 = k by omega, show (8 * k + a) % 8 = a by omega]
            rw [show wid (ahB G A (G.i 7 (4 * p + k)) a) (b + 1) = wid (ahB G A (G.i 7 (4 * p + k)) a) b by rw [wid, if_neg (by rw [c]; decide)]]
          · rw [if_neg q, if_neg q]
      have yes : ahB G A (G.i 7 (4 * p + k)) a b = true → ∃ M', ((ldI 32 144 (nI (8 * k + a)) M).bind fun v6 => (stI 32 144 (nI (8 * k + a)) (v6 ||| ((nI 1) <<< (nI (8 * k + b) &&& 31))) M).bind fun M5 => L_X12_addsVisits_45 kE N 137 (nI (G.i 7 (4 * p + k))) (nI a) (nI k) fu (nI (b + 1)) M5) = kE M' ∧ LV G A p (8 * k + a) (att G (G.i 7 (4 * p + k))) M' ∧ FX P4 M M' := fun c => by
        rw [ldI_n (by omega) (by omega), hl, Option.bind_some, n_shl 1 (show 8 * k + b < 32 by omega), Nat.one_mul, n_or, stI_n (by omega) (by omega), Option.bind_some]
        have f1 : FX P4 M (upI M 144 (8 * k + a) (nI (layR G A p (8 * k + a) ||| wid (ahB G A (G.i 7 (4 * p + k)) a) b * 2 ^ (8 * k) ||| 2 ^ (8 * k + b)))) := FX.I rfl
        obtain ⟨M', r1, r2, r3⟩ := loop_addB N hI hp hk hn ha kE fu (b + 1) _ (by omega) (by omega) (K.p4 f1) (hV.p4 f1) fun o ho => by
          rw [upI_j]
          by_cases q : o = 8 * k + a
          · rw [if_pos q, q, if_neg (Nat.lt_irrefl _), if_pos rfl, show (8 * k + a) / 8 = k by omega, show (8 * k + a) % 8 = a by omega]
            rw [show wid (ahB G A (G.i 7 (4 * p + k)) a) (b + 1) = wid (ahB G A (G.i 7 (4 * p + k)) a) b ||| 2 ^ b by rw [wid, if_pos c], mul_or, ← Nat.pow_add, Nat.or_assoc, Nat.add_comm b (8 * k)]
          · rw [if_neg q, hL o ho, if_neg q, if_neg q]
        exact ⟨M', r1, r2, f1.trans r3⟩
      cases c1 : decide (vW G A (G.i 7 (4 * p + k)) b < vW G A (G.i 7 (4 * p + k)) a)
      · rw [if_pos rfl]
        cases c2 : (decide (vW G A (G.i 7 (4 * p + k)) b = vW G A (G.i 7 (4 * p + k)) a) && decide (G.i 4 (G.i 7 (4 * p + k)) ≤ a) && decide (b < G.i 4 (G.i 7 (4 * p + k))))
        · rw [if_pos rfl]; exact no (by unfold ahB; rw [c1, c2]; rfl)
        · rw [if_neg (by decide)]; exact yes (by unfold ahB; rw [c1, c2]; rfl)
      · rw [if_neg (by decide)]; exact yes (by unfold ahB; rw [c1]; rfl)
theorem ordR_at {G : Gr} {A : Nat → Nat} {p k a : Nat} (h : QG G) (hp : p < G.i 0 1) (hk : k < G.i 6 p) (hn : slf G A (G.i 7 (4 * p + k)) = false) (ha : a < 8) : ordR G A p (8 * k + a) = if a < att G (G.i 7 (4 * p + k)) then layR G A p (8 * k + a) ||| ahd G A (G.i 7 (4 * p + k)) a * 2 ^ (8 * k) else layR G A p (8 * k + a) := by
  unfold ordR visR
  rw [if_pos (by omega), show (8 * k + a) / 8 = k by omega, show (8 * k + a) % 8 = a by omega]
  by_cases c : a < att G (G.i 7 (4 * p + k))
  · rw [if_pos ⟨hn, c⟩, if_pos c]
  · rw [if_neg (fun z => c z.2), if_neg c, Nat.or_zero]
theorem loop_addA {G : Gr} {A : Nat → Nat} {p k : Nat} (N : Nat) (hN : 2000 < N) (hI : Ind G A) (hp : p < G.i 0 1) (hk : k < G.i 6 p) (hn : slf G A (G.i 7 (4 * p + k)) = false) (kE : Mm → Option Mm) : ∀ (fu a : Nat) (M : Mm), a ≤ att G (G.i 7 (4 * p + k)) → 9 < a + fu → RI' G A M → RV' G A (G.i 0 0) M → LV G A p (8 * k + a) 0 M → ∃ M', L_X12_addsVisits_32 kE N 137 (nI (G.i 7 (4 * p + k))) (nI k) fu (nI a) M = kE M' ∧ LV G A p (8 * (k + 1)) 0 M' ∧ FX P4 M M'
  | 0, a, M, h1, h2, K, _, _ => by have := K.1.g.att8 (K.1.g.sy hp hk); omega
  | fu + 1, a, M, h1, h2, K, hV, hL => by
    have hq := K.1.g
    have hs := hq.sy hp hk
    have h8 := hq.att8 hs
    have hsd := hq.sd hp
    have h4 := hq.at' hs
    rw [L_X12_addsVisits_32, K.1.att N hs, Option.bind_some]
    have ea : (nI (G.i 4 (G.i 7 (4 * p + k)) + G.i 5 (G.i 7 (4 * p + k))) ≤ nI a) = (att G (G.i 7 (4 * p + k)) ≤ a) := n_le (by omega) (by omega)
    simp only [ea]
    by_cases e : att G (G.i 7 (4 * p + k)) ≤ a
    · rw [if_pos e]
      refine ⟨M, rfl, hL.skip (by omega) fun o o1 o2 _ => ?_, FX.refl⟩
      have := ordR_at (A := A) hq hp hk hn (show o % 8 < 8 by omega)
      rw [show 8 * k + o % 8 = o by omega, if_neg (by omega)] at this
      exact this
    · rw [if_neg e]
      obtain ⟨M1, a1, a2, a3⟩ := loop_addB N hI hp hk hn (show a < att G (G.i 7 (4 * p + k)) by omega) (fun (M6 : Mm) => ((some (nI a + (nI 1))).bind fun l4_2 => (L_X12_addsVisits_32 kE N 137 (nI (G.i 7 (4 * p + k))) (nI k) fu l4_2 M6))) N 0 M (Nat.zero_le _) (by omega) K hV hL
      rw [a1, Option.bind_some, nI_add]
      obtain ⟨M2, b1, b2, b3⟩ := loop_addA N hN hI hp hk hn kE fu (a + 1) M1 (by omega) (by omega) (K.p4 a3) (hV.p4 a3) (fun o ho => by
        rw [a2 o ho]
        have hord := ordR_at (A := A) hq hp hk hn (show a < 8 by omega)
        rw [if_pos (show a < att G (G.i 7 (4 * p + k)) by omega)] at hord
        by_cases c : o < 8 * k + a
        · rw [if_pos c, if_pos (by omega)]
        · rw [if_neg c]
          by_cases d : o = 8 * k + a
          · rw [if_pos d, if_pos (by omega), d, hord, show (8 * k + a) / 8 = k by omega, show (8 * k + a) % 8 = a by omega]; rfl
          · rw [if_neg d, if_neg (by omega), wid, Nat.zero_mul, Nat.or_zero, ite_self])
      exact ⟨M2, b1, b2, a3.trans b3⟩
theorem r_addsVisits {G : Gr} {A : Nat → Nat} {p : Nat} {M : Mm} (N : Nat) (hN : 2000 < N) (hI : Ind G A) (hp : p < G.i 0 1) (hno : noS G A p) (K : RI' G A M) (hL : HRo 144 0 32 (layR G A p) M) : ∃ M', D_X12_addsVisits N 137 (nI p) M = some M' ∧ HRo 144 0 32 (ordR G A p) M' ∧ FX PVb M M' := by
  have hq := K.1.g
  have hsd := hq.sd hp
  have hnp := hq.np
  obtain ⟨M1, a1, a2, a3⟩ := r_laysAllVisits N hN K hI
  unfold D_X12_addsVisits
  rw [a1, Option.bind_some]
  have key : ∀ (fu k : Nat) (M : Mm), k ≤ G.i 6 p → 5 < k + fu → RI' G A M → RV' G A (G.i 0 0) M → LV G A p (8 * k) 0 M → ∃ M', L_X12_addsVisits_6 137 (nI p) N fu (nI k) M = some M' ∧ HRo 144 0 32 (ordR G A p) M' ∧ FX P4 M M' := by
    intro fu
    induction fu with
    | zero => intro k M h1 h2; omega
    | succ fu ih =>
      intro k M h1 h2 K hV hL
      rw [L_X12_addsVisits_6, show (137 : Nat) + 2 = 139 from rfl, nI_add, ldI_n (by omega) (by omega), K.1.kid hp, Option.bind_some]
      simp (disch := omega) only [n_lt]
      by_cases e : G.i 6 p - 1 < k
      · rw [if_pos e]
        refine ⟨M, rfl, fun o ho => ?_, FX.refl⟩
        have := (hL.skip (show 8 * k ≤ 32 by omega) fun o q1 q2 _ => by unfold ordR layR; rw [if_neg (by omega), if_neg (by omega)]) o ho
        rw [Nat.zero_add, this, if_pos ho]
      · rw [if_neg e, K.1.sym N hp (by omega), Option.bind_some]
        obtain ⟨M1, b1, b2, b3⟩ := loop_addA N hN hI hp (show k < G.i 6 p by omega) (hno k (by omega)) (fun (M7 : Mm) => ((some (nI k + (nI 1))).bind fun l2_2 => (L_X12_addsVisits_6 137 (nI p) N fu l2_2 M7))) N 0 M (Nat.zero_le _) (by omega) K hV hL
        rw [b1, Option.bind_some, nI_add]
        obtain ⟨M2, c1, c2, c3⟩ := ih (k + 1) M1 (by omega) (by omega) (K.p4 b3) (hV.p4 b3) b2
        exact ⟨M2, c1, c2, b3.trans c3⟩
  obtain ⟨M2, b1, b2, b3⟩ := key N 0 M1 (Nat.zero_le _) (by omega) (K.pva a3) a2 (fun o ho => by
    have := hL o ho
    rw [Nat.zero_add] at this
    rw [(a3.2 144 o (fun q => by unfold PVa at q; omega)).1, this, if_neg (by omega), wid, Nat.zero_mul, Nat.or_zero, ite_self])
  exact ⟨M2, b1, b2, (a3.mono fun a j q => Or.inr q).trans (b3.mono fun a j q => Or.inl q)⟩
theorem r_laysOrdered {G : Gr} {A : Nat → Nat} {p : Nat} {M : Mm} (N : Nat) (hN : 2000 < N) (hI : Ind G A) (hp : p < G.i 0 1) (hno : noS G A p) (K : RI' G A M) : ∃ M', D_X12_laysOrdered N 137 (nI p) M = some M' ∧ HRo 144 0 32 (wdC G A p) M' ∧ FX PVb M M' := by
  have hq := K.1.g
  have hA := hI.ok hq
  have hsd := hq.sd hp
  obtain ⟨M1, M2, a1, a2, a3, a4⟩ := r_laysInd N hN hA hp K.1 K.2
  obtain ⟨M3, b1, b2, b3⟩ := r_addsVisits N hN hI hp hno (K.p4 a4) a3
  have sq := ordR_sq hq hA hp
  obtain ⟨M4, c1, c2, c3⟩ := r_closes N hN (sq.lt (by omega)) b2
  rw [clo_32 sq (by omega), ord_wd hq hA hp] at c2
  unfold D_X12_laysOrdered
  rw [a1, Option.bind_some, a2, Option.bind_some, b1, Option.bind_some, c1, Option.bind_some]
  exact ⟨M4, rfl, c2, ((a4.mono fun a j q => Or.inl q).trans b3).trans (c3.mono fun a j q => Or.inl q)⟩
theorem bPf_cir {G : Gr} {A : Nat → Nat} {p : Nat} (h : QG G) (hA : AOK G A) (hp : p < G.i 0 1) (hc : cirO G A p < 32) : bPf G A p = true := by
  have hh : (iC G A p (cirO G A p)).testBit (cirO G A p) = true := fb_hit (f := fun o => (iC G A p o).testBit o) (n := 32) hc
  have hw := ((cirO_w h hA hp).1 hc).1
  have : bt (widR G A p) (cirO G A p) (cirO G A p) := by
    unfold bt widR; rw [if_pos hw, Nat.testBit_or, hh, Bool.true_or]
  have := clo_sub hw this (8 * G.i 6 p)
  unfold bPf
  exact decide_eq_true (fb_ex (f := fun o => (wdC G A p o).testBit o) hc this)
theorem r_block {G : Gr} {A : Nat → Nat} {M : Mm} (N : Nat) (hN : 2000 < N) (hI : Ind G A) (K : RI' G A M) : ∃ M', D_X12_block N 137 M = some (fR (blk G A) (G.i 0 1), M') ∧ FX PVb M M' := by
  have hq := K.1.g
  have hA := hI.ok hq
  have hnp := hq.np
  have key : ∀ (fu p : Nat) (M : Mm), p ≤ G.i 0 1 → 13 < p + fu → RI' G A M → (∀ j, j < p → bPf G A j = false) → ∃ M', L_X12_block_2 137 N fu (nI p) M = some (fR (blk G A) (G.i 0 1), M') ∧ FX PVb M M' := by
    intro fu
    induction fu with
    | zero => intro p M h1 h2; omega
    | succ fu ih =>
      intro p M h1 h2 K hj
      rw [L_X12_block_2, show (137 : Nat) + 2 = 139 from rfl, ldI_n (by omega) (by omega), K.1.1.1.2.1, Option.bind_some]
      simp (disch := omega) only [n_le]
      by_cases e : G.i 0 1 ≤ p
      · have : blk G A = G.i 0 1 := fb_eq (Nat.le_refl _) (fun j j1 => hj j (by omega)) (Or.inl rfl)
        rw [if_pos e, this, fR_m (Nat.lt_irrefl _)]; exact ⟨M, rfl, FX.refl⟩
      · have hp : p < G.i 0 1 := by omega
        have hsd := hq.sd hp
        obtain ⟨M1, a1, a2, a3⟩ := r_laysClosed N hN hA hp K.1 K.2
        rw [if_neg e, a1, Option.bind_some, r_firstSelf N hN ((iC_sq hq hA hp).lt (by omega)) a2, Option.bind_some]
        simp only [fR_m1 (show 32 < 2 ^ 31 by decide)]
        show ∃ M', (if ¬ cirO G A p < 32 then _ else _) = _ ∧ _
        have hit : bPf G A p = true → blk G A = p := fun b => fb_eq (by omega) (fun j j1 => hj j j1) (Or.inr b)
        by_cases c : cirO G A p < 32
        · rw [if_neg (not_not_intro c), hit (bPf_cir hq hA hp c), fR_n hp]
          exact ⟨M1, rfl, a3.mono fun a j q => Or.inl q⟩
        · obtain ⟨M2, b1, b2, b3⟩ := r_laysOrdered N hN hI hp (noS_of hq hI hp c) (K.p4 a3)
          have f2 : FX PVb M M2 := (a3.mono fun a j q => Or.inl q).trans b3
          rw [if_pos c, b1, Option.bind_some, r_firstSelf N hN ((wdC_sq hq hA hp).lt (by omega)) b2, Option.bind_some]
          simp only [fR_m1 (show 32 < 2 ^ 31 by decide)]
          by_cases d : fb (fun o => (wdC G A p o).testBit o) 32 < 32
          · rw [if_neg (not_not_intro d), hit (decide_eq_true d), fR_n hp]
            exact ⟨M2, rfl, f2⟩
          · rw [if_pos d, Option.bind_some, nI_add]
            obtain ⟨M3, c1, c2⟩ := ih (p + 1) M2 (by omega) (by omega) (K.pvb f2) fun j j1 => by
              by_cases z : j = p
              · rw [z]; exact decide_eq_false d
              · exact hj j (by omega)
            exact ⟨M3, c1, f2.trans c2⟩
  exact key N 0 M (Nat.zero_le _) (by omega) K fun j hj => by omega
