-- the reference grafts: all nodes behind move; the new ones come
theorem le_sub : ∀ m, m < 41 → ∀ s, s < 41 → ((nI m - nI s ≤ nI 0) ↔ m ≤ s) := by decide +kernel
section tok
variable {G : Gr} {t : TR} {ce : Nat → Nat → Nat} {me : Nat → Nat} {k s m : Nat}
theorem MVe.base {M0 M M' : Mm} {e : Nat} (h : MVe k s m t M M' e) (q1 : M.1 157 e = M0.1 157 e) (q2 : M.1 158 e = M0.1 158 e) (q3 : ∀ x, x < 8 → M.1 170 (8 * e + x) = M0.1 170 (8 * e + x) ∧ M.1 177 (8 * e + x) = M0.1 177 (8 * e + x)) : MVe k s m t M0 M' e := by
  obtain ⟨h1, h2, h3, h4⟩ := h
  refine ⟨h1.trans q1, h2.trans q2, h3, fun x hx => ?_⟩
  obtain ⟨a, b, c⟩ := h4 x hx
  exact ⟨a.trans (q3 x hx).1, b.trans (q3 x hx).2, c⟩
theorem r_movesBehind {M : Mm} (N : Nat) (hN : 2000 < N) (hq : QG G) (h : TOK G t ce me) (hk : k < tn t) (hs : me k = k + s) (hm : 1 ≤ m) (h40 : tn t ≤ 40) (h40' : tn t + m - s ≤ 40) (h50 : M.1 137 50 = nI (tn t)) (h159 : ∀ e, e < tn t → M.1 159 e = nP (tu t e)) (h177 : ∀ x, x < 8 * tn t → ∃ c, M.1 177 x = bI c) : ∃ M', D_X12_movesBehind N 137 (nI (k + s)) (nI m - nI s) M = some M' ∧ (¬ m = s → ∀ e, k + s ≤ e → e < tn t → MVe k s m t M M' e) ∧ (m = s → M' = M) ∧ FX (PMv (k + m) (tn t + m - s)) M M' := by
  have l := h.lt hq hk
  have n4 := (h.2.1 k hk).2.2.2.1
  have ls := le_sub m (by omega) s (by omega)
  unfold D_X12_movesBehind
  rw [h50]
  by_cases eq : m = s
  · subst eq
    obtain ⟨fu, rfl⟩ : ∃ fu, N = fu + 1 := ⟨N - 1, by omega⟩
    have z : nI m - nI m = nI 0 := by rw [n_sub (Nat.le_refl _), Nat.sub_self]
    rw [z, if_pos (by decide), Option.bind_some, if_pos (by decide), Option.bind_some, L_X12_movesBehind_26, if_pos rfl]
    exact ⟨M, rfl, fun z => absurd rfl z, fun _ => rfl, FX.refl⟩
  · by_cases lt : m < s
    · rw [if_pos (ls.2 (by omega)), if_pos (ls.2 (by omega)), Option.bind_some, Option.bind_some]
      have key : ∀ fu e M1, k + s ≤ e → e ≤ tn t → 40 < e + fu → (∀ x, k + s ≤ x → x < e → MVe k s m t M M1 x) → FX (PMv (k + m) (e + m - s)) M M1 → ∃ M', L_X12_movesBehind_26 (nI m - nI s) (nI (k + s)) 137 (nI 1) N fu (nI e) M1 = some M' ∧ (∀ x, k + s ≤ x → x < tn t → MVe k s m t M M' x) ∧ FX (PMv (k + m) (tn t + m - s)) M M' := fun fu => by
        induction fu with
        | zero => intro e M1 h0 h1 h2; omega
        | succ fu ih =>
          intro e M1 h0 h1 h2 mv f
          have e50 : M1.1 137 50 = nI (tn t) := by rw [(f.2 137 50 (by unfold PMv; omega)).1]; exact h50
          by_cases c : e = tn t
          · subst c
            rw [L_X12_movesBehind_26, if_neg (fun z => by
              have : nI s + (nI m - nI s) = nI s + nI 0 := by rw [z]
              rw [n_shift (by omega), nI_add, n_eq (by omega) (by omega)] at this
              omega), if_neg (by rw [n_lt (by omega) (by omega)]; omega), e50, if_pos (by rw [n_le (by omega) (by omega)]; omega)]
            exact ⟨M1, rfl, mv, f⟩
          · have r : ∀ b j, ¬ PMv (k + m) (e + m - s) b j → M1.1 b j = M.1 b j := fun b j hb => (f.2 b j hb).1
            obtain ⟨M2, a1, a2, a3⟩ := mv_one (t1 := nI 1) (M := M1) N fu hN hq h hk hs hm h40 h40' eq h0 (by omega) e50 (by rw [r 159 e (by unfold PMv; omega)]; exact h159 e (by omega)) (fun x hx => by rw [r 177 _ (by unfold PMv; omega)]; exact h177 _ (by omega))
            rw [a1, nI_add]
            obtain ⟨M3, b1, b2, b3⟩ := ih (e + 1) M2 (by omega) (by omega) (by omega) (fun x x1 x2 => by
              by_cases z : x = e
              · rw [z]
                exact a2.base (r 157 e (by unfold PMv; omega)) (r 158 e (by unfold PMv; omega)) fun x hx => ⟨r 170 _ (by unfold PMv; omega), r 177 _ (by unfold PMv; omega)⟩
              · exact (mv x x1 (by omega)).fx a3 (Or.inl (by omega))) ((f.mono fun b j z => by unfold PMv at z ⊢; omega).trans (a3.mono fun b j z => by unfold PMv at z ⊢; omega))
            exact ⟨M3, b1, b2, b3⟩
      obtain ⟨M', a1, a2, a3⟩ := key N (k + s) M (Nat.le_refl _) (by omega) (by omega) (fun x x1 x2 => by omega) FX.refl
      exact ⟨M', a1, fun _ => a2, fun z => absurd z eq, a3⟩
    · rw [if_neg (fun z => by have := ls.1 z; omega), if_neg (fun z => by have := ls.1 z; omega), Option.bind_some, Option.bind_some, show nI (tn t) - nI 1 = nI (tn t - 1) from n_sub (by omega)]
      have key : ∀ fu c M1, k + s ≤ c → c ≤ tn t → c - (k + s) < fu → (∀ x, c ≤ x → x < tn t → MVe k s m t M M1 x) → FX (PMv (c + m - s) (tn t + m - s)) M M1 → ∃ M', L_X12_movesBehind_26 (nI m - nI s) (nI (k + s)) 137 m1 N fu (nI (c - 1)) M1 = some M' ∧ (∀ x, k + s ≤ x → x < tn t → MVe k s m t M M' x) ∧ FX (PMv (k + m) (tn t + m - s)) M M' := fun fu => by
        induction fu with
        | zero => intro c M1 h0 h1 h2; omega
        | succ fu ih =>
          intro c M1 h0 h1 h2 mv f
          have e50 : M1.1 137 50 = nI (tn t) := by rw [(f.2 137 50 (by unfold PMv; omega)).1]; exact h50
          by_cases z : c = k + s
          · rw [L_X12_movesBehind_26, if_neg (fun z => by
              have : nI s + (nI m - nI s) = nI s + nI 0 := by rw [z]
              rw [n_shift (by omega), nI_add, n_eq (by omega) (by omega)] at this
              omega), if_pos (by rw [n_lt (by omega) (by omega)]; omega)]
            exact ⟨M1, rfl, fun x x1 x2 => mv x (by omega) x2, f.mono fun b j z => by unfold PMv at z ⊢; omega⟩
          · have r : ∀ b j, ¬ PMv (c + m - s) (tn t + m - s) b j → M1.1 b j = M.1 b j := fun b j hb => (f.2 b j hb).1
            obtain ⟨M2, a1, a2, a3⟩ := mv_one (t1 := m1) (M := M1) (e := c - 1) N fu hN hq h hk hs hm h40 h40' eq (by omega) (by omega) e50 (by rw [r 159 _ (by unfold PMv; omega)]; exact h159 _ (by omega)) (fun x hx => by rw [r 177 _ (by unfold PMv; omega)]; exact h177 _ (by omega))
            rw [a1, n_m1 (by omega)]
            obtain ⟨M3, b1, b2, b3⟩ := ih (c - 1) M2 (by omega) (by omega) (by omega) (fun x x1 x2 => by
              by_cases z : x = c - 1
              · rw [z]
                exact a2.base (r 157 _ (by unfold PMv; omega)) (r 158 _ (by unfold PMv; omega)) fun x hx => ⟨r 170 _ (by unfold PMv; omega), r 177 _ (by unfold PMv; omega)⟩
              · exact (mv x (by omega) x2).fx a3 (Or.inr (by omega))) ((f.mono fun b j z => by unfold PMv at z ⊢; omega).trans (a3.mono fun b j z => by unfold PMv at z ⊢; omega))
            exact ⟨M3, b1, b2, b3⟩
      obtain ⟨M', a1, a2, a3⟩ := key N (tn t) M (by omega) (Nat.le_refl _) (by omega) (fun x x1 x2 => by omega) FX.refl
      exact ⟨M', a1, fun _ => a2, fun z => absurd z eq, a3⟩
end tok
/-- rows of the new nodes -/
def PNw (k m b j : Nat) : Prop := 157 ≤ b ∧ b ≤ 159 ∧ k ≤ j ∧ j < k + m ∨ (b = 177 ∨ b = 178) ∧ 8 * (k + 1) ≤ j ∧ j < 8 * (k + m)
theorem nw_inst {k e : Nat} (he : 1 ≤ e) (h40 : k + e < 40) (kE : Mm → Option (Int32 × Mm)) : ∀ (fu a : Nat) (M : Mm), a ≤ 8 → 8 < a + fu → (∀ x, x < a → M.1 177 (8 * (k + e) + x) = nI 1 ∧ M.1 178 (8 * (k + e) + x) = nI 1) → ∃ M', L_X12_graft_250 kE (nI e) 137 (nI k) fu (nI a) M = kE M' ∧ (∀ x, x < 8 → M'.1 177 (8 * (k + e) + x) = nI 1 ∧ M'.1 178 (8 * (k + e) + x) = nI 1) ∧ FX (fun b j => (b = 177 ∨ b = 178) ∧ 8 * (k + e) ≤ j ∧ j < 8 * (k + e) + 8) M M'
  | 0, a, M, h1, h2, _ => by omega
  | fu + 1, a, M, h1, h2, r => by
    rw [L_X12_graft_250]
    simp only [n_le (show 8 < 2 ^ 31 by decide) (show a < 2 ^ 31 by omega), n_le (show e < 2 ^ 31 by omega) (show 0 < 2 ^ 31 by decide)]
    by_cases c : 8 ≤ a
    · rw [if_pos c]; exact ⟨M, rfl, fun x hx => r x (by omega), FX.refl⟩
    · rw [if_neg c, if_neg (by omega), nI_add, pk_mul, nI_add, show (137 : Nat) + 40 = 177 from rfl, show (137 : Nat) + 41 = 178 from rfl, stZ_1 (by omega) (by omega), Option.bind_some, stZ_1 (by omega) (by omega), Option.bind_some, Option.bind_some, nI_add]
      have f1 : FX (fun b j => (b = 177 ∨ b = 178) ∧ 8 * (k + e) ≤ j ∧ j < 8 * (k + e) + 8) M (upI (upI M 178 (8 * (k + e) + a) (nI 1)) 177 (8 * (k + e) + a) (nI 1)) := (FX.I (by omega)).trans (FX.I (by omega))
      obtain ⟨M', a1, a2, a3⟩ := nw_inst he h40 kE fu (a + 1) (upI (upI M 178 (8 * (k + e) + a) (nI 1)) 177 (8 * (k + e) + a) (nI 1)) (by omega) (by omega) fun x hx => by
        rw [upI_j, upI_n (show ¬ (177 : Nat) = 178 by decide), upI_n (show ¬ (178 : Nat) = 177 by decide), upI_j]
        by_cases z : x = a
        · subst z; rw [if_pos rfl, if_pos rfl]; exact ⟨rfl, rfl⟩
        · rw [if_neg (by omega), if_neg (by omega)]; exact r x (by omega)
      exact ⟨M', a1, a2, f1.trans a3⟩
theorem r_graftNew {u : TR} {k p0 : Nat} {G : Gr} {cu : Nat → Nat → Nat} {mu : Nat → Nat} (N : Nat) (hN : 2000 < N) (hu : TOK G u cu mu) (h40 : k + tn u ≤ 40) (kE : Mm → Option (Int32 × Mm)) : ∀ (fu e : Nat) (M : Mm), e ≤ tn u → 40 < e + fu → RTT u M → (∀ x, x < e → M.1 157 (k + x) = nI (tp u x) ∧ M.1 158 (k + x) = nI (to' u x) ∧ M.1 159 (k + x) = nP (if x = 0 then p0 else tu u x + k)) → (∀ x a, 1 ≤ x → x < e → a < 8 → M.1 177 (8 * (k + x) + a) = nI 1 ∧ M.1 178 (8 * (k + x) + a) = nI 1) → ∃ M', L_X12_graft_178 kE 137 (nI k) (nP p0) N fu (nI e) M = kE M' ∧ (∀ x, x < tn u → M'.1 157 (k + x) = nI (tp u x) ∧ M'.1 158 (k + x) = nI (to' u x) ∧ M'.1 159 (k + x) = nP (if x = 0 then p0 else tu u x + k)) ∧ (∀ x a, 1 ≤ x → x < tn u → a < 8 → M'.1 177 (8 * (k + x) + a) = nI 1 ∧ M'.1 178 (8 * (k + x) + a) = nI 1) ∧ FX (PNw k (tn u)) M M'
  | 0, e, M, h1, h2, _, _, _ => by omega
  | fu + 1, e, M, h1, h2, R, r1, r2 => by
    rw [L_X12_graft_178, R.1]
    simp only [n_le (show tn u < 2 ^ 31 by omega) (show e < 2 ^ 31 by omega), n_eq (show e < 2 ^ 31 by omega) (show 0 < 2 ^ 31 by decide)]
    by_cases c : tn u ≤ e
    · rw [if_pos c]
      exact ⟨M, rfl, fun x hx => r1 x (by omega), fun x a x1 x2 ha => r2 x a x1 (by omega) ha, FX.refl⟩
    · obtain ⟨q1, q2, q3⟩ := R.2 e (by omega)
      rw [if_neg c, nI_add, show (137 : Nat) + 23 = 160 from rfl, show (137 : Nat) + 24 = 161 from rfl, show (137 : Nat) + 25 = 162 from rfl, show (137 : Nat) + 20 = 157 from rfl, show (137 : Nat) + 21 = 158 from rfl, show (137 : Nat) + 22 = 159 from rfl, ldI_n (by omega) (by omega), q1, Option.bind_some, stI_n (by omega) (by omega), Option.bind_some, ldI_n (by omega) (by omega), upI_n (by decide), q2, Option.bind_some, stI_n (by omega) (by omega), Option.bind_some]
      have p246 : (if e = 0 then (some (nP p0)) else ((ldI 40 162 (nI e) (upI (upI M 157 (k + e) (nI (tp u e))) 158 (k + e) (nI (to' u e)))).bind fun v5 => (some (v5 + nI k))) : Option Int32) = some (nP (if e = 0 then p0 else tu u e + k)) := by
        by_cases z : e = 0
        · rw [if_pos z, if_pos z]
        · have := (hu.2.2 e (by omega) (by omega)).1
          rw [if_neg z, if_neg z, ldI_n (by omega) (by omega), upI_n (by decide), upI_n (by decide), q3, Option.bind_some, nP_s this, nP_s (u := tu u e + k) (by omega), nI_add]
          congr 2
          omega
      rw [p246, Option.bind_some, stI_n (by omega) (by omega), Option.bind_some]
      have f1 : FX (PNw k (tn u)) M (upI (upI (upI M 157 (k + e) (nI (tp u e))) 158 (k + e) (nI (to' u e))) 159 (k + e) (nP (if e = 0 then p0 else tu u e + k))) := ((FX.I (by unfold PNw; omega)).trans (FX.I (by unfold PNw; omega))).trans (FX.I (by unfold PNw; omega))
      -- what stands once this node has come
      have fin : ∀ M2 : Mm, FX (fun b j => (b = 177 ∨ b = 178) ∧ 8 * (k + 1) ≤ j ∧ 8 * (k + e) ≤ j ∧ j < 8 * (k + e) + 8) (upI (upI (upI M 157 (k + e) (nI (tp u e))) 158 (k + e) (nI (to' u e))) 159 (k + e) (nP (if e = 0 then p0 else tu u e + k))) M2 → (1 ≤ e → ∀ x, x < 8 → M2.1 177 (8 * (k + e) + x) = nI 1 ∧ M2.1 178 (8 * (k + e) + x) = nI 1) → ∃ M', L_X12_graft_178 kE 137 (nI k) (nP p0) N fu (nI (e + 1)) M2 = kE M' ∧ (∀ x, x < tn u → M'.1 157 (k + x) = nI (tp u x) ∧ M'.1 158 (k + x) = nI (to' u x) ∧ M'.1 159 (k + x) = nP (if x = 0 then p0 else tu u x + k)) ∧ (∀ x a, 1 ≤ x → x < tn u → a < 8 → M'.1 177 (8 * (k + x) + a) = nI 1 ∧ M'.1 178 (8 * (k + x) + a) = nI 1) ∧ FX (PNw k (tn u)) M M' := fun M2 f2 g2 => by
        have F2 : FX (PNw k (tn u)) M M2 := f1.trans (f2.mono fun b j z => by unfold PNw; omega)
        obtain ⟨M', a1, a2, a3, a4⟩ := r_graftNew N hN hu h40 kE fu (e + 1) M2 (by omega) (by omega) ⟨by rw [(F2.2 137 51 (by unfold PNw; omega)).1]; exact R.1, fun x hx => by rw [(F2.2 160 x (by unfold PNw; omega)).1, (F2.2 161 x (by unfold PNw; omega)).1, (F2.2 162 x (by unfold PNw; omega)).1]; exact R.2 x hx⟩ (fun x hx => by
          rw [(f2.2 157 _ (by omega)).1, (f2.2 158 _ (by omega)).1, (f2.2 159 _ (by omega)).1, upI_n (by decide), upI_n (by decide), upI_j, upI_n (by decide), upI_j, upI_n (by decide), upI_j, upI_n (by decide), upI_n (by decide)]
          by_cases z : x = e
          · subst z; rw [if_pos rfl, if_pos rfl, if_pos rfl]; exact ⟨rfl, rfl, rfl⟩
          · rw [if_neg (by omega), if_neg (by omega), if_neg (by omega)]; exact r1 x (by omega)) (fun x a x1 x2 ha => by
          by_cases z : x = e
          · rw [z]; exact g2 (by omega) a ha
          · rw [(f2.2 177 _ (by omega)).1, (f2.2 178 _ (by omega)).1, upI_n (by decide), upI_n (by decide), upI_n (by decide), upI_n (by decide), upI_n (by decide), upI_n (by decide)]
            exact r2 x a x1 (by omega) ha)
        exact ⟨M', a1, a2, a3, F2.trans a4⟩
      by_cases z : e = 0
      · obtain ⟨n', rfl⟩ : ∃ n', N = n' + 1 := ⟨N - 1, by omega⟩
        rw [L_X12_graft_250]
        simp only [n_le (show 8 < 2 ^ 31 by decide) (show 0 < 2 ^ 31 by decide), n_le (show e < 2 ^ 31 by omega) (show 0 < 2 ^ 31 by decide)]
        rw [if_neg (by omega), if_pos (by omega), Option.bind_some, nI_add]
        exact fin _ FX.refl (fun z => by omega)
      · obtain ⟨M2, b1, b2, b3⟩ := nw_inst (k := k) (e := e) (by omega) (by omega) (fun (M15 : Mm) => ((some (nI e + (nI 1))).bind fun l6_2 => (L_X12_graft_178 kE 137 (nI k) (nP p0) N fu l6_2 M15))) N 0 (upI (upI (upI M 157 (k + e) (nI (tp u e))) 158 (k + e) (nI (to' u e))) 159 (k + e) (nP (if e = 0 then p0 else tu u e + k))) (by omega) (by omega) (fun x hx => by omega)
        rw [b1, Option.bind_some, nI_add]
        exact fin M2 (b3.mono fun b j z => by omega) (fun _ => b2)
section tok
variable {G : Gr} {t : TR} {ce : Nat → Nat → Nat} {me : Nat → Nat} {k : Nat}
theorem r_graftOuts (N : Nat) (hq : QG G) (h : TOK2 G t ce me) (hk : k < tn t) (kE : Mm → Option (Int32 × Mm)) : ∀ (fu a : Nat) (M : Mm), G.i 4 (syT G t k) ≤ a → a ≤ att G (syT G t k) → 8 < a + fu → RT1 G t M → (∀ x, G.i 4 (syT G t k) ≤ x → x < a → M.1 177 (8 * k + x) = nI 1) → ∃ M', L_X12_graft_331 kE N 137 (nI k) fu (nI a) M = kE M' ∧ (∀ x, G.i 4 (syT G t k) ≤ x → x < att G (syT G t k) → M'.1 177 (8 * k + x) = nI 1) ∧ FX (fun b j => b = 177 ∧ 8 * k + G.i 4 (syT G t k) ≤ j ∧ j < 8 * k + att G (syT G t k)) M M'
  | 0, a, M, h0, h1, h2, _, _ => by have := (ni_le hq h.1 hk).2; omega
  | fu + 1, a, M, h0, h1, h2, R, r => by
    have s8 := syT_lt hq h.1 hk
    have a8 := (ni_le hq h.1 hk).2
    have h40 := h.2.2.2.1
    rw [L_X12_graft_331, r_symbolOf N h R hk, Option.bind_some, r_attrs N R.1 s8, Option.bind_some]
    simp only [n_le (show att G (syT G t k) < 2 ^ 31 by omega) (show a < 2 ^ 31 by omega)]
    by_cases c : att G (syT G t k) ≤ a
    · rw [if_pos c]; exact ⟨M, rfl, fun x x1 x2 => r x x1 (by omega), FX.refl⟩
    · rw [if_neg c, pk_mul, nI_add, show (137 : Nat) + 40 = 177 from rfl, stZ_1 (by omega) (by omega), Option.bind_some, Option.bind_some, nI_add]
      have f1 : FX (fun b j => b = 177 ∧ 8 * k + G.i 4 (syT G t k) ≤ j ∧ j < 8 * k + att G (syT G t k)) M (upI M 177 (8 * k + a) (nI 1)) := FX.I (by omega)
      obtain ⟨M', a1, a2, a3⟩ := r_graftOuts N hq h hk kE fu (a + 1) _ (by omega) (by omega) (by omega) (R.fx f1 fun b j z => by omega) fun x x1 x2 => by
        rw [upI_j]
        by_cases z : x = a
        · rw [if_pos (by rw [z])]
        · rw [if_neg (by omega)]; exact r x x1 (by omega)
      exact ⟨M', a1, a2, f1.trans a3⟩
end tok
