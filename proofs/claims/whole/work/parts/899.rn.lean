-- the reference's tree: sizes, children, places, depths
def RN (t : TR) (M : Mm) : Prop := M.1 137 50 = nI (tn t) ∧ ∀ e, e < tn t → M.1 157 e = nI (tp t e) ∧ M.1 158 e = nI (to' t e) ∧ M.1 159 e = nP (tu t e)
theorem nP_s {u : Nat} (h : 1 ≤ u) : nP u = nI (u - 1) := if_neg (by omega)
theorem nP_eq {u v : Nat} (hu : u < 2 ^ 31) (hv : v < 2 ^ 31) : (nP u = nP v) = (u = v) := by
  unfold nP
  by_cases a : u = 0
  · by_cases b : v = 0
    · rw [if_pos a, if_pos b, a, b]; exact propext ⟨fun _ => rfl, fun _ => rfl⟩
    · rw [if_pos a, if_neg b]
      exact propext ⟨fun z => absurd z (m1_ne_n (by omega)), fun z => by omega⟩
  · by_cases b : v = 0
    · rw [if_neg a, if_pos b]
      exact propext ⟨fun z => absurd z (n_ne_m1 (by omega)), fun z => by omega⟩
    · rw [if_neg a, if_neg b, n_eq (by omega) (by omega)]
      exact propext ⟨fun z => by omega, fun z => by omega⟩
section rn
variable {G : Gr} {t : TR} {ce : Nat → Nat → Nat} {me : Nat → Nat} {M : Mm} (N : Nat)
theorem r_sizeOf (hN : 2000 < N) (hq : QG G) (h : TOK G t ce me) (h40 : tn t ≤ 40) (R : RN t M) {k : Nat} (hk : k < tn t) : D_X12_sizeOf N 137 (nI k) M = some (nI (me k - k)) := by
  have hm := (h.2.1 k hk).2.2.2.1
  have key : ∀ (fu n : Nat), 1 ≤ n → k + n ≤ me k → 41 < n + fu → L_X12_sizeOf_2 M 137 (nI k) fu (nI n) = some (nI (me k - k)) := fun fu => by
    induction fu with
    | zero => intro n a b c; omega
    | succ fu ih =>
      intro n a b c
      rw [L_X12_sizeOf_2, R.1, nI_add]
      simp only [n_le (show tn t < 2 ^ 31 by omega) (show k + n < 2 ^ 31 by omega)]
      by_cases e : tn t ≤ k + n
      · rw [if_pos e, show n = me k - k by omega]
      · have rw' := (R.2 (k + n) (by omega)).2.2
        have b1 := (h.2.2 (k + n) (by omega) (by omega)).1
        have b2 := (h.2.2 (k + n) (by omega) (by omega)).2.1
        rw [if_neg e, show (137 : Nat) + 22 = 159 from rfl, ldI_n (by omega) (by omega), rw', Option.bind_some, nP_s b1]
        simp only [n_lt (show tu t (k + n) - 1 < 2 ^ 31 by omega) (show k < 2 ^ 31 by omega)]
        by_cases z : k + n < me k
        · have := h.in' hq hk (by omega) z
          rw [if_neg (by omega), Option.bind_some, nI_add]
          exact ih (n + 1) (by omega) (by omega) (by omega)
        · have em : k + n = me k := by omega
          have := h.out hq hk (by omega)
          rw [← em] at this
          rw [if_pos (by omega), show n = me k - k by omega]
  have := h.lt hq hk
  exact key N 1 (Nat.le_refl _) (by omega) (by omega)
theorem r_child (hN : 2000 < N) (hq : QG G) (h : TOK G t ce me) (h40 : tn t ≤ 40) (R : RN t M) {k j : Nat} (hk : k < tn t) (hj : j + 1 < G.i 6 (tp t k)) : D_X12_child N 137 (nI k) (nI j) M = some (nI (ce k (j + 1))) := by
  obtain ⟨a1, a2, a3, a4, a5⟩ := h.2.1 k hk
  have hsd := hq.sd a1
  have mono : ∀ k' , 1 ≤ k' → k' < G.i 6 (tp t k) → ce k k' < ce k (k' + 1) := fun k' x y => (a5 k' x y).1
  have key : ∀ (fu e i : Nat), 1 ≤ i → i ≤ j + 1 → k < e → e ≤ ce k i → (∀ i', 1 ≤ i' → i' < i → ce k i' < e) → 41 < e + fu → L_X12_child_7 M 137 (nI k) fu (nI (j + 1 - i)) (nI e) = some (nI (ce k (j + 1))) := fun fu => by
    induction fu with
    | zero => intro e i b1 b2 b3 b4 b5 b6; have := h.kid hk b1 (show i < G.i 6 (tp t k) by omega); omega
    | succ fu ih =>
      intro e i b1 b2 b3 b4 b5 b6
      have kd := h.kid hk b1 (show i < G.i 6 (tp t k) by omega)
      have et : e < tn t := by omega
      have rw' := (R.2 e et).2.2
      obtain ⟨c1, c2, c3, c4, c5⟩ := h.2.2 e (by omega) et
      rw [L_X12_child_7, R.1]
      simp only [n_le (show tn t < 2 ^ 31 by omega) (show e < 2 ^ 31 by omega)]
      rw [if_neg (by omega), show (137 : Nat) + 22 = 159 from rfl, ldI_n (by omega) (by omega), rw', Option.bind_some, nP_s c1]
      simp only [n_eq (show tu t e - 1 < 2 ^ 31 by omega) (show k < 2 ^ 31 by omega), n_eq (show j + 1 - i < 2 ^ 31 by omega) (show 0 < 2 ^ 31 by omega)]
      by_cases z : tu t e - 1 = k
      · obtain ⟨d1, d2, d3⟩ := h.chd (x := k) (by omega) et (by omega)
        have ei : tq t e = i := by
          by_cases w : tq t e < i
          · have := b5 _ d2 w; omega
          · by_cases w2 : i < tq t e
            · have := chn_lts mono b1 w2 (by omega); omega
            · omega
        rw [ei] at d1
        rw [if_pos z]
        by_cases l0 : j + 1 - i = 0
        · rw [if_pos l0, d1, show i = j + 1 by omega]
        · rw [if_neg l0, n_m1 (by omega), Option.bind_some, Option.bind_some, nI_add, show j + 1 - i - 1 = j + 1 - (i + 1) by omega]
          have := mono i b1 (by omega)
          exact ih (e + 1) (i + 1) (by omega) (by omega) (by omega) (by omega) (fun i' x y => by
            by_cases w : i' = i
            · rw [w]; omega
            · have := b5 i' x (by omega); omega) (by omega)
      · have ne : ¬ e = ce k i := fun w => by
          have := (a5 i b1 (by omega)).2.1
          rw [← w] at this; omega
        rw [if_neg z, Option.bind_some, nI_add]
        exact ih (e + 1) i b1 b2 (by omega) (by omega) (fun i' x y => by have := b5 i' x y; omega) (by omega)
  unfold D_X12_child
  rw [Option.bind_some, nI_add]
  have := key N (k + 1) 1 (Nat.le_refl _) (by omega) (by omega) (by omega) (fun i' x y => by omega) (by omega)
  rwa [Nat.add_sub_cancel] at this
theorem r_positionOf (hN : 2000 < N) (hq : QG G) (h : TOK G t ce me) (h40 : tn t ≤ 40) (R : RN t M) {f : Nat} (hf1 : 1 ≤ f) (hf : f < tn t) : D_X12_positionOf N 137 (nI f) M = some (nI (tq t f)) := by
  obtain ⟨f1, f2, f3, f4, f5⟩ := h.2.2 f hf1 hf
  have hx : tu t f - 1 < tn t := by omega
  obtain ⟨a1, a2, a3, a4, a5⟩ := h.2.1 (tu t f - 1) hx
  have hsd := hq.sd a1
  have mono : ∀ k' , 1 ≤ k' → k' < G.i 6 (tp t (tu t f - 1)) → ce (tu t f - 1) k' < ce (tu t f - 1) (k' + 1) := fun k' x y => (a5 k' x y).1
  have rwf := (R.2 f hf).2.2
  have key : ∀ (fu e i : Nat), 1 ≤ i → i ≤ tq t f → tu t f - 1 < e → e ≤ ce (tu t f - 1) i → (∀ i', 1 ≤ i' → i' < i → ce (tu t f - 1) i' < e) → 41 < e + fu → L_X12_positionOf_11 (nI f) 137 M fu (nI i) (nI e) = some (nI (tq t f)) := fun fu => by
    induction fu with
    | zero => intro e i b1 b2 b3 b4 b5 b6; have := h.kid hx b1 (show i < G.i 6 (tp t (tu t f - 1)) by omega); omega
    | succ fu ih =>
      intro e i b1 b2 b3 b4 b5 b6
      have kd := h.kid hx b1 (show i < G.i 6 (tp t (tu t f - 1)) by omega)
      have et : e < tn t := by omega
      have rw' := (R.2 e et).2.2
      obtain ⟨c1, c2, c3, c4, c5⟩ := h.2.2 e (by omega) et
      have le : ce (tu t f - 1) i ≤ ce (tu t f - 1) (tq t f) := chn_le mono b1 b2 (by omega)
      rw [L_X12_positionOf_11]
      simp only [n_le (show f < 2 ^ 31 by omega) (show e < 2 ^ 31 by omega)]
      by_cases ef : f ≤ e
      · rw [if_pos ef]
        have : ce (tu t f - 1) i = ce (tu t f - 1) (tq t f) := by omega
        have : i = tq t f := by
          by_cases w : i < tq t f
          · have := chn_lts mono b1 w (by omega); omega
          · omega
        rw [this]
      · rw [if_neg ef, show (137 : Nat) + 22 = 159 from rfl, ldI_n (by omega) (by omega), rw', Option.bind_some, ldI_n (by omega) (by omega), rwf, Option.bind_some]
        simp only [nP_eq (show tu t e < 2 ^ 31 by omega) (show tu t f < 2 ^ 31 by omega)]
        by_cases z : tu t e = tu t f
        · obtain ⟨d1, d2, d3⟩ := h.chd (x := tu t f - 1) (by omega) et (by omega)
          have ei : tq t e = i := by
            by_cases w : tq t e < i
            · have := b5 _ d2 w; omega
            · by_cases w2 : i < tq t e
              · have := chn_lts mono b1 w2 (by omega); omega
              · omega
          rw [ei] at d1
          have li : i < tq t f := by
            by_cases w : i = tq t f
            · rw [w] at d1; omega
            · omega
          rw [if_pos z, Option.bind_some, Option.bind_some, nI_add, nI_add]
          have := mono i b1 (by omega)
          exact ih (e + 1) (i + 1) (by omega) (by omega) (by omega) (by omega) (fun i' x y => by
            by_cases w : i' = i
            · rw [w]; omega
            · have := b5 i' x (by omega); omega) (by omega)
        · have ne : ¬ e = ce (tu t f - 1) i := fun w => by
            have := (a5 i b1 (by omega)).2.1
            rw [← w] at this; omega
          rw [if_neg z, Option.bind_some, Option.bind_some, nI_add, nI_add, Nat.add_zero]
          exact ih (e + 1) i b1 b2 (by omega) (by omega) (fun i' x y => by have := b5 i' x y; omega) (by omega)
  unfold D_X12_positionOf
  rw [show (137 : Nat) + 22 = 159 from rfl, ldI_n (by omega) (by omega), rwf, Option.bind_some, nP_s f1, nI_add, Option.bind_some]
  exact key N (tu t f - 1 + 1) 1 (Nat.le_refl _) f3 (by omega) (by rw [a2]; exact Nat.le_refl _) (fun i' x y => by omega) (by omega)
theorem depthOf_s (fu a0 : Nat) (a1 : Int32) : D_X12_depthOf N (fu + 1) a0 a1 M = DB_X12_depthOf N (D_X12_depthOf N fu) a0 a1 M := rfl
theorem tok_td1 (h : TOK G t ce me) (h1 : td t 0 = 1) : ∀ (n e : Nat), e ≤ n → e < tn t → 1 ≤ td t e
  | 0, e, h2, _ => by rw [show e = 0 by omega, h1]; exact Nat.le_refl _
  | n + 1, e, h2, h3 => by
    by_cases z : e = 0
    · subst z; rw [h1]; exact Nat.le_refl _
    · have := h.td (by omega) h3
      omega
theorem r_depthOf (h : TOK G t ce me) (h40 : tn t ≤ 40) (R : RN t M) (h1 : td t 0 = 1) : ∀ (fu e : Nat), e < tn t → td t e ≤ fu → D_X12_depthOf N fu 137 (nI e) M = some (nI (td t e - 1))
  | 0, e, h2, h3 => by have := tok_td1 h h1 e e (Nat.le_refl _) h2; omega
  | fu + 1, e, h2, h3 => by
    have rw' := (R.2 e h2).2.2
    rw [depthOf_s]
    unfold DB_X12_depthOf
    rw [show (137 : Nat) + 22 = 159 from rfl, ldI_n (by omega) (by omega), rw', Option.bind_some]
    by_cases z : e = 0
    · subst z
      have u0 := h.1.2.1
      rw [u0, show nP 0 = m1 from rfl, if_pos rfl, h1]
    · obtain ⟨b1, b2, _⟩ := h.2.2 e (by omega) h2
      have td' := h.td (by omega) h2
      have d1 := tok_td1 h h1 (tu t e - 1) (tu t e - 1) (Nat.le_refl _) (by omega)
      have c3 := r_depthOf h h40 R h1 fu (tu t e - 1) (by omega) (by omega)
      rw [nP_s b1, if_neg (n_ne_m1 (by omega)), Option.bind_some, c3, Option.bind_some, nI_add, td', show td t (tu t e - 1) - 1 + 1 = td t (tu t e - 1) + 1 - 1 by omega]
end rn
