-- the reference: who is ready
theorem all_s {Q : Nat → Prop} {j : Nat} (h : Q j) : (∀ y, j + 1 ≤ y → Q y) ↔ ∀ y, j ≤ y → Q y :=
  ⟨fun a y hy => by
    by_cases e : y = j
    · rw [e]; exact h
    · exact a y (by omega), fun a y hy => a y (by omega)⟩
theorem bF {b : Bool} {P : Prop} (h : b = false) (n : ¬ P) : b = true ↔ P := ⟨fun z => by rw [h] at z; exact absurd z (by decide), fun z => absurd z n⟩
section tok
variable {G : Gr} {t : TR} {ce : Nat → Nat → Nat} {me : Nat → Nat}
variable {gN : Nat} {gr fr od : Nat → Nat} {kt : Nat → Bool}
variable {gv : Nat → Int32}
/-- a knot's number tells its group -/
theorem GRP.kn (hq : QG G) (h : TOK2 G t ce me) (g : GRP G t ce gN gr fr od kt) {i j : Nat} (hi : i < 320) (ki : knB G t ce i = true) (hj : j < 320) : (knI G t ce j = knI G t ce i) = (gr j = gr i) := by
  have e : knI G t ce i = nI (knF G t ce i) := by unfold knI; rw [if_pos ki]
  have b := (knF_le hi ki).1
  have m := g.mm hq h ki j
  rw [e, knI_eq hj (by omega)]
  unfold mmT at m
  refine propext ⟨fun z => ?_, fun z => ?_⟩
  · rw [z.1, decide_eq_true z.2] at m
    exact of_decide_eq_true m.symm
  · rw [decide_eq_true z, Bool.and_eq_true, decide_eq_true_eq] at m; exact m
theorem loop_ready {i : Nat} {dg : Nat → Bool} {M : Mm} (N : Nat) (hN : 2000 < N) (hq : QG G) (h : TOK2 G t ce me) (P : GRP G t ce gN gr fr od kt) (R : RK3 G t ce gv M) (D : ∀ x, x < 320 → M.1 176 x = bI (dg (gr x))) (hi : thT G t i) : ∀ (fu j : Nat), j ≤ 8 * tn t → 320 < j + fu → ∃ b, L_X12_isReady_2 M 137 N (nI i) fu (nI j) = some (bI b) ∧ (b = true ↔ ∀ y, j ≤ y → nrT G t ce i y → dg (gr y) = true ∨ gr y = gr i)
  | 0, j, h1, h2 => by have := h.2.2.2.1; omega
  | fu + 1, j, h1, h2 => by
    have h40 := h.2.2.2.1
    have i320 := (th_320 h hi).2
    rw [L_X12_isReady_2, R.1.2.1, pk_mul]
    simp only [n_le (show 8 * tn t < 2 ^ 31 by omega) (show j < 2 ^ 31 by omega)]
    by_cases e : 8 * tn t ≤ j
    · rw [if_pos e]
      exact ⟨true, okZ_1, ⟨fun _ y hy hn => by have := (th_320 h (nr_th hq h hi hn)).1; omega, fun _ => rfl⟩⟩
    · have j320 : j < 320 := by omega
      obtain ⟨b, ih1, ih2⟩ := loop_ready N hN hq h P R D hi fu (j + 1) (by omega) (by omega)
      rw [if_neg e, show (137 : Nat) + 35 = 172 from rfl, r_bit N len172 R.2.2.1 i320 j320, Option.bind_some, Option.bind_some, nI_add]
      simp only [bI_0]
      cases c : nrB G t ce i j
      · rw [if_pos rfl]
        refine ⟨b, ih1, ih2.trans (all_s fun z => ?_)⟩
        rw [nrB_t.2 ⟨hi, z⟩] at c; exact absurd c (by decide)
      · have nr := (nrB_t.1 c).2
        rw [if_neg (by decide), show (137 : Nat) + 39 = 176 from rfl, show (137 : Nat) + 30 = 167 from rfl, ldI_n j320 (by omega), D j j320, Option.bind_some]
        simp only [bI_0]
        cases d : dg (gr j)
        · rw [if_pos rfl, ldI_n i320 (by omega), R.2.2.2.2.1 i i320, Option.bind_some]
          by_cases k : knB G t ce i = true
          · rw [if_neg (fun z => by rw [knI_m1 i320, k] at z; exact absurd z (by decide)), ldI_n j320 (by omega), R.2.2.2.2.1 j j320, Option.bind_some, Option.bind_some]
            simp only [P.kn hq h i320 k j320]
            by_cases s : gr j = gr i
            · rw [if_pos s]
              exact ⟨b, ih1, ih2.trans (all_s fun _ => Or.inr s)⟩
            · rw [if_neg s]
              exact ⟨false, okZ_0, bF rfl fun z => (z j (Nat.le_refl _) nr).elim (fun u => by rw [d] at u; exact absurd u (by decide)) s⟩
          · have k' : knB G t ce i = false := by cases z : knB G t ce i <;> simp_all
            have al := P.alone hq h hi k' nr
            rw [if_pos (by rw [knI_m1 i320]; exact k')]
            exact ⟨false, okZ_0, bF rfl fun z => (z j (Nat.le_refl _) nr).elim (fun u => by rw [d] at u; exact absurd u (by decide)) (fun u => by omega)⟩
        · rw [if_neg (by decide)]
          exact ⟨b, ih1, ih2.trans (all_s fun _ => Or.inl d)⟩
theorem r_isReady {i : Nat} {dg : Nat → Bool} {M : Mm} (N : Nat) (hN : 2000 < N) (hq : QG G) (h : TOK2 G t ce me) (P : GRP G t ce gN gr fr od kt) (R : RK3 G t ce gv M) (D : ∀ x, x < 320 → M.1 176 x = bI (dg (gr x))) (hi : thT G t i) : ∃ b, D_X12_isReady N 137 (nI i) M = some (bI b) ∧ (b = true ↔ ∀ y, nrT G t ce i y → dg (gr y) = true ∨ gr y = gr i) := by
  obtain ⟨b, a1, a2⟩ := loop_ready N hN hq h P R D hi N 0 (Nat.zero_le _) (by omega)
  exact ⟨b, a1, a2.trans ⟨fun z y => z y (Nat.zero_le _), fun z y _ => z y⟩⟩
theorem loop_kready {i : Nat} {dg : Nat → Bool} {M : Mm} (N : Nat) (hN : 2000 < N) (hq : QG G) (h : TOK2 G t ce me) (P : GRP G t ce gN gr fr od kt) (R : RK3 G t ce gv M) (D : ∀ x, x < 320 → M.1 176 x = bI (dg (gr x))) (hi : thT G t i) (ki : knB G t ce i = true) (kh : knF G t ce i = i) : ∀ (fu x : Nat), x ≤ 8 * tn t → 320 < x + fu → ∃ b, L_X12_isKnotReady_2 M 137 (nI i) N fu (nI x) = some (bI b) ∧ (b = true ↔ ∀ x', x ≤ x' → gr x' = gr i → ∀ y, nrT G t ce x' y → dg (gr y) = true ∨ gr y = gr x')
  | 0, j, h1, h2 => by have := h.2.2.2.1; omega
  | fu + 1, x, h1, h2 => by
    have h40 := h.2.2.2.1
    have i320 := (th_320 h hi).2
    have ei : nI i = knI G t ce i := by unfold knI; rw [if_pos ki, kh]
    have i0 := (P.1 i).1 hi
    rw [L_X12_isKnotReady_2, R.1.2.1, pk_mul]
    simp only [n_le (show 8 * tn t < 2 ^ 31 by omega) (show x < 2 ^ 31 by omega)]
    by_cases e : 8 * tn t ≤ x
    · rw [if_pos e]
      exact ⟨true, okZ_1, ⟨fun _ y hy hg => by have := (th_320 h ((P.1 y).2 (by omega))).1; omega, fun _ => rfl⟩⟩
    · have x320 : x < 320 := by omega
      obtain ⟨b, ih1, ih2⟩ := loop_kready N hN hq h P R D hi ki kh fu (x + 1) (by omega) (by omega)
      rw [if_neg e, show (137 : Nat) + 37 = 174 from rfl, show (137 : Nat) + 30 = 167 from rfl, ldI_n x320 (by omega), (R.2.1 x x320).1, Option.bind_some, Option.bind_some, nI_add]
      simp only [bI_0]
      cases c : thB G t x
      · rw [if_pos rfl]
        refine ⟨b, ih1, ih2.trans (all_s fun z => ?_)⟩
        exact absurd ((P.1 x).2 (by omega)) (thB_f.1 c)
      · have tx := thB_t.1 c
        rw [if_neg (by decide), ldI_n x320 (by omega), R.2.2.2.2.1 x x320, Option.bind_some]
        have kq := P.kn hq h i320 ki x320
        rw [← ei] at kq
        simp only [kq]
        by_cases s : gr x = gr i
        · obtain ⟨b2, q1, q2⟩ := r_isReady N hN hq h P R D tx
          rw [if_pos s, q1, Option.bind_some]
          simp only [bI_0]
          cases b2
          · rw [if_pos rfl]
            exact ⟨false, okZ_0, bF rfl fun z => absurd (q2.2 (z x (Nat.le_refl _) s)) (by decide)⟩
          · rw [if_neg (by decide)]
            exact ⟨b, ih1, ih2.trans (all_s fun _ => q2.1 rfl)⟩
        · rw [if_neg s]
          exact ⟨b, ih1, ih2.trans (all_s fun z => absurd z s)⟩
theorem r_isKnotReady {i : Nat} {dg : Nat → Bool} {M : Mm} (N : Nat) (hN : 2000 < N) (hq : QG G) (h : TOK2 G t ce me) (P : GRP G t ce gN gr fr od kt) (R : RK3 G t ce gv M) (D : ∀ x, x < 320 → M.1 176 x = bI (dg (gr x))) (hi : thT G t i) (ki : knB G t ce i = true) (kh : knF G t ce i = i) : ∃ b, D_X12_isKnotReady N 137 (nI i) M = some (bI b) ∧ (b = true ↔ ∀ x, gr x = gr i → ∀ y, nrT G t ce x y → dg (gr y) = true ∨ gr y = gr x) := by
  obtain ⟨b, a1, a2⟩ := loop_kready N hN hq h P R D hi ki kh N 0 (Nat.zero_le _) (by omega)
  exact ⟨b, a1, a2.trans ⟨fun z y => z y (Nat.zero_le _), fun z y _ => z y⟩⟩
end tok
