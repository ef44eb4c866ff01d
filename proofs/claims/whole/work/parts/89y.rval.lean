-- the reference works out a tree
section tok
variable {G : Gr} {t : TR} {ce : Nat → Nat → Nat} {me : Nat → Nat}
variable {gN : Nat} {gr fr od : Nat → Nat} {kt : Nat → Bool}
variable {gv : Nat → Int32}
theorem loop_pass (N : Nat) (hN : 2000 < N) (hq : QG G) (h : TOK2 G t ce me) (P : GRP G t ce gN gr fr od kt) (kE : Int32 → Mm → Option Mm) : ∀ (fu i : Nat) (b : Bool) (dg : Nat → Bool) (M : Mm), i ≤ 8 * tn t → 320 < i + fu → RSI G t ce gv gr dg M → PAS G t ce gv gr kE (L_X12_settles_49 kE 137 N fu (bI b) (nI i) M) b dg M i
  | 0, i, _, _, M, h1, h2, _ => by have := h.2.2.2.1; omega
  | fu + 1, i, b, dg, M, h1, h2, S => by
    have h40 := h.2.2.2.1
    have R := S.1
    rw [L_X12_settles_49, R.1.2.1, pk_mul]
    simp only [n_le (show 8 * tn t < 2 ^ 31 by omega) (show i < 2 ^ 31 by omega)]
    by_cases e : 8 * tn t ≤ i
    · rw [if_pos e]
      exact ⟨b, dg, M, rfl, S, FX.refl, Nat.le_refl _, fun z => ⟨z, rfl, fun j hj hj' => by have := (th_320 h hj').1; omega⟩, fun z z' => by rw [z] at z'; exact absurd z' (by decide)⟩
    · have i320 : i < 320 := by omega
      have ih := fun b dg M => loop_pass N hN hq h P kE fu (i + 1) b dg M (by omega) (by omega)
      rw [if_neg e, show (137 : Nat) + 37 = 174 from rfl, show (137 : Nat) + 39 = 176 from rfl, show (137 : Nat) + 30 = 167 from rfl, show (137 : Nat) + 29 = 166 from rfl, show (137 : Nat) + 32 = 169 from rfl, ldI_n i320 (by omega), (R.2.1 i i320).1, Option.bind_some, nI_add]
      simp only [bI_0, Option.bind_some]
      cases c : thB G t i
      · rw [if_pos rfl]
        exact (ih b dg M S).skip fun z => absurd z (thB_f.1 c)
      · have hi := thB_t.1 c
        rw [if_neg (by decide), ldI_n i320 (by omega), S.2.1 i i320, Option.bind_some]
        simp only [bI_0]
        cases d : dg (gr i)
        · rw [if_pos rfl, ldI_n i320 (by omega), R.2.2.2.2.1 i i320, Option.bind_some]
          simp only [jn, Option.bind_some]
          by_cases k : knB G t ce i = true
          · have nk : ¬ knI G t ce i = m1 := fun z => by rw [knI_m1 i320, k] at z; exact absurd z (by decide)
            rw [if_neg nk, if_neg nk]
            simp only [knI_eq i320 (show i < 2 ^ 31 by omega)]
            by_cases kh : knF G t ce i = i
            · obtain ⟨b2, q1, q2⟩ := r_isKnotReady N hN hq h P R S.2.1 hi k kh
              rw [if_pos ⟨k, kh⟩, q1, Option.bind_some]
              simp only [bI_0]
              cases b2
              · rw [if_pos rfl]
                exact (ih b dg M S).skip fun _ _ _ z => absurd (q2.2 z) (by decide)
              · obtain ⟨M', M2, u1, ⟨M3, u2, u3⟩, u4, u5, u6⟩ := r_unit N hN hq h P S hi ((P.hd hq h hi k).1 kh) d (q2.1 rfl)
                rw [if_neg (show ¬ true = false by decide), u1, Option.bind_some, u2, Option.bind_some, u3, Option.bind_some]
                exact (ih true _ M' u4).step u6 u5
            · rw [if_neg (fun z => kh z.2)]
              exact (ih b dg M S).skip fun _ z => absurd ((P.hd hq h hi k).2 z) kh
          · have k' : knB G t ce i = false := by cases z : knB G t ce i <;> simp_all
            have nk : knI G t ce i = m1 := by rw [knI_m1 i320]; exact k'
            have own := fun x e => P.one hq h hi k' (x := x) e
            obtain ⟨b2, q1, q2⟩ := r_isReady N hN hq h P R S.2.1 hi
            rw [if_pos nk, q1, Option.bind_some, if_pos nk]
            simp only [bI_0]
            cases b2
            · rw [if_pos rfl]
              exact (ih b dg M S).skip fun _ _ _ z => absurd (q2.2 (z i rfl)) (by decide)
            · obtain ⟨M', M2, u1, ⟨M3, u2, u3⟩, u4, u5, u6⟩ := r_unit N hN hq h P S hi (fun x hx => by rw [own x hx]; exact Nat.le_refl _) d (fun x hx y hy => by
                have ex := own x hx
                subst ex
                exact q2.1 rfl y hy)
              rw [if_neg (show ¬ true = false by decide), u1, Option.bind_some, u2, Option.bind_some, u3, Option.bind_some]
              exact (ih true _ M' u4).step u6 u5
        · rw [if_neg (by decide)]
          exact (ih b dg M S).skip fun _ _ z => by rw [d] at z; exact absurd z (by decide)
theorem loop_passes (N : Nat) (hN : 2000 < N) (hq : QG G) (h : TOK2 G t ce me) (P : GRP G t ce gN gr fr od kt) : ∀ (fu : Nat) (b : Bool) (dg : Nat → Bool) (M : Mm), 1 ≤ fu → (b = true → 322 < cnt dg 321 + fu) → (b = false → ∀ j, NRy G t ce gr dg j) → RSI G t ce gv gr dg M → ∃ dg' M', L_X12_settles_41 137 N fu (bI b) M = some M' ∧ RSI G t ce gv gr dg' M' ∧ FX P69 M M' ∧ ∀ j, NRy G t ce gr dg' j
  | 0, _, _, _, h1, _, _, _ => by omega
  | fu + 1, b, dg, M, h1, h2, h3, S => by
    rw [L_X12_settles_41]
    simp only [bI_0]
    cases b
    · rw [if_pos rfl]
      exact ⟨dg, M, rfl, S, FX.refl, h3 rfl⟩
    · rw [if_neg (by decide)]
      obtain ⟨b', dg', M', a1, a2, a3, a4, a5, a6⟩ := loop_pass N hN hq h P (fun (l1_5 : Int32) (M16 : Mm) => (L_X12_settles_41 137 N fu l1_5 M16)) N 0 false dg M (Nat.zero_le _) (by omega) S
      have h2 := h2 rfl
      have cl := cnt_le dg 321
      have a1 : L_X12_settles_49 _ 137 N N (nI 0) (nI 0) M = _ := a1
      rw [a1]
      obtain ⟨dg2, M2, c1, c2, c3, c4⟩ := loop_passes N hN hq h P fu b' dg' M' (by omega) (fun z => by have := a6 rfl z; omega) (fun z j => by
        obtain ⟨_, z2, z3⟩ := a5 z
        rw [z2]; exact z3 j (Nat.zero_le _)) a2
      exact ⟨dg2, M2, c1, c2, a3.trans c3, c4⟩
/-- none ready, so all done -/
theorem all_done (hq : QG G) (h : TOK2 G t ce me) (P : GRP G t ce gN gr fr od kt) {dg : Nat → Bool} (nr : ∀ j, NRy G t ce gr dg j) : ∀ n i, gr i ≤ n → thT G t i → dg (gr i) = true
  | 0, i, h1, hi => by have := (P.1 i).1 hi; omega
  | n + 1, i, h1, hi => by
    cases d : dg (gr i)
    · have i320 := (th_320 h hi).2
      have lt : fb (fun x => decide (gr x = gr i)) 320 < 320 := fb_lt.2 ⟨i, i320, decide_eq_true rfl⟩
      have el : gr (fb (fun x => decide (gr x = gr i)) 320) = gr i := of_decide_eq_true (fb_hit (f := fun x => decide (gr x = gr i)) lt)
      have hl : thT G t (fb (fun x => decide (gr x = gr i)) 320) := (P.1 _).2 (by rw [el]; exact (P.1 i).1 hi)
      refine absurd (fun x hx y hy => ?_) (nr _ hl (fun x hx => ?_) (by rw [el]; exact d))
      · rw [el] at hx
        have tx : thT G t x := (P.1 x).2 (by rw [hx]; exact (P.1 i).1 hi)
        have le := P.2.2.1 x y tx hy
        by_cases c : gr y = gr x
        · exact Or.inr c
        · exact Or.inl (all_done hq h P nr n y (by omega) (nr_th hq h tx hy))
      · by_cases c : x < fb (fun x => decide (gr x = gr i)) 320
        · have := fb_below c
          rw [el] at hx
          rw [decide_eq_true hx] at this; exact absurd this (by decide)
        · omega
    · rfl
theorem loop_clr (kE : Mm → Option Mm) : ∀ (fu i : Nat) (M : Mm), i ≤ 320 → 320 < i + fu → (∀ j, j < i → M.1 176 j = nI 0) → ∃ M', L_X12_settles_14 kE 137 fu (nI i) M = kE M' ∧ (∀ j, j < 320 → M'.1 176 j = nI 0) ∧ FX (fun b _ => b = 176) M M'
  | 0, i, M, h1, h2, _ => by omega
  | fu + 1, i, M, h1, h2, h0 => by
    rw [L_X12_settles_14]
    simp only [n_le (show 320 < 2 ^ 31 by omega) (show i < 2 ^ 31 by omega)]
    by_cases e : 320 ≤ i
    · rw [if_pos e]; exact ⟨M, rfl, fun j hj => h0 j (by omega), FX.refl⟩
    · rw [if_neg e, show (137 : Nat) + 39 = 176 from rfl, stZ_0 (by omega) (by omega), Option.bind_some, Option.bind_some, nI_add]
      obtain ⟨M', a1, a2, a3⟩ := loop_clr kE fu (i + 1) (upI M 176 i (nI 0)) (by omega) (by omega) (fun j hj => by
        rw [upI_j]
        by_cases c : j = i
        · rw [if_pos c]
        · rw [if_neg c]; exact h0 j (by omega))
      exact ⟨M', a1, a2, (FX.I (P := fun b _ => b = 176) rfl).trans a3⟩
def Pst (b j : Nat) : Prop := 164 ≤ b ∧ b ≤ 180 ∧ ¬ b = 170 ∧ ¬ b = 171 ∧ ¬ b = 177 ∧ ¬ b = 178 ∧ ¬ b = 179 ∨ b = 137 ∧ j = 72
theorem r_settles {M : Mm} (N : Nat) (hN : 4000 < N) (hq : QG G) (h : TOK2 G t ce me) (P : GRP G t ce gN gr fr od kt) (R : RT1 G t M) (hg : ∀ a, a < 4 → M.1 163 a = gv a) : ∃ dg M', D_X12_settles N 137 M = some M' ∧ RSI G t ce gv gr dg M' ∧ (∀ i, thT G t i → dg (gr i) = true) ∧ FX Pst M M' := by
  unfold D_X12_settles
  obtain ⟨M1, a1, a2, a3⟩ := loop_bases N (by omega) h N 0 M (Nat.zero_le _) (by omega) R (fun i hi => by omega)
  have a1 : D_X12_laysBases N 137 M = some M1 := a1
  have R1 : RT1 G t M1 := R.fx a3 fun b j z => by unfold PBs at z; omega
  rw [a1, Option.bind_some]
  obtain ⟨M2, b1, b2, b3, b4⟩ := r_laysReach N hN h R1 a2
  have R2 : RT1 G t M2 := R1.fx b4 fun b j z => by unfold P23 at z; omega
  have B2 : RBs G t 320 M2 := a2.fx b4 fun j => by unfold P23; omega
  rw [b1, Option.bind_some]
  obtain ⟨M3, c1, c2, c3⟩ := loop_knots N (by omega) hq h N 0 M2 (Nat.zero_le _) (by omega) B2 b3 (fun j hj => by omega)
  have c1 : D_X12_laysKnots N 137 M2 = some M3 := c1
  rw [c1, Option.bind_some]
  have R3 : RT1 G t M3 := R2.fx c3 fun b j z => by unfold P167 at z; omega
  have B3 : RBs G t 320 M3 := B2.fx c3 fun j => by unfold P167; omega
  have K3 : RK3 G t ce gv M3 := ⟨R3, B3, b2.fx c3 fun j z => by unfold P167 at z; omega, b3.fx c3 fun j z => by unfold P167 at z; omega, c2, fun a ha => by
    rw [(c3.2 163 a (fun z => by unfold P167 at z; omega)).1, (b4.2 163 a (fun z => by unfold P23 at z; omega)).1, (a3.2 163 a (fun z => by unfold PBs at z; omega)).1]; exact hg a ha⟩
  obtain ⟨M4, d1, d2, d3⟩ := loop_clr (fun (M6 : Mm) => ((pI M6 137 72 (nI 0)).bind fun M7 => (L_X12_settles_41 137 N N (nI 1) M7))) N 0 M3 (Nat.zero_le _) (by omega) (fun j hj => by omega)
  rw [d1, pI_n, Option.bind_some]
  have f5 : FX P69 M3 (upI M4 137 72 (nI 0)) := (d3.mono fun b j z => by unfold P69; omega).trans (FX.I (by unfold P69; omega))
  have c0 : cnt (fun _ => false) 321 = 0 := by
    have := cnt_zero (f := fun _ => false) (n := 0) 321 (fun _ _ _ => rfl)
    rw [Nat.zero_add] at this; exact this
  have S5 : RSI G t ce gv gr (fun _ => false) (upI M4 137 72 (nI 0)) := ⟨K3.fx f5 fun b j z => z, fun x hx => by rw [upI_n (by decide)]; exact d2 x hx, rfl, ⟨fun _ => 0, by
    rw [c0]
    exact ⟨fun k hk => absurd hk (Nat.not_lt_zero _), fun k _ hk => absurd hk (Nat.not_lt_zero _), fun g hg => absurd (show false = true from hg) (by decide), fun k _ _ hk => absurd hk (Nat.not_lt_zero _)⟩, by rw [upI_j, if_pos rfl, c0], fun k hk => by rw [c0] at hk; omega⟩, fun i _ hd => absurd (show false = true from hd) (by decide)⟩
  obtain ⟨dg, M6, e1, e2, e3, e4⟩ := loop_passes N (by omega) hq h P N true (fun _ => false) (upI M4 137 72 (nI 0)) (by omega) (fun _ => by omega) (fun z => absurd z (by decide)) S5
  refine ⟨dg, M6, e1, e2, fun i hi => all_done hq h P e4 _ i (Nat.le_refl _) hi, ?_⟩
  exact ((((a3.mono fun b j z => by unfold PBs at z; unfold Pst; omega).trans (b4.mono fun b j z => by unfold P23 at z; unfold Pst; omega)).trans (c3.mono fun b j z => by unfold P167 at z; unfold Pst; omega)).trans (f5.mono fun b j z => by unfold P69 at z; unfold Pst; omega)).trans (e3.mono fun b j z => by unfold P69 at z; unfold Pst; omega)
end tok
