-- the class links a tree: sizes and places
def nkT (G : Gr) (t : TR) (ce : Nat → Nat → Nat) (x i : Nat) : Nat := ce x (1 + fb (fun j => decide (i ≤ ce x (j + 1))) (G.i 6 (tp t x) - 1))
theorem nk_stay {G : Gr} {t : TR} {ce : Nat → Nat → Nat} {x k : Nat} (h : ∀ j, 1 ≤ j → j < G.i 6 (tp t x) → ¬ ce x j = k) : nkT G t ce x k = nkT G t ce x (k + 1) := by
  unfold nkT
  rw [fb_congr (f := fun j => decide (k ≤ ce x (j + 1))) (g := fun j => decide (k + 1 ≤ ce x (j + 1))) fun j hj => by
    have := h (j + 1) (by omega) (by omega)
    by_cases z : k ≤ ce x (j + 1)
    · rw [decide_eq_true z, decide_eq_true (by omega)]
    · rw [decide_eq_false z, decide_eq_false (by omega)]]
section tok
variable {G : Gr} {t : TR} {ce : Nat → Nat → Nat} {me : Nat → Nat}
theorem nk_at (h : TOK G t ce me) {x j : Nat} (hx : x < tn t) (j1 : 1 ≤ j) (j2 : j < G.i 6 (tp t x)) : nkT G t ce x (ce x j) = ce x j ∧ nkT G t ce x (ce x j + 1) = ce x (j + 1) := by
  obtain ⟨a1, a2, a3, a4, a5⟩ := h.2.1 x hx
  have mono : ∀ k' , 1 ≤ k' → k' < G.i 6 (tp t x) → ce x k' < ce x (k' + 1) := fun k' x y => (a5 k' x y).1
  unfold nkT
  have e1 : fb (fun i => decide (ce x j ≤ ce x (i + 1))) (G.i 6 (tp t x) - 1) = j - 1 := fb_eq (by omega) (fun i hi => decide_eq_false (by have := chn_lts mono (show 1 ≤ i + 1 by omega) (show i + 1 < j by omega) (by omega); omega)) (Or.inr (decide_eq_true (by rw [Nat.sub_add_cancel j1]; exact Nat.le_refl _)))
  have e2 : fb (fun i => decide (ce x j + 1 ≤ ce x (i + 1))) (G.i 6 (tp t x) - 1) = j := by
    refine fb_eq (by omega) (fun i hi => decide_eq_false (by have := chn_le mono (show 1 ≤ i + 1 by omega) (show i + 1 ≤ j by omega) (by omega); omega)) ?_
    by_cases z : j = G.i 6 (tp t x) - 1
    · exact Or.inl z
    · have := mono j j1 j2
      exact Or.inr (decide_eq_true (by omega))
  rw [e1, e2, show 1 + (j - 1) = j by omega, Nat.add_comm 1 j]
  exact ⟨rfl, rfl⟩
theorem nk_0 (h : TOK G t ce me) (hq : QG G) {x i : Nat} (hx : x < tn t) (hi : i ≤ x + 1) : nkT G t ce x i = x + 1 := by
  obtain ⟨a1, a2, a3, a4, a5⟩ := h.2.1 x hx
  have hsd := hq.sd a1
  unfold nkT
  have e1 : fb (fun j => decide (i ≤ ce x (j + 1))) (G.i 6 (tp t x) - 1) = 0 := by
    refine fb_eq (Nat.zero_le _) (fun j hj => absurd hj (Nat.not_lt_zero _)) ?_
    by_cases z : G.i 6 (tp t x) = 1
    · exact Or.inl (by omega)
    · exact Or.inr (decide_eq_true (by rw [Nat.zero_add, a2]; exact hi))
  rw [e1, Nat.add_zero, a2]
theorem nk_n (h : TOK G t ce me) (hq : QG G) {x : Nat} (hx : x < tn t) : nkT G t ce x (tn t) = me x := by
  obtain ⟨a1, a2, a3, a4, a5⟩ := h.2.1 x hx
  have hsd := hq.sd a1
  unfold nkT
  rw [fb_eq (n := G.i 6 (tp t x) - 1) (i := G.i 6 (tp t x) - 1) (Nat.le_refl _) (fun j hj => decide_eq_false (by
    have := (h.kid hx (show 1 ≤ j + 1 by omega) (show j + 1 < G.i 6 (tp t x) by omega)).2.1
    omega)) (Or.inl rfl), show 1 + (G.i 6 (tp t x) - 1) = G.i 6 (tp t x) by omega, a3]
/-- what holds when the nodes from i on are linked -/
def LKi (w : Nat) (G : Gr) (t : TR) (ce : Nat → Nat → Nat) (me : Nat → Nat) (i : Nat) (M : Mm) : Prop :=
  (∀ k, k < tn t → (i ≤ k → M.1 (w + 11) (4 * k) = nI k) ∧ ∀ j, 1 ≤ j → j < G.i 6 (tp t k) → i ≤ ce k j → M.1 (w + 11) (4 * k + j) = nI (ce k j)) ∧
  (∀ x, x < tn t → M.1 (w + 6) x = nI (1 + me x - nkT G t ce x i)) ∧
  ∀ i', 8 * i ≤ i' → i' < 8 * tn t → LI1 w G t i' M
def PLk (w b _j : Nat) : Prop := b = w + 6 ∨ b = w + 11 ∨ b = w + 13 ∨ b = w + 14 ∨ b = w + 15
theorem nP_0 {i : Nat} (h : i < 2 ^ 31) : (nP i < nI 0) = (i = 0) := by
  unfold nP
  by_cases z : i = 0
  · rw [if_pos z, m1_lt_0]; exact propext ⟨fun _ => z, fun _ => trivial⟩
  · rw [if_neg z, n_lt (by omega) (by omega)]; exact propext ⟨fun y => by omega, fun y => absurd y z⟩
theorem loop_link {w g : Nat} (N : Nat) (hN : 2000 < N) (hq : QG G) (hg : g = 35 ∨ g = 52) (hw : w = 69 ∨ w = 87) (h : TOK2 G t ce me) : ∀ (fu i : Nat) (M : Mm), i ≤ tn t → i < fu → CG g G M → CT w G t M → LKi w G t ce me i M → ∃ M', L_X8_link_15 w N g fu (nP i) M = some M' ∧ LKi w G t ce me 0 M' ∧ FX (PLk w) M M'
  | 0, i, M, h1, h2, _, _, _ => by omega
  | fu + 1, 0, M, h1, h2, K, C, L => by
    rw [L_X8_link_15, if_pos (show nP 0 < nI 0 by rw [nP_0 (by omega)])]
    exact ⟨M, rfl, L, FX.refl⟩
  | fu + 1, k + 1, M, h1, h2, K, C, L => by
    have h40 := h.2.2.2.1
    have hk : k < tn t := by omega
    have cn := C.2 k hk
    have mk := h.1.lt hq hk
    have mk2 := (h.1.2.1 k hk).2.2.2.1
    have fin : ∀ M1, FX (fun b j => b = w + 6 ∨ b = w + 11) M M1 → (∀ k', k' < tn t → (k ≤ k' → M1.1 (w + 11) (4 * k') = nI k') ∧ ∀ j, 1 ≤ j → j < G.i 6 (tp t k') → k ≤ ce k' j → M1.1 (w + 11) (4 * k' + j) = nI (ce k' j)) → (∀ x, x < tn t → M1.1 (w + 6) x = nI (1 + me x - nkT G t ce x k)) → ∃ M', ((D_X8_linkInstances N w g (nI k) M1).bind fun M4 => (some (nI k + m1)).bind fun l2_3 => (L_X8_link_15 w N g fu l2_3 M4)) = some M' ∧ LKi w G t ce me 0 M' ∧ FX (PLk w) M M' := fun M1 f1 p1 s1 => by
      have C1 : CT w G t M1 := C.fx f1 fun k' j a1 a2 z => by omega
      have K1 : CG g G M1 := K.fx f1 fun k' hk' j z => by omega
      obtain ⟨M2, a1, a2, a3⟩ := loop_linkI N hq hg hw h hk N 0 M1 (by omega) (by omega) K1 C1 (fun b hb => absurd hb (Nat.not_lt_zero _))
      have C2 : CT w G t M2 := C1.fx a3 fun k' j a1 a2 z => by unfold PLi at z; omega
      have K2 : CG g G M2 := K1.fx a3 fun k' hk' j z => by unfold PLi at z; omega
      have e2 : nI k + m1 = nP k := by
        by_cases z : k = 0
        · subst z; rfl
        · rw [n_m1 (by omega), nP_s (by omega)]
      have D : D_X8_linkInstances N w g (nI k) M1 = some M2 := a1
      rw [D, Option.bind_some, Option.bind_some, e2]
      obtain ⟨M3, b1, b2, b3⟩ := loop_link N hN hq hg hw h fu k M2 (by omega) (by omega) K2 C2 ⟨fun k' hk' => ⟨fun z => by rw [(a3.2 _ _ (fun y => by unfold PLi at y; omega)).1]; exact (p1 k' hk').1 z, fun j j1 j2 j3 => by rw [(a3.2 _ _ (fun y => by unfold PLi at y; omega)).1]; exact (p1 k' hk').2 j j1 j2 j3⟩, fun x hx => by rw [(a3.2 _ _ (fun y => by unfold PLi at y; omega)).1]; exact s1 x hx, fun i' i1 i2 => by
        by_cases z : i' < 8 * k + 8
        · have := a2 (i' - 8 * k) (by omega)
          rwa [show 8 * k + (i' - 8 * k) = i' by omega] at this
        · obtain ⟨q1, q2, q3⟩ := L.2.2 i' (by omega) i2
          have g1 : ∀ b, b = w + 13 ∨ b = w + 14 ∨ b = w + 15 → M2.1 b i' = M.1 b i' := fun b hb => ((a3.2 b i' (fun y => by omega)).1).trans (f1.2 b i' (fun y => by omega)).1
          exact ⟨(g1 _ (Or.inl rfl)).trans q1, (g1 _ (Or.inr (Or.inl rfl))).trans q2, (g1 _ (Or.inr (Or.inr rfl))).trans q3⟩⟩
      exact ⟨M3, b1, b2, ((f1.mono fun b j z => by unfold PLk; omega).trans (a3.mono fun b j z => by unfold PLi at z; unfold PLk; omega)).trans b3⟩
    rw [L_X8_link_15]
    rw [if_neg (show ¬ nP (k + 1) < nI 0 by rw [nP_0 (by omega)]; omega), nP_s (by omega), Nat.add_sub_cancel, pk_mul, stI_n (by omega) (by omega), Option.bind_some]
    have f0 : FX (fun b j => b = w + 6 ∨ b = w + 11) M (upI M (w + 11) (4 * k) (nI k)) := FX.I (Or.inr rfl)
    have C0 : CT w G t (upI M (w + 11) (4 * k) (nI k)) := C.fx f0 fun k' j a1 a2 z => by omega
    have cn0 := C0.2 k hk
    rw [ldI_n (by omega) (by omega), cn0.2.2.1, Option.bind_some]
    by_cases k0 : k = 0
    · subst k0
      rw [h.1.1.2.1, show nP 0 = m1 from rfl, if_pos rfl]
      refine fin _ f0 (fun k' hk' => ⟨fun z => ?_, fun j j1 j2 j3 => ?_⟩) (fun x hx => ?_)
      · rw [upI_j]
        by_cases y : k' = 0
        · rw [if_pos (by omega), y]
        · rw [if_neg (by omega)]; exact (L.1 k' hk').1 (by omega)
      · have := h.1.kid hk' j1 j2
        have hsd := hq.sd (h.1.2.1 k' hk').1
        rw [upI_j, if_neg (by omega)]; exact (L.1 k' hk').2 j j1 j2 (by omega)
      · rw [upI_n (by omega), L.2.1 x hx, nk_stay (k := 0) fun j j1 j2 => by have := h.1.kid hx j1 j2; omega]
    · obtain ⟨b1, b2, b3, b4, b5⟩ := h.1.2.2 k (by omega) hk
      have hx : tu t k - 1 < tn t := by omega
      have px := h.1.2.1 (tu t k - 1) hx
      have hsd := hq.sd px.1
      have mek : me k = ce (tu t k - 1) (tq t k + 1) := by
        have := (px.2.2.2.2 (tq t k) b3 b4).2.2.2.2.2
        rwa [← b5] at this
      have le := h.1.nest hq _ (tu t k - 1) k (Nat.le_refl _) hx (by omega) (by have := (h.1.kid hx b3 b4).2.2; rw [← b5] at this; exact this)
      obtain ⟨n1, n2⟩ := nk_at h.1 hx b3 b4
      rw [← b5] at n1 n2
      have f1 : FX (fun b j => b = w + 6 ∨ b = w + 11) (upI M (w + 11) (4 * k) (nI k)) (upI (upI M (w + 11) (4 * k) (nI k)) (w + 11) (4 * (tu t k - 1) + tq t k) (nI k)) := FX.I (Or.inr rfl)
      have F1 := f0.trans f1
      have C1 : CT w G t (upI (upI M (w + 11) (4 * k) (nI k)) (w + 11) (4 * (tu t k - 1) + tq t k) (nI k)) := C.fx F1 fun k' j a1 a2 z => by omega
      have cn1 := C1.2 k hk
      rw [nP_s b1, if_neg (n_ne_m1 (by omega)), Option.bind_some, ldI_n (k := k) (by omega) (by omega), cn0.2.2.2.1, Option.bind_some, pk_mul, nI_add, stI_n (by omega) (by omega), Option.bind_some, ldI_n (k := k) (by omega) (by omega), cn1.2.2.1, Option.bind_some, nP_s b1, ldI_n (k := tu t k - 1) (by omega) (by omega), upI_n (by omega), upI_n (by omega), L.2.1 _ hx, Option.bind_some, ldI_n (k := k) (by omega) (by omega), upI_n (by omega), upI_n (by omega), L.2.1 k hk, Option.bind_some, nI_add, stI_n (by omega) (by omega), Option.bind_some, n2, ← mek, nk_0 h.1 hq hk (Nat.le_refl _)]
      refine fin _ (F1.trans (FX.I (Or.inl rfl))) (fun k' hk' => ⟨fun z => ?_, fun j j1 j2 j3 => ?_⟩) (fun x hx' => ?_)
      · have hsd' := hq.sd (h.1.2.1 k' hk').1
        rw [upI_n (by omega), upI_j, if_neg (by omega), upI_j]
        by_cases y : k' = k
        · rw [if_pos (by omega), y]
        · rw [if_neg (by omega)]; exact (L.1 k' hk').1 (by omega)
      · have hsd' := hq.sd (h.1.2.1 k' hk').1
        have kd := h.1.kid hk' j1 j2
        rw [upI_n (by omega), upI_j]
        by_cases y : 4 * k' + j = 4 * (tu t k - 1) + tq t k
        · have y1 : k' = tu t k - 1 := by omega
          have y2 : j = tq t k := by omega
          rw [if_pos y, y1, y2, ← b5]
        · rw [if_neg y, upI_j, if_neg (by omega)]
          refine (L.1 k' hk').2 j j1 j2 ?_
          by_cases w' : ce k' j = k
          · have c1 := ((h.1.2.1 k' hk').2.2.2.2 j j1 j2).2.1
            have c2 := ((h.1.2.1 k' hk').2.2.2.2 j j1 j2).2.2.1
            rw [w'] at c1 c2
            exact absurd (by rw [c1, c2]; omega) y
          · omega
      · rw [upI_j]
        by_cases y : x = tu t k - 1
        · rw [if_pos y, y, n1]
          congr 1; omega
        · rw [if_neg y, upI_n (by omega), upI_n (by omega), L.2.1 x hx', nk_stay (k := k) fun j j1 j2 w' => by
            have c1 := ((h.1.2.1 x hx').2.2.2.2 j j1 j2).2.1
            rw [w'] at c1; omega]
/-- a linked tree -/
def CLk (w : Nat) (G : Gr) (t : TR) (ce : Nat → Nat → Nat) (me : Nat → Nat) (M : Mm) : Prop :=
  (∀ k, k < tn t → M.1 (w + 11) (4 * k) = nI k ∧ ∀ j, 1 ≤ j → j < G.i 6 (tp t k) → M.1 (w + 11) (4 * k + j) = nI (ce k j)) ∧
  (∀ x, x < tn t → M.1 (w + 6) x = nI (me x - x)) ∧ ∀ i, i < 8 * tn t → LI1 w G t i M
theorem s_link {w g : Nat} {M : Mm} (N : Nat) (hN : 2000 < N) (hq : QG G) (hg : g = 35 ∨ g = 52) (hw : w = 69 ∨ w = 87) (h : TOK2 G t ce me) (K : CG g G M) (C : CT w G t M) : ∃ M', D_X8_link N w g M = some M' ∧ CT w G t M' ∧ CLk w G t ce me M' ∧ FX (PLk w) M M' := by
  have h40 := h.2.2.2.1
  have hn := h.1.1.1
  have l6 : len (w + 6) = 40 := by rcases hw with e | e <;> subst e <;> rfl
  unfold D_X8_link
  rw [fill_n N (w + 6) (nI 1) M l6 (by omega) (by omega), Option.bind_some]
  have f1 : FX (PLk w) M (upR M.1 (w + 6) (fun j => if j < 40 then nI 1 else M.1 (w + 6) j), M.2) := ⟨rfl, fun b j q => ⟨by rw [mR1, if_neg (fun z => q (Or.inl z))], rfl⟩⟩
  have s1 : ∀ x, x < tn t → (upR M.1 (w + 6) (fun j => if j < 40 then nI 1 else M.1 (w + 6) j)) (w + 6) x = nI 1 := fun x hx => by
    show ((upR M.1 (w + 6) (fun j => if j < 40 then nI 1 else M.1 (w + 6) j), M.2) : Mm).1 (w + 6) x = nI 1
    rw [mR1, if_pos rfl, if_pos (by omega)]
  have C1 : CT w G t (upR M.1 (w + 6) (fun j => if j < 40 then nI 1 else M.1 (w + 6) j), M.2) := C.fx f1 fun k' j a1 a2 z => by unfold PLk at z; omega
  have K1 : CG g G (upR M.1 (w + 6) (fun j => if j < 40 then nI 1 else M.1 (w + 6) j), M.2) := K.fx f1 fun k' hk' j z => by unfold PLk at z; omega
  rw [C1.1, n_sub hn, Option.bind_some, ← nP_s hn]
  obtain ⟨M', a1, a2, a3⟩ := loop_link N hN hq hg hw h N (tn t) _ (Nat.le_refl _) (by omega) K1 C1 ⟨fun k hk => ⟨fun z => by omega, fun j j1 j2 j3 => by have := h.1.kid hk j1 j2; omega⟩, fun x hx => (s1 x hx).trans (by
    rw [nk_n h.1 hq hx]; congr 1; omega), fun i' i1 i2 => by omega⟩
  refine ⟨M', a1, C1.fx a3 fun k' j a1 a2 z => by unfold PLk at z; omega, ⟨fun k hk => ⟨(a2.1 k hk).1 (Nat.zero_le _), fun j j1 j2 => (a2.1 k hk).2 j j1 j2 (Nat.zero_le _)⟩, fun x hx => ?_, fun i hi => a2.2.2 i (Nat.zero_le _) hi⟩, f1.trans a3⟩
  rw [a2.2.1 x hx, nk_0 h.1 hq hx (Nat.zero_le _)]
  congr 1; omega
end tok
