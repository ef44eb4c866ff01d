-- the reference grafts: who was in a knot with one that goes, who moves
theorem n_shift {e m s : Nat} (h : s ≤ e + m) : nI e + (nI m - nI s) = nI (e + m - s) := by
  rw [Int32.sub_eq_add_neg, ← Int32.add_assoc, nI_add, ← Int32.sub_eq_add_neg, n_sub h]
section tok
variable {G : Gr} {t : TR} {ce : Nat → Nat → Nat} {me : Nat → Nat}
variable {gN : Nat} {gr fr od : Nat → Nat} {kt : Nat → Bool} {k s : Nat}
theorem r_wasTied {i : Nat} {gv : Nat → Int32} {M : Mm} (N : Nat) (hN : 2000 < N) (hq : QG G) (h : TOK2 G t ce me) (P : GRP G t ce gN gr fr od kt) (R : RK3 G t ce gv M) (hk : k + s ≤ tn t) (hi : thT G t i) : D_X12_wasTied N 137 (nI i) (nI k) (nI s) M = some (bI (gnA G t gr kt k (8 * (k + s)) (gr i - 1))) := by
  have h40 := h.2.2.2.1
  obtain ⟨i8, i320⟩ := th_320 h hi
  have g0 := (P.1 i).1 hi
  have tie := P.tie hq h hi (show gr i = gr i - 1 + 1 by omega)
  unfold D_X12_wasTied
  rw [show (137 : Nat) + 30 = 167 from rfl, ldI_n i320 (by omega), R.2.2.2.2.1 i i320, Option.bind_some]
  simp only [knI_m1 i320]
  cases ki : knB G t ce i
  · rw [if_pos rfl, okZ_0]
    have : gnA G t gr kt k (8 * (k + s)) (gr i - 1) = false := by
      unfold gnA
      rw [← tie, ki, Bool.and_false]
    rw [this]; rfl
  · rw [if_neg (by decide), pk_mul, Option.bind_some]
    have key : ∀ fu x, 8 * k ≤ x → x ≤ 8 * (k + s) → 320 < x + fu → (∀ y, 8 * k ≤ y → y < x → thT G t y → ¬ gr y = gr i) → L_X12_wasTied_18 (nI k) (nI s) 137 M (nI i) fu (nI x) = some (bI (gnA G t gr kt k (8 * (k + s)) (gr i - 1))) := fun fu => by
      induction fu with
      | zero => intro x h0 h1 h2; omega
      | succ fu ih =>
        intro x h0 h1 h2 h3
        rw [L_X12_wasTied_18, nI_add, pk_mul]
        simp only [n_le (show 8 * (k + s) < 2 ^ 31 by omega) (show x < 2 ^ 31 by omega)]
        by_cases e : 8 * (k + s) ≤ x
        · rw [if_pos e, okZ_0]
          have : gnA G t gr kt k (8 * (k + s)) (gr i - 1) = false := by
            cases z : gnA G t gr kt k (8 * (k + s)) (gr i - 1)
            · rfl
            · obtain ⟨⟨y, y1, y2, y3, y4⟩, _⟩ := gnA_t.1 z
              exact absurd (by omega) (h3 y y2 (by omega) y3)
          rw [this]; rfl
        · have x320 : x < 320 := by omega
          rw [if_neg e, show (137 : Nat) + 37 = 174 from rfl, show (137 : Nat) + 30 = 167 from rfl, ldI_n x320 (by omega), (R.2.1 x x320).1, Option.bind_some]
          simp only [bI_0]
          cases tb : thB G t x
          · rw [if_pos rfl, Option.bind_some, nI_add]
            exact ih (x + 1) (by omega) (by omega) (by omega) fun y y1 y2 y3 => by
              by_cases z : y = x
              · rw [z] at y3; exact absurd y3 (thB_f.1 tb)
              · exact h3 y y1 (by omega) y3
          · rw [if_neg (by decide), ldI_n x320 (by omega), R.2.2.2.2.1 x x320, Option.bind_some, ldI_n i320 (by omega), R.2.2.2.2.1 i i320, Option.bind_some]
            simp only [P.kn hq h i320 ki x320]
            by_cases c : gr x = gr i
            · rw [if_pos c, okZ_1]
              have : gnA G t gr kt k (8 * (k + s)) (gr i - 1) = true := gnA_t.2 ⟨⟨x, by omega, h0, thB_t.1 tb, by omega⟩, by rw [← tie, ki]⟩
              rw [this]; rfl
            · rw [if_neg c, Option.bind_some, nI_add]
              exact ih (x + 1) (by omega) (by omega) (by omega) fun y y1 y2 y3 => by
                by_cases z : y = x
                · rw [z]; exact c
                · exact h3 y y1 (by omega) y3
    exact key N (8 * k) (Nat.le_refl _) (by omega) (by omega) fun y y1 y2 => by omega
theorem r_graftTied {gv : Nat → Int32} {dg : Nat → Bool} {M : Mm} (N : Nat) (hN : 2000 < N) (hq : QG G) (h : TOK2 G t ce me) (P : GRP G t ce gN gr fr od kt) (S : RSI G t ce gv gr dg M) (hk : k + s ≤ tn t) (kE : Mm → Option (Int32 × Mm)) : ∃ M', L_X12_graft_99 kE 137 N (nI k) (nI s) N (nI 0) M = kE M' ∧ (∀ i, i < 8 * tn t → M'.1 177 i = bI (thB G t i && gnA G t gr kt k (8 * (k + s)) (gr i - 1))) ∧ FX (fun b _ => b = 177) M M' := by
  have h40 := h.2.2.2.1
  have key : ∀ fu i M, i ≤ 8 * tn t → 320 < i + fu → RSI G t ce gv gr dg M → (∀ x, x < i → M.1 177 x = bI (thB G t x && gnA G t gr kt k (8 * (k + s)) (gr x - 1))) → ∃ M', L_X12_graft_99 kE 137 N (nI k) (nI s) fu (nI i) M = kE M' ∧ (∀ x, x < 8 * tn t → M'.1 177 x = bI (thB G t x && gnA G t gr kt k (8 * (k + s)) (gr x - 1))) ∧ FX (fun b _ => b = 177) M M' := fun fu => by
    induction fu with
    | zero => intro i M h1 h2; omega
    | succ fu ih =>
      intro i M h1 h2 S r
      rw [L_X12_graft_99, S.1.1.2.1, pk_mul]
      simp only [n_le (show 8 * tn t < 2 ^ 31 by omega) (show i < 2 ^ 31 by omega)]
      by_cases e : 8 * tn t ≤ i
      · rw [if_pos e]
        exact ⟨M, rfl, fun x hx => r x (by omega), FX.refl⟩
      · have i320 : i < 320 := by omega
        rw [if_neg e, show (137 : Nat) + 37 = 174 from rfl, show (137 : Nat) + 40 = 177 from rfl, ldI_n i320 (by omega), (S.1.2.1 i i320).1, Option.bind_some]
        simp only [jn, bI_0]
        have go : ∀ c : Bool, c = (thB G t i && gnA G t gr kt k (8 * (k + s)) (gr i - 1)) → ∃ M', L_X12_graft_99 kE 137 N (nI k) (nI s) fu (nI (i + 1)) (upI M 177 i (bI c)) = kE M' ∧ (∀ x, x < 8 * tn t → M'.1 177 x = bI (thB G t x && gnA G t gr kt k (8 * (k + s)) (gr x - 1))) ∧ FX (fun b _ => b = 177) M M' := fun c hc => by
          have f1 : FX (fun b _ => b = 177) M (upI M 177 i (bI c)) := FX.I rfl
          obtain ⟨M', b1, b2, b3⟩ := ih (i + 1) (upI M 177 i (bI c)) (by omega) (by omega) (S.fx f1 fun b j z => by omega) fun x hxi => by
            rw [upI_j]
            by_cases z : x = i
            · rw [if_pos z, z, hc]
            · rw [if_neg z]; exact r x (by omega)
          exact ⟨M', b1, b2, f1.trans b3⟩
        cases tb : thB G t i
        · rw [if_pos rfl, stZ_0 i320 (by omega), Option.bind_some, Option.bind_some, nI_add]
          exact go false (by rw [tb]; rfl)
        · have ti := thB_t.1 tb
          rw [if_neg (by decide), r_wasTied N hN hq h P S.1 hk ti, Option.bind_some]
          simp only [bI_0]
          cases c : gnA G t gr kt k (8 * (k + s)) (gr i - 1)
          · rw [if_pos rfl, stZ_0 i320 (by omega), Option.bind_some, Option.bind_some, nI_add]
            exact go false (by rw [tb, c]; rfl)
          · rw [if_neg (by decide), stZ_1 i320 (by omega), Option.bind_some, Option.bind_some, nI_add]
            exact go true (by rw [tb, c]; rfl)
  exact key N 0 M (by omega) (by omega) S fun x hx => by omega
end tok
/-- rows of nodes at a place, and of their instances -/
def PMv (lo hi b j : Nat) : Prop := 157 ≤ b ∧ b ≤ 159 ∧ lo ≤ j ∧ j < hi ∨ (b = 170 ∨ b = 177 ∨ b = 178) ∧ 8 * lo ≤ j ∧ j < 8 * hi
def PMi (lo hi b j : Nat) : Prop := (b = 170 ∨ b = 177 ∨ b = 178) ∧ 8 * lo ≤ j ∧ j < 8 * hi
theorem mv_inst {e m s : Nat} (hs : s ≤ e + m) (ne : ¬ m = s) (he : e < 40) (he' : e + m - s < 40) (kE : Mm → Option Mm) (M0 : Mm) (h177 : ∀ x, x < 8 → ∃ c, M0.1 177 (8 * e + x) = bI c) : ∀ (fu a : Nat) (M : Mm), a ≤ 8 → 8 < a + fu → FX (PMi (e + m - s) (e + m - s + 1)) M0 M → (∀ x, x < a → M.1 170 (8 * (e + m - s) + x) = M0.1 170 (8 * e + x) ∧ M.1 177 (8 * (e + m - s) + x) = M0.1 177 (8 * e + x) ∧ M.1 178 (8 * (e + m - s) + x) = nI 0) → ∃ M', L_X12_movesBehind_119 kE 137 (nI e) (nI m - nI s) fu (nI a) M = kE M' ∧ (∀ x, x < 8 → M'.1 170 (8 * (e + m - s) + x) = M0.1 170 (8 * e + x) ∧ M'.1 177 (8 * (e + m - s) + x) = M0.1 177 (8 * e + x) ∧ M'.1 178 (8 * (e + m - s) + x) = nI 0) ∧ FX (PMi (e + m - s) (e + m - s + 1)) M0 M'
  | 0, a, M, h1, h2, _, _ => by omega
  | fu + 1, a, M, h1, h2, f, r => by
    rw [L_X12_movesBehind_119]
    simp only [n_le (show 8 < 2 ^ 31 by decide) (show a < 2 ^ 31 by omega)]
    by_cases c : 8 ≤ a
    · rw [if_pos c]; exact ⟨M, rfl, fun x hx => r x (by omega), f⟩
    · have o : ∀ b, (b = 170 ∨ b = 177) → M.1 b (8 * e + a) = M0.1 b (8 * e + a) := fun b hb => (f.2 b (8 * e + a) (fun z => by unfold PMi at z; omega)).1
      rw [if_neg c, n_shift hs, pk_mul, nI_add, pk_mul, nI_add, show (137 : Nat) + 33 = 170 from rfl, show (137 : Nat) + 40 = 177 from rfl, show (137 : Nat) + 41 = 178 from rfl, ldI_n (by omega) (by omega), o 170 (by omega), Option.bind_some, stI_n (by omega) (by omega), Option.bind_some, ldI_n (by omega) (by omega), upI_n (by decide), o 177 (by omega), Option.bind_some]
      have st : ∀ M1 : Mm, stZ 320 177 (nI (8 * (e + m - s) + a)) (M0.1 177 (8 * e + a)) M1 = some (upI M1 177 (8 * (e + m - s) + a) (M0.1 177 (8 * e + a))) := fun M1 => by
        obtain ⟨b, hb⟩ := h177 a (by omega)
        rw [hb]; exact stZ_n (by omega) (by omega)
      rw [st, Option.bind_some, stZ_0 (by omega) (by omega), Option.bind_some, Option.bind_some, nI_add]
      refine mv_inst hs ne he he' kE M0 h177 fu (a + 1) _ (by omega) (by omega) (((f.trans (FX.I (by unfold PMi; omega))).trans (FX.I (by unfold PMi; omega))).trans (FX.I (by unfold PMi; omega))) fun x hx => ?_
      rw [upI_n (by decide), upI_n (by decide), upI_j, upI_n (by decide), upI_j, upI_n (by decide), upI_j, upI_n (by decide), upI_n (by decide)]
      by_cases z : x = a
      · subst z
        rw [if_pos rfl, if_pos rfl, if_pos rfl]; exact ⟨rfl, rfl, rfl⟩
      · rw [if_neg (by omega), if_neg (by omega), if_neg (by omega)]
        exact r x (by omega)
/-- what a node that moves takes with it -/
def MVe (k s m : Nat) (t : TR) (M0 M : Mm) (e : Nat) : Prop := M.1 157 (e + m - s) = M0.1 157 e ∧ M.1 158 (e + m - s) = M0.1 158 e ∧ M.1 159 (e + m - s) = nP (gfP k s m (tu t e)) ∧ ∀ x, x < 8 → M.1 170 (8 * (e + m - s) + x) = M0.1 170 (8 * e + x) ∧ M.1 177 (8 * (e + m - s) + x) = M0.1 177 (8 * e + x) ∧ M.1 178 (8 * (e + m - s) + x) = nI 0
theorem MVe.fx {k s m : Nat} {t : TR} {M0 M M' : Mm} {e lo hi : Nat} (h : MVe k s m t M0 M e) (f : FX (PMv lo hi) M M') (hl : e + m - s < lo ∨ hi ≤ e + m - s) : MVe k s m t M0 M' e := by
  obtain ⟨h1, h2, h3, h4⟩ := h
  refine ⟨?_, ?_, ?_, fun x hx => ?_⟩
  · rw [(f.2 157 _ (by unfold PMv; omega)).1]; exact h1
  · rw [(f.2 158 _ (by unfold PMv; omega)).1]; exact h2
  · rw [(f.2 159 _ (by unfold PMv; omega)).1]; exact h3
  · rw [(f.2 170 _ (by unfold PMv; omega)).1, (f.2 177 _ (by unfold PMv; omega)).1, (f.2 178 _ (by unfold PMv; omega)).1]; exact h4 x hx
section tok
variable {G : Gr} {t : TR} {ce : Nat → Nat → Nat} {me : Nat → Nat} {k s m : Nat}
/-- one node moves -/
theorem mv_one {e : Nat} {M : Mm} {t1 : Int32} (N fu : Nat) (hN : 2000 < N) (hq : QG G) (h : TOK G t ce me) (hk : k < tn t) (hs : me k = k + s) (hm : 1 ≤ m) (h40 : tn t ≤ 40) (h40' : tn t + m - s ≤ 40) (ne : ¬ m = s) (he : k + s ≤ e) (he2 : e < tn t) (h50 : M.1 137 50 = nI (tn t)) (h159 : M.1 159 e = nP (tu t e)) (h177 : ∀ x, x < 8 → ∃ c, M.1 177 (8 * e + x) = bI c) : ∃ M', L_X12_movesBehind_26 (nI m - nI s) (nI (k + s)) 137 t1 N (fu + 1) (nI e) M = L_X12_movesBehind_26 (nI m - nI s) (nI (k + s)) 137 t1 N fu (nI e + t1) M' ∧ MVe k s m t M M' e ∧ FX (PMv (e + m - s) (e + m - s + 1)) M M' := by
  have l := h.lt hq hk
  have n4 := (h.2.1 k hk).2.2.2.1
  obtain ⟨b1, b2, _⟩ := h.2.2 e (by omega) he2
  have p2 := h.par2 hq hk hs he he2
  have nz : ¬ (nI m - nI s = nI 0) := fun z => by
    have : nI s + (nI m - nI s) = nI s + nI 0 := by rw [z]
    rw [n_shift (by omega), nI_add, n_eq (by omega) (by omega)] at this
    omega
  rw [L_X12_movesBehind_26, if_neg nz, h50]
  simp only [n_lt (show e < 2 ^ 31 by omega) (show k + s < 2 ^ 31 by omega), n_le (show tn t < 2 ^ 31 by omega) (show e < 2 ^ 31 by omega)]
  rw [if_neg (by omega), if_neg (by omega), show (137 : Nat) + 20 = 157 from rfl, show (137 : Nat) + 21 = 158 from rfl, show (137 : Nat) + 22 = 159 from rfl, n_shift (show s ≤ e + m by omega), ldI_n (by omega) (by omega), Option.bind_some, stI_n (by omega) (by omega), Option.bind_some, ldI_n (by omega) (by omega), upI_n (by decide), Option.bind_some, stI_n (by omega) (by omega), Option.bind_some, ldI_n (by omega) (by omega), upI_n (by decide), upI_n (by decide), h159, Option.bind_some, Option.bind_some, Option.bind_some]
  have p115 : (if nP (tu t e) < nI (k + s) then (some (nP (tu t e))) else (some (nP (tu t e) + (nI m - nI s))) : Option Int32) = some (nP (gfP k s m (tu t e))) := by
    rw [nP_s b1]
    simp only [n_lt (show tu t e - 1 < 2 ^ 31 by omega) (show k + s < 2 ^ 31 by omega)]
    rcases p2 with p2 | p2
    · rw [if_pos (by omega), gfP_0 p2, nP_s b1]
    · rw [if_neg (by omega), gfP_1 (by omega) (by omega), nP_s (u := tu t e + m - s) (by omega), n_shift (by omega)]
      congr 2
      omega
  rw [p115, Option.bind_some, stI_n (by omega) (by omega), Option.bind_some]
  have f1 : FX (PMv (e + m - s) (e + m - s + 1)) M (upI (upI (upI M 157 (e + m - s) (M.1 157 e)) 158 (e + m - s) (M.1 158 e)) 159 (e + m - s) (nP (gfP k s m (tu t e)))) := ((FX.I (by unfold PMv; omega)).trans (FX.I (by unfold PMv; omega))).trans (FX.I (by unfold PMv; omega))
  obtain ⟨M2, a1, a2, a3⟩ := mv_inst (e := e) (m := m) (s := s) (by omega) ne (by omega) (by omega) (fun (M9 : Mm) => ((some ((nI e + t1))).bind fun l4_2 => (L_X12_movesBehind_26 (nI m - nI s) (nI (k + s)) 137 t1 N fu l4_2 M9))) (upI (upI (upI M 157 (e + m - s) (M.1 157 e)) 158 (e + m - s) (M.1 158 e)) 159 (e + m - s) (nP (gfP k s m (tu t e)))) (fun x hx => by rw [upI_n (by decide), upI_n (by decide), upI_n (by decide)]; exact h177 x hx) N 0 _ (by omega) (by omega) FX.refl (fun x hx => by omega)
  refine ⟨M2, by rw [a1]; rfl, ⟨?_, ?_, ?_, fun x hx => ?_⟩, f1.trans (a3.mono fun b j z => Or.inr z)⟩
  · rw [(a3.2 157 _ (by unfold PMi; omega)).1, upI_n (by decide), upI_n (by decide), upI_s]
  · rw [(a3.2 158 _ (by unfold PMi; omega)).1, upI_n (by decide), upI_s]
  · rw [(a3.2 159 _ (by unfold PMi; omega)).1, upI_s]
  · obtain ⟨c1, c2, c3⟩ := a2 x hx
    rw [upI_n (by decide), upI_n (by decide), upI_n (by decide)] at c1 c2
    exact ⟨c1, c2, c3⟩
end tok
