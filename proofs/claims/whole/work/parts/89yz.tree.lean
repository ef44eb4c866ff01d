-- both sides answer: tree
theorem FX.fr {S : Nat → Prop} {M M' : Mm} (h : FX (fun b _ => S b) M M') : Fr S M M' := fun a ha => ⟨funext fun j => (h.2 a j ha).1, funext fun j => (h.2 a j ha).2, by rw [h.1]⟩
theorem holds_out {x : Int32} {n : Nat} {M : Mm} (N : Nat) (h : M.1 2 6 = nI n) (o : OUT x n) : D_X7_holds N 2 x M = some (nI 0) := by
  unfold D_X7_holds
  simp only [jn, okZ_0]
  rw [h]
  rcases o with o | ⟨o1, o2, o3⟩
  · rw [if_pos o]
  · rw [if_neg o1, if_pos o2]
theorem holds_in {k n : Nat} {M : Mm} (N : Nat) (h : M.1 2 6 = nI n) (hk : k ≤ n) (hn : n < 2 ^ 31) : D_X7_holds N 2 (nI k) M = some (nI 1) := by
  unfold D_X7_holds
  simp only [jn, okZ_1]
  rw [h, if_neg (by rw [n_lt (by omega) (by decide)]; omega), if_neg (by rw [n_lt hn (by omega)]; omega)]
theorem s_keepFault (N : Nat) (b : Bool) (M : Mm) : ∃ M', D_X11_keepFault N 1 (bI b) M = some M' ∧ M'.1 1 1 = (if b = true then nI 0 else M.1 2 9) ∧ M'.1 1 2 = (if b = true then m1 else M.1 2 10) ∧ FX (fun b j => b = 1 ∧ (j = 1 ∨ j = 2)) M M' := by
  unfold D_X11_keepFault
  rw [show (1 : Nat) + 1 = 2 from rfl]
  cases b
  · rw [if_pos (show bI false = nI 0 from rfl), Option.bind_some, pI_n, Option.bind_some, if_pos (show bI false = nI 0 from rfl), pI_n, Option.bind_some]
    exact ⟨_, rfl, by rw [upI_j, if_neg (by decide), upI_s]; rfl, by rw [upI_s, upI_n (by decide)]; rfl, (FX.I ⟨rfl, Or.inl rfl⟩).trans (FX.I ⟨rfl, Or.inr rfl⟩)⟩
  · rw [if_neg (show ¬ bI true = nI 0 from z10), Option.bind_some, pI_n, Option.bind_some, if_neg (show ¬ bI true = nI 0 from z10), pI_n, Option.bind_some]
    exact ⟨_, rfl, by rw [upI_j, if_neg (by decide), upI_s]; rfl, by rw [upI_s]; rfl, (FX.I ⟨rfl, Or.inl rfl⟩).trans (FX.I ⟨rfl, Or.inr rfl⟩)⟩
theorem len_w12 {w : Nat} (hw : w = 69 ∨ w = 87) : len (w + 12) = 4 := by rcases hw with e | e <;> subst e <;> rfl
theorem s_clearTree {w : Nat} {M : Mm} (N : Nat) (hN : 2000 < N) (hw : w = 69 ∨ w = 87) : ∃ M', D_X8_clear N w M = some M' ∧ M'.1 w 0 = nI 0 ∧ (∀ a, a < 4 → M'.1 (w + 12) a = nI 0) ∧ FX (fun b j => b = w ∧ j = 0 ∨ b = w + 12) M M' := by
  unfold D_X8_clear
  rw [pI_n, Option.bind_some, fill_n N (w + 12) (nI 0) _ (len_w12 hw) (by decide) (by omega), Option.bind_some]
  refine ⟨_, rfl, ?_, fun a ha => ?_, ?_⟩
  · show upR _ _ _ w 0 = _
    rw [show upR (upI M w 0 (nI 0)).1 (w + 12) (fun j => if j < 4 then nI 0 else (upI M w 0 (nI 0)).1 (w + 12) j) w = (upI M w 0 (nI 0)).1 w from if_neg (by omega)]
    exact upI_s _ _ _ _
  · show upR _ _ _ (w + 12) a = _
    rw [show upR (upI M w 0 (nI 0)).1 (w + 12) (fun j => if j < 4 then nI 0 else (upI M w 0 (nI 0)).1 (w + 12) j) (w + 12) = _ from if_pos rfl]
    exact if_pos ha
  · refine ⟨rfl, fun b j hb => ⟨?_, rfl⟩⟩
    show upR _ _ _ b j = _
    rw [show upR (upI M w 0 (nI 0)).1 (w + 12) (fun j => if j < 4 then nI 0 else (upI M w 0 (nI 0)).1 (w + 12) j) b = (upI M w 0 (nI 0)).1 b from if_neg (fun z => hb (Or.inr z))]
    by_cases c : b = w
    · subst c
      rw [upI_j, if_neg (fun z => hb (Or.inl ⟨rfl, z⟩))]
    · exact congrFun (upI_n c) j
/-- what a refused text may have changed -/
def PFl (w' g' b j : Nat) : Prop := 2 ≤ b ∧ b ≤ 8 ∨ w' ≤ b ∧ b ≤ w' + 12 ∨ g' ≤ b ∧ b ≤ g' + 16 ∨ b = 1 ∧ j ≤ 2 ∨ b = 137 ∧ ¬ (j = 9 ∨ j = 50 ∨ j = 72 ∨ j = 53 ∨ j = 54 ∨ j = 55) ∨ b = 140 ∨ b = 142 ∨ 160 ≤ b ∧ b ≤ 162
theorem fail_done {g g' w w' q q' : Nat} {M M2 : Mm} (I : IN0 g g' w w' q q' M) (f : FW (PFl w' g') M M2) (e0 : M2.1 1 0 = M2.1 137 6) (e1 : M2.1 2 6 = nI 0) (e2 : M2.1 137 5 = nI 0) (e3 : M2.1 1 1 = M2.1 137 7) (e4 : M2.1 1 2 = M2.1 137 8) : INV M2 := by
  obtain ⟨⟨B, n, Co⟩, R, St⟩ := I
  obtain ⟨hg, hw, hqq, hg', hw', hqq'⟩ := R.gg
  have ne : (g = 35 ∧ g' = 52 ∨ g = 52 ∧ g' = 35) ∧ (w = 69 ∧ w' = 87 ∨ w = 87 ∧ w' = 69) := ⟨R.1.2.2, R.2.1.2.2⟩
  have k : ∀ b j, ¬ PFl w' g' b j → M2.1 b j = M.1 b j := fun b j hb => f.e hb
  refine ⟨e0, g, g', w, w', q, q', ⟨fun _ => 0, 0, by omega, e1, e2, fun i hi => absurd hi (Nat.not_lt_zero _), e3, e4, ?_, ?_⟩, R.fw f, St.fw hqq f fun b j z => by unfold PFl at z; unfold uG uCl uR; omega⟩
  · rw [k 30 6 (by unfold PFl; omega), k 137 54 (by unfold PFl; omega)]; exact Co.2.2.2.2.2.2.1
  · rw [k 30 7 (by unfold PFl; omega), k 137 55 (by unfold PFl; omega)]; exact Co.2.2.2.2.2.2.2
/-- a tree read is a whole one -/
theorem pTree_tok {T : List Tok} {G : Gr} {st need d q : Nat} {y : Nat × TR} (hq : QG G) (e : pTree T G st need d q = .inr y) : Et t0 y.2 ∧ tu y.2 0 = 0 ∧ tq y.2 0 = q ∧ (¬ need = 0 → G.i 7 (4 * tp y.2 0) + 1 = need) ∧ td y.2 0 = d ∧ ∃ ce me, TOK G y.2 ce me := by
  unfold pTree at e
  obtain ⟨z, e1, e2⟩ := bndT_r e
  have ez : y = z := by
    split at e2
    · injection e2 with e2; exact e2.symm
    · exact absurd e2 (by unfold flT; exact fun z => nomatch z)
  obtain ⟨p1, p2, p3, p4, p5, p6, p7⟩ := pNd_P hq _ _ _ _ _ _ _ _ e1
  rw [← ez] at p1 p2 p3 p4 p5 p6 p7
  exact ⟨p1, p2, p3, p4, p5, p7.tok hq p2⟩
theorem r_treeCopy {t : TR} (h40 : tn t ≤ 40) (kE : Mm → Option (Int32 × Mm)) : ∀ (fu e : Nat) (M : Mm), e ≤ tn t → 40 < e + fu → M.1 137 50 = nI (tn t) → RTT t M → (∀ x, x < e → M.1 157 x = nI (tp t x) ∧ M.1 158 x = nI (to' t x) ∧ M.1 159 x = nP (tu t x)) → ∃ M', L_X12_tree_67 kE 137 fu (nI e) M = kE M' ∧ RN t M' ∧ FX (fun b _ => 157 ≤ b ∧ b ≤ 159) M M'
  | 0, e, M, h1, h2, _, _, _ => by omega
  | fu + 1, e, M, h1, h2, h3, R, h4 => by
    rw [L_X12_tree_67, h3]
    simp only [n_le (show tn t < 2 ^ 31 by omega) (show e < 2 ^ 31 by omega)]
    by_cases c : tn t ≤ e
    · rw [if_pos c]
      exact ⟨M, rfl, ⟨h3, fun x hx => h4 x (by omega)⟩, FX.refl⟩
    · obtain ⟨r1, r2, r3⟩ := R.2 e (by omega)
      rw [if_neg c, show (137 : Nat) + 23 = 160 from rfl, show (137 : Nat) + 24 = 161 from rfl, show (137 : Nat) + 25 = 162 from rfl, show (137 : Nat) + 20 = 157 from rfl, show (137 : Nat) + 21 = 158 from rfl, show (137 : Nat) + 22 = 159 from rfl, ldI_n (by omega) (by omega), r1, Option.bind_some, stI_n (by omega) (by omega), Option.bind_some, ldI_n (by omega) (by omega), upI_n (by decide), r2, Option.bind_some, stI_n (by omega) (by omega), Option.bind_some, ldI_n (by omega) (by omega), upI_n (by decide), upI_n (by decide), r3, Option.bind_some, stI_n (by omega) (by omega), Option.bind_some, Option.bind_some, nI_add]
      have f1 : FX (fun b _ => 157 ≤ b ∧ b ≤ 159) M (upI (upI (upI M 157 e (nI (tp t e))) 158 e (nI (to' t e))) 159 e (nP (tu t e))) := ((FX.I (by omega)).trans (FX.I (by omega))).trans (FX.I (by omega))
      obtain ⟨M', a1, a2, a3⟩ := r_treeCopy h40 kE fu (e + 1) _ (by omega) (by omega) ((f1.2 137 50 (by omega)).1.trans h3) ⟨(f1.2 137 51 (by omega)).1.trans R.1, fun x hx => by
        rw [(f1.2 160 x (by omega)).1, (f1.2 161 x (by omega)).1, (f1.2 162 x (by omega)).1]; exact R.2 x hx⟩ (fun x hx => by
        rw [upI_n (by decide), upI_n (by decide), upI_j, upI_n (by decide), upI_j, upI_n (by decide), upI_j, upI_n (by decide), upI_n (by decide)]
        by_cases z : x = e
        · rw [if_pos z, if_pos z, if_pos z, z]; exact ⟨rfl, rfl, rfl⟩
        · rw [if_neg z, if_neg z, if_neg z]; exact h4 x (by omega))
      exact ⟨M', a1, a2, f1.trans a3⟩
theorem r_treeGiven (kE : Mm → Option (Int32 × Mm)) : ∀ (fu a : Nat) (M : Mm), a ≤ 4 → 4 < a + fu → (∀ x, x < a → M.1 163 x = nI 0) → ∃ M', L_X12_tree_119 kE 137 fu (nI a) M = kE M' ∧ (∀ x, x < 4 → M'.1 163 x = nI 0) ∧ FX (fun b _ => b = 163) M M'
  | 0, a, M, h1, h2, _ => by omega
  | fu + 1, a, M, h1, h2, h3 => by
    rw [L_X12_tree_119]
    simp only [n_le (show 4 < 2 ^ 31 by decide) (show a < 2 ^ 31 by omega)]
    by_cases c : 4 ≤ a
    · rw [if_pos c]
      exact ⟨M, rfl, fun x hx => h3 x (by omega), FX.refl⟩
    · rw [if_neg c, show (137 : Nat) + 26 = 163 from rfl, stI_n (by omega) (by omega), Option.bind_some, Option.bind_some, nI_add]
      obtain ⟨M', a1, a2, a3⟩ := r_treeGiven kE fu (a + 1) (upI M 163 a (nI 0)) (by omega) (by omega) fun x hx => by
        rw [upI_j]
        by_cases z : x = a
        · rw [if_pos z]
        · rw [if_neg z]; exact h3 x (by omega)
      exact ⟨M', a1, a2, (FX.I (P := fun b _ => b = 163) rfl).trans a3⟩
theorem r_readT5 {B : Nat → Nat} {n st need d q : Nat} {G : Gr} {M : Mm} (N : Nat) (hN : 2000 < N) (hq : QG G) (hn : n ≤ 1000) (hB : ∀ i, i < n → M.1 138 i = nI (B i) ∧ B i < 256) (K : QT G M) (h52 : M.1 137 52 = nI st) (hst : st ≤ 40) (hd : 1 ≤ d ∧ d ≤ 13) (hneed : need ≤ 8) :
    match pTree (toks B n 0) G st need d q with
    | .inl e => ∃ M', D_X12_readTree N 137 (nI n) (ndI need) (nI d) M = some (nI 0, M') ∧ RF e M' ∧ FX PTb M M' ∧ M'.1 137 5 = nI 0
    | .inr y => ∃ M', D_X12_readTree N 137 (nI n) (ndI need) (nI d) M = some (nI 1, M') ∧ KR B n (toks B n 0) G st y.1 y.2 M' ∧ FX PTb M M' ∧ M'.1 137 5 = nI 0 := by
  unfold D_X12_readTree
  obtain ⟨M1, a1, a2, a3, a4, a5⟩ := v_begins N hN hn hB
  have F1 : FX PTb M M1 := a5.mono fun _ _ z => Or.inr z
  have f2 : FX (fun b j => b = 137 ∧ j = 51) M1 (upI M1 137 51 (nI 0)) := FX.I ⟨rfl, rfl⟩
  have F2 : FX PTb M (upI M1 137 51 (nI 0)) := F1.trans (f2.mono fun _ _ z => Or.inl (Or.inr (Or.inl z)))
  rw [a1, Option.bind_some, pI_n, Option.bind_some]
  have K2 : KR B n (toks B n 0) G st 0 t0 (upI M1 137 51 (nI 0)) := by
    refine ⟨a2.fx f2 (fun j => by omega) (fun j hj => by omega), K.sb F2 fun _ _ z => z.n, ?_, ⟨upI_s _ _ _ _, fun e he => absurd he (Nat.not_lt_zero _)⟩, by show st + 0 ≤ 40; omega, ?_, ?_⟩
    · rw [upI_j, if_neg (by decide), (a5.2 137 52 (fun z => by unfold PN at z; omega)).1]; exact h52
    · rw [upI_j, if_neg (by decide)]; exact a3.1
    · rw [upI_j, if_neg (by decide)]; exact a3.2
  have Z2 : (upI M1 137 51 (nI 0)).1 137 5 = nI 0 := by rw [upI_j, if_neg (by decide)]; exact a4
  generalize upI M1 137 51 (nI 0) = M2 at F2 K2 Z2
  have n5 : ∀ {M' : Mm}, FX PTr M2 M' → M'.1 137 5 = nI 0 := fun h => by rw [(h.2 137 5 (by unfold PTr PB; omega)).1]; exact Z2
  have rd := t_readNode N hN hq 14 need d 0 q 0 t0 M2 (by omega) (by omega) hneed (Nat.zero_le _) K2
  rw [show nP 0 = m1 from if_pos rfl] at rd
  unfold pTree
  cases e : pNd (toks B n 0) G st 14 need d 0 q 0 t0 with
  | inl b =>
    rw [e] at rd
    obtain ⟨M3, b1, b2, b3⟩ := rd
    refine ⟨M3, ?_, b2, F2.trans (b3.mono fun _ _ z => Or.inl z), n5 b3⟩
    rw [b1, Option.bind_some]
    simp only [jn]
    rw [if_pos trivial, retZ_0]
  | inr b =>
    rw [e] at rd
    obtain ⟨M3, b1, ⟨b2, b4⟩, b3⟩ := rd
    have F3 : FX PTb M M3 := F2.trans (b3.mono fun _ _ z => Or.inl z)
    have k0 := b2.1.isK (v := 0) (by omega)
    rw [kR_0 b2.1.k4] at k0
    rw [b1, Option.bind_some]
    simp only [jn]
    rw [if_neg z10]
    simp only [k0]
    show match (if (tk (toks B n 0) b.1).1 = 0 then (.inr (b.1, b.2) : RT) else flT (toks B n 0) b.1 2) with
    | .inl e => ∃ M', _ ∧ RF e M' ∧ FX PTb M M' ∧ M'.1 137 5 = nI 0
    | .inr y => ∃ M', _ ∧ KR B n (toks B n 0) G st y.1 y.2 M' ∧ FX PTb M M' ∧ M'.1 137 5 = nI 0
    by_cases z : (tk (toks B n 0) b.1).1 = 0
    · rw [if_pos z, if_pos z, retZ_1]; exact ⟨M3, rfl, b2, F3, n5 b3⟩
    · rw [if_neg z, if_neg z]
      obtain ⟨M4, c1, c2, c3⟩ := r_bad (y := 2) N b2.1
      rw [c1, Option.bind_some, if_pos rfl, retZ_0]
      exact ⟨M4, rfl, c2, F3.trans (c3.mono fun _ _ z => Or.inl (Or.inl z)), n5 (b3.trans (c3.mono fun _ _ z => Or.inl z))⟩
