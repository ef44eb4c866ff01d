-- the reference at a token of a text
def FX (P : Nat → Nat → Prop) (M M' : Mm) : Prop := M'.2.2 = M.2.2 ∧ ∀ a j, ¬ P a j → M'.1 a j = M.1 a j ∧ M'.2.1 a j = M.2.1 a j
theorem FX.refl {P : Nat → Nat → Prop} {M : Mm} : FX P M M := ⟨rfl, fun _ _ _ => ⟨rfl, rfl⟩⟩
theorem FX.trans {P : Nat → Nat → Prop} {M M' M'' : Mm} (h : FX P M M') (h' : FX P M' M'') : FX P M M'' := ⟨h'.1.trans h.1, fun a j ha => ⟨(h'.2 a j ha).1.trans (h.2 a j ha).1, (h'.2 a j ha).2.trans (h.2 a j ha).2⟩⟩
theorem FX.mono {P P' : Nat → Nat → Prop} {M M' : Mm} (h : FX P M M') (hs : ∀ a j, P a j → P' a j) : FX P' M M' := ⟨h.1, fun a j ha => h.2 a j fun q => ha (hs a j q)⟩
theorem FX.I {P : Nat → Nat → Prop} {M : Mm} {a k : Nat} {v : Int32} (h : P a k) : FX P M (upI M a k v) := ⟨by rw [up2], fun b j hb => ⟨by
  rw [up1]
  by_cases e : b = a
  · subst e
    rw [if_pos rfl, upd_a, if_neg (fun e2 => hb (by rw [e2]; exact h))]
  · rw [if_neg e], by rw [up2]⟩⟩
theorem FX.J {P : Nat → Nat → Prop} {M : Mm} {a k : Nat} {v : Int64} (h : P a k) : FX P M (upJ M a k v) := ⟨by rw [upJ3], fun b j hb => ⟨by rw [upJ1], by
  rw [upJ2]
  by_cases e : b = a
  · subst e
    rw [if_pos rfl, updL_a, if_neg (fun e2 => hb (by rw [e2]; exact h))]
  · rw [if_neg e]⟩⟩
/-- the slots of the reference's own token -/
def PT (a j : Nat) : Prop := a = 137 ∧ (11 ≤ j ∧ j ≤ 15 ∨ j = 18)
theorem UT.x {M M' : Mm} (h : UT M M') : FX PT M M' := ⟨h.1, fun a j hj => by
  unfold PT at hj
  by_cases e : a = 137
  · subst e
    exact ⟨h.2.2.1 j (fun q => hj ⟨rfl, Or.inl q⟩), h.2.2.2 j (fun q => hj ⟨rfl, Or.inr q⟩)⟩
  · rw [(h.2.1 a e).1, (h.2.1 a e).2]; exact ⟨rfl, rfl⟩⟩
def RQ (B : Nat → Nat) (n : Nat) (T : List Tok) (h : Nat) (M : Mm) : Prop := HR B n M ∧ T = toks B n 0 ∧ h < T.length ∧ RX (tk T h) M
theorem toks_ends (B : Nat → Nat) (n : Nat) : ∀ d i, n - i = d → ∀ x ∈ toks B n i, x.2.2.1 ≤ n := by
  intro d
  induction d using Nat.strongRecOn with
  | _ d ih =>
    intro i hd x hx
    by_cases hn : n ≤ i
    · rw [toks_end hn] at hx
      rw [List.mem_singleton.mp hx]
      exact Nat.le_refl n
    · by_cases hb : isBl (B i) = true
      · rw [toks_bl (by omega) hb] at hx
        exact ih (d - 1) (by omega) (i + 1) (by omega) x hx
      · rw [toks_tok (by omega) hb] at hx
        have he := tokAt_end (B := B) (show i < n by omega)
        rcases List.mem_cons.mp hx with rfl | hx
        · exact he.2
        · exact ih (n - (tokAt B n i).2.2.1) (by omega) _ rfl x hx
theorem tk_drop (T : List Tok) (h j : Nat) : tk (T.drop h) j = tk T (h + j) := by
  unfold tk
  rw [List.getD_eq_getElem?_getD, List.getD_eq_getElem?_getD, List.getElem?_drop]
theorem r_go {B : Nat → Nat} {n h : Nat} {T : List Tok} {M : Mm} (N : Nat) (hN : 2000 < N) (K : RQ B n T h M) : ∃ M', D_X12_go N 137 M = some M' ∧ RQ B n T (adv T h) M' ∧ UT M M' := by
  obtain ⟨k1, k2, k3, k4⟩ := K
  have hm : tk T h ∈ toks B n 0 := by rw [← k2]; exact tk_mem k3
  obtain ⟨M', a, b, c⟩ := r_go0 N hN k1 (toks_ends B n n 0 (by omega) _ hm) k4.2.2.1
  refine ⟨M', a, ⟨k1.UT c, k2, adv_lt k3, ?_⟩, c⟩
  have e : tk (toks B n (tk T h).2.2.1) 0 = tk T (adv T h) := by
    unfold adv
    by_cases q : h + 1 < T.length
    · rw [if_pos q]
      have e1 := toks_next B n n 0 (by omega) h (by rw [← k2]; exact q)
      rw [← k2] at e1
      rw [← e1, tk_drop]
    · rw [if_neg q]
      have e1 := toks_last B n n 0 (by omega) h (by rw [← k2]; omega)
      rw [← k2] at e1
      rw [e1, toks_end (Nat.le_refl n)]; rfl
  rw [← e]
  exact b
def TQ (n : Nat) (T : List Tok) : Prop := TT n T ∧ TE T ∧ T.length ≤ 1001
theorem RQ.t {B : Nat → Nat} {n h : Nat} {T : List Tok} {M : Mm} (K : RQ B n T h M) : TQ n T := by
  obtain ⟨k1, k2, k3, k4⟩ := K
  have hn := k1.2.1
  refine ⟨⟨hn, ?_⟩, ?_, ?_⟩
  · rw [k2]; exact toks_TG (fun i hi => (k1.2.2 i hi).2) n 0 (by omega)
  · rw [k2]; exact toks_TE B n n 0 (by omega)
  · rw [k2]; have := (toks_len B n n 0 (by omega)).1; omega
theorem RQ.h {B : Nat → Nat} {n h : Nat} {T : List Tok} {M : Mm} (K : RQ B n T h M) : h < T.length := K.2.2.1
theorem RQ.kd {B : Nat → Nat} {n h : Nat} {T : List Tok} {M : Mm} (K : RQ B n T h M) : M.1 137 13 = nI (kR (tk T h).1) := K.2.2.2.1
theorem kR_lt (k : Nat) : kR k < 5 := by unfold kR; split <;> (try split) <;> (try split) <;> (try split) <;> omega
theorem kR_1 {k : Nat} (hk : k ≤ 4) : (kR k = 2) = (k = 1) := by
  apply propext
  unfold kR; split <;> (try split) <;> (try split) <;> (try split) <;> omega
theorem kR_2 {k : Nat} (hk : k ≤ 4) : (kR k = 3) = (k = 2) := by
  apply propext
  unfold kR; split <;> (try split) <;> (try split) <;> (try split) <;> omega
theorem kR_3 {k : Nat} (hk : k ≤ 4) : (kR k = 4) = (k = 3) := by
  apply propext
  unfold kR; split <;> (try split) <;> (try split) <;> (try split) <;> omega
theorem kR_4 {k : Nat} (hk : k ≤ 4) : (kR k = 1) = (k = 4) := by
  apply propext
  unfold kR; split <;> (try split) <;> (try split) <;> (try split) <;> omega
theorem kR_0 {k : Nat} (hk : k ≤ 4) : (kR k = 0) = (k = 0) := by
  apply propext
  unfold kR; split <;> (try split) <;> (try split) <;> (try split) <;> omega
theorem RQ.k4 {B : Nat → Nat} {n h : Nat} {T : List Tok} {M : Mm} (K : RQ B n T h M) : (tk T h).1 ≤ 4 := (K.t.1.g K.h).1
/-- a kind is asked -/
theorem RQ.isK {B : Nat → Nat} {n h v : Nat} {T : List Tok} {M : Mm} (K : RQ B n T h M) (hv : v < 5) : (M.1 137 13 = nI v) = (kR (tk T h).1 = v) := by
  have := kR_lt (tk T h).1
  rw [K.kd, n_eq (by omega) (by omega)]
-- the kept words
def wC (k : Nat) : Nat := if k = 0 then 664177132 else if k = 1 then 543204 else if k = 2 then 611717 else if k = 3 then 302 else if k = 4 then 16052 else if k = 5 then 15021 else if k = 6 then 13368 else if k = 7 then 13614 else 294
theorem wC_ok : ∀ k, k < 9 → okW 8 (wC k) := by
  intro k hk
  have q : ∀ v : Nat, (v % 32 ≥ 1 ∧ v % 32 ≤ 26) → ∀ m, okW m (v / 32) → okW (m + 1) v := fun v hv m hm => Or.inr ⟨hv.1, hv.2, hm⟩
  have z : ∀ m, okW m 0 := okW_0
  match k, hk with
  | 0, _ => exact q _ (by decide) _ (q _ (by decide) _ (q _ (by decide) _ (q _ (by decide) _ (q _ (by decide) _ (q _ (by decide) _ (z _))))))
  | 1, _ => exact q _ (by decide) _ (q _ (by decide) _ (q _ (by decide) _ (q _ (by decide) _ (z _))))
  | 2, _ => exact q _ (by decide) _ (q _ (by decide) _ (q _ (by decide) _ (q _ (by decide) _ (z _))))
  | 3, _ => exact q _ (by decide) _ (q _ (by decide) _ (z _))
  | 4, _ => exact q _ (by decide) _ (q _ (by decide) _ (q _ (by decide) _ (z _)))
  | 5, _ => exact q _ (by decide) _ (q _ (by decide) _ (q _ (by decide) _ (z _)))
  | 6, _ => exact q _ (by decide) _ (q _ (by decide) _ (q _ (by decide) _ (z _)))
  | 7, _ => exact q _ (by decide) _ (q _ (by decide) _ (q _ (by decide) _ (z _)))
  | 8, _ => exact q _ (by decide) _ (q _ (by decide) _ (z _))
theorem r_wordOf (N : Nat) (M : Mm) : ∀ k, k < 9 → D_X12_wordOf N (nI k) M = some (lN (conv 8 (wC k))) := by
  intro k hk
  match k, hk with
  | 0, _ => rfl
  | 1, _ => rfl
  | 2, _ => rfl
  | 3, _ => rfl
  | 4, _ => rfl
  | 5, _ => rfl
  | 6, _ => rfl
  | 7, _ => rfl
  | 8, _ => rfl
theorem kept_wC : ∀ k, k < 9 → kept (wC k) = true := by
  intro k hk
  match k, hk with
  | 0, _ => rfl
  | 1, _ => rfl
  | 2, _ => rfl
  | 3, _ => rfl
  | 4, _ => rfl
  | 5, _ => rfl
  | 6, _ => rfl
  | 7, _ => rfl
  | 8, _ => rfl
theorem cv63 {c : Nat} (h : okW 8 c) : conv 8 c < 2 ^ 63 := Nat.lt_trans (conv_lt 8 c h) (by decide)
theorem cv_eq {a b : Nat} (ha : okW 8 a) (hb : okW 8 b) : (lN (conv 8 a) = lN (conv 8 b)) = (a = b) := by
  rw [l_eq (cv63 ha) (cv63 hb)]
  exact propext ⟨conv_inj 8 a b ha hb, fun e => by rw [e]⟩
theorem RQ.wd {B : Nat → Nat} {n h : Nat} {T : List Tok} {M : Mm} (K : RQ B n T h M) (e : (tk T h).1 = 1) : M.2.1 137 18 = lN (conv 8 (tk T h).2.2.2) ∧ okW 8 (tk T h).2.2.2 := ⟨K.2.2.2.2.2.2.1 e, (K.t.1.g K.h).2.2.1 e⟩
theorem r_isWord {B : Nat → Nat} {n h k : Nat} {T : List Tok} {M : Mm} (N : Nat) (K : RQ B n T h M) (hk : k < 9) : D_X12_isWord N 137 (nI k) M = some (bI (decide (isWd T h (wC k)))) := by
  unfold D_X12_isWord
  simp only [jn, K.isK (show 2 < 5 by omega), kR_1 K.k4]
  by_cases e : (tk T h).1 = 1
  · rw [if_pos e, r_wordOf N M k hk, Option.bind_some]
    simp only [lgc, (K.wd e).1, cv_eq (K.wd e).2 (wC_ok k hk)]
    by_cases e2 : (tk T h).2.2.2 = wC k
    · rw [if_pos e2, decide_eq_true ⟨e, e2⟩]; rfl
    · rw [if_neg e2, decide_eq_false (fun q => e2 q.2)]; rfl
  · rw [if_neg e, decide_eq_false (fun q => e q.1)]; rfl
theorem r_isNameL {M : Mm} {w : Nat} (N : Nat) (h18 : M.2.1 137 18 = lN (conv 8 w)) (hw : okW 8 w) : ∀ (k i : Nat), i ≤ 9 → 9 < i + k → (∀ j, j < i → ¬ w = wC j) → L_X12_isName_12 N M 137 k (nI i) = some (bI (!kept w))
  | 0, i, h, h2, _ => by omega
  | k + 1, i, h, h2, hj => by
    rw [L_X12_isName_12]
    simp (disch := omega) only [n_lt]
    by_cases e : 8 < i
    · rw [if_pos e, okZ_1]
      have e9 : i = 9 := by omega
      subst e9
      have : kept w = false := by
        unfold kept
        rw [show (w == 664177132) = false from beq_eq_false_iff_ne.mpr (hj 0 (by omega)), show (w == 543204) = false from beq_eq_false_iff_ne.mpr (hj 1 (by omega)), show (w == 611717) = false from beq_eq_false_iff_ne.mpr (hj 2 (by omega)), show (w == 302) = false from beq_eq_false_iff_ne.mpr (hj 3 (by omega)), show (w == 16052) = false from beq_eq_false_iff_ne.mpr (hj 4 (by omega)), show (w == 15021) = false from beq_eq_false_iff_ne.mpr (hj 5 (by omega)), show (w == 13368) = false from beq_eq_false_iff_ne.mpr (hj 6 (by omega)), show (w == 13614) = false from beq_eq_false_iff_ne.mpr (hj 7 (by omega)), show (w == 294) = false from beq_eq_false_iff_ne.mpr (hj 8 (by omega))]; rfl
      rw [this]; rfl
    · rw [if_neg e, r_wordOf N M i (by omega), Option.bind_some]
      simp only [lgc, h18, cv_eq hw (wC_ok i (by omega))]
      by_cases e2 : w = wC i
      · rw [if_pos e2, okZ_0]
        have : kept w = true := by rw [e2]; exact kept_wC i (by omega)
        rw [this]; rfl
      · rw [if_neg e2, Option.bind_some, nI_add]
        refine r_isNameL N h18 hw k (i + 1) (by omega) (by omega) fun j hj2 => ?_
        by_cases e3 : j = i
        · rw [e3]; exact e2
        · exact hj j (by omega)
theorem r_isName {B : Nat → Nat} {n h : Nat} {T : List Tok} {M : Mm} (N : Nat) (hN : 2000 < N) (K : RQ B n T h M) : D_X12_isName N 137 M = some (bI (isNm (tk T h))) := by
  unfold D_X12_isName isNm
  simp only [K.isK (show 2 < 5 by omega), kR_1 K.k4]
  by_cases e : (tk T h).1 = 1
  · rw [if_pos e, r_isNameL N (K.wd e).1 (K.wd e).2 N 0 (by omega) (by omega) (fun j hj => by omega), e]; rfl
  · rw [if_neg e, okZ_0, beq_eq_false_iff_ne.mpr e]; rfl
theorem r_isSign {B : Nat → Nat} {n h c : Nat} {T : List Tok} {M : Mm} (N : Nat) (K : RQ B n T h M) (hc : c < 256) : D_X12_isSign N 137 (nI c) M = some (bI (decide (isSn T h c))) := by
  unfold D_X12_isSign
  simp only [jn, K.isK (show 4 < 5 by omega), kR_3 K.k4]
  by_cases e : (tk T h).1 = 3
  · have hv := (K.t.1.g K.h).2.2.2.2 e
    rw [if_pos e, K.2.2.2.2.2.2.2.2 e]
    simp only [n_eq (show (tk T h).2.2.2 < 2 ^ 31 by omega) (show c < 2 ^ 31 by omega)]
    by_cases e2 : (tk T h).2.2.2 = c
    · rw [if_pos e2, decide_eq_true ⟨e, e2⟩]; rfl
    · rw [if_neg e2, decide_eq_false (fun q => e2 q.2)]; rfl
  · rw [if_neg e, decide_eq_false (fun q => e q.1)]; rfl
/-- a fault told -/
def RF (e : Nat × Nat) (M' : Mm) : Prop := M'.1 137 16 = nI e.1 ∧ M'.1 137 17 = nI e.2
def PB (a j : Nat) : Prop := a = 137 ∧ (11 ≤ j ∧ j ≤ 21)
theorem PT_B {a j : Nat} (h : PT a j) : PB a j := by unfold PT at h; unfold PB; omega
theorem r_bad {B : Nat → Nat} {n h y : Nat} {T : List Tok} {M : Mm} (N : Nat) (K : RQ B n T h M) : ∃ M', D_X12_bad N 137 (nI y) M = some (nI 0, M') ∧ RF (if (tk T h).1 = 4 then 1 else y, (tk T h).2.1) M' ∧ FX PB M M' := by
  unfold D_X12_bad
  simp only [K.isK (show 1 < 5 by omega), kR_4 K.k4]
  have e : (if (tk T h).1 = 4 then some (nI 1) else some (nI y)) = some (nI (if (tk T h).1 = 4 then 1 else y)) := by split <;> rfl
  rw [e, Option.bind_some, pI_n, Option.bind_some, pI_n, Option.bind_some, retZ_0]
  refine ⟨_, rfl, ⟨?_, ?_⟩, (FX.I ⟨rfl, by omega⟩).trans (FX.I ⟨rfl, by omega⟩)⟩
  · simp only [up1, up2, upJ1, upJ2, upJ3, upN1, upN2, upN3, upd_a, updL_a, mR1, Nat.reduceEqDiff, if_true, if_false]
  · simp only [up1, up2, upJ1, upJ2, upJ3, upN1, upN2, upN3, upd_a, updL_a, mR1, Nat.reduceEqDiff, if_true, if_false]
    exact K.2.2.2.2.1
theorem r_badAt (N y p : Nat) (M : Mm) : ∃ M', D_X12_badAt N 137 (nI y) (nI p) M = some (nI 0, M') ∧ RF (y, p) M' ∧ FX PB M M' := by
  unfold D_X12_badAt
  rw [pI_n, Option.bind_some, pI_n, Option.bind_some, retZ_0]
  refine ⟨_, rfl, ⟨?_, ?_⟩, (FX.I ⟨rfl, by omega⟩).trans (FX.I ⟨rfl, by omega⟩)⟩
  · simp only [up1, up2, upJ1, upJ2, upJ3, upN1, upN2, upN3, upd_a, updL_a, mR1, Nat.reduceEqDiff, if_true, if_false]
  · simp only [up1, up2, upJ1, upJ2, upJ3, upN1, upN2, upN3, upd_a, updL_a, mR1, Nat.reduceEqDiff, if_true, if_false]
