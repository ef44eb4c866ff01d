-- both sides answer: span, knot, many
theorem PBq {w b j : Nat} (hw : w = 69 ∨ w = 87) (z : PBf w b j) : PQ b j := by unfold PBf at z; unfold PQ; omega
section q
variable {gN : Nat} {gr fr od : Nat → Nat} {kt : Nat → Bool}
/-- as many in a group as places in the row -/
theorem OI.cntE (I : OI gN gr fr od) (h320 : ∀ v, ¬ gr v = 0 → v < 320) {g : Nat} (hg : g < gN) : ∀ k, fr g + k ≤ fr (g + 1) → cnt (mG gr g) (psG fr od g k) = k
  | 0, _ => by
    have z := cnt_zero (f := mG gr g) (n := 0) (psG fr od g 0) fun i _ hi => ps_gap I hg (Or.inl rfl) (by rw [Nat.zero_add] at hi; exact hi) (by omega) fun v hv => h320 v (by omega)
    rw [Nat.zero_add] at z
    exact z
  | k + 1, hk => by
    have ih := OI.cntE I h320 hg k (by omega)
    obtain ⟨p1, p2, p3⟩ := ps_mono I hg (show fr g + k < fr (g + 1) by omega)
    have one : cnt (mG gr g) (psG fr od g k + 1) = k + 1 := by
      show cnt (mG gr g) (psG fr od g k) + (if mG gr g (psG fr od g k) = true then 1 else 0) = _
      rw [ih, p3, if_pos rfl]
    have z := cnt_zero (f := mG gr g) (n := psG fr od g k + 1) (psG fr od g (k + 1) - (psG fr od g k + 1)) fun i h1 h2 => ps_gap I hg (Or.inr ⟨k, rfl, by omega⟩) (by omega) (by omega) fun v hv => h320 v (by omega)
    rw [show psG fr od g k + 1 + (psG fr od g (k + 1) - (psG fr od g k + 1)) = psG fr od g (k + 1) by omega] at z
    rw [z, one]
theorem OI.size (I : OI gN gr fr od) (h320 : ∀ v, ¬ gr v = 0 → v < 320) {g : Nat} (hg : g < gN) : cnt (mG gr g) 320 = fr (g + 1) - fr g := by
  have o1 := (I.2 g hg).1
  have := OI.cntE I h320 hg (fr (g + 1) - fr g) (by omega)
  unfold psG at this
  rw [if_neg (by omega)] at this
  exact this
end q
section q
variable {w q g : Nat} {G : Gr} {t : TR} {ce : Nat → Nat → Nat} {me : Nat → Nat} {gv val : Nat → Int32} {trn : Nat → Nat} {uns : Nat → Bool} {gN : Nat} {gr fr od : Nat → Nat} {kt : Nat → Bool} {dg : Nat → Bool} {A : Nat → Nat} {M : Mm} (N : Nat)
theorem GRP.v320 (h : TOK2 G t ce me) (P : GRP G t ce gN gr fr od kt) (v : Nat) (hv : ¬ gr v = 0) : v < 320 := (th_320 h ((P.1 v).2 hv)).2
/-- which is a knot's first -/
def hdB (G : Gr) (t : TR) (ce : Nat → Nat → Nat) (i : Nat) : Bool := knB G t ce i && decide (knF G t ce i = i)
theorem cnt_heads (hq : QG G) (h : TOK2 G t ce me) (P : GRP G t ce gN gr fr od kt) : ∀ n, n ≤ gN → cnt (fun i => hdB G t ce i && decide (gr i ≤ n)) 320 = cnt kt n
  | 0, _ => by
    have z := cnt_zero (f := fun i => hdB G t ce i && decide (gr i ≤ 0)) (n := 0) 320 fun i _ _ => by
      show (hdB G t ce i && decide (gr i ≤ 0)) = false
      cases c : hdB G t ce i
      · rfl
      · unfold hdB at c
        rw [Bool.and_eq_true] at c
        have := (P.1 i).1 ((knB_t hq h).1 c.1).1
        rw [decide_eq_false (by omega)]; rfl
    rw [Nat.zero_add] at z
    exact z
  | n + 1, hn => by
    have ih := cnt_heads hq h P n (by omega)
    obtain ⟨o1, o2, o3⟩ := P.2.2.2.2.1.2 n (by omega)
    obtain ⟨a1, a2, _⟩ := o2 (fr n) (Nat.le_refl _) o1
    have ti : thT G t (od (fr n)) := (P.1 _).2 (by omega)
    have tie := P.tie hq h ti a2
    have least : ∀ x, gr x = gr (od (fr n)) → od (fr n) ≤ x := fun x hx => by
      obtain ⟨m, m1', m2', m3'⟩ := o3 x (by omega)
      by_cases c : m = fr n
      · rw [← m3', c]; exact Nat.le_refl _
      · have := P.2.2.2.2.1.inc (show n < gN by omega) (m - fr n - 1) (fr n) (Nat.le_refl _) (by omega)
        rw [show fr n + (m - fr n - 1) + 1 = m by omega, m3'] at this
        omega
    -- the others of this group are no heads
    have oth : ∀ i, gr i = n + 1 → ¬ i = od (fr n) → hdB G t ce i = false := fun i hi ne => by
      cases c : hdB G t ce i
      · rfl
      · unfold hdB at c
        rw [Bool.and_eq_true, decide_eq_true_eq] at c
        have ti' := ((knB_t hq h).1 c.1).1
        have := (P.hd hq h ti' c.1).1 c.2 (od (fr n)) (by omega)
        have := least i (by omega)
        exact absurd (by omega) ne
    have eq : ∀ i, ¬ i = od (fr n) → (hdB G t ce i && decide (gr i ≤ n)) = (hdB G t ce i && decide (gr i ≤ n + 1)) := fun i ne => by
      by_cases c : gr i = n + 1
      · rw [oth i c ne]; rfl
      · rw [show decide (gr i ≤ n) = decide (gr i ≤ n + 1) from decide_eq_decide.2 ⟨fun z => by omega, fun z => by omega⟩]
    show _ = cnt kt n + if kt n = true then 1 else 0
    cases k : kt n
    · rw [if_neg (by decide)]
      have cc : cnt (fun i => hdB G t ce i && decide (gr i ≤ n)) 320 = cnt (fun i => hdB G t ce i && decide (gr i ≤ n + 1)) 320 := cnt_congr fun i hi => by
        show (hdB G t ce i && decide (gr i ≤ n)) = (hdB G t ce i && decide (gr i ≤ n + 1))
        by_cases c : i = od (fr n)
        · have : hdB G t ce i = false := by unfold hdB; rw [c, tie, k]; rfl
          rw [this, Bool.false_and, Bool.false_and]
        · exact eq i c
      rw [← ih, cc]
      exact (Nat.add_zero _).symm
    · rw [if_pos rfl, ← ih]
      refine cnt_one (od (fr n)) a1 (fun i _ ne => eq i ne) ?_ ?_
      · show (_ && decide (gr (od (fr n)) ≤ n)) = false
        rw [decide_eq_false (by omega), Bool.and_false]
      · show (hdB G t ce (od (fr n)) && decide (gr (od (fr n)) ≤ n + 1)) = true
        have kk : knB G t ce (od (fr n)) = true := by rw [tie, k]
        rw [decide_eq_true (show gr (od (fr n)) ≤ n + 1 by omega), Bool.and_true]
        unfold hdB
        rw [kk, decide_eq_true ((P.hd hq h ti kk).2 least)]; rfl
theorem r_knots (hN : 20000 < N) (hq : QG G) (V : VI w q g G t ce me gv val trn uns gN gr fr od kt dg M) : D_X12_knots N 137 M = some (nI (cnt kt gN)) := by
  have R := V.rt
  obtain ⟨h, _, _, _, ⟨P, _⟩, _⟩ := V
  have e : cnt (hdB G t ce) 320 = cnt kt gN := by
    rw [← cnt_heads hq h P gN (Nat.le_refl _)]
    exact cnt_congr fun i _ => by rw [decide_eq_true (P.2.1 i), Bool.and_true]
  have key : ∀ fu i c, i ≤ 320 → 320 < i + fu → c = cnt (hdB G t ce) i → L_X12_knots_4 137 M fu (nI c) (nI i) = some (nI (cnt (hdB G t ce) 320)) := fun fu => by
    induction fu with
    | zero => intro i c h1 h2; omega
    | succ fu ih =>
      intro i c h1 h2 hc
      rw [L_X12_knots_4]
      simp only [n_le (show 320 < 2 ^ 31 by omega) (show i < 2 ^ 31 by omega), jn]
      by_cases z : 320 ≤ i
      · rw [if_pos z, hc, show i = 320 by omega]
      · rw [if_neg z, show (137 : Nat) + 37 = 174 from rfl, show (137 : Nat) + 30 = 167 from rfl, ldI_n (by omega) (by omega), (R.2.1 i (by omega)).1, Option.bind_some, ldI_n (by omega) (by omega), R.2.2.2.2.1 i (by omega), Option.bind_some, Option.bind_some, Option.bind_some, Option.bind_some, Option.bind_some, nI_add, nI_add, nI_add]
        simp only [bI_0, knI_eq (show i < 320 by omega) (show i < 2 ^ 31 by omega)]
        have st : cnt (hdB G t ce) (i + 1) = cnt (hdB G t ce) i + if hdB G t ce i = true then 1 else 0 := rfl
        cases tb : thB G t i
        · have hf : hdB G t ce i = false := by unfold hdB knB; rw [tb]; rfl
          rw [if_pos rfl]
          exact ih (i + 1) (c + 0) (by omega) (by omega) (by rw [st, hf, if_neg (by decide), hc])
        · rw [if_neg (by decide)]
          by_cases k : knB G t ce i = true ∧ knF G t ce i = i
          · have hf : hdB G t ce i = true := by unfold hdB; rw [k.1, decide_eq_true k.2]; rfl
            rw [if_pos k]
            exact ih (i + 1) (c + 1) (by omega) (by omega) (by rw [st, hf, if_pos rfl, hc])
          · have hf : hdB G t ce i = false := by
              cases u : hdB G t ce i
              · rfl
              · unfold hdB at u
                rw [Bool.and_eq_true, decide_eq_true_eq] at u
                exact absurd u k
            rw [if_neg k]
            exact ih (i + 1) (c + 0) (by omega) (by omega) (by rw [st, hf, if_neg (by decide), hc])
  rw [← e]
  exact key N 0 0 (by omega) (by omega) rfl
end q
