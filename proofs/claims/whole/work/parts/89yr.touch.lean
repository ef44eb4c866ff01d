-- what a change makes to be reckoned anew, and what is another one then
/-- in a group one is told to be reckoned anew, or hangs on one that is another one -/
def touB (gr : Nat → Nat) (mk : Nat → Bool) (nr : Nat → Nat → Bool) (C : Nat → Bool) (x : Nat) : Bool := decide (fb (fun i => decide (gr i = x) && (mk i || decide (fb (fun j => nr i j && C j) 320 < 320))) 320 < 320)
theorem touB_t {gr : Nat → Nat} {mk : Nat → Bool} {nr : Nat → Nat → Bool} {C : Nat → Bool} {x : Nat} : touB gr mk nr C x = true ↔ ∃ i, i < 320 ∧ gr i = x ∧ (mk i = true ∨ ∃ j, j < 320 ∧ nr i j = true ∧ C j = true) := by
  unfold touB
  rw [decide_eq_true_eq, fb_lt]
  simp only [Bool.and_eq_true, Bool.or_eq_true, decide_eq_true_eq, fb_lt]
def chB (gr : Nat → Nat) (mk : Nat → Bool) (nr : Nat → Nat → Bool) (c0 : Nat → Bool) : Nat → Nat → Bool
  | 0, _ => false
  | n + 1, i => if gr i = n + 1 then c0 i && touB gr mk nr (chB gr mk nr c0 n) (n + 1) else chB gr mk nr c0 n i
def tuB (gr : Nat → Nat) (mk : Nat → Bool) (nr : Nat → Nat → Bool) (c0 : Nat → Bool) (x : Nat) : Bool := touB gr mk nr (chB gr mk nr c0 (x - 1)) x
section ch
variable {gr : Nat → Nat} {mk : Nat → Bool} {nr : Nat → Nat → Bool} {c0 : Nat → Bool}
theorem chB_s (n i : Nat) : chB gr mk nr c0 (n + 1) i = if gr i = n + 1 then c0 i && tuB gr mk nr c0 (n + 1) else chB gr mk nr c0 n i := rfl
theorem chB_t : ∀ n i, chB gr mk nr c0 n i = true ↔ (¬ gr i = 0 ∧ gr i ≤ n) ∧ c0 i = true ∧ tuB gr mk nr c0 (gr i) = true
  | 0, i => ⟨fun z => absurd (show false = true from z) (by decide), fun z => by omega⟩
  | n + 1, i => by
    rw [chB_s]
    by_cases c : gr i = n + 1
    · rw [if_pos c, Bool.and_eq_true, c]
      exact ⟨fun z => ⟨by omega, z⟩, fun z => z.2⟩
    · rw [if_neg c, chB_t n i]
      exact ⟨fun z => ⟨by omega, z.2⟩, fun z => ⟨by omega, z.2⟩⟩
/-- how many are reckoned anew, how many changed -/
def anN (gr : Nat → Nat) (mk : Nat → Bool) (nr : Nat → Nat → Bool) (c0 : Nat → Bool) : Nat := cnt (fun i => decide (¬ gr i = 0) && tuB gr mk nr c0 (gr i)) 320
def chgN (gr : Nat → Nat) (mk : Nat → Bool) (nr : Nat → Nat → Bool) (c0 : Nat → Bool) : Nat := cnt (fun i => decide (¬ gr i = 0) && (c0 i && tuB gr mk nr c0 (gr i))) 320
end ch
theorem cnt_dis {f g h : Nat → Bool} : ∀ {n : Nat}, (∀ i, i < n → (h i = true ↔ f i = true ∨ g i = true) ∧ ¬ (f i = true ∧ g i = true)) → cnt h n = cnt f n + cnt g n
  | 0, _ => rfl
  | n + 1, e => by
    have ih := cnt_dis (n := n) fun i hi => e i (by omega)
    obtain ⟨e1, e2⟩ := e n (by omega)
    show cnt h n + (if h n = true then 1 else 0) = cnt f n + (if f n = true then 1 else 0) + (cnt g n + (if g n = true then 1 else 0))
    by_cases a : f n = true
    · have b : ¬ g n = true := fun z => e2 ⟨a, z⟩
      rw [if_pos (e1.2 (Or.inl a)), if_pos a, if_neg b]; omega
    · by_cases b : g n = true
      · rw [if_pos (e1.2 (Or.inr b)), if_neg a, if_pos b]; omega
      · rw [if_neg (fun z => (e1.1 z).elim a b), if_neg a, if_neg b]; omega
section tok
variable {G : Gr} {t : TR} {ce : Nat → Nat → Nat} {me : Nat → Nat}
variable {gN : Nat} {gr fr od : Nat → Nat} {kt : Nat → Bool}
theorem bI_or1 (b : Bool) : (bI b ||| nI 1) = nI 1 := by cases b <;> decide
theorem bI_or0 (b : Bool) : (bI b ||| nI 0) = bI b := by cases b <;> decide
/-- the class: does an instance hang on another one that is changed -/
theorem s_hangsOnOther {w i : Nat} {M : Mm} {C : Nat → Bool} (N : Nat) (hN : 2000 < N) (hq : QG G) (h : TOK2 G t ce me) (L : CLk w G t ce me M) (hC : ∀ j, thT G t j → M.1 32 j = bI (C j)) (hi : thT G t i) : ∃ b, D_X0_hangsOnOther N 30 w (nI i) M = some (bI b) ∧ (b = true ↔ ∃ j, nrT G t ce i j ∧ C j = true) := by
  obtain ⟨i8, i320⟩ := th_320 h hi
  obtain ⟨w1, w2, w3⟩ := L.2.2 i i8
  have key : ∀ fu o, o ≤ 32 → 32 < o + fu → (∀ o', o' < o → (akT G t i).testBit o' = true → C (scT G t ce i o') = false) → ∃ b, L_X0_hangsOnOther_18 (nI (akT G t i)) N w (nP (bsT G t i)) M 30 fu (nI o) = some (bI b) ∧ (b = true ↔ ∃ j, nrT G t ce i j ∧ C j = true) := fun fu => by
    induction fu with
    | zero => intro o h1 h2; omega
    | succ fu ih =>
      intro o h1 h2 h3
      rw [L_X0_hangsOnOther_18]
      simp only [n_le (show 32 < 2 ^ 31 by decide) (show o < 2 ^ 31 by omega)]
      by_cases e : 32 ≤ o
      · rw [if_pos e, okZ_0]
        refine ⟨false, rfl, fun z => absurd z (by decide), ?_⟩
        rintro ⟨j, ⟨o', o1, o2, o3⟩, hj⟩
        have := h3 o' (by omega) o2
        rw [show scT G t ce i o' = j from o3, hj] at this
        exact this.symm
      · rw [if_neg e, bitI (akT_lt hq h hi) (by omega)]
        simp only [bI_0]
        cases b : (akT G t i).testBit o
        · rw [if_pos rfl, Option.bind_some, nI_add]
          exact ih (o + 1) (by omega) (by omega) fun o' ho' hb => by
            by_cases z : o' = o
            · rw [z, b] at hb; exact absurd hb (by decide)
            · exact h3 o' (by omega) hb
        · obtain ⟨b1, b2, b3, b4, b5⟩ := ak_told hq h hi b
          obtain ⟨s1, s2⟩ := in_us hq h.1 b2 b4
          have s2 : thT G t (scT G t ce i o) := s2
          obtain ⟨v8, v3⟩ := th_320 h s2
          have si : D_X8_instance N w (nI (bsT G t i - 1)) (nI o) M = some (nI (scT G t ce i o)) := s_instance N hq h L b2 (by omega) s1
          rw [if_neg (by decide), nP_s (by omega), si, Option.bind_some, show (30 : Nat) + 2 = 32 from rfl, ldI_n v3 (by omega), hC _ s2, Option.bind_some]
          simp only [bI_0]
          cases c : C (scT G t ce i o)
          · rw [if_pos rfl, Option.bind_some, nI_add]
            have := ih (o + 1) (by omega) (by omega) fun o' ho' hb => by
              by_cases z : o' = o
              · rw [z]; exact c
              · exact h3 o' (by omega) hb
            rw [nP_s (by omega)] at this
            exact this
          · rw [if_neg (by decide), okZ_1]
            exact ⟨true, rfl, fun _ => ⟨_, ⟨o, by omega, b, rfl⟩, c⟩, fun _ => rfl⟩
  obtain ⟨b, k1, k2⟩ := key N 0 (by omega) (by omega) fun o' ho' => by omega
  refine ⟨b, ?_, k2⟩
  unfold D_X0_hangsOnOther
  rw [ldI_n i320 (by omega), w1, Option.bind_some, ldI_n i320 (by omega), w3, Option.bind_some]
  exact k1
theorem s_size {c g : Nat} {M : Mm} (N : Nat) (K : KG c gN gr fr od kt M) (P : GRP G t ce gN gr fr od kt) (hg : g < gN) : D_X4_size N c (nI g) M = some (nI (fr (g + 1) - fr g)) ∧ fr g < fr (g + 1) ∧ fr (g + 1) ≤ 320 := by
  obtain ⟨o1, o2, _⟩ := P.2.2.2.2.1.2 g hg
  have up := P.2.2.2.2.1.mono (gN - (g + 1)) (g + 1) (by omega)
  rw [show g + 1 + (gN - (g + 1)) = gN by omega] at up
  have hfr := P.2.2.2.2.2.2
  have g320 := P.g320
  refine ⟨?_, o1, by omega⟩
  unfold D_X4_size
  rw [nI_add, ldI_n (by omega) (by omega), K.2.2.2.1 (g + 1) (by omega), Option.bind_some, ldI_n (by omega) (by omega), K.2.2.2.1 g (by omega), Option.bind_some, n_sub (by omega)]
theorem GRP.mem (P : GRP G t ce gN gr fr od kt) {g k : Nat} (hg : g < gN) (hk : fr g + k < fr (g + 1)) : thT G t (od (fr g + k)) ∧ gr (od (fr g + k)) = g + 1 ∧ psG fr od g k = od (fr g + k) := by
  obtain ⟨o1, o2, _⟩ := P.2.2.2.2.1.2 g hg
  obtain ⟨a1, a2, _⟩ := o2 (fr g + k) (by omega) hk
  exact ⟨(P.1 _).2 (by omega), a2, by unfold psG; rw [if_pos hk]⟩
theorem GRP.at' (P : GRP G t ce gN gr fr od kt) {g i : Nat} (hg : g < gN) (hi : gr i = g + 1) : ∃ k, fr g + k < fr (g + 1) ∧ od (fr g + k) = i := by
  obtain ⟨_, _, o3⟩ := P.2.2.2.2.1.2 g hg
  obtain ⟨m, m1, m2, m3⟩ := o3 i hi
  exact ⟨m - fr g, by omega, by rw [show fr g + (m - fr g) = m by omega]; exact m3⟩
end tok
