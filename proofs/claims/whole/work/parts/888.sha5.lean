/-- the class's seeking, round by round: the shades, and how many were there to choose from -/
def cQ (G : Gr) : Nat → SS × (Nat → Nat)
  | 0 => ((fun _ => 0, fun _ _ => 0, false, false, false), fun _ => 0)
  | r + 1 => (sRd G false (cQ G r).1.1 (cQ G r).2 (r + 1) (cQ G r).1, (cQ G r).1.1)
theorem cQ_s (G : Gr) (r : Nat) : cQ G (r + 1) = (sRd G false (cQ G r).1.1 (cQ G r).2 (r + 1) (cQ G r).1, (cQ G r).1.1) := rfl
theorem SO.rd {G : Gr} {b : Bool} {H O : Nat → Nat} {r : Nat} {S : SS} (hq : QG G) (h : GS H S) : GS H (sRd G b H O r S) := itN_inv (P := GS H) (fun _ _ h1 h => h.pr hq h1) h
theorem cQ_ok {G : Gr} (hq : QG G) : ∀ r, SO (cQ G r).1 ∧ ∀ s, (cQ G r).2 s ≤ 12
  | 0 => ⟨fun s => ⟨Nat.zero_le _, fun i hi => absurd hi (Nat.not_lt_zero _)⟩, fun s => Nat.zero_le _⟩
  | r + 1 => ⟨(SO.rd hq (H := (cQ G r).1.1) ⟨(cQ_ok hq r).1, fun s => Nat.le_refl _⟩).1, fun s => ((cQ_ok hq r).1 s).1⟩
def oT (G : Gr) (r : Nat) : Nat := tot (cQ G r).1
def oC (G : Gr) (r : Nat) : Bool := (cQ G r).1.2.2.1
def oO (G : Gr) (r : Nat) : Bool := (cQ G r).1.2.2.2.1
/-- the seeking ends with round r -/
def sE (G : Gr) (r : Nat) : Bool := oO G r || !decide (oT G (r - 1) < oT G r)
def nS (G : Gr) : Nat := 1 + fb (fun i => sE G (i + 1)) 97
def crN (G : Gr) : Nat → Nat
  | 0 => 0
  | r + 1 => if oC G (r + 1) = true ∧ crN G r = 0 then r + 1 else crN G r
def ctN (G : Gr) : Nat → Nat
  | 0 => 0
  | r + 1 => if oC G (r + 1) = true ∧ crN G r = 0 then oT G (r + 1) else ctN G r
theorem crN_le (G : Gr) : ∀ r, crN G r ≤ r
  | 0 => Nat.le_refl _
  | r + 1 => by
    unfold crN
    have := crN_le G r
    split <;> omega
theorem nS_le {G : Gr} (hq : QG G) : nS G ≤ 97 ∧ sE G (nS G) = true := by
  have h : fb (fun i => sE G (i + 1)) 97 < 97 := by
    by_cases c : ∃ i, i < 97 ∧ sE G (i + 1) = true
    · obtain ⟨i, h1, h2⟩ := c
      exact fb_ex h1 h2
    · exfalso
      have g : ∀ r, r ≤ 97 → r ≤ oT G r := fun r => by
        induction r with
        | zero => intro _; exact Nat.zero_le _
        | succ r ih =>
          intro h
          have i1 := ih (by omega)
          have e : ¬ sE G (r + 1) = true := fun z => c ⟨r, by omega, z⟩
          unfold sE at e
          simp only [Bool.or_eq_true, Bool.not_eq_true', decide_eq_false_iff_not, not_or, Decidable.not_not, Nat.add_sub_cancel] at e
          omega
      have h97 := g 97 (Nat.le_refl _)
      have : oT G 97 ≤ 96 := (cQ_ok hq 97).1.tot
      omega
  exact ⟨by unfold nS; omega, by
    have := fb_hit h
    unfold nS
    rw [Nat.add_comm]; exact this⟩
theorem nS_no {G : Gr} {r : Nat} (h1 : 1 ≤ r) (h : r < nS G) : sE G r = false := by
  have := fb_below (f := fun i => sE G (i + 1)) (n := 97) (j := r - 1) (by unfold nS at h; omega)
  rwa [show r - 1 + 1 = r by omega] at this
/-- the class's own state: as it goes in full, or both have too many -/
def Rl (A B : SS) : Prop := (B.2.2.2.1 = false ∧ A = B) ∨ (A.2.2.2.1 = true ∧ B.2.2.2.1 = true)
theorem Rl.refl {A : SS} : Rl A A := by
  cases c : A.2.2.2.1
  · exact Or.inl ⟨c, rfl⟩
  · exact Or.inr ⟨c, c⟩
theorem Rl.ov {A B : SS} (h : Rl A B) : A.2.2.2.1 = B.2.2.2.1 := by
  rcases h with ⟨_, h⟩ | ⟨h, h'⟩
  · rw [h]
  · rw [h, h']
theorem Rl.eq {A B : SS} (h : Rl A B) (c : B.2.2.2.1 = false) : A = B := by
  rcases h with ⟨_, h⟩ | ⟨_, h'⟩
  · exact h
  · rw [c] at h'; exact absurd h' (by decide)
theorem Rl.it {f g : Nat → SS → SS} {A B : SS} (h : Rl A B) : ∀ n, (∀ i A B, i < n → Rl A B → Rl (f i A) (g i B)) → Rl (itN f n A) (itN g n B)
  | 0, _ => h
  | n + 1, hf => hf n _ _ (by omega) (Rl.it h n fun i A B hi => hf i A B (by omega))
/-- too many stays too many -/
def Mo (f : SS → SS) : Prop := ∀ S, S.2.2.2.1 = true → (f S).2.2.2.1 = true
theorem Mo.it {f : Nat → SS → SS} {n : Nat} (hf : ∀ i, i < n → Mo (f i)) : Mo (itN f n) := fun S h => itN_inv (P := fun S : SS => S.2.2.2.1 = true) (fun i S hi h => hf i hi S h) h
theorem Rl.st {f g : Nat → SS → SS} {i : Nat} {A B : SS} (h : Rl A B) (hf : ∀ A, Rl (f i A) (g i A)) (hm : Mo (g i)) : Rl (sk f i A) (g i B) := by
  rcases h with ⟨c, e⟩ | ⟨c, d⟩
  · rw [e, sk_f c]; exact hf B
  · rw [sk_t c]; exact Or.inr ⟨c, hm B d⟩
theorem Mo.cast {G : Gr} {p i j k : Nat} : Mo (sCast G p i j k) := fun S h => by
  unfold sCast sKeep
  split
  · exact h
  · split
    · exact h
    · rfl
theorem Mo.t3 {G : Gr} {b : Bool} {H O : Nat → Nat} {p i j k : Nat} : Mo (c3 G b H O p i j k) := fun S h => by
  unfold c3
  split
  · exact Mo.cast S h
  · exact h
theorem Mo.t2 {G : Gr} {b : Bool} {H O : Nat → Nat} {p i j : Nat} : Mo (c2 G b H O p i j) := Mo.it fun _ _ => Mo.t3
theorem Mo.t1 {G : Gr} {b : Bool} {H O : Nat → Nat} {p i : Nat} : Mo (c1 G b H O p i) := Mo.it fun _ _ => Mo.t2
theorem Mo.t0 {G : Gr} {b : Bool} {H O : Nat → Nat} {p : Nat} : Mo (c0 G b H O p) := Mo.it fun _ _ => Mo.t1
theorem Mo.pr {G : Gr} {b : Bool} {H O : Nat → Nat} {r p : Nat} : Mo (sPr G b H O r p) := fun S h => by
  unfold sPr
  split
  · split
    · exact Mo.cast S h
    · exact h
  · split
    · exact h
    · exact Mo.t0 S h
theorem Mo.skp {f : Nat → SS → SS} {n : Nat} : Mo (itN (sk f) n) := fun S h => by rw [itN_t h n]; exact h
theorem Rl.t2 {G : Gr} {H O : Nat → Nat} {p i j : Nat} {A : SS} : Rl (d2 G H O p i j A) (c2 G false H O p i j A) := Rl.it Rl.refl _ fun _ _ _ _ h => h.st (fun _ => Rl.refl) Mo.t3
theorem Rl.t1 {G : Gr} {H O : Nat → Nat} {p i : Nat} {A : SS} : Rl (d1 G H O p i A) (c1 G false H O p i A) := Rl.it Rl.refl _ fun _ _ _ _ h => h.st (fun _ => Rl.t2) Mo.t2
theorem Rl.t0 {G : Gr} {H O : Nat → Nat} {p : Nat} {A : SS} : Rl (d0 G H O p A) (c0 G false H O p A) := Rl.it Rl.refl _ fun _ _ _ _ h => h.st (fun _ => Rl.t1) Mo.t1
theorem Rl.pr {G : Gr} {H O : Nat → Nat} {r p : Nat} {A B : SS} (h : Rl A B) (hp : 1 ≤ G.i 6 p) (h1 : r = 1 → ∀ s, H s = 0) : Rl (dPr G H O r p A) (sPr G false H O r p B) := by
  rcases h with ⟨c, e⟩ | ⟨c, d⟩
  · rw [e]
    unfold dPr sPr
    by_cases s1 : G.i 6 p = 1
    · rw [if_pos s1, if_pos s1]; exact Rl.refl
    · rw [if_neg s1, if_neg s1]
      by_cases r1 : r = 1
      · rw [if_pos r1]
        have e1 : d0 G H O p B = B := by
          unfold d0
          have : nCh G p H 1 = 0 := by
            unfold nCh
            rw [if_pos (by omega)]; exact h1 r1 _
          rw [this]; rfl
        rw [e1]; exact Rl.refl
      · rw [if_neg r1]; exact Rl.t0
  · refine Or.inr ⟨?_, Mo.pr B d⟩
    unfold dPr
    split
    · split
      · exact Mo.cast A c
      · exact c
    · exact Mo.skp A c
theorem Rl.rd {G : Gr} {H O : Nat → Nat} {r : Nat} {A B : SS} (hq : QG G) (h : Rl A B) (h1 : r = 1 → ∀ s, H s = 0) : Rl (dRd G H O r A) (sRd G false H O r B) := Rl.it h _ fun p _ _ hp h => h.pr (hq.sd hp).1 h1
theorem SO.drd {G : Gr} {H O : Nat → Nat} {r : Nat} {S : SS} (hq : QG G) (h : GS H S) : GS H (dRd G H O r S) := itN_inv (P := GS H) (fun _ _ h1 h => h.upr hq h1) h
/-- what the class keeps when n rounds are done -/
def CK (G : Gr) (n : Nat) (M : Mm) : Prop := (∃ S, CS G S M ∧ SO S ∧ Rl S (cQ G n).1) ∧ (1 ≤ n → M.1 24 7 = nI n) ∧ ((M.1 24 8 = nI (crN G n) ∧ (¬ crN G n = 0 → M.1 24 9 = nI (ctN G n))) ∨ (oO G n = true ∧ crN G (n - 1) = 0 ∧ (M.1 24 8 = nI 0 ∨ M.1 24 8 = nI n)))
def PSq (b j : Nat) : Prop := b = 24 ∧ 6 ≤ j ∨ 25 ≤ b ∧ b ≤ 29
theorem PSk.q {b j : Nat} (h : PSk b j) : PSq b j := by unfold PSk PSh at h; unfold PSq; omega
theorem PSq.cg {g k b j : Nat} (hg : g = 35 ∨ g = 52) (hk : k ≤ 16) (e : b = g + k) : ¬ PSq b j := fun q => by unfold PSq at q; omega
theorem PSk.f {b j : Nat} (h : PSk b j) : b = 24 → j = 6 ∨ j = 10 := fun e => by unfold PSk PSh at h; omega
theorem crN_s (G : Gr) (r : Nat) : crN G (r + 1) = if oC G (r + 1) = true ∧ crN G r = 0 then r + 1 else crN G r := rfl
theorem ctN_s (G : Gr) (r : Nat) : ctN G (r + 1) = if oC G (r + 1) = true ∧ crN G r = 0 then oT G (r + 1) else ctN G r := rfl
theorem loop_seek {g : Nat} {G : Gr} (N : Nat) (hN : 2000 < N) (hq : QG G) (hg : g = 35 ∨ g = 52) : ∀ (fu r : Nat) (f : Int32) (M : Mm), r ≤ nS G → 99 < r + fu → CG g G M → CK G r M → (∀ t, t < 8 → ¬ (cQ G r).1.1 t = 0 → M.1 26 t = nI ((cQ G r).2 t)) → (oO G r = false → f = if r = 0 ∨ oT G (r - 1) < oT G r then nI 1 else nI 0) → ∃ M', L_X6_seek_21 24 N g fu f (nI (r + 1)) M = some M' ∧ CK G (nS G) M' ∧ FX PSq M M'
  | 0, r, f, M, h1, h2, _, _, _, _ => by have := (nS_le hq).1; omega
  | fu + 1, r, f, M, h1, h2, K, C, h6, hf => by
    have hns := nS_le hq
    obtain ⟨ok1, ok2⟩ := cQ_ok hq r
    obtain ⟨⟨S, c1, c2, c3⟩, C7, C8⟩ := C
    have C : CK G r M := ⟨⟨S, c1, c2, c3⟩, C7, C8⟩
    rw [L_X6_seek_21]
    simp only [n_lt (show 97 < 2 ^ 31 by omega) (show r + 1 < 2 ^ 31 by omega)]
    by_cases e0 : 97 < r + 1
    · have er : r = nS G := by omega
      rw [if_pos e0]
      exact ⟨M, rfl, by rw [← er]; exact C, FX.refl⟩
    rw [if_neg e0]
    have hO : M.1 24 10 = bI (oO G r) := c1.2.2.trans (congrArg bI c3.ov)
    by_cases eo : oO G r = false
    · have eS := c3.eq eo
      subst eS
      have hf' := hf eo
      by_cases em : r = 0 ∨ oT G (r - 1) < oT G r
      · rw [if_pos em] at hf'
        rw [hf', if_neg z10, hO]
        simp only [bI_0]
        rw [if_pos eo]
        have rn : r < nS G := by
          by_cases z : r = nS G
          · have := hns.2
            rw [← z] at this
            unfold sE at this
            rw [eo, Bool.false_or, Bool.not_eq_true', decide_eq_false_iff_not] at this
            have : r = 0 := by omega
            unfold nS at z; omega
          · omega
        obtain ⟨M4, a1, a2, a3, a4⟩ := s_goRound (r := r + 1) N hN hq hg (by omega) ok1 ok2 K c1 h6
        have gd : GS (cQ G r).1.1 (dRd G (cQ G r).1.1 (cQ G r).2 (r + 1) (cQ G r).1) := SO.drd hq ⟨ok1, fun s => Nat.le_refl _⟩
        have rl : Rl (dRd G (cQ G r).1.1 (cQ G r).2 (r + 1) (cQ G r).1) (cQ G (r + 1)).1 := Rl.rd hq Rl.refl fun z s => by
          have : r = 0 := by omega
          subst this; rfl
        generalize dRd G (cQ G r).1.1 (cQ G r).2 (r + 1) (cQ G r).1 = D at a2 gd rl
        have ok' := gd.1
        rw [s_total N hN ok1 c1, Option.bind_some, a1, Option.bind_some, pI_n, Option.bind_some]
        have f5 : FX PSq M4 (upI M4 24 7 (nI (r + 1))) := FX.I (by unfold PSq; omega)
        have c5 : CS G D (upI M4 24 7 (nI (r + 1))) := a2.fx (P := fun b j => b = 24 ∧ j = 7) (FX.I ⟨rfl, rfl⟩) (fun j q => by omega) (fun j q => by omega) (fun q => by omega) (fun q => by omega)
        have C8' : M.1 24 8 = nI (crN G r) ∧ (¬ crN G r = 0 → M.1 24 9 = nI (ctN G r)) := by
          rcases C8 with C8 | C8
          · exact C8
          · rw [eo] at C8; exact absurd C8.1 (by decide)
        have e8 : (upI M4 24 7 (nI (r + 1))).1 24 8 = nI (crN G r) := by rw [upI_j, if_neg (by decide), (a4.2 24 8 (fun q => by have := q.f rfl; omega)).1]; exact C8'.1
        have e9 : ¬ crN G r = 0 → (upI M4 24 7 (nI (r + 1))).1 24 9 = nI (ctN G r) := fun z => by rw [upI_j, if_neg (by decide), (a4.2 24 9 (fun q => by have := q.f rfl; omega)).1]; exact C8'.2 z
        have e7 : (upI M4 24 7 (nI (r + 1))).1 24 7 = nI (r + 1) := upI_s _ _ _ _
        have e6 : ∀ t, t < 8 → (upI M4 24 7 (nI (r + 1))).1 26 t = nI ((cQ G (r + 1)).2 t) := fun t ht => by rw [up1, if_neg (by decide)]; exact a3 t ht
        have F5 : FX PSq M (upI M4 24 7 (nI (r + 1))) := (a4.mono fun b j q => q.q).trans f5
        have cr := crN_le G r
        have key : ∃ M8, (if (upI M4 24 7 (nI (r + 1))).1 24 6 = nI 0 then (some (upI M4 24 7 (nI (r + 1)))) else (if (upI M4 24 7 (nI (r + 1))).1 24 8 = nI 0 then ((pI (upI M4 24 7 (nI (r + 1))) 24 8 (nI (r + 1))).bind fun M7 => (D_X6_total N 24 M7).bind fun q3 => (pI M7 24 9 q3).bind fun M8 => (some M8)) else (some (upI M4 24 7 (nI (r + 1)))))) = some M8 ∧ CS G D M8 ∧ CK G (r + 1) M8 ∧ FX PSq M M8 ∧ ∀ t, t < 8 → M8.1 26 t = nI ((cQ G (r + 1)).2 t) := by
          generalize upI M4 24 7 (nI (r + 1)) = M5 at c5 e8 e9 e7 e6 F5
          rw [c5.2.1, e8]
          simp only [bI_0, n_eq (show crN G r < 2 ^ 31 by omega) (show 0 < 2 ^ 31 by omega)]
          -- a round without a circle, or with one when one was found: nothing is kept
          have stay : (oO G (r + 1) = false → crN G (r + 1) = crN G r ∧ ctN G (r + 1) = ctN G r) → CK G (r + 1) M5 := fun hs => by
            refine ⟨⟨D, c5, ok', rl⟩, fun _ => e7, ?_⟩
            cases z : oO G (r + 1)
            · obtain ⟨h1, h2⟩ := hs z
              exact Or.inl ⟨by rw [h1]; exact e8, fun y => by rw [h2]; exact e9 (by rw [← h1]; exact y)⟩
            · by_cases y : crN G r = 0
              · exact Or.inr ⟨rfl, y, Or.inl (by rw [e8, y])⟩
              · have n1 : ¬ (oC G (r + 1) = true ∧ crN G r = 0) := fun w => y w.2
                exact Or.inl ⟨by rw [crN_s, if_neg n1]; exact e8, fun _ => by rw [ctN_s, if_neg n1]; exact e9 y⟩
          cases x : D.2.2.1
          · rw [if_pos rfl]
            refine ⟨M5, rfl, c5, stay fun z => ?_, F5, e6⟩
            have eD := rl.eq z
            have n1 : ¬ (oC G (r + 1) = true ∧ crN G r = 0) := fun w => by
              have := w.1
              unfold oC at this
              rw [← eD, x] at this
              exact absurd this (by decide)
            exact ⟨by rw [crN_s, if_neg n1], by rw [ctN_s, if_neg n1]⟩
          · rw [if_neg (by decide)]
            by_cases y : crN G r = 0
            · rw [if_pos y, pI_n, Option.bind_some]
              have c7 : CS G D (upI M5 24 8 (nI (r + 1))) := c5.fx (P := fun b j => b = 24 ∧ j = 8) (FX.I ⟨rfl, rfl⟩) (fun j q => by omega) (fun j q => by omega) (fun q => by omega) (fun q => by omega)
              rw [s_total N hN ok' c7, Option.bind_some, pI_n, Option.bind_some]
              have c9 : CS G D (upI (upI M5 24 8 (nI (r + 1))) 24 9 (nI (tot D))) := c7.fx (P := fun b j => b = 24 ∧ j = 9) (FX.I ⟨rfl, rfl⟩) (fun j q => by omega) (fun j q => by omega) (fun q => by omega) (fun q => by omega)
              have g8 : (upI (upI M5 24 8 (nI (r + 1))) 24 9 (nI (tot D))).1 24 8 = nI (r + 1) := by rw [upI_j, if_neg (by decide), upI_s]
              refine ⟨_, rfl, c9, ⟨⟨D, c9, ok', rl⟩, fun _ => ?_, ?_⟩, (F5.trans (FX.I (by unfold PSq; omega))).trans (FX.I (by unfold PSq; omega)), fun t ht => ?_⟩
              · rw [upI_j, if_neg (by decide), upI_j, if_neg (by decide)]; exact e7
              · cases z : oO G (r + 1)
                · have eD := rl.eq z
                  have y1 : oC G (r + 1) = true ∧ crN G r = 0 := ⟨by unfold oC; rw [← eD]; exact x, y⟩
                  refine Or.inl ⟨by rw [crN_s, if_pos y1]; exact g8, fun _ => ?_⟩
                  rw [upI_s, ctN_s, if_pos y1, eD]; rfl
                · exact Or.inr ⟨rfl, y, Or.inr g8⟩
              · rw [up1, if_neg (by decide), up1, if_neg (by decide)]; exact e6 t ht
            · rw [if_neg y]
              have n1 : ¬ (oC G (r + 1) = true ∧ crN G r = 0) := fun w => y w.2
              exact ⟨M5, rfl, c5, stay fun _ => ⟨by rw [crN_s, if_neg n1], by rw [ctN_s, if_neg n1]⟩, F5, e6⟩
        obtain ⟨M8, k1, kc, k2, k3, k4⟩ := key
        have K8 : CG g G M8 := K.fx k3 fun k hk j q => q.cg hg hk rfl
        have tb : tot (cQ G r).1 ≤ 96 := ok1.tot
        have tb' : tot D ≤ 96 := ok'.tot
        have hfl : oO G (r + 1) = false → (if tot D ≤ tot (cQ G r).1 then nI 0 else nI 1) = if r + 1 = 0 ∨ oT G (r + 1 - 1) < oT G (r + 1) then nI 1 else nI 0 := fun z => by
          have eD := rl.eq z
          by_cases w : tot D ≤ tot (cQ G r).1
          · rw [if_pos w, if_neg (fun z => by unfold oT at z; rw [Nat.add_sub_cancel, ← eD] at z; omega)]
          · rw [if_neg w, if_pos (Or.inr (by unfold oT; rw [Nat.add_sub_cancel, ← eD]; omega))]
        obtain ⟨M', b1, b2, b3⟩ := loop_seek N hN hq hg fu (r + 1) _ M8 (by omega) (by omega) K8 k2 (fun t ht _ => k4 t ht) hfl
        rw [k1, Option.bind_some, s_total N hN ok' kc, Option.bind_some]
        simp only [n_le (show tot D < 2 ^ 31 by omega) (show tot (cQ G r).1 < 2 ^ 31 by omega), nI_add, Option.bind_some]
        refine ⟨M', ?_, b2, k3.trans b3⟩
        rw [← b1]
        by_cases w : tot D ≤ tot (cQ G r).1
        · rw [if_pos w, if_pos w]
        · rw [if_neg w, if_neg w]
      · rw [if_neg em] at hf'
        rw [hf', if_pos rfl]
        have er : r = nS G := by
          by_cases z : r < nS G
          · have := nS_no (G := G) (r := r) (by omega) z
            unfold sE at this
            rw [decide_eq_false (fun w => em (Or.inr w)), Bool.not_false, Bool.or_true] at this
            exact absurd this (by decide)
          · omega
        exact ⟨M, rfl, by rw [← er]; exact C, FX.refl⟩
    · have x' : oO G r = true := by cases q : oO G r <;> simp_all
      have er : r = nS G := by
        by_cases z : r < nS G
        · by_cases y : r = 0
          · subst y; exact absurd (show false = true from x') (by decide)
          · have := nS_no (G := G) (r := r) (by omega) z
            unfold sE at this
            rw [x', Bool.true_or] at this
            exact absurd this (by decide)
        · omega
      rw [hO, x', if_neg (show ¬ bI true = nI 0 from z10)]
      by_cases z : f = nI 0
      · rw [if_pos z]; exact ⟨M, rfl, by rw [← er]; exact C, FX.refl⟩
      · rw [if_neg z]; exact ⟨M, rfl, by rw [← er]; exact C, FX.refl⟩
/-- shades are sought, or were -/
def CKs (G : Gr) (M : Mm) : Prop := M.1 24 5 = nI 0 ∨ (M.1 24 5 = nI 1 ∧ CK G (nS G) M)
def PSr (b _j : Nat) : Prop := 24 ≤ b ∧ b ≤ 29
theorem len26 : len 26 = 8 := rfl
theorem len29 : len 29 = 8 := rfl
theorem s_seek {g : Nat} {G : Gr} {M : Mm} (N : Nat) (hN : 2000 < N) (hq : QG G) (hg : g = 35 ∨ g = 52) (K : CG g G M) (C : CKs G M) : ∃ M', D_X6_seek N 24 g M = some M' ∧ M'.1 24 5 = nI 1 ∧ CK G (nS G) M' ∧ FX PSr M M' := by
  unfold D_X6_seek
  cases C with
  | inr C => rw [C.1, if_neg z10]; exact ⟨M, rfl, C.1, C.2, FX.refl⟩
  | inl C =>
    rw [C, if_pos rfl, pZ_1, Option.bind_some]
    unfold D_X6_begin
    rw [show (24 : Nat) + 5 = 29 from rfl, fill_n N 29 (nI 0) _ len29 (by omega) (by omega), Option.bind_some, pZ_0, Option.bind_some, pZ_0, Option.bind_some, pI_n, Option.bind_some, Option.bind_some]
    have f0 : ∀ (M : Mm) (a : Nat) (r : Nat → Int32), 24 ≤ a ∧ a ≤ 29 → FX PSr M (upR M.1 a r, M.2) := fun M a r ha => ⟨rfl, fun b j q => ⟨by rw [mR1, if_neg (fun z => q (by unfold PSr; omega))], rfl⟩⟩
    have f1 : FX PSr M (upI M 24 5 (nI 1)) := FX.I (by unfold PSr; omega)
    generalize hM1 : upI M 24 5 (nI 1) = M1 at f1
    have x1 : M1.1 24 5 = nI 1 := by rw [← hM1, upI_s]
    have f3 := f0 M1 29 (fun j => if j < 8 then nI 0 else M1.1 29 j) (by omega)
    generalize hM3 : ((upR M1.1 29 (fun j => if j < 8 then nI 0 else M1.1 29 j), M1.2) : Mm) = M3 at f3
    have x3 : M3.1 24 5 = nI 1 := by rw [← hM3, mR1, if_neg (by decide)]; exact x1
    have w3 : ∀ t, t < 8 → M3.1 29 t = nI 0 := fun t ht => by rw [← hM3, mR1, if_pos rfl, if_pos ht]
    have f4 : FX PSr M3 (upI (upI (upI M3 24 6 (nI 0)) 24 10 (nI 0)) 24 8 (nI 0)) := ((FX.I (P := PSr) (by unfold PSr; omega)).trans (FX.I (by unfold PSr; omega))).trans (FX.I (by unfold PSr; omega))
    have F4 := (f1.trans f3).trans f4
    have r4 : ∀ b j, ¬ b = 24 → (upI (upI (upI M3 24 6 (nI 0)) 24 10 (nI 0)) 24 8 (nI 0)).1 b j = M3.1 b j := fun b j hb => by rw [up1, if_neg hb, up1, if_neg hb, up1, if_neg hb]
    have r5 : ∀ j, (upI (upI (upI M3 24 6 (nI 0)) 24 10 (nI 0)) 24 8 (nI 0)).1 24 j = if j = 8 then nI 0 else if j = 10 then nI 0 else if j = 6 then nI 0 else M3.1 24 j := fun j => by rw [upI_j, upI_j, upI_j]
    generalize upI (upI (upI M3 24 6 (nI 0)) 24 10 (nI 0)) 24 8 (nI 0) = M4 at F4 r4 r5
    have K4 : CG g G M4 := K.fx F4 fun k hk j q => by unfold PSr at q; omega
    have C4 : CK G 0 M4 := ⟨⟨(cQ G 0).1, ⟨fun s hs => ⟨by rw [r4 _ _ (by decide)]; exact w3 s hs, fun i hi => absurd hi (Nat.not_lt_zero _)⟩, by rw [r5]; rfl, by rw [r5]; rfl⟩, (cQ_ok hq 0).1, Rl.refl⟩, fun z => by omega, Or.inl ⟨by rw [r5]; rfl, fun z => absurd rfl z⟩⟩
    obtain ⟨M', b1, b2, b3⟩ := loop_seek N hN hq hg N 0 (nI 1) M4 (Nat.zero_le _) (by omega) K4 C4 (fun t ht z => absurd rfl z) (fun _ => by rw [if_pos (Or.inl rfl)])
    refine ⟨M', b1, ?_, b2, F4.trans (b3.mono fun b j q => by unfold PSq at q; unfold PSr; omega)⟩
    rw [(b3.2 24 5 (fun q => by unfold PSq at q; omega)).1, r5]; exact x3
