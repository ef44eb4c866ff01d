-- shades that are old, cast again, change nothing
def E4 (S T : SS) : Prop := S.1 = T.1 ∧ S.2.1 = T.2.1 ∧ S.2.2.1 = T.2.2.1 ∧ S.2.2.2.1 = T.2.2.2.1
theorem E4.refl {S : SS} : E4 S S := ⟨rfl, rfl, rfl, rfl⟩
theorem E4.symm {S T : SS} (h : E4 S T) : E4 T S := ⟨h.1.symm, h.2.1.symm, h.2.2.1.symm, h.2.2.2.symm⟩
theorem E4.trans {S T U : SS} (h : E4 S T) (h' : E4 T U) : E4 S U := ⟨h.1.trans h'.1, h.2.1.trans h'.2.1, h.2.2.1.trans h'.2.2.1, h.2.2.2.trans h'.2.2.2⟩
def Ex (S T : SS) : Prop := (∀ s, S.1 s ≤ T.1 s) ∧ (∀ s i, i < S.1 s → T.2.1 s i = S.2.1 s i) ∧ (S.2.2.1 = true → T.2.2.1 = true) ∧ (S.2.2.2.1 = true → T.2.2.2.1 = true)
theorem Ex.refl {S : SS} : Ex S S := ⟨fun _ => Nat.le_refl _, fun _ _ _ => rfl, fun h => h, fun h => h⟩
theorem Ex.trans {S T U : SS} (h : Ex S T) (h' : Ex T U) : Ex S U := ⟨fun s => Nat.le_trans (h.1 s) (h'.1 s), fun s i hi => (h'.2.1 s i (Nat.lt_of_lt_of_le hi (h.1 s))).trans (h.2.1 s i hi), fun z => h'.2.2.1 (h.2.2.1 z), fun z => h'.2.2.2 (h.2.2.2 z)⟩
theorem Ex.e4 {S T : SS} (h : E4 S T) : Ex S T := ⟨fun s => by rw [h.1]; exact Nat.le_refl _, fun s i _ => by rw [h.2.1], fun z => by rw [← h.2.2.1]; exact z, fun z => by rw [← h.2.2.2]; exact z⟩
theorem Ex.keep {s v : Nat} {S : SS} : Ex S (sKeep s v S) := by
  unfold sKeep
  split
  · exact Ex.refl
  · split
    · refine ⟨fun t => ?_, fun t i hi => ?_, fun h => h, fun h => h⟩
      · show S.1 t ≤ (if t = s then S.1 s + 1 else S.1 t)
        split
        · rename_i c; subst c; omega
        · exact Nat.le_refl _
      · show (if t = s ∧ i = S.1 s then v else S.2.1 t i) = S.2.1 t i
        rw [if_neg]
        rintro ⟨rfl, rfl⟩
        omega
    · exact ⟨fun _ => Nat.le_refl _, fun _ _ _ => rfl, fun h => h, fun _ => rfl⟩
theorem Ex.cast {G : Gr} {p i j k : Nat} {S : SS} : Ex S (sCast G p i j k S) := by
  unfold sCast
  exact Ex.trans (T := (S.1, S.2.1, (S.2.2.1 || shX G p (ch G p S i j k)), S.2.2.2.1, S.2.2.2.2)) ⟨fun _ => Nat.le_refl _, fun _ _ _ => rfl, fun z => by rw [z, Bool.true_or], fun z => z⟩ Ex.keep
theorem sCast_E4 {G : Gr} {p i j k : Nat} {S T : SS} (h : E4 S T) : E4 (sCast G p i j k S) (sCast G p i j k T) := by
  obtain ⟨a, b, c, d, e⟩ := S
  obtain ⟨a', b', c', d', e'⟩ := T
  obtain ⟨h1, h2, h3, h4⟩ := h
  dsimp only at h1 h2 h3 h4
  subst h1 h2 h3 h4
  unfold sCast sKeep sAt ch
  dsimp only
  split
  · exact E4.refl
  · split
    · exact E4.refl
    · exact E4.refl
def VC (G : Gr) (p i j k : Nat) (S : SS) : Prop := (1 < G.i 6 p → i < S.1 (G.i 7 (4 * p + 1))) ∧ (2 < G.i 6 p → j < S.1 (G.i 7 (4 * p + 2))) ∧ (3 < G.i 6 p → k < S.1 (G.i 7 (4 * p + 3)))
theorem ch_ex {G : Gr} {p i j k : Nat} {S T : SS} (hd : G.i 6 p ≤ 4) (v : VC G p i j k S) (h : Ex S T) : ∀ m, 1 ≤ m → m < G.i 6 p → ch G p T i j k m = ch G p S i j k m := fun m h1 h2 => by
  unfold ch
  refine h.2.1 _ _ ?_
  by_cases m1 : m = 1
  · subst m1; rw [if_pos rfl]; exact v.1 h2
  · rw [if_neg m1]
    by_cases m2 : m = 2
    · subst m2; rw [if_pos rfl]; exact v.2.1 h2
    · rw [if_neg m2]
      have m3 : m = 3 := by omega
      subst m3; exact v.2.2 h2
theorem shC_congr {G : Gr} {p : Nat} {c c' : Nat → Nat} (h : ∀ m, 1 ≤ m → m < G.i 6 p → c m = c' m) : shC G p c = shC G p c' := by
  unfold shC
  have e : shR G p c (G.i 6 p) = shR G p c' (G.i 6 p) := funext fun o => by
    unfold shR shA
    by_cases x : o < 8 * G.i 6 p
    · rw [if_pos x, if_pos x]
      by_cases y : (1 ≤ o / 8 ∧ o / 8 < G.i 6 p) ∧ G.i 4 (G.i 7 (4 * p + o / 8)) ≤ o % 8 ∧ o % 8 < att G (G.i 7 (4 * p + o / 8))
      · rw [if_pos y, if_pos y, h _ y.1.1 y.1.2]
      · rw [if_neg y, if_neg y]
    · rw [if_neg x, if_neg x]
  rw [e]
/-- what a cast would find, was found -/
def Dn (G : Gr) (p i j k : Nat) (S : SS) : Prop := (shX G p (ch G p S i j k) = true → S.2.2.1 = true) ∧ (sAt S (G.i 7 (4 * p)) (shV G p (ch G p S i j k) (G.i 5 (G.i 7 (4 * p)))) < S.1 (G.i 7 (4 * p)) ∨ (12 ≤ S.1 (G.i 7 (4 * p)) ∧ S.2.2.2.1 = true))
theorem Dn.ex {G : Gr} {p i j k : Nat} {S T : SS} (hd : G.i 6 p ≤ 4) (d : Dn G p i j k S) (v : VC G p i j k S) (h : Ex S T) : Dn G p i j k T := by
  have hc := shC_congr (G := G) (p := p) (ch_ex hd v h)
  have hX : shX G p (ch G p T i j k) = shX G p (ch G p S i j k) := by unfold shX; rw [hc]
  have hV : shV G p (ch G p T i j k) (G.i 5 (G.i 7 (4 * p))) = shV G p (ch G p S i j k) (G.i 5 (G.i 7 (4 * p))) := by unfold shV; rw [hc]
  refine ⟨fun z => h.2.2.1 (d.1 (by rw [← hX]; exact z)), ?_⟩
  rw [hV]
  cases d.2 with
  | inl e =>
    refine Or.inl (fb_ex (Nat.lt_of_lt_of_le e (h.1 _)) ?_)
    have := fb_hit e
    rw [h.2.1 _ _ e]; exact this
  | inr e => exact Or.inr ⟨Nat.le_trans e.1 (h.1 _), h.2.2.2 e.2⟩
theorem Dn.same {G : Gr} {p i j k : Nat} {S : SS} (d : Dn G p i j k S) : E4 (sCast G p i j k S) S := by
  have ec : (S.2.2.1 || shX G p (ch G p S i j k)) = S.2.2.1 := by
    cases x : shX G p (ch G p S i j k)
    · rw [Bool.or_false]
    · rw [d.1 x]; rfl
  unfold sCast
  rw [ec]
  unfold sKeep
  by_cases e : sAt S (G.i 7 (4 * p)) (shV G p (ch G p S i j k) (G.i 5 (G.i 7 (4 * p)))) < S.1 (G.i 7 (4 * p))
  · rw [if_pos (show sAt (S.1, S.2.1, S.2.2.1, S.2.2.2.1, S.2.2.2.2) _ _ < _ from e)]; exact E4.refl
  · rw [if_neg (show ¬ sAt (S.1, S.2.1, S.2.2.1, S.2.2.2.1, S.2.2.2.2) _ _ < _ from e)]
    cases d.2 with
    | inl e' => exact absurd e' e
    | inr e' => rw [if_neg (show ¬ S.1 (G.i 7 (4 * p)) < 12 by omega)]; exact ⟨rfl, rfl, rfl, e'.2.symm⟩
theorem cast_Dn {G : Gr} {p i j k : Nat} {S : SS} (hd : G.i 6 p ≤ 4) (v : VC G p i j k S) : Dn G p i j k (sCast G p i j k S) := by
  have h : Ex S (sCast G p i j k S) := Ex.cast
  have hc := shC_congr (G := G) (p := p) (ch_ex hd v h)
  have hX : shX G p (ch G p (sCast G p i j k S) i j k) = shX G p (ch G p S i j k) := by unfold shX; rw [hc]
  have hV : shV G p (ch G p (sCast G p i j k S) i j k) (G.i 5 (G.i 7 (4 * p))) = shV G p (ch G p S i j k) (G.i 5 (G.i 7 (4 * p))) := by unfold shV; rw [hc]
  unfold Dn
  rw [hX, hV]
  generalize hv : shV G p (ch G p S i j k) (G.i 5 (G.i 7 (4 * p))) = w
  unfold sCast
  rw [hv]
  generalize hs : G.i 7 (4 * p) = s
  unfold sKeep
  by_cases e : sAt S s w < S.1 s
  · rw [if_pos (show sAt (S.1, S.2.1, (S.2.2.1 || shX G p (ch G p S i j k)), S.2.2.2.1, S.2.2.2.2) s w < _ from e)]
    exact ⟨fun z => by show (S.2.2.1 || _) = true; rw [z, Bool.or_true], Or.inl e⟩
  · rw [if_neg (show ¬ sAt (S.1, S.2.1, (S.2.2.1 || shX G p (ch G p S i j k)), S.2.2.2.1, S.2.2.2.2) s w < _ from e)]
    by_cases c : S.1 s < 12
    · rw [if_pos (show (S.1, S.2.1, (S.2.2.1 || shX G p (ch G p S i j k)), S.2.2.2.1, S.2.2.2.2).1 s < 12 from c)]
      refine ⟨fun z => by show (S.2.2.1 || _) = true; rw [z, Bool.or_true], Or.inl ?_⟩
      show fb (fun i => decide ((if s = s ∧ i = S.1 s then w else S.2.1 s i) = w)) (if s = s then S.1 s + 1 else S.1 s) < (if s = s then S.1 s + 1 else S.1 s)
      rw [if_pos rfl]
      exact fb_ex (j := S.1 s) (by omega) (decide_eq_true (if_pos ⟨rfl, rfl⟩))
    · rw [if_neg (show ¬ (S.1, S.2.1, (S.2.2.1 || shX G p (ch G p S i j k)), S.2.2.2.1, S.2.2.2.2).1 s < 12 from c)]
      exact ⟨fun z => by show (S.2.2.1 || _) = true; rw [z, Bool.or_true], Or.inr ⟨by show 12 ≤ S.1 s; omega, rfl⟩⟩
theorem itN_rel {R : SS → SS → Prop} {f f' : Nat → SS → SS} : ∀ {n : Nat} {S T : SS}, (∀ k S T, k < n → R S T → R (f k S) (f' k T)) → R S T → R (itN f n S) (itN f' n T)
  | 0, _, _, _, h => h
  | n + 1, S, T, hf, h => hf n _ _ (by omega) (itN_rel (n := n) (fun k S T hk => hf k S T (by omega)) h)
theorem itN_all {X : SS → SS → Prop} {I : SS → Prop} {P : Nat → SS → Prop} {f : Nat → SS → SS} (xr : ∀ S, X S S) (xt : ∀ S T U, X S T → X T U → X S U) : ∀ {n : Nat} {S : SS}, (∀ k S, k < n → I S → I (f k S) ∧ X S (f k S) ∧ P k (f k S)) → (∀ k S T, k < n → P k S → I S → X S T → P k T) → I S → I (itN f n S) ∧ X S (itN f n S) ∧ ∀ k, k < n → P k (itN f n S)
  | 0, S, _, _, h => ⟨h, xr S, fun k hk => absurd hk (Nat.not_lt_zero _)⟩
  | n + 1, S, hf, hP, h => by
    obtain ⟨a, b, c⟩ := itN_all (n := n) (S := S) xr xt (fun k S hk => hf k S (by omega)) (fun k S T hk => hP k S T (by omega)) h
    obtain ⟨a', b', c'⟩ := hf n (itN f n S) (by omega) a
    refine ⟨a', xt _ _ _ b b', fun k hk => ?_⟩
    by_cases e : k = n
    · subst e; exact c'
    · exact hP k _ _ hk (c k (by omega)) a b'
theorem VC.of {G : Gr} {H : Nat → Nat} {p i j k : Nat} {S : SS} (h : GS H S) (hi : i < nCh G p H 1) (hj : j < nCh G p H 2) (hk : k < nCh G p H 3) : VC G p i j k S := ⟨fun m => nCh_in h hi m, fun m => nCh_in h hj m, fun m => nCh_in h hk m⟩
/-- all that H lets choose for p, is done -/
def AP (G : Gr) (H : Nat → Nat) (p : Nat) (S : SS) : Prop := ∀ i j k, i < nCh G p H 1 → j < nCh G p H 2 → k < nCh G p H 3 → Dn G p i j k S
theorem AP.ex {G : Gr} {H : Nat → Nat} {p : Nat} {S T : SS} (hd : G.i 6 p ≤ 4) (a : AP G H p S) (g : GS H S) (h : Ex S T) : AP G H p T := fun i j k hi hj hk => (a i j k hi hj hk).ex hd (VC.of g hi hj hk) h
theorem c0_AP {G : Gr} {H O : Nat → Nat} {p : Nat} {S : SS} (hq : QG G) (hp : p < G.i 0 1) (h : GS H S) : Ex S (c0 G true H O p S) ∧ AP G H p (c0 G true H O p S) := by
  have hd := (hq.sd hp).2
  have a2 : ∀ i j S, i < nCh G p H 1 → j < nCh G p H 2 → GS H S → GS H (c2 G true H O p i j S) ∧ Ex S (c2 G true H O p i j S) ∧ ∀ k, k < nCh G p H 3 → Dn G p i j k (c2 G true H O p i j S) := fun i j S hi hj h => by
    refine itN_all (X := Ex) (I := GS H) (P := fun k => Dn G p i j k) (fun _ => Ex.refl) (fun _ _ _ => Ex.trans) (fun k S hk h => ?_) (fun k S T hk d h x => d.ex hd (VC.of h hi hj hk) x) h
    have e : c3 G true H O p i j k S = sCast G p i j k S := by unfold c3; rw [Bool.true_or, Bool.true_or, Bool.true_or, if_pos rfl]
    rw [e]
    exact ⟨h.cast hq hp, Ex.cast, cast_Dn hd (VC.of h hi hj hk)⟩
  have a1 : ∀ i S, i < nCh G p H 1 → GS H S → GS H (c1 G true H O p i S) ∧ Ex S (c1 G true H O p i S) ∧ ∀ j, j < nCh G p H 2 → ∀ k, k < nCh G p H 3 → Dn G p i j k (c1 G true H O p i S) := fun i S hi h =>
    itN_all (X := Ex) (I := GS H) (P := fun j S => ∀ k, k < nCh G p H 3 → Dn G p i j k S) (fun _ => Ex.refl) (fun _ _ _ => Ex.trans) (fun j S hj h => a2 i j S hi hj h) (fun j S T hj d h x k hk => (d k hk).ex hd (VC.of h hi hj hk) x) h
  have a0 := itN_all (X := Ex) (I := GS H) (P := fun i S => ∀ j, j < nCh G p H 2 → ∀ k, k < nCh G p H 3 → Dn G p i j k S) (f := c1 G true H O p) (n := nCh G p H 1) (S := S) (fun _ => Ex.refl) (fun _ _ _ => Ex.trans) (fun i S hi h => a1 i S hi h) (fun i S T hi d h x j hj k hk => (d j hj k hk).ex hd (VC.of h hi hj hk) x) h
  exact ⟨a0.2.1, fun i j k hi hj hk => a0.2.2 i hi j hj k hk⟩
theorem pr_AP {G : Gr} {H O : Nat → Nat} {r p : Nat} {S : SS} (hq : QG G) (hp : p < G.i 0 1) (h : GS H S) : Ex S (sPr G true H O r p S) ∧ (¬ r = 1 → ¬ G.i 6 p = 1 → AP G H p (sPr G true H O r p S)) := by
  unfold sPr
  by_cases e : G.i 6 p = 1
  · rw [if_pos e]
    refine ⟨?_, fun _ z => absurd e z⟩
    split
    · exact Ex.cast
    · exact Ex.refl
  · rw [if_neg e]
    by_cases d : r = 1
    · rw [if_pos d]; exact ⟨Ex.refl, fun z => absurd d z⟩
    · rw [if_neg d]
      obtain ⟨x, y⟩ := c0_AP (O := O) hq hp h
      exact ⟨x, fun _ _ => y⟩
def AD (G : Gr) (H : Nat → Nat) (S : SS) : Prop := ∀ p, p < G.i 0 1 → ¬ G.i 6 p = 1 → AP G H p S
theorem rd_AD {G : Gr} {H O : Nat → Nat} {r : Nat} {S : SS} (hq : QG G) (h : GS H S) : Ex S (sRd G true H O r S) ∧ (¬ r = 1 → AD G H (sRd G true H O r S)) := by
  have a := itN_all (X := Ex) (I := GS H) (P := fun p S => ¬ r = 1 → ¬ G.i 6 p = 1 → AP G H p S) (f := sPr G true H O r) (n := G.i 0 1) (S := S) (fun _ => Ex.refl) (fun _ _ _ => Ex.trans) (fun p S hp h => ⟨h.pr hq hp, (pr_AP hq hp h).1, (pr_AP hq hp h).2⟩) (fun p S T hp d h x r1 s1 => (d r1 s1).ex (hq.sd hp).2 h x) h
  exact ⟨a.2.1, fun r1 p hp s1 => a.2.2 p hp r1 s1⟩
-- both round by round
def R2 (H : Nat → Nat) (S0 : SS) (S T : SS) : Prop := E4 S T ∧ Ex S0 T ∧ GS H S ∧ GS H T
theorem R2.cast {G : Gr} {H : Nat → Nat} {p i j k : Nat} {S0 S T : SS} (hq : QG G) (hp : p < G.i 0 1) (h : R2 H S0 S T) : R2 H S0 (sCast G p i j k S) (sCast G p i j k T) := ⟨sCast_E4 h.1, h.2.1.trans Ex.cast, h.2.2.1.cast hq hp, h.2.2.2.cast hq hp⟩
theorem isN_old {G : Gr} {O : Nat → Nat} {p m i : Nat} (h : isN G p O m i = false) (hi : ¬ m < G.i 6 p → i = 0) : i < nCh G p O m := by
  unfold isN at h
  unfold nCh
  by_cases e : m < G.i 6 p
  · rw [decide_eq_true e, Bool.true_and, decide_eq_false_iff_not] at h
    rw [if_pos e]; omega
  · rw [if_neg e, hi e]; omega
theorem R2.pr {G : Gr} {H O : Nat → Nat} {r p : Nat} {S0 S T : SS} (O' : Nat → Nat) (hq : QG G) (hp : p < G.i 0 1) (g0 : GS O S0) (hd : ¬ G.i 6 p = 1 → AP G O p S0) (h : R2 H S0 S T) : R2 H S0 (sPr G false H O r p S) (sPr G true H O' r p T) := by
  have h4 := (hq.sd hp).2
  unfold sPr
  by_cases e : G.i 6 p = 1
  · rw [if_pos e, if_pos e]
    by_cases d : r = 1
    · rw [if_pos d, if_pos d]; exact h.cast hq hp
    · rw [if_neg d, if_neg d]; exact h
  · rw [if_neg e, if_neg e]
    by_cases d : r = 1
    · rw [if_pos d, if_pos d]; exact h
    · rw [if_neg d, if_neg d]
      refine itN_rel (R := R2 H S0) (fun i S T hi h => ?_) h
      refine itN_rel (R := R2 H S0) (fun j S T hj h => ?_) h
      refine itN_rel (R := R2 H S0) (fun k S T hk h => ?_) h
      have e3 : c3 G true H O' p i j k T = sCast G p i j k T := by unfold c3; rw [Bool.true_or, Bool.true_or, Bool.true_or, if_pos rfl]
      rw [e3]
      unfold c3
      by_cases c : (false || isN G p O 1 i || isN G p O 2 j || isN G p O 3 k) = true
      · rw [if_pos c]; exact h.cast hq hp
      · rw [if_neg c]
        simp only [Bool.false_or, Bool.or_eq_true, not_or, Bool.not_eq_true] at c
        have ab : ∀ m x, x < nCh G p H m → ¬ m < G.i 6 p → x = 0 := fun m x hx hm => by
          unfold nCh at hx; rw [if_neg hm] at hx; omega
        have i1 := isN_old c.1.1 (ab 1 i hi)
        have i2 := isN_old c.1.2 (ab 2 j hj)
        have i3 := isN_old c.2 (ab 3 k hk)
        have dn : Dn G p i j k T := (hd e i j k i1 i2 i3).ex h4 (VC.of g0 i1 i2 i3) h.2.1
        exact ⟨h.1.trans dn.same.symm, h.2.1.trans Ex.cast, h.2.2.1, h.2.2.2.cast hq hp⟩
def zN (S : SS) : SS := (S.1, S.2.1, S.2.2.1, S.2.2.2.1, false)
/-- the seeking with nothing spared -/
def kSh (G : Gr) : Nat → SS
  | 0 => (fun _ => 0, fun _ _ => 0, false, false, false)
  | r + 1 => sRd G true (kSh G r).1 (fun _ => 0) (r + 1) (zN (kSh G r))
theorem kSh_s (G : Gr) (r : Nat) : kSh G (r + 1) = sRd G true (kSh G r).1 (fun _ => 0) (r + 1) (zN (kSh G r)) := rfl
theorem AD_0 {G : Gr} {H : Nat → Nat} {S : SS} (hq : QG G) (h : ∀ s, H s = 0) : AD G H S := fun p hp e i j k hi _ _ => by
  have := hq.sd hp
  unfold nCh at hi
  rw [if_pos (show 1 < G.i 6 p by omega), h] at hi
  omega
theorem GS.e4 {H : Nat → Nat} {S T : SS} (g : GS H S) (h : E4 S T) : GS H T := ⟨fun s => by rw [← h.1, ← h.2.1]; exact g.1 s, fun s => by rw [← h.1]; exact g.2 s⟩
theorem cQ_kSh {G : Gr} (hq : QG G) : ∀ r, E4 (cQ G r).1 (kSh G r) ∧ AD G (cQ G r).2 (kSh G r) ∧ GS (cQ G r).2 (kSh G r)
  | 0 => ⟨E4.refl, AD_0 hq fun _ => rfl, ⟨(cQ_ok hq 0).1, fun _ => Nat.le_refl _⟩⟩
  | r + 1 => by
    obtain ⟨i1, i2, i3⟩ := cQ_kSh hq r
    have g1 : GS (cQ G r).1.1 (cQ G r).1 := ⟨(cQ_ok hq r).1, fun s => Nat.le_refl _⟩
    have gz : GS (cQ G r).1.1 (kSh G r) := g1.e4 i1
    have gz2 : GS (cQ G r).1.1 (zN (kSh G r)) := gz
    have rr : R2 (cQ G r).1.1 (kSh G r) (cQ G (r + 1)).1 (kSh G (r + 1)) := by
      rw [cQ_s, kSh_s, ← i1.1]
      exact itN_rel (R := R2 (cQ G r).1.1 (kSh G r)) (fun p S T hp h => h.pr _ hq hp i3 (fun e => i2 p hp e)) ⟨i1, Ex.refl, g1, gz2⟩
    refine ⟨rr.1, ?_, rr.2.2.2⟩
    by_cases e : r + 1 = 1
    · have : r = 0 := by omega
      subst this
      exact AD_0 hq fun _ => rfl
    · have := (rd_AD (r := r + 1) (O := fun _ => 0) hq gz2).2 e
      rw [kSh_s, ← i1.1]; exact this
-- whether a round brought any
def NwS (S T : SS) : Prop := (∀ s, S.1 s ≤ T.1 s) ∧ (S.2.2.2.1 = true → T.2.2.2.1 = true) ∧ (T.2.2.2.2 = false → S.2.2.2.2 = false ∧ T.1 = S.1) ∧ (T.2.2.2.2 = true → S.2.2.2.2 = true ∨ tot S < tot T ∨ T.2.2.2.1 = true)
theorem tot_le {S T : SS} (h : ∀ s, S.1 s ≤ T.1 s) : tot S ≤ tot T := by
  unfold tot
  have : ∀ n, psum S.1 n ≤ psum T.1 n := fun n => by
    induction n with
    | zero => exact Nat.le_refl _
    | succ n ih => exact Nat.add_le_add ih (h n)
  exact this 8
theorem NwS.refl {S : SS} : NwS S S := ⟨fun _ => Nat.le_refl _, fun h => h, fun h => ⟨h, rfl⟩, fun h => Or.inl h⟩
theorem NwS.trans {S T U : SS} (h : NwS S T) (h' : NwS T U) : NwS S U := ⟨fun s => Nat.le_trans (h.1 s) (h'.1 s), fun z => h'.2.1 (h.2.1 z), fun z => ⟨(h.2.2.1 (h'.2.2.1 z).1).1, (h'.2.2.1 z).2.trans (h.2.2.1 (h'.2.2.1 z).1).2⟩, fun z => by
  have l1 := tot_le h.1
  have l2 := tot_le h'.1
  cases h'.2.2.2 z with
  | inl a =>
    cases h.2.2.2 a with
    | inl b => exact Or.inl b
    | inr b =>
      cases b with
      | inl b => exact Or.inr (Or.inl (by omega))
      | inr b => exact Or.inr (Or.inr (h'.2.1 b))
  | inr a =>
    cases a with
    | inl b => exact Or.inr (Or.inl (by omega))
    | inr b => exact Or.inr (Or.inr b)⟩
theorem NwS.cast {G : Gr} {p i j k : Nat} {S : SS} (hs : G.i 7 (4 * p) < 8) : NwS S (sCast G p i j k S) := by
  have hx : Ex S (sCast G p i j k S) := Ex.cast
  refine ⟨hx.1, hx.2.2.2, ?_⟩
  unfold sCast sKeep
  generalize hw : shV G p (ch G p S i j k) (G.i 5 (G.i 7 (4 * p))) = w
  generalize hz : G.i 7 (4 * p) = s
  rw [hz] at hs
  by_cases e : sAt S s w < S.1 s
  · rw [if_pos (show sAt (S.1, S.2.1, (S.2.2.1 || shX G p (ch G p S i j k)), S.2.2.2.1, S.2.2.2.2) s w < _ from e)]
    exact ⟨fun z => ⟨z, rfl⟩, fun z => Or.inl z⟩
  · rw [if_neg (show ¬ sAt (S.1, S.2.1, (S.2.2.1 || shX G p (ch G p S i j k)), S.2.2.2.1, S.2.2.2.2) s w < _ from e)]
    by_cases c : S.1 s < 12
    · rw [if_pos (show (S.1, S.2.1, (S.2.2.1 || shX G p (ch G p S i j k)), S.2.2.2.1, S.2.2.2.2).1 s < 12 from c)]
      refine ⟨fun z => absurd (show true = false from z) (by decide), fun _ => Or.inr (Or.inl ?_)⟩
      have := psum_one (f := S.1) (g := fun t => if t = s then S.1 s + 1 else S.1 t) (n := 8) s hs (fun i _ hi => by show _ = (if i = s then _ else _); rw [if_neg hi])
      rw [if_pos rfl] at this
      show psum S.1 8 < psum (fun t => if t = s then S.1 s + 1 else S.1 t) 8
      omega
    · rw [if_neg (show ¬ (S.1, S.2.1, (S.2.2.1 || shX G p (ch G p S i j k)), S.2.2.2.1, S.2.2.2.2).1 s < 12 from c)]
      exact ⟨fun z => absurd (show true = false from z) (by decide), fun _ => Or.inr (Or.inr rfl)⟩
theorem NwS.it {f : Nat → SS → SS} : ∀ {n : Nat} {S : SS}, (∀ k S, k < n → NwS S (f k S)) → NwS S (itN f n S)
  | 0, _, _ => NwS.refl
  | n + 1, S, h => (NwS.it (n := n) fun k S hk => h k S (by omega)).trans (h n _ (by omega))
theorem NwS.rd {G : Gr} {b : Bool} {H O : Nat → Nat} {r : Nat} {S : SS} (hq : QG G) : NwS S (sRd G b H O r S) := NwS.it fun p S hp => by
  have hsd := hq.sd hp
  have hs : G.i 7 (4 * p) < 8 := by have := hq.sy hp (show 0 < G.i 6 p by omega); have := hq.ns; rw [Nat.add_zero] at *; omega
  unfold sPr
  split
  · split
    · exact NwS.cast hs
    · exact NwS.refl
  · split
    · exact NwS.refl
    · refine NwS.it fun i S _ => NwS.it fun j S _ => NwS.it fun k S _ => ?_
      unfold c3
      split
      · exact NwS.cast hs
      · exact NwS.refl
/-- a round that isn't too much brings more exactly when it says so -/
theorem kSh_new {G : Gr} (hq : QG G) (r : Nat) : sE G (r + 1) = (oO G (r + 1) || !(kSh G (r + 1)).2.2.2.2) := by
  have a := (cQ_kSh hq r).1
  have b := (cQ_kSh hq (r + 1)).1
  have n : NwS (zN (kSh G r)) (kSh G (r + 1)) := by rw [kSh_s]; exact NwS.rd hq
  have ht : oT G r = tot (zN (kSh G r)) := by unfold oT tot; rw [a.1]; rfl
  have ht' : oT G (r + 1) = tot (kSh G (r + 1)) := by unfold oT tot; rw [b.1]
  have ho : oO G (r + 1) = (kSh G (r + 1)).2.2.2.1 := b.2.2.2
  unfold sE
  rw [Nat.add_sub_cancel, ht, ht', ho]
  cases x : (kSh G (r + 1)).2.2.2.1
  · cases y : (kSh G (r + 1)).2.2.2.2
    · have := (n.2.2.1 y).2
      have e : tot (kSh G (r + 1)) = tot (zN (kSh G r)) := by unfold tot; rw [this]
      rw [e, decide_eq_false (Nat.lt_irrefl _)]
    · have := n.2.2.2 y
      cases this with
      | inl z => exact absurd (show false = true from z) (by decide)
      | inr z =>
        cases z with
        | inl z => rw [decide_eq_true z]
        | inr z => rw [x] at z; exact absurd z (by decide)
  · rfl
