-- the class casts a shade
theorem shR_same {G : Gr} {p k o : Nat} {c : Nat → Nat} (h : ¬ (o / 8 = k ∧ G.i 4 (G.i 7 (4 * p + o / 8)) ≤ o % 8 ∧ o % 8 < att G (G.i 7 (4 * p + o / 8)))) : shR G p c (k + 1) o = shR G p c k o := by
  unfold shR
  have : shA G p c (k + 1) o = shA G p c k o := by
    unfold shA
    by_cases e : (1 ≤ o / 8 ∧ o / 8 < k) ∧ G.i 4 (G.i 7 (4 * p + o / 8)) ≤ o % 8 ∧ o % 8 < att G (G.i 7 (4 * p + o / 8))
    · rw [if_pos e, if_pos ⟨⟨e.1.1, by omega⟩, e.2⟩]
    · rw [if_neg e, if_neg (fun z => by
        by_cases q : o / 8 = k
        · exact h ⟨q, z.2⟩
        · exact e ⟨⟨z.1.1, by omega⟩, z.2⟩)]
  rw [this]
theorem shR_at {G : Gr} {p k a : Nat} {c : Nat → Nat} (hk : 1 ≤ k) (hs : k < G.i 6 p) (h1 : G.i 4 (G.i 7 (4 * p + k)) ≤ a) (h2 : a < att G (G.i 7 (4 * p + k))) (h8 : a < 8) : shR G p c (k + 1) (8 * k + a) = shR G p c k (8 * k + a) ||| (c k / 2 ^ (4 * (a - G.i 4 (G.i 7 (4 * p + k)))) &&& 15) * 2 ^ (8 * k) := by
  unfold shR shA
  rw [if_pos (show 8 * k + a < 8 * G.i 6 p by omega), if_pos (show 8 * k + a < 8 * G.i 6 p by omega), show (8 * k + a) / 8 = k by omega, show (8 * k + a) % 8 = a by omega, if_pos ⟨⟨hk, by omega⟩, h1, h2⟩, if_neg (fun z => by omega), Nat.or_zero]
theorem shR_4 {G : Gr} {p o m : Nat} {c : Nat → Nat} (hm : G.i 6 p ≤ m) : shR G p c m o = shR G p c (G.i 6 p) o := by
  unfold shR
  by_cases e : o < 8 * G.i 6 p
  · rw [if_pos e, if_pos e]
    have : shA G p c m o = shA G p c (G.i 6 p) o := by
      unfold shA
      by_cases d : (1 ≤ o / 8 ∧ o / 8 < G.i 6 p) ∧ G.i 4 (G.i 7 (4 * p + o / 8)) ≤ o % 8 ∧ o % 8 < att G (G.i 7 (4 * p + o / 8))
      · rw [if_pos d, if_pos ⟨⟨d.1.1, by omega⟩, d.2⟩]
      · rw [if_neg d, if_neg (fun z => d ⟨⟨z.1.1, by omega⟩, z.2⟩)]
    rw [this]
  · rw [if_neg e, if_neg e]
def P28 (b _j : Nat) : Prop := b = 28
theorem CS.p28 {G : Gr} {S : SS} {M M' : Mm} (h : CS G S M) (f : FX P28 M M') : CS G S M' := ⟨fun s hs => ⟨(f.2 29 s (fun q => by have : 29 = 28 := q; omega)).1.trans (h.1 s hs).1, fun i hi => (f.2 25 _ (fun q => by have : 25 = 28 := q; omega)).1.trans ((h.1 s hs).2 i hi)⟩, (f.2 24 6 (fun q => by have : 24 = 28 := q; omega)).1.trans h.2.1, (f.2 24 10 (fun q => by have : 24 = 28 := q; omega)).1.trans h.2.2⟩
theorem CG.p28 {g : Nat} {G : Gr} {M M' : Mm} (hg : g = 35 ∨ g = 52) (h : CG g G M) (f : FX P28 M M') : CG g G M' := h.fx f fun k hk j q => by have : g + k = 28 := q; omega
theorem s_layShade {g p k i : Nat} {G : Gr} {S : SS} {c : Nat → Nat} {M : Mm} (N : Nat) (hN : 2000 < N) (hq : QG G) (hg : g = 35 ∨ g = 52) (hp : p < G.i 0 1) (hk1 : 1 ≤ k) (h3 : k < 4) (hi : k < G.i 6 p → c k = S.2.1 (G.i 7 (4 * p + k)) i ∧ i < S.1 (G.i 7 (4 * p + k))) (K : CG g G M) (hS : CS G S M) (hO : SO S) (hR : HRo 28 0 (8 * G.i 6 p) (shR G p c k) M) : ∃ M', D_X6_layShade N 24 g (nI p) (nI k) (nI i) M = some M' ∧ HRo 28 0 (8 * G.i 6 p) (shR G p c (k + 1)) M' ∧ FX P28 M M' := by
  have hnp := hq.np
  have hsd := hq.sd hp
  have hns := hq.ns
  unfold D_X6_layShade
  rw [ldI_n (by omega) (by omega), K.a 6 p (by omega), Option.bind_some]
  simp only [n_lt (show k < 2 ^ 31 by omega) (show G.i 6 p < 2 ^ 31 by omega)]
  by_cases e : k < G.i 6 p
  · obtain ⟨hc, hin⟩ := hi e
    have hs := hq.sy hp e
    have h4 := hq.at' hs
    have h8 := hq.att8 hs
    have hO1 := hO (G.i 7 (4 * p + k))
    have hv := hO1.2 i hin
    rw [← hc] at hv
    have key : ∀ (fu l : Nat) (M : Mm), l ≤ G.i 5 (G.i 7 (4 * p + k)) → 5 < l + fu → CG g G M → (∀ o, o < 8 * G.i 6 p → M.1 28 o = nI (if o / 8 = k ∧ o % 8 < G.i 4 (G.i 7 (4 * p + k)) + l then shR G p c (k + 1) o else shR G p c k o)) → ∃ M', L_X6_layShade_37 g (nI (G.i 7 (4 * p + k))) (nI (c k)) 24 (nI k) fu (nI l) M = some M' ∧ HRo 28 0 (8 * G.i 6 p) (shR G p c (k + 1)) M' ∧ FX P28 M M' := by
      intro fu
      induction fu with
      | zero => intro l M h1 h2; omega
      | succ fu ih =>
        intro l M h1 h2 K hM
        rw [L_X6_layShade_37, ldI_n (by omega) (by omega), K.a 5 _ (by omega), Option.bind_some]
        simp only [n_le (show G.i 5 (G.i 7 (4 * p + k)) < 2 ^ 31 by omega) (show l < 2 ^ 31 by omega)]
        by_cases d : G.i 5 (G.i 7 (4 * p + k)) ≤ l
        · rw [if_pos d]
          refine ⟨M, rfl, fun o ho => ?_, FX.refl⟩
          rw [Nat.zero_add, hM o ho]
          by_cases z : o / 8 = k ∧ o % 8 < G.i 4 (G.i 7 (4 * p + k)) + l
          · rw [if_pos z]
          · rw [if_neg z, shR_same (fun y => z ⟨y.1, by have := y.2.2; rw [y.1] at this; unfold att at this; omega⟩)]
        · have ho : 8 * k + G.i 4 (G.i 7 (4 * p + k)) + l < 8 * G.i 6 p := by unfold att at h8; omega
          have hm := hM (8 * k + G.i 4 (G.i 7 (4 * p + k)) + l) ho
          unfold att at h8
          rw [if_neg (fun z => by omega)] at hm
          rw [if_neg d, pk_mul, n_shr (Nat.lt_trans hv (by decide)) (show 4 * l < 32 by omega), n_and, Option.bind_some, ldI_n (by omega) (by omega), K.a 4 _ (by omega), Option.bind_some, show (24 : Nat) + 4 = 28 from rfl, pk_mul, nI_add, nI_add, ldI_n (by omega) (by omega), hm, Option.bind_some, n_shl _ (show 8 * k < 32 by omega), n_or, stI_n (by omega) (by omega), Option.bind_some, Option.bind_some, nI_add]
          have ea := shR_at (c := c) hk1 e (show G.i 4 (G.i 7 (4 * p + k)) ≤ G.i 4 (G.i 7 (4 * p + k)) + l by omega) (show G.i 4 (G.i 7 (4 * p + k)) + l < att G (G.i 7 (4 * p + k)) by unfold att; omega) (by omega)
          rw [Nat.add_sub_cancel_left, ← Nat.add_assoc] at ea
          rw [← ea]
          have f1 : FX P28 M (upI M 28 (8 * k + G.i 4 (G.i 7 (4 * p + k)) + l) (nI (shR G p c (k + 1) (8 * k + G.i 4 (G.i 7 (4 * p + k)) + l)))) := FX.I rfl
          obtain ⟨M', b1, b2, b3⟩ := ih (l + 1) _ (by omega) (by omega) (K.p28 hg f1) fun o ho2 => by
            rw [upI_j]
            by_cases z : o = 8 * k + G.i 4 (G.i 7 (4 * p + k)) + l
            · rw [if_pos z, if_pos (by omega), z]
            · rw [if_neg z, hM o ho2]
              by_cases y : o / 8 = k ∧ o % 8 < G.i 4 (G.i 7 (4 * p + k)) + l
              · rw [if_pos y, if_pos ⟨y.1, by omega⟩]
              · rw [if_neg y, if_neg (fun w => by omega)]
          exact ⟨M', b1, b2, f1.trans b3⟩
    rw [if_pos e, s_side N K (by omega) (by omega), Option.bind_some, show (24 : Nat) + 1 = 25 from rfl, pk_mul, nI_add, ldI_n (by omega) (by omega), (hS.1 _ (by omega)).2 i hin, ← hc, Option.bind_some]
    exact key N 0 M (by omega) (by omega) K fun o ho => by
      rw [Nat.add_zero]
      have := hR o ho
      rw [Nat.zero_add] at this
      by_cases z : o / 8 = k ∧ o % 8 < G.i 4 (G.i 7 (4 * p + k))
      · rw [if_pos z, this, shR_same (fun y => by have := y.2.1; rw [z.1] at this; omega)]
      · rw [if_neg z, this]
  · rw [if_neg e]
    refine ⟨M, rfl, hR.cg fun o ho => ?_, FX.refl⟩
    rw [shR_4 (m := k) (by omega), shR_4 (m := k + 1) (by omega)]
def PSh (b j : Nat) : Prop := b = 28 ∨ b = 25 ∨ b = 29 ∨ b = 24 ∧ (j = 6 ∨ j = 10)
theorem sKeep_CS {G : Gr} {s v : Nat} {S : SS} {M : Mm} (N : Nat) (hN : 2000 < N) (hs : s < 8) (hv : v < 2 ^ 16) (hS : CS G S M) (hO : SO S) : ∃ M', D_X6_keep N 24 (nI s) (nI v) M = some M' ∧ CS G (sKeep s v S) M' ∧ FX PSh M M' := by
  obtain ⟨h12, hlt⟩ := hO s
  obtain ⟨m1', m2'⟩ := hS.1 s hs
  have key : ∀ (kE : Option Mm) (fu i : Nat), i ≤ S.1 s → 13 < i + fu → (∀ j, j < i → decide (S.2.1 s j = v) = false) → L_X6_keep_2 kE 24 (nI s) M (nI v) fu (nI i) = if sAt S s v < S.1 s then some M else kE := by
    intro kE fu
    induction fu with
    | zero => intro i h1 h2; omega
    | succ fu ih =>
      intro i h1 h2 hj
      rw [L_X6_keep_2, show (24 : Nat) + 5 = 29 from rfl, show (24 : Nat) + 1 = 25 from rfl, ldI_n (by omega) (by omega), m1', Option.bind_some]
      simp only [n_le (show S.1 s < 2 ^ 31 by omega) (show i < 2 ^ 31 by omega)]
      by_cases e : S.1 s ≤ i
      · have ei : i = S.1 s := by omega
        have : sAt S s v = S.1 s := fb_eq (Nat.le_refl _) (fun j q => hj j (by omega)) (Or.inl rfl)
        rw [if_pos e, if_neg (by omega)]
      · have hl := hlt i (by omega)
        rw [if_neg e, pk_mul, nI_add, ldI_n (by omega) (by omega), m2' i (by omega), Option.bind_some]
        simp only [n_eq (show S.2.1 s i < 2 ^ 31 by omega) (show v < 2 ^ 31 by omega), Option.bind_some, nI_add]
        by_cases c : S.2.1 s i = v
        · have : sAt S s v = i := fb_eq (by omega) hj (Or.inr (decide_eq_true c))
          rw [if_pos c, if_pos (by omega)]
        · rw [if_neg c]
          exact ih (i + 1) (by omega) (by omega) fun j hj2 => by
            by_cases z : j = i
            · rw [z]; exact decide_eq_false c
            · exact hj j (by omega)
  unfold D_X6_keep
  rw [key _ N 0 (by omega) (by omega) fun j hj => by omega]
  unfold sKeep
  by_cases c : sAt S s v < S.1 s
  · rw [if_pos c, if_pos c]; exact ⟨M, rfl, hS, FX.refl⟩
  · rw [if_neg c, if_neg c, show (24 : Nat) + 5 = 29 from rfl, show (24 : Nat) + 1 = 25 from rfl, ldI_n (by omega) (by omega), m1', Option.bind_some]
    simp only [n_lt (show S.1 s < 2 ^ 31 by omega) (show 12 < 2 ^ 31 by omega)]
    by_cases d : S.1 s < 12
    · rw [if_pos d, if_pos d, Option.bind_some, pk_mul, nI_add, stI_n (by omega) (by omega), Option.bind_some, ldI_n (by omega) (by omega), show (upI M 25 (12 * s + S.1 s) (nI v)).1 29 s = nI (S.1 s) by rw [up1, if_neg (by decide)]; exact m1', Option.bind_some, nI_add, stI_n (by omega) (by omega), Option.bind_some]
      refine ⟨_, rfl, ⟨fun t ht => ⟨?_, fun i hi => ?_⟩, ?_, ?_⟩, (FX.I (P := PSh) (by unfold PSh; omega)).trans (FX.I (by unfold PSh; omega))⟩
      · rw [upI_j]
        show _ = nI (if t = s then S.1 s + 1 else S.1 t)
        by_cases z : t = s
        · rw [if_pos z, if_pos z]
        · rw [if_neg z, if_neg z, up1, if_neg (by decide)]; exact (hS.1 t ht).1
      · have hi : i < (if t = s then S.1 s + 1 else S.1 t) := hi
        have ht12 := (hO t).1
        rw [up1, if_neg (by decide), upI_j]
        show _ = nI (if t = s ∧ i = S.1 s then v else S.2.1 t i)
        by_cases z : t = s
        · subst z
          rw [if_pos rfl] at hi
          by_cases y : i = S.1 t
          · rw [if_pos (by omega), if_pos ⟨rfl, y⟩]
          · rw [if_neg (by omega), if_neg (fun w => y w.2)]; exact m2' i (by omega)
        · rw [if_neg z] at hi
          rw [if_neg (by omega), if_neg (fun w => z w.1)]; exact (hS.1 t ht).2 i hi
      · rw [up1, if_neg (by decide), up1, if_neg (by decide)]; exact hS.2.1
      · rw [up1, if_neg (by decide), up1, if_neg (by decide)]; exact hS.2.2
    · rw [if_neg d, if_neg d, pZ_1, Option.bind_some]
      refine ⟨_, rfl, ⟨fun t ht => ?_, ?_, ?_⟩, FX.I (by unfold PSh; omega)⟩
      · refine ⟨?_, fun i hi => ?_⟩
        · rw [up1, if_neg (by decide)]; exact (hS.1 t ht).1
        · rw [up1, if_neg (by decide)]; exact (hS.1 t ht).2 i hi
      · rw [upI_j, if_neg (by decide)]; exact hS.2.1
      · rw [upI_s]; rfl
