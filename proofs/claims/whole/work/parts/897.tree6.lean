-- the reference reads a tree, whole
def PTb (a j : Nat) : Prop := PTr a j ∨ PN a j
theorem PTb.n {b j : Nat} (h : PTb b j) : b = 137 ∨ 142 < b := by
  rcases h with h | h
  · exact h.n
  · unfold PN at h; omega
theorem r_readT {B : Nat → Nat} {n st need d q : Nat} {G : Gr} {M : Mm} (N : Nat) (hN : 2000 < N) (hq : QG G) (hn : n ≤ 1000) (hB : ∀ i, i < n → M.1 138 i = nI (B i) ∧ B i < 256) (K : QT G M) (h52 : M.1 137 52 = nI st) (hst : st ≤ 40) (hd : 1 ≤ d ∧ d ≤ 13) (hneed : need ≤ 8) :
    match pTree (toks B n 0) G st need d q with
    | .inl e => ∃ M', D_X12_readTree N 137 (nI n) (ndI need) (nI d) M = some (nI 0, M') ∧ RF e M' ∧ FX PTb M M'
    | .inr y => ∃ M', D_X12_readTree N 137 (nI n) (ndI need) (nI d) M = some (nI 1, M') ∧ KR B n (toks B n 0) G st y.1 y.2 M' ∧ FX PTb M M' := by
  unfold D_X12_readTree
  obtain ⟨M1, a1, a2, a3, a4, a5⟩ := v_begins N hN hn hB
  have F1 : FX PTb M M1 := a5.mono fun _ _ z => Or.inr z
  have f2 : FX (fun b j => b = 137 ∧ j = 51) M1 (upI M1 137 51 (nI 0)) := FX.I ⟨rfl, rfl⟩
  have F2 : FX PTb M (upI M1 137 51 (nI 0)) := F1.trans (f2.mono fun _ _ z => Or.inl (Or.inr (Or.inl z)))
  rw [a1, Option.bind_some, pI_n, Option.bind_some]
  have K2 : KR B n (toks B n 0) G st 0 t0 (upI M1 137 51 (nI 0)) := by
    refine ⟨a2.fx f2 (fun j => by omega) (fun j hj => by omega), K.sb F2 fun _ _ z => z.n, ?_, ⟨upI_s _ _ _ _, fun e he => absurd he (Nat.not_lt_zero _)⟩, by show st + 0 ≤ 40; omega, ?_, ?_⟩
    · rw [upI_j, if_neg (by decide), (a5.2 137 52 (fun z => by unfold PN at z; omega)).1]; exact h52
    · rw [upI_j, if_neg (by decide)]; exact a3.1
    · rw [upI_j, if_neg (by decide)]; exact a3.2
  generalize upI M1 137 51 (nI 0) = M2 at F2 K2
  have rd := t_readNode N hN hq 14 need d 0 q 0 t0 M2 (by omega) (by omega) hneed (Nat.zero_le _) K2
  rw [show nP 0 = m1 from if_pos rfl] at rd
  unfold pTree
  cases e : pNd (toks B n 0) G st 14 need d 0 q 0 t0 with
  | inl b =>
    rw [e] at rd
    obtain ⟨M3, b1, b2, b3⟩ := rd
    refine ⟨M3, ?_, b2, F2.trans (b3.mono fun _ _ z => Or.inl z)⟩
    rw [b1, Option.bind_some]
    simp only [jn]
    rw [if_pos trivial, retZ_0]
  | inr b =>
    rw [e] at rd
    obtain ⟨M3, b1, ⟨b2, b4⟩, b3⟩ := rd
    have F3 : FX PTb M M3 := F2.trans (b3.mono fun _ _ z => Or.inl z)
    have k0 := b2.1.isK (v := 0) (by omega)
    rw [kR_0 b2.1.k4] at k0
    rw [b1, Option.bind_some]
    simp only [jn]
    rw [if_neg z10]
    simp only [k0]
    show match (if (tk (toks B n 0) b.1).1 = 0 then (.inr (b.1, b.2) : RT) else flT (toks B n 0) b.1 2) with
    | .inl e => ∃ M', _ ∧ RF e M' ∧ FX PTb M M'
    | .inr y => ∃ M', _ ∧ KR B n (toks B n 0) G st y.1 y.2 M' ∧ FX PTb M M'
    by_cases z : (tk (toks B n 0) b.1).1 = 0
    · rw [if_pos z, if_pos z, retZ_1]; exact ⟨M3, rfl, b2, F3⟩
    · rw [if_neg z, if_neg z]
      obtain ⟨M4, c1, c2, c3⟩ := r_bad (y := 2) N b2.1
      rw [c1, Option.bind_some, if_pos rfl, retZ_0]
      exact ⟨M4, rfl, c2, F3.trans (c3.mono fun _ _ z => Or.inl (Or.inl z))⟩
-- what a tree is
/-- nodes from x on, before m, are x with all below it -/
def Pt (G : Gr) (t : TR) : Nat → Nat → Nat → Prop
  | 0, _, _ => False
  | fu + 1, x, m => tp t x < G.i 0 1 ∧ ∃ c : Nat → Nat, c 1 = x + 1 ∧ c (G.i 6 (tp t x)) = m ∧ ∀ k, 1 ≤ k → k < G.i 6 (tp t x) → c k < c (k + 1) ∧ tu t (c k) = x + 1 ∧ tq t (c k) = k ∧ G.i 7 (4 * tp t (c k)) = G.i 7 (4 * tp t x + k) ∧ td t (c k) = td t x + 1 ∧ Pt G t fu (c k) (c (k + 1))
theorem Pt_s (G : Gr) (t : TR) (fu x m : Nat) : Pt G t (fu + 1) x m = (tp t x < G.i 0 1 ∧ ∃ c : Nat → Nat, c 1 = x + 1 ∧ c (G.i 6 (tp t x)) = m ∧ ∀ k, 1 ≤ k → k < G.i 6 (tp t x) → c k < c (k + 1) ∧ tu t (c k) = x + 1 ∧ tq t (c k) = k ∧ G.i 7 (4 * tp t (c k)) = G.i 7 (4 * tp t x + k) ∧ td t (c k) = td t x + 1 ∧ Pt G t fu (c k) (c (k + 1))) := rfl
theorem chn_lt {c : Nat → Nat} {n : Nat} (h : ∀ k, 1 ≤ k → k < n → c k < c (k + 1)) : ∀ j i, 1 ≤ i → i + j ≤ n → c i + j ≤ c (i + j)
  | 0, i, h1, h2 => Nat.le_refl _
  | j + 1, i, h1, h2 => by
    have a := chn_lt h j i h1 (by omega)
    have b := h (i + j) (by omega) (by omega)
    rw [show i + (j + 1) = i + j + 1 by omega]; omega
theorem Pt.lt {G : Gr} {t : TR} {fu x m : Nat} (hq : QG G) (h : Pt G t fu x m) : x < m := by
  cases fu with
  | zero => exact absurd h id
  | succ fu =>
    obtain ⟨hp, c, c1, c2, c3⟩ := h
    have hsd := hq.sd hp
    have := chn_lt (fun k a b => (c3 k a b).1) (G.i 6 (tp t x) - 1) 1 (by omega) (by omega)
    rw [show 1 + (G.i 6 (tp t x) - 1) = G.i 6 (tp t x) by omega, c1, c2] at this
    omega
/-- other nodes don't matter -/
theorem Pt.et {G : Gr} {t t' : TR} (hq : QG G) : ∀ {fu x m : Nat}, Pt G t fu x m → m ≤ tn t → Et t t' → Pt G t' fu x m
  | 0, _, _, h, _, _ => h
  | fu + 1, x, m, h, hm, e => by
    have hlt := h.lt hq
    obtain ⟨hp, c, c1, c2, c3⟩ := h
    have ex := e.2 x (by omega)
    have hsd := hq.sd hp
    rw [Pt_s, ex.1]
    refine ⟨hp, c, c1, c2, fun k k1 k2 => ?_⟩
    obtain ⟨d1, d2, d3, d4, d5, d6⟩ := c3 k k1 k2
    have up := chn_lt (fun k a b => (c3 k a b).1) (G.i 6 (tp t x) - (k + 1)) (k + 1) (by omega) (by omega)
    rw [show k + 1 + (G.i 6 (tp t x) - (k + 1)) = G.i 6 (tp t x) by omega, c2] at up
    have ek := e.2 (c k) (by omega)
    rw [ek.1, ek.2.1, ek.2.2.1, ek.2.2.2.1, ex.2.2.2.1]
    exact ⟨d1, d2, d3, d4, d5, d6.et hq (by omega) e⟩
theorem pKs_P {T : List Tok} {G : Gr} {rc : Nat → Nat → Nat → Nat → Nat → TR → RT} {p d x fu : Nat} (hq : QG G) (hp : p < G.i 0 1)
    (hrc : ∀ s k h t y, x < tn t → rc (s + 1) (d + 1) (x + 1) k h t = .inr y → Et t y.2 ∧ tu y.2 (tn t) = x + 1 ∧ tq y.2 (tn t) = k ∧ G.i 7 (4 * tp y.2 (tn t)) = s ∧ td y.2 (tn t) = d + 1 ∧ tn t < tn y.2 ∧ Pt G y.2 fu (tn t) (tn y.2)) :
    ∀ (m k h : Nat) (t : TR) (y : Nat × TR), m + k = G.i 6 p - 1 → x < tn t → pKs T G rc p d x m k (.inr (h, t)) = .inr y → Et t y.2 ∧ ∃ c : Nat → Nat, c (k + 1) = tn t ∧ c (G.i 6 p) = tn y.2 ∧ ∀ j, k + 1 ≤ j → j < G.i 6 p → c j < c (j + 1) ∧ tu y.2 (c j) = x + 1 ∧ tq y.2 (c j) = j ∧ G.i 7 (4 * tp y.2 (c j)) = G.i 7 (4 * p + j) ∧ td y.2 (c j) = d + 1 ∧ Pt G y.2 fu (c j) (c (j + 1))
  | 0, k, h, t, y, h1, hx, e => by
    have hsd := hq.sd hp
    have e : (.inr (h, t) : RT) = .inr y := e
    injection e with e
    subst e
    exact ⟨Et.refl, fun _ => tn t, rfl, rfl, fun j j1 j2 => by omega⟩
  | m + 1, k, h, t, y, h1, hx, e => by
    have hsd := hq.sd hp
    obtain ⟨z, e1, e2⟩ := bndT_r e
    injection e1 with e1
    subst e1
    obtain ⟨z2, e3, e4⟩ := bndT_r e2
    obtain ⟨e5, _⟩ := pSignT_r e3
    subst e5
    have e4 : pKs T G rc p d x m (k + 1) (rc (G.i 7 (4 * p + k + 1) + 1) (d + 1) (x + 1) (k + 1) (adv T h) t) = .inr y := e4
    cases er : rc (G.i 7 (4 * p + k + 1) + 1) (d + 1) (x + 1) (k + 1) (adv T h) t with
    | inl a => rw [er, pKs_l] at e4; exact absurd e4 (fun z => nomatch z)
    | inr a =>
      rw [er] at e4
      obtain ⟨f1, f2, f3, f4, f5, f6, f7⟩ := hrc _ _ _ _ _ hx er
      obtain ⟨g1, c, g2, g3, g4⟩ := pKs_P hq hp hrc m (k + 1) a.1 a.2 y (by omega) (by omega) e4
      refine ⟨f1.trans g1, fun i => if i = k + 1 then tn t else c i, if_pos rfl, ?_, fun j j1 j2 => ?_⟩
      · show (if G.i 6 p = k + 1 then tn t else c (G.i 6 p)) = _
        rw [if_neg (by omega)]; exact g3
      · show (if j = k + 1 then tn t else c j) < (if j + 1 = k + 1 then tn t else c (j + 1)) ∧ tu y.2 (if j = k + 1 then tn t else c j) = x + 1 ∧ tq y.2 (if j = k + 1 then tn t else c j) = j ∧ G.i 7 (4 * tp y.2 (if j = k + 1 then tn t else c j)) = _ ∧ td y.2 (if j = k + 1 then tn t else c j) = d + 1 ∧ Pt G y.2 fu (if j = k + 1 then tn t else c j) (if j + 1 = k + 1 then tn t else c (j + 1))
        rw [if_neg (show ¬ j + 1 = k + 1 by omega)]
        by_cases ej : j = k + 1
        · subst ej
          rw [if_pos rfl, g2]
          have et := g1.2 (tn t) f6
          rw [et.1, et.2.1, et.2.2.1, et.2.2.2.1]
          exact ⟨f6, f2, f3, by rw [f4]; congr 1, f5, f7.et hq (Nat.le_refl _) g1⟩
        · rw [if_neg ej]
          exact g4 j (by omega) j2
theorem pNd_P {T : List Tok} {G : Gr} {st : Nat} (hq : QG G) : ∀ (fu need d u q h : Nat) (t : TR) (y : Nat × TR), pNd T G st fu need d u q h t = .inr y → Et t y.2 ∧ tu y.2 (tn t) = u ∧ tq y.2 (tn t) = q ∧ (¬ need = 0 → G.i 7 (4 * tp y.2 (tn t)) + 1 = need) ∧ td y.2 (tn t) = d ∧ tn t < tn y.2 ∧ Pt G y.2 fu (tn t) (tn y.2)
  | 0, need, d, u, q, h, t, y, e => absurd e (fun z => nomatch z)
  | fu + 1, need, d, u, q, h, t, y, e => by
    rw [pNd_s] at e
    obtain ⟨z, e1, e2⟩ := bndT_r e
    obtain ⟨r1, r2, r3, r4, r5⟩ := pHd_r e1
    have nd : ¬ need = 0 → G.i 7 (4 * pnI G T h) + 1 = need := fun hn => by
      unfold pHd at e1
      rw [if_pos r5, if_pos r2] at e1
      split at e1
      · exact absurd e1 (by unfold flT; exact fun z => nomatch z)
      · split at e1
        · exact absurd e1 (by unfold flT; exact fun z => nomatch z)
        · rename_i c; exact Decidable.byContradiction fun w => c ⟨hn, w⟩
    subst r1
    have hsd := hq.sd r2
    obtain ⟨z2, e3, e4⟩ := bndT_r e2
    have k := pKs_P (fu := fu) hq r2 (fun s k h t y hx er => by
      obtain ⟨f1, f2, f3, f4, f5, f6, f7⟩ := pNd_P hq fu (s + 1) (d + 1) _ k h t y er
      exact ⟨f1, f2, f3, by have := f4 (by omega); omega, f5, f6, f7⟩) (G.i 6 (pnI G T h) - 1) 0 _ _ z2 (by omega) (by rw [tAdd_n]; omega) e3
    have ey : y.2 = z2.2 := by
      by_cases s1 : G.i 6 (pnI G T h) = 1
      · have e4 : (if G.i 6 (pnI G T h) = 1 then (.inr (z2.1, z2.2) : RT) else pSignT T 41 z2.1 z2.2) = .inr y := e4
        rw [if_pos s1] at e4; injection e4 with e4; rw [← e4]
      · have e4 : (if G.i 6 (pnI G T h) = 1 then (.inr (z2.1, z2.2) : RT) else pSignT T 41 z2.1 z2.2) = .inr y := e4
        rw [if_neg s1] at e4; rw [(pSignT_r e4).1]
    rw [ey]
    obtain ⟨g1, c, g2, g3, g4⟩ := k
    have g1 : Et (tAdd t (pnI G T h) (ownN T h) u q d) z2.2 := g1
    have et := g1.2 (tn t) (by rw [tAdd_n]; omega)
    have p1 : tp z2.2 (tn t) = pnI G T h := et.1.trans (st1_s _ _ _)
    have p2 : tu z2.2 (tn t) = u := et.2.1.trans (st1_s _ _ _)
    have p3 : tq z2.2 (tn t) = q := et.2.2.1.trans (st1_s _ _ _)
    have p4 : td z2.2 (tn t) = d := et.2.2.2.1.trans (st1_s _ _ _)
    refine ⟨Et.add.trans g1, p2, p3, fun hn => by rw [p1]; exact nd hn, p4, by have := g1.1; rw [tAdd_n] at this; omega, ?_⟩
    rw [Pt_s, p1]
    exact ⟨r2, c, by rw [g2, tAdd_n], g3, fun j j1 j2 => by rw [p4]; exact g4 j (by omega) j2⟩
