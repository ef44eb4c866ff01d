-- trees: what is read
/-- nodes: how many; production, own number, parent (one more; 0 none), place, depth -/
abbrev TR : Type := Nat × (Nat → Nat) × (Nat → Nat) × (Nat → Nat) × (Nat → Nat) × (Nat → Nat)
def tn (t : TR) : Nat := t.1
def tp (t : TR) : Nat → Nat := t.2.1
def to' (t : TR) : Nat → Nat := t.2.2.1
def tu (t : TR) : Nat → Nat := t.2.2.2.1
def tq (t : TR) : Nat → Nat := t.2.2.2.2.1
def td (t : TR) : Nat → Nat := t.2.2.2.2.2
def st1 (f : Nat → Nat) (n v : Nat) : Nat → Nat := fun e => if e = n then v else f e
theorem st1_s (f : Nat → Nat) (n v : Nat) : st1 f n v n = v := if_pos rfl
theorem st1_n {f : Nat → Nat} {n v e : Nat} (h : ¬ e = n) : st1 f n v e = f e := if_neg h
def tAdd (t : TR) (p o u q d : Nat) : TR := (tn t + 1, st1 (tp t) (tn t) p, st1 (to' t) (tn t) o, st1 (tu t) (tn t) u, st1 (tq t) (tn t) q, st1 (td t) (tn t) d)
abbrev RT : Type := Sum (Nat × Nat) (Nat × TR)
def flT (T : List Tok) (h y : Nat) : RT := .inl (if (tk T h).1 = 4 then 1 else y, (tk T h).2.1)
def bndT (r : RT) (f : Nat → TR → RT) : RT := match r with
  | .inl e => .inl e
  | .inr y => f y.1 y.2
def pSignT (T : List Tok) (c h : Nat) (t : TR) : RT := if isSn T h c then .inr (adv T h, t) else flT T h 2
def pnI (G : Gr) (T : List Tok) (h : Nat) : Nat := fi (G.l 3) (tk T h).2.2.2 (G.i 0 1)
def ownN (T : List Tok) (h : Nat) : Nat := if (tk T (adv T h)).1 = 2 then (tk T (adv T h)).2.2.2 else 0
def ownA (T : List Tok) (h : Nat) : Nat := if (tk T (adv T h)).1 = 2 then adv T (adv T h) else adv T h
/-- a node's name and number; need: one more than the symbol that must come, 0 any -/
def pHd (T : List Tok) (G : Gr) (st need d u q h : Nat) (t : TR) : RT :=
  if isNm (tk T h) = true then
    (if pnI G T h < G.i 0 1 then
      (if 40 ≤ st + tn t ∨ 12 < d then flT T h 6
       else if ¬ need = 0 ∧ ¬ G.i 7 (4 * pnI G T h) + 1 = need then flT T h 7
       else .inr (ownA T h, tAdd t (pnI G T h) (ownN T h) u q d))
     else flT T h 3)
  else flT T h 2
/-- the children from the k-th on -/
def pKs (T : List Tok) (G : Gr) (rc : Nat → Nat → Nat → Nat → Nat → TR → RT) (p d x : Nat) : Nat → Nat → RT → RT
  | 0, _, r => r
  | m + 1, k, r => bndT r fun h t => bndT (pSignT T (if k = 0 then 40 else 44) h t) fun h t => pKs T G rc p d x m (k + 1) (rc (G.i 7 (4 * p + k + 1) + 1) (d + 1) (x + 1) (k + 1) h t)
/-- what follows a node's name and number: its children in brackets -/
def pRs (T : List Tok) (G : Gr) (rc : Nat → Nat → Nat → Nat → Nat → TR → RT) (p d x h : Nat) (t : TR) : RT :=
  bndT (pKs T G rc p d x (G.i 6 p - 1) 0 (.inr (h, t))) fun h t => if G.i 6 p = 1 then .inr (h, t) else pSignT T 41 h t
def pNd (T : List Tok) (G : Gr) (st : Nat) : Nat → Nat → Nat → Nat → Nat → Nat → TR → RT
  | 0, _, _, _, _, _, _ => .inl (0, 0)
  | fu + 1, need, d, u, q, h, t => bndT (pHd T G st need d u q h t) fun h' t' => pRs T G (pNd T G st fu) (pnI G T h) d (tn t) h' t'
theorem pNd_s (T : List Tok) (G : Gr) (st fu need d u q h : Nat) (t : TR) : pNd T G st (fu + 1) need d u q h t = bndT (pHd T G st need d u q h t) fun h' t' => pRs T G (pNd T G st fu) (pnI G T h) d (tn t) h' t' := rfl
def t0 : TR := (0, fun _ => 0, fun _ => 0, fun _ => 0, fun _ => 0, fun _ => 0)
def pTree (T : List Tok) (G : Gr) (st need d q : Nat) : RT := bndT (pNd T G st 14 need d 0 q 0 t0) fun h t => if (tk T h).1 = 0 then .inr (h, t) else flT T h 2
theorem bndT_r {r : RT} {f : Nat → TR → RT} {y : Nat × TR} (e : bndT r f = .inr y) : ∃ z, r = .inr z ∧ f z.1 z.2 = .inr y := by
  cases r with
  | inl a => exact absurd e (by unfold bndT; exact fun z => nomatch z)
  | inr a => exact ⟨a, rfl, e⟩
theorem pSignT_r {T : List Tok} {c h : Nat} {t : TR} {y : Nat × TR} (e : pSignT T c h t = .inr y) : y = (adv T h, t) ∧ isSn T h c := by
  unfold pSignT at e
  split at e
  · rename_i c1; injection e with e; exact ⟨e.symm, c1⟩
  · exact absurd e (by unfold flT; exact fun z => nomatch z)
/-- the rows of one node -/
def CN (w : Nat) (G : Gr) (e p o : Nat) (u : Int32) (q d : Nat) (M : Mm) : Prop := M.1 (w + 1) e = nI p ∧ M.1 (w + 2) e = nI o ∧ M.1 (w + 3) e = u ∧ M.1 (w + 4) e = nI q ∧ M.1 (w + 5) e = nI d ∧ M.1 (w + 7) e = nI (G.i 7 (4 * p)) ∧ M.1 (w + 8) e = nI (G.i 4 (G.i 7 (4 * p))) ∧ M.1 (w + 9) e = nI (att G (G.i 7 (4 * p))) ∧ M.1 (w + 10) e = nI (G.i 6 p - 1)
def SN (w : Nat) : Nat → Prop := fun a => w ≤ a ∧ a ≤ w + 10
theorem CN.of {w : Nat} {G : Gr} {e p o q d : Nat} {u : Int32} {M M' : Mm} (h : CN w G e p o u q d M) (hk : ∀ k, 1 ≤ k → k ≤ 10 → M'.1 (w + k) e = M.1 (w + k) e) : CN w G e p o u q d M' := by
  obtain ⟨a1, a2, a3, a4, a5, a6, a7, a8, a9⟩ := h
  exact ⟨(hk 1 (by omega) (by omega)).trans a1, (hk 2 (by omega) (by omega)).trans a2, (hk 3 (by omega) (by omega)).trans a3, (hk 4 (by omega) (by omega)).trans a4, (hk 5 (by omega) (by omega)).trans a5, (hk 7 (by omega) (by omega)).trans a6, (hk 8 (by omega) (by omega)).trans a7, (hk 9 (by omega) (by omega)).trans a8, (hk 10 (by omega) (by omega)).trans a9⟩
theorem CG.sn {g w : Nat} {G : Gr} {M M' : Mm} (hg : g = 35 ∨ g = 52) (hw : w = 69 ∨ w = 87) (h : CG g G M) (f : Fr (SN w) M M') : CG g G M' := h.fr f fun k hk q => by unfold SN at q; omega
theorem row_one (w i c : Nat) (v : Int32) (X : Mm) (k e : Nat) : (upI X (w + i) c v).1 (w + k) e = if e = c then (if k = i then v else X.1 (w + k) e) else X.1 (w + k) e := by
  rw [up1]
  by_cases z : k = i
  · subst z; rw [if_pos rfl, upd_a]; by_cases y : e = c
    · rw [if_pos y, if_pos y, if_pos rfl]
    · rw [if_neg y, if_neg y]
  · rw [if_neg (by omega)]; by_cases y : e = c
    · rw [if_pos y, if_neg z]
    · rw [if_neg y]
theorem s_addNode {w g p o q d c : Nat} {G : Gr} {u : Int32} {M : Mm} (N : Nat) (hq : QG G) (hg : g = 35 ∨ g = 52) (hw : w = 69 ∨ w = 87) (hp : p < G.i 0 1) (hc : c < 40) (K : CG g G M) (h0 : M.1 w 0 = nI c) (hu : (u = m1 ∧ d = 0) ∨ ∃ c', c' < 40 ∧ u = nI c' ∧ 1 ≤ d ∧ M.1 (w + 5) c' = nI (d - 1)) :
    ∃ M', D_X8_add N w g (nI p) (nI o) u (nI q) M = some M' ∧ Fr (SN w) M M' ∧ M'.1 w 0 = nI (c + 1) ∧ (∀ f, ¬ f = 0 → M'.1 w f = M.1 w f) ∧ CN w G c p o u q d M' ∧ ∀ k e, 1 ≤ k → k ≤ 10 → ¬ e = c → M'.1 (w + k) e = M.1 (w + k) e := by
  have hsd := hq.sd hp
  have hnp := hq.np
  have hns := hq.ns
  have hs : G.i 7 (4 * p) < G.i 0 0 := hq.sy hp (show 0 < G.i 6 p by omega)
  have h4 := hq.at' hs
  have sd0 := s_side N K (show p < 12 by omega) (show 0 < 4 by decide)
  rw [Nat.add_zero] at sd0
  have wl : ∀ k, 1 ≤ k → k ≤ 10 → len (w + k) = len (w + k) := fun _ _ _ => rfl
  unfold D_X8_add
  rw [h0]
  simp only [n_le (show 40 < 2 ^ 31 by omega) (show c < 2 ^ 31 by omega)]
  rw [if_neg (by omega), sd0, Option.bind_some, stI_n hc (by omega), Option.bind_some]
  have x0 : ∀ (k e : Nat) (v : Int32) (M : Mm), 1 ≤ k → (upI M (w + k) e v).1 w = M.1 w := fun k e v M hk => by rw [up1, if_neg (by omega)]
  rw [x0 1 _ _ _ (by omega), h0, stI_n hc (by omega), Option.bind_some, x0 2 _ _ _ (by omega), x0 1 _ _ _ (by omega), h0, stI_n hc (by omega), Option.bind_some, x0 3 _ _ _ (by omega), x0 2 _ _ _ (by omega), x0 1 _ _ _ (by omega), h0, stI_n hc (by omega), Option.bind_some]
  have f4 : Fr (SN w) M (upI (upI (upI (upI M (w + 1) c (nI p)) (w + 2) c (nI o)) (w + 3) c u) (w + 4) c (nI q)) := (((Fr.I (S := SN w) (by unfold SN; omega)).trans (Fr.I (by unfold SN; omega))).trans (Fr.I (by unfold SN; omega))).trans (Fr.I (by unfold SN; omega))
  have e4 : ∀ k e, (upI (upI (upI (upI M (w + 1) c (nI p)) (w + 2) c (nI o)) (w + 3) c u) (w + 4) c (nI q)).1 (w + k) e = if e = c then (if k = 4 then nI q else if k = 3 then u else if k = 2 then nI o else if k = 1 then nI p else M.1 (w + k) e) else M.1 (w + k) e := fun k e => by
    rw [row_one, row_one, row_one, row_one]
    by_cases y : e = c
    · simp only [if_pos y]
    · simp only [if_neg y]
  have w4 : (upI (upI (upI (upI M (w + 1) c (nI p)) (w + 2) c (nI o)) (w + 3) c u) (w + 4) c (nI q)).1 w = M.1 w := by rw [x0 4 _ _ _ (by omega), x0 3 _ _ _ (by omega), x0 2 _ _ _ (by omega), x0 1 _ _ _ (by omega)]
  generalize upI (upI (upI (upI M (w + 1) c (nI p)) (w + 2) c (nI o)) (w + 3) c u) (w + 4) c (nI q) = M4 at f4 e4 w4
  have K4 := K.sn hg hw f4
  have pd : (if u = m1 then (some (nI 0)) else ((ldI 40 (w + 5) u M4).bind fun v4 => (some (v4 + (nI 1))))) = some (nI d) := by
    rcases hu with ⟨u1, u2⟩ | ⟨c', u1, u2, u3, u4⟩
    · rw [if_pos u1, u2]
    · have e5 : M4.1 (w + 5) c' = nI (d - 1) := by rw [e4]; split <;> simp [u4]
      rw [u2, if_neg (n_ne_m1 (by omega)), ldI_n u1 (by omega), e5, Option.bind_some, nI_add, Nat.sub_add_cancel u3]
  rw [pd, Option.bind_some, w4, h0, stI_n hc (by omega), Option.bind_some, x0 5 _ _ _ (by omega), w4, h0, stI_n hc (by omega), Option.bind_some]
  have f6 : Fr (SN w) M4 (upI (upI M4 (w + 5) c (nI d)) (w + 7) c (nI (G.i 7 (4 * p)))) := (Fr.I (S := SN w) (by unfold SN; omega)).trans (Fr.I (by unfold SN; omega))
  have K6 := K4.sn hg hw f6
  have w6 : (upI (upI M4 (w + 5) c (nI d)) (w + 7) c (nI (G.i 7 (4 * p)))).1 w = M.1 w := by rw [x0 7 _ _ _ (by omega), x0 5 _ _ _ (by omega), w4]
  rw [ldI_n (by omega) (by omega), K6.a 4 _ (by omega), Option.bind_some, w6, h0, stI_n hc (by omega), Option.bind_some]
  have f7 : Fr (SN w) (upI (upI M4 (w + 5) c (nI d)) (w + 7) c (nI (G.i 7 (4 * p)))) (upI (upI (upI M4 (w + 5) c (nI d)) (w + 7) c (nI (G.i 7 (4 * p)))) (w + 8) c (nI (G.i 4 (G.i 7 (4 * p))))) := Fr.I (by unfold SN; omega)
  have K7 := K6.sn hg hw f7
  rw [ldI_n (by omega) (by omega), K7.a 4 _ (by omega), Option.bind_some, ldI_n (by omega) (by omega), K7.a 5 _ (by omega), Option.bind_some, nI_add, x0 8 _ _ _ (by omega), w6, h0, stI_n hc (by omega), Option.bind_some]
  have f8 : Fr (SN w) (upI (upI (upI M4 (w + 5) c (nI d)) (w + 7) c (nI (G.i 7 (4 * p)))) (w + 8) c (nI (G.i 4 (G.i 7 (4 * p))))) (upI (upI (upI (upI M4 (w + 5) c (nI d)) (w + 7) c (nI (G.i 7 (4 * p)))) (w + 8) c (nI (G.i 4 (G.i 7 (4 * p))))) (w + 9) c (nI (G.i 4 (G.i 7 (4 * p)) + G.i 5 (G.i 7 (4 * p))))) := Fr.I (by unfold SN; omega)
  have K8 := K7.sn hg hw f8
  rw [s_children N hq hp K8, Option.bind_some, x0 9 _ _ _ (by omega), x0 8 _ _ _ (by omega), w6, h0, stI_n hc (by omega), Option.bind_some, x0 10 _ _ _ (by omega), x0 9 _ _ _ (by omega), x0 8 _ _ _ (by omega), w6, h0, pI_n, Option.bind_some, nI_add]
  have f9 : Fr (SN w) (upI (upI (upI (upI M4 (w + 5) c (nI d)) (w + 7) c (nI (G.i 7 (4 * p)))) (w + 8) c (nI (G.i 4 (G.i 7 (4 * p))))) (w + 9) c (nI (G.i 4 (G.i 7 (4 * p)) + G.i 5 (G.i 7 (4 * p))))) (upI (upI (upI (upI (upI (upI M4 (w + 5) c (nI d)) (w + 7) c (nI (G.i 7 (4 * p)))) (w + 8) c (nI (G.i 4 (G.i 7 (4 * p))))) (w + 9) c (nI (G.i 4 (G.i 7 (4 * p)) + G.i 5 (G.i 7 (4 * p))))) (w + 10) c (nI (G.i 6 p - 1))) w 0 (nI (c + 1))) := (Fr.I (S := SN w) (by unfold SN; omega)).trans (Fr.I (by unfold SN; omega))
  have x1 : ∀ (k e : Nat) (v : Int32) (M : Mm), 1 ≤ k → (upI M w e v).1 (w + k) = M.1 (w + k) := fun k e v M hk => by rw [up1, if_neg (by omega)]
  have e9 : ∀ k e, 1 ≤ k → (upI (upI (upI (upI (upI (upI M4 (w + 5) c (nI d)) (w + 7) c (nI (G.i 7 (4 * p)))) (w + 8) c (nI (G.i 4 (G.i 7 (4 * p))))) (w + 9) c (nI (G.i 4 (G.i 7 (4 * p)) + G.i 5 (G.i 7 (4 * p))))) (w + 10) c (nI (G.i 6 p - 1))) w 0 (nI (c + 1))).1 (w + k) e = if e = c then (if k = 10 then nI (G.i 6 p - 1) else if k = 9 then nI (G.i 4 (G.i 7 (4 * p)) + G.i 5 (G.i 7 (4 * p))) else if k = 8 then nI (G.i 4 (G.i 7 (4 * p))) else if k = 7 then nI (G.i 7 (4 * p)) else if k = 5 then nI d else M4.1 (w + k) e) else M4.1 (w + k) e := fun k e hk => by
    rw [x1 k _ _ _ hk]
    rw [row_one, row_one, row_one, row_one, row_one]
    by_cases y : e = c
    · simp only [if_pos y]
    · simp only [if_neg y]
  refine ⟨_, rfl, (((f4.trans f6).trans f7).trans f8).trans f9, upI_s _ _ _ _, fun f hf => ?_, ⟨?_, ?_, ?_, ?_, ?_, ?_, ?_, ?_, ?_⟩, fun k e h1 h2 hne => ?_⟩
  · rw [upI_j, if_neg hf, x0 10 _ _ _ (by omega), x0 9 _ _ _ (by omega), x0 8 _ _ _ (by omega), w6]
  · rw [e9 _ _ (by omega), e4]; simp
  · rw [e9 _ _ (by omega), e4]; simp
  · rw [e9 _ _ (by omega), e4]; simp
  · rw [e9 _ _ (by omega), e4]; simp
  · rw [e9 _ _ (by omega)]; simp
  · rw [e9 _ _ (by omega)]; simp
  · rw [e9 _ _ (by omega)]; simp
  · rw [e9 _ _ (by omega)]; simp [att]
  · rw [e9 _ _ (by omega)]; simp
  · rw [e9 _ _ h1, if_neg hne, e4, if_neg hne]
