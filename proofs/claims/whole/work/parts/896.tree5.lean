-- the reference reads a tree
theorem upI_n {M : Mm} {a k b : Nat} {v : Int32} (h : ¬ b = a) : (upI M a k v).1 b = M.1 b := by rw [up1, if_neg h]
def nP (u : Nat) : Int32 := if u = 0 then m1 else nI (u - 1)
def RTT (t : TR) (M : Mm) : Prop := M.1 137 51 = nI (tn t) ∧ ∀ e, e < tn t → M.1 160 e = nI (tp t e) ∧ M.1 161 e = nI (to' t e) ∧ M.1 162 e = nP (tu t e)
def PTr (a j : Nat) : Prop := PB a j ∨ a = 137 ∧ j = 51 ∨ a = 160 ∨ a = 161 ∨ a = 162
theorem PTr.n {b j : Nat} (h : PTr b j) : b = 137 ∨ 142 < b := by unfold PTr PB at h; omega
def KR (B : Nat → Nat) (n : Nat) (T : List Tok) (G : Gr) (st h : Nat) (t : TR) (M : Mm) : Prop := RQ B n T h M ∧ QT G M ∧ M.1 137 52 = nI st ∧ RTT t M ∧ st + tn t ≤ 40 ∧ RZ M
theorem RTT.ut {t : TR} {M M' : Mm} (h : RTT t M) (u : UT M M') : RTT t M' := ⟨(u.2.2.1 51 (by omega)).trans h.1, fun e he => by
  rw [(u.2.1 160 (by decide)).1, (u.2.1 161 (by decide)).1, (u.2.1 162 (by decide)).1]; exact h.2 e he⟩
theorem UT.ptr {M M' : Mm} (h : UT M M') : FX PTr M M' := h.x.mono fun a j z => Or.inl (PT_B z)
theorem KR.go {B : Nat → Nat} {n st h : Nat} {T : List Tok} {G : Gr} {t : TR} {M : Mm} (N : Nat) (hN : 2000 < N) (K : KR B n T G st h t M) : ∃ M', D_X12_go N 137 M = some M' ∧ KR B n T G st (adv T h) t M' ∧ FX PTr M M' := by
  obtain ⟨M', a, b, c⟩ := r_go N hN K.1
  exact ⟨M', a, ⟨b, K.2.1.sb c.ptr fun _ _ z => z.n, (c.2.2.1 52 (by omega)).trans K.2.2.1, K.2.2.2.1.ut c, K.2.2.2.2.1, (c.2.2.1 16 (by omega)).trans K.2.2.2.2.2.1, (c.2.2.1 17 (by omega)).trans K.2.2.2.2.2.2⟩, c.ptr⟩
def RVT (Q : Nat → TR → Mm → Prop) (M : Mm) (r : RT) (x : Option (Int32 × Mm)) : Prop := match r with
  | .inl e => ∃ M', x = some (nI 0, M') ∧ RF e M' ∧ FX PTr M M'
  | .inr y => ∃ M', x = some (nI 1, M') ∧ Q y.1 y.2 M' ∧ FX PTr M M'
theorem RVT.pre {Q : Nat → TR → Mm → Prop} {M M1 : Mm} {r : RT} {x : Option (Int32 × Mm)} (h : FX PTr M M1) (h' : RVT Q M1 r x) : RVT Q M r x := by
  cases r with
  | inl e => obtain ⟨M', a, b, c⟩ := h'; exact ⟨M', a, b, h.trans c⟩
  | inr e => obtain ⟨M', a, b, c⟩ := h'; exact ⟨M', a, b, h.trans c⟩
theorem t_bad {Q : Nat → TR → Mm → Prop} {B : Nat → Nat} {n st h : Nat} {T : List Tok} {G : Gr} {t : TR} {M : Mm} (N y : Nat) (K : KR B n T G st h t M) : RVT Q M (flT T h y) ((D_X12_bad N 137 (nI y) M).bind fun q => retZ q.1 q.2) := by
  obtain ⟨M', a, b, c⟩ := r_bad (y := y) N K.1
  exact ⟨M', by rw [a, Option.bind_some, retZ_0], b, c.mono fun _ _ z => Or.inl z⟩
theorem t_eats {B : Nat → Nat} {n st h c : Nat} {T : List Tok} {G : Gr} {t : TR} {M : Mm} (N : Nat) (hN : 2000 < N) (hc : c < 256) (K : KR B n T G st h t M) : RVT (KR B n T G st) M (pSignT T c h t) (D_X12_eats N 137 (nI c) M) := by
  unfold D_X12_eats pSignT
  rw [r_isSign N K.1 hc, Option.bind_some]
  by_cases q : isSn T h c
  · obtain ⟨M', a, b, d⟩ := K.go N hN
    rw [if_pos q, decide_eq_true q, bI_t, if_neg z10, a, Option.bind_some, retZ_1]
    exact ⟨M', rfl, b, d⟩
  · rw [if_neg q, decide_eq_false q, bI_f, if_pos rfl]
    exact t_bad N 2 K
def kEK (N p : Nat) (M8 : Mm) : Option (Int32 × Mm) := ((ldI 3816 139 ((nI 32) + nI p) M8).bind fun v4 => (jn (fun (p261 : Mm) => (retZ (nI 1) p261)) fun J1 => (if v4 = nI 0 then (J1 M8) else ((D_X12_eats N 137 (nI 41) M8).bind fun q8 => (if q8.1 = nI 0 then (retZ (nI 0) q8.2) else (J1 q8.2))))))
/-- the children, and what closes them -/
theorem t_kids {B : Nat → Nat} {n st p d x : Nat} {T : List Tok} {G : Gr} {rc : Nat → Int32 → Int32 → Int32 → Mm → Option (Int32 × Mm)} {rcS : Nat → Nat → Nat → Nat → Nat → TR → RT} (N : Nat) (hN : 2000 < N) (hq : QG G) (hp : p < G.i 0 1) (hd : d ≤ 12)
    (hrc : ∀ (k s h : Nat) (t : TR) (M : Mm), s < 8 → x < tn t → KR B n T G st h t M → RVT (fun h' t' M' => KR B n T G st h' t' M' ∧ Et t t') M (rcS (s + 1) (d + 1) (x + 1) (k + 1) h t) (rc 137 (nI s) (nI (d + 1)) (nI x) M)) :
    ∀ (m k fu h : Nat) (t t1 : TR) (M : Mm), m + k = G.i 6 p - 1 → 5 < k + fu → x < tn t → Et t1 t → KR B n T G st h t M → RVT (fun h' t' M' => KR B n T G st h' t' M' ∧ Et t1 t') M (bndT (pKs T G rcS p d x m k (.inr (h, t))) fun h t => if G.i 6 p = 1 then .inr (h, t) else pSignT T 41 h t)
      (L_X12_readNode_170 (kEK N p) 137 (nI p) N rc (nI d) (nI x) fu (nI k) M)
  | m, k, 0, h, t, t1, M, h1, h2, _, _, _ => by have := hq.sd hp; omega
  | 0, k, fu + 1, h, t, t1, M, h1, h2, hx, he, K => by
    have hsd := hq.sd hp
    have hnp := hq.np
    rw [L_X12_readNode_170, show (137 : Nat) + 2 = 139 from rfl, nI_add, ldI_n (by omega) (by omega), K.2.1.kid hp, Option.bind_some]
    simp only [n_le (show G.i 6 p - 1 < 2 ^ 31 by omega) (show k < 2 ^ 31 by omega)]
    rw [if_pos (by omega)]
    unfold kEK
    rw [nI_add, ldI_n (by omega) (by omega), K.2.1.kid hp, Option.bind_some]
    simp only [jn, n_eq (show G.i 6 p - 1 < 2 ^ 31 by omega) (show 0 < 2 ^ 31 by omega)]
    show RVT _ M (if G.i 6 p = 1 then .inr (h, t) else pSignT T 41 h t) _
    by_cases e : G.i 6 p = 1
    · rw [if_pos e, if_pos (by omega), retZ_1]; exact ⟨M, rfl, ⟨K, he⟩, FX.refl⟩
    · rw [if_neg e, if_neg (by omega)]
      have s := t_eats (c := 41) N hN (by omega) K
      cases es : pSignT T 41 h t with
      | inl a =>
        rw [es] at s
        obtain ⟨M', a1, a2, a3⟩ := s
        rw [a1, Option.bind_some, if_pos rfl, retZ_0]; exact ⟨M', rfl, a2, a3⟩
      | inr a =>
        rw [es] at s
        obtain ⟨M', a1, a2, a3⟩ := s
        obtain ⟨q1, _⟩ := pSignT_r es
        subst q1
        rw [a1, Option.bind_some, if_neg z10, retZ_1]; exact ⟨M', rfl, ⟨a2, he⟩, a3⟩
  | m + 1, k, fu + 1, h, t, t1, M, h1, h2, hx, he, K => by
    have hsd := hq.sd hp
    have hnp := hq.np
    have hns := hq.ns
    have hk : k + 1 < G.i 6 p := by omega
    have hs := hq.sy hp hk
    rw [L_X12_readNode_170, show (137 : Nat) + 2 = 139 from rfl, nI_add, ldI_n (by omega) (by omega), K.2.1.kid hp, Option.bind_some]
    simp only [n_le (show G.i 6 p - 1 < 2 ^ 31 by omega) (show k < 2 ^ 31 by omega), n_eq (show k < 2 ^ 31 by omega) (show 0 < 2 ^ 31 by omega)]
    rw [if_neg (by omega)]
    have p198 : (if k = 0 then (some (nI 40)) else (some (nI 44))) = some (nI (if k = 0 then 40 else 44)) := by split <;> rfl
    rw [p198, Option.bind_some]
    show RVT _ M (bndT (bndT (pSignT T (if k = 0 then 40 else 44) h t) fun h t => pKs T G rcS p d x m (k + 1) (rcS (G.i 7 (4 * p + k + 1) + 1) (d + 1) (x + 1) (k + 1) h t)) fun h t => if G.i 6 p = 1 then .inr (h, t) else pSignT T 41 h t) _
    have s := t_eats (c := if k = 0 then 40 else 44) N hN (by split <;> omega) K
    cases es : pSignT T (if k = 0 then 40 else 44) h t with
    | inl a =>
      rw [es] at s
      obtain ⟨M', a1, a2, a3⟩ := s
      rw [a1, Option.bind_some, if_pos rfl, retZ_0]; exact ⟨M', rfl, a2, a3⟩
    | inr a =>
      rw [es] at s
      obtain ⟨M1, a1, a2, a3⟩ := s
      obtain ⟨q1, _⟩ := pSignT_r es
      subst q1
      have a2 : KR B n T G st (adv T h) t M1 := a2
      have lk : M1.1 139 (44 + 3 * p + k) = nI (G.i 7 (4 * p + k + 1)) := ((a2.2.1.1.2.2.1 p hp).2 (by omega)).2.2 k (by omega)
      have hrc1 := hrc k (G.i 7 (4 * p + k + 1)) (adv T h) t M1 (by have := hs; rw [show 4 * p + (k + 1) = 4 * p + k + 1 by omega] at this; omega) hx a2
      rw [a1, Option.bind_some, if_neg z10, pk_mul, nI_add, nI_add, ldI_n (by omega) (by omega), lk, Option.bind_some, nI_add]
      refine RVT.pre a3 ?_
      show RVT _ M1 (bndT (pKs T G rcS p d x m (k + 1) (rcS (G.i 7 (4 * p + k + 1) + 1) (d + 1) (x + 1) (k + 1) (adv T h) t)) fun h t => if G.i 6 p = 1 then .inr (h, t) else pSignT T 41 h t) _
      cases er : rcS (G.i 7 (4 * p + k + 1) + 1) (d + 1) (x + 1) (k + 1) (adv T h) t with
      | inl b =>
        rw [er] at hrc1
        obtain ⟨M2, b1, b2, b3⟩ := hrc1
        rw [b1, Option.bind_some, if_pos rfl, retZ_0, pKs_l]
        exact ⟨M2, rfl, b2, b3⟩
      | inr b =>
        rw [er] at hrc1
        obtain ⟨M2, b1, ⟨b2, b4⟩, b3⟩ := hrc1
        rw [b1, Option.bind_some, if_neg z10, Option.bind_some, nI_add]
        exact RVT.pre b3 (t_kids N hN hq hp hd hrc m (k + 1) fu b.1 b.2 t1 M2 (by omega) (by omega) (Nat.lt_of_lt_of_le hx b4.1) (he.trans b4) b2)
theorem readNode_s (N fu a0 : Nat) (a1 a2 a3 : Int32) (M : Mm) : D_X12_readNode N (fu + 1) a0 a1 a2 a3 M = DB_X12_readNode N (D_X12_readNode N fu) a0 a1 a2 a3 M := rfl
theorem t_readNode {B : Nat → Nat} {n st : Nat} {T : List Tok} {G : Gr} (N : Nat) (hN : 2000 < N) (hq : QG G) : ∀ (fu need d u q h : Nat) (t : TR) (M : Mm), 14 ≤ fu + d → d ≤ 13 → need ≤ 8 → u ≤ tn t → KR B n T G st h t M → RVT (fun h' t' M' => KR B n T G st h' t' M' ∧ Et t t') M (pNd T G st fu need d u q h t) (D_X12_readNode N fu 137 (ndI need) (nI d) (nP u) M)
  | 0, need, d, u, q, h, t, M, h1, h2, _, _, _ => by omega
  | fu + 1, need, d, u, q, h, t, M, h1, h2, hne, hu, K => by
    obtain ⟨b1, b2, b3, b4, b5⟩ := hq.1
    have k40 := K.2.2.2.2.1
    have e1' : M.1 139 1 = nI (G.i 0 1) := K.2.1.1.1.2.1
    rw [pNd_s, readNode_s]
    unfold DB_X12_readNode pHd
    rw [r_isName N hN K.1, Option.bind_some]
    simp only [bI_0]
    cases e1 : isNm (tk T h)
    · rw [if_neg (by decide), if_pos rfl]; exact t_bad N 2 K
    · have ok := nm_ok K.1.t.1 K.1.h e1
      rw [if_pos rfl, if_neg (show ¬ true = false by decide), show (137 : Nat) + 2 = 139 from rfl, show (137 : Nat) + 4 = 141 from rfl, ldI_n (by omega) (by omega), e1', Option.bind_some, (K.1.wd (isNm_k e1)).1, r_findIn (f := G.l 3) N hN len141 (by omega) (fun j hj => ⟨(K.2.1.1.2.2.1 j hj).1, (b5 j hj).1⟩) ok, Option.bind_some]
      simp only [fR_m1 (show G.i 0 1 < 2 ^ 31 by omega)]
      show RVT _ M (bndT (if pnI G T h < G.i 0 1 then _ else _) _) (if ¬ pnI G T h < G.i 0 1 then _ else _)
      by_cases e2 : pnI G T h < G.i 0 1
      · have hfr : fR (fi (G.l 3) (tk T h).2.2.2 (G.i 0 1)) (G.i 0 1) = nI (pnI G T h) := fR_n e2
        rw [if_pos e2, if_neg (not_not_intro e2), hfr, K.2.2.1, K.2.2.2.1.1, nI_add]
        simp only [n_eq (show st + tn t < 2 ^ 31 by omega) (show 40 < 2 ^ 31 by omega), n_le (show d < 2 ^ 31 by omega) (show 12 < 2 ^ 31 by omega)]
        by_cases e3 : st + tn t = 40
        · rw [if_pos e3, if_pos (by omega)]; exact t_bad N 6 K
        · rw [if_neg e3]
          by_cases e4 : d ≤ 12
          · rw [if_pos e4, if_neg (by omega)]
            have hsd := hq.sd e2
            have hns := hq.ns
            have hs : G.i 7 (4 * pnI G T h) < G.i 0 0 := hq.sy e2 (show 0 < G.i 6 (pnI G T h) by omega)
            have lLf : M.1 139 (20 + pnI G T h) = nI (G.i 7 (4 * pnI G T h)) := ((K.2.1.1.2.2.1 _ e2).2 (by omega)).1
            have good : RVT (fun h' t' M' => KR B n T G st h' t' M' ∧ Et t t') M (pRs T G (pNd T G st fu) (pnI G T h) d (tn t) (ownA T h) (tAdd t (pnI G T h) (ownN T h) u q d)) ((some (nI (tn t))).bind fun l5_1 => (pI M 137 51 (nI (tn t) + (nI 1))).bind fun M1 => (stI 40 (137 + 23) l5_1 (nI (pnI G T h)) M1).bind fun M2 => (stI 40 (137 + 25) l5_1 (nP u) M2).bind fun M3 => (stI 40 (137 + 24) l5_1 (nI 0) M3).bind fun M4 => (D_X12_go N 137 M4).bind fun M5 => ((if (M5.1 137 13) = (nI 3) then ((stI 40 (137 + 24) l5_1 (M5.1 137 14) M5).bind fun M10 => (D_X12_go N 137 M10).bind fun M11 => (some M11)) else (some M5)).bind fun p167 => (L_X12_readNode_170 (fun (M8 : Mm) => ((ldI 3816 139 ((nI 32) + nI (pnI G T h)) M8).bind fun v4 => (jn (fun (p261 : Mm) => (retZ (nI 1) p261)) fun J1 => (if v4 = nI 0 then (J1 M8) else ((D_X12_eats N 137 (nI 41) M8).bind fun q8 => (if q8.1 = nI 0 then (retZ (nI 0) q8.2) else (J1 q8.2))))))) 137 (nI (pnI G T h)) N (D_X12_readNode N fu) (nI d) l5_1 N (nI 0) p167))) := by
              have tn40 : tn t < 40 := by omega
              rw [Option.bind_some, nI_add, pI_n, Option.bind_some, show (137 : Nat) + 23 = 160 from rfl, show (137 : Nat) + 25 = 162 from rfl, show (137 : Nat) + 24 = 161 from rfl, stI_n tn40 (by omega), Option.bind_some, stI_n tn40 (by omega), Option.bind_some, stI_n tn40 (by omega), Option.bind_some]
              have f1 : FX (fun a j => a = 137 ∧ j = 51 ∨ a = 160 ∨ a = 161 ∨ a = 162) M (upI (upI (upI (upI M 137 51 (nI (tn t + 1))) 160 (tn t) (nI (pnI G T h))) 162 (tn t) (nP u)) 161 (tn t) (nI 0)) := (((FX.I (P := fun a j => a = 137 ∧ j = 51 ∨ a = 160 ∨ a = 161 ∨ a = 162) (by omega)).trans (FX.I (by omega))).trans (FX.I (by omega))).trans (FX.I (by omega))
              have F1 : FX PTr M (upI (upI (upI (upI M 137 51 (nI (tn t + 1))) 160 (tn t) (nI (pnI G T h))) 162 (tn t) (nP u)) 161 (tn t) (nI 0)) := f1.mono fun a j z => Or.inr z
              have rw1 : ∀ (v e : Nat), e < tn t + 1 → (e = tn t ∨ e < tn t) := fun v e he => by omega
              have K1 : KR B n T G st h (tAdd t (pnI G T h) 0 u q d) (upI (upI (upI (upI M 137 51 (nI (tn t + 1))) 160 (tn t) (nI (pnI G T h))) 162 (tn t) (nP u)) 161 (tn t) (nI 0)) := by
                refine ⟨K.1.fx f1 (fun j => by omega) (fun j hj => by omega), K.2.1.sb F1 fun _ _ z => z.n, ?_, ⟨?_, fun e he => ?_⟩, by rw [tAdd_n]; omega, ?_, ?_⟩
                · rw [(f1.2 137 52 (by omega)).1]; exact K.2.2.1
                · rw [up1, if_neg (by decide), up1, if_neg (by decide), up1, if_neg (by decide), upI_s]; rfl
                · rw [tAdd_n] at he
                  have h160 : (upI (upI (upI (upI M 137 51 (nI (tn t + 1))) 160 (tn t) (nI (pnI G T h))) 162 (tn t) (nP u)) 161 (tn t) (nI 0)).1 160 e = if e = tn t then nI (pnI G T h) else M.1 160 e := by rw [upI_n (by decide), upI_n (by decide), upI_j, upI_n (by decide)]
                  have h161 : (upI (upI (upI (upI M 137 51 (nI (tn t + 1))) 160 (tn t) (nI (pnI G T h))) 162 (tn t) (nP u)) 161 (tn t) (nI 0)).1 161 e = if e = tn t then nI 0 else M.1 161 e := by rw [upI_j, upI_n (by decide), upI_n (by decide), upI_n (by decide)]
                  have h162 : (upI (upI (upI (upI M 137 51 (nI (tn t + 1))) 160 (tn t) (nI (pnI G T h))) 162 (tn t) (nP u)) 161 (tn t) (nI 0)).1 162 e = if e = tn t then nP u else M.1 162 e := by rw [upI_n (by decide), upI_j, upI_n (by decide), upI_n (by decide)]
                  rw [h160, h161, h162]
                  show _ = nI (st1 (tp t) (tn t) _ e) ∧ _ = nI (st1 (to' t) (tn t) _ e) ∧ _ = nP (st1 (tu t) (tn t) _ e)
                  rcases rw1 0 e he with z | z
                  · subst z; rw [if_pos rfl, if_pos rfl, if_pos rfl, st1_s, st1_s, st1_s]; exact ⟨rfl, rfl, rfl⟩
                  · rw [if_neg (by omega), if_neg (by omega), if_neg (by omega), st1_n (by omega), st1_n (by omega), st1_n (by omega)]
                    exact K.2.2.2.1.2 e z
                · rw [(f1.2 137 16 (by omega)).1]; exact K.2.2.2.2.2.1
                · rw [(f1.2 137 17 (by omega)).1]; exact K.2.2.2.2.2.2
              generalize upI (upI (upI (upI M 137 51 (nI (tn t + 1))) 160 (tn t) (nI (pnI G T h))) 162 (tn t) (nP u)) 161 (tn t) (nI 0) = M4 at F1 K1
              obtain ⟨M5, a1, a2, a3⟩ := K1.go N hN
              have key : ∃ M6, (if (M5.1 137 13) = (nI 3) then ((stI 40 161 (nI (tn t)) (M5.1 137 14) M5).bind fun M10 => (D_X12_go N 137 M10).bind fun M11 => (some M11)) else (some M5)) = some M6 ∧ KR B n T G st (ownA T h) (tAdd t (pnI G T h) (ownN T h) u q d) M6 ∧ FX PTr M5 M6 := by
                have k3 := a2.1.isK (v := 3) (by omega)
                rw [kR_2 a2.1.k4] at k3
                simp only [k3]
                unfold ownA ownN
                by_cases z : (tk T (adv T h)).1 = 2
                · rw [if_pos z, if_pos z, if_pos z, stI_n tn40 (by omega), Option.bind_some, a2.1.2.2.2.2.2.2.2.1 z]
                  have f2 : FX (fun a _ => a = 161) M5 (upI M5 161 (tn t) (nI (tk T (adv T h)).2.2.2)) := FX.I rfl
                  have F2 : FX PTr M5 (upI M5 161 (tn t) (nI (tk T (adv T h)).2.2.2)) := f2.mono fun a j w => by unfold PTr; omega
                  have K2 : KR B n T G st (adv T h) (tAdd t (pnI G T h) (tk T (adv T h)).2.2.2 u q d) (upI M5 161 (tn t) (nI (tk T (adv T h)).2.2.2)) := by
                    refine ⟨a2.1.fx f2 (fun j => by omega) (fun j hj => by omega), a2.2.1.sb F2 fun _ _ z => z.n, ?_, ⟨?_, fun e he => ?_⟩, by rw [tAdd_n]; omega, ?_, ?_⟩
                    · rw [(f2.2 137 52 (by omega)).1]; exact a2.2.2.1
                    · rw [(f2.2 137 51 (by omega)).1]; exact a2.2.2.2.1.1
                    · have ha := a2.2.2.2.1.2 e he
                      rw [tAdd_n] at he
                      refine ⟨by rw [up1, if_neg (by decide)]; exact ha.1, ?_, by rw [up1, if_neg (by decide)]; exact ha.2.2⟩
                      rw [upI_j]
                      show _ = nI (st1 (to' t) (tn t) _ e)
                      have hb : M5.1 161 e = nI (st1 (to' t) (tn t) 0 e) := ha.2.1
                      rcases rw1 0 e he with z | z
                      · rw [if_pos z, z, st1_s]
                      · rw [st1_n (by omega)] at hb
                        rw [if_neg (by omega), st1_n (by omega)]; exact hb
                    · rw [(f2.2 137 16 (by omega)).1]; exact a2.2.2.2.2.2.1
                    · rw [(f2.2 137 17 (by omega)).1]; exact a2.2.2.2.2.2.2
                  obtain ⟨M7, c1, c2, c3⟩ := K2.go N hN
                  rw [c1, Option.bind_some]
                  exact ⟨M7, rfl, c2, F2.trans c3⟩
                · rw [if_neg z, if_neg z, if_neg z]
                  exact ⟨M5, rfl, a2, FX.refl⟩
              obtain ⟨M6, k1, k2, k3⟩ := key
              rw [a1, Option.bind_some, k1, Option.bind_some]
              refine RVT.pre ((F1.trans a3).trans k3) ?_
              exact t_kids (rcS := pNd T G st fu) N hN hq e2 e4 (fun k s h t M hs hx K => by
                have := t_readNode N hN hq fu (s + 1) (d + 1) (tn _ + 1) (k + 1) h t M (by omega) (by omega) (by omega) hx K
                unfold ndI nP at this
                rw [if_neg (by omega), if_neg (by omega), Nat.add_sub_cancel, Nat.add_sub_cancel] at this
                exact this) (G.i 6 (pnI G T h) - 1) 0 N (ownA T h) _ t M6 rfl (by omega) (by rw [tAdd_n]; omega) Et.add k2
            unfold ndI
            simp only [jn]
            by_cases e5 : need = 0
            · rw [if_pos e5, if_pos rfl, if_neg (fun z => z.1 e5)]; exact good
            · rw [if_neg e5, if_neg (n_ne_m1 (by omega)), nI_add, ldI_n (by omega) (by omega), lLf, Option.bind_some]
              simp only [n_eq (show G.i 7 (4 * pnI G T h) < 2 ^ 31 by omega) (show need - 1 < 2 ^ 31 by omega)]
              by_cases e6 : G.i 7 (4 * pnI G T h) = need - 1
              · rw [if_pos e6, if_neg (fun z => z.2 (by omega))]; exact good
              · rw [if_neg e6, if_pos ⟨e5, by omega⟩]; exact t_bad N 7 K
          · rw [if_neg e4, if_pos (by omega)]; exact t_bad N 6 K
      · rw [if_neg e2, if_pos e2]; exact t_bad N 3 K
