-- the class seeks shades, round by round
theorem CS.fx {P : Nat → Nat → Prop} {G : Gr} {S : SS} {M M' : Mm} (h : CS G S M) (f : FX P M M') (h1 : ∀ j, ¬ P 29 j) (h2 : ∀ j, ¬ P 25 j) (h3 : ¬ P 24 6) (h4 : ¬ P 24 10) : CS G S M' := ⟨fun s hs => ⟨(f.2 29 s (h1 s)).1.trans (h.1 s hs).1, fun i hi => (f.2 25 _ (h2 _)).1.trans ((h.1 s hs).2 i hi)⟩, (f.2 24 6 h3).1.trans h.2.1, (f.2 24 10 h4).1.trans h.2.2⟩
def P267 (b _j : Nat) : Prop := b = 26 ∨ b = 27
theorem loop_haves {Hv : Nat → Int32} {S : SS} {G : Gr} (kE : Mm → Option Mm) : ∀ (fu s : Nat) (M : Mm), s ≤ 8 → 8 < s + fu → CS G S M → (∀ t, t < 8 → M.1 26 t = if t < s then nI (S.1 t) else Hv t) → (∀ t, t < s → M.1 27 t = Hv t) → ∃ M', L_X6_goRound_2 kE 24 fu (nI s) M = kE M' ∧ CS G S M' ∧ (∀ t, t < 8 → M'.1 26 t = nI (S.1 t) ∧ M'.1 27 t = Hv t) ∧ FX P267 M M'
  | 0, s, M, h1, h2, _, _, _ => by omega
  | fu + 1, s, M, h1, h2, hS, h6, h7 => by
    rw [L_X6_goRound_2]
    simp only [n_le (show 8 < 2 ^ 31 by omega) (show s < 2 ^ 31 by omega)]
    by_cases e : 8 ≤ s
    · rw [if_pos e]
      exact ⟨M, rfl, hS, fun t ht => ⟨by rw [h6 t ht, if_pos (by omega)], h7 t (by omega)⟩, FX.refl⟩
    · have f1 : FX P267 M (upI M 27 s (Hv s)) := FX.I (Or.inr rfl)
      have S1 := hS.fx f1 (fun j q => by unfold P267 at q; omega) (fun j q => by unfold P267 at q; omega) (fun q => by unfold P267 at q; omega) (fun q => by unfold P267 at q; omega)
      have e6 := h6 s (by omega)
      rw [if_neg (by omega)] at e6
      rw [if_neg e, show (24 : Nat) + 2 = 26 from rfl, show (24 : Nat) + 3 = 27 from rfl, show (24 : Nat) + 5 = 29 from rfl, ldI_n (by omega) (by omega), e6, Option.bind_some, stI_n (by omega) (by omega), Option.bind_some, ldI_n (by omega) (by omega), (S1.1 s (by omega)).1, Option.bind_some, stI_n (by omega) (by omega), Option.bind_some, Option.bind_some, nI_add]
      have f2 : FX P267 (upI M 27 s (Hv s)) (upI (upI M 27 s (Hv s)) 26 s (nI (S.1 s))) := FX.I (Or.inl rfl)
      have S2 := S1.fx f2 (fun j q => by unfold P267 at q; omega) (fun j q => by unfold P267 at q; omega) (fun q => by unfold P267 at q; omega) (fun q => by unfold P267 at q; omega)
      obtain ⟨M', a1, a2, a3, a4⟩ := loop_haves (Hv := Hv) kE fu (s + 1) _ (by omega) (by omega) S2 (fun t ht => by
        rw [upI_j]
        by_cases z : t = s
        · rw [if_pos z, if_pos (by omega), z]
        · rw [if_neg z, up1, if_neg (by decide), h6 t ht]
          by_cases y : t < s
          · rw [if_pos y, if_pos (by omega)]
          · rw [if_neg y, if_neg (by omega)]) (fun t ht => by
        rw [up1, if_neg (by decide), upI_j]
        by_cases z : t = s
        · rw [if_pos z, z]
        · rw [if_neg z]; exact h7 t (by omega))
      exact ⟨M', a1, a2, a3, (f1.trans f2).trans a4⟩
theorem s_children {g p : Nat} {G : Gr} {M : Mm} (N : Nat) (hq : QG G) (hp : p < G.i 0 1) (K : CG g G M) : D_X1_children N g (nI p) M = some (nI (G.i 6 p - 1)) := by
  have := hq.np
  have := hq.sd hp
  unfold D_X1_children
  rw [ldI_n (by omega) (by omega), K.a 6 p (by omega), Option.bind_some, n_sub (by omega)]
theorem nI_1eq {a : Nat} (h : a < 2 ^ 31) : (nI a = nI 1) = (a = 1) := n_eq h (by omega)
theorem loop_prods {g r : Nat} {G : Gr} {H O : Nat → Nat} {S : SS} (N : Nat) (hN : 2000 < N) (hq : QG G) (hg : g = 35 ∨ g = 52) (hr : 1 ≤ r ∧ r < 1000) (hS : GS H S) (hO : ∀ s, O s ≤ 12) : ∀ (fu p : Nat) (M : Mm), p ≤ G.i 0 1 → 13 < p + fu → CG g G M → HO H O M → CS G (itN (dPr G H O r) p S) M → ∃ M', L_X6_goRound_40 g N (nI r) 24 fu (nI p) M = some M' ∧ CS G (dRd G H O r S) M' ∧ FX PSh M M'
  | 0, p, M, h1, h2, _, _, _ => by have := hq.np; omega
  | fu + 1, p, M, h1, h2, K, hH, hM => by
    have hnp := hq.np
    rw [L_X6_goRound_40, K.f 1]
    simp only [n_le (show G.i 0 1 < 2 ^ 31 by omega) (show p < 2 ^ 31 by omega)]
    by_cases e : G.i 0 1 ≤ p
    · have ep : p = G.i 0 1 := by omega
      subst ep
      rw [if_pos e]; exact ⟨M, rfl, hM, FX.refl⟩
    · have hp : p < G.i 0 1 := by omega
      have hsd := hq.sd hp
      have gS : GS H (itN (dPr G H O r) p S) := itN_inv (P := GS H) (fun q S hq2 h => h.upr hq (by omega)) hS
      have next : ∀ M1, CG g G M1 → HO H O M1 → CS G (dPr G H O r p (itN (dPr G H O r) p S)) M1 → FX PSh M M1 → ∃ M', L_X6_goRound_40 g N (nI r) 24 fu (nI (p + 1)) M1 = some M' ∧ CS G (dRd G H O r S) M' ∧ FX PSh M M' := fun M1 K1 H1 C1 F1 => by
        obtain ⟨M', b1, b2, b3⟩ := loop_prods N hN hq hg hr hS hO fu (p + 1) M1 (by omega) (by omega) K1 H1 C1
        exact ⟨M', b1, b2, F1.trans b3⟩
      rw [if_neg e, s_children N hq hp K, Option.bind_some]
      simp only [n_le (show G.i 6 p - 1 < 2 ^ 31 by omega) (show 0 < 2 ^ 31 by omega), nI_1eq (show r < 2 ^ 31 by omega), Option.bind_some, nI_add]
      have es : dPr G H O r p (itN (dPr G H O r) p S) = if G.i 6 p = 1 then (if r = 1 then sCast G p 0 0 0 (itN (dPr G H O r) p S) else itN (dPr G H O r) p S) else d0 G H O p (itN (dPr G H O r) p S) := rfl
      by_cases c : G.i 6 p = 1
      · rw [if_pos (show G.i 6 p - 1 ≤ 0 by omega)]
        rw [if_pos c] at es
        by_cases d : r = 1
        · rw [if_pos d] at es
          rw [if_pos d]
          obtain ⟨M1, a1, a2, a3⟩ := s_cast (i := 0) (j := 0) (k := 0) N hN hq hg hp (fun m => by omega) (fun m => by omega) (fun m => by omega) K hM gS.1
          rw [a1, Option.bind_some]
          exact next M1 (K.fx a3 fun k hk j q => q.cg hg hk rfl) (hH.fx a3) (by rw [es]; exact a2) a3
        · rw [if_neg d] at es
          rw [if_neg d]
          exact next M K hH (by rw [es]; exact hM) FX.refl
      · rw [if_neg (show ¬ G.i 6 p - 1 ≤ 0 by omega)]
        rw [if_neg c] at es
        obtain ⟨M1, a1, a2, a3⟩ := s_castEach N hN hq hg hp gS hO K hH hM
        rw [a1, Option.bind_some]
        exact next M1 (K.fx a3 fun k hk j q => q.cg hg hk rfl) (hH.fx a3) (by rw [es]; exact a2) a3
def PSk (b j : Nat) : Prop := PSh b j ∨ b = 26 ∨ b = 27
theorem PSk.cg {g k b j : Nat} (hg : g = 35 ∨ g = 52) (hk : k ≤ 16) (e : b = g + k) : ¬ PSk b j := fun q => by unfold PSk PSh at q; omega
theorem s_goRound {g r : Nat} {G : Gr} {H : Nat → Nat} {S : SS} {M : Mm} (N : Nat) (hN : 2000 < N) (hq : QG G) (hg : g = 35 ∨ g = 52) (hr : 1 ≤ r ∧ r < 1000) (hS : SO S) (hH : ∀ s, H s ≤ 12) (K : CG g G M) (hM : CS G S M) (h6 : ∀ t, t < 8 → ¬ S.1 t = 0 → M.1 26 t = nI (H t)) : ∃ M', D_X6_goRound N 24 g (nI r) M = some M' ∧ CS G (dRd G S.1 H r S) M' ∧ (∀ t, t < 8 → M'.1 26 t = nI (S.1 t)) ∧ FX PSk M M' := by
  unfold D_X6_goRound
  obtain ⟨M1, a1, a2, a3, a4⟩ := loop_haves (Hv := fun t => M.1 26 t) (fun (M4 : Mm) => (L_X6_goRound_40 g N (nI r) 24 N (nI 0) M4)) N 0 M (by omega) (by omega) hM (fun t ht => by rw [if_neg (by omega)]) (fun t ht => by omega)
  rw [a1]
  have K1 : CG g G M1 := K.fx a4 fun k hk j q => by unfold P267 at q; omega
  obtain ⟨M2, b1, b2, b3⟩ := loop_prods N hN hq hg hr (H := S.1) (O := H) ⟨hS, fun s => Nat.le_refl _⟩ hH N 0 M1 (Nat.zero_le _) (by omega) K1 (fun t ht => ⟨(a3 t ht).1, fun z => (a3 t ht).2.trans (h6 t ht z)⟩) a2
  exact ⟨M2, b1, b2, fun t ht => (b3.2 26 t (fun q => by unfold PSh at q; omega)).1.trans (a3 t ht).1, (a4.mono fun b j q => Or.inr q).trans (b3.mono fun b j q => Or.inl q)⟩
def tot (S : SS) : Nat := psum S.1 8
theorem SO.tot {S : SS} (h : SO S) : tot S ≤ 96 := psum_le (c := 12) fun i _ => (h i).1
theorem loop_total {G : Gr} {S : SS} {M : Mm} (hO : SO S) (hS : CS G S M) : ∀ (fu s : Nat), s ≤ 8 → 8 < s + fu → L_X6_total_4 24 M fu (nI (psum S.1 s)) (nI s) = some (nI (tot S))
  | 0, s, h1, h2 => by omega
  | fu + 1, s, h1, h2 => by
    rw [L_X6_total_4]
    simp only [n_le (show 8 < 2 ^ 31 by omega) (show s < 2 ^ 31 by omega)]
    by_cases e : 8 ≤ s
    · rw [if_pos e, show s = 8 by omega]; rfl
    · rw [if_neg e, show (24 : Nat) + 5 = 29 from rfl, ldI_n (by omega) (by omega), (hS.1 s (by omega)).1, Option.bind_some, Option.bind_some, Option.bind_some, nI_add, nI_add]
      exact loop_total hO hS fu (s + 1) (by omega) (by omega)
theorem s_total {G : Gr} {S : SS} {M : Mm} (N : Nat) (hN : 2000 < N) (hO : SO S) (hS : CS G S M) : D_X6_total N 24 M = some (nI (tot S)) := loop_total hO hS N 0 (by omega) (by omega)
