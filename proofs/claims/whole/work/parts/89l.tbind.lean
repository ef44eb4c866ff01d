-- the class binds a group
/-- groups when x have been taken from what stands open -/
def gX (O : Nat → Nat) (oN gN : Nat) (gr : Nat → Nat) : Nat → Nat → Nat
  | 0 => gr
  | x + 1 => st1 (gX O oN gN gr x) (O (oN - x - 1)) (gN + 1)
theorem gX_in {O gr : Nat → Nat} {oN gN : Nat} : ∀ {x v : Nat}, x ≤ oN → (∃ b, oN - x ≤ b ∧ b < oN ∧ O b = v) → gX O oN gN gr x v = gN + 1
  | 0, v, h, ⟨b, b1, b2, _⟩ => by omega
  | x + 1, v, h, ⟨b, b1, b2, b3⟩ => by
    show st1 (gX O oN gN gr x) (O (oN - x - 1)) (gN + 1) v = gN + 1
    rw [st1_t]; split
    · rfl
    · rename_i c
      refine gX_in (by omega) ⟨b, ?_, b2, b3⟩
      by_cases z : b = oN - x - 1
      · exact absurd (by rw [← b3, z]) c
      · omega
theorem gX_out {O gr : Nat → Nat} {oN gN : Nat} : ∀ {x v : Nat}, x ≤ oN → ¬ (∃ b, oN - x ≤ b ∧ b < oN ∧ O b = v) → gX O oN gN gr x v = gr v
  | 0, v, h, _ => rfl
  | x + 1, v, h, hn => by
    show st1 (gX O oN gN gr x) (O (oN - x - 1)) (gN + 1) v = gr v
    rw [st1_n (fun z => hn ⟨oN - x - 1, by omega, by omega, z.symm⟩)]
    exact gX_out (by omega) fun ⟨b, b1, b2, b3⟩ => hn ⟨b, by omega, b2, b3⟩
/-- what holds while a group is taken -/
def BL (c : Nat) (O : Nat → Nat) (oN gN : Nat) (gr : Nat → Nat) (F x : Nat) (od : Nat → Nat) (M : Mm) : Prop :=
  M.1 c 10 = nI (oN - x) ∧ M.1 c 4 = nI gN ∧ M.1 (c + 2) gN = nI F ∧ (∀ a, a < oN → M.1 (c + 7) a = nI (O a)) ∧ (∀ v, v < 320 → M.1 (c + 3) v = nP (gX O oN gN gr x v)) ∧
  (∀ m, F ≤ m → m < F + x → M.1 (c + 1) m = nI (od m) ∧ od m < 320 ∧ (m + 1 < F + x → od m < od (m + 1)) ∧ ∃ b, oN - x ≤ b ∧ b < oN ∧ O b = od m) ∧
  ∀ b, oN - x ≤ b → b < oN → ∃ m, F ≤ m ∧ m < F + x ∧ od m = O b
def PBd (c F b j : Nat) : Prop := b = c ∧ j = 10 ∨ b = c + 3 ∨ b = c + 1 ∧ F ≤ j
theorem loop_bindT {c oN gN F a : Nat} {O gr : Nat → Nat} (N : Nat) (hN : 2000 < N) (hO : ∀ b, b < oN → O b < 320) (inj : ∀ b b', b < oN → b' < oN → O b = O b' → b = b') (ha : a < oN) (hF : F + oN ≤ 320) (hg : gN < 320) (kE : Int32 → Mm → Option Mm) : ∀ (fu x : Nat) (od : Nat → Nat) (M : Mm), x ≤ oN - a → 322 < x + fu → BL c O oN gN gr F x od M → ∃ od' M', L_X4_bind_15 kE c N (nI (O a)) fu (nI (F + x)) (if x = oN - a then nI 0 else nI 1) (nI x) M = kE (nI (F + (oN - a))) M' ∧ BL c O oN gN gr F (oN - a) od' M' ∧ (∀ m, m < F → od' m = od m) ∧ FX (PBd c F) M M'
  | 0, x, od, M, h1, h2, _ => by omega
  | fu + 1, x, od, M, h1, h2, hB => by
    rw [L_X4_bind_15]
    by_cases e : x = oN - a
    · subst e
      rw [if_pos rfl, if_pos rfl]
      refine ⟨od, M, ?_, hB, fun _ _ => rfl, FX.refl⟩
      split <;> rfl
    · obtain ⟨b1, b2, b3, b4, b5, b6, b7⟩ := hB
      simp only [n_le (show 320 < 2 ^ 31 by omega) (show x < 2 ^ 31 by omega)]
      have iO := hO (oN - x - 1) (by omega)
      have le0 : ¬ nI (oN - x) ≤ nI 0 := by rw [n_le (by omega) (by omega)]; omega
      rw [if_neg (by omega), if_neg e, if_neg z10, b1, if_neg le0, n_sub (by omega), pI_n, Option.bind_some, upI_s, ldI_n (by omega) (by omega), upI_n (by omega), b4 _ (by omega), Option.bind_some, upI_j, if_neg (by decide), b2, stI_n iO (by omega), Option.bind_some, upI_n (by omega), upI_j, if_neg (by decide), b2, ldI_n (by omega) (by omega), upI_n (by omega), upI_n (by omega), b3, Option.bind_some]
      have f1 : FX (PBd c F) M (upI (upI M c 10 (nI (oN - x - 1))) (c + 3) (O (oN - x - 1)) (nI gN)) := (FX.I (P := PBd c F) (Or.inl ⟨rfl, rfl⟩)).trans (FX.I (Or.inr (Or.inl rfl)))
      have r1 : ∀ m, (upI (upI M c 10 (nI (oN - x - 1))) (c + 3) (O (oN - x - 1)) (nI gN)).1 (c + 1) m = M.1 (c + 1) m := fun m => by rw [upI_n (by omega), upI_n (by omega)]
      have r3 : ∀ v, v < 320 → (upI (upI M c 10 (nI (oN - x - 1))) (c + 3) (O (oN - x - 1)) (nI gN)).1 (c + 3) v = nP (gX O oN gN gr (x + 1) v) := fun v hv => by
        rw [upI_j, upI_n (by omega)]
        show _ = nP (st1 (gX O oN gN gr x) (O (oN - x - 1)) (gN + 1) v)
        rw [st1_t]; split
        · rw [nP_s (by omega), Nat.add_sub_cancel]
        · exact b5 v hv
      have r10 : (upI (upI M c 10 (nI (oN - x - 1))) (c + 3) (O (oN - x - 1)) (nI gN)).1 c 10 = nI (oN - x - 1) := by rw [upI_n (by omega), upI_s]
      have r4 : (upI (upI M c 10 (nI (oN - x - 1))) (c + 3) (O (oN - x - 1)) (nI gN)).1 c 4 = nI gN := by rw [upI_n (by omega), upI_j, if_neg (by decide)]; exact b2
      have r2 : (upI (upI M c 10 (nI (oN - x - 1))) (c + 3) (O (oN - x - 1)) (nI gN)).1 (c + 2) gN = nI F := by rw [upI_n (by omega), upI_n (by omega)]; exact b3
      have r7 : ∀ a, a < oN → (upI (upI M c 10 (nI (oN - x - 1))) (c + 3) (O (oN - x - 1)) (nI gN)).1 (c + 7) a = nI (O a) := fun a ha => by rw [upI_n (by omega), upI_n (by omega)]; exact b4 a ha
      generalize upI (upI M c 10 (nI (oN - x - 1))) (c + 3) (O (oN - x - 1)) (nI gN) = M1 at f1 r1 r3 r10 r4 r2 r7
      obtain ⟨p, M2, c1, c2, c3, c4, c5, c6, c7⟩ := s_insert (c := c) (B := F) (E := F + x) (i := O (oN - x - 1)) (od := od) (M := M1) N hN (by omega) (by omega) iO (fun m m1' m2' => ⟨by rw [r1]; exact (b6 m m1' m2').1, (b6 m m1' m2').2.1⟩) (fun m m1' m2' => (b6 m m1' (by omega)).2.2.1 m2') (fun m m1' m2' q => by
        obtain ⟨b, d1, d2, d3⟩ := (b6 m m1' m2').2.2.2
        have := inj b (oN - x - 1) d2 (by omega) (d3.trans q)
        omega)
      rw [c1, Option.bind_some, Option.bind_some, nI_add]
      simp only [n_eq (show O (oN - x - 1) < 2 ^ 31 by omega) (show O a < 2 ^ 31 by have := hO a ha; omega), nI_add, Option.bind_some]
      have od' : ∃ od2 : Nat → Nat, od2 = fun m => if m < F then od m else if m < p then od m else if m = p then O (oN - x - 1) else od (m - 1) := ⟨_, rfl⟩
      obtain ⟨od2, e2⟩ := od'
      have o1 : ∀ m, F ≤ m → m < p → od2 m = od m := fun m x1 x2 => by rw [e2]; show (if m < F then _ else if m < p then _ else _) = _; rw [if_neg (by omega), if_pos x2]
      have o2 : od2 p = O (oN - x - 1) := by rw [e2]; show (if p < F then _ else if p < p then _ else if p = p then _ else _) = _; rw [if_neg (by omega), if_neg (by omega), if_pos rfl]
      have o3 : ∀ m, p < m → od2 m = od (m - 1) := fun m x1 => by rw [e2]; show (if m < F then _ else if m < p then _ else if m = p then _ else _) = _; rw [if_neg (by omega), if_neg (by omega), if_neg (by omega)]
      have B2 : BL c O oN gN gr F (x + 1) od2 M2 := by
        refine ⟨?_, ?_, ?_, fun a' ha' => ?_, fun v hv => ?_, fun m m1' m2' => ⟨?_, ?_, fun m3' => ?_, ?_⟩, fun b d1 d2 => ?_⟩
        · rw [(c7.2 c 10 (fun z => by omega)).1, r10, show oN - x - 1 = oN - (x + 1) by omega]
        · rw [(c7.2 c 4 (fun z => by omega)).1]; exact r4
        · rw [(c7.2 (c + 2) gN (fun z => by omega)).1]; exact r2
        · rw [(c7.2 (c + 7) a' (fun z => by omega)).1]; exact r7 a' ha'
        · rw [(c7.2 (c + 3) v (fun z => by omega)).1]; exact r3 v hv
        · rw [c6 m m1' (by omega)]
          by_cases z : m < p
          · rw [if_pos z, o1 m m1' z]
          · by_cases y : m = p
            · rw [if_neg z, if_pos y, y, o2]
            · rw [if_neg z, if_neg y, o3 m (by omega)]
        · by_cases z : m < p
          · rw [o1 m m1' z]; exact (b6 m m1' (by omega)).2.1
          · by_cases y : m = p
            · rw [y, o2]; exact iO
            · rw [o3 m (by omega)]; exact (b6 (m - 1) (by omega) (by omega)).2.1
        · by_cases z : m < p
          · rw [o1 m m1' z]
            by_cases y : m + 1 < p
            · rw [o1 (m + 1) (by omega) y]; exact (b6 m m1' (by omega)).2.2.1 (by omega)
            · rw [show m + 1 = p by omega, o2]; exact c4 m m1' z
          · rw [o3 (m + 1) (by omega), Nat.add_sub_cancel]
            by_cases y : m = p
            · rw [y, o2]; exact c5 p (Nat.le_refl _) (by omega)
            · rw [o3 m (by omega)]
              have := (b6 (m - 1) (by omega) (by omega)).2.2.1 (by omega)
              rwa [show m - 1 + 1 = m by omega] at this
        · by_cases z : m < p
          · obtain ⟨b, d1, d2, d3⟩ := (b6 m m1' (by omega)).2.2.2
            exact ⟨b, by omega, d2, by rw [o1 m m1' z]; exact d3⟩
          · by_cases y : m = p
            · exact ⟨oN - x - 1, by omega, by omega, by rw [y, o2]⟩
            · obtain ⟨b, d1, d2, d3⟩ := (b6 (m - 1) (by omega) (by omega)).2.2.2
              exact ⟨b, by omega, d2, by rw [o3 m (by omega)]; exact d3⟩
        · by_cases z : b = oN - x - 1
          · exact ⟨p, c2, by omega, by rw [o2, z]⟩
          · obtain ⟨m, m1', m2', m3'⟩ := b7 b (by omega) d2
            by_cases y : m < p
            · exact ⟨m, m1', by omega, by rw [o1 m m1' y]; exact m3'⟩
            · exact ⟨m + 1, by omega, by omega, by rw [o3 (m + 1) (by omega), Nat.add_sub_cancel]; exact m3'⟩
      have F2 : FX (PBd c F) M M2 := f1.trans (c7.mono fun b j z => Or.inr (Or.inr ⟨z.1, z.2.1⟩))
      obtain ⟨od3, M3, d1, d2, d3, d4⟩ := loop_bindT N hN hO inj ha hF hg kE fu (x + 1) od2 M2 (by omega) (by omega) B2
      refine ⟨od3, M3, ?_, d2, fun m hm => ?_, F2.trans d4⟩
      · rw [← d1, show F + (x + 1) = F + x + 1 by omega]
        by_cases z : O (oN - x - 1) = O a
        · have := inj _ _ (show oN - x - 1 < oN by omega) ha z
          rw [if_pos z, if_pos (show x + 1 = oN - a by omega)]
        · rw [if_neg z, if_neg (show ¬ x + 1 = oN - a from fun y => z (by rw [show oN - x - 1 = a by omega]))]
      · rw [d3 m hm, e2]
        show (if m < F then od m else _) = od m
        rw [if_pos hm]
/-- groups, their members in order -/
def OI (gN : Nat) (gr fr od : Nat → Nat) : Prop := fr 0 = 0 ∧ (∀ g, g < gN → fr g < fr (g + 1) ∧ (∀ m, fr g ≤ m → m < fr (g + 1) → od m < 320 ∧ gr (od m) = g + 1 ∧ (m + 1 < fr (g + 1) → od m < od (m + 1))) ∧ ∀ v, gr v = g + 1 → ∃ m, fr g ≤ m ∧ m < fr (g + 1) ∧ od m = v)
theorem OI.mono {gN : Nat} {gr fr od : Nat → Nat} (h : OI gN gr fr od) : ∀ d g, g + d ≤ gN → fr g + d ≤ fr (g + d)
  | 0, g, _ => Nat.le_refl _
  | d + 1, g, hg => by
    have a := h.mono d g (by omega)
    have b := (h.2 (g + d) (by omega)).1
    rw [show g + (d + 1) = g + d + 1 by omega]; omega
/-- which groups are knots: they have more than one, or one that hangs on itself -/
def KTI (gN : Nat) (fr od : Nat → Nat) (sf : Nat → Bool) (kt : Nat → Bool) : Prop := ∀ g, g < gN → kt g = (decide (1 < fr (g + 1) - fr g) || sf (od (fr g)))
theorem s_bindT {c w τ oN pN gN a : Nat} {mk lw O P Q gr fr od : Nat → Nat} {kt sf : Nat → Bool} {M : Mm} (N : Nat) (hN : 2000 < N) (hc : c = 106 ∨ c = 122) (hw : w = 69 ∨ w = 87) (h : KM1 c w τ mk lw oN O pN P Q gN gr M) (h2 : KM2 c gN fr od kt M) (hI : OI gN gr fr od) (hk : KTI gN fr od sf kt) (hO : ∀ b, b < oN → O b < 320) (inj : ∀ b b', b < oN → b' < oN → O b = O b' → b = b') (ha : a < oN) (hF : fr gN + oN ≤ 320) (hgr : ∀ v, gr v ≤ gN) (hop : ∀ b, b < oN → gr (O b) = 0)
    (hs : ∀ M', FX (fun b _ => c ≤ b ∧ b ≤ c + 9) M M' → D_X4_hangsOnItself N c (nI (O a)) M' = some (bI (sf (O a)))) :
    ∃ od' fr' kt' M', D_X4_bind N c (nI (O a)) M = some M' ∧ KM1 c w τ mk lw a O pN P Q (gN + 1) (gX O oN gN gr (oN - a)) M' ∧ KM2 c (gN + 1) fr' od' kt' M' ∧ OI (gN + 1) (gX O oN gN gr (oN - a)) fr' od' ∧ KTI (gN + 1) fr' od' sf kt' ∧ fr' (gN + 1) = fr gN + (oN - a) ∧ FX (PKn c) M M' := by
  have gl : gN ≤ fr gN := by have := hI.mono gN 0 (by omega); rw [Nat.zero_add] at this; omega
  obtain ⟨⟨h1a, h1b, h1c, h1d, h1e⟩, h1f, h1g, h1h⟩ := h
  obtain ⟨h2a, h2b, h2c, h2d⟩ := h2
  unfold D_X4_bind
  rw [h1d, ldI_n (by omega) (by omega), h2b gN (Nat.le_refl _), Option.bind_some]
  have B0 : BL c O oN gN gr (fr gN) 0 od M := ⟨h1b, h1d, h2b gN (Nat.le_refl _), h1g, fun v hv => (h1f v hv).2.1, fun m x y => by omega, fun b x y => by omega⟩
  obtain ⟨od', M1, a1, a2, a3, a4⟩ := loop_bindT (F := fr gN) (a := a) N hN hO inj ha hF (by omega) (fun (l2_3 : Int32) (M5 : Mm) => ((ldI 321 (c + 2) (M5.1 c 4) M5).bind fun v4 => ((jn (fun (p134 : Unit) => (some (nI 1))) fun J1 => (if (nI 1) < (l2_3 - v4) then (J1 ()) else ((D_X4_hangsOnItself N c (nI (O a)) M5).bind fun q1 => (if q1 = nI 0 then (some (nI 0)) else (J1 ()))))).bind fun p139 => ((stZ 320 (c + 4) (M5.1 c 4) p139 M5).bind fun M6 => (ldI 320 (c + 4) (M6.1 c 4) M6).bind fun v5 => ((if v5 = nI 0 then (some (nI 0)) else (some (nI 1))).bind fun p162 => ((pI M6 c 5 ((M6.1 c 5) + p162)).bind fun M7 => (pI M7 c 4 ((M7.1 c 4) + (nI 1))).bind fun M8 => (stI 321 (c + 2) (M8.1 c 4) l2_3 M8).bind fun M9 => some M9)))))) N 0 od M (Nat.zero_le _) (by omega) B0
  rw [show fr gN + 0 = fr gN from rfl, if_neg (by omega)] at a1
  rw [a1]
  obtain ⟨b1, b2, b3, b4, b5, b6, b7⟩ := a2
  have sfp : ∃ kb : Bool, kb = (decide (1 < oN - a) || sf (O a)) := ⟨_, rfl⟩
  obtain ⟨kb, ekb⟩ := sfp
  have p139 : (jn (fun (p134 : Unit) => (some (nI 1))) fun J1 => (if (nI 1) < (nI (fr gN + (oN - a)) - nI (fr gN)) then (J1 ()) else ((D_X4_hangsOnItself N c (nI (O a)) M1).bind fun q1 => (if q1 = nI 0 then (some (nI 0)) else (J1 ()))))) = some (bI kb) := by
    simp only [jn]
    rw [n_sub (by omega), Nat.add_sub_cancel_left, hs M1 (a4.mono fun b j z => by unfold PBd at z; omega), Option.bind_some]
    simp only [bI_0, n_lt (show 1 < 2 ^ 31 by omega) (show oN - a < 2 ^ 31 by omega)]
    rw [ekb]
    by_cases z : 1 < oN - a
    · rw [if_pos z, decide_eq_true z]; rfl
    · rw [if_neg z, decide_eq_false z]
      cases sf (O a)
      · rw [if_pos rfl]; rfl
      · rw [if_neg (by decide)]; rfl
  have e5 : M1.1 c 5 = nI (cnt kt gN) := by rw [(a4.2 c 5 (fun z => by unfold PBd at z; omega)).1]; exact h2a
  have p162 : (if bI kb = nI 0 then (some (nI 0)) else (some (nI 1))) = some (nI (if kb = true then 1 else 0)) := by
    cases kb
    · rw [if_pos (show bI false = nI 0 from rfl)]; rfl
    · rw [if_neg (show ¬ bI true = nI 0 from z10)]; rfl
  rw [b2, ldI_n (by omega) (by omega), b3, Option.bind_some, p139, Option.bind_some, stZ_n (by omega) (by omega), Option.bind_some, upI_n (by omega), b2, ldI_n (by omega) (by omega), upI_s, Option.bind_some, p162, Option.bind_some, e5, nI_add, pI_n, Option.bind_some, upI_j, if_neg (show ¬ 4 = 5 by decide), upI_n (by omega), b2, nI_add, pI_n, Option.bind_some, upI_s, stI_n (by omega) (by omega), Option.bind_some]
  have fxx : FX (PKn c) M1 (upI (upI (upI (upI M1 (c + 4) gN (bI kb)) c 5 (nI (cnt kt gN + if kb = true then 1 else 0))) c 4 (nI (gN + 1))) (c + 2) (gN + 1) (nI (fr gN + (oN - a)))) := (((FX.I (P := PKn c) (by unfold PKn; omega)).trans (FX.I (by unfold PKn; omega))).trans (FX.I (by unfold PKn; omega))).trans (FX.I (by unfold PKn; omega))
  have g3 : ∀ v, gX O oN gN gr (oN - a) v = gN + 1 → ∃ b, a ≤ b ∧ b < oN ∧ O b = v := fun v hv => by
    by_cases z : ∃ b, oN - (oN - a) ≤ b ∧ b < oN ∧ O b = v
    · obtain ⟨b, d1, d2⟩ := z; exact ⟨b, by omega, d2⟩
    · rw [gX_out (by omega) z] at hv; have := hgr v; omega
  have m1' : ∀ (b j : Nat), ¬ (b = c ∧ (j = 4 ∨ j = 5)) → ¬ (b = c + 4 ∧ j = gN) → ¬ (b = c + 2 ∧ j = gN + 1) → (upI (upI (upI (upI M1 (c + 4) gN (bI kb)) c 5 (nI (cnt kt gN + if kb = true then 1 else 0))) c 4 (nI (gN + 1))) (c + 2) (gN + 1) (nI (fr gN + (oN - a)))).1 b j = M1.1 b j := fun b j x1 x2 x3 => by
    by_cases y : b = c + 2
    · subst y; rw [upI_j, if_neg (by omega), upI_n (by omega), upI_n (by omega), upI_n (by omega)]
    · rw [upI_n y]
      by_cases y2 : b = c
      · subst y2; rw [upI_j, if_neg (by omega), upI_j, if_neg (by omega), upI_n (by omega)]
      · rw [upI_n y2, upI_n y2]
        by_cases y3 : b = c + 4
        · subst y3; rw [upI_j, if_neg (by omega)]
        · rw [upI_n y3]
  have old : ∀ (b j : Nat), ¬ PBd c (fr gN) b j → M1.1 b j = M.1 b j := fun b j z => (a4.2 b j z).1
  refine ⟨od', st1 fr (gN + 1) (fr gN + (oN - a)), (fun g => if g = gN then kb else kt g), _, rfl, ⟨⟨?_, ?_, ?_, ?_, ?_⟩, fun v hv => ⟨?_, ?_, fun hm => ?_⟩, fun b hb => ?_, fun s hs' => ⟨?_, ?_⟩⟩, ⟨?_, fun g hg => ?_, fun m hm => ?_, fun g hg => ?_⟩, ⟨?_, fun g hg => ?_⟩, fun g hg => ?_, st1_s _ _ _, ?_⟩
  · rw [m1' _ _ (by omega) (by omega) (by omega), old _ _ (fun z => by unfold PBd at z; omega)]; exact h1a
  · rw [m1' _ _ (by omega) (by omega) (by omega), b1]; congr 1; omega
  · rw [m1' _ _ (by omega) (by omega) (by omega), old _ _ (fun z => by unfold PBd at z; omega)]; exact h1c
  · rw [upI_n (by omega), upI_s]
  · rw [up2, up2, up2, up2, a4.1]; exact h1e
  · rw [m1' _ _ (by omega) (by omega) (by omega), old _ _ (fun z => by unfold PBd at z; omega)]; exact (h1f v hv).1
  · rw [m1' _ _ (by omega) (by omega) (by omega)]; exact b5 v hv
  · rw [m1' _ _ (by omega) (by omega) (by omega), old _ _ (fun z => by unfold PBd at z; omega)]; exact (h1f v hv).2.2 hm
  · rw [m1' _ _ (by omega) (by omega) (by omega)]; exact b4 b (by omega)
  · rw [m1' _ _ (by omega) (by omega) (by omega), old _ _ (fun z => by unfold PBd at z; omega)]; exact (h1h s hs').1
  · rw [m1' _ _ (by omega) (by omega) (by omega), old _ _ (fun z => by unfold PBd at z; omega)]; exact (h1h s hs').2
  · rw [upI_n (by omega), upI_j, if_neg (by decide), upI_s]
    show _ = nI (cnt (fun g => if g = gN then kb else kt g) gN + if (if gN = gN then kb else kt gN) = true then 1 else 0)
    rw [if_pos rfl, cnt_congr (f := kt) (g := fun g => if g = gN then kb else kt g) fun i hi => by show kt i = if i = gN then kb else kt i; rw [if_neg (by omega)]]
  · rw [st1_t]
    by_cases z : g = gN + 1
    · rw [if_pos z, z, upI_s]
    · rw [if_neg z, m1' _ _ (by omega) (by omega) (by omega), old _ _ (fun z => by unfold PBd at z; omega)]; exact h2b g (by omega)
  · rw [st1_s] at hm
    rw [m1' _ _ (by omega) (by omega) (by omega)]
    by_cases z : m < fr gN
    · rw [old _ _ (fun z => by unfold PBd at z; omega), a3 m z]; exact h2c m z
    · exact (b6 m (by omega) hm).1
  · show _ = bI (if g = gN then kb else kt g)
    by_cases z : g = gN
    · rw [if_pos z, z, upI_n (by omega), upI_n (by omega), upI_n (by omega), upI_s]
    · rw [if_neg z, m1' _ _ (by omega) (by omega) (by omega), old _ _ (fun z => by unfold PBd at z; omega)]; exact h2d g (by omega)
  · rw [st1_n (by omega)]; exact hI.1
  · by_cases z : g = gN
    · subst z
      rw [st1_s, st1_n (by omega)]
      refine ⟨by omega, fun m x1 x2 => ?_, fun v hv => ?_⟩
      · obtain ⟨_, d2, d3, b, d4, d5, d6⟩ := b6 m x1 x2
        exact ⟨d2, by rw [← d6]; exact gX_in (by omega) ⟨b, d4, d5, rfl⟩, d3⟩
      · obtain ⟨b, d1, d2, d3⟩ := g3 v hv
        obtain ⟨m, e1, e2, e3⟩ := b7 b (by omega) d2
        exact ⟨m, e1, e2, e3.trans d3⟩
    · obtain ⟨d1, d2, d3⟩ := hI.2 g (by omega)
      have up := hI.mono (gN - (g + 1)) (g + 1) (by omega)
      rw [show g + 1 + (gN - (g + 1)) = gN by omega] at up
      rw [st1_n (by omega), st1_n (by omega)]
      refine ⟨d1, fun m x1 x2 => ?_, fun v hv => ?_⟩
      · obtain ⟨e1, e2, e3⟩ := d2 m x1 x2
        rw [a3 m (by omega)]
        refine ⟨e1, ?_, fun x3 => by rw [a3 (m + 1) (by omega)]; exact e3 x3⟩
        rw [gX_out (by omega) (fun ⟨b, y1, y2, y3⟩ => by have := hop b y2; rw [y3] at this; omega)]; exact e2
      · have hv' : gr v = g + 1 := by
          by_cases y : ∃ b, oN - (oN - a) ≤ b ∧ b < oN ∧ O b = v
          · rw [gX_in (by omega) y] at hv; omega
          · rw [gX_out (by omega) y] at hv; exact hv
        obtain ⟨m, e1, e2, e3⟩ := d3 v hv'
        exact ⟨m, e1, e2, by rw [a3 m (by omega)]; exact e3⟩
  · show (if g = gN then kb else kt g) = _
    by_cases z : g = gN
    · subst z
      rw [if_pos rfl, st1_s, st1_n (by omega), ekb, Nat.add_sub_cancel_left]
      by_cases y : 1 < oN - a
      · rw [decide_eq_true y]; rfl
      · obtain ⟨_, _, _, b, d4, d5, d6⟩ := b6 (fr g) (Nat.le_refl _) (by omega)
        rw [← d6, show b = a by omega]
    · have up := hI.mono (gN - (g + 1)) (g + 1) (by omega)
      rw [show g + 1 + (gN - (g + 1)) = gN by omega] at up
      have := (hI.2 g (by omega)).1
      rw [if_neg z, st1_n (by omega), st1_n (by omega), a3 _ (by omega)]
      exact hk g (by omega)
  · exact (a4.mono fun b j z => by unfold PBd at z; unfold PKn; omega).trans fxx
