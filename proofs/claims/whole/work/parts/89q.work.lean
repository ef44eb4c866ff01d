-- an instance is worked out: class, reference
section tok
variable {G : Gr} {t : TR} {ce : Nat → Nat → Nat} {me : Nat → Nat}
theorem bs0_in (hq : QG G) (h : TOK2 G t ce me) {i : Nat} (hi : thT G t i) (hb : bsT G t i = 0) : i % 8 < 4 := by
  have n4 := (ni_le hq h.1 hi.1).1
  unfold bsT at hb
  by_cases z : i % 8 < niT G t (i / 8)
  · omega
  · rw [if_neg z] at hb; omega
theorem s_reckon {q w g i : Nat} {gv : Nat → Int32} {M : Mm} (N : Nat) (hN : 2000 < N) (hq : QG G) (h : TOK2 G t ce me) (hg : g = 35 ∨ g = 52) (hw : w = 69 ∨ w = 87) (hqq : q = 105 ∨ q = 121) (hi : thT G t i) (W : WQ q w g M) (K : CG g G M) (C : CT w G t M) (L : CLk w G t ce me M) (hgv : ∀ a, a < 4 → M.1 (w + 12) a = gv a) : ∃ M', D_X10_reckon N q (nI i) M = some (wkT G t ce gv (M.1 (q + 12)) i, M') ∧ FX (fun b _ => b = q + 15) M M' := by
  have h40 := h.2.2.2.1
  obtain ⟨i8, i3⟩ := th_320 h hi
  obtain ⟨w1, w2, w3⟩ := L.2.2 i i8
  unfold D_X10_reckon wkT
  rw [W.w hw, Option.bind_some, ldI_n i3 (by omega), w1, Option.bind_some]
  by_cases hb : bsT G t i = 0
  · have i4 := bs0_in hq h hi hb
    rw [hb, show nP 0 = m1 from rfl, if_pos rfl, if_pos rfl, Option.bind_some, rm_n (by omega) (by omega) (by omega), Option.bind_some, ldI_n i4 (by omega), hgv _ i4]
    exact ⟨M, rfl, FX.refl⟩
  · obtain ⟨o1, o2, o3, o4⟩ := oc_own hq h hi hb
    obtain ⟨r1, r2, r3, r4, r5⟩ := rl_code hq h hi hb
    have nc := hq.1.2.2.1
    have cn := C.2 _ o1
    have er : 32 * tp t (bsT G t i - 1) + ocT G t i = rlT G t i := rfl
    rw [nP_s (by omega), if_neg (n_ne_m1 (by omega)), if_neg hb, Option.bind_some, ldI_n (k := bsT G t i - 1) (by omega) (by omega), cn.1, Option.bind_some, Option.bind_some, ldI_n (k := i) i3 (by omega), w2, Option.bind_some, pk_mul, nI_add, er, Option.bind_some, stI_n (by omega) (by omega), Option.bind_some]
    have f1 : FX (fun b _ => b = q + 15) M (upI M (q + 15) 0 (nI 0)) := FX.I rfl
    have W1 : WQ q w g (upI M (q + 15) 0 (nI 0)) := W
    have K1 : CG g G (upI M (q + 15) 0 (nI 0)) := K.fx f1 fun k hk j z => by omega
    rw [W1.g hg, Option.bind_some, ldI_n (by omega) (by omega), K1.a 14 _ (by omega), Option.bind_some]
    rcases r5 with r5 | r5
    · obtain ⟨M', a1, a2⟩ := loop_reckon N hN hq h hg hw hqq hi hb (M.1 (q + 12)) (G.i 15 (rlT G t i) - G.i 14 (rlT G t i)) (G.i 14 (rlT G t i)) N [] (upI M (q + 15) 0 (nI 0)) (by omega) (by omega) (Nat.le_refl _) r5 W1 K1 (C.fx f1 fun k j k1 _ z => by omega) (L.fx f1 fun b j z y => by omega) (by rw [upI_n (by omega)]) trivial (by simp)
      exact ⟨M', a1, f1.trans a2⟩
    · rw [← r5, Nat.sub_self]
      rw [show N = (N - 1) + 1 by omega, L_X10_reckon_72, W1.g hg, Option.bind_some, ldI_n (by omega) (by omega), K1.a 15 _ (by omega), Option.bind_some, ← r5]
      rw [if_pos (show nI (G.i 14 (rlT G t i)) ≤ nI (G.i 14 (rlT G t i)) by rw [n_le (by omega) (by omega)]; exact Nat.le_refl _), ldI_n (by omega) (by omega), upI_s]
      exact ⟨_, rfl, f1⟩
theorem len180 : len 180 = 64 := rfl
theorem r_joined {o : Nat} {a b : Int32} (N : Nat) (M : Mm) (ho : o < 8) : D_X12_joined N (nI (opC o)) a b M = some (opF o a b) := by
  unfold D_X12_joined
  have k : ∀ c d, c < 200 → d < 200 → (nI c = nI d) = (c = d) := fun c d hc hd => n_eq (by omega) (by omega)
  have oc : o = 0 ∨ o = 1 ∨ o = 2 ∨ o = 3 ∨ o = 4 ∨ o = 5 ∨ o = 6 ∨ o = 7 := by omega
  have e : ∀ x, x < 200 → ∀ y, y < 200 → ¬ x = y → ¬ nI x = nI y := fun x hx y hy z w => z ((k x y hx hy).mp w)
  rcases oc with z | z | z | z | z | z | z | z <;> subst z
  · show (if nI 43 = nI 4 then _ else if nI 43 = nI 38 then _ else if nI 43 = nI 42 then _ else if nI 43 = nI 43 then _ else _) = _
    rw [if_neg (e 43 (by omega) 4 (by omega) (by omega)), if_neg (e 43 (by omega) 38 (by omega) (by omega)), if_neg (e 43 (by omega) 42 (by omega) (by omega)), if_pos rfl]; rfl
  · show (if nI 45 = nI 4 then _ else if nI 45 = nI 38 then _ else if nI 45 = nI 42 then _ else if nI 45 = nI 43 then _ else if nI 45 = nI 45 then _ else _) = _
    rw [if_neg (e 45 (by omega) 4 (by omega) (by omega)), if_neg (e 45 (by omega) 38 (by omega) (by omega)), if_neg (e 45 (by omega) 42 (by omega) (by omega)), if_neg (e 45 (by omega) 43 (by omega) (by omega)), if_pos rfl]; rfl
  · show (if nI 42 = nI 4 then _ else if nI 42 = nI 38 then _ else if nI 42 = nI 42 then _ else _) = _
    rw [if_neg (e 42 (by omega) 4 (by omega) (by omega)), if_neg (e 42 (by omega) 38 (by omega) (by omega)), if_pos rfl]; rfl
  · show (if nI 124 = nI 4 then _ else if nI 124 = nI 38 then _ else if nI 124 = nI 42 then _ else if nI 124 = nI 43 then _ else if nI 124 = nI 45 then _ else if nI 124 = nI 60 then _ else if nI 124 = nI 124 then _ else _) = _
    rw [if_neg (e 124 (by omega) 4 (by omega) (by omega)), if_neg (e 124 (by omega) 38 (by omega) (by omega)), if_neg (e 124 (by omega) 42 (by omega) (by omega)), if_neg (e 124 (by omega) 43 (by omega) (by omega)), if_neg (e 124 (by omega) 45 (by omega) (by omega)), if_neg (e 124 (by omega) 60 (by omega) (by omega)), if_pos rfl]; rfl
  · show (if nI 38 = nI 4 then _ else if nI 38 = nI 38 then _ else _) = _
    rw [if_neg (e 38 (by omega) 4 (by omega) (by omega)), if_pos rfl]; rfl
  · show (if nI 60 = nI 4 then _ else if nI 60 = nI 38 then _ else if nI 60 = nI 42 then _ else if nI 60 = nI 43 then _ else if nI 60 = nI 45 then _ else if nI 60 = nI 60 then _ else _) = _
    rw [if_neg (e 60 (by omega) 4 (by omega) (by omega)), if_neg (e 60 (by omega) 38 (by omega) (by omega)), if_neg (e 60 (by omega) 42 (by omega) (by omega)), if_neg (e 60 (by omega) 43 (by omega) (by omega)), if_neg (e 60 (by omega) 45 (by omega) (by omega)), if_pos rfl]
    show _ = some (if b ≤ a then nI 0 else nI 1)
    split <;> rfl
  · show (if nI 4 = nI 4 then _ else _) = _
    rw [if_pos rfl]; rfl
  · show (if nI 5 = nI 4 then _ else if nI 5 = nI 38 then _ else if nI 5 = nI 42 then _ else if nI 5 = nI 43 then _ else if nI 5 = nI 45 then _ else if nI 5 = nI 60 then _ else if nI 5 = nI 124 then _ else _) = _
    rw [if_neg (e 5 (by omega) 4 (by omega) (by omega)), if_neg (e 5 (by omega) 38 (by omega) (by omega)), if_neg (e 5 (by omega) 42 (by omega) (by omega)), if_neg (e 5 (by omega) 43 (by omega) (by omega)), if_neg (e 5 (by omega) 45 (by omega) (by omega)), if_neg (e 5 (by omega) 60 (by omega) (by omega)), if_neg (e 5 (by omega) 124 (by omega) (by omega))]; rfl
theorem opC_b {o : Nat} (ho : o < 8) : 4 ≤ opC o ∧ opC o < 200 := by
  have oc : o = 0 ∨ o = 1 ∨ o = 2 ∨ o = 3 ∨ o = 4 ∨ o = 5 ∨ o = 6 ∨ o = 7 := by omega
  rcases oc with z | z | z | z | z | z | z | z <;> subst z <;> decide
def P180 (b _j : Nat) : Prop := b = 180
theorem loop_worked {i : Nat} (N : Nat) (hN : 2000 < N) (h : TOK2 G t ce me) (hi : thT G t i) (hb : ¬ bsT G t i = 0) (val : Nat → Int32) (kE : Int32 → Mm → Option (Int32 × Mm)) : ∀ (n c fu : Nat) (L : List Int32) (M : Mm), c + n = G.i 15 (rlT G t i) → n < fu → G.i 14 (rlT G t i) ≤ c → hgt (G.i 16) c n L.length = some 1 → RT1 G t M → M.1 166 = val → StR (M.1 180) L → L.length ≤ 20 → ∃ x M', L_X12_worked_58 kE 137 (nI (rlT G t i)) N (nI (bsT G t i - 1)) fu (nI L.length) (nI c) M = kE (nI 1) M' ∧ M'.1 180 0 = x ∧ evC (G.i 16) (nI (to' t (bsT G t i - 1))) (fun o => val (inT ce (bsT G t i - 1) o)) n c L = [x] ∧ FX P180 M M'
  | n, c, 0, L, M, h1, h2, _, _, _, _, _, _ => by omega
  | 0, c, fu + 1, L, M, h1, h2, h3, hh, R, hv, hS, _ => by
    have hq := R.1.g
    obtain ⟨r1, r2, r3, r4, r5⟩ := rl_code hq h hi hb
    obtain ⟨o1, o2, o3, o4⟩ := oc_own hq h hi hb
    have pk := (h.1.2.1 _ o1).1
    have nc := hq.1.2.2.1
    have hl : L.length = 1 := by rw [hgt_0] at hh; injection hh
    have ct : M.1 139 (464 + rlT G t i) = nI (G.i 15 (rlT G t i)) := (R.1.1.2.2.2.1 _ (by unfold rlT; omega)).2.1
    rw [L_X12_worked_58, show (137 : Nat) + 2 = 139 from rfl, nI_add, ldI_n (by omega) (by omega), ct, Option.bind_some]
    simp only [n_le (show G.i 15 (rlT G t i) < 2 ^ 31 by omega) (show c < 2 ^ 31 by omega)]
    rw [if_pos (by omega), hl]
    match L, hl, hS with
    | [x], _, hS => exact ⟨x, M, rfl, hS.1, rfl, FX.refl⟩
  | n + 1, c, fu + 1, L, M, h1, h2, h3, hh, R, hv, hS, hl => by
    have hq := R.1.g
    have h40 := h.2.2.2.1
    obtain ⟨r1, r2, r3, r4, r5⟩ := rl_code hq h hi hb
    obtain ⟨o1, o2, o3, o4⟩ := oc_own hq h hi hb
    have pk := (h.1.2.1 _ o1).1
    have nc := hq.1.2.2.1
    have hvw := r4 c h3 (by omega)
    rw [hgt_s] at hh
    have ct : M.1 139 (464 + rlT G t i) = nI (G.i 15 (rlT G t i)) := (R.1.1.2.2.2.1 _ (by unfold rlT; omega)).2.1
    obtain ⟨c1', c2'⟩ := R.1.1.2.2.2.2 c (by omega)
    cases ht : hst (G.i 16 c) L.length with
    | none => rw [ht] at hh; exact absurd hh (by simp)
    | some m =>
      rw [ht, Option.bind_some] at hh
      have hlen := evL_len (own := nI (to' t (bsT G t i - 1))) (ld := fun o => val (inT ce (bsT G t i - 1) o)) ht
      rw [← hlen] at hh
      have m32 : (evL (nI (to' t (bsT G t i - 1))) (fun o => val (inT ce (bsT G t i - 1) o)) (G.i 16 c) L).length ≤ 20 := by
        rw [hlen]
        unfold hst at ht
        split at ht
        · split at ht
          · injection ht; omega
          · exact absurd ht (by simp)
        · split at ht
          · split at ht
            · injection ht; omega
            · exact absurd ht (by simp)
          · split at ht
            · injection ht; omega
            · exact absurd ht (by simp)
      have go : ∀ (M1 : Mm), FX P180 M M1 → StR (M1.1 180) (evL (nI (to' t (bsT G t i - 1))) (fun o => val (inT ce (bsT G t i - 1) o)) (G.i 16 c) L) → ∃ x M', L_X12_worked_58 kE 137 (nI (rlT G t i)) N (nI (bsT G t i - 1)) fu (nI (evL (nI (to' t (bsT G t i - 1))) (fun o => val (inT ce (bsT G t i - 1) o)) (G.i 16 c) L).length) (nI (c + 1)) M1 = kE (nI 1) M' ∧ M'.1 180 0 = x ∧ evC (G.i 16) (nI (to' t (bsT G t i - 1))) (fun o => val (inT ce (bsT G t i - 1) o)) (n + 1) c L = [x] ∧ FX P180 M M' := fun M1 f1 s1 => by
        obtain ⟨x, M', a1, a2, a3, a4⟩ := loop_worked N hN h hi hb val kE n (c + 1) fu _ M1 (by omega) (by omega) (by omega) hh (R.fx f1 fun b j z => by unfold P180 at z; omega) (by rw [← hv]; exact funext fun j => (f1.2 _ _ (fun z => by unfold P180 at z; omega)).1) s1 m32
        exact ⟨x, M', a1, a2, by rw [evC_s]; exact a3, f1.trans a4⟩
      have ht' := ht
      unfold hst at ht'
      rw [L_X12_worked_58, show (137 : Nat) + 2 = 139 from rfl, show (137 : Nat) + 43 = 180 from rfl, show (137 : Nat) + 21 = 158 from rfl, show (137 : Nat) + 29 = 166 from rfl, nI_add, ldI_n (by omega) (by omega), ct, Option.bind_some]
      simp only [n_le (show G.i 15 (rlT G t i) < 2 ^ 31 by omega) (show c < 2 ^ 31 by omega)]
      rw [if_neg (by omega), nI_add, ldI_n (by omega) (by omega), c1', Option.bind_some]
      by_cases c1 : G.i 16 c < 30000
      · rw [if_pos c1] at ht'
        have l33 : L.length < 20 := by
          by_cases z : L.length < 20
          · exact z
          · rw [if_neg z] at ht'; exact absurd ht' (by simp)
        have e1 : evL (nI (to' t (bsT G t i - 1))) (fun o => val (inT ce (bsT G t i - 1) o)) (G.i 16 c) L = (if G.i 16 c < 10000 then nI (G.i 16 c) else if G.i 16 c < 20000 then val (inT ce (bsT G t i - 1) (G.i 16 c - 10000)) else nI (to' t (bsT G t i - 1))) :: L := by unfold evL; rw [if_pos c1]
        rw [e1] at go
        have p153 : (if nI (cR (G.i 16 c)).1 = nI 0 then ((ldI 3816 139 ((nI 2716) + nI c) M).bind fun v15 => (some v15)) else (if nI (cR (G.i 16 c)).1 = (nI 1) then ((ldI 40 158 (nI (bsT G t i - 1)) M).bind fun v16 => (some v16)) else ((ldI 3816 139 ((nI 2716) + nI c) M).bind fun v17 => (D_X12_instanceOf N 137 (nI (bsT G t i - 1)) v17 M).bind fun q2 => (ldI 320 166 q2 M).bind fun v18 => (some v18)))) = some (if G.i 16 c < 10000 then nI (G.i 16 c) else if G.i 16 c < 20000 then val (inT ce (bsT G t i - 1) (G.i 16 c - 10000)) else nI (to' t (bsT G t i - 1))) ∧ (cR (G.i 16 c)).1 ≤ 2 := by
          rw [nI_add, ldI_n (by omega) (by omega), c2']
          rcases hvw with z | z | z | z | ⟨x, x1, x2, x3⟩
          · have ec : cR (G.i 16 c) = (0, G.i 16 c) := by unfold cR; rw [if_pos z]
            rw [ec, if_pos rfl, if_pos z]; exact ⟨rfl, by omega⟩
          · have ec : cR (G.i 16 c) = (1, 0) := by unfold cR; rw [if_neg (by omega), if_neg (by omega), if_pos (by omega)]
            rw [ec, if_neg z10, if_pos rfl, if_neg (by omega), if_neg (by omega), ldI_n (by omega) (by omega), (R.2.2 _ o1).2.1]; exact ⟨rfl, by omega⟩
          · omega
          · omega
          · have ec : cR (G.i 16 c) = (2, x) := by unfold cR; rw [if_neg (by omega), if_pos (by omega), show G.i 16 c - 10000 = x by omega]
            obtain ⟨b1, b2, b3, b4, b5⟩ := ak_told hq h hi x3
            obtain ⟨s1, s2⟩ := in_us hq h.1 b2 b4
            have s3 := (th_320 h s2).2
            rw [ec, if_neg (show ¬ nI 2 = nI 0 by decide +kernel), if_neg (show ¬ nI 2 = nI 1 by decide +kernel), if_neg (by omega), if_pos (by omega), Option.bind_some, r_instanceOf N hN h R b2 x1 s1, Option.bind_some, ldI_n s3 (by omega), show G.i 16 c - 10000 = x by omega, hv]; exact ⟨rfl, by omega⟩
        obtain ⟨p1, p2⟩ := p153
        rw [if_neg (show ¬ nI 2 < nI (cR (G.i 16 c)).1 by rw [n_lt (by omega) (by omega)]; omega), p1, Option.bind_some, stI_n (by omega) (by omega), Option.bind_some, Option.bind_some, Option.bind_some, nI_add, nI_add]
        exact go _ (FX.I rfl) ⟨upI_s _ _ _ _, hS.cg fun j hj => by rw [upI_j, if_neg (by omega)]⟩
      · rw [if_neg c1] at ht'
        by_cases c2 : G.i 16 c = 40000
        · rw [if_pos c2] at ht'
          have ec : (cR (G.i 16 c)).1 = 3 := by unfold cR; rw [if_neg (by omega), if_neg (by omega), if_neg (by omega), if_neg (by omega)]
          have l3 : 3 ≤ L.length := by
            by_cases z : 3 ≤ L.length
            · exact z
            · rw [if_neg z] at ht'; exact absurd ht' (by simp)
          rw [ec, if_pos (show nI 2 < nI 3 by decide +kernel), if_pos rfl]
          match L, l3, hS, hl, go with
          | x2 :: x1 :: x0 :: L', _, hS, hl, go =>
            have e1 : evL (nI (to' t (bsT G t i - 1))) (fun o => val (inT ce (bsT G t i - 1) o)) (G.i 16 c) (x2 :: x1 :: x0 :: L') = (if x0 = nI 0 then x2 else x1) :: L' := by unfold evL; rw [if_neg c1, if_pos c2]
            rw [e1] at go
            obtain ⟨p2, p1, p0, pr⟩ := hS
            have p2 : M.1 180 (L'.length + 2) = x2 := p2
            have p1 : M.1 180 (L'.length + 1) = x1 := p1
            have l30 : L'.length + 3 ≤ 20 := hl
            have ln : (x2 :: x1 :: x0 :: L').length = L'.length + 3 := rfl
            rw [ln, n_neg (by omega), Option.bind_some, show L'.length + 3 - 2 = L'.length + 1 by omega, n_sub (by omega), Nat.add_sub_cancel, ldI_n (k := L'.length) (by omega) (by omega), p0, Option.bind_some]
            have p188 : (if x0 = nI 0 then ((ldI 64 180 (nI (L'.length + 1) + nI 1) M).bind fun v13 => (some v13)) else ((ldI 64 180 (nI (L'.length + 1)) M).bind fun v14 => (some v14))) = some (if x0 = nI 0 then x2 else x1) := by
              by_cases z : x0 = nI 0
              · rw [if_pos z, if_pos z, nI_add, ldI_n (by omega) (by omega), p2]; rfl
              · rw [if_neg z, if_neg z, ldI_n (by omega) (by omega), p1]; rfl
            rw [p188, Option.bind_some, stI_n (by omega) (by omega), Option.bind_some, Option.bind_some, nI_add]
            exact go _ (FX.I rfl) ⟨upI_s _ _ _ _, pr.cg fun j hj => by rw [upI_j, if_neg (by omega)]⟩
        · rw [if_neg c2] at ht'
          have l3 : 2 ≤ L.length := by
            by_cases z : 2 ≤ L.length
            · exact z
            · rw [if_neg z] at ht'; exact absurd ht' (by simp)
          have o8 : 30000 ≤ G.i 16 c ∧ G.i 16 c < 30008 := by
            rcases hvw with z | z | z | z | ⟨x, x1, x2, x3⟩ <;> omega
          have ec : (cR (G.i 16 c)).1 = opC (G.i 16 c - 30000) := by unfold cR; rw [if_neg (by omega), if_neg (by omega), if_neg (by omega), if_pos (by omega)]
          obtain ⟨ob1, ob2⟩ := opC_b (show G.i 16 c - 30000 < 8 by omega)
          rw [ec, if_pos (show nI 2 < nI (opC (G.i 16 c - 30000)) by rw [n_lt (by omega) (by omega)]; omega), if_neg (show ¬ nI (opC (G.i 16 c - 30000)) = nI 3 by rw [n_eq (by omega) (by omega)]; omega)]
          match L, l3, hS, hl, go with
          | x1 :: x0 :: L', _, hS, hl, go =>
            have e1 : evL (nI (to' t (bsT G t i - 1))) (fun o => val (inT ce (bsT G t i - 1) o)) (G.i 16 c) (x1 :: x0 :: L') = opF (G.i 16 c - 30000) x0 x1 :: L' := by unfold evL; rw [if_neg c1, if_neg c2]
            rw [e1] at go
            obtain ⟨p1, p0, pr⟩ := hS
            have p1 : M.1 180 (L'.length + 1) = x1 := p1
            have l30 : L'.length + 2 ≤ 20 := hl
            have ln : (x1 :: x0 :: L').length = L'.length + 2 := rfl
            rw [ln, n_m1 (by omega), Option.bind_some, show L'.length + 2 - 1 = L'.length + 1 by omega, n_sub (show 1 ≤ L'.length + 1 by omega), Nat.add_sub_cancel, ldI_n (k := L'.length) (by omega) (by omega), p0, Option.bind_some, ldI_n (k := L'.length + 1) (by omega) (by omega), p1, Option.bind_some, r_joined N M (by omega), Option.bind_some, stI_n (by omega) (by omega), Option.bind_some, Option.bind_some, nI_add]
            exact go _ (FX.I rfl) ⟨upI_s _ _ _ _, pr.cg fun j hj => by rw [upI_j, if_neg (by omega)]⟩
theorem r_worked {i : Nat} {gv : Nat → Int32} {M : Mm} (N : Nat) (hN : 2000 < N) (h : TOK2 G t ce me) (hi : thT G t i) (R : RT1 G t M) (hB : RBs G t 320 M) (hgv : ∀ a, a < 4 → M.1 163 a = gv a) : ∃ M', D_X12_worked N 137 (nI i) M = some (wkT G t ce gv (M.1 166) i, M') ∧ FX P180 M M' := by
  have hq := R.1.g
  have h40 := h.2.2.2.1
  obtain ⟨i8, i3⟩ := th_320 h hi
  obtain ⟨w1, w2⟩ := (hB i i3).2 hi
  unfold D_X12_worked wkT
  rw [show (137 : Nat) + 27 = 164 from rfl, show (137 : Nat) + 26 = 163 from rfl, show (137 : Nat) + 20 = 157 from rfl, show (137 : Nat) + 28 = 165 from rfl, ldI_n i3 (by omega), w1, Option.bind_some]
  by_cases hb : bsT G t i = 0
  · have i4 := bs0_in hq h hi hb
    rw [hb, show nP 0 = m1 from rfl, if_pos rfl, if_pos rfl, rm_n (by omega) (by omega) (by omega), Option.bind_some, ldI_n i4 (by omega), hgv _ i4]
    exact ⟨M, rfl, FX.refl⟩
  · obtain ⟨o1, o2, o3, o4⟩ := oc_own hq h hi hb
    obtain ⟨r1, r2, r3, r4, r5⟩ := rl_code hq h hi hb
    have nc := hq.1.2.2.1
    have pk := (h.1.2.1 _ o1).1
    have er : 32 * tp t (bsT G t i - 1) + ocT G t i = rlT G t i := rfl
    have rl := R.1.1.2.2.2.1 (rlT G t i) (by unfold rlT; omega)
    have cf : M.1 139 (80 + rlT G t i) = nI (G.i 14 (rlT G t i)) := rl.1
    have ct : M.1 139 (464 + rlT G t i) = nI (G.i 15 (rlT G t i)) := rl.2.1
    rw [nP_s (by omega), if_neg (n_ne_m1 (by omega)), if_neg hb, Option.bind_some, ldI_n (k := bsT G t i - 1) (by omega) (by omega), (R.2.2 _ o1).1, Option.bind_some, ldI_n (k := i) i3 (by omega), w2, Option.bind_some, pk_mul, nI_add, er, Option.bind_some, show (137 : Nat) + 2 = 139 from rfl, nI_add, ldI_n (by omega) (by omega), cf, Option.bind_some]
    rcases r5 with r5 | r5
    · obtain ⟨x, M', a1, a2, a3, a4⟩ := loop_worked N hN h hi hb (M.1 166) (fun (l4_5 : Int32) (M5 : Mm) => (if l4_5 = nI 0 then (some ((nI 0), M5)) else ((ldI 64 (137 + 43) (nI 0) M5).bind fun v19 => (some (v19, M5))))) (G.i 15 (rlT G t i) - G.i 14 (rlT G t i)) (G.i 14 (rlT G t i)) N [] M (by omega) (by omega) (Nat.le_refl _) r5 R rfl trivial (by simp)
      refine ⟨M', ?_, a4⟩
      rw [a3]
      have a1 : L_X12_worked_58 _ 137 _ N _ N (nI 0) _ M = _ := a1
      rw [a1, if_neg z10, show (137 : Nat) + 43 = 180 from rfl, ldI_n (by omega) (by omega), a2]; rfl
    · rw [← r5, Nat.sub_self]
      rw [show N = (N - 1) + 1 by omega, L_X12_worked_58, show (137 : Nat) + 2 = 139 from rfl, nI_add, ldI_n (by omega) (by omega), ct, Option.bind_some, ← r5]
      rw [if_pos (show nI (G.i 14 (rlT G t i)) ≤ nI (G.i 14 (rlT G t i)) by rw [n_le (by omega) (by omega)]; exact Nat.le_refl _), if_pos rfl]
      exact ⟨M, rfl, FX.refl⟩
end tok
