-- the reference plans: the loop
theorem RRo.step {G : Gr} {p x : Nat} {S : PSt} {M M' : Mm} (h : RRo G p S M) (f : FX (fun b j => b = 151 ∨ b = 137 ∧ j = 33) M M') (k : Nat) (k1 : 1 ≤ k) (k2 : k < G.i 6 p) : M'.1 152 k = nI (S.2.2.1 k) := (f.2 152 k (fun q => by omega)).1.trans (h.2.2 k k1 k2)
theorem pF_n {G : Gr} {A : Nat → Nat} {p n : Nat} (h : OrdP G A p) (hn : n ≤ 36) (hk : ¬ pKd G A p (pIt G A p n) = 3) : n + 1 ≤ 36 := by
  by_cases c : n = 36
  · subst c
    have := pF_3 h
    unfold pF at this
    exact absurd this hk
  · omega
theorem loop_laysPlan {G : Gr} {A : Nat → Nat} {p : Nat} (N : Nat) (hN : 2000 < N) (h : OrdP G A p) : ∀ (fu n : Nat) (M : Mm), n ≤ 36 → 40 < n + fu → RI' G A M → RV' G A (G.i 0 0) M → M.1 137 9 = nI 1 → RRo G p (pIt G A p n) M → ∃ M', L_X12_laysPlan_50 137 (nI (G.i 7 (4 * p))) N (nI p) fu (nI (pIt G A p n).2.1) (nI (pIt G A p n).1) M = some M' ∧ LSt M' 151 0 (pL G A p) ∧ M'.1 137 33 = nI (pL G A p).length ∧ FX PPl M M'
  | 0, n, M, h1, h2, _, _, _, _ => by omega
  | fu + 1, n, M, h1, h2, K, hV, h9, R => by
    have hq := K.1.g
    have hnp := hq.np
    have hp := h.2.2.1
    have hsd := hq.sd hp
    have hns := hq.ns
    have hs : G.i 7 (4 * p) < G.i 0 0 := hq.sy hp (show 0 < G.i 6 p by omega)
    have h4 := hq.at' hs
    have h8 := hq.att8 hs
    have hn : slf G A (G.i 7 (4 * p)) = false := h.2.2.2.1 0 (by omega)
    have hVb := (vV_bd (h.2.1.ac hq hs hn) h4).2
    have I := pIt_ok h n
    have hV0 := (hV _ hs hn).1
    have hF : pKd G A p (pIt G A p n) = 3 → pF G A p = pIt G A p n := pF_at h
    have hN1 : ¬ pKd G A p (pIt G A p n) = 3 → n + 1 ≤ 36 := pF_n h h1
    have hS1 : ¬ pKd G A p (pIt G A p n) = 3 → pIt G A p (n + 1) = pSt G A p (pIt G A p n) := fun hk => by rw [pIt_s, if_neg hk]
    generalize pIt G A p n = S at I R hF hN1 hS1
    obtain ⟨R1, R2, R3⟩ := R
    have hv := I.1.2.2.2.1
    have hl : S.2.2.2.length ≤ 35 := by have := I.2.1; omega
    have ho : durO G A (G.i 7 (4 * p)) S.2.1 < 2 ^ 32 := lt_of_bits fun i hi => by
      have := (durO_b.mp hi).1.2
      omega
    have next : ∀ (M1 : Mm) (v k : Nat), ¬ pKd G A p S = 3 → v = (pSt G A p S).2.1 → k = (pSt G A p S).1 → RRo G p (pSt G A p S) M1 → FX PPl M M1 → ∃ M', L_X12_laysPlan_50 137 (nI (G.i 7 (4 * p))) N (nI p) fu (nI v) (nI k) M1 = some M' ∧ LSt M' 151 0 (pL G A p) ∧ M'.1 137 33 = nI (pL G A p).length ∧ FX PPl M M' := fun M1 v k hk ev ek R1 f1 => by
      have es := hS1 hk
      obtain ⟨M2, b1, b2, b3, b4⟩ := loop_laysPlan N hN h fu (n + 1) M1 (hN1 hk) (by omega) (K.ppl f1) (hV.ppl f1) ((f1.2 137 9 (fun q => by unfold PPl at q; omega)).1.trans h9) (by rw [es]; exact R1)
      rw [es, ← ev, ← ek] at b1
      exact ⟨M2, b1, b2, b3, f1.trans b4⟩
    have hkd : pKd G A p S = if S.2.1 < vV G A (G.i 7 (4 * p)) ∧ andn (durO G A (G.i 7 (4 * p)) S.2.1) S.1 = 0 then 0 else if nrI G p S.1 < 32 then 1 else if ncI G A p S.1 S.2.2.1 < G.i 6 p - 1 then 2 else 3 := rfl
    have e0 : ∀ x : Nat, x * 2 ^ (8 * 0) = x := fun x => by rw [Nat.mul_zero, Nat.pow_zero, Nat.mul_one]
    -- a leave
    have leave : (pKd G A p S = 0 ∨ pKd G A p S = 3) → ∃ M', ((D_X12_step N 137 ((nI 1000) + nI S.2.1) M).bind fun M7 => (D_X12_insOf N 137 (nI 0) (nI (G.i 7 (4 * p))) (nI (S.2.1 + 1)) M7).bind fun q5 => L_X12_laysPlan_50 137 (nI (G.i 7 (4 * p))) N (nI p) fu (nI (S.2.1 + 1)) (nI S.1 ||| q5) M7) = some M' ∧ LSt M' 151 0 (pL G A p) ∧ M'.1 137 33 = nI (pL G A p).length ∧ FX PPl M M' := fun hk => by
      obtain ⟨M1, a1, a2, a3, a4⟩ := r_step (x := 1000 + S.2.1) N R1 (by omega) R2
      have f1 : FX PPl M M1 := a4.mono fun a j q => by unfold PPl; omega
      rw [nI_add, a1, Option.bind_some, r_insOf N hN h.2.1 (K.ppl f1) (hV.ppl f1) hs hn (by omega) (by omega), Option.bind_some, e0, n_or]
      rcases hk with hk | hk
      · have es : pSt G A p S = stL G A p S := by unfold pSt; rw [hk]; rfl
        exact next M1 (S.2.1 + 1) _ (by omega) (by rw [es]; rfl) (by rw [es]; rfl) (by
          rw [es]
          exact ⟨a2, a3, fun k k1 k2 => (a4.2 152 k (fun q => by omega)).1.trans (R3 k k1 k2)⟩) f1
      · have h3 := pKd_3 h I.1 hk
        cases fu with
        | zero => omega
        | succ fu =>
          rw [L_X12_laysPlan_50, show (137 : Nat) + 13 = 150 from rfl, ldI_n (by omega) (by omega), (a4.2 150 _ (fun q => by omega)).1, hV0, Option.bind_some, if_pos (by rw [n_lt (by omega) (by omega)]; omega)]
          have eL : pL G A p = S.2.2.2 ++ [1000 + S.2.1] := by unfold pL; rw [hF hk, h3.1]
          rw [eL]
          exact ⟨M1, rfl, a3, a2, f1⟩
    have hNC := r_nextChild N hN h I K hV R3
    have hNR := r_nextRule N hN h K h9 (k := S.1) I.2.2
    have eP : (if nI (andn (durO G A (G.i 7 (4 * p)) S.2.1) S.1) = nI 0 then some (nI 1) else some (nI 0)) = some (bI (decide (andn (durO G A (G.i 7 (4 * p)) S.2.1) S.1 = 0))) := by
      simp only [andn_0 ho]
      by_cases c : andn (durO G A (G.i 7 (4 * p)) S.2.1) S.1 = 0
      · rw [if_pos c, decide_eq_true c]; rfl
      · rw [if_neg c, decide_eq_false c]; rfl
    rw [L_X12_laysPlan_50, show (137 : Nat) + 13 = 150 from rfl, show (137 : Nat) + 15 = 152 from rfl, show (137 : Nat) + 2 = 139 from rfl, ldI_n (by omega) (by omega), hV0, Option.bind_some, if_neg (by rw [n_lt (by omega) (by omega)]; omega), r_outsOf N hN h.2.1 K hV hs hn (by omega) (by omega), Option.bind_some, e0, n_andn ho, eP, Option.bind_some, hNR, Option.bind_some, hNC, Option.bind_some, Option.bind_some]
    simp only [jn, bI_0, n_le (show vV G A (G.i 7 (4 * p)) < 2 ^ 31 by omega) (show S.2.1 < 2 ^ 31 by omega), Option.bind_some, nI_add]
    simp only [nI_add] at leave
    -- no leave yet
    have other : ¬ (S.2.1 < vV G A (G.i 7 (4 * p)) ∧ andn (durO G A (G.i 7 (4 * p)) S.2.1) S.1 = 0) → ∃ M', (if fR (nrI G p S.1) 32 = m1 then (if (if ncI G A p S.1 S.2.2.1 < G.i 6 p - 1 then nI (ncI G A p S.1 S.2.2.1 + 1) else m1) = m1 then ((D_X12_step N 137 (nI (1000 + S.2.1)) M).bind fun M7 => (D_X12_insOf N 137 (nI 0) (nI (G.i 7 (4 * p))) (nI (S.2.1 + 1)) M7).bind fun q5 => L_X12_laysPlan_50 137 (nI (G.i 7 (4 * p))) N (nI p) fu (nI (S.2.1 + 1)) (nI S.1 ||| q5) M7) else (if fR (nrI G p S.1) 32 = m1 then ((ldI 4 152 (if ncI G A p S.1 S.2.2.1 < G.i 6 p - 1 then nI (ncI G A p S.1 S.2.2.1 + 1) else m1) M).bind fun v4 => (stI 4 152 (if ncI G A p S.1 S.2.2.1 < G.i 6 p - 1 then nI (ncI G A p S.1 S.2.2.1 + 1) else m1) (v4 + (nI 1)) M).bind fun M8 => (ldI 4 152 (if ncI G A p S.1 S.2.2.1 < G.i 6 p - 1 then nI (ncI G A p S.1 S.2.2.1 + 1) else m1) M8).bind fun v5 => (D_X12_step N 137 (((nI 10) * (if ncI G A p S.1 S.2.2.1 < G.i 6 p - 1 then nI (ncI G A p S.1 S.2.2.1 + 1) else m1)) + v5) M8).bind fun M9 => (D_X12_symbolAt N 139 (nI p) (if ncI G A p S.1 S.2.2.1 < G.i 6 p - 1 then nI (ncI G A p S.1 S.2.2.1 + 1) else m1) M9).bind fun q6 => (ldI 4 152 (if ncI G A p S.1 S.2.2.1 < G.i 6 p - 1 then nI (ncI G A p S.1 S.2.2.1 + 1) else m1) M9).bind fun v6 => (D_X12_outsOf N 137 (if ncI G A p S.1 S.2.2.1 < G.i 6 p - 1 then nI (ncI G A p S.1 S.2.2.1 + 1) else m1) q6 v6 M9).bind fun q7 => L_X12_laysPlan_50 137 (nI (G.i 7 (4 * p))) N (nI p) fu (nI S.2.1) (nI S.1 ||| q7) M9) else ((D_X12_step N 137 ((nI 100) + fR (nrI G p S.1) 32) M).bind fun M10 => L_X12_laysPlan_50 137 (nI (G.i 7 (4 * p))) N (nI p) fu (nI S.2.1) (nI S.1 ||| ((nI 1) <<< (fR (nrI G p S.1) 32 &&& 31))) M10))) else (if fR (nrI G p S.1) 32 = m1 then ((ldI 4 152 (if ncI G A p S.1 S.2.2.1 < G.i 6 p - 1 then nI (ncI G A p S.1 S.2.2.1 + 1) else m1) M).bind fun v4 => (stI 4 152 (if ncI G A p S.1 S.2.2.1 < G.i 6 p - 1 then nI (ncI G A p S.1 S.2.2.1 + 1) else m1) (v4 + (nI 1)) M).bind fun M8 => (ldI 4 152 (if ncI G A p S.1 S.2.2.1 < G.i 6 p - 1 then nI (ncI G A p S.1 S.2.2.1 + 1) else m1) M8).bind fun v5 => (D_X12_step N 137 (((nI 10) * (if ncI G A p S.1 S.2.2.1 < G.i 6 p - 1 then nI (ncI G A p S.1 S.2.2.1 + 1) else m1)) + v5) M8).bind fun M9 => (D_X12_symbolAt N 139 (nI p) (if ncI G A p S.1 S.2.2.1 < G.i 6 p - 1 then nI (ncI G A p S.1 S.2.2.1 + 1) else m1) M9).bind fun q6 => (ldI 4 152 (if ncI G A p S.1 S.2.2.1 < G.i 6 p - 1 then nI (ncI G A p S.1 S.2.2.1 + 1) else m1) M9).bind fun v6 => (D_X12_outsOf N 137 (if ncI G A p S.1 S.2.2.1 < G.i 6 p - 1 then nI (ncI G A p S.1 S.2.2.1 + 1) else m1) q6 v6 M9).bind fun q7 => L_X12_laysPlan_50 137 (nI (G.i 7 (4 * p))) N (nI p) fu (nI S.2.1) (nI S.1 ||| q7) M9) else ((D_X12_step N 137 ((nI 100) + fR (nrI G p S.1) 32) M).bind fun M10 => L_X12_laysPlan_50 137 (nI (G.i 7 (4 * p))) N (nI p) fu (nI S.2.1) (nI S.1 ||| ((nI 1) <<< (fR (nrI G p S.1) 32 &&& 31))) M10))) = some M' ∧ LSt M' 151 0 (pL G A p) ∧ M'.1 137 33 = nI (pL G A p).length ∧ FX PPl M M' := fun c0 => by
      rw [if_neg c0] at hkd
      by_cases c1 : nrI G p S.1 < 32
      · rw [if_pos c1] at hkd
        have ef : fR (nrI G p S.1) 32 = nI (nrI G p S.1) := if_pos c1
        have nm : ¬ nI (nrI G p S.1) = m1 := n_ne_m1 (by omega)
        rw [ef, if_neg nm, if_neg nm, nI_add, n_shl 1 (show nrI G p S.1 < 32 by omega), Nat.one_mul, n_or]
        obtain ⟨M1, a1, a2, a3, a4⟩ := r_step (x := 100 + nrI G p S.1) N R1 (by omega) R2
        have es : pSt G A p S = stR G p S := by unfold pSt; rw [hkd]; rfl
        rw [a1, Option.bind_some]
        exact next M1 S.2.1 _ (by omega) (by rw [es]; rfl) (by rw [es]; rfl) (by
          rw [es]
          exact ⟨a2, a3, fun k k1 k2 => (a4.2 152 k (fun q => by omega)).1.trans (R3 k k1 k2)⟩) (a4.mono fun a j q => by unfold PPl; omega)
      · rw [if_neg c1] at hkd
        have ef : fR (nrI G p S.1) 32 = m1 := if_neg c1
        rw [ef, if_pos rfl]
        by_cases c2 : ncI G A p S.1 S.2.2.1 < G.i 6 p - 1
        · rw [if_pos c2] at hkd
          have es : pSt G A p S = stC G A p S := by unfold pSt; rw [hkd]; rfl
          have e1 : (stC G A p S).1 = S.1 ||| durO G A (G.i 7 (4 * p + (ncI G A p S.1 S.2.2.1 + 1))) (S.2.2.1 (ncI G A p S.1 S.2.2.1 + 1) + 1) * 2 ^ (8 * (ncI G A p S.1 S.2.2.1 + 1)) := rfl
          have e2 : (stC G A p S).2.2.1 = fun k => if k = ncI G A p S.1 S.2.2.1 + 1 then S.2.2.1 k + 1 else S.2.2.1 k := rfl
          have e3 : (stC G A p S).2.2.2 = S.2.2.2 ++ [10 * (ncI G A p S.1 S.2.2.1 + 1) + (S.2.2.1 (ncI G A p S.1 S.2.2.1 + 1) + 1)] := rfl
          have e4 : (stC G A p S).2.1 = S.2.1 := rfl
          rw [es] at next
          unfold RRo at next
          rw [e1, e2, e3, e4] at next
          simp only [if_pos c2]
          generalize ncI G A p S.1 S.2.2.1 = k at c2 next
          have hk : k + 1 < G.i 6 p := by omega
          have hsk := hq.sy hp hk
          have hnk := h.2.2.2.1 (k + 1) hk
          have hVk := (vV_bd (h.2.1.ac hq hsk hnk) (hq.at' hsk)).2
          have hdb := I.1.2.2.2.2 (k + 1) (by omega) hk
          have nm : ¬ nI (k + 1) = m1 := n_ne_m1 (by omega)
          rw [if_neg nm, if_pos trivial, ldI_n (show k + 1 < 4 by omega) (by omega), R3 (k + 1) (by omega) hk, Option.bind_some, nI_add, stI_n (show k + 1 < 4 by omega) (by omega), Option.bind_some, ldI_n (show k + 1 < 4 by omega) (by omega), upI_s, Option.bind_some, pk_mul, nI_add]
          have f0 : FX PPl M (upI M 152 (k + 1) (nI (S.2.2.1 (k + 1) + 1))) := FX.I (Or.inr (Or.inl rfl))
          obtain ⟨M1, a1, a2, a3, a4⟩ := r_step (M := upI M 152 (k + 1) (nI (S.2.2.1 (k + 1) + 1))) (x := 10 * (k + 1) + (S.2.2.1 (k + 1) + 1)) (L := S.2.2.2) N (by rw [up1, if_neg (by decide)]; exact R1) (by omega) (fun i y hy => by rw [up1, if_neg (by decide)]; exact R2 i y hy)
          have f1 : FX PPl M M1 := f0.trans (a4.mono fun a j q => by unfold PPl; omega)
          have e152 : ∀ j, M1.1 152 j = if j = k + 1 then nI (S.2.2.1 (k + 1) + 1) else M.1 152 j := fun j => (a4.2 152 j (fun q => by omega)).1.trans (upI_j _ _ _ _ _)
          rw [a1, Option.bind_some, (K.ppl f1).1.sym N hp hk, Option.bind_some, ldI_n (show k + 1 < 4 by omega) (by omega), e152, if_pos rfl, Option.bind_some, r_outsOf N hN h.2.1 (K.ppl f1) (hV.ppl f1) hsk hnk (by omega) (by omega), Option.bind_some, n_or]
          exact next M1 S.2.1 _ (by omega) rfl rfl ⟨a2, a3, fun j j1 j2 => by
            rw [e152]
            show _ = nI (if j = k + 1 then S.2.2.1 j + 1 else S.2.2.1 j)
            by_cases z : j = k + 1
            · rw [if_pos z, if_pos z, z]
            · rw [if_neg z, if_neg z]; exact R3 j j1 j2⟩ f1
        · rw [if_neg c2] at hkd
          simp only [if_neg c2]
          rw [if_pos trivial]
          exact leave (Or.inr hkd)
    by_cases c : vV G A (G.i 7 (4 * p)) ≤ S.2.1
    · rw [if_pos c]; exact other fun q => by omega
    · rw [if_neg c]
      by_cases d : andn (durO G A (G.i 7 (4 * p)) S.2.1) S.1 = 0
      · rw [decide_eq_true d, if_neg (by decide)]
        exact leave (Or.inl (by rw [hkd, if_pos ⟨by omega, d⟩]))
      · rw [decide_eq_false d, if_pos rfl]; exact other fun q => d q.2
theorem loop_zero152 (kE : Mm → Option Mm) : ∀ (fu k : Nat) (M : Mm), k ≤ 4 → 5 < k + fu → (∀ j, j < k → M.1 152 j = nI 0) → ∃ M', L_X12_laysPlan_11 kE 137 fu (nI k) M = kE M' ∧ (∀ j, j < 4 → M'.1 152 j = nI 0) ∧ FX (fun b _ => b = 152) M M'
  | 0, k, M, h1, h2, _ => by omega
  | fu + 1, k, M, h1, h2, hj => by
    rw [L_X12_laysPlan_11]
    simp (disch := omega) only [n_le]
    by_cases e : 4 ≤ k
    · rw [if_pos e]; exact ⟨M, rfl, fun j hj2 => hj j (by omega), FX.refl⟩
    · rw [if_neg e, show (137 : Nat) + 15 = 152 from rfl, stI_n (by omega) (by omega), Option.bind_some, Option.bind_some, nI_add]
      obtain ⟨M', a, b, c⟩ := loop_zero152 kE fu (k + 1) (upI M 152 k (nI 0)) (by omega) (by omega) fun j hj2 => by
        rw [upI_j]
        by_cases z : j = k
        · rw [if_pos z]
        · rw [if_neg z]; exact hj j (by omega)
      exact ⟨M', a, b, (FX.I (P := fun b _ => b = 152) rfl).trans c⟩
def PPn (b j : Nat) : Prop := PPl b j ∨ PVa b j
theorem r_laysPlan {G : Gr} {A : Nat → Nat} {p : Nat} {M : Mm} (N : Nat) (hN : 2000 < N) (h : OrdP G A p) (K : RI' G A M) (h9 : M.1 137 9 = nI 1) : ∃ M', D_X12_laysPlan N 137 (nI p) M = some M' ∧ LSt M' 151 0 (pL G A p) ∧ M'.1 137 33 = nI (pL G A p).length ∧ FX PPn M M' := by
  have hq := K.1.g
  have hnp := hq.np
  have hp := h.2.2.1
  have hsd := hq.sd hp
  have hs : G.i 7 (4 * p) < G.i 0 0 := hq.sy hp (show 0 < G.i 6 p by omega)
  have hn : slf G A (G.i 7 (4 * p)) = false := h.2.2.2.1 0 (by omega)
  obtain ⟨M1, a1, a2, a3⟩ := r_laysAllVisits N hN K h.2.1
  unfold D_X12_laysPlan
  rw [a1, Option.bind_some, pI_n, Option.bind_some]
  have f2 : FX PPl M1 (upI M1 137 33 (nI 0)) := FX.I (Or.inr (Or.inr ⟨rfl, rfl⟩))
  have z2 : (upI M1 137 33 (nI 0)).1 137 33 = nI 0 := upI_s _ _ _ _
  have K2 := (K.pva a3).ppl f2
  have V2 := a2.ppl f2
  have n2 : (upI M1 137 33 (nI 0)).1 137 9 = nI 1 := ((f2.2 137 9 (fun q => by unfold PPl at q; omega)).1.trans (a3.2 137 9 (fun q => by unfold PVa at q; omega)).1).trans h9
  generalize upI M1 137 33 (nI 0) = M2 at f2 z2 K2 V2 n2
  obtain ⟨M3, b1, b2, b3⟩ := loop_zero152 (fun (M5 : Mm) => ((ldI 3816 (137 + 2) ((nI 20) + nI p) M5).bind fun v1 => (D_X12_insOf N 137 (nI 0) v1 (nI 1) M5).bind fun q1 => (L_X12_laysPlan_50 137 v1 N (nI p) N (nI 1) q1 M5))) N 0 M2 (by omega) (by omega) fun j hj => by omega
  have f3 : FX PPl M2 M3 := b3.mono fun a j q => Or.inr (Or.inl q)
  have K3 := K2.ppl f3
  have V3 := V2.ppl f3
  rw [b1, show (137 : Nat) + 2 = 139 from rfl, nI_add, ldI_n (by omega) (by omega), ((K3.1.1.2.2.1 p hp).2 hsd.1).1, Option.bind_some, r_insOf N hN h.2.1 K3 V3 hs hn (by omega) (by omega), Option.bind_some, Nat.mul_zero, Nat.pow_zero, Nat.mul_one]
  obtain ⟨M4, c1, c2, c3, c4⟩ := loop_laysPlan N hN h N 0 M3 (by omega) (by omega) K3 V3 ((f3.2 137 9 (fun q => by unfold PPl at q; omega)).1.trans n2) ⟨(b3.2 137 33 (fun q => by omega)).1.trans z2, fun i y hy => absurd (show ([] : List Nat)[i]? = some y from hy) (by simp), fun k k1 k2 => b2 k (by omega)⟩
  exact ⟨M4, c1, c2, c3, (a3.mono fun a j q => Or.inr q).trans (((f2.trans f3).trans c4).mono fun a j q => Or.inl q)⟩
