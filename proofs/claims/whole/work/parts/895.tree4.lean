-- the class reads a tree, whole
def kET (N : Nat) (M9 : Mm) : Option (Int32 × Mm) := (rf M9 8 0 7).bind fun r5 => (jn (fun (p134 : Mm) => (retZ (nI 1) p134)) fun J3 => (if (M9.1 r5 7) = nI 0 then (J3 M9) else ((rf M9 8 0 7).bind fun r6 => (D_X7_fail N r6 (nI 2) M9).bind fun q6 => (if q6.1 = nI 0 then (retZ (nI 0) q6.2) else (J3 q6.2)))))
theorem s_readT {n : Nat} {T : List Tok} {w g first bh q d need : Nat} {P0 : Int32} {G : Gr} {M : Mm} (N : Nat) (hN : 2000 < N) (hT : TT n T) (hq : QG G) (hg : g = 35 ∨ g = 52) (hw : w = 69 ∨ w = 87) (hneed : need ≤ 8) (K : TK T 0 M) (C : CG g G M) (h0 : M.1 w 0 = nI first) (hb : first + bh ≤ 40) (hP : UOK w d P0 M) :
    ∃ M2, Fr (fun a => a = 8) M M2 ∧ RTC w (KT T w g G first bh P0) M2 (pTree T G (first + bh) need d q) (D_X9_read N 8 2 g w P0 (nI q) (ndI need) (nI bh) M) := by
  have f8 : Fr (fun a => a = 8) M (upI (upN (upN (upN M 8 0 2) 8 1 g) 8 2 w) 8 3 (nI bh)) := (((Fr.N (S := fun a => a = 8) rfl).trans (Fr.N rfl)).trans (Fr.N rfl)).trans (Fr.I rfl)
  refine ⟨upI (upN (upN (upN M 8 0 2) 8 1 g) 8 2 w) 8 3 (nI bh), f8, ?_⟩
  unfold D_X9_read
  rw [pN_n, Option.bind_some, pN_n, Option.bind_some, pN_n, Option.bind_some, pI_n, Option.bind_some]
  have e80 : (upI (upN (upN (upN M 8 0 2) 8 1 g) 8 2 w) 8 3 (nI bh)).2.2 8 0 = 2 := by rw [up2, upN3, if_pos rfl]; simp [upN3]
  have e81 : (upI (upN (upN (upN M 8 0 2) 8 1 g) 8 2 w) 8 3 (nI bh)).2.2 8 1 = g := by rw [up2, upN3, if_pos rfl]; simp [upN3]
  have e82 : (upI (upN (upN (upN M 8 0 2) 8 1 g) 8 2 w) 8 3 (nI bh)).2.2 8 2 = w := by rw [up2, upN3, if_pos rfl]; simp
  have e83 : (upI (upN (upN (upN M 8 0 2) 8 1 g) 8 2 w) 8 3 (nI bh)).1 8 3 = nI bh := upI_s _ _ _ _
  generalize upI (upN (upN (upN M 8 0 2) 8 1 g) 8 2 w) 8 3 (nI bh) = M2 at f8 e80 e81 e82 e83
  have K2 : KT T w g G first bh P0 0 t0 M2 := ⟨K.fr f8 (by decide) (by decide) (by decide) (by decide), C.fr f8 (fun k hk z => by omega), ⟨e80, e81, e82, e83⟩, by rw [(f8 w (by omega)).1, h0]; rfl, by show first + bh + 0 ≤ 40; omega, fun e he => absurd he (Nat.not_lt_zero _)⟩
  have hP2 : UOK w d P0 M2 := by
    unfold UOK
    rw [(f8 (w + 5) (by omega)).1]; exact hP
  have hd1 := hP2.d
  rw [K2.w hw, Option.bind_some, K2.2.2.2.1, Option.bind_some]
  have hd := s_hd (u := 0) (q := q) (d := d) (need := need) N hN hT hq hg hw hneed K2 (Or.inl ⟨rfl, rfl⟩) (fun _ => hP2)
  rw [show uC first P0 0 = P0 from if_pos rfl] at hd
  unfold pTree
  rw [pNd_s]
  cases e : pHd T G (first + bh) need d 0 q 0 t0 with
  | inl a =>
    rw [e] at hd
    obtain ⟨M', a1, a2⟩ := hd
    rw [a1, Option.bind_some, show N = (N - 1) + 1 by omega, L_X9_read_49]
    refine ⟨M', ?_, a2⟩
    show (if nI 40 < nI 0 then _ else if nI 0 = nI 0 then retZ (nI 0) M' else _) = _
    rw [if_neg (show ¬ nI 40 < nI 0 by decide +kernel), if_pos rfl, retZ_0]
  | inr a =>
    rw [e] at hd
    obtain ⟨M', a1, a2, a3, a4⟩ := hd
    obtain ⟨r1, r2, r3, r4, _⟩ := pHd_r e
    subst r1
    have a2 : KT T w g G first bh P0 (ownA T 0) (tAdd t0 (pnI G T 0) (ownN T 0) 0 q d) M' := a2
    have rest := c_rest N (kET N) hN hT hq hg hw 13 d 0 (ownA T 0) (tAdd t0 (pnI G T 0) (ownN T 0) 0 q d) M' (by omega) r3 (tAdd_n ..) (show td (tAdd t0 (pnI G T 0) (ownN T 0) 0 q d) 0 = d from rfl) a2
    rw [show tp (tAdd t0 (pnI G T 0) (ownN T 0) 0 q d) 0 = pnI G T 0 from rfl] at rest
    rw [a1, Option.bind_some]
    have ec : ∀ X, CL (kET N) N first 0 M' = X → L_X9_read_49 (kET N) 8 N (nI (first + tn t0)) N (nI 1) (nI (first + tn t0)) (nI 0) M' = X := fun X h => h
    show RTC w _ M2 (bndT (bndT (.inr (ownA T 0, tAdd t0 (pnI G T 0) (ownN T 0) 0 q d)) fun h' t' => pRs T G (pNd T G (first + bh) 13) (pnI G T 0) d (tn t0) h' t') fun h t => if (tk T h).1 = 0 then .inr (h, t) else flT T h 2) (L_X9_read_49 (kET N) 8 N (nI (first + tn t0)) N (nI 1) (nI (first + tn t0)) (nI 0) M')
    show RTC w _ M2 (bndT (pRs T G (pNd T G (first + bh) 13) (pnI G T 0) d 0 (ownA T 0) (tAdd t0 (pnI G T 0) (ownN T 0) 0 q d)) fun h t => if (tk T h).1 = 0 then .inr (h, t) else flT T h 2) _
    cases er : pRs T G (pNd T G (first + bh) 13) (pnI G T 0) d 0 (ownA T 0) (tAdd t0 (pnI G T 0) (ownN T 0) 0 q d) with
    | inl b =>
      rw [er] at rest
      obtain ⟨M3, b1, b2⟩ := rest
      exact ⟨M3, ec _ b1, b2.pre a3 a4⟩
    | inr b =>
      rw [er] at rest
      obtain ⟨M3, u, fu', b1, b2, b3, b4, b5, b6, b7, b8⟩ := rest
      have b1' := ec _ b1
      rw [b1']
      have eu : CU (kET N) N first (tn b.2 - 1) fu' u (first + 0) M3 = kET N M3 := by
        unfold CU
        rw [show fu' = (fu' - 1) + 1 by omega, L_X9_climb_5]
        simp only [n_lt (show 12 < 2 ^ 31 by omega) (show u < 2 ^ 31 by omega)]
        rw [if_neg (by omega), Nat.add_zero, if_pos rfl, Option.bind_some, Option.bind_some, if_pos rfl]
      rw [eu]
      unfold kET
      have k4 := (hT.g b4.h).1
      rw [b4.t, Option.bind_some, b4.1.2.2.2.2.1]
      simp only [jn, n_eq (show (tk T b.1).1 < 2 ^ 31 by omega) (show 0 < 2 ^ 31 by omega), Option.bind_some]
      show RTC w _ M2 (if (tk T b.1).1 = 0 then .inr (b.1, b.2) else flT T b.1 2) _
      by_cases z : (tk T b.1).1 = 0
      · rw [if_pos z, if_pos z, retZ_1]
        exact ⟨M3, rfl, b4, a3.trans b7, b8.trans a4⟩
      · rw [if_neg z, if_neg z]
        obtain ⟨M4, f1, f2⟩ := kt_fail N 2 hT b4
        rw [f1, Option.bind_some, if_pos rfl, retZ_0]
        exact ⟨M4, rfl, (f2.pre b7 b8).pre a3 a4⟩
