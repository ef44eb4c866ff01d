-- both sides answer: real, shades, hangs
theorem crN_up {G : Gr} {m : Nat} (h : ¬ crN G m = 0) : ∀ d, crN G (m + d) = crN G m ∧ ctN G (m + d) = ctN G m
  | 0 => ⟨rfl, rfl⟩
  | d + 1 => by
    obtain ⟨a, b⟩ := crN_up h d
    constructor
    · show (if oC G (m + d + 1) = true ∧ crN G (m + d) = 0 then m + d + 1 else crN G (m + d)) = _
      rw [if_neg (fun z => h (a ▸ z.2)), a]
    · show (if oC G (m + d + 1) = true ∧ crN G (m + d) = 0 then oT G (m + d + 1) else ctN G (m + d)) = _
      rw [if_neg (fun z => h (a ▸ z.2)), b]
/-- how the two ends of seeking go together -/
theorem nB_t {G : Gr} (hq : QG G) : (crN G (nB G true) = 0 ∧ nB G true = nS G) ∨ (crN G (nB G true) = nB G true ∧ 1 ≤ nB G true ∧ crN G (nS G) = nB G true ∧ ctN G (nS G) = oT G (nB G true) ∧ (nB G true = nS G ∨ nB G true < nS G ∧ oO G (nB G true) = false)) := by
  obtain ⟨b1, b2, b3⟩ := nB_le hq true
  have b0 : 1 ≤ nB G true := by unfold nB; omega
  by_cases c : crN G (nB G true) = 0
  · refine Or.inl ⟨c, ?_⟩
    unfold sB at b2
    rw [c, Bool.true_and, decide_eq_false (by omega), Bool.or_false] at b2
    by_cases z : nB G true < nS G
    · rw [nS_no b0 z] at b2; exact absurd b2 (by decide)
    · omega
  · obtain ⟨k, hk⟩ : ∃ k, nB G true = k + 1 := ⟨nB G true - 1, by omega⟩
    have ck : crN G k = 0 := by
      by_cases k0 : k = 0
      · rw [k0]; rfl
      · have := b3 k (by omega) (by omega)
        unfold sB at this
        rw [Bool.true_and, Bool.or_eq_false_iff, decide_eq_false_iff_not] at this
        omega
    have oc : oC G (k + 1) = true := by
      rw [hk] at c
      by_cases z : oC G (k + 1) = true
      · exact z
      · exact absurd (show crN G (k + 1) = 0 by show (if oC G (k + 1) = true ∧ crN G k = 0 then k + 1 else crN G k) = 0; rw [if_neg (fun u => z u.1), ck]) c
    have cm : crN G (nB G true) = nB G true := by
      rw [hk]
      show (if oC G (k + 1) = true ∧ crN G k = 0 then k + 1 else crN G k) = _
      rw [if_pos ⟨oc, ck⟩]
    have ct : ctN G (nB G true) = oT G (nB G true) := by
      rw [hk]
      show (if oC G (k + 1) = true ∧ crN G k = 0 then oT G (k + 1) else ctN G k) = _
      rw [if_pos ⟨oc, ck⟩]
    have up := crN_up c (nS G - nB G true)
    rw [show nB G true + (nS G - nB G true) = nS G by omega] at up
    refine Or.inr ⟨cm, b0, up.1.trans cm, up.2.trans ct, ?_⟩
    by_cases z : nB G true = nS G
    · exact Or.inl z
    · refine Or.inr ⟨by omega, ?_⟩
      have := nS_no b0 (show nB G true < nS G by omega)
      unfold sE at this
      rw [Bool.or_eq_false_iff] at this
      exact this.1
theorem nB_f {G : Gr} (hq : QG G) : nB G false = nS G := by
  obtain ⟨b1, b2, b3⟩ := nB_le hq false
  have b0 : 1 ≤ nB G false := by unfold nB; omega
  unfold sB at b2
  rw [Bool.false_and, Bool.or_false] at b2
  by_cases z : nB G false < nS G
  · rw [nS_no b0 z] at b2; exact absurd b2 (by decide)
  · omega
section q
variable {M : Mm} (N : Nat)
theorem IN0.sk {g g' w w' q q' : Nat} {G : Gr} {A : Nat → Nat} {M M1 : Mm} (I : IN0 g g' w w' q q' M) (Gi : GrI g G A M) (T : TrI w q g G M) (f : FX PSr M M1) (C : CKs G M1) : IN0 g g' w w' q q' M1 ∧ GrI g G A M1 := by
  obtain ⟨hg, hw, hq, _⟩ := I.2.1.gg
  obtain ⟨⟨B, n, h1⟩, h2, _⟩ := I
  have Gi1 : GrI g G A M1 := Gi.fx hg f fun b j z => by unfold PSr at z; omega
  exact ⟨⟨⟨B, n, h1.fx f fun b j z => by unfold PSr at z; omega⟩, h2.fx f, Or.inr ⟨G, A, Gi1, C, T.fx f (fun b j z => by unfold PSr at z; omega) ⟨by unfold PSr; omega, by unfold PSr; omega⟩⟩⟩, Gi1⟩
theorem seekPQ {b j : Nat} (z : PSs b j) : PQ b j ∧ ¬ b = 1 := by
  unfold PSs PSv PSw PSm at z
  unfold PQ
  omega
theorem rtot_loop {S : SS} {G : Gr} {n : Nat} (h : HSS G n M) (e : (kSh G n).1 = S.1) (b : ∀ s, S.1 s ≤ 12) : ∀ (fu s c : Nat), s ≤ 8 → 8 < s + fu → c = psum S.1 s → L_X12_real_116 N 137 M fu (nI c) (nI s) = D_X12_gives N 137 (nI (tot S)) M
  | 0, s, c, h1, h2, _ => by omega
  | fu + 1, s, c, h1, h2, hc => by
    rw [L_X12_real_116]
    simp only [n_le (show 8 < 2 ^ 31 by omega) (show s < 2 ^ 31 by omega), bind_pair]
    by_cases z : 8 ≤ s
    · rw [if_pos z, hc, show s = 8 by omega]; rfl
    · rw [if_neg z, show (137 : Nat) + 17 = 154 from rfl, ldI_n (by omega) (by omega), (h.1 s (by omega)).1, e, Option.bind_some, Option.bind_some, Option.bind_some, nI_add, nI_add]
      exact rtot_loop h e b fu (s + 1) _ (by omega) (by omega) (by rw [hc]; rfl)
theorem q_shades (hN : 20000 < N) (I : INV M) (a : Int32) : QOK M (D_X11_shades N 1 a M) (D_X12_shades N 137 a) := by
  obtain ⟨_, g, g', w, w', q, q', I0⟩ := I
  have R := I0.2.1
  obtain ⟨hg, hw, hq, _⟩ := R.gg
  have rg := R.g
  have x1 : D_X11_shades N 1 a M = (D_X1_hasSymbol N g a M).bind fun q1 => (if q1 = nI 0 then D_X11_refuse N 1 (nI 4) M else ((D_X6_seek N 24 g M).bind fun M1 => (if M1.1 24 10 = nI 0 then ((ldI 8 29 a M1).bind fun v1 => D_X11_answer N 1 v1 M1) else D_X11_refuse N 1 (nI 6) M1))) := by
    unfold D_X11_shades
    simp only [bind_pair]
    rw [rg]; rfl
  have y1 : ∀ M, D_X12_shades N 137 a M = (D_X12_isSymbol N 137 a M).bind fun q1 => (if q1 = nI 0 then D_X12_refuse N 137 (nI 4) M else ((D_X12_seeks N 137 (nI 0) M).bind fun M1 => (if M1.1 137 41 = nI 0 then ((ldI 8 154 a M1).bind fun v1 => D_X12_gives N 137 v1 M1) else D_X12_refuse N 137 (nI 6) M1))) := fun M => by
    unfold D_X12_shades
    simp only [bind_pair]
  rcases I0.2.2 with n0 | ⟨G, A, Gi, Ck, Tr⟩
  · exact QOK.ref (v := nI 4) N I0 FX.refl (by rw [x1, no_sym N a n0.1, Option.bind_some, if_pos rfl]) FX.refl (by rw [y1, rno_sym N a (n0.q hg hw f10).2.2.1, Option.bind_some, if_pos rfl])
  · rcases sym_A N a Gi with ⟨e1, e2⟩ | ⟨s, hs, rfl, e1, e2⟩
    · exact QOK.ref (v := nI 4) N I0 FX.refl (by rw [x1, e1, Option.bind_some, if_pos rfl]) FX.refl (by rw [y1, e2 _ (Gi.q hg f10), Option.bind_some, if_pos rfl])
    · have n8 := Gi.1.ns
      obtain ⟨M1, s1, s2, s3, s4⟩ := s_seek N (by omega) Gi.1 hg Gi.2.2.1 Ck
      obtain ⟨I1, Gi1⟩ := I0.sk Gi Tr s4 (Or.inr ⟨s2, s3⟩)
      obtain ⟨⟨S, t1, t2, t3⟩, _⟩ := s3
      rw [e1, Option.bind_some, if_neg z10, s1, Option.bind_some, t1.2.2, t3.ov] at x1
      have E := (cQ_kSh Gi.1 (nS G)).1
      have fin : ∀ v : Int32, ∃ M2, D_X12_seeks N 137 (nI 0) (upI M1 1 0 v) = some M2 ∧ HSS G (nS G) M2 ∧ FX (fun b j => PQ b j ∧ ¬ b = 1) (upI M1 1 0 v) M2 := fun v => by
        obtain ⟨M2, a1, _, a3, a4⟩ := r_seeks (b := false) N (by omega) Gi.1 (Gi1.q hg (f10 (v := v))).2.2.2.1
        rw [nB_f Gi.1] at a3
        exact ⟨M2, a1, a3, a4.mono fun b j z => seekPQ z⟩
      have y2 : ∀ v, D_X12_shades N 137 (nI s) (upI M1 1 0 v) = _ := fun v => by rw [y1, e2 _ (Gi1.q hg f10), Option.bind_some, if_neg z10]
      cases c : oO G (nS G)
      · rw [show (cQ G (nS G)).1.2.2.2.1 = false from c, if_pos bI_f, ldI_n (by omega) (by omega), (t1.1 s (by omega)).1, t3.eq c, Option.bind_some] at x1
        obtain ⟨M2, a1, a2, a3⟩ := fin (nI 0)
        refine (QOK.ans (v := nI ((cQ G (nS G)).1.1 s)) N I1 FX.refl x1 a3 ?_ : QOK M1 _ _)
        rw [y2, a1, Option.bind_some, a2.2.1, c, if_pos bI_f, ldI_n (by omega) (by omega), (a2.1 s (by omega)).1, Option.bind_some, E.1]
      · rw [show (cQ G (nS G)).1.2.2.2.1 = true from c, if_neg (show ¬ bI true = nI 0 from z10)] at x1
        obtain ⟨M2, a1, a2, a3⟩ := fin (nI 6)
        refine (QOK.ref (v := nI 6) N I1 FX.refl x1 a3 ?_ : QOK M1 _ _)
        rw [y2, a1, Option.bind_some, a2.2.1, c, if_neg (show ¬ bI true = nI 0 from z10)]
theorem q_real (hN : 20000 < N) (I : INV M) (a : Int32) : QOK M (D_X11_real N 1 a M) (D_X12_real N 137 a) := by
  obtain ⟨_, g, g', w, w', q, q', I0⟩ := I
  have R := I0.2.1
  obtain ⟨hg, hw, hq, _⟩ := R.gg
  have rg := R.g
  rcases arg2 a 3 (by decide) with h | ⟨k, hk, rfl, h1, h2⟩
  · refine QOK.ref (v := nI 1) N I0 FX.refl ?_ FX.refl ?_
    · unfold D_X11_real
      simp only [bind_pair]
      rw [if_out h]
    · unfold D_X12_real
      rw [out_from N _ h, Option.bind_some, if_pos rfl, bind_pair]
  · have x1 : D_X11_real N 1 (nI k) M = if M.1 g 0 = nI 0 then D_X11_refuse N 1 (nI 2) M else ((D_X6_seek N 24 g M).bind fun M1 => (D_X6_unsure N 24 M1).bind fun q3 => (if q3 = nI 0 then ((if M1.1 24 8 ≤ nI 0 then (some (nI 0)) else (some (nI 1))).bind fun p74 => (if nI k = nI 0 then (if p74 = nI 0 then D_X11_answer N 1 (nI 0) M1 else D_X11_answer N 1 (nI 1) M1) else if nI k = nI 1 then (if p74 = nI 0 then D_X11_refuse N 1 (nI 7) M1 else D_X11_answer N 1 (M1.1 24 8) M1) else if nI k = nI 2 then (if p74 = nI 0 then D_X11_answer N 1 (M1.1 24 7) M1 else D_X11_answer N 1 (M1.1 24 8) M1) else (if p74 = nI 0 then ((D_X6_total N 24 M1).bind fun q10 => D_X11_answer N 1 q10 M1) else D_X11_answer N 1 (M1.1 24 9) M1))) else D_X11_refuse N 1 (nI 6) M1)) := by
      unfold D_X11_real
      simp only [bind_pair]
      rw [if_in h1 h2, rg, Option.bind_some]; rfl
    have y1 : ∀ M, D_X12_real N 137 (nI k) M = if M.1 137 9 = nI 0 then D_X12_refuse N 137 (nI 2) M else ((D_X12_seeks N 137 (nI 1) M).bind fun M1 => (if M1.1 137 41 = nI 0 then (if nI k = nI 0 then (if M1.1 137 40 ≤ nI 0 then D_X12_gives N 137 (nI 0) M1 else D_X12_gives N 137 (nI 1) M1) else (if nI k = nI 1 then (if M1.1 137 40 ≤ nI 0 then D_X12_refuse N 137 (nI 7) M1 else D_X12_gives N 137 (M1.1 137 40) M1) else (if nI k = nI 2 then D_X12_gives N 137 (M1.1 137 39) M1 else (L_X12_real_116 N 137 M1 N (nI 0) (nI 0))))) else D_X12_refuse N 137 (nI 6) M1)) := fun M => by
      unfold D_X12_real
      simp only [bind_pair]
      rw [from_yes N M hk (by decide), Option.bind_some, if_neg z10]
    rcases I0.2.2 with n0 | ⟨G, A, Gi, Ck, Tr⟩
    · exact QOK.ref (v := nI 2) N I0 FX.refl (by rw [x1, if_pos n0.1]) FX.refl (by rw [y1, if_pos (n0.q hg hw f10).2.2.1])
    · obtain ⟨M1, s1, s2, s3, s4⟩ := s_seek N (by omega) Gi.1 hg Gi.2.2.1 Ck
      obtain ⟨I1, Gi1⟩ := I0.sk Gi Tr s4 (Or.inr ⟨s2, s3⟩)
      obtain ⟨⟨S, k1, SO1, rl⟩, k7, k89⟩ := s3
      have k7 := k7 (by unfold nS; omega)
      have k10 : M1.1 24 10 = bI (oO G (nS G)) := k1.2.2.trans (congrArg bI rl.ov)
      have st := s_total N (by omega) SO1 k1
      have hst : oO G (nS G) = false → tot S = oT G (nS G) := fun z => by rw [rl.eq z]; rfl
      have E := (cQ_kSh Gi.1 (nB G true)).1
      have n97 := (nS_le Gi.1).1
      obtain ⟨b1, b2, b3⟩ := nB_le Gi.1 true
      rw [if_neg Gi.g0, s1, Option.bind_some] at x1
      have fl : ∀ v : Int32, ¬ (upI M1 1 0 v).1 137 9 = nI 0 := fun v => by rw [(Gi1.q hg (f10 (v := v))).fl]; exact z10
      have fin : ∀ v : Int32, ∃ M2, D_X12_seeks N 137 (nI 1) (upI M1 1 0 v) = some M2 ∧ HSS G (nB G true) M2 ∧ FX (fun b j => PQ b j ∧ ¬ b = 1) (upI M1 1 0 v) M2 := fun v => by
        obtain ⟨M2, a1, _, a3, a4⟩ := r_seeks (b := true) N (by omega) Gi.1 (Gi1.q hg (f10 (v := v))).2.2.2.1
        exact ⟨M2, a1, a3, a4.mono fun b j z => seekPQ z⟩
      rcases k89 with ⟨k8, k9⟩ | ⟨u1, u2, u3⟩
      rotate_left
      · have cN : crN G (nS G) = 0 ∨ crN G (nS G) = nS G := by
          obtain ⟨m, hm⟩ : ∃ m, nS G = m + 1 := ⟨nS G - 1, by unfold nS; omega⟩
          rw [hm, Nat.add_sub_cancel] at u2
          rw [hm, crN_s]
          split
          · exact Or.inr rfl
          · exact Or.inl u2
        have c : oO G (nB G true) = true := by
          rcases nB_t Gi.1 with ⟨z1, z2⟩ | ⟨z1, z0, z2, z3, z4⟩
          · rw [z2]; exact u1
          · rw [show nB G true = nS G by omega]; exact u1
        have un : D_X6_unsure N 24 M1 = some (nI 1) := by
          unfold D_X6_unsure
          simp only [jn, okZ_0, okZ_1]
          rw [k10, u1, if_neg (show ¬ bI true = nI 0 from z10), k7]
          rcases u3 with u3 | u3
          · rw [u3, if_pos rfl]
          · rw [u3]
            by_cases z : nI (nS G) = nI 0
            · rw [if_pos z]
            · rw [if_neg z, if_pos rfl]
        rw [un, Option.bind_some, if_neg z10] at x1
        obtain ⟨M2, a1, a2, a3⟩ := fin (nI 6)
        refine (QOK.ref (v := nI 6) N I1 FX.refl x1 a3 ?_ : QOK M1 _ _)
        rw [y1, if_neg (fl _), a1, Option.bind_some, a2.2.1, c, if_neg (show ¬ bI true = nI 0 from z10)]
      rw [k8, k7, st] at x1
      have un : D_X6_unsure N 24 M1 = some (bI (oO G (nB G true))) := by
        unfold D_X6_unsure
        simp only [jn, okZ_0, okZ_1]
        rw [k10, k8, k7]
        simp only [bI_0, n_eq (show crN G (nS G) < 2 ^ 31 by have := crN_le G (nS G); omega) (show 0 < 2 ^ 31 by decide), n_eq (show crN G (nS G) < 2 ^ 31 by have := crN_le G (nS G); omega) (show nS G < 2 ^ 31 by omega)]
        rcases nB_t Gi.1 with ⟨z1, z2⟩ | ⟨z1, z0, z2, z3, z4⟩
        · rw [← z2]
          cases oO G (nB G true)
          · rw [if_pos rfl]; rfl
          · rw [if_neg (by decide), if_pos z1]; rfl
        · rcases z4 with z4 | ⟨z4, z5⟩
          · rw [← z4]
            cases oO G (nB G true)
            · rw [if_pos rfl]; rfl
            · rw [if_neg (by decide), if_neg (by omega), if_pos (by omega)]; rfl
          · rw [z5]
            cases oO G (nS G)
            · rw [if_pos rfl]; rfl
            · rw [if_neg (by decide), if_neg (by omega), if_neg (by omega)]; rfl
      rw [un, Option.bind_some] at x1
      cases c : oO G (nB G true)
      · rw [c, if_pos bI_f] at x1
        have cr : crN G (nB G true) ≤ 97 := by have := crN_le G (nB G true); omega
        have y2 : ∀ M2, HSS G (nB G true) M2 → ∀ v, D_X12_seeks N 137 (nI 1) (upI M1 1 0 v) = some M2 → D_X12_real N 137 (nI k) (upI M1 1 0 v) = if k = 0 then (if crN G (nB G true) = 0 then D_X12_gives N 137 (nI 0) M2 else D_X12_gives N 137 (nI 1) M2) else if k = 1 then (if crN G (nB G true) = 0 then D_X12_refuse N 137 (nI 7) M2 else D_X12_gives N 137 (nI (crN G (nB G true))) M2) else if k = 2 then D_X12_gives N 137 (nI (nB G true)) M2 else D_X12_gives N 137 (nI (oT G (nB G true))) M2 := fun M2 hs v a1 => by
          have l := rtot_loop (S := (cQ G (nB G true)).1) N hs E.1.symm (fun s => ((cQ_ok Gi.1 (nB G true)).1 s).1) N 0 0 (by omega) (by omega) rfl
          rw [y1, if_neg (fl _), a1, Option.bind_some, hs.2.1, c, if_pos bI_f, hs.2.2.1, hs.2.2.2]
          simp only [n_eq (show k < 2 ^ 31 by omega) (show 0 < 2 ^ 31 by decide), n_eq (show k < 2 ^ 31 by omega) (show 1 < 2 ^ 31 by decide), n_eq (show k < 2 ^ 31 by omega) (show 2 < 2 ^ 31 by decide), n_le (show crN G (nB G true) < 2 ^ 31 by omega) (show 0 < 2 ^ 31 by decide), Nat.le_zero]
          rw [l]; rfl
        have pk : ∀ n, n < 2 ^ 31 → ((if nI n ≤ nI 0 then some (nI 0) else some (nI 1)) : Option Int32) = some (if n = 0 then nI 0 else nI 1) := fun n hn => by
          simp only [n_le hn (show 0 < 2 ^ 31 by decide), Nat.le_zero]
          by_cases z : n = 0
          · rw [if_pos z, if_pos z]
          · rw [if_neg z, if_neg z]
        rw [pk _ (by have := crN_le G (nS G); omega), Option.bind_some] at x1
        simp only [n_eq (show k < 2 ^ 31 by omega) (show 0 < 2 ^ 31 by decide), n_eq (show k < 2 ^ 31 by omega) (show 1 < 2 ^ 31 by decide), n_eq (show k < 2 ^ 31 by omega) (show 2 < 2 ^ 31 by decide)] at x1
        have an : ∀ v : Int32, D_X11_real N 1 (nI k) M = D_X11_answer N 1 v M1 → (∀ M2, HSS G (nB G true) M2 → D_X12_seeks N 137 (nI 1) (upI M1 1 0 (nI 0)) = some M2 → D_X12_real N 137 (nI k) (upI M1 1 0 (nI 0)) = D_X12_gives N 137 v M2) → QOK M (D_X11_real N 1 (nI k) M) (D_X12_real N 137 (nI k)) := fun v hx hy => by
          obtain ⟨M2, a1, a2, a3⟩ := fin (nI 0)
          exact (QOK.ans (v := v) N I1 FX.refl hx a3 (hy M2 a2 a1) : QOK M1 _ _)
        rcases nB_t Gi.1 with ⟨z1, z2⟩ | ⟨z1, z0, z2, z3, z4⟩
        · rw [← z2, z1, if_pos rfl, if_pos rfl, if_pos rfl, if_pos rfl, if_pos rfl] at x1
          by_cases k0 : k = 0
          · rw [if_pos k0] at x1
            exact an _ x1 fun M2 hs a1 => by rw [y2 M2 hs _ a1, if_pos k0, if_pos z1]
          · by_cases k1 : k = 1
            · rw [if_neg k0, if_pos k1] at x1
              obtain ⟨M2, a1, a2, a3⟩ := fin (nI 7)
              refine (QOK.ref (v := nI 7) N I1 FX.refl x1 a3 ?_ : QOK M1 _ _)
              rw [y2 M2 a2 _ a1, if_neg k0, if_pos k1, if_pos z1]
            · by_cases k2 : k = 2
              · rw [if_neg k0, if_neg k1, if_pos k2] at x1
                exact an _ x1 fun M2 hs a1 => by rw [y2 M2 hs _ a1, if_neg k0, if_neg k1, if_pos k2]
              · rw [if_neg k0, if_neg k1, if_neg k2, Option.bind_some, show tot S = oT G (nB G true) by rw [z2]; exact hst (by rw [← z2]; exact c)] at x1
                exact an _ x1 fun M2 hs a1 => by rw [y2 M2 hs _ a1, if_neg k0, if_neg k1, if_neg k2]
        · have nz : ¬ nB G true = 0 := by omega
          rw [k9 (by omega), z2, z3, if_neg nz, if_neg z10, if_neg z10, if_neg z10, if_neg z10] at x1
          have c0 : ¬ crN G (nB G true) = 0 := by omega
          by_cases k0 : k = 0
          · rw [if_pos k0] at x1
            exact an _ x1 fun M2 hs a1 => by rw [y2 M2 hs _ a1, if_pos k0, if_neg c0]
          · by_cases k1 : k = 1
            · rw [if_neg k0, if_pos k1] at x1
              exact an _ x1 fun M2 hs a1 => by rw [y2 M2 hs _ a1, if_neg k0, if_pos k1, if_neg c0, z1]
            · by_cases k2 : k = 2
              · rw [if_neg k0, if_neg k1, if_pos k2] at x1
                exact an _ x1 fun M2 hs a1 => by rw [y2 M2 hs _ a1, if_neg k0, if_neg k1, if_pos k2]
              · rw [if_neg k0, if_neg k1, if_neg k2] at x1
                exact an _ x1 fun M2 hs a1 => by rw [y2 M2 hs _ a1, if_neg k0, if_neg k1, if_neg k2]
      · rw [c, if_neg (show ¬ bI true = nI 0 from z10)] at x1
        obtain ⟨M2, a1, a2, a3⟩ := fin (nI 6)
        refine (QOK.ref (v := nI 6) N I1 FX.refl x1 a3 ?_ : QOK M1 _ _)
        rw [y1, if_neg (fl _), a1, Option.bind_some, a2.2.1, c, if_neg (show ¬ bI true = nI 0 from z10)]
end q
