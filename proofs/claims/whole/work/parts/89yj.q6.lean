-- both sides answer: hangs
section q
variable {M : Mm} (N : Nat)
theorem loop_fit {g p : Nat} {G : Gr} {A : Nat → Nat} (h : GrI g G A M) (hp : p < G.i 0 1) : ∀ (fu k : Nat), k ≤ G.i 6 p → 5 < k + fu → (∀ j, j < k → slf G A (G.i 7 (4 * p + j)) = false) → ∃ b, L_X5_fit_2 g (nI p) M N 15 fu (nI k) = some (bI b) ∧ (b = true ↔ noS G A p)
  | 0, k, h1, h2, _ => by have := h.1.sd hp; omega
  | fu + 1, k, h1, h2, hj => by
    have sd := h.1.sd hp
    have n12 := h.1.np
    have n8 := h.1.ns
    rw [L_X5_fit_2, ldI_n (by omega) (by omega), h.2.2.1.a 6 p (by omega), Option.bind_some]
    simp only [n_le (show G.i 6 p < 2 ^ 31 by omega) (show k < 2 ^ 31 by omega)]
    by_cases e : G.i 6 p ≤ k
    · rw [if_pos e]
      exact ⟨true, okZ_1, ⟨fun _ j hj' => hj j (by omega), fun _ => rfl⟩⟩
    · have s8 := h.1.sy hp (show k < G.i 6 p by omega)
      have cb := cnV_0 h.1 h.hi s8
      rw [if_neg e, s_side N h.2.2.1 (by omega) (by omega), Option.bind_some, show (15 : Nat) + 1 = 16 from rfl, ldI_n (by omega) (by omega), (h.pl.1 _ s8).1, Option.bind_some, Option.bind_some, nI_add]
      simp only [n_eq (show cnV G A (G.i 7 (4 * p + k)) < 2 ^ 31 by omega) (show 0 < 2 ^ 31 by decide)]
      by_cases c : cnV G A (G.i 7 (4 * p + k)) = 0
      · rw [if_pos c]
        refine ⟨false, okZ_0, bF rfl fun z => ?_⟩
        have := z k (by omega)
        rw [cb.1.1 c] at this; exact absurd this (by decide)
      · rw [if_neg c]
        exact loop_fit h hp fu (k + 1) (by omega) (by omega) fun j hj' => by
          by_cases z : j = k
          · rw [z]
            cases u : slf G A (G.i 7 (4 * p + k))
            · rfl
            · exact absurd (cb.1.2 u) c
          · exact hj j (by omega)
theorem loop_selfIn {g p : Nat} {G : Gr} {A : Nat → Nat} (hN : 2000 < N) (h : GrI g G A M) (hp : p < G.i 0 1) : ∀ (fu k : Nat), k ≤ G.i 6 p → 5 < k + fu → (∀ j, j < k → slf G A (G.i 7 (4 * p + j)) = false) → ∃ b, L_X12_isSelfIn_2 137 (nI p) M N fu (nI k) = some (bI b) ∧ (b = false ↔ noS G A p)
  | 0, k, h1, h2, _ => by have := h.1.sd hp; omega
  | fu + 1, k, h1, h2, hj => by
    have sd := h.1.sd hp
    have n12 := h.1.np
    have n8 := h.1.ns
    rw [L_X12_isSelfIn_2, show (137 : Nat) + 2 = 139 from rfl, nI_add, ldI_n (by omega) (by omega), ((h.2.2.2.1.1.2.2.1 p hp).2 sd.1).2.1, Option.bind_some]
    simp only [n_lt (show G.i 6 p - 1 < 2 ^ 31 by omega) (show k < 2 ^ 31 by omega)]
    by_cases e : G.i 6 p ≤ k
    · rw [if_pos (by omega)]
      exact ⟨false, okZ_0, ⟨fun _ j hj' => hj j (by omega), fun _ => rfl⟩⟩
    · have s8 := h.1.sy hp (show k < G.i 6 p by omega)
      rw [if_neg (by omega), r_symbolAt N len139 h.2.2.2.1.1 h.1.1 hp (by omega), Option.bind_some, r_isSelf N hN h.ri (h.hi.ok h.1) s8, Option.bind_some, Option.bind_some, nI_add]
      simp only [bI_0]
      cases c : slf G A (G.i 7 (4 * p + k))
      · rw [if_pos rfl]
        exact loop_selfIn hN h hp fu (k + 1) (by omega) (by omega) fun j hj' => by
          by_cases z : j = k
          · rw [z]; exact c
          · exact hj j (by omega)
      · rw [if_neg (by decide)]
        exact ⟨true, okZ_1, ⟨fun z => absurd z (by decide), fun z => by have := z k (by omega); rw [c] at this; exact absurd this (by decide)⟩⟩
theorem q_hangs (hN : 20000 < N) (I : INV M) (a b c d : Int32) : QOK M (D_X11_hangs N 1 a b c d M) (D_X12_hangs N 137 a b c d) := by
  obtain ⟨_, g, g', w, w', q, q', I0⟩ := I
  have R := I0.2.1
  obtain ⟨hg, hw, hq, _⟩ := R.gg
  have rg := R.g
  rcases arg2 d 2 (by decide) with h | ⟨k, hk, rfl, h1, h2⟩
  · refine QOK.ref (v := nI 1) N I0 FX.refl ?_ FX.refl ?_
    · unfold D_X11_hangs
      simp only [bind_pair]
      rw [if_out h]
    · unfold D_X12_hangs
      rw [out_from N _ h, Option.bind_some, if_pos rfl, bind_pair]
  · have x1 : D_X11_hangs N 1 a b c (nI k) M = (D_X1_hasProduction N g a M).bind fun q2 => (if q2 = nI 0 then D_X11_refuse N 1 (nI 4) M else ((D_X1_hasOcc N g a b M).bind fun q4 => (if q4 = nI 0 then D_X11_refuse N 1 (nI 4) M else ((D_X1_hasOcc N g a c M).bind fun q6 => (if q6 = nI 0 then D_X11_refuse N 1 (nI 4) M else (jn (fun (p86 : Unit) => ((if nI k = nI 0 then ((ldI 384 (g + 12) ((nI 32) * a + b) M).bind fun v1 => (some v1)) else (if nI k = nI 1 then ((ldI 384 11 ((nI 32) * a + b) M).bind fun v2 => (some v2)) else ((ldI 384 18 ((nI 32) * a + b) M).bind fun v3 => (some v3)))).bind fun p141 => D_X11_answer N 1 ((shr p141 c) &&& (nI 1)) M)) fun J1 => (if nI k = nI 2 then ((D_X5_fit N 15 g a M).bind fun q9 => (if q9 = nI 0 then D_X11_refuse N 1 (nI 7) M else (J1 ()))) else (J1 ())))))))) := by
      unfold D_X11_hangs
      simp only [bind_pair]
      rw [if_in h1 h2, rg, Option.bind_some]
      simp only [Option.bind_some]
    have y1 : ∀ M, D_X12_hangs N 137 a b c (nI k) M = ((D_X12_isOcc N 137 a b M).bind fun q3 => (if q3 = nI 0 then D_X12_refuse N 137 (nI 4) M else ((D_X12_isOcc N 137 a c M).bind fun q5 => (if q5 = nI 0 then D_X12_refuse N 137 (nI 4) M else (jn (fun (p61 : Unit) => ((if nI k = nI 0 then ((D_X12_laysRules N 137 a M).bind fun M2 => (some M2)) else (if nI k = nI 1 then ((D_X12_laysClosed N 137 a M).bind fun M3 => (some M3)) else ((D_X12_laysOrdered N 137 a M).bind fun M4 => (some M4)))).bind fun p93 => ((ldI 32 144 b p93).bind fun v1 => (D_X12_has N v1 c p93).bind fun q7 => (if q7 = nI 0 then D_X12_gives N 137 (nI 0) p93 else D_X12_gives N 137 (nI 1) p93)))) fun J1 => (if nI k = nI 2 then ((D_X12_isSelfIn N 137 a M).bind fun q10 => (if q10 = nI 0 then (J1 ()) else D_X12_refuse N 137 (nI 7) M)) else (J1 ()))))))) := fun M => by
      unfold D_X12_hangs
      simp only [bind_pair]
      rw [from_yes N M hk (by decide), Option.bind_some, if_neg z10]
    rcases I0.2.2 with n0 | ⟨G, A, Gi, _, _⟩
    · exact QOK.ref (v := nI 4) N I0 FX.refl (by rw [x1, no_prod N a n0.2.1, Option.bind_some, if_pos rfl]) FX.refl (by rw [y1, rno_occ N a b (n0.q hg hw f10).2.2.1, Option.bind_some, if_pos rfl])
    · have K := fun v => (Gi.q hg f10 : GrI g G A (upI M 1 0 v))
      rcases prod_A N a Gi with ⟨e1, e2⟩ | ⟨p, hp, rfl, e1, e2⟩
      · refine QOK.ref (v := nI 4) N I0 FX.refl (by rw [x1, e1, Option.bind_some, if_pos rfl]) FX.refl ?_
        have o : D_X12_isOcc N 137 a b (upI M 1 0 (nI 4)) = some (nI 0) := by
          unfold D_X12_isOcc
          rw [e2 _ (K _)]; rfl
        rw [y1, o, Option.bind_some, if_pos rfl]
      · rw [e1, Option.bind_some, if_neg z10] at x1
        rcases occ_A N b hp Gi with ⟨e3, e4⟩ | ⟨o, ho, uo, rfl, e3, e4⟩
        · exact QOK.ref (v := nI 4) N I0 FX.refl (by rw [x1, e3, Option.bind_some, if_pos rfl]) FX.refl (by rw [y1, e4 _ (K _), Option.bind_some, if_pos rfl])
        · rw [e3, Option.bind_some, if_neg z10] at x1
          rcases occ_A N c hp Gi with ⟨e5, e6⟩ | ⟨r, hr, ur, rfl, e5, e6⟩
          · exact QOK.ref (v := nI 4) N I0 FX.refl (by rw [x1, e5, Option.bind_some, if_pos rfl]) FX.refl (by rw [y1, e4 _ (K _), Option.bind_some, if_neg z10, e6 _ (K _), Option.bind_some, if_pos rfl])
          · have n12 := Gi.1.np
            have sd := Gi.1.sd hp
            have o8 := Gi.1.us_lt hp uo
            have A8 := Gi.hi.ok Gi.1
            have y2 : ∀ v, D_X12_hangs N 137 (nI p) (nI o) (nI r) (nI k) (upI M 1 0 v) = _ := fun v => by rw [y1, e4 _ (K _), Option.bind_some, if_neg z10, e6 _ (K _), Option.bind_some, if_neg z10]
            simp only [jn] at y2 x1
            rw [e5, Option.bind_some, if_neg z10] at x1
            -- the answer, when a row is laid
            have an : ∀ (x : Nat) (M2 : Mm), x < 2 ^ 32 → M2.1 144 o = nI x → FX (fun b j => PQ b j ∧ ¬ b = 1) (upI M 1 0 (nI 0)) M2 → D_X11_hangs N 1 (nI p) (nI o) (nI r) (nI k) M = D_X11_answer N 1 ((shr (nI x) (nI r)) &&& (nI 1)) M → D_X12_hangs N 137 (nI p) (nI o) (nI r) (nI k) (upI M 1 0 (nI 0)) = ((ldI 32 144 (nI o) M2).bind fun v1 => (D_X12_has N v1 (nI r) M2).bind fun q7 => (if q7 = nI 0 then D_X12_gives N 137 (nI 0) M2 else D_X12_gives N 137 (nI 1) M2)) → QOK M (D_X11_hangs N 1 (nI p) (nI o) (nI r) (nI k) M) (D_X12_hangs N 137 (nI p) (nI o) (nI r) (nI k)) := fun x M2 hx hM f hX hY => by
              rw [bitI hx hr] at hX
              refine QOK.ans (v := bI (x.testBit r)) N I0 FX.refl hX f ?_
              rw [hY, ldI_n ho (by omega), hM, Option.bind_some, r_has N _ hx hr, Option.bind_some]
              cases x.testBit r
              · rw [if_pos bI_f]; rfl
              · rw [if_neg (show ¬ bI true = nI 0 from z10)]; rfl
            rcases (show k = 0 ∨ k = 1 ∨ k = 2 by omega) with z | z | z <;> subst z
            · rw [if_neg (show ¬ nI 0 = nI 2 by decide), if_pos rfl, pk_mul, nI_add, ldI_n (by omega) (by omega), Gi.2.2.1.a 12 _ (by omega), Option.bind_some, Option.bind_some] at x1
              obtain ⟨M2, b1, b2, b3⟩ := r_laysRules N (by omega) hp (K (nI 0)).2.2.2.1
              have m := b2 o ho
              rw [Nat.zero_add] at m
              refine an (G.i 12 (32 * p + o)) M2 (Nat.lt_of_lt_of_le (Gi.1.ak_lt hp ho) (Nat.pow_le_pow_right (by decide) (by omega))) m (b3.mono fun b j z => by unfold P4 at z; unfold PQ; omega) x1 ?_
              rw [y2, if_neg (show ¬ nI 0 = nI 2 by decide), if_pos rfl, b1, Option.bind_some, Option.bind_some]
            · have m0 := Gi.hh.2.1 p hp o (by omega)
              rw [if_neg (show ¬ nI 1 = nI 2 by decide), if_neg z10, if_pos rfl, pk_mul, nI_add, ldI_n (by omega) (by omega), m0, Option.bind_some, Option.bind_some] at x1
              obtain ⟨M2, b1, b2, b3⟩ := r_laysClosed N (by omega) A8 hp (K (nI 0)).2.2.2.1 (K (nI 0)).ri.2
              have m := b2 o ho
              rw [Nat.zero_add] at m
              refine an (iC G A p o) M2 ((iC_sq Gi.1 A8 hp).lt (by omega) o) m (b3.mono fun b j z => by unfold P4 at z; unfold PQ; omega) x1 ?_
              rw [y2, if_neg (show ¬ nI 1 = nI 2 by decide), if_neg z10, if_pos rfl, b1, Option.bind_some, Option.bind_some]
            · obtain ⟨bf, q1, q2⟩ := loop_fit N Gi hp N 0 (Nat.zero_le _) (by omega) (fun j hj => by omega)
              have q1 : D_X5_fit N 15 g (nI p) M = _ := q1
              obtain ⟨bs, r1, r2⟩ := loop_selfIn N (by omega) (K (nI 0)) hp N 0 (Nat.zero_le _) (by omega) (fun j hj => by omega)
              have r1 : D_X12_isSelfIn N 137 (nI p) _ = _ := r1
              rw [if_pos rfl, q1, Option.bind_some] at x1
              cases bf
              · rw [if_pos bI_f] at x1
                obtain ⟨bs', r1', r2'⟩ := loop_selfIn N (by omega) (K (nI 7)) hp N 0 (Nat.zero_le _) (by omega) (fun j hj => by omega)
                have r1' : D_X12_isSelfIn N 137 (nI p) _ = _ := r1'
                have bt : bs' = true := by
                  cases u : bs'
                  · exact absurd (q2.2 (r2'.1 u)) (by decide)
                  · rfl
                refine QOK.ref (v := nI 7) N I0 FX.refl x1 FX.refl ?_
                rw [y2, if_pos rfl, r1', Option.bind_some, bt, if_neg (show ¬ bI true = nI 0 from z10)]
              · have no := q2.1 rfl
                have m0 := Gi.pl.2.1 p hp o (by omega)
                rw [if_neg (show ¬ bI true = nI 0 from z10), if_neg (show ¬ nI 2 = nI 0 by decide), if_neg (show ¬ nI 2 = nI 1 by decide), pk_mul, nI_add, ldI_n (by omega) (by omega), m0, Option.bind_some, Option.bind_some] at x1
                obtain ⟨M2, b1, b2, b3⟩ := r_laysOrdered N (by omega) Gi.hi hp no (K (nI 0)).ri
                have m := b2 o ho
                rw [Nat.zero_add] at m
                refine an (wdC G A p o) M2 ((wdC_sq Gi.1 A8 hp).lt (by omega) o) m (b3.mono fun b j z => PQv z) x1 ?_
                rw [y2, if_pos rfl, r1, Option.bind_some, r2.2 no, if_pos bI_f, if_neg (show ¬ nI 2 = nI 0 by decide), if_neg (show ¬ nI 2 = nI 1 by decide), b1, Option.bind_some, Option.bind_some]
end q
