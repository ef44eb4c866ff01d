-- both sides answer: induced, visit, ordered, circle, plan
theorem f10 {M : Mm} {v : Int32} : FX PQ M (upI M 1 0 v) := FX.I (Or.inl ⟨rfl, rfl⟩)
theorem ifb (b : Bool) : (if bI b = nI 0 then some (nI 0) else some (nI 1) : Option Int32) = some (bI b) := by
  cases b
  · exact if_pos rfl
  · exact if_neg z10
theorem some10 {a : Option Int32} (h : a = some (nI 0)) (h' : a = some (nI 1)) : False := by
  rw [h] at h'; exact z10 (Option.some.inj h').symm
section q
variable {g : Nat} {G : Gr} {A : Nat → Nat} {M : Mm} (N : Nat)
theorem sym_A (x : Int32) (h : GrI g G A M) : (D_X1_hasSymbol N g x M = some (nI 0) ∧ ∀ M', GrI g G A M' → D_X12_isSymbol N 137 x M' = some (nI 0)) ∨ ∃ s, s < G.i 0 0 ∧ x = nI s ∧ D_X1_hasSymbol N g x M = some (nI 1) ∧ ∀ M', GrI g G A M' → D_X12_isSymbol N 137 x M' = some (nI 1) := by
  rcases sym_cases N x h h with ⟨e1, _⟩ | ⟨s, a, b, e1, _⟩
  · refine Or.inl ⟨e1, fun M' h' => ?_⟩
    rcases sym_cases N x h h' with ⟨_, e2⟩ | ⟨_, _, _, e2, _⟩
    · exact e2
    · exact (some10 e1 e2).elim
  · refine Or.inr ⟨s, a, b, e1, fun M' h' => ?_⟩
    rcases sym_cases N x h h' with ⟨e2, _⟩ | ⟨_, _, _, _, e2⟩
    · exact (some10 e2 e1).elim
    · exact e2
theorem prod_A (x : Int32) (h : GrI g G A M) : (D_X1_hasProduction N g x M = some (nI 0) ∧ ∀ M', GrI g G A M' → D_X12_isProduction N 137 x M' = some (nI 0)) ∨ ∃ s, s < G.i 0 1 ∧ x = nI s ∧ D_X1_hasProduction N g x M = some (nI 1) ∧ ∀ M', GrI g G A M' → D_X12_isProduction N 137 x M' = some (nI 1) := by
  rcases prod_cases N x h h with ⟨e1, _⟩ | ⟨s, a, b, e1, _⟩
  · refine Or.inl ⟨e1, fun M' h' => ?_⟩
    rcases prod_cases N x h h' with ⟨_, e2⟩ | ⟨_, _, _, e2, _⟩
    · exact e2
    · exact (some10 e1 e2).elim
  · refine Or.inr ⟨s, a, b, e1, fun M' h' => ?_⟩
    rcases prod_cases N x h h' with ⟨e2, _⟩ | ⟨_, _, _, _, e2⟩
    · exact (some10 e2 e1).elim
    · exact e2
theorem att_A (x y : Int32) (h : GrI g G A M) : (D_X1_hasAttribute N g x y M = some (nI 0) ∧ ∀ M', GrI g G A M' → D_X12_isAttribute N 137 x y M' = some (nI 0)) ∨ ∃ s a, s < G.i 0 0 ∧ a < att G s ∧ a < 8 ∧ x = nI s ∧ y = nI a ∧ D_X1_hasAttribute N g x y M = some (nI 1) ∧ ∀ M', GrI g G A M' → D_X12_isAttribute N 137 x y M' = some (nI 1) := by
  rcases att_cases N x y h h with ⟨e1, _⟩ | ⟨s, a, a1, a2, a3, b, c, e1, _⟩
  · refine Or.inl ⟨e1, fun M' h' => ?_⟩
    rcases att_cases N x y h h' with ⟨_, e2⟩ | ⟨_, _, _, _, _, _, _, e2, _⟩
    · exact e2
    · exact (some10 e1 e2).elim
  · refine Or.inr ⟨s, a, a1, a2, a3, b, c, e1, fun M' h' => ?_⟩
    rcases att_cases N x y h h' with ⟨e2, _⟩ | ⟨_, _, _, _, _, _, _, _, e2⟩
    · exact (some10 e2 e1).elim
    · exact e2
theorem occ_A {p : Nat} (y : Int32) (hp : p < G.i 0 1) (h : GrI g G A M) : (D_X1_hasOcc N g (nI p) y M = some (nI 0) ∧ ∀ M', GrI g G A M' → D_X12_isOcc N 137 (nI p) y M' = some (nI 0)) ∨ ∃ o, o < 32 ∧ (G.i 8 p).testBit o = true ∧ y = nI o ∧ D_X1_hasOcc N g (nI p) y M = some (nI 1) ∧ ∀ M', GrI g G A M' → D_X12_isOcc N 137 (nI p) y M' = some (nI 1) := by
  rcases occ_cases N y hp h h with ⟨e1, _⟩ | ⟨s, a, a2, b, e1, _⟩
  · refine Or.inl ⟨e1, fun M' h' => ?_⟩
    rcases occ_cases N y hp h h' with ⟨_, e2⟩ | ⟨_, _, _, _, e2, _⟩
    · exact e2
    · exact (some10 e1 e2).elim
  · refine Or.inr ⟨s, a, a2, b, e1, fun M' h' => ?_⟩
    rcases occ_cases N y hp h h' with ⟨e2, _⟩ | ⟨_, _, _, _, _, e2⟩
    · exact (some10 e2 e1).elim
    · exact e2
end q
section q
variable {M : Mm} (N : Nat)
theorem GrI.ri {g : Nat} {G : Gr} {A : Nat → Nat} (h : GrI g G A M) : RI' G A M := ⟨h.2.2.2.1, h.2.2.2.2.2.2.2.2⟩
theorem GrI.hi {g : Nat} {G : Gr} {A : Nat → Nat} (h : GrI g G A M) : Ind G A := h.2.2.2.2.2.1
theorem GrI.pl {g : Nat} {G : Gr} {A : Nat → Nat} (h : GrI g G A M) : PLN G A M := h.2.2.2.2.2.2.2.1
theorem GrI.hh {g : Nat} {G : Gr} {A : Nat → Nat} (h : GrI g G A M) : HH G A M := h.2.2.2.2.2.2.1
theorem GrI.fl {g : Nat} {G : Gr} {A : Nat → Nat} (h : GrI g G A M) : M.1 137 9 = nI 1 := h.2.2.2.2.1
theorem GrI.g0 {g : Nat} {G : Gr} {A : Nat → Nat} (h : GrI g G A M) : ¬ M.1 g 0 = nI 0 := by
  rw [h.2.2.1.f 0, n_eq (by have := h.1.1.1; omega) (by decide)]
  have := h.2.1; omega
theorem q_induced (hN : 20000 < N) (I : INV M) (a b c : Int32) : QOK M (D_X11_induced N 1 a b c M) (D_X12_induced N 137 a b c) := by
  obtain ⟨_, g, g', w, w', q, q', I0⟩ := I
  have R := I0.2.1
  obtain ⟨hg, hw, hq, _⟩ := R.gg
  have rg := R.g
  have ref : ∀ x, D_X1_hasAttribute N g a b M = some x → (x = nI 0 ∨ x = nI 1 ∧ D_X1_hasAttribute N g a c M = some (nI 0)) → D_X11_induced N 1 a b c M = D_X11_refuse N 1 (nI 4) M := fun x h1 h2 => by
    unfold D_X11_induced
    rw [rg, Option.bind_some, h1, Option.bind_some]
    rcases h2 with h2 | ⟨h2, h3⟩
    · rw [if_pos h2, bind_pair]
    · rw [h2, if_neg z10, Option.bind_some, h3, Option.bind_some, if_pos rfl, bind_pair]
  rcases I0.2.2 with n0 | ⟨G, A, Gi, _, _⟩
  · refine QOK.ref (v := nI 4) N I0 FX.refl (ref _ (no_att N a b n0.1) (Or.inl rfl)) FX.refl ?_
    unfold D_X12_induced
    rw [rno_att N a b (n0.q hg hw f10).2.2.1, Option.bind_some]
    simp only [jn]
    rw [if_pos trivial, bind_pair]
  · have A8 := Gi.hi.ok Gi.1
    rcases att_A N a b Gi with ⟨e1, e2⟩ | ⟨s, i, hs, hi, i8, rfl, rfl, e1, e2⟩
    · refine QOK.ref (v := nI 4) N I0 FX.refl (ref _ e1 (Or.inl rfl)) FX.refl ?_
      unfold D_X12_induced
      rw [e2 _ (Gi.q hg f10), Option.bind_some]
      simp only [jn]
      rw [if_pos trivial, bind_pair]
    · rcases att_A N (nI s) c Gi with ⟨e3, e4⟩ | ⟨s', k, hs', hk, k8, es, rfl, e3, e4⟩
      · refine QOK.ref (v := nI 4) N I0 FX.refl (ref _ e1 (Or.inr ⟨rfl, e3⟩)) FX.refl ?_
        unfold D_X12_induced
        rw [e2 _ (Gi.q hg f10), Option.bind_some]
        simp only [jn]
        rw [if_neg z10, e4 _ (Gi.q hg f10), Option.bind_some, if_pos rfl, bind_pair]
      · have n8 := Gi.1.1.1
        have h10 : M.1 10 (8 * s + i) = nI (A (8 * s + i)) := by
          have := Gi.hh.1 (8 * s + i) (by omega)
          rwa [Nat.zero_add] at this
        have h143 : (upI M 1 0 (nI 0)).1 143 (8 * s + i) = nI (A (8 * s + i)) := by
          have := (Gi.q hg f10 : GrI g G A (upI M 1 0 (nI 0))).ri.2 (8 * s + i) (by omega)
          rwa [Nat.zero_add] at this
        have a256 := A8.2.1 (8 * s + i)
        refine QOK.ans (v := bI ((A (8 * s + i)).testBit k)) N I0 FX.refl ?_ FX.refl ?_
        · unfold D_X11_induced
          rw [rg, Option.bind_some, e1, Option.bind_some, if_neg z10, Option.bind_some, e3, Option.bind_some, if_neg z10, pk_mul, nI_add, show (1 : Nat) + 8 + 1 = 10 from rfl, ldI_n (by omega) (by omega), h10, Option.bind_some, bitI (by omega) (by omega), bind_pair]
        · unfold D_X12_induced
          rw [e2 _ (Gi.q hg f10), Option.bind_some]
          simp only [jn]
          rw [if_neg z10, e4 _ (Gi.q hg f10), Option.bind_some, if_neg z10, pk_mul, nI_add, show (137 : Nat) + 6 = 143 from rfl, ldI_n (by omega) (by omega), h143, Option.bind_some, r_has N _ (by omega) (by omega), Option.bind_some, ifb, Option.bind_some, bind_pair]
theorem q_visit (hN : 20000 < N) (I : INV M) (a b : Int32) : QOK M (D_X11_visit N 1 a b M) (D_X12_visit N 137 a b) := by
  obtain ⟨_, g, g', w, w', q, q', I0⟩ := I
  have R := I0.2.1
  obtain ⟨hg, hw, hq, _⟩ := R.gg
  have rg := R.g
  rcases I0.2.2 with n0 | ⟨G, A, Gi, _, _⟩
  · refine QOK.ref (v := nI 4) N I0 FX.refl ?_ FX.refl ?_
    · unfold D_X11_visit
      rw [rg, Option.bind_some, no_att N a b n0.1, Option.bind_some, if_pos rfl, bind_pair]
    · unfold D_X12_visit
      rw [rno_att N a b (n0.q hg hw f10).2.2.1, Option.bind_some, if_pos rfl, bind_pair]
  · rcases att_A N a b Gi with ⟨e1, e2⟩ | ⟨s, i, hs, hi, i8, rfl, rfl, e1, e2⟩
    · refine QOK.ref (v := nI 4) N I0 FX.refl ?_ FX.refl ?_
      · unfold D_X11_visit
        rw [rg, Option.bind_some, e1, Option.bind_some, if_pos rfl, bind_pair]
      · unfold D_X12_visit
        rw [e2 _ (Gi.q hg f10), Option.bind_some, if_pos rfl, bind_pair]
    · have n8 := Gi.1.1.1
      have A8 := Gi.hi.ok Gi.1
      have cb := cnV_0 Gi.1 Gi.hi hs
      obtain ⟨p1, p2⟩ := Gi.pl.1 s hs
      have x1 : D_X11_visit N 1 (nI s) (nI i) M = if nI (cnV G A s) = nI 0 then D_X11_refuse N 1 (nI 7) M else D_X11_answer N 1 (M.1 17 (8 * s + i)) M := by
        unfold D_X11_visit
        rw [rg, Option.bind_some, e1, Option.bind_some, if_neg z10, show (1 : Nat) + 14 + 1 = 16 from rfl, ldI_n (by omega) (by omega), p1, Option.bind_some, pk_mul, nI_add, show (1 : Nat) + 14 + 2 = 17 from rfl, ldI_n (by omega) (by omega), Option.bind_some, bind_pair, bind_pair]
      simp only [n_eq (show cnV G A s < 2 ^ 31 by omega) (show 0 < 2 ^ 31 by decide)] at x1
      cases c : slf G A s
      · rw [if_neg (fun z => by rw [cb.1.1 z] at c; exact absurd c (by decide)), p2 c i hi] at x1
        have K := Gi.q hg (f10 (v := nI 0))
        obtain ⟨M2, v1, v2, v3, v4⟩ := r_laysVisits N (by omega) K.ri A8 hs (Gi.hi.ac Gi.1 hs c)
        refine QOK.ans (v := nI (vW G A s i)) (M2 := M2) N I0 FX.refl x1 (v4.mono fun b j z => by unfold PVs at z; unfold PQ; omega) ?_
        unfold D_X12_visit
        rw [e2 _ K, Option.bind_some, if_neg z10, r_isSelf N (by omega) K.ri A8 hs, c, Option.bind_some, if_pos bI_f, v1, Option.bind_some, pk_mul, nI_add, show (137 : Nat) + 12 = 149 from rfl, ldI_n (by omega) (by omega), v2 i hi, Option.bind_some, bind_pair]
      · rw [if_pos (cb.1.2 c)] at x1
        have K := Gi.q hg (f10 (v := nI 7))
        refine QOK.ref (v := nI 7) N I0 FX.refl x1 FX.refl ?_
        unfold D_X12_visit
        rw [e2 _ K, Option.bind_some, if_neg z10, r_isSelf N (by omega) K.ri A8 hs, c, Option.bind_some, if_neg (show ¬ bI true = nI 0 from z10), bind_pair]
end q
