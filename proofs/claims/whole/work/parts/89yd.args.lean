-- symbols, productions, attributes, occs asked
theorem RfI.g {g g' w w' q q' : Nat} {M : Mm} (h : RfI g g' w w' q q' M) : rf M 1 11 1 = some g := by
  obtain ⟨⟨a, _, b⟩, _⟩ := h
  unfold rf
  rw [a]
  rcases b with ⟨e, _⟩ | ⟨e, _⟩ <;> subst e <;> rfl
theorem RfI.w {g g' w w' q q' : Nat} {M : Mm} (h : RfI g g' w w' q q' M) : rf M 1 13 8 = some w := by
  obtain ⟨_, ⟨a, _, b⟩, _⟩ := h
  unfold rf
  rw [a]
  rcases b with ⟨e, _⟩ | ⟨e, _⟩ <;> subst e <;> rfl
theorem RfI.q {g g' w w' q q' : Nat} {M : Mm} (h : RfI g g' w w' q q' M) : rf M 1 15 10 = some q := by
  obtain ⟨_, _, a, _, b⟩ := h
  unfold rf
  rw [a]
  rcases b with ⟨e, _⟩ | ⟨e, _⟩ <;> subst e <;> rfl
theorem RfI.g' {g g' w w' q q' : Nat} {M : Mm} (h : RfI g g' w w' q q' M) : rf M 1 12 1 = some g' := by
  obtain ⟨⟨_, a, b⟩, _⟩ := h
  unfold rf
  rw [a]
  rcases b with ⟨_, e⟩ | ⟨_, e⟩ <;> subst e <;> rfl
theorem RfI.w' {g g' w w' q q' : Nat} {M : Mm} (h : RfI g g' w w' q q' M) : rf M 1 14 8 = some w' := by
  obtain ⟨_, ⟨_, a, b⟩, _⟩ := h
  unfold rf
  rw [a]
  rcases b with ⟨_, e⟩ | ⟨_, e⟩ <;> subst e <;> rfl
theorem RfI.q' {g g' w w' q q' : Nat} {M : Mm} (h : RfI g g' w w' q q' M) : rf M 1 16 10 = some q' := by
  obtain ⟨_, _, _, a, b⟩ := h
  unfold rf
  rw [a]
  rcases b with ⟨_, e⟩ | ⟨_, e⟩ <;> subst e <;> rfl
theorem n_pm {a : Nat} (h : 1 ≤ a) : nI a - nI 1 = nI (a - 1) := n_sub h
/-- a number below a count, or none -/
theorem below_cases (x : Int32) (n : Nat) (hn : n < 2 ^ 31) : ((x < nI 0 ∨ ¬ x < nI 0 ∧ nI n ≤ x) ∧ ∀ N M, D_X12_isFrom N x (nI 0) (nI n - nI 1) M = some (nI 0)) ∨ ∃ a, a < n ∧ x = nI a ∧ ¬ x < nI 0 ∧ ¬ nI n ≤ x ∧ ∀ N M, D_X12_isFrom N x (nI 0) (nI n - nI 1) M = some (nI 1) := by
  rcases n_cases x with h | ⟨a, ha, rfl⟩
  · refine Or.inl ⟨Or.inl h, fun N M => ?_⟩
    unfold D_X12_isFrom
    simp only [jn, okZ_0]
    rw [if_pos h]
  · have e0 : ¬ nI a < nI 0 := by rw [n_lt ha (by decide)]; omega
    by_cases c : a < n
    · refine Or.inr ⟨a, c, rfl, e0, by rw [n_le hn ha]; omega, fun N M => ?_⟩
      rw [n_pm (by omega)]; exact from_yes N M (by omega) (by omega)
    · refine Or.inl ⟨Or.inr ⟨e0, by rw [n_le hn ha]; omega⟩, fun N M => ?_⟩
      by_cases z : n = 0
      · subst z
        unfold D_X12_isFrom
        simp only [jn, okZ_0]
        rw [if_neg e0, show nI 0 - nI 1 = m1 from rfl]
        simp only [m1_lt_n ha, if_true]
      · rw [n_pm (by omega)]
        exact from_no N M (Or.inr ⟨e0, by rw [n_lt (by omega) ha]; omega⟩)
section q
variable {g : Nat} {G : Gr} {A : Nat → Nat} {M M' : Mm} (N : Nat)
theorem QT.r0 (h : QT G M) : M.1 139 0 = nI (G.i 0 0) ∧ M.1 139 1 = nI (G.i 0 1) ∧ M.1 139 2 = nI (tolds G 1000) := ⟨h.1.1.1, h.1.1.2.1, h.1.1.2.2.1⟩
theorem sym_cases (x : Int32) (h : GrI g G A M) (h' : GrI g G A M') : (D_X1_hasSymbol N g x M = some (nI 0) ∧ D_X12_isSymbol N 137 x M' = some (nI 0)) ∨ ∃ s, s < G.i 0 0 ∧ x = nI s ∧ D_X1_hasSymbol N g x M = some (nI 1) ∧ D_X12_isSymbol N 137 x M' = some (nI 1) := by
  have n8 := h.1.1.1
  unfold D_X1_hasSymbol D_X12_isSymbol
  simp only [jn, okZ_0, okZ_1]
  rw [h.2.2.1.f 0, h'.2.2.2.2.1, if_neg z10, ldI_n (by omega) (by omega), h'.2.2.2.1.r0.1, Option.bind_some]
  rcases below_cases x (G.i 0 0) (by omega) with ⟨a, b⟩ | ⟨s, a, b, c, d, e⟩
  · refine Or.inl ⟨?_, ?_⟩
    · rcases a with a | a
      · rw [if_pos a]
      · rw [if_neg a.1, if_pos a.2]
    · rw [b, Option.bind_some, if_pos rfl]
  · refine Or.inr ⟨s, a, b, ?_, ?_⟩
    · rw [if_neg c, if_neg d]
    · rw [e, Option.bind_some, if_neg z10]
theorem prod_cases (x : Int32) (h : GrI g G A M) (h' : GrI g G A M') : (D_X1_hasProduction N g x M = some (nI 0) ∧ D_X12_isProduction N 137 x M' = some (nI 0)) ∨ ∃ p, p < G.i 0 1 ∧ x = nI p ∧ D_X1_hasProduction N g x M = some (nI 1) ∧ D_X12_isProduction N 137 x M' = some (nI 1) := by
  have n8 := h.1.1.2.1
  unfold D_X1_hasProduction D_X12_isProduction
  simp only [jn, okZ_0, okZ_1]
  rw [h.2.2.1.f 1, h'.2.2.2.2.1, if_neg z10, ldI_n (by omega) (by omega), h'.2.2.2.1.r0.2.1, Option.bind_some]
  rcases below_cases x (G.i 0 1) (by omega) with ⟨a, b⟩ | ⟨s, a, b, c, d, e⟩
  · refine Or.inl ⟨?_, ?_⟩
    · rcases a with a | a
      · rw [if_pos a]
      · rw [if_neg a.1, if_pos a.2]
    · rw [b, Option.bind_some, if_pos rfl]
  · refine Or.inr ⟨s, a, b, ?_, ?_⟩
    · rw [if_neg c, if_neg d]
    · rw [e, Option.bind_some, if_neg z10]
theorem r_attrs {s : Nat} (K : QT G M) (hs : s < G.i 0 0) : D_X12_attributes N 137 (nI s) M = some (nI (att G s)) := by
  have h8 := K.2.1.1
  obtain ⟨x1, x2, _⟩ := K.1.2.1 s hs
  unfold D_X12_attributes
  rw [r_attributesIn N len139 (by omega) x1 x2]; rfl
theorem att_cases (x y : Int32) (h : GrI g G A M) (h' : GrI g G A M') : (D_X1_hasAttribute N g x y M = some (nI 0) ∧ D_X12_isAttribute N 137 x y M' = some (nI 0)) ∨ ∃ s a, s < G.i 0 0 ∧ a < att G s ∧ a < 8 ∧ x = nI s ∧ y = nI a ∧ D_X1_hasAttribute N g x y M = some (nI 1) ∧ D_X12_isAttribute N 137 x y M' = some (nI 1) := by
  have n8 := h.1.1.1
  unfold D_X1_hasAttribute D_X12_isAttribute
  rcases sym_cases N x h h' with ⟨e1, e2⟩ | ⟨s, hs, rfl, e1, e2⟩
  · rw [e1, e2]
    exact Or.inl ⟨rfl, rfl⟩
  · have a8 := h.1.att8 hs
    rw [e1, e2, Option.bind_some, Option.bind_some]
    simp only [jn, okZ_0, okZ_1]
    rw [if_neg z10, if_neg z10, r_attrs N h'.2.2.2.1 hs, Option.bind_some, ldI_n (by omega) (by omega), h.2.2.1.a 4 s (by omega), Option.bind_some, ldI_n (by omega) (by omega), h.2.2.1.a 5 s (by omega), Option.bind_some, nI_add]
    rcases below_cases y (att G s) (by omega) with ⟨a, b⟩ | ⟨i, a, b, c, d, e⟩
    · refine Or.inl ⟨?_, ?_⟩
      · rcases a with a | a
        · rw [if_pos a]
        · rw [if_neg a.1]
          exact if_pos a.2
      · rw [b, Option.bind_some, if_pos rfl]
    · refine Or.inr ⟨s, i, hs, a, by omega, rfl, b, ?_, ?_⟩
      · rw [if_neg c]
        exact if_neg d
      · rw [e, Option.bind_some, if_neg z10]
theorem occ_cases {p : Nat} (y : Int32) (hp : p < G.i 0 1) (h : GrI g G A M) (h' : GrI g G A M') : (D_X1_hasOcc N g (nI p) y M = some (nI 0) ∧ D_X12_isOcc N 137 (nI p) y M' = some (nI 0)) ∨ ∃ o, o < 32 ∧ (G.i 8 p).testBit o = true ∧ y = nI o ∧ D_X1_hasOcc N g (nI p) y M = some (nI 1) ∧ D_X12_isOcc N 137 (nI p) y M' = some (nI 1) := by
  have n12 := h.1.1.2.1
  have k := r_isProd N h'.2.2.2.1 h'.2.2.2.2.1 hp
  have sd4 := (h.1.1.2.2.2.2 p hp).2.1
  rcases arg_cases y 31 (by decide) with c | ⟨c1, c2, c3⟩ | ⟨o, ho, rfl, c1, c2⟩
  · refine Or.inl ⟨?_, ?_⟩
    · unfold D_X1_hasOcc
      simp only [jn, okZ_0]
      rw [if_pos c]
    · unfold D_X12_isOcc
      rw [k, Option.bind_some]
      simp only [jn, okZ_0]
      rw [if_neg z10, if_pos c]
  · refine Or.inl ⟨?_, ?_⟩
    · unfold D_X1_hasOcc
      simp only [jn, okZ_0]
      rcases n_cases y with z | ⟨a, ha, rfl⟩
      · exact absurd z c1
      · rw [n_lt (by decide) ha] at c2
        rw [if_neg c1, if_pos (by rw [n_le (by decide) ha]; omega)]
    · unfold D_X12_isOcc
      rw [k, Option.bind_some]
      simp only [jn, okZ_0]
      rcases n_cases y with z | ⟨a, ha, rfl⟩
      · exact absurd z c1
      · rw [n_lt (by decide) ha] at c2
        rw [if_neg z10, if_neg c1, dv_n ha (by decide) (by decide), Option.bind_some, show (137 : Nat) + 2 = 139 from rfl, r_isPosition N len139 h'.2.2.2.1.1 h'.1.1 hp (h'.1.2.1 p hp) (by omega), Option.bind_some, decide_eq_false (by omega), if_pos bI_f]
  · have t32 : G.i 8 p < 2 ^ 32 := lt_of_bits fun i hi => by have := h.1.us_lt hp hi; omega
    have r := r_isOcc N h'.2.2.2.1 h'.2.2.2.2.1 hp (show o < 32 by omega)
    have s : D_X1_hasOcc N g (nI p) (nI o) M = some (bI ((G.i 8 p).testBit o)) := by
      unfold D_X1_hasOcc
      simp only [jn, okZ_0, okZ_1]
      rw [if_neg c1, if_neg (by rw [n_le (by decide) (by omega)]; omega), ldI_n (by omega) (by omega), h.2.2.1.a 8 p (by omega), Option.bind_some, bitI t32 (by omega)]
      simp only [bI_0]
      cases (G.i 8 p).testBit o
      · rw [if_pos rfl]; rfl
      · rw [if_neg (by decide)]; rfl
    cases u : (G.i 8 p).testBit o
    · rw [u] at r s
      exact Or.inl ⟨s, r⟩
    · rw [u] at r s
      exact Or.inr ⟨o, by omega, u, rfl, s, r⟩
end q
section nog
variable {g w : Nat} {M : Mm} (N : Nat)
theorem no_sym (x : Int32) (h0 : M.1 g 0 = nI 0) : D_X1_hasSymbol N g x M = some (nI 0) := by
  unfold D_X1_hasSymbol
  simp only [jn, okZ_0, okZ_1]
  rw [h0]
  rcases n_cases x with h | ⟨a, ha, rfl⟩
  · rw [if_pos h]
  · rw [if_neg (by rw [n_lt ha (by decide)]; omega), if_pos (by rw [n_le (by decide) ha]; omega)]
theorem no_prod (x : Int32) (h0 : M.1 g 1 = nI 0) : D_X1_hasProduction N g x M = some (nI 0) := by
  unfold D_X1_hasProduction
  simp only [jn, okZ_0, okZ_1]
  rw [h0]
  rcases n_cases x with h | ⟨a, ha, rfl⟩
  · rw [if_pos h]
  · rw [if_neg (by rw [n_lt ha (by decide)]; omega), if_pos (by rw [n_le (by decide) ha]; omega)]
theorem no_att (x y : Int32) (h0 : M.1 g 0 = nI 0) : D_X1_hasAttribute N g x y M = some (nI 0) := by
  unfold D_X1_hasAttribute
  rw [no_sym N x h0]; rfl
theorem rno_sym (x : Int32) (h0 : M.1 137 9 = nI 0) : D_X12_isSymbol N 137 x M = some (nI 0) := by
  unfold D_X12_isSymbol
  simp only [jn, okZ_0]
  rw [h0, if_pos rfl]
theorem rno_prod (x : Int32) (h0 : M.1 137 9 = nI 0) : D_X12_isProduction N 137 x M = some (nI 0) := by
  unfold D_X12_isProduction
  simp only [jn, okZ_0]
  rw [h0, if_pos rfl]
theorem rno_att (x y : Int32) (h0 : M.1 137 9 = nI 0) : D_X12_isAttribute N 137 x y M = some (nI 0) := by
  unfold D_X12_isAttribute
  rw [rno_sym N x h0]; rfl
theorem rno_occ (x y : Int32) (h0 : M.1 137 9 = nI 0) : D_X12_isOcc N 137 x y M = some (nI 0) := by
  unfold D_X12_isOcc
  rw [rno_prod N x h0]; rfl
end nog
