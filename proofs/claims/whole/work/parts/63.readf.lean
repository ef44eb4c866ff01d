theorem gClr_0 (G : Gr) (j : Nat) (h : j < 3) : (gClr G).i 0 j = 0 := by
  unfold gClr
  simp only [sR_i, sI_i, Nat.reduceEqDiff, false_and, if_false, true_and]
  split
  · rfl
  · split
    · rfl
    · split
      · rfl
      · omega
theorem gClr_k (G : Gr) (k j : Nat) (hk : k = 12 ∨ k = 13 ∨ k = 14 ∨ k = 15) (hj : j < 384) : (gClr G).i k j = 0 := by
  unfold gClr
  simp only [sR_i, hj, and_true]
  rcases hk with e | e | e | e <;> subst e <;> simp only [Nat.reduceEqDiff, if_true, if_false]
theorem gClr_LI {T : List Tok} {G : Gr} (hh : 0 < T.length) (hl : T.length ≤ 1001) : LI T 0 (gClr G) := by
  have a0 := gClr_0 G 0 (by omega)
  have a1 := gClr_0 G 1 (by omega)
  have a2 := gClr_0 G 2 (by omega)
  refine ⟨⟨by omega, by omega, by omega, fun s hs => by omega, fun p hp => by omega⟩, fun p hp => ?_, by omega, hh, hl⟩
  have hp' : p < (gClr G).i 0 1 := hp
  omega
theorem s_read {n : Nat} {T : List Tok} {g : Nat} {M : Mm} (N : Nat) (hN : 2000 < N) (hT : TT n T) (hE : TE T) (hg : g = 35 ∨ g = 52) (hK : TK T 0 M) : ∃ G0 M2, Fr (fun a => a = 7) M M2 ∧ M2.1 = M.1 ∧ RC T g M2 (pRead T G0) (D_X2_read N 7 2 g M) := by
  have fr : Fr (fun a => a = 7) M (upN (upN M 7 0 2) 7 1 g) := (Fr.N (S := fun a => a = 7) rfl).trans (Fr.N (S := fun a => a = 7) rfl)
  obtain ⟨G0, C0, q1, q2, q3⟩ := CG_ex g (upN (upN M 7 0 2) 7 1 g) (M.1 7 4).toBitVec.toNat (M.1 7 2).toBitVec.toNat (M.1 7 3).toBitVec.toNat
  have K0 : KS T 0 g G0 (upN (upN M 7 0 2) 7 1 g) := by
    refine ⟨hK.fr fr (by decide) (by decide) (by decide) (by decide), C0, ?_, ?_, ?_, ?_, ?_⟩
    · rw [upN3, if_pos rfl, if_neg (by decide), upN3, if_pos rfl, if_pos rfl]
    · rw [upN3, if_pos rfl, if_pos rfl]
    · rw [upN1, upN1, q2]; exact n_ofn _
    · rw [upN1, upN1, q3]; exact n_ofn _
    · rw [upN1, upN1, q1]; exact n_ofn _
  obtain ⟨M3, f3, C3, g3⟩ := s_clear N hN C0 hg
  have K3 : KS T 0 g (gClr G0) M3 := K0.G hg C3 g3 rfl rfl rfl
  refine ⟨G0, _, fr, rfl, ?_⟩
  unfold D_X2_read pRead
  rw [pN_n, Option.bind_some, pN_n, Option.bind_some, K0.g hg, Option.bind_some, f3, Option.bind_some]
  refine RC.pre (PF.G hg g3) ?_
  have q := loop_read N hN hT hE hg 1000 N 0 M3 0 (gClr G0) (by omega) (by omega) (gClr_LI hK.2.1 hK.2.2.1) K3
  exact q
theorem pRL_L {n : Nat} {T : List Tok} (hT : TT n T) (hE : TE T) : ∀ (m : Nat) (b : Bool) (h : Nat) (G : Gr) (y : Nat × Gr), LI T h G → pRL T m b h G = .inr y → LI T y.1 y.2
  | 0, b, h, G, y, hI, e => by
    have e' : (Sum.inr (h, G) : RS) = .inr y := e
    injection e' with e'; subst e'; exact hI
  | m + 1, b, h, G, y, hI, e => by
    rw [pRL] at e
    split at e
    · injection e with e; subst e; exact hI
    · obtain ⟨z, a, b'⟩ := bnd_r e
      exact pRL_L hT hE m false z.1 z.2 y (pLine_L hT hE hI a) b'
