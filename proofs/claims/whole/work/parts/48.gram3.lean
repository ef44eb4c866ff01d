-- the class's Grammar: codes, clearing
def gAsk (G : Gr) (p o q : Nat) : Gr := sI (sI G 12 (32 * p + o) (G.i 12 (32 * p + o) ||| 2 ^ q)) 13 (32 * p + q) (G.i 13 (32 * p + q) ||| 2 ^ o)
theorem s_addAsk {g p o q : Nat} {G : Gr} {M : Mm} (N : Nat) (C : CG g G M) (hp : p < 12) (ho : o < 32) (hq : q < 32) : ∃ M', D_X1_addAsk N g (nI p) (nI o) (nI q) M = some M' ∧ CG g (gAsk G p o q) M' ∧ FG g M M' := by
  have C1 := C.I 12 (32 * p + o) (G.i 12 (32 * p + o) ||| 2 ^ q)
  have C2 := C1.I 13 (32 * p + q) (G.i 13 (32 * p + q) ||| 2 ^ o)
  unfold D_X1_addAsk
  simp (disch := omega) only [ldI_n, C.a, C1.a, Option.bind_some, nI_add, pk_mul, stI_n, sI_i, Nat.reduceEqDiff, false_and, if_false, n_or, n_shl, Nat.one_mul]
  exact ⟨_, rfl, C2, (FG.I (by omega)).trans (FG.I (by omega))⟩
def gBeg (G : Gr) (p o : Nat) : Gr := sI (sI G 10 p (G.i 10 p ||| 2 ^ o)) 14 (32 * p + o) (G.i 0 2)
theorem s_beginCode {g p o : Nat} {G : Gr} {M : Mm} (N : Nat) (C : CG g G M) (hp : p < 12) (ho : o < 32) : ∃ M', D_X1_beginCode N g (nI p) (nI o) M = some M' ∧ CG g (gBeg G p o) M' ∧ FG g M M' := by
  have C1 := C.I 10 p (G.i 10 p ||| 2 ^ o)
  have C2 := C1.I 14 (32 * p + o) (G.i 0 2)
  unfold D_X1_beginCode
  simp (disch := omega) only [ldI_n, C.a, C1.f, Option.bind_some, nI_add, pk_mul, stI_n, sI_i, Nat.reduceEqDiff, false_and, if_false, n_or, n_shl, Nat.one_mul]
  exact ⟨_, rfl, C2, (FG.I (by omega)).trans (FG.I (by omega))⟩
def gEnd (G : Gr) (p o : Nat) : Gr := sI G 15 (32 * p + o) (G.i 0 2)
theorem s_endCode {g p o : Nat} {G : Gr} {M : Mm} (N : Nat) (C : CG g G M) (hp : p < 12) (ho : o < 32) : ∃ M', D_X1_endCode N g (nI p) (nI o) M = some M' ∧ CG g (gEnd G p o) M' ∧ FG g M M' := by
  unfold D_X1_endCode
  simp (disch := omega) only [C.f, Option.bind_some, nI_add, pk_mul, stI_n]
  exact ⟨_, rfl, C.I 15 (32 * p + o) (G.i 0 2), FG.I (by omega)⟩
def gCod (G : Gr) (v : Nat) : Gr := sI (sI G 16 (G.i 0 2) v) 0 2 (G.i 0 2 + 1)
theorem s_addCode {g v : Nat} {G : Gr} {M : Mm} (N : Nat) (C : CG g G M) (h : G.i 0 2 < 1000) : ∃ M', D_X1_addCode N g (nI v) M = some M' ∧ CG g (gCod G v) M' ∧ FG g M M' := by
  have C1 := C.I 16 (G.i 0 2) v
  have C2 := C1.F 2 (G.i 0 2 + 1)
  unfold D_X1_addCode
  rw [C.f 2, show Int32.ofNat 1000 = nI 1000 from rfl]
  simp (disch := omega) only [n_le]
  rw [if_neg (by omega)]
  simp (disch := omega) only [stI_n, Option.bind_some, C1.f, sI_i, Nat.reduceEqDiff, false_and, if_false, pI_n, nI_add]
  exact ⟨_, rfl, C2, (FG.I (by omega)).trans FG.F⟩
theorem s_side {g p k : Nat} {G : Gr} {M : Mm} (N : Nat) (C : CG g G M) (hp : p < 12) (hk : k < 4) : D_X1_side N g (nI p) (nI k) M = some (nI (G.i 7 (4 * p + k))) := by
  unfold D_X1_side
  simp (disch := omega) only [nI_add, pk_mul, ldI_n, C.a, Option.bind_some]
def sR (G : Gr) (k n : Nat) : Gr := mkG (fun a b => if a = k ∧ b < n then 0 else G.i a b) G.l G.pa G.cp G.co
theorem sR_i (G : Gr) (k n a b : Nat) : (sR G k n).i a b = if a = k ∧ b < n then 0 else G.i a b := rfl
theorem sR_l (G : Gr) (k n : Nat) : (sR G k n).l = G.l := rfl
theorem s_fill {g k n : Nat} {G : Gr} {M : Mm} (N : Nat) (C : CG g G M) (hlen : len (g + k) = n) (hn : n < 2 ^ 31) (hN : n < N) (hk : k ≤ 16) : ∃ M', D_J7_fill_53178 N (g + k) (nI 0) M = some M' ∧ CG g (sR G k n) M' ∧ FG g M M' := by
  refine ⟨_, fill_n N (g + k) (nI 0) M hlen hn hN, fun k' hk' j' => ⟨?_, ?_⟩, fun a ha => ?_, rfl⟩
  · rw [mR1, sR_i]
    by_cases e : k' = k
    · subst e
      rw [if_pos rfl]
      by_cases e2 : j' < n
      · rw [if_pos e2, if_pos ⟨rfl, e2⟩]
      · rw [if_neg e2, if_neg (fun q => e2 q.2)]; exact C.a k' j' hk'
    · rw [if_neg (by omega), if_neg (fun q => e q.1)]; exact C.a k' j' hk'
  · exact C.n k' j' hk'
  · refine ⟨?_, rfl, rfl⟩
    rw [mR1, if_neg (fun e => ha (by rw [e]; exact ⟨by omega, by omega⟩))]
def gClr (G : Gr) : Gr := sR (sR (sR (sR (sI (sI (sI G 0 0 0) 0 1 0) 0 2 0) 12 384) 13 384) 14 384) 15 384
theorem s_clear {g : Nat} {G : Gr} {M : Mm} (N : Nat) (hN : 2000 < N) (C : CG g G M) (hg : g = 35 ∨ g = 52) : ∃ M', D_X1_clear N g M = some M' ∧ CG g (gClr G) M' ∧ FG g M M' := by
  have C3 := ((C.F 0 0).F 1 0).F 2 0
  have l1 : len (g + 12) = 384 := by rcases hg with e | e <;> subst e <;> rfl
  have l2 : len (g + 13) = 384 := by rcases hg with e | e <;> subst e <;> rfl
  have l3 : len (g + 14) = 384 := by rcases hg with e | e <;> subst e <;> rfl
  have l4 : len (g + 15) = 384 := by rcases hg with e | e <;> subst e <;> rfl
  obtain ⟨M4, f4, C4, g4⟩ := s_fill N C3 l1 (by omega) (by omega) (by omega)
  obtain ⟨M5, f5, C5, g5⟩ := s_fill N C4 l2 (by omega) (by omega) (by omega)
  obtain ⟨M6, f6, C6, g6⟩ := s_fill N C5 l3 (by omega) (by omega) (by omega)
  obtain ⟨M7, f7, C7, g7⟩ := s_fill N C6 l4 (by omega) (by omega) (by omega)
  unfold D_X1_clear
  simp only [pI_n, Option.bind_some, f4, f5, f6, f7]
  exact ⟨_, rfl, C7, ((((FG.F.trans FG.F).trans FG.F).trans g4).trans g5).trans (g6.trans g7)⟩
