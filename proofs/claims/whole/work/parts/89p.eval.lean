-- what a rule makes of values
def opF (o : Nat) (a b : Int32) : Int32 := if o = 0 then a + b else if o = 1 then a - b else if o = 2 then a * b else if o = 3 then a ||| b else if o = 4 then a &&& b else if o = 5 then (if b ≤ a then nI 0 else nI 1) else if o = 6 then mxI a b else mnI a b
/-- one word of code, on a pile (top first) -/
def evL (own : Int32) (ld : Nat → Int32) (v : Nat) (L : List Int32) : List Int32 :=
  if v < 30000 then (if v < 10000 then nI v else if v < 20000 then ld (v - 10000) else own) :: L
  else if v = 40000 then (match L with
    | c2 :: c1 :: c0 :: L' => (if c0 = nI 0 then c2 else c1) :: L'
    | _ => [])
  else match L with
    | b :: a :: L' => opF (v - 30000) a b :: L'
    | _ => []
def evC (cc : Nat → Nat) (own : Int32) (ld : Nat → Int32) : Nat → Nat → List Int32 → List Int32
  | 0, _, L => L
  | n + 1, c, L => evC cc own ld n (c + 1) (evL own ld (cc c) L)
theorem evC_s (cc : Nat → Nat) (own : Int32) (ld : Nat → Int32) (n c : Nat) (L : List Int32) : evC cc own ld (n + 1) c L = evC cc own ld n (c + 1) (evL own ld (cc c) L) := rfl
theorem evL_len {own : Int32} {ld : Nat → Int32} {v m : Nat} {L : List Int32} (h : hst v L.length = some m) : (evL own ld v L).length = m := by
  unfold hst at h
  unfold evL
  by_cases a : v < 30000
  · rw [if_pos a] at h ⊢
    split at h
    · injection h
    · exact absurd h (by simp)
  · rw [if_neg a] at h ⊢
    by_cases b : v = 40000
    · rw [if_pos b] at h ⊢
      split at h
      · rename_i c
        injection h with h
        match L, c with
        | c2 :: c1 :: c0 :: L', _ => rw [← h]; simp
      · exact absurd h (by simp)
    · rw [if_neg b] at h ⊢
      split at h
      · rename_i c
        injection h with h
        match L, c with
        | x :: y :: L', _ => rw [← h]; simp
      · exact absurd h (by simp)
/-- a pile in a row -/
def StR (S : Nat → Int32) : List Int32 → Prop
  | [] => True
  | x :: L => S L.length = x ∧ StR S L
theorem StR.cg {S S' : Nat → Int32} : ∀ {L : List Int32}, StR S L → (∀ j, j < L.length → S' j = S j) → StR S' L
  | [], _, _ => trivial
  | x :: L, h, e => ⟨(e _ (by simp)).trans h.1, h.2.cg fun j hj => e j (by simp; omega)⟩
/-- the words of a rule -/
def VW (ak v : Nat) : Prop := v < 10000 ∨ v = 20000 ∨ (30000 ≤ v ∧ v < 30008) ∨ v = 40000 ∨ ∃ q, q < 32 ∧ v = 10000 + q ∧ ak.testBit q = true
theorem evL_cg {own : Int32} {ld ld' : Nat → Int32} {ak v : Nat} {L : List Int32} (hv : VW ak v) (e : ∀ q, ak.testBit q = true → ld q = ld' q) : evL own ld v L = evL own ld' v L := by
  unfold evL
  rcases hv with h | h | h | h | ⟨q, q1, q2, q3⟩
  · rw [if_pos (by omega), if_pos h, if_pos (by omega), if_pos h]
  · rw [if_pos (by omega), if_neg (by omega), if_neg (by omega), if_pos (by omega), if_neg (by omega), if_neg (by omega)]
  · rw [if_neg (by omega), if_neg (by omega), if_neg (by omega)]
  · rw [if_neg (by omega), if_pos h, if_neg (by omega)]
  · rw [if_pos (by omega), if_neg (by omega), if_pos (by omega), if_pos (by omega), if_neg (by omega), if_pos (by omega), show v - 10000 = q by omega, e q q3]
theorem evC_cg {cc : Nat → Nat} {own : Int32} {ld ld' : Nat → Int32} {ak : Nat} (e : ∀ q, ak.testBit q = true → ld q = ld' q) : ∀ (n c : Nat) (L : List Int32), (∀ j, c ≤ j → j < c + n → VW ak (cc j)) → evC cc own ld n c L = evC cc own ld' n c L
  | 0, _, _, _ => rfl
  | n + 1, c, L, h => by
    rw [evC_s, evC_s, evL_cg (h c (Nat.le_refl _) (by omega)) e]
    exact evC_cg e n (c + 1) _ fun j a b => h j (by omega) (by omega)
def rlT (G : Gr) (t : TR) (i : Nat) : Nat := 32 * tp t (bsT G t i - 1) + ocT G t i
/-- what the rule of an instance makes of values as they are -/
def wkT (G : Gr) (t : TR) (ce : Nat → Nat → Nat) (gv val : Nat → Int32) (i : Nat) : Int32 :=
  if bsT G t i = 0 then gv (i % 8) else (evC (G.i 16) (nI (to' t (bsT G t i - 1))) (fun o => val (inT ce (bsT G t i - 1) o)) (G.i 15 (rlT G t i) - G.i 14 (rlT G t i)) (G.i 14 (rlT G t i)) []).headD (nI 0)
section tok
variable {G : Gr} {t : TR} {ce : Nat → Nat → Nat} {me : Nat → Nat}
/-- a rule's code is told, or there is none -/
theorem rl_code (hq : QG G) (h : TOK2 G t ce me) {i : Nat} (hi : thT G t i) (hb : ¬ bsT G t i = 0) : rlT G t i < 384 ∧ G.i 15 (rlT G t i) ≤ G.i 0 2 ∧ G.i 14 (rlT G t i) ≤ G.i 15 (rlT G t i) ∧ (∀ j, G.i 14 (rlT G t i) ≤ j → j < G.i 15 (rlT G t i) → VW (akT G t i) (G.i 16 j)) ∧ ((hgt (G.i 16) (G.i 14 (rlT G t i)) (G.i 15 (rlT G t i) - G.i 14 (rlT G t i)) 0 = some 1) ∨ (G.i 14 (rlT G t i) = G.i 15 (rlT G t i))) := by
  obtain ⟨o1, o2, o3, o4⟩ := oc_own hq h hi hb
  have pk := (h.1.2.1 _ o1).1
  have hnp := hq.np
  have r384 : rlT G t i < 384 := by unfold rlT; omega
  refine ⟨r384, ?_⟩
  cases x : tdB G (rlT G t i)
  · obtain ⟨z1, z2, z3, z4⟩ := hq.2.2.2.1 (rlT G t i) (Or.inr x) r384
    rw [z1, z2]
    exact ⟨Nat.zero_le _, Nat.le_refl _, fun j a b => by omega, Or.inr rfl⟩
  · obtain ⟨u1, u2, u3, u4, u5, u6, u7⟩ := (hq.2.2.2.2 _ pk).1 _ o2 x
    have ea : akT G t i = G.i 12 (rlT G t i) := by unfold akT rlT; rw [if_neg hb]
    rw [ea]
    exact ⟨u3, u2, u5, Or.inl u4⟩
theorem wk_cg (hq : QG G) (h : TOK2 G t ce me) {gv val val' : Nat → Int32} {i : Nat} (hi : thT G t i) (e : ∀ j, nrT G t ce i j → val j = val' j) : wkT G t ce gv val i = wkT G t ce gv val' i := by
  unfold wkT
  by_cases hb : bsT G t i = 0
  · rw [if_pos hb, if_pos hb]
  · obtain ⟨r1, r2, r3, r4, r5⟩ := rl_code hq h hi hb
    rw [if_neg hb, if_neg hb, evC_cg (ak := akT G t i) (fun q hq' => e _ ⟨q, tb_lt (akT_lt hq h hi) hq', hq', rfl⟩) _ _ _ (fun j a b => r4 j a (by omega))]
/-- the class's work: where its tree and grammar are, and what it has of the tree -/
def WQ (q w g : Nat) (M : Mm) : Prop := M.2.2 q 5 = w ∧ M.2.2 q 6 = g
theorem WQ.w {q w g : Nat} {M : Mm} (hw : w = 69 ∨ w = 87) (h : WQ q w g M) : rf M q 5 8 = some w := by unfold rf; rw [h.1]; rcases hw with e | e <;> subst e <;> rfl
theorem WQ.g {q w g : Nat} {M : Mm} (hg : g = 35 ∨ g = 52) (h : WQ q w g M) : rf M q 6 1 = some g := by unfold rf; rw [h.2]; rcases hg with e | e <;> subst e <;> rfl
theorem s_join {o : Nat} {a b : Int32} (N : Nat) (M : Mm) (ho : o < 8) : D_X10_join N (nI o) a b M = some (opF o a b) := by
  unfold D_X10_join opF
  simp only [n_eq (show o < 2 ^ 31 by omega) (show 0 < 2 ^ 31 by omega), n_eq (show o < 2 ^ 31 by omega) (show 1 < 2 ^ 31 by omega), n_eq (show o < 2 ^ 31 by omega) (show 2 < 2 ^ 31 by omega), n_eq (show o < 2 ^ 31 by omega) (show 3 < 2 ^ 31 by omega), n_eq (show o < 2 ^ 31 by omega) (show 4 < 2 ^ 31 by omega), n_eq (show o < 2 ^ 31 by omega) (show 5 < 2 ^ 31 by omega), n_eq (show o < 2 ^ 31 by omega) (show 6 < 2 ^ 31 by omega)]
  split
  · rfl
  · split
    · rfl
    · split
      · rfl
      · split
        · rfl
        · split
          · rfl
          · split
            · split <;> rfl
            · split <;> rfl
theorem s_load {q w g k v i : Nat} {M : Mm} (N : Nat) (hq : QG G) (h : TOK2 G t ce me) (hw : w = 69 ∨ w = 87) (W : WQ q w g M) (C : CT w G t M) (L : CLk w G t ce me M) (hi : thT G t i) (hk : k = bsT G t i - 1) (hb : ¬ bsT G t i = 0) (hv : VW (akT G t i) v) (h3 : v < 30000) : D_X10_load N q (nI k) (nI v) M = some (if v < 10000 then nI v else if v < 20000 then M.1 (q + 12) (inT ce k (v - 10000)) else nI (to' t k)) := by
  have h40 := h.2.2.2.1
  obtain ⟨o1, o2, o3, o4⟩ := oc_own hq h hi hb
  unfold D_X10_load
  simp only [n_eq (show v < 2 ^ 31 by omega) (show 20000 < 2 ^ 31 by omega), n_le (show 10000 < 2 ^ 31 by omega) (show v < 2 ^ 31 by omega)]
  rcases hv with z | z | z | z | ⟨x, x1, x2, x3⟩
  · rw [if_neg (by omega), if_neg (by omega), if_pos z]
  · have cn := C.2 k (by omega)
    rw [if_pos z, if_neg (by omega), if_neg (by omega), W.w hw, Option.bind_some, ldI_n (by omega) (by omega), cn.2.1]; rfl
  · omega
  · omega
  · obtain ⟨b1, b2, b3, b4, b5⟩ := ak_told hq h hi x3
    rw [← hk] at b2 b4
    obtain ⟨s1, s2⟩ := in_us hq h.1 b2 b4
    have s3 := (th_320 h s2).2
    rw [if_neg (by omega), if_pos (by omega), if_neg (by omega), if_pos (by omega), W.w hw, Option.bind_some, n_sub (by omega), show v - 10000 = x by omega, s_instance N hq h L b2 x1 s1, Option.bind_some, ldI_n s3 (by omega)]; rfl
theorem loop_reckon {q w g i : Nat} (N : Nat) (hN : 2000 < N) (hq : QG G) (h : TOK2 G t ce me) (hg : g = 35 ∨ g = 52) (hw : w = 69 ∨ w = 87) (hqq : q = 105 ∨ q = 121) (hi : thT G t i) (hb : ¬ bsT G t i = 0) (val : Nat → Int32) : ∀ (n c fu : Nat) (L : List Int32) (M : Mm), c + n = G.i 15 (rlT G t i) → n < fu → G.i 14 (rlT G t i) ≤ c → hgt (G.i 16) c n L.length = some 1 → WQ q w g M → CG g G M → CT w G t M → CLk w G t ce me M → M.1 (q + 12) = val → StR (M.1 (q + 15)) L → L.length ≤ 20 → ∃ M', L_X10_reckon_72 q (nI (rlT G t i)) N (nI (bsT G t i - 1)) fu (nI L.length) (nI c) M = some ((evC (G.i 16) (nI (to' t (bsT G t i - 1))) (fun o => val (inT ce (bsT G t i - 1) o)) n c L).headD (nI 0), M') ∧ FX (fun b _ => b = q + 15) M M'
  | n, c, 0, L, M, h1, h2, _, _, _, _, _, _, _, _, _ => by omega
  | 0, c, fu + 1, L, M, h1, h2, h3, hh, W, K, C, Lk, hv, hS, _ => by
    obtain ⟨r1, r2, r3, r4, r5⟩ := rl_code hq h hi hb
    have nc := hq.1.2.2.1
    have hl : L.length = 1 := by rw [hgt_0] at hh; injection hh
    rw [L_X10_reckon_72, W.g hg, Option.bind_some, ldI_n (by omega) (by omega), K.a 15 _ (by omega), Option.bind_some]
    simp only [n_le (show G.i 15 (rlT G t i) < 2 ^ 31 by omega) (show c < 2 ^ 31 by omega)]
    rw [if_pos (by omega), ldI_n (by omega) (by omega), Option.bind_some]
    refine ⟨M, ?_, FX.refl⟩
    match L, hl, hS with
    | [x], _, hS => show some (M.1 (q + 15) 0, M) = some (x, M); rw [show M.1 (q + 15) 0 = x from hS.1]
  | n + 1, c, fu + 1, L, M, h1, h2, h3, hh, W, K, C, Lk, hv, hS, hl => by
    obtain ⟨r1, r2, r3, r4, r5⟩ := rl_code hq h hi hb
    have nc := hq.1.2.2.1
    have hvw := r4 c h3 (by omega)
    rw [hgt_s] at hh
    cases ht : hst (G.i 16 c) L.length with
    | none => rw [ht] at hh; exact absurd hh (by simp)
    | some m =>
      rw [ht, Option.bind_some] at hh
      have hlen := evL_len (own := nI (to' t (bsT G t i - 1))) (ld := fun o => val (inT ce (bsT G t i - 1) o)) ht
      rw [← hlen] at hh
      have l32 : ∀ n, n ≤ 20 → n ≤ 20 := fun _ z => z
      have m32 : (evL (nI (to' t (bsT G t i - 1))) (fun o => val (inT ce (bsT G t i - 1) o)) (G.i 16 c) L).length ≤ 20 := by
        rw [hlen]
        unfold hst at ht
        split at ht
        · split at ht
          · injection ht; omega
          · exact absurd ht (by simp)
        · split at ht
          · split at ht
            · injection ht; omega
            · exact absurd ht (by simp)
          · split at ht
            · injection ht; omega
            · exact absurd ht (by simp)
      have v40 : G.i 16 c ≤ 40000 := by
        rcases hvw with z | z | z | z | ⟨x, x1, x2, x3⟩ <;> omega
      have go : ∀ (M1 : Mm), FX (fun b _ => b = q + 15) M M1 → StR (M1.1 (q + 15)) (evL (nI (to' t (bsT G t i - 1))) (fun o => val (inT ce (bsT G t i - 1) o)) (G.i 16 c) L) → ∃ M', L_X10_reckon_72 q (nI (rlT G t i)) N (nI (bsT G t i - 1)) fu (nI (evL (nI (to' t (bsT G t i - 1))) (fun o => val (inT ce (bsT G t i - 1) o)) (G.i 16 c) L).length) (nI (c + 1)) M1 = some ((evC (G.i 16) (nI (to' t (bsT G t i - 1))) (fun o => val (inT ce (bsT G t i - 1) o)) (n + 1) c L).headD (nI 0), M') ∧ FX (fun b _ => b = q + 15) M M' := fun M1 f1 s1 => by
        obtain ⟨M', a1, a2⟩ := loop_reckon N hN hq h hg hw hqq hi hb val n (c + 1) fu _ M1 (by omega) (by omega) (by omega) hh ⟨by rw [f1.1]; exact W.1, by rw [f1.1]; exact W.2⟩ (K.fx f1 fun k hk j z => by omega) (C.fx f1 fun k j k1 _ z => by omega) (Lk.fx f1 fun b j z y => by omega) (by rw [← hv]; exact funext fun j => (f1.2 _ _ (fun z => by omega)).1) s1 m32
        exact ⟨M', by rw [a1, evC_s], f1.trans a2⟩
      have ht' := ht
      unfold hst at ht'
      rw [L_X10_reckon_72, W.g hg, Option.bind_some, ldI_n (by omega) (by omega), K.a 15 _ (by omega), Option.bind_some]
      simp only [n_le (show G.i 15 (rlT G t i) < 2 ^ 31 by omega) (show c < 2 ^ 31 by omega)]
      rw [if_neg (by omega), Option.bind_some, ldI_n (by omega) (by omega), K.a 16 _ (by omega), Option.bind_some]
      simp only [jn]
      by_cases c1 : G.i 16 c < 30000
      · rw [if_pos c1] at ht'
        have l33 : L.length < 20 := by
          by_cases z : L.length < 20
          · exact z
          · rw [if_neg z] at ht'; exact absurd ht' (by simp)
        have e1 : evL (nI (to' t (bsT G t i - 1))) (fun o => val (inT ce (bsT G t i - 1) o)) (G.i 16 c) L = (if G.i 16 c < 10000 then nI (G.i 16 c) else if G.i 16 c < 20000 then val (inT ce (bsT G t i - 1) (G.i 16 c - 10000)) else nI (to' t (bsT G t i - 1))) :: L := by unfold evL; rw [if_pos c1]
        rw [e1] at go
        simp only [n_le (show 30000 < 2 ^ 31 by omega) (show G.i 16 c < 2 ^ 31 by omega), n_le (show 20 < 2 ^ 31 by omega) (show L.length < 2 ^ 31 by omega)]
        rw [if_neg (by omega), if_neg (by omega), s_load N hq h hw W C Lk hi rfl hb hvw c1, Option.bind_some, hv, stI_n l33 (by omega), Option.bind_some, Option.bind_some, Option.bind_some, nI_add, nI_add]
        exact go _ (FX.I rfl) ⟨upI_s _ _ _ _, hS.cg fun j hj => by rw [upI_j, if_neg (by omega)]⟩
      · rw [if_neg c1] at ht'
        have n3 : nI 30000 ≤ nI (G.i 16 c) := by rw [n_le (by omega) (by omega)]; omega
        rw [if_pos n3]
        simp only [n_eq (show G.i 16 c < 2 ^ 31 by omega) (show 40000 < 2 ^ 31 by omega)]
        by_cases c2 : G.i 16 c = 40000
        · rw [if_pos c2] at ht'
          have l3 : 3 ≤ L.length := by
            by_cases z : 3 ≤ L.length
            · exact z
            · rw [if_neg z] at ht'; exact absurd ht' (by simp)
          match L, l3, hS, hl, go with
          | x2 :: x1 :: x0 :: L', _, hS, hl, go =>
            have e1 : evL (nI (to' t (bsT G t i - 1))) (fun o => val (inT ce (bsT G t i - 1) o)) (G.i 16 c) (x2 :: x1 :: x0 :: L') = (if x0 = nI 0 then x2 else x1) :: L' := by unfold evL; rw [if_neg c1, if_pos c2]
            rw [e1] at go
            obtain ⟨p2, p1, p0, pr⟩ := hS
            have p2 : M.1 (q + 15) (L'.length + 2) = x2 := p2
            have p1 : M.1 (q + 15) (L'.length + 1) = x1 := p1
            have l30 : L'.length + 3 ≤ 20 := l32 _ hl
            show ∃ M', (if G.i 16 c = 40000 then (if nI (L'.length + 3) < nI 3 then _ else _) else _) = _ ∧ _
            simp only [n_lt (show L'.length + 3 < 2 ^ 31 by omega) (show 3 < 2 ^ 31 by omega)]
            rw [if_pos c2, if_neg (by omega), n_neg (by omega), Option.bind_some, show (x2 :: x1 :: x0 :: L').length - 2 = L'.length + 1 from rfl, n_sub (by omega), Nat.add_sub_cancel, ldI_n (k := L'.length) (by omega) (by omega), p0, Option.bind_some]
            have p188 : (if x0 = nI 0 then ((ldI 20 (q + 15) (nI (L'.length + 1) + nI 1) M).bind fun v13 => (some v13)) else ((ldI 20 (q + 15) (nI (L'.length + 1)) M).bind fun v14 => (some v14))) = some (if x0 = nI 0 then x2 else x1) := by
              by_cases z : x0 = nI 0
              · rw [if_pos z, if_pos z, nI_add, ldI_n (by omega) (by omega), p2]; rfl
              · rw [if_neg z, if_neg z, ldI_n (by omega) (by omega), p1]; rfl
            rw [p188, Option.bind_some, stI_n (by omega) (by omega), Option.bind_some, Option.bind_some, nI_add]
            exact go _ (FX.I rfl) ⟨upI_s _ _ _ _, pr.cg fun j hj => by rw [upI_j, if_neg (by omega)]⟩
        · rw [if_neg c2] at ht'
          have l3 : 2 ≤ L.length := by
            by_cases z : 2 ≤ L.length
            · exact z
            · rw [if_neg z] at ht'; exact absurd ht' (by simp)
          have o8 : 30000 ≤ G.i 16 c ∧ G.i 16 c < 30008 := by
            rcases hvw with z | z | z | z | ⟨x, x1, x2, x3⟩ <;> omega
          match L, l3, hS, hl, go with
          | x1 :: x0 :: L', _, hS, hl, go =>
            have e1 : evL (nI (to' t (bsT G t i - 1))) (fun o => val (inT ce (bsT G t i - 1) o)) (G.i 16 c) (x1 :: x0 :: L') = opF (G.i 16 c - 30000) x0 x1 :: L' := by unfold evL; rw [if_neg c1, if_neg c2]
            rw [e1] at go
            obtain ⟨p1, p0, pr⟩ := hS
            have p1 : M.1 (q + 15) (L'.length + 1) = x1 := p1
            have l30 : L'.length + 2 ≤ 20 := l32 _ hl
            show ∃ M', (if G.i 16 c = 40000 then _ else (if nI (L'.length + 2) < nI 2 then _ else _)) = _ ∧ _
            simp only [n_lt (show L'.length + 2 < 2 ^ 31 by omega) (show 2 < 2 ^ 31 by omega)]
            rw [if_neg c2, if_neg (by omega), n_m1 (by omega), Option.bind_some, show (x1 :: x0 :: L').length - 1 = L'.length + 1 from rfl, n_sub (show 1 ≤ L'.length + 1 by omega), Nat.add_sub_cancel, ldI_n (k := L'.length) (by omega) (by omega), p0, Option.bind_some, ldI_n (k := L'.length + 1) (by omega) (by omega), p1, Option.bind_some, n_sub o8.1, s_join N M (by omega), Option.bind_some, stI_n (by omega) (by omega), Option.bind_some, Option.bind_some, nI_add]
            exact go _ (FX.I rfl) ⟨upI_s _ _ _ _, pr.cg fun j hj => by rw [upI_j, if_neg (by omega)]⟩
end tok
