-- the class reads a tree
/-- what is read before stays -/
def Et (t t' : TR) : Prop := tn t ≤ tn t' ∧ ∀ e, e < tn t → tp t' e = tp t e ∧ tu t' e = tu t e ∧ tq t' e = tq t e ∧ td t' e = td t e ∧ to' t' e = to' t e
theorem Et.refl {t : TR} : Et t t := ⟨Nat.le_refl _, fun _ _ => ⟨rfl, rfl, rfl, rfl, rfl⟩⟩
theorem Et.trans {t t' t'' : TR} (h : Et t t') (h' : Et t' t'') : Et t t'' := ⟨Nat.le_trans h.1 h'.1, fun e he => by
  obtain ⟨a1, a2, a3, a4, a5⟩ := h.2 e he
  obtain ⟨b1, b2, b3, b4, b5⟩ := h'.2 e (Nat.lt_of_lt_of_le he h.1)
  exact ⟨b1.trans a1, b2.trans a2, b3.trans a3, b4.trans a4, b5.trans a5⟩⟩
theorem Et.add {t : TR} {p o u q d : Nat} : Et t (tAdd t p o u q d) := ⟨by rw [tAdd_n]; omega, fun e he => ⟨st1_n (by omega), st1_n (by omega), st1_n (by omega), st1_n (by omega), st1_n (by omega)⟩⟩
theorem pHd_r {T : List Tok} {G : Gr} {st need d u q h : Nat} {t : TR} {y : Nat × TR} (e : pHd T G st need d u q h t = .inr y) : y = (ownA T h, tAdd t (pnI G T h) (ownN T h) u q d) ∧ pnI G T h < G.i 0 1 ∧ d ≤ 12 ∧ st + tn t < 40 ∧ isNm (tk T h) = true := by
  have no : ∀ z, ¬ flT T h z = .inr y := fun z => by unfold flT; exact fun z => nomatch z
  unfold pHd at e
  split at e
  · rename_i c1
    split at e
    · rename_i c2
      split at e
      · exact absurd e (no _)
      · split at e
        · exact absurd e (no _)
        · injection e with e; exact ⟨e.symm, c2, by omega, by omega, c1⟩
    · exact absurd e (no _)
  · exact absurd e (no _)
theorem RTC.back {w : Nat} {Q : Nat → TR → Mm → Prop} {M : Mm} {r : RT} {x : Option (Int32 × Mm)} (h : RTC w Q M r x) : RTC w Q M r (x.bind fun q => retZ q.1 q.2) := by
  cases r with
  | inl e => obtain ⟨M', a, b⟩ := h; exact ⟨M', by rw [a, Option.bind_some, retZ_0], b⟩
  | inr e => obtain ⟨M', a, b⟩ := h; exact ⟨M', by rw [a, Option.bind_some, retZ_1], b⟩
section cls
variable {n : Nat} {T : List Tok} {w g first bh : Nat} {P0 : Int32} {G : Gr} (N : Nat)
theorem KT.row {h : Nat} {t : TR} {M : Mm} (K : KT T w g G first bh P0 h t M) {e : Nat} (he : e < tn t) : first + e < 40 ∧ CN w G (first + e) (tp t e) (to' t e) (uC first P0 (tu t e)) (tq t e) (td t e - 1) M ∧ tp t e < G.i 0 1 := ⟨by have := K.2.2.2.2.1; omega, (K.2.2.2.2.2 e he).1, (K.2.2.2.2.2 e he).2.1⟩
theorem s_child (hN : 2000 < N) (hT : TT n T) (hq : QG G) (hg : g = 35 ∨ g = 52) (hw : w = 69 ∨ w = 87) {h x k : Nat} {t : TR} {M : Mm} (K : KT T w g G first bh P0 h t M) (hx : x < tn t) (k1 : 1 ≤ k) (hk : k < G.i 6 (tp t x)) : RTC w (KT T w g G first bh P0) M (pHd T G (first + bh) (G.i 7 (4 * tp t x + k) + 1) (td t x + 1) (x + 1) k h t) (D_X9_readChild N 8 (nI (first + x)) (nI k) M) := by
  obtain ⟨r1, r2, r3⟩ := K.row hx
  have hsd := hq.sd r3
  have hns := hq.ns
  have hs := hq.sy r3 hk
  unfold D_X9_readChild
  rw [K.g hg, Option.bind_some, K.w hw, Option.bind_some, ldI_n r1 (by omega), r2.1, Option.bind_some, s_side N K.2.1 (by have := hq.np; omega) (by omega), Option.bind_some]
  refine RTC.back ?_
  have := s_hd (u := x + 1) (q := k) (d := td t x + 1) (need := G.i 7 (4 * tp t x + k) + 1) N hN hT hq hg hw (by omega) K (Or.inr ⟨by omega, by omega, rfl⟩) (fun z => by omega)
  unfold uC ndI at this
  rw [if_neg (by omega), if_neg (by omega), show first + (x + 1) - 1 = first + x by omega, Nat.add_sub_cancel] at this
  exact this
theorem s_nextC (hN : 2000 < N) (hT : TT n T) (hq : QG G) (hg : g = 35 ∨ g = 52) (hw : w = 69 ∨ w = 87) {h x k y : Nat} {t : TR} {M : Mm} (K : KT T w g G first bh P0 h t M) (hy : y < tn t) (hu : tu t y = x + 1) (hqy : tq t y = k) (hx : x < tn t) (hk : k + 1 < G.i 6 (tp t x)) : RTC w (KT T w g G first bh P0) M (pHd T G (first + bh) (G.i 7 (4 * tp t x + (k + 1)) + 1) (td t x + 1) (x + 1) (k + 1) h t) (D_X9_readNext N 8 (nI (first + y)) M) := by
  obtain ⟨r1, r2, r3⟩ := K.row hy
  have e3 := r2.2.2.1
  rw [hu] at e3
  unfold uC at e3
  rw [if_neg (by omega), show first + (x + 1) - 1 = first + x by omega] at e3
  unfold D_X9_readNext
  rw [K.w hw, Option.bind_some, ldI_n r1 (by omega), e3, Option.bind_some, Option.bind_some, ldI_n r1 (by omega), r2.2.2.2.1, Option.bind_some, hqy, nI_add]
  exact RTC.back (s_child N hN hT hq hg hw K hx (by omega) hk)
theorem s_isLast (hq : QG G) (hw : w = 69 ∨ w = 87) {h x k y : Nat} {t : TR} {M : Mm} (K : KT T w g G first bh P0 h t M) (hy : y < tn t) (hu : tu t y = x + 1) (hqy : tq t y = k) (hx : x < tn t) (hk : k < G.i 6 (tp t x)) : D_X9_isLast N 8 (nI (first + y)) M = some (bI (decide (k = G.i 6 (tp t x) - 1))) := by
  obtain ⟨r1, r2, r3⟩ := K.row hy
  obtain ⟨q1, q2, q3⟩ := K.row hx
  have hsd := hq.sd q3
  have e3 := r2.2.2.1
  rw [hu] at e3
  unfold uC at e3
  rw [if_neg (by omega), show first + (x + 1) - 1 = first + x by omega] at e3
  unfold D_X9_isLast
  rw [K.w hw, Option.bind_some, ldI_n r1 (by omega), r2.2.2.2.1, Option.bind_some, Option.bind_some, Option.bind_some, ldI_n r1 (by omega), e3, Option.bind_some, ldI_n q1 (by omega), q2.2.2.2.2.2.2.2.2, Option.bind_some, hqy]
  simp only [n_eq (show k < 2 ^ 31 by omega) (show G.i 6 (tp t x) - 1 < 2 ^ 31 by omega)]
  by_cases e : k = G.i 6 (tp t x) - 1
  · rw [if_pos e, decide_eq_true e]; rfl
  · rw [if_neg e, decide_eq_false e]; rfl
end cls
/-- the loop at a node just read -/
def CL (kE : Mm → Option (Int32 × Mm)) (N first x : Nat) (M : Mm) : Option (Int32 × Mm) := L_X9_read_49 kE 8 N (nI first) (N - x) (nI 1) (nI (first + x)) (nI x) M
/-- behind a sign and a child -/
def CA (kE : Mm → Option (Int32 × Mm)) (N first x : Nat) (q : Int32 × Mm) : Option (Int32 × Mm) := (rf q.2 8 2 8).bind fun r3 => (some (((q.2.1 r3 0) - (nI 1)))).bind fun l10_2 => (some (nI x + (nI 1))).bind fun l11_2 => L_X9_read_49 kE 8 N (nI first) (N - (x + 1)) q.1 l10_2 l11_2 q.2
/-- on the way up, when x was the last node read -/
def CU (kE : Mm → Option (Int32 × Mm)) (N first x fu u k : Nat) (M : Mm) : Option (Int32 × Mm) := ((L_X9_climb_5 (nI first) N 8 fu (nI k) (nI u) M).bind fun q5 => some (q5.1, q5.2)).bind fun p99 =>
  (if p99.1 = nI first then kE p99.2 else ((if p99.1 = m1 then some (nI 0, p99.2) else ((rf p99.2 8 0 7).bind fun r4 => (D_X7_takeSign N r4 (nI 44) p99.2).bind fun q2 => (if q2.1 = nI 0 then some (nI 0, q2.2) else ((D_X9_readNext N 8 p99.1 q2.2).bind fun q3 => (if q3.1 = nI 0 then some (nI 0, q3.2) else (some ((nI 1), q3.2))))))).bind (CA kE N first x)))
theorem CA_0 {w : Nat} (kE : Mm → Option (Int32 × Mm)) (N first x : Nat) (hx : x + 1 < N) {M : Mm} (h8 : M.2.2 8 2 = w) (hw : w = 69 ∨ w = 87) : CA kE N first x (nI 0, M) = some (nI 0, M) := by
  have r : rf M 8 2 8 = some w := by unfold rf; rw [h8]; rcases hw with e | e <;> subst e <;> rfl
  unfold CA
  show (rf M 8 2 8).bind _ = _
  rw [r, Option.bind_some, Option.bind_some, Option.bind_some, show N - (x + 1) = (N - (x + 2)) + 1 by omega, L_X9_read_49]
  split
  · exact retZ_0 M
  · rw [if_pos rfl]; exact retZ_0 M
theorem CA_1 {w first bh x h : Nat} {g : Nat} {G : Gr} {P0 : Int32} {T : List Tok} {t : TR} (kE : Mm → Option (Int32 × Mm)) (N : Nat) {M : Mm} (hw : w = 69 ∨ w = 87) (K : KT T w g G first bh P0 h t M) (ht : tn t = x + 2) : CA kE N first x (nI 1, M) = CL kE N first (x + 1) M := by
  unfold CA CL
  show (rf M 8 2 8).bind _ = _
  rw [K.w hw, Option.bind_some]
  show (some (M.1 w 0 - nI 1)).bind _ = _
  rw [K.2.2.2.1, Option.bind_some, n_sub (by omega), Option.bind_some, nI_add, ht, show first + (x + 2) - 1 = first + (x + 1) by omega]
theorem TF.w {w : Nat} {e : Nat × Nat} {M M' : Mm} (hw : w = 69 ∨ w = 87) (f : TF w e M M') : M'.2.2 8 = M.2.2 8 := (f.2.2.1 8 (by unfold SW SN; omega)).2.2
section cls
variable {n : Nat} {T : List Tok} {w g first bh : Nat} {P0 : Int32} {G : Gr} (N : Nat) (kE : Mm → Option (Int32 × Mm))
/-- a node's rest, as the class goes on -/
def OA (kE : Mm → Option (Int32 × Mm)) (N : Nat) (T : List Tok) (w g : Nat) (G : Gr) (first bh : Nat) (P0 : Int32) (x d : Nat) (t : TR) (M : Mm) (r : RT) (c : Option (Int32 × Mm)) : Prop := match r with
  | .inl e => ∃ M', c = some (nI 0, M') ∧ TF w e M M'
  | .inr y => ∃ M' u fu', c = CU kE N first (tn y.2 - 1) fu' u (first + x) M' ∧ u + d ≤ 12 ∧ fu' + u = N ∧ KT T w g G first bh P0 y.1 y.2 M' ∧ Et t y.2 ∧ x < tn y.2 ∧ Fr (SW w) M M' ∧ M'.1 2 6 = M.1 2 6
theorem OA.pre {x d : Nat} {t t1 : TR} {M M1 : Mm} {r : RT} {c : Option (Int32 × Mm)} (h : Fr (SW w) M M1) (h6 : M1.1 2 6 = M.1 2 6) (ht : Et t t1) (o : OA kE N T w g G first bh P0 x d t1 M1 r c) : OA kE N T w g G first bh P0 x d t M r c := by
  cases r with
  | inl e => obtain ⟨M', a, b⟩ := o; exact ⟨M', a, b.pre h h6⟩
  | inr e => obtain ⟨M', u, fu', a, b, c1, d1, e1, e2, f, f'⟩ := o; exact ⟨M', u, fu', a, b, c1, d1, ht.trans e1, e2, h.trans f, f'.trans h6⟩
/-- a child is read, then all that follows -/
theorem c_child (hw : w = 69 ∨ w = 87) {x d k fu h : Nat} {t : TR} {M : Mm} {X : Option (Int32 × Mm)} {p need : Nat} (rc : Nat → Nat → Nat → Nat → Nat → TR → RT) (tb : TR) (K : KT T w g G first bh P0 h t M) (hN' : tn t + 1 < N)
    (hX : RTC w (KT T w g G first bh P0) M (pHd T G (first + bh) need d (x + 1) k h t) X) (cont : RT → RT)
    (h0 : ∀ e, cont (.inl e) = .inl e)
    (hgo : ∀ h' M', KT T w g G first bh P0 h' (tAdd t (pnI G T h) (ownN T h) (x + 1) k d) M' → d ≤ 12 → pnI G T h < G.i 0 1 → OA kE N T w g G first bh P0 p fu tb M' (cont (pRs T G rc (pnI G T h) d (tn t) h' (tAdd t (pnI G T h) (ownN T h) (x + 1) k d))) (CL kE N first (tn t) M')) (ht1 : 1 ≤ tn t) :
    OA kE N T w g G first bh P0 p fu tb M (cont (bndT (pHd T G (first + bh) need d (x + 1) k h t) fun h' t' => pRs T G rc (pnI G T h) d (tn t) h' t')) ((X.bind fun q3 => (if q3.1 = nI 0 then some (nI 0, q3.2) else (some ((nI 1), q3.2)))).bind (CA kE N first (tn t - 1))) := by
  cases e : pHd T G (first + bh) need d (x + 1) k h t with
  | inl a =>
    rw [e] at hX
    obtain ⟨M', a1, a2⟩ := hX
    show OA kE N T w g G first bh P0 p fu tb M (cont (.inl a)) _
    rw [h0, a1, Option.bind_some, if_pos rfl, Option.bind_some, CA_0 kE N first _ (by omega) (w := w) (by rw [a2.w hw]; exact K.2.2.1.2.2.1) hw]
    exact ⟨M', rfl, a2⟩
  | inr a =>
    rw [e] at hX
    obtain ⟨M', a1, a2, a3, a4⟩ := hX
    obtain ⟨r1, r2, r3, r4, _⟩ := pHd_r e
    subst r1
    show OA kE N T w g G first bh P0 p fu tb M (cont (pRs T G rc (pnI G T h) d (tn t) (ownA T h) (tAdd t (pnI G T h) (ownN T h) (x + 1) k d))) _
    rw [a1, Option.bind_some, if_neg z10, Option.bind_some, CA_1 kE N hw a2 (by rw [tAdd_n]; omega), Nat.sub_add_cancel ht1]
    exact OA.pre N kE a3 a4 Et.refl (hgo _ _ a2 r3 r2)
theorem pKs_l (rc : Nat → Nat → Nat → Nat → Nat → TR → RT) (p d x : Nat) : ∀ (m k : Nat) (e : Nat × Nat), pKs T G rc p d x m k (.inl e) = .inl e
  | 0, _, _ => rfl
  | _ + 1, _, _ => rfl
theorem CL_leaf {h x : Nat} {t : TR} {M : Mm} (N : Nat) (hw : w = 69 ∨ w = 87) (kE : Mm → Option (Int32 × Mm)) (K : KT T w g G first bh P0 h t M) (hx : x < tn t) (hN : 2000 < N) (hx40 : x < 40) (h0 : G.i 6 (tp t x) - 1 = 0) : CL kE N first x M = CU kE N first x N 0 (first + x) M := by
  obtain ⟨r1, r2, r3⟩ := K.row hx
  unfold CL
  rw [show N - x = (N - (x + 1)) + 1 by omega, L_X9_read_49]
  simp only [n_lt (show 40 < 2 ^ 31 by omega) (show x < 2 ^ 31 by omega)]
  rw [if_neg (by omega), if_neg z10, K.w hw, Option.bind_some, ldI_n r1 (by omega), r2.2.2.2.2.2.2.2.2, h0, Option.bind_some, if_pos (show nI 0 ≤ nI 0 by decide +kernel), Option.bind_some, if_pos rfl]
  unfold CU CA D_X9_climb
  simp only [jn, eq_self, if_true, Option.bind_some]
theorem CL_kids {h x : Nat} {t : TR} {M : Mm} (N : Nat) (hw : w = 69 ∨ w = 87) (kE : Mm → Option (Int32 × Mm)) (K : KT T w g G first bh P0 h t M) (hx : x < tn t) (hN : 2000 < N) (hx40 : x < 40) (h0 : ¬ G.i 6 (tp t x) - 1 = 0) (h4 : G.i 6 (tp t x) ≤ 4) : CL kE N first x M = ((D_X7_takeSign N 2 (nI 40) M).bind fun q2 => (if q2.1 = nI 0 then some (nI 0, q2.2) else ((D_X9_readChild N 8 (nI (first + x)) (nI 1) q2.2).bind fun q3 => (if q3.1 = nI 0 then some (nI 0, q3.2) else (some ((nI 1), q3.2)))))).bind (CA kE N first x) := by
  obtain ⟨r1, r2, r3⟩ := K.row hx
  unfold CL
  rw [show N - x = (N - (x + 1)) + 1 by omega, L_X9_read_49]
  simp only [n_lt (show 40 < 2 ^ 31 by omega) (show x < 2 ^ 31 by omega)]
  rw [if_neg (by omega), if_neg z10, K.w hw, Option.bind_some, ldI_n r1 (by omega), r2.2.2.2.2.2.2.2.2, Option.bind_some]
  have e0 : ¬ nI (G.i 6 (tp t x) - 1) ≤ nI 0 := by
    rw [n_le (by omega) (by omega)]; omega
  rw [if_neg e0, Option.bind_some, if_neg z10, Option.bind_some]
  simp only [jn]
  rw [if_neg z10, if_neg (n_ne_m1 (by omega)), K.t, Option.bind_some, if_neg z10, Option.bind_some]
  have : ∀ A B : Option (Int32 × Mm), A = B → (if nI (first + x) = nI first then A else A) = B := fun A B e => by rw [ite_self]; exact e
  refine this _ _ ?_
  simp only [if_neg z10]
  rfl
theorem c_rest (hN : 2000 < N) (hT : TT n T) (hq : QG G) (hg : g = 35 ∨ g = 52) (hw : w = 69 ∨ w = 87) : ∀ (fu d x h : Nat) (t : TR) (M : Mm), 14 ≤ fu + d + 1 → d ≤ 12 → tn t = x + 1 → td t x = d → KT T w g G first bh P0 h t M → OA kE N T w g G first bh P0 x d t M (pRs T G (pNd T G (first + bh) fu) (tp t x) d x h t) (CL kE N first x M)
  | 0, d, x, h, t, M, h1, h2, _, _, _ => by omega
  | fu + 1, d, x, h, t, M, h1, h2, ht, hd, K => by
    obtain ⟨r1, r2, r3⟩ := K.row (show x < tn t by omega)
    have hsd := hq.sd r3
    have hx40 : first + x < 40 := r1
    have ech := r2.2.2.2.2.2.2.2.2
    -- all kids behind the k-th
    have B : ∀ (m k y h : Nat) (t' : TR) (M' : Mm) (u fu' : Nat), m + k + 1 = G.i 6 (tp t x) → 1 ≤ k → Et t t' → y < tn t' → tu t' y = x + 1 → tq t' y = k → ¬ y = 0 → u + (d + 1) ≤ 12 → fu' + u = N → KT T w g G first bh P0 h t' M' →
        OA kE N T w g G first bh P0 x d t M' (bndT (pKs T G (pNd T G (first + bh) (fu + 1)) (tp t x) d x m k (.inr (h, t'))) fun h t => pSignT T 41 h t) (CU kE N first (tn t' - 1) fu' u (first + y) M') := fun m => by
      induction m with
      | zero =>
        intro k y h t' M' u fu' e1 e2 e3 e4 e5 e6 e7 e8 e9 K'
        have ex := e3.2 x (by omega)
        have il := s_isLast N hq hw K' e4 e5 e6 (show x < tn t' by have := e3.1; omega) (by rw [ex.1]; omega)
        have k5 := K'.2.2.2.2.1
        show OA kE N T w g G first bh P0 x d t M' (pSignT T 41 h t') _
        have s := kt_take (c := 41) N hT hg hw (by omega) K'
        unfold CU
        rw [show fu' = (fu' - 1) + 1 by omega, L_X9_climb_5]
        simp only [n_lt (show 12 < 2 ^ 31 by omega) (show u < 2 ^ 31 by omega), n_eq (show first + y < 2 ^ 31 by omega) (show first < 2 ^ 31 by omega)]
        rw [if_neg (by omega), if_neg (by omega), il, Option.bind_some, ex.1, decide_eq_true (show k = G.i 6 (tp t x) - 1 by omega)]
        simp only [bI_0]
        rw [if_neg (by decide), K'.t, Option.bind_some]
        cases e : pSignT T 41 h t' with
        | inl a =>
          rw [e] at s
          obtain ⟨M1, a1, a2⟩ := s
          rw [a1, Option.bind_some, if_pos rfl, Option.bind_some, Option.bind_some, if_neg (m1_ne_n (by omega)), if_pos rfl, Option.bind_some, CA_0 kE N first _ (by omega) (w := w) (by rw [a2.w hw]; exact K'.2.2.1.2.2.1) hw]
          exact ⟨M1, rfl, a2⟩
        | inr a =>
          rw [e] at s
          obtain ⟨M1, a1, a2, a3, a4⟩ := s
          obtain ⟨q1, q2⟩ := pSignT_r e
          subst q1
          obtain ⟨s1, s2, s3⟩ := a2.row e4
          have e3' := s2.2.2.1
          rw [e5] at e3'
          unfold uC at e3'
          rw [if_neg (by omega), show first + (x + 1) - 1 = first + x by omega] at e3'
          rw [a1, Option.bind_some, if_neg z10, a2.w hw, Option.bind_some, ldI_n s1 (by omega), e3', Option.bind_some, Option.bind_some, nI_add]
          exact ⟨M1, u + 1, fu' - 1, rfl, by omega, by omega, a2, e3, by have := e3.1; show x < tn t'; omega, a3, a4⟩
      | succ m ih =>
        intro k y h t' M' u fu' e1 e2 e3 e4 e5 e6 e7 e8 e9 K'
        have ex := e3.2 x (by omega)
        have xt' : x < tn t' := by have := e3.1; omega
        have il := s_isLast N hq hw K' e4 e5 e6 xt' (by rw [ex.1]; omega)
        have k5 := K'.2.2.2.2.1
        have s := kt_take (c := 44) N hT hg hw (by omega) K'
        unfold CU
        rw [show fu' = (fu' - 1) + 1 by omega, L_X9_climb_5]
        simp only [n_lt (show 12 < 2 ^ 31 by omega) (show u < 2 ^ 31 by omega), n_eq (show first + y < 2 ^ 31 by omega) (show first < 2 ^ 31 by omega)]
        rw [if_neg (by omega), if_neg (by omega), il, Option.bind_some, ex.1, decide_eq_false (show ¬ k = G.i 6 (tp t x) - 1 by omega)]
        simp only [bI_0]
        rw [if_pos trivial, Option.bind_some, Option.bind_some]
        simp only [n_eq (show first + y < 2 ^ 31 by omega) (show first < 2 ^ 31 by omega)]
        rw [if_neg (by omega), if_neg (n_ne_m1 (by omega)), K'.t, Option.bind_some]
        show OA kE N T w g G first bh P0 x d t M' (bndT (bndT (pSignT T (if k = 0 then 40 else 44) h t') fun h t1 => pKs T G (pNd T G (first + bh) (fu + 1)) (tp t x) d x m (k + 1) (pNd T G (first + bh) (fu + 1) (G.i 7 (4 * tp t x + k + 1) + 1) (d + 1) (x + 1) (k + 1) h t1)) fun h t => pSignT T 41 h t) _
        rw [if_neg (show ¬ k = 0 by omega)]
        cases e : pSignT T 44 h t' with
        | inl a =>
          rw [e] at s
          obtain ⟨M1, a1, a2⟩ := s
          rw [a1, Option.bind_some, if_pos rfl, Option.bind_some, CA_0 kE N first _ (by omega) (w := w) (by rw [a2.w hw]; exact K'.2.2.1.2.2.1) hw]
          exact ⟨M1, rfl, a2⟩
        | inr a =>
          rw [e] at s
          obtain ⟨M1, a1, a2, a3, a4⟩ := s
          obtain ⟨q1, q2⟩ := pSignT_r e
          subst q1
          have a2 : KT T w g G first bh P0 (adv T h) t' M1 := a2
          rw [a1, Option.bind_some, if_neg z10]
          have sx := s_nextC N hN hT hq hg hw a2 e4 e5 e6 xt' (by rw [ex.1]; omega)
          rw [ex.1, ex.2.2.2.1, hd] at sx
          refine OA.pre N kE a3 a4 Et.refl ?_
          show OA kE N T w g G first bh P0 x d t M1 ((fun r => bndT (pKs T G (pNd T G (first + bh) (fu + 1)) (tp t x) d x m (k + 1) r) fun h t => pSignT T 41 h t) (pNd T G (first + bh) (fu + 1) (G.i 7 (4 * tp t x + (k + 1)) + 1) (d + 1) (x + 1) (k + 1) (adv T h) t')) _
          rw [pNd_s]
          refine c_child N kE hw (pNd T G (first + bh) fu) t a2 (by omega) sx (fun r => bndT (pKs T G (pNd T G (first + bh) (fu + 1)) (tp t x) d x m (k + 1) r) fun h t => pSignT T 41 h t) (fun e => by show bndT (pKs T G _ _ _ _ _ _ (.inl e)) _ = _; rw [pKs_l]; rfl) (fun h' M2 K2 d12 hpn => ?_) (by omega)
          have rest := c_rest hN hT hq hg hw fu (d + 1) (tn t') h' _ M2 (by omega) d12 (tAdd_n ..) (by show st1 (td t') (tn t') (d + 1) (tn t') = _; rw [st1_s]) K2
          have ep : tp (tAdd t' (pnI G T (adv T h)) (ownN T (adv T h)) (x + 1) (k + 1) (d + 1)) (tn t') = pnI G T (adv T h) := st1_s _ _ _
          rw [ep] at rest
          show OA kE N T w g G first bh P0 x d t M2 (bndT (pKs T G (pNd T G (first + bh) (fu + 1)) (tp t x) d x m (k + 1) (pRs T G (pNd T G (first + bh) fu) (pnI G T (adv T h)) (d + 1) (tn t') h' _)) fun h t => pSignT T 41 h t) _
          cases er : pRs T G (pNd T G (first + bh) fu) (pnI G T (adv T h)) (d + 1) (tn t') h' (tAdd t' (pnI G T (adv T h)) (ownN T (adv T h)) (x + 1) (k + 1) (d + 1)) with
          | inl a =>
            rw [er] at rest
            rw [pKs_l]
            exact rest
          | inr a =>
            rw [er] at rest
            obtain ⟨M3, u3, f3, c1, c2, c3, c4, c5, c6, c7, c8⟩ := rest
            rw [c1]
            have ey := c5.2 (tn t') (by rw [tAdd_n]; omega)
            exact OA.pre N kE c7 c8 Et.refl (ih (k + 1) (tn t') a.1 a.2 M3 u3 f3 (by omega) (by omega) (e3.trans (Et.add.trans c5)) c6 (by rw [ey.2.1]; exact st1_s _ _ _) (by rw [ey.2.2.1]; exact st1_s _ _ _) (by omega) (by omega) c3 c4)
    by_cases leaf : G.i 6 (tp t x) = 1
    · have er : pRs T G (pNd T G (first + bh) (fu + 1)) (tp t x) d x h t = .inr (h, t) := by
        unfold pRs
        rw [leaf]
        show (if 1 = 1 then (.inr (h, t) : RT) else pSignT T 41 h t) = .inr (h, t)
        exact if_pos rfl
      rw [er]
      refine ⟨M, 0, N, ?_, by omega, by omega, K, Et.refl, by show x < tn t; omega, Fr.refl, rfl⟩
      rw [show tn t - 1 = x by omega]
      exact CL_leaf N hw kE K (by omega) hN (by omega) (by rw [leaf])
    · have s := kt_take (c := 40) N hT hg hw (by omega) K
      rw [CL_kids N hw kE K (by omega) hN (by omega) (by omega) hsd.2]
      unfold pRs
      obtain ⟨m, hm⟩ : ∃ m, G.i 6 (tp t x) - 1 = m + 1 := ⟨G.i 6 (tp t x) - 2, by omega⟩
      rw [hm]
      show OA kE N T w g G first bh P0 x d t M (bndT (bndT (pSignT T 40 h t) fun h t1 => pKs T G (pNd T G (first + bh) (fu + 1)) (tp t x) d x m 1 (pNd T G (first + bh) (fu + 1) (G.i 7 (4 * tp t x + 0 + 1) + 1) (d + 1) (x + 1) 1 h t1)) fun h t1 => if G.i 6 (tp t x) = 1 then .inr (h, t1) else pSignT T 41 h t1) _
      simp only [leaf, if_false]
      cases e : pSignT T 40 h t with
      | inl a =>
        rw [e] at s
        obtain ⟨M1, a1, a2⟩ := s
        rw [a1, Option.bind_some, if_pos rfl, Option.bind_some, CA_0 kE N first _ (by omega) (w := w) (by rw [a2.w hw]; exact K.2.2.1.2.2.1) hw]
        exact ⟨M1, rfl, a2⟩
      | inr a =>
        rw [e] at s
        obtain ⟨M1, a1, a2, a3, a4⟩ := s
        obtain ⟨q1, q2⟩ := pSignT_r e
        subst q1
        have a2 : KT T w g G first bh P0 (adv T h) t M1 := a2
        rw [a1, Option.bind_some, if_neg z10]
        have sx := s_child (k := 1) N hN hT hq hg hw a2 (show x < tn t by omega) (by omega) (by omega)
        rw [hd] at sx
        refine OA.pre N kE a3 a4 Et.refl ?_
        have e1 : x = tn t - 1 := by omega
        show OA kE N T w g G first bh P0 x d t M1 ((fun r => bndT (pKs T G (pNd T G (first + bh) (fu + 1)) (tp t x) d x m 1 r) fun h t => pSignT T 41 h t) (pNd T G (first + bh) (fu + 1) (G.i 7 (4 * tp t x + 1) + 1) (d + 1) (x + 1) 1 (adv T h) t)) _
        rw [pNd_s]
        have cc := c_child (fu := d) (p := x) N kE hw (pNd T G (first + bh) fu) t a2 (by omega) sx (fun r => bndT (pKs T G (pNd T G (first + bh) (fu + 1)) (tp t x) d x m 1 r) fun h t => pSignT T 41 h t) (fun e => by show bndT (pKs T G _ _ _ _ _ _ (.inl e)) _ = _; rw [pKs_l]; rfl) (fun h' M2 K2 d12 hpn => ?_) (by omega)
        · rw [← e1] at cc; exact cc
        have rest := c_rest hN hT hq hg hw fu (d + 1) (tn t) h' _ M2 (by omega) d12 (tAdd_n ..) (by show st1 (td t) (tn t) (d + 1) (tn t) = _; rw [st1_s]) K2
        have ep : tp (tAdd t (pnI G T (adv T h)) (ownN T (adv T h)) (x + 1) 1 (d + 1)) (tn t) = pnI G T (adv T h) := st1_s _ _ _
        rw [ep] at rest
        show OA kE N T w g G first bh P0 x d t M2 (bndT (pKs T G (pNd T G (first + bh) (fu + 1)) (tp t x) d x m 1 (pRs T G (pNd T G (first + bh) fu) (pnI G T (adv T h)) (d + 1) (tn t) h' _)) fun h t => pSignT T 41 h t) _
        cases er : pRs T G (pNd T G (first + bh) fu) (pnI G T (adv T h)) (d + 1) (tn t) h' (tAdd t (pnI G T (adv T h)) (ownN T (adv T h)) (x + 1) 1 (d + 1)) with
        | inl a =>
          rw [er] at rest
          rw [pKs_l]
          exact rest
        | inr a =>
          rw [er] at rest
          obtain ⟨M3, u3, f3, c1, c2, c3, c4, c5, c6, c7, c8⟩ := rest
          rw [c1]
          have ey := c5.2 (tn t) (by rw [tAdd_n]; omega)
          exact OA.pre N kE c7 c8 Et.refl (B m 1 (tn t) a.1 a.2 M3 u3 f3 (by omega) (by omega) (Et.add.trans c5) c6 (by rw [ey.2.1]; exact st1_s _ _ _) (by rw [ey.2.2.1]; exact st1_s _ _ _) (by omega) (by omega) c3 c4)
end cls
