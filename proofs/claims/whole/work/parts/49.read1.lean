-- what a reader answers: a fault with its place, or the next token with the grammar
abbrev RS : Type := Sum (Nat × Nat) (Nat × Gr)
def fl (T : List Tok) (h y : Nat) : RS := .inl (if (tk T h).1 = 4 then 1 else y, (tk T h).2.1)
def bnd (r : RS) (f : Nat → Gr → RS) : RS := match r with
  | .inl e => .inl e
  | .inr y => f y.1 y.2
abbrev isWd (T : List Tok) (h v : Nat) : Prop := (tk T h).1 = 1 ∧ (tk T h).2.2.2 = v
abbrev isSn (T : List Tok) (h c : Nat) : Prop := (tk T h).1 = 3 ∧ (tk T h).2.2.2 = c
def pSign (T : List Tok) (c h : Nat) (G : Gr) : RS := if isSn T h c then .inr (adv T h, G) else fl T h 2
-- the reader's memory
def KS (T : List Tok) (h g : Nat) (G : Gr) (M : Mm) : Prop := TK T h M ∧ CG g G M ∧ M.2.2 7 0 = 2 ∧ M.2.2 7 1 = g ∧ M.1 7 2 = nI G.cp ∧ M.1 7 3 = nI G.co ∧ M.1 7 4 = nI G.pa
def SP (g : Nat) : Nat → Prop := fun a => a = 2 ∨ a = 7 ∨ SG g a
def PF (g : Nat) (M M' : Mm) : Prop := Fr (SP g) M M' ∧ M'.2.2 7 = M.2.2 7 ∧ M'.1 2 6 = M.1 2 6
theorem PF.refl {g : Nat} {M : Mm} : PF g M M := ⟨Fr.refl, rfl, rfl⟩
theorem PF.trans {g : Nat} {M M' M'' : Mm} (h : PF g M M') (h' : PF g M' M'') : PF g M M'' := ⟨h.1.trans h'.1, h'.2.1.trans h.2.1, h'.2.2.trans h.2.2⟩
theorem S1_7 : ¬ S1 7 := fun e => absurd (show 7 = 2 from e) (by decide)
theorem PF.T {g : Nat} {M M' : Mm} (h : Fr S1 M M') (h6 : M'.1 2 6 = M.1 2 6) : PF g M M' := ⟨h.mono fun a e => Or.inl e, (h 7 S1_7).2.2, h6⟩
theorem PF.G {g : Nat} {M M' : Mm} (hg : g = 35 ∨ g = 52) (h : FG g M M') : PF g M M' := ⟨h.1.mono fun a e => Or.inr (Or.inr e), by rw [h.2], by rw [(h.1 2 (by rcases hg with e | e <;> subst e <;> unfold SG <;> omega)).1]⟩
theorem PF.R {g f : Nat} {v : Int32} {M : Mm} : PF g M (upI M 7 f v) := ⟨Fr.I (Or.inr (Or.inl rfl)), by rw [up2], by rw [up1, if_neg (by decide)]⟩
theorem TK.fr {T : List Tok} {h : Nat} {S : Nat → Prop} {M M' : Mm} (hT : TK T h M) (hf : Fr S M M') (h2 : ¬ S 2) (h4 : ¬ S 4) (h5 : ¬ S 5) (h6 : ¬ S 6) : TK T h M' := by
  obtain ⟨⟨a1, a2⟩, b1, b2, b3, b4, b5⟩ := hT
  refine ⟨⟨?_, fun j hj => ?_⟩, b1, b2, ?_, ?_, ?_⟩
  · rw [(hf 2 h2).1]; exact a1
  · rw [(hf 4 h4).1, (hf 5 h5).1, (hf 6 h6).2.1]; exact a2 j hj
  · rw [(hf 2 h2).1]; exact b3
  · rw [(hf 2 h2).1]; exact b4
  · rw [(hf 2 h2).2.1]; exact b5
theorem TK.G {T : List Tok} {h g : Nat} {M M' : Mm} (hg : g = 35 ∨ g = 52) (hT : TK T h M) (hf : FG g M M') : TK T h M' :=
  hT.fr hf.1 (by rcases hg with e | e <;> subst e <;> unfold SG <;> omega) (by rcases hg with e | e <;> subst e <;> unfold SG <;> omega) (by rcases hg with e | e <;> subst e <;> unfold SG <;> omega) (by rcases hg with e | e <;> subst e <;> unfold SG <;> omega)
theorem KS.G {T : List Tok} {h g : Nat} {G G' : Gr} {M M' : Mm} (hg : g = 35 ∨ g = 52) (K : KS T h g G M) (hC : CG g G' M') (hf : FG g M M') (h1 : G'.pa = G.pa) (h2 : G'.cp = G.cp) (h3 : G'.co = G.co) : KS T h g G' M' := by
  obtain ⟨k1, k2, k3, k4, k5, k6, k7⟩ := K
  have e7 := hf.1 7 (by rcases hg with e | e <;> subst e <;> unfold SG <;> omega)
  exact ⟨k1.G hg hf, hC, by rw [hf.2]; exact k3, by rw [hf.2]; exact k4, by rw [e7.1, h2]; exact k5, by rw [e7.1, h3]; exact k6, by rw [e7.1, h1]; exact k7⟩
theorem KS.t {T : List Tok} {h g : Nat} {G : Gr} {M : Mm} (K : KS T h g G M) : rf M 7 0 7 = some 2 := by
  unfold rf; rw [K.2.2.1]; rfl
theorem KS.g {T : List Tok} {h g : Nat} {G : Gr} {M : Mm} (hg : g = 35 ∨ g = 52) (K : KS T h g G M) : rf M 7 1 1 = some g := by
  unfold rf; rw [K.2.2.2.1]; rcases hg with e | e <;> subst e <;> rfl
theorem SPn {g a : Nat} (hg : g = 35 ∨ g = 52) (h : a ≤ 34) (h2 : ¬ a = 2) (h7 : ¬ a = 7) : ¬ SP g a := by
  rcases hg with e | e <;> subst e <;> unfold SP SG <;> omega
theorem k_adv {n : Nat} {T : List Tok} {h g : Nat} {G : Gr} {M : Mm} (N : Nat) (hT : TT n T) (hg : g = 35 ∨ g = 52) (K : KS T h g G M) : ∃ M', D_X7_advance N 2 M = some M' ∧ KS T (adv T h) g G M' ∧ PF g M M' := by
  obtain ⟨M', f, t, fr, k2⟩ := s_adv N K.1 hT.w
  obtain ⟨k1, kc, k3, k4, k5, k6, k7⟩ := K
  have e7 := fr 7 S1_7
  exact ⟨M', f, ⟨t, kc.fr fr (fun k hk => by rcases hg with e | e <;> subst e <;> unfold S1 <;> omega), by rw [e7.2.2]; exact k3, by rw [e7.2.2]; exact k4, by rw [e7.1]; exact k5, by rw [e7.1]; exact k6, by rw [e7.1]; exact k7⟩, PF.T fr (k2 6 (by decide) (by decide))⟩
theorem k_word {n : Nat} {T : List Tok} {h g v : Nat} {G : Gr} {M : Mm} (N : Nat) (hT : TT n T) (K : KS T h g G M) (hv : v < 2 ^ 63) : D_X7_isWordOf N 2 (lN v) M = some (bI (decide (isWd T h v))) := s_isWordOf N K.1 hT.w hv (hT.c1 K.1.2.1)
theorem k_sign {n : Nat} {T : List Tok} {h g c : Nat} {G : Gr} {M : Mm} (N : Nat) (hT : TT n T) (K : KS T h g G M) (hv : c < 2 ^ 31) : D_X7_isSignOf N 2 (nI c) M = some (bI (decide (isSn T h c))) := s_isSignOf N K.1 hT.w hv (hT.c3 K.1.2.1)
theorem k_name {n : Nat} {T : List Tok} {h g : Nat} {G : Gr} {M : Mm} (N : Nat) (hT : TT n T) (K : KS T h g G M) : D_X7_isName N 2 M = some (bI (isNm (tk T h))) := s_isName N K.1 hT.w (hT.c1 K.1.2.1)
def KF (M M' : Mm) : Prop := M'.1 7 2 = M.1 7 2 ∧ M'.1 7 3 = M.1 7 3
theorem KF.trans {M M' M'' : Mm} (h : KF M M') (h' : KF M' M'') : KF M M'' := ⟨h'.1.trans h.1, h'.2.trans h.2⟩
theorem KF.S {T T' : List Tok} {h h' g g' : Nat} {G G' : Gr} {M M' : Mm} (K : KS T h g G M) (K' : KS T' h' g' G' M') (h1 : G'.cp = G.cp) (h2 : G'.co = G.co) : KF M M' := ⟨by rw [K.2.2.2.2.1, K'.2.2.2.2.1, h1], by rw [K.2.2.2.2.2.1, K'.2.2.2.2.2.1, h2]⟩
def FT (g : Nat) (e : Nat × Nat) (M M' : Mm) : Prop := M'.1 2 9 = nI e.1 ∧ M'.1 2 10 = nI e.2 ∧ PF g M M' ∧ ∃ c, c ≤ 1000 ∧ M'.1 g 2 = nI c
theorem FT.pre {g : Nat} {e : Nat × Nat} {M M' M'' : Mm} (h : PF g M M') (h' : FT g e M' M'') : FT g e M M'' := ⟨h'.1, h'.2.1, h.trans h'.2.2.1, h'.2.2.2⟩
def RC (T : List Tok) (g : Nat) (M : Mm) (r : RS) (x : Option (Int32 × Mm)) : Prop := match r with
  | .inl e => ∃ M', x = some (nI 0, M') ∧ FT g e M M'
  | .inr y => ∃ M', x = some (nI 1, M') ∧ KS T y.1 g y.2 M' ∧ PF g M M'
-- the same, and the reader's production and occ stay
def RI (T : List Tok) (g : Nat) (M : Mm) (r : RS) (x : Option (Int32 × Mm)) : Prop := match r with
  | .inl e => ∃ M', x = some (nI 0, M') ∧ FT g e M M' ∧ KF M M'
  | .inr y => ∃ M', x = some (nI 1, M') ∧ KS T y.1 g y.2 M' ∧ PF g M M' ∧ KF M M'
theorem RI.c {T : List Tok} {g : Nat} {M : Mm} {r : RS} {x : Option (Int32 × Mm)} (h : RI T g M r x) : RC T g M r x := by
  cases r with
  | inl e => obtain ⟨M', a, b, _⟩ := h; exact ⟨M', a, b⟩
  | inr y => obtain ⟨M', a, b, c, _⟩ := h; exact ⟨M', a, b, c⟩
theorem RC.pre {T : List Tok} {g : Nat} {M M1 : Mm} {r : RS} {x : Option (Int32 × Mm)} (h : PF g M M1) (h' : RC T g M1 r x) : RC T g M r x := by
  cases r with
  | inl e => obtain ⟨M', a, b⟩ := h'; exact ⟨M', a, b.pre h⟩
  | inr y => obtain ⟨M', a, b, c⟩ := h'; exact ⟨M', a, b, h.trans c⟩
theorem RI.pre {T : List Tok} {g : Nat} {M M1 : Mm} {r : RS} {x : Option (Int32 × Mm)} (h : PF g M M1) (k : KF M M1) (h' : RI T g M1 r x) : RI T g M r x := by
  cases r with
  | inl e => obtain ⟨M', a, b, c⟩ := h'; exact ⟨M', a, b.pre h, k.trans c⟩
  | inr y => obtain ⟨M', a, b, c, d⟩ := h'; exact ⟨M', a, b, h.trans c, k.trans d⟩
theorem k_fail0 {n : Nat} {T : List Tok} {h g : Nat} {G : Gr} {M : Mm} (N y : Nat) (hT : TT n T) (hg : g = 35 ∨ g = 52) (hc : G.i 0 2 ≤ 1000) (K : KS T h g G M) : ∃ M', D_X7_fail N 2 (nI y) M = some (nI 0, M') ∧ FT g (if (tk T h).1 = 4 then 1 else y, (tk T h).2.1) M M' ∧ KF M M' := by
  obtain ⟨M', f, a1, a2, fr, kk, _⟩ := s_fail (y := y) N K.1 hT.w
  have e7 := fr 7 S1_7
  refine ⟨M', f, ⟨a1, a2, PF.T fr (kk 6 (by decide) (by decide)), G.i 0 2, hc, ?_⟩, by rw [e7.1], by rw [e7.1]⟩
  rw [(fr g (by rcases hg with e | e <;> subst e <;> unfold S1 <;> omega)).1]; exact K.2.1.f 2
-- a fault, as the class's readers return it
theorem k_fail {n : Nat} {T : List Tok} {h g : Nat} {G : Gr} {M : Mm} (N y : Nat) (hT : TT n T) (hg : g = 35 ∨ g = 52) (hc : G.i 0 2 ≤ 1000) (K : KS T h g G M) : RI T g M (fl T h y) ((D_X7_fail N 2 (nI y) M).bind fun q => retZ q.1 q.2) := by
  obtain ⟨M', f, a⟩ := k_fail0 N y hT hg hc K
  exact ⟨M', by rw [f, Option.bind_some, retZ_0], a⟩
theorem k_take {n : Nat} {T : List Tok} {h g c : Nat} {G : Gr} {M : Mm} (N : Nat) (hT : TT n T) (hg : g = 35 ∨ g = 52) (hc : G.i 0 2 ≤ 1000) (hv : c < 2 ^ 31) (K : KS T h g G M) : RI T g M (pSign T c h G) (D_X7_takeSign N 2 (nI c) M) := by
  have q := s_takeSign (c := c) N K.1 hT.w hv (hT.c3 K.1.2.1)
  unfold pSign
  by_cases e : isSn T h c
  · rw [if_pos e]; rw [if_pos e] at q
    obtain ⟨M', f, t, fr, k2⟩ := q
    have K' := K
    obtain ⟨k1, kc, k3, k4, k5, k6, k7⟩ := K
    have e7 := fr 7 S1_7
    have K2 : KS T (adv T h) g G M' := ⟨t, kc.fr fr (fun k hk => by rcases hg with e | e <;> subst e <;> unfold S1 <;> omega), by rw [e7.2.2]; exact k3, by rw [e7.2.2]; exact k4, by rw [e7.1]; exact k5, by rw [e7.1]; exact k6, by rw [e7.1]; exact k7⟩
    exact ⟨M', f, K2, PF.T fr (k2 6 (by decide) (by decide)), KF.S K' K2 rfl rfl⟩
  · rw [if_neg e]; rw [if_neg e] at q
    obtain ⟨M', f, a1, a2, fr, kk, _⟩ := q
    have e7 := fr 7 S1_7
    refine ⟨M', f, ⟨a1, a2, PF.T fr (kk 6 (by decide) (by decide)), G.i 0 2, hc, ?_⟩, by rw [e7.1], by rw [e7.1]⟩
    rw [(fr g (by rcases hg with e | e <;> subst e <;> unfold S1 <;> omega)).1]; exact K.2.1.f 2
