-- both sides answer: longest
def mxB (f : Nat → Bool) (L : Nat → Nat) : Nat → Nat
  | 0 => 0
  | n + 1 => if f n = true then (if mxB f L n < L n then L n else mxB f L n) else mxB f L n
theorem mxB_s (f : Nat → Bool) (L : Nat → Nat) (n : Nat) : mxB f L (n + 1) = if f n = true then (if mxB f L n < L n then L n else mxB f L n) else mxB f L n := rfl
def IsMx (S : Nat → Prop) (L : Nat → Nat) (m : Nat) : Prop := (∀ j, S j → L j ≤ m) ∧ (m = 0 ∨ ∃ j, S j ∧ L j = m)
theorem IsMx.uniq {S : Nat → Prop} {L : Nat → Nat} {m m' : Nat} (h : IsMx S L m) (h' : IsMx S L m') : m = m' := by
  have a : m ≤ m' := by
    rcases h.2 with z | ⟨j, z1, z2⟩
    · omega
    · have := h'.1 j z1; omega
  have b : m' ≤ m := by
    rcases h'.2 with z | ⟨j, z1, z2⟩
    · omega
    · have := h.1 j z1; omega
  omega
theorem mxB_is (f : Nat → Bool) (L : Nat → Nat) : ∀ n, IsMx (fun j => j < n ∧ f j = true) L (mxB f L n)
  | 0 => ⟨fun j hj => absurd hj.1 (Nat.not_lt_zero _), Or.inl rfl⟩
  | n + 1 => by
    have ih := mxB_is f L n
    rw [mxB_s]
    by_cases c : f n = true
    · rw [if_pos c]
      by_cases d : mxB f L n < L n
      · rw [if_pos d]
        refine ⟨fun j hj => ?_, Or.inr ⟨n, ⟨by omega, c⟩, rfl⟩⟩
        by_cases e : j = n
        · rw [e]; exact Nat.le_refl _
        · have := ih.1 j ⟨by have := hj.1; omega, hj.2⟩; omega
      · rw [if_neg d]
        refine ⟨fun j hj => ?_, ih.2.imp id fun ⟨j, a, b⟩ => ⟨j, ⟨by have := a.1; omega, a.2⟩, b⟩⟩
        by_cases e : j = n
        · rw [e]; omega
        · exact ih.1 j ⟨by have := hj.1; omega, hj.2⟩
    · rw [if_neg c]
      refine ⟨fun j hj => ?_, ih.2.imp id fun ⟨j, a, b⟩ => ⟨j, ⟨by have := a.1; omega, a.2⟩, b⟩⟩
      by_cases e : j = n
      · rw [e] at hj; exact absurd hj.2 c
      · exact ih.1 j ⟨by have := hj.1; omega, hj.2⟩
theorem mxB_img {S : Nat → Prop} {f : Nat → Bool} {L L' e : Nat → Nat} {n : Nat} (h1 : ∀ k, k < n → f k = true → S (e k) ∧ L k = L' (e k)) (h2 : ∀ j, S j → ∃ k, k < n ∧ f k = true ∧ e k = j) : IsMx S L' (mxB f L n) := by
  have h := mxB_is f L n
  refine ⟨fun j hj => ?_, h.2.imp id fun ⟨k, a, b⟩ => ⟨e k, (h1 k a.1 a.2).1, by rw [← (h1 k a.1 a.2).2]; exact b⟩⟩
  obtain ⟨k, k1, k2, k3⟩ := h2 j hj
  rw [← k3, ← (h1 k k1 k2).2]
  exact h.1 k ⟨k1, k2⟩
theorem mxB_le {f : Nat → Bool} {L : Nat → Nat} {c : Nat} (h : ∀ j, L j ≤ c) (n : Nat) : mxB f L n ≤ c := by
  rcases (mxB_is f L n).2 with z | ⟨j, _, z⟩
  · omega
  · have := h j; omega
theorem mxB_cg {f : Nat → Bool} {L L' : Nat → Nat} : ∀ {n : Nat}, (∀ j, j < n → f j = true → L j = L' j) → mxB f L n = mxB f L' n
  | 0, _ => rfl
  | n + 1, h => by
    rw [mxB_s, mxB_s, mxB_cg (n := n) fun j hj => h j (by omega)]
    by_cases c : f n = true
    · rw [if_pos c, if_pos c, h n (by omega) c]
    · rw [if_neg c, if_neg c]
section tok
variable {G : Gr} {t : TR} {ce : Nat → Nat → Nat} {me : Nat → Nat}
variable {gN : Nat} {gr fr od : Nat → Nat} {kt : Nat → Bool}
def nkB (G : Gr) (t : TR) (ce : Nat → Nat → Nat) (i j : Nat) : Bool := nrB G t ce i j && !knB G t ce j
theorem nkB_t {i j : Nat} : nkB G t ce i j = true ↔ (thT G t i ∧ nrT G t ce i j) ∧ knB G t ce j = false := by
  unfold nkB
  rw [Bool.and_eq_true, nrB_t, Bool.not_eq_true']
def lgF (G : Gr) (t : TR) (ce : Nat → Nat → Nat) : Nat → Nat → Nat
  | 0, _ => 0
  | n + 1, i => 1 + mxB (nkB G t ce i) (lgF G t ce n) 320
theorem lgF_le : ∀ n i, lgF G t ce n i ≤ n
  | 0, _ => Nat.le_refl _
  | n + 1, i => by
    have := mxB_le (f := nkB G t ce i) (fun j => lgF_le n j) 320
    show 1 + mxB (nkB G t ce i) (lgF G t ce n) 320 ≤ n + 1
    omega
theorem lgF_st (hq : QG G) (h : TOK2 G t ce me) (P : GRP G t ce gN gr fr od kt) : ∀ n i, thT G t i → knB G t ce i = false → gr i ≤ n → lgF G t ce (n + 1) i = lgF G t ce n i
  | 0, i, h1, _, h3 => by have := (P.1 i).1 h1; omega
  | n + 1, i, h1, h2, h3 => by
    show 1 + mxB (nkB G t ce i) (lgF G t ce (n + 1)) 320 = 1 + mxB (nkB G t ce i) (lgF G t ce n) 320
    refine congrArg (fun x => 1 + x) (mxB_cg fun j _ hj => ?_)
    obtain ⟨⟨a1, a2⟩, a3⟩ := nkB_t.1 hj
    have := P.alone hq h h1 h2 a2
    exact lgF_st hq h P n j (nr_th hq h h1 a2) a3 (by omega)
/-- how long a row ends at each instance -/
def LNG (G : Gr) (t : TR) (ce : Nat → Nat → Nat) (L : Nat → Nat) : Prop := (∀ i, L i < 1000) ∧ ∀ i, thT G t i → knB G t ce i = false → L i = 1 + mxB (nkB G t ce i) L 320
theorem LNG.ex (hq : QG G) (h : TOK2 G t ce me) (P : GRP G t ce gN gr fr od kt) : ∃ L, LNG G t ce L := by
  have g320 := P.g320
  refine ⟨lgF G t ce (gN + 1), fun i => by have := lgF_le (G := G) (t := t) (ce := ce) (gN + 1) i; omega, fun i hi ki => ?_⟩
  show 1 + mxB (nkB G t ce i) (lgF G t ce gN) 320 = 1 + mxB (nkB G t ce i) (lgF G t ce (gN + 1)) 320
  refine congrArg (fun x => 1 + x) (mxB_cg fun j _ hj => ?_)
  obtain ⟨⟨a1, a2⟩, a3⟩ := nkB_t.1 hj
  exact (lgF_st hq h P gN j (nr_th hq h a1 a2) a3 (P.2.1 j)).symm
variable {Lf : Nat → Nat}
theorem LNG.is (hq : QG G) (h : TOK2 G t ce me) (l : LNG G t ce Lf) {i : Nat} (hi : thT G t i) (ki : knB G t ce i = false) : IsMx (fun j => nrT G t ce i j ∧ knB G t ce j = false) Lf (Lf i - 1) := by
  rw [l.2 i hi ki, show ∀ x, 1 + x - 1 = x from fun x => by omega]
  exact mxB_img (e := id) (fun k _ hk => ⟨⟨(nkB_t.1 hk).1.2, (nkB_t.1 hk).2⟩, rfl⟩) fun j hj => ⟨j, (th_320 h (nr_th hq h hi hj.1)).2, nkB_t.2 ⟨⟨hi, hj.1⟩, hj.2⟩, rfl⟩
theorem s_ahead {c w i : Nat} {M : Mm} (N : Nat) (hN : 2000 < N) (hc : c = 106 ∨ c = 122) (hw : w = 69 ∨ w = 87) (hq : QG G) (h : TOK2 G t ce me) (C : CLk w G t ce me M) (K : KG c gN gr fr od kt M) (cw : rf M c 6 8 = some w) (P : GRP G t ce gN gr fr od kt) (l : LNG G t ce Lf) (hi : thT G t i) (ki : knB G t ce i = false) (dn : ∀ j, nrT G t ce i j → knB G t ce j = false → M.1 (c + 10) j = nI (Lf j)) : D_X4_longestAhead N c (nI i) M = some (nI (Lf i - 1)) := by
  obtain ⟨i8, i320⟩ := th_320 h hi
  have g320 := P.g320
  have key : ∀ fu o m, o ≤ 32 → 32 < o + fu → m = mxB (fun o => (akT G t i).testBit o && !knB G t ce (scT G t ce i o)) (fun o => Lf (scT G t ce i o)) o → L_X4_longestAhead_4 M c (nI i) N fu (nI m) (nI o) = some (nI (mxB (fun o => (akT G t i).testBit o && !knB G t ce (scT G t ce i o)) (fun o => Lf (scT G t ce i o)) 32)) := fun fu => by
    induction fu with
    | zero => intro o m h1 h2; omega
    | succ fu ih =>
      intro o m h1 h2 hm
      have st := mxB_s (fun o => (akT G t i).testBit o && !knB G t ce (scT G t ce i o)) (fun o => Lf (scT G t ce i o)) o
      have mb : m < 1000 := by
        have := mxB_le (f := fun o => (akT G t i).testBit o && !knB G t ce (scT G t ce i o)) (L := fun o => Lf (scT G t ce i o)) (c := 999) (fun j => by have := l.1 (scT G t ce i j); omega) o
        omega
      rw [L_X4_longestAhead_4]
      simp only [n_le (show 32 < 2 ^ 31 by decide) (show o < 2 ^ 31 by omega)]
      by_cases e : 32 ≤ o
      · rw [if_pos e, hm, show o = 32 by omega]
      · obtain ⟨w1, w2, w3⟩ := C.2.2 i i8
        rw [if_neg e, cw, Option.bind_some, ldI_n i320 (by omega), w3, Option.bind_some, bitI (akT_lt hq h hi) (by omega)]
        simp only [bI_0]
        cases b : (akT G t i).testBit o
        · rw [if_pos rfl, Option.bind_some, nI_add]
          exact ih (o + 1) m (by omega) (by omega) (by rw [st, b, hm]; rfl)
        · obtain ⟨b1, b2, b3, b4, b5⟩ := ak_told hq h hi b
          obtain ⟨s1, s2⟩ := in_us hq h.1 b2 b4
          have s2 : thT G t (scT G t ce i o) := s2
          have nr : nrT G t ce i (scT G t ce i o) := ⟨o, by omega, b, rfl⟩
          obtain ⟨v8, v3⟩ := th_320 h s2
          have g0 := (P.1 _).1 s2
          have gle := P.2.1 (scT G t ce i o)
          have tie := P.tie hq h s2 (show gr (scT G t ce i o) = gr (scT G t ce i o) - 1 + 1 by omega)
          have si : D_X8_instance N w (nI (bsT G t i - 1)) (nI o) M = some (nI (scT G t ce i o)) := s_instance N hq h C b2 (by omega) s1
          rw [if_neg (by decide), Option.bind_some, Option.bind_some, ldI_n i320 (by omega), w1, Option.bind_some, nP_s (by omega), si, Option.bind_some, ldI_n v3 (by omega), K.2.1 _ v3, Option.bind_some, nP_s (by omega), ldI_n (by omega) (by omega), K.2.2.2.2.2 _ (by omega), Option.bind_some, ← tie]
          simp only [bI_0]
          cases k : knB G t ce (scT G t ce i o)
          · rw [if_pos rfl, ldI_n v3 (by omega), dn _ nr k, Option.bind_some, Option.bind_some, mx_n (by omega) (by have := l.1 (scT G t ce i o); omega), Option.bind_some, Option.bind_some, nI_add]
            exact ih (o + 1) _ (by omega) (by omega) (by rw [st, b, k, hm]; exact (if_pos rfl).symm)
          · rw [if_neg (by decide), Option.bind_some, mx_n (by omega) (by decide), if_neg (Nat.not_lt_zero _), Option.bind_some, Option.bind_some, nI_add]
            exact ih (o + 1) _ (by omega) (by omega) (by rw [st, b, k, hm]; rfl)
  have mx : IsMx (fun j => nrT G t ce i j ∧ knB G t ce j = false) Lf (mxB (fun o => (akT G t i).testBit o && !knB G t ce (scT G t ce i o)) (fun o => Lf (scT G t ce i o)) 32) := by
    refine mxB_img (e := scT G t ce i) (fun o ho hf => ?_) fun j hj => ?_
    · simp only [Bool.and_eq_true, Bool.not_eq_true'] at hf
      exact ⟨⟨⟨o, ho, hf.1, rfl⟩, hf.2⟩, rfl⟩
    · obtain ⟨⟨o, o1, o2, o3⟩, kj⟩ := hj
      have o3 : scT G t ce i o = j := o3
      refine ⟨o, o1, ?_, o3⟩
      show ((akT G t i).testBit o && !knB G t ce (scT G t ce i o)) = true
      rw [o2, o3, kj]; rfl
  rw [(l.is hq h hi ki).uniq mx]
  exact key N 0 0 (by omega) (by omega) rfl
def lonS (G : Gr) (t : TR) (ce : Nat → Nat → Nat) (i : Nat) : Prop := thT G t i ∧ knB G t ce i = false
theorem s_longestRow {c w : Nat} {M : Mm} (N : Nat) (hN : 2000 < N) (hc : c = 106 ∨ c = 122) (hw : w = 69 ∨ w = 87) (hq : QG G) (h : TOK2 G t ce me) (C : CLk w G t ce me M) (K : KG c gN gr fr od kt M) (cw : rf M c 6 8 = some w) (P : GRP G t ce gN gr fr od kt) (l : LNG G t ce Lf) : ∃ m M', D_X4_longestRow N c M = some (nI m, M') ∧ IsMx (lonS G t ce) Lf m ∧ FX (fun b _ => b = c + 10) M M' := by
  have g320 := P.g320
  have hfr := P.2.2.2.2.2.2
  have own : ∀ x, x < gN → thT G t (od (fr x)) ∧ gr (od (fr x)) = x + 1 ∧ od (fr x) < 320 ∧ fr x < 320 ∧ knB G t ce (od (fr x)) = kt x := fun x hx => by
    obtain ⟨o1, o2, _⟩ := P.2.2.2.2.1.2 x hx
    obtain ⟨a1, a2, _⟩ := o2 (fr x) (Nat.le_refl _) o1
    have up := P.2.2.2.2.1.mono (gN - (x + 1)) (x + 1) (by omega)
    rw [show x + 1 + (gN - (x + 1)) = gN by omega] at up
    have ti : thT G t (od (fr x)) := (P.1 _).2 (by omega)
    exact ⟨ti, a2, a1, by omega, P.tie hq h ti a2⟩
  have key : ∀ fu x m M, x ≤ gN → 321 < x + fu → CLk w G t ce me M → KG c gN gr fr od kt M → rf M c 6 8 = some w → (∀ y, y < x → kt y = false → M.1 (c + 10) (od (fr y)) = nI (Lf (od (fr y)))) → m = mxB (fun y => !kt y) (fun y => Lf (od (fr y))) x → ∃ M', L_X4_longestRow_4 c N fu (nI m) (nI x) M = some (nI (mxB (fun y => !kt y) (fun y => Lf (od (fr y))) gN), M') ∧ FX (fun b _ => b = c + 10) M M' := fun fu => by
    induction fu with
    | zero => intro x m M h1 h2; omega
    | succ fu ih =>
      intro x m M h1 h2 C K cw dn hm
      have st := mxB_s (fun y => !kt y) (fun y => Lf (od (fr y))) x
      have mb : m < 1000 := by
        have := mxB_le (f := fun y => !kt y) (L := fun y => Lf (od (fr y))) (c := 999) (fun j => by have := l.1 (od (fr j)); omega) x
        omega
      rw [L_X4_longestRow_4, K.1]
      simp only [n_le (show gN < 2 ^ 31 by omega) (show x < 2 ^ 31 by omega)]
      by_cases e : gN ≤ x
      · rw [if_pos e, hm, show x = gN by omega]
        exact ⟨M, rfl, FX.refl⟩
      · obtain ⟨p1, p2, p3, p4, p5⟩ := own x (by omega)
        have first : D_X4_first N c (nI x) M = some (nI (od (fr x))) := by
          unfold D_X4_first
          rw [ldI_n (by omega) (by omega), K.2.2.2.1 x (by omega), Option.bind_some, ldI_n (by omega) (by omega), K.2.2.2.2.1 _ (by
            obtain ⟨o1, _, _⟩ := P.2.2.2.2.1.2 x (by omega)
            have up := P.2.2.2.2.1.mono (gN - (x + 1)) (x + 1) (by omega)
            rw [show x + 1 + (gN - (x + 1)) = gN by omega] at up
            omega)]; rfl
        have go : ∀ v m', m' = mxB (fun y => !kt y) (fun y => Lf (od (fr y))) (x + 1) → (kt x = false → v = Lf (od (fr x))) → ∃ M', L_X4_longestRow_4 c N fu (nI m') (nI (x + 1)) (upI M (c + 10) (od (fr x)) (nI v)) = some (nI (mxB (fun y => !kt y) (fun y => Lf (od (fr y))) gN), M') ∧ FX (fun b _ => b = c + 10) M M' := fun v m' hm' hv => by
          have f1 : FX (fun b _ => b = c + 10) M (upI M (c + 10) (od (fr x)) (nI v)) := FX.I rfl
          obtain ⟨M2, a1, a2⟩ := ih (x + 1) m' (upI M (c + 10) (od (fr x)) (nI v)) (by omega) (by omega) (C.fx f1 fun b j hb z => by omega) (K.fx f1 fun b j z => by omega) cw (fun y hy ky => by
            rw [upI_j]
            by_cases z : y = x
            · subst z; rw [if_pos rfl, hv ky]
            · obtain ⟨_, q2, _⟩ := own y (by omega)
              rw [if_neg (fun u => by rw [u] at q2; omega)]
              exact dn y (by omega) ky) hm'
          exact ⟨M2, a1, f1.trans a2⟩
        rw [if_neg e, first, Option.bind_some, ldI_n (by omega) (by omega), K.2.2.2.2.2 x (by omega), Option.bind_some]
        simp only [bI_0]
        cases k : kt x
        · have ki : knB G t ce (od (fr x)) = false := by rw [p5, k]
          have lp := l.2 _ p1 ki
          have lb := l.1 (od (fr x))
          have ah := s_ahead (i := od (fr x)) N hN hc hw hq h C K cw P l p1 ki fun j nj kj => by
            have al := P.alone hq h p1 ki nj
            have tj := nr_th hq h p1 nj
            have g0 := (P.1 j).1 tj
            obtain ⟨y1, y2, _, _, y5⟩ := own (gr j - 1) (by omega)
            have tie := P.tie hq h tj (show gr j = gr j - 1 + 1 by omega)
            have ej := P.one hq h tj kj (x := od (fr (gr j - 1))) (by omega)
            have := dn (gr j - 1) (by omega) (by rw [← tie, kj])
            rw [ej] at this; exact this
          rw [if_pos rfl, ah, Option.bind_some, Option.bind_some, nI_add, show 1 + (Lf (od (fr x)) - 1) = Lf (od (fr x)) by omega, stI_n (by omega) (by omega), Option.bind_some, ldI_n (by omega) (by omega), upI_s, Option.bind_some, mx_n (by omega) (by omega), Option.bind_some, Option.bind_some, nI_add]
          exact go _ _ (by rw [st, k, hm]; exact (if_pos rfl).symm) fun _ => rfl
        · rw [if_neg (by decide), Option.bind_some, stI_n (by omega) (by omega), Option.bind_some, ldI_n (by omega) (by omega), upI_s, Option.bind_some, mx_n (by omega) (by decide), if_neg (Nat.not_lt_zero _), Option.bind_some, Option.bind_some, nI_add]
          exact go _ _ (by rw [st, k, hm]; rfl) fun z => absurd (k.symm.trans z) (by decide)
  obtain ⟨M', a1, a2⟩ := key N 0 0 M (by omega) (by omega) C K cw (fun y hy => by omega) rfl
  refine ⟨_, M', a1, ?_, a2⟩
  refine mxB_img (e := fun y => od (fr y)) (fun y hy hf => ?_) fun j hj => ?_
  · simp only [Bool.not_eq_true'] at hf
    obtain ⟨p1, p2, p3, p4, p5⟩ := own y hy
    exact ⟨⟨p1, by rw [p5, hf]⟩, rfl⟩
  · obtain ⟨tj, kj⟩ := hj
    have g0 := (P.1 j).1 tj
    have gle := P.2.1 j
    obtain ⟨y1, y2, _, _, y5⟩ := own (gr j - 1) (by omega)
    have ej := P.one hq h tj kj (x := od (fr (gr j - 1))) (by omega)
    refine ⟨gr j - 1, by omega, ?_, ej⟩
    rw [ej, kj] at y5
    simp only [← y5]; rfl
end tok
