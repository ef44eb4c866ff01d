-- both sides answer: put
def putT (t : TR) (k v : Nat) : TR := (tn t, tp t, st1 (to' t) k v, tu t, tq t, td t)
theorem aw_told {G : Gr} (hq : QG G) {p o : Nat} (hp : p < G.i 0 1) (h : (G.i 11 p).testBit o = true) : o < 32 ∧ tdB G (32 * p + o) = true ∧ (G.i 9 p).testBit o = true := by
  obtain ⟨g1, g2, _⟩ := hq.2.2.2.2 p hp
  by_cases c : o < 32
  · cases x : tdB G (32 * p + o)
    · rw [g2 o fun _ => x] at h; exact absurd h (by decide)
    · exact ⟨c, rfl, (g1 o c x).1⟩
  · rw [g2 o fun z => absurd z c] at h; exact absurd h (by decide)
section tok
variable {G : Gr} {t : TR} {ce : Nat → Nat → Nat} {me : Nat → Nat} {gv : Nat → Int32}
/-- whose rule asks its node's own number -/
def awI (G : Gr) (t : TR) (i : Nat) : Bool := (G.i 11 (tp t (bsT G t i - 1))).testBit (ocT G t i)
theorem cR1 {ak v : Nat} (h : VW ak v) : (cR v).1 < 2 ^ 31 ∧ ((cR v).1 = 1 ↔ v = 20000) := by
  unfold cR
  rcases h with h | h | h | h | ⟨q, q1, q2, _⟩
  · rw [if_pos h]; exact ⟨show (0 : Nat) < 2 ^ 31 by decide, fun z => absurd (show (0 : Nat) = 1 from z) (by decide), fun z => by omega⟩
  · rw [h]; exact ⟨by decide, fun _ => rfl, fun _ => by decide⟩
  · rw [if_neg (by omega), if_neg (by omega), if_neg (by omega), if_pos (by omega)]
    have ne : ¬ v = 20000 := by omega
    have := opC_b (o := v - 30000) (by omega)
    generalize v - 30000 = o at this ⊢
    exact ⟨Nat.lt_trans this.2 (by decide), fun z => by rw [show opC o = 1 from z] at this; exact absurd this.1 (by decide), fun z => absurd z ne⟩
  · rw [h]; exact ⟨by decide, fun z => absurd (show (3 : Nat) = 1 from z) (by decide), fun z => by omega⟩
  · rw [if_neg (by omega), if_pos (by omega)]; exact ⟨show (2 : Nat) < 2 ^ 31 by decide, fun z => absurd (show (2 : Nat) = 1 from z) (by decide), fun z => by omega⟩
theorem r_asksOwn {i : Nat} {M : Mm} (N : Nat) (hN : 2000 < N) (hq : QG G) (h : TOK2 G t ce me) (R : RT1 G t M) (hB : RBs G t 320 M) (hi : thT G t i) (hb : ¬ bsT G t i = 0) : D_X12_asksOwn N 137 (nI i) M = some (bI (awI G t i)) := by
  obtain ⟨i8, i320⟩ := th_320 h hi
  obtain ⟨o1, o2, o3, o4⟩ := oc_own hq h hi hb
  obtain ⟨r1, r2, r3, r4, r5⟩ := rl_code hq h hi hb
  have pk := (h.1.2.1 _ o1).1
  have n12 := hq.np
  have c1000 := hq.1.2.2.1
  have h40 := h.2.2.2.1
  have rows := fun i hi => R.1.1.2.2.2.1 i hi
  have codes := R.1.1.2.2.2.2
  obtain ⟨b1, b2⟩ := (hB i i320).2 hi
  have rr : rlT G t i < 32 * G.i 0 1 := by unfold rlT; omega
  have key : ∀ fu c, G.i 14 (rlT G t i) ≤ c → c ≤ G.i 15 (rlT G t i) → G.i 15 (rlT G t i) < c + fu → (∀ c', G.i 14 (rlT G t i) ≤ c' → c' < c → ¬ G.i 16 c' = 20000) → L_X12_asksOwn_32 137 (nI (rlT G t i)) M fu (nI c) = some (bI (awI G t i)) := fun fu => by
    induction fu with
    | zero => intro c h1 h2 h3; omega
    | succ fu ih =>
      intro c h1 h2 h3 h4
      rw [L_X12_asksOwn_32, show (137 : Nat) + 2 = 139 from rfl, nI_add, ldI_n (by omega) (by omega), (rows _ rr).2.1, Option.bind_some]
      simp only [n_le (show G.i 15 (rlT G t i) < 2 ^ 31 by omega) (show c < 2 ^ 31 by omega)]
      by_cases e : G.i 15 (rlT G t i) ≤ c
      · rw [if_pos e, okZ_0]
        have : awI G t i = false := by
          cases x : awI G t i
          · rfl
          · obtain ⟨a1, a2, a3⟩ := aw_told hq pk x
            obtain ⟨u1, u2, u3, u4, u5, u6, u7⟩ := (hq.2.2.2.2 _ pk).1 _ o2 a2
            obtain ⟨c', k1, k2, k3⟩ := u7.1 x
            have k2 : c' < G.i 15 (rlT G t i) := k2
            exact absurd k3 (h4 c' k1 (by omega))
        rw [this]; rfl
      · have vw := r4 c h1 (by omega)
        obtain ⟨v1, v2⟩ := cR1 vw
        rw [if_neg e, nI_add, ldI_n (by omega) (by omega), (codes c (by omega)).1, Option.bind_some]
        simp only [n_eq v1 (show 1 < 2 ^ 31 by decide)]
        by_cases z : (cR (G.i 16 c)).1 = 1
        · rw [if_pos z, okZ_1]
          have : awI G t i = true := by
            have td : tdB G (32 * tp t (bsT G t i - 1) + ocT G t i) = true := by
              cases x : tdB G (32 * tp t (bsT G t i - 1) + ocT G t i)
              · obtain ⟨z1, z2, _⟩ := hq.2.2.2.1 (rlT G t i) (Or.inr x) r1
                omega
              · rfl
            obtain ⟨u1, u2, u3, u4, u5, u6, u7⟩ := (hq.2.2.2.2 _ pk).1 _ o2 td
            exact u7.2 ⟨c, h1, by have : c < G.i 15 (rlT G t i) := by omega
                                  exact this, v2.1 z⟩
          rw [this]; rfl
        · rw [if_neg z, Option.bind_some, nI_add]
          exact ih (c + 1) (by omega) (by omega) (by omega) fun c' k1 k2 => by
            by_cases y : c' = c
            · rw [y]; exact fun u => z (v2.2 u)
            · exact h4 c' k1 (by omega)
  unfold D_X12_asksOwn
  rw [show (137 : Nat) + 27 = 164 from rfl, show (137 : Nat) + 20 = 157 from rfl, show (137 : Nat) + 28 = 165 from rfl, show (137 : Nat) + 2 = 139 from rfl, ldI_n i320 (by omega), b1, Option.bind_some, nP_s (by omega), ldI_n (by omega) (by omega), (R.2.2 _ o1).1, Option.bind_some, ldI_n i320 (by omega), b2, Option.bind_some, pk_mul, nI_add, Option.bind_some, nI_add, ldI_n (show 80 + (32 * tp t (bsT G t i - 1) + ocT G t i) < 3816 by omega) (by omega), (rows (32 * tp t (bsT G t i - 1) + ocT G t i) rr).1, Option.bind_some]
  exact key N (G.i 14 (rlT G t i)) (Nat.le_refl _) r3 (by omega) fun c' k1 k2 => by omega
/-- what is marked when a node's own number is another one -/
def mkP (G : Gr) (t : TR) (k i : Nat) : Bool := thB G t i && decide (bsT G t i = k + 1) && awI G t i
theorem mkP_t {k i : Nat} : mkP G t k i = true ↔ thT G t i ∧ bsT G t i = k + 1 ∧ awI G t i = true := by
  unfold mkP
  rw [Bool.and_eq_true, Bool.and_eq_true, thB_t, decide_eq_true_eq, and_assoc]
theorem evL_own {own own' : Int32} {ld : Nat → Int32} {ak v : Nat} {L : List Int32} (hv : VW ak v) (n : ¬ v = 20000) : evL own ld v L = evL own' ld v L := by
  unfold evL
  rcases hv with h | h | h | h | ⟨q, q1, q2, q3⟩
  · rw [if_pos (show v < 30000 by omega), if_pos (show v < 30000 by omega), if_pos h, if_pos h]
  · exact absurd h n
  · rw [if_neg (show ¬ v < 30000 by omega), if_neg (show ¬ v < 30000 by omega)]
  · rw [if_neg (show ¬ v < 30000 by omega), if_neg (show ¬ v < 30000 by omega)]
  · rw [if_pos (show v < 30000 by omega), if_pos (show v < 30000 by omega), if_neg (show ¬ v < 10000 by omega), if_neg (show ¬ v < 10000 by omega), if_pos (show v < 20000 by omega), if_pos (show v < 20000 by omega)]
theorem evC_own {cc : Nat → Nat} {own own' : Int32} {ld : Nat → Int32} {ak : Nat} : ∀ (n c : Nat) (L : List Int32), (∀ j, c ≤ j → j < c + n → VW ak (cc j) ∧ ¬ cc j = 20000) → evC cc own ld n c L = evC cc own' ld n c L
  | 0, _, _, _ => rfl
  | n + 1, c, L, h => by
    obtain ⟨a, b⟩ := h c (Nat.le_refl _) (by omega)
    rw [evC_s, evC_s, evL_own (own' := own') a b]
    exact evC_own n (c + 1) _ fun j a b => h j (by omega) (by omega)
/-- a node is told another number -/
theorem cor_put (hq : QG G) (h : TOK2 G t ce me) {k v : Nat} : COR G (putT t k v) t ce ce gv gv (fun i => mkP G t k i && !decide (nI (to' t k) = nI v)) (fun _ => false) (fun i => i) := by
  refine ⟨fun i hi _ => hi, fun i j _ _ _ _ l => l, fun i hi _ mi => ⟨fun j nj _ => nj, fun u u0 hu => ?_, fun j0 r1 r2 => ⟨j0, rfl, rfl, r1, r2⟩⟩⟩
  have mi : (mkP G t k i && !decide (nI (to' t k) = nI v)) = false := mi
  have hi : thT G t i := hi
  have e0 : wkT G t ce gv u i = wkT G t ce gv u0 i := wk_cg hq h hi fun j nj => (hu j nj).2
  show _ = wkT G t ce gv u0 i
  rw [← e0]
  unfold wkT
  show (if bsT G t i = 0 then gv (i % 8) else (evC (G.i 16) (nI (st1 (to' t) k v (bsT G t i - 1))) (fun o => u (inT ce (bsT G t i - 1) o)) (G.i 15 (rlT G t i) - G.i 14 (rlT G t i)) (G.i 14 (rlT G t i)) []).headD (nI 0)) = _
  by_cases z : bsT G t i = 0
  · rw [if_pos z, if_pos z]
  · rw [if_neg z, if_neg z]
    by_cases y : bsT G t i - 1 = k
    · by_cases w : nI (to' t k) = nI v
      · rw [y, st1_s, w]
      · have aw : awI G t i = false := by
          cases c : awI G t i
          · rfl
          · rw [mkP_t.2 ⟨hi, by omega, c⟩, decide_eq_false w] at mi
            exact absurd mi (by decide)
        obtain ⟨o1, o2, o3, o4⟩ := oc_own hq h hi z
        obtain ⟨r1, r2, r3, r4, r5⟩ := rl_code hq h hi z
        have pk := (h.1.2.1 _ o1).1
        refine congrArg (fun L => List.headD L (nI 0)) (evC_own (ak := akT G t i) _ _ _ fun j j1 j2 => ⟨r4 j j1 (by omega), fun c => ?_⟩)
        have td : tdB G (32 * tp t (bsT G t i - 1) + ocT G t i) = true := by
          cases x : tdB G (32 * tp t (bsT G t i - 1) + ocT G t i)
          · obtain ⟨z1, z2, _⟩ := hq.2.2.2.1 (rlT G t i) (Or.inr x) r1
            omega
          · rfl
        obtain ⟨u1, u2, u3, u4, u5, u6, u7⟩ := (hq.2.2.2.2 _ pk).1 _ o2 td
        have jl : j < G.i 15 (rlT G t i) := by omega
        have : awI G t i = true := u7.2 ⟨j, j1, jl, c⟩
        rw [aw] at this; exact absurd this (by decide)
    · rw [st1_n y]
theorem s_markAskingOwn {g w k : Nat} {M : Mm} (N : Nat) (hN : 2000 < N) (hq : QG G) (h : TOK2 G t ce me) (hg : g = 35 ∨ g = 52) (hw : w = 69 ∨ w = 87) (K : CG g G M) (C : CT w G t M) (L : CLk w G t ce me M) (hk : k < tn t) (r31 : ∀ i, i < 320 → M.1 31 i = nI 0) : ∃ M', D_X0_markAskingOwn N 30 g w (nI k) M = some M' ∧ (∀ i, thT G t i → M'.1 31 i = bI (mkP G t k i)) ∧ FX (fun b _ => b = 31) M M' := by
  have pk := (h.1.2.1 k hk).1
  have n12 := hq.np
  have h40 := h.2.2.2.1
  have a32 : G.i 11 (tp t k) < 2 ^ 32 := lt_of_bits fun i hi => (aw_told hq pk hi).1
  have key : ∀ fu o M, o ≤ 32 → 32 < o + fu → CLk w G t ce me M → (∀ i, thT G t i → M.1 31 i = bI (mkP G t k i && decide (ocT G t i < o))) → ∃ M', L_X0_markAskingOwn_16 (nI (G.i 11 (tp t k))) N w (nI k) 30 fu (nI o) M = some M' ∧ (∀ i, thT G t i → M'.1 31 i = bI (mkP G t k i)) ∧ FX (fun b _ => b = 31) M M' := fun fu => by
    induction fu with
    | zero => intro o M h1 h2; omega
    | succ fu ih =>
      intro o M h1 h2 L r
      rw [L_X0_markAskingOwn_16]
      simp only [n_le (show 32 < 2 ^ 31 by decide) (show o < 2 ^ 31 by omega)]
      by_cases e : 32 ≤ o
      · rw [if_pos e]
        refine ⟨M, rfl, fun i hi => ?_, FX.refl⟩
        rw [r i hi]
        cases c : mkP G t k i
        · rfl
        · have m := mkP_t.1 c
          have := (oc_own hq h hi (by omega)).2.1
          rw [decide_eq_true (by omega)]; rfl
      · rw [if_neg e, bitI a32 (by omega)]
        simp only [bI_0]
        -- whether an instance of this node is this occ's
        have occ : ∀ i, thT G t i → mkP G t k i = true → ocT G t i = o → (G.i 11 (tp t k)).testBit o = true ∧ i = inT ce k o := fun i hi hm ho => by
          have m := mkP_t.1 hm
          have own := oc_own hq h hi (by omega)
          rw [m.2.1, Nat.add_sub_cancel, ho] at own
          have m3 := m.2.2
          unfold awI at m3
          rw [m.2.1, Nat.add_sub_cancel, ho] at m3
          exact ⟨m3, own.2.2.2.symm⟩
        cases b : (G.i 11 (tp t k)).testBit o
        · rw [if_pos rfl, Option.bind_some, nI_add]
          refine ih (o + 1) M (by omega) (by omega) L fun i hi => ?_
          rw [r i hi]
          cases c : mkP G t k i
          · rfl
          · have : ¬ ocT G t i = o := fun z => by rw [(occ i hi c z).1] at b; exact absurd b (by decide)
            rw [show decide (ocT G t i < o) = decide (ocT G t i < o + 1) from decide_eq_decide.2 ⟨fun _ => by omega, fun _ => by omega⟩]
        · obtain ⟨a1, a2, a3⟩ := aw_told hq pk b
          obtain ⟨t1, t2⟩ := tl_told hq h hk a3
          obtain ⟨s1, s2⟩ := in_us hq h.1 hk (hq.tl_us pk a3)
          obtain ⟨v8, v320⟩ := th_320 h s2
          rw [if_neg (by decide), s_instance N hq h L hk (by omega) s1, Option.bind_some]
          unfold D_X0_mark
          rw [show (30 : Nat) + 1 = 31 from rfl, stZ_1 v320 (by omega), Option.bind_some, Option.bind_some, Option.bind_some, nI_add]
          have f1 : FX (fun b _ => b = 31) M (upI M 31 (inT ce k o) (nI 1)) := FX.I rfl
          obtain ⟨M', b1, b2, b3⟩ := ih (o + 1) (upI M 31 (inT ce k o) (nI 1)) (by omega) (by omega) (L.fx f1 fun b j hb z => by omega) fun i hi => by
            rw [upI_j]
            by_cases c : i = inT ce k o
            · have : mkP G t k i = true := mkP_t.2 ⟨hi, by rw [c]; exact t1, by unfold awI; rw [c, t1, t2, Nat.add_sub_cancel]; exact b⟩
              rw [if_pos c, this, c, t2, decide_eq_true (by omega)]; rfl
            · rw [if_neg c, r i hi]
              cases d : mkP G t k i
              · rfl
              · have : ¬ ocT G t i = o := fun z => c (occ i hi d z).2
                rw [show decide (ocT G t i < o) = decide (ocT G t i < o + 1) from decide_eq_decide.2 ⟨fun _ => by omega, fun _ => by omega⟩]
          exact ⟨M', b1, b2, f1.trans b3⟩
  unfold D_X0_markAskingOwn
  rw [ldI_n (by omega) (by omega), (C.2 k hk).1, Option.bind_some, ldI_n (by omega) (by omega), K.a 11 (tp t k) (by omega), Option.bind_some]
  exact key N 0 M (by omega) (by omega) L fun i hi => by
    rw [r31 i (th_320 h hi).2, decide_eq_false (Nat.not_lt_zero _), Bool.and_false]; rfl
theorem r_putMarks {k : Nat} {v1 b : Int32} {dg : Nat → Bool} {gr : Nat → Nat} {M : Mm} (N : Nat) (hN : 2000 < N) (hq : QG G) (h : TOK2 G t ce me) (S : RSI G t ce gv gr dg M) (hk : k < tn t) (r177 : ∀ i, i < 320 → M.1 177 i = nI 0) (kE : Mm → Option (Int32 × Mm)) : ∃ M', L_X12_put_58 kE 137 v1 b (nI k) N N (nI 0) M = kE M' ∧ (∀ i, thT G t i → M'.1 177 i = bI (mkP G t k i && !decide (v1 = b))) ∧ FX (fun b _ => b = 177) M M' := by
  have h40 := h.2.2.2.1
  have n1 := h.1.1.1
  by_cases same : v1 = b
  · obtain ⟨fu, rfl⟩ : ∃ fu, N = fu + 1 := ⟨N - 1, by omega⟩
    rw [L_X12_put_58, S.1.1.2.1, pk_mul, if_neg (by rw [n_le (by omega) (by decide)]; omega), if_pos same]
    exact ⟨M, rfl, fun i hi => by rw [r177 i (th_320 h hi).2, decide_eq_true same, Bool.not_true, Bool.and_false]; rfl, FX.refl⟩
  · have key : ∀ fu i M, i ≤ 8 * tn t → 320 < i + fu → RSI G t ce gv gr dg M → (∀ x, thT G t x → M.1 177 x = bI (mkP G t k x && decide (x < i))) → ∃ M', L_X12_put_58 kE 137 v1 b (nI k) N fu (nI i) M = kE M' ∧ (∀ x, thT G t x → M'.1 177 x = bI (mkP G t k x)) ∧ FX (fun b _ => b = 177) M M' := fun fu => by
      induction fu with
      | zero => intro i M h1 h2; omega
      | succ fu ih =>
        intro i M h1 h2 S r
        rw [L_X12_put_58, S.1.1.2.1, pk_mul]
        simp only [n_le (show 8 * tn t < 2 ^ 31 by omega) (show i < 2 ^ 31 by omega)]
        by_cases e : 8 * tn t ≤ i
        · rw [if_pos e]
          refine ⟨M, rfl, fun x hx => ?_, FX.refl⟩
          have := (th_320 h hx).1
          rw [r x hx, decide_eq_true (by omega), Bool.and_true]
        · have i320 : i < 320 := by omega
          rw [if_neg e, if_neg same, show (137 : Nat) + 37 = 174 from rfl, show (137 : Nat) + 40 = 177 from rfl, show (137 : Nat) + 27 = 164 from rfl, ldI_n i320 (by omega), (S.1.2.1 i i320).1, Option.bind_some]
          simp only [jn, bI_0]
          -- either way the row's place is set as it must be
          have go : ∀ c : Bool, (thT G t i → c = mkP G t k i) → ∃ M', L_X12_put_58 kE 137 v1 b (nI k) N fu (nI (i + 1)) (upI M 177 i (bI c)) = kE M' ∧ (∀ x, thT G t x → M'.1 177 x = bI (mkP G t k x)) ∧ FX (fun b _ => b = 177) M M' := fun c hc => by
            have f1 : FX (fun b _ => b = 177) M (upI M 177 i (bI c)) := FX.I rfl
            obtain ⟨M', b1, b2, b3⟩ := ih (i + 1) (upI M 177 i (bI c)) (by omega) (by omega) (S.fx f1 fun b j z => by omega) fun x hx => by
              rw [upI_j]
              by_cases z : x = i
              · rw [if_pos z, z, decide_eq_true (by omega), Bool.and_true, hc (by rw [← z]; exact hx)]
              · rw [if_neg z, r x hx, show decide (x < i) = decide (x < i + 1) from decide_eq_decide.2 ⟨fun _ => by omega, fun _ => by omega⟩]
            exact ⟨M', b1, b2, f1.trans b3⟩
          cases tb : thB G t i
          · rw [if_pos rfl, stZ_0 i320 (by omega), Option.bind_some, Option.bind_some, nI_add]
            exact go false fun hi => absurd hi (thB_f.1 tb)
          · have ti := thB_t.1 tb
            obtain ⟨b1, b2⟩ := (S.1.2.1 i i320).2 ti
            have bl := bs_le (G := G) h.1 ti.1
            rw [if_neg (by decide), ldI_n i320 (by omega), b1, Option.bind_some]
            by_cases c : bsT G t i = k + 1
            · have aw := r_asksOwn N hN hq h S.1.1 S.1.2.1 ti (by omega)
              rw [c, nP_s (by omega), Nat.add_sub_cancel, if_pos rfl, aw, Option.bind_some]
              simp only [bI_0]
              have em : mkP G t k i = awI G t i := by unfold mkP; rw [tb, decide_eq_true c]; rfl
              cases a : awI G t i
              · rw [if_pos rfl, stZ_0 i320 (by omega), Option.bind_some, Option.bind_some, nI_add]
                exact go false fun _ => by rw [em, a]
              · rw [if_neg (by decide), stZ_1 i320 (by omega), Option.bind_some, Option.bind_some, nI_add]
                exact go true fun _ => by rw [em, a]
            · rw [if_neg (fun z => c (by
                unfold nP at z
                by_cases y : bsT G t i = 0
                · rw [if_pos y] at z; exact absurd z (m1_ne_n (by omega))
                · rw [if_neg y, n_eq (by omega) (by omega)] at z; omega)), stZ_0 i320 (by omega), Option.bind_some, Option.bind_some, nI_add]
              exact go false fun _ => by unfold mkP; rw [decide_eq_false c, Bool.and_false]; rfl
    obtain ⟨M', a1, a2, a3⟩ := key N 0 M (by omega) (by omega) S fun x hx => by rw [r177 x (th_320 h hx).2, decide_eq_false (Nat.not_lt_zero _), Bool.and_false]; rfl
    exact ⟨M', a1, fun i hi => by rw [a2 i hi, decide_eq_false same, Bool.not_false, Bool.and_true], a3⟩
end tok
