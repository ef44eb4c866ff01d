-- a graft: what is not marked hangs as it did
section cor
variable {G : Gr} {t u : TR} {ce cu : Nat → Nat → Nat} {me mu : Nat → Nat} {k s : Nat}
/-- where a node that stays is among the nodes now -/
def STY (k s m x x0 : Nat) : Prop := (x < k ∧ x0 = x) ∨ (k + m ≤ x ∧ x0 + m = x + s)
theorem gb_node {m x : Nat} (nw : nwG k m x = false) : (x = k ∧ sgG k s m x = k) ∨ (x < k ∧ sgG k s m x = x) ∨ (k + m ≤ x ∧ sgG k s m x = x + s - m) := by
  have nw' := of_decide_eq_false nw
  unfold sgG
  by_cases a : x ≤ k
  · rw [if_pos a]; omega
  · rw [if_neg a]; omega
/-- who tells an instance that stays and is not an out of the node that another came for -/
theorem gf_base (hq : QG G) (h : TOK G t ce me) (hk : k < tn t) (hs : me k = k + s) (rq : tq u 0 = tq t k) (rs : G.i 7 (4 * tp u 0) = G.i 7 (4 * tp t k)) (m1' : 1 ≤ tn u) {i : Nat} (hi : thT G (gfT t u k s) i) (nw : nwG k (tn u) (i / 8) = false) (hin : i / 8 = k → i % 8 < niT G t k) : ocT G (gfT t u k s) i = ocT G t (8 * sgG k s (tn u) (i / 8) + i % 8) ∧ ((bsT G (gfT t u k s) i = 0 ∧ bsT G t (8 * sgG k s (tn u) (i / 8) + i % 8) = 0) ∨ ∃ b b0, bsT G (gfT t u k s) i = b + 1 ∧ bsT G t (8 * sgG k s (tn u) (i / 8) + i % 8) = b0 + 1 ∧ STY k s (tn u) b b0 ∧ b0 < tn t) := by
  have l := h.lt hq hk
  have n4 := (h.2.1 k hk).2.2.2.1
  have d8 : (8 * sgG k s (tn u) (i / 8) + i % 8) / 8 = sgG k s (tn u) (i / 8) := by omega
  have m8 : (8 * sgG k s (tn u) (i / 8) + i % 8) % 8 = i % 8 := by omega
  have en : tn (gfT t u k s) = tn t + tn u - s := rfl
  have hx : i / 8 < tn t + tn u - s := hi.1
  have en' : niT G (gfT t u k s) (i / 8) = niT G t (sgG k s (tn u) (i / 8)) := congrArg (fun x => G.i 4 x) (gf_sy rs m1' nw)
  have tu0 : ∀ x, x < tn t → tu t x ≤ x := fun x hx => by
    by_cases z : x = 0
    · rw [z, h.1.2.1]; omega
    · exact (h.2.2 x (by omega) hx).2.1
  unfold ocT bsT
  rw [d8, m8, en']
  by_cases inn : i % 8 < niT G t (sgG k s (tn u) (i / 8))
  · rw [if_pos inn, if_pos inn, if_pos inn, if_pos inn]
    rcases gb_node (s := s) nw with ⟨x1, x2⟩ | ⟨x1, x2⟩ | ⟨x1, x2⟩
    · rw [x2, x1]
      obtain ⟨_, _, f1, f2, _⟩ := gT_b (t := t) (u := u) (k := k) (s := s) (Nat.le_refl k) (by omega)
      rw [if_pos rfl] at f1
      rw [Nat.sub_self] at f2
      rw [f1, f2, rq]
      refine ⟨rfl, ?_⟩
      have := tu0 k hk
      by_cases z : tu t k = 0
      · exact Or.inl ⟨z, z⟩
      · exact Or.inr ⟨tu t k - 1, tu t k - 1, by omega, by omega, Or.inl ⟨by omega, rfl⟩, by omega⟩
    · rw [x2]
      obtain ⟨_, _, f1, f2, _⟩ := gT_a (t := t) (u := u) (s := s) x1
      rw [f1, f2]
      refine ⟨rfl, ?_⟩
      have := tu0 (i / 8) (by omega)
      by_cases z : tu t (i / 8) = 0
      · exact Or.inl ⟨z, z⟩
      · exact Or.inr ⟨tu t (i / 8) - 1, tu t (i / 8) - 1, by omega, by omega, Or.inl ⟨by omega, rfl⟩, by omega⟩
    · rw [x2]
      obtain ⟨_, _, f1, f2, _⟩ := gT_c (t := t) (u := u) (k := k) (s := s) x1
      rw [f1, f2]
      refine ⟨rfl, Or.inr ?_⟩
      have le := tu0 (i / 8 + s - tn u) (by omega)
      have ge := (h.2.2 (i / 8 + s - tn u) (by omega) (by omega)).1
      rcases h.par2 hq hk hs (show k + s ≤ i / 8 + s - tn u by omega) (by omega) with p | p
      · rw [gfP_0 p]
        exact ⟨tu t (i / 8 + s - tn u) - 1, tu t (i / 8 + s - tn u) - 1, by omega, by omega, Or.inl ⟨by omega, rfl⟩, by omega⟩
      · rw [gfP_1 (show 1 ≤ s by omega) (show k + s ≤ tu t (i / 8 + s - tn u) by omega)]
        exact ⟨tu t (i / 8 + s - tn u) + tn u - s - 1, tu t (i / 8 + s - tn u) - 1, by omega, by omega, Or.inr ⟨by omega, by omega⟩, by omega⟩
  · rw [if_neg inn, if_neg inn, if_neg inn, if_neg inn]
    refine ⟨rfl, Or.inr ⟨i / 8, sgG k s (tn u) (i / 8), rfl, rfl, ?_, ?_⟩⟩
    · rcases gb_node (s := s) nw with ⟨x1, x2⟩ | ⟨x1, x2⟩ | ⟨x1, x2⟩
      · exfalso
        rw [x2] at inn
        exact inn (hin x1)
      · exact Or.inl ⟨x1, x2⟩
      · exact Or.inr ⟨x1, by omega⟩
    · rcases gb_node (s := s) nw with ⟨x1, x2⟩ | ⟨x1, x2⟩ | ⟨x1, x2⟩ <;> omega
/-- a node that tells such an instance: its production, its number, its occs -/
theorem gf_occ (hq : QG G) (h : TOK G t ce me) (hk : k < tn t) (hs : me k = k + s) (m1' : 1 ≤ tn u) {b b0 : Nat} (S : STY k s (tn u) b b0) (hb : b0 < tn t) : tp (gfT t u k s) b = tp t b0 ∧ to' (gfT t u k s) b = to' t b0 ∧ ∀ o, o / 8 < G.i 6 (tp t b0) → nwG k (tn u) (inT (gfC k s (tn u) ce cu) b o / 8) = false ∧ 8 * sgG k s (tn u) (inT (gfC k s (tn u) ce cu) b o / 8) + inT (gfC k s (tn u) ce cu) b o % 8 = inT ce b0 o := by
  have l := h.lt hq hk
  have n4 := (h.2.1 k hk).2.2.2.1
  have s1 : 1 ≤ s := by omega
  -- where a place of the tree is now, and back
  have back : ∀ c, (c ≤ k ∨ k + s ≤ c) → nwG k (tn u) (gfP k s (tn u) c) = false ∧ sgG k s (tn u) (gfP k s (tn u) c) = c := fun c hc => by
    by_cases z : c ≤ k
    · rw [gfP_0 z]
      exact ⟨decide_eq_false (by omega), by unfold sgG; rw [if_pos z]⟩
    · rw [gfP_1 s1 (show k + s ≤ c by omega)]
      exact ⟨decide_eq_false (by omega), by unfold sgG; rw [if_neg (by omega)]; omega⟩
  have occ : ∀ (C : Nat → Nat), gfC k s (tn u) ce cu b = (fun j => gfP k s (tn u) (ce b0 j)) → nwG k (tn u) b = false → sgG k s (tn u) b = b0 → (∀ j, 1 ≤ j → j < G.i 6 (tp t b0) → ce b0 j ≤ k ∨ k + s ≤ ce b0 j) → ∀ o, o / 8 < G.i 6 (tp t b0) → nwG k (tn u) (inT (gfC k s (tn u) ce cu) b o / 8) = false ∧ 8 * sgG k s (tn u) (inT (gfC k s (tn u) ce cu) b o / 8) + inT (gfC k s (tn u) ce cu) b o % 8 = inT ce b0 o := fun _ eC e1 e2 off o ho => by
    rw [inT_d, inT_m]
    unfold inT
    by_cases z : o / 8 = 0
    · rw [if_pos z, if_pos z]
      exact ⟨e1, by rw [e2]⟩
    · rw [if_neg z, if_neg z, eC]
      obtain ⟨c1, c2⟩ := back (ce b0 (o / 8)) (off (o / 8) (by omega) ho)
      exact ⟨c1, by rw [c2]⟩
  rcases S with ⟨x1, x2⟩ | ⟨x1, x2⟩
  · subst x2
    obtain ⟨p1, p2, _⟩ := gT_a (t := t) (u := u) (s := s) x1
    exact ⟨p1, p2, occ (fun _ => 0) (gf3_a x1) (decide_eq_false (by omega)) (by unfold sgG; rw [if_pos (by omega)]) fun j j1 j2 => h.off hq hk hs x1 j1 (by omega)⟩
  · have eb : b + s - tn u = b0 := by omega
    obtain ⟨p1, p2, _⟩ := gT_c (t := t) (u := u) (k := k) (s := s) x1
    rw [eb] at p1 p2
    refine ⟨p1, p2, occ (fun _ => 0) ?_ (decide_eq_false (by omega)) (by unfold sgG; rw [if_neg (by omega)]; omega) fun j j1 j2 => ?_⟩
    · have : gfC k s (tn u) ce cu b = fun j => gfP k s (tn u) (ce (b + s - tn u) j) := gf3_c x1
      rw [this, eb]
    · have := h.offb hq hb j1 (show j ≤ G.i 6 (tp t b0) by omega)
      exact Or.inr (by omega)
variable {gv : Nat → Int32} {gN : Nat} {gr fr od : Nat → Nat} {kt : Nat → Bool}
theorem cor_graft (hq : QG G) (h : TOK2 G t ce me) (h' : TOK2 G (gfT t u k s) (gfC k s (tn u) ce cu) (gfM k s (tn u) me mu)) (P : GRP G t ce gN gr fr od kt) (hk : k < tn t) (hs : me k = k + s) (rq : tq u 0 = tq t k) (rs : G.i 7 (4 * tp u 0) = G.i 7 (4 * tp t k)) (m1' : 1 ≤ tn u) : COR G (gfT t u k s) t (gfC k s (tn u) ce cu) ce gv gv (mrkG G t u gr kt k s) (fun i => nwG k (tn u) (i / 8)) (fun i => 8 * sgG k s (tn u) (i / 8) + i % 8) := by
  have l := h.1.lt hq hk
  have n4 := (h.1.2.1 k hk).2.2.2.1
  have s1 : 1 ≤ s := by omega
  have th0 : ∀ i, thT G (gfT t u k s) i → nwG k (tn u) (i / 8) = false → thT G t (8 * sgG k s (tn u) (i / 8) + i % 8) := fun i hi nw => gf_th (by omega) s1 rs m1' hi nw
  have mono : ∀ i j, nwG k (tn u) (i / 8) = false → nwG k (tn u) (j / 8) = false → i < j → 8 * sgG k s (tn u) (i / 8) + i % 8 < 8 * sgG k s (tn u) (j / 8) + j % 8 := fun i j ni nj lt => by
    rcases gb_node (s := s) ni with ⟨x1, x2⟩ | ⟨x1, x2⟩ | ⟨x1, x2⟩ <;> rcases gb_node (s := s) nj with ⟨y1, y2⟩ | ⟨y1, y2⟩ | ⟨y1, y2⟩ <;> rw [x2, y2] <;> omega
  have inj : ∀ i j, nwG k (tn u) (i / 8) = false → nwG k (tn u) (j / 8) = false → 8 * sgG k s (tn u) (i / 8) + i % 8 = 8 * sgG k s (tn u) (j / 8) + j % 8 → i = j := fun i j ni nj e => by
    by_cases a : i < j
    · have := mono i j ni nj a; omega
    · by_cases b : j < i
      · have := mono j i nj ni b; omega
      · omega
  -- what an instance hangs on, then and now
  have edge : ∀ i, thT G (gfT t u k s) i → nwG k (tn u) (i / 8) = false → (i / 8 = k → i % 8 < niT G t k) → akT G (gfT t u k s) i = akT G t (8 * sgG k s (tn u) (i / 8) + i % 8) ∧ ∀ o, (akT G (gfT t u k s) i).testBit o = true → nwG k (tn u) (scT G (gfT t u k s) (gfC k s (tn u) ce cu) i o / 8) = false ∧ 8 * sgG k s (tn u) (scT G (gfT t u k s) (gfC k s (tn u) ce cu) i o / 8) + scT G (gfT t u k s) (gfC k s (tn u) ce cu) i o % 8 = scT G t ce (8 * sgG k s (tn u) (i / 8) + i % 8) o := fun i hi nw hin => by
    obtain ⟨oc, bs⟩ := gf_base hq h.1 hk hs rq rs m1' hi nw hin
    have ea : akT G (gfT t u k s) i = akT G t (8 * sgG k s (tn u) (i / 8) + i % 8) := by
      unfold akT
      rcases bs with ⟨b1, b2⟩ | ⟨b, b0, b1, b2, b3, b4⟩
      · rw [b1, b2, if_pos rfl, if_pos rfl]
      · rw [b1, b2, if_neg (by omega), if_neg (by omega), Nat.add_sub_cancel, Nat.add_sub_cancel, (gf_occ (cu := cu) hq h.1 hk hs m1' b3 b4).1, oc]
    refine ⟨ea, fun o ho => ?_⟩
    have t0 := th0 i hi nw
    rw [ea] at ho
    obtain ⟨a1, a2, a3, a4, a5⟩ := ak_told hq h t0 ho
    rcases bs with ⟨b1, b2⟩ | ⟨b, b0, b1, b2, b3, b4⟩
    · exact absurd b2 a1
    · unfold scT
      rw [b2, Nat.add_sub_cancel] at a4 ⊢
      rw [b1, Nat.add_sub_cancel]
      exact (gf_occ (cu := cu) hq h.1 hk hs m1' b3 b4).2.2 o (in_us hq h.1 b4 a4).1
  refine ⟨fun i hi nw => th0 i hi nw, fun i j _ _ ni nj lt => mono i j ni nj lt, fun i hi nw mi => ?_⟩
  have nw : nwG k (tn u) (i / 8) = false := nw
  have mi : mrkG G t u gr kt k s i = false := mi
  unfold mrkG at mi
  rw [nw, Bool.false_or, Bool.or_eq_false_iff] at mi
  obtain ⟨mi1, mi2⟩ := mi
  have hin : i / 8 = k → i % 8 < niT G t k := fun z => by
    rw [decide_eq_true z, Bool.true_and] at mi1
    have := of_decide_eq_false mi1
    have e : G.i 4 (syT G t k) = niT G t k := rfl
    omega
  obtain ⟨ea, eo⟩ := edge i hi nw hin
  refine ⟨fun j nj _ => ?_, fun v v0 hv => ?_, fun j0 r1 r2 => ?_⟩
  · obtain ⟨o, o1, o2, o3⟩ := nj
    obtain ⟨_, e2⟩ := eo o o2
    have o3 : scT G (gfT t u k s) (gfC k s (tn u) ce cu) i o = j := o3
    rw [o3] at e2
    exact ⟨o, o1, by rw [← ea]; exact o2, e2.symm⟩
  · obtain ⟨oc, bs⟩ := gf_base hq h.1 hk hs rq rs m1' hi nw hin
    unfold wkT
    rcases bs with ⟨b1, b2⟩ | ⟨b, b0, b1, b2, b3, b4⟩
    · rw [if_pos b1, if_pos b2]
      show gv (i % 8) = gv ((8 * sgG k s (tn u) (i / 8) + i % 8) % 8)
      rw [show (8 * sgG k s (tn u) (i / 8) + i % 8) % 8 = i % 8 by omega]
    · have t0 := th0 i hi nw
      obtain ⟨p1, p2, _⟩ := gf_occ (cu := cu) hq h.1 hk hs m1' b3 b4
      have er : rlT G (gfT t u k s) i = rlT G t (8 * sgG k s (tn u) (i / 8) + i % 8) := by
        unfold rlT
        rw [b1, b2, Nat.add_sub_cancel, Nat.add_sub_cancel, p1, oc]
      obtain ⟨r1, r2, r3, r4, r5⟩ := rl_code hq h t0 (show ¬ bsT G t (8 * sgG k s (tn u) (i / 8) + i % 8) = 0 by omega)
      rw [if_neg (by omega), if_neg (show ¬ bsT G t (8 * sgG k s (tn u) (i / 8) + i % 8) = 0 by omega), er]
      have eown : to' (gfT t u k s) (bsT G (gfT t u k s) i - 1) = to' t (bsT G t (8 * sgG k s (tn u) (i / 8) + i % 8) - 1) := by rw [b1, b2, Nat.add_sub_cancel, Nat.add_sub_cancel, p2]
      rw [eown]
      refine congrArg (fun L => List.headD L (nI 0)) (evC_cg (ak := akT G t (8 * sgG k s (tn u) (i / 8) + i % 8)) (fun q hq' => ?_) _ _ _ fun j j1 j2 => r4 j j1 (by omega))
      have hb : (akT G (gfT t u k s) i).testBit q = true := by rw [ea]; exact hq'
      obtain ⟨_, e2⟩ := eo q hb
      have n := (hv (scT G (gfT t u k s) (gfC k s (tn u) ce cu) i q) ⟨q, tb_lt (akT_lt hq h t0) hq', hb, rfl⟩).2
      show v (scT G (gfT t u k s) (gfC k s (tn u) ce cu) i q) = v0 (scT G t ce (8 * sgG k s (tn u) (i / 8) + i % 8) q)
      rw [n]
      exact congrArg v0 e2
  · -- its knot has no one that goes: it is one knot still
    have r1 : rcB G t ce (8 * sgG k s (tn u) (i / 8) + i % 8) j0 = true := r1
    have r2 : rcB G t ce j0 (8 * sgG k s (tn u) (i / 8) + i % 8) = true := r2
    generalize hi0 : 8 * sgG k s (tn u) (i / 8) + i % 8 = i0 at *
    have t0 : thT G t i0 := by rw [← hi0]; exact th0 i hi nw
    have i08 := (th_320 h t0).1
    obtain ⟨_, tj0⟩ := rc_th hq h i08 r1
    have kb : knB G t ce i0 = true := (knB_t hq h).2 ⟨t0, rc_trans hq h i08 (th_320 h tj0).1 r1 r2⟩
    have g0 := (P.1 i0).1 t0
    have tie := P.tie hq h t0 (show gr i0 = gr i0 - 1 + 1 by omega)
    have out : ∀ y, gr y = gr i0 → thT G t y ∧ (y / 8 < k ∨ k + s ≤ y / 8) := fun y gy => by
      have ty : thT G t y := (P.1 y).2 (by omega)
      refine ⟨ty, ?_⟩
      by_cases c : y / 8 < k ∨ k + s ≤ y / 8
      · exact c
      · exfalso
        have : gnA G t gr kt k (8 * (k + s)) (gr i0 - 1) = true := gnA_t.2 ⟨⟨y, by omega, by omega, ty, by omega⟩, by rw [← tie]; exact kb⟩
        rw [mi2] at this; exact absurd this (by decide)
    -- where one of it is now
    have bk : ∀ y, gr y = gr i0 → ∃ z, thT G (gfT t u k s) z ∧ nwG k (tn u) (z / 8) = false ∧ ¬ z / 8 = k ∧ 8 * sgG k s (tn u) (z / 8) + z % 8 = y := fun y gy => by
      obtain ⟨ty, oy⟩ := out y gy
      have hy := ty.1
      obtain ⟨x, x1, x2, x3, x4⟩ : ∃ x, x < tn t + tn u - s ∧ nwG k (tn u) x = false ∧ ¬ x = k ∧ sgG k s (tn u) x = y / 8 := by
        rcases oy with c | c
        · exact ⟨y / 8, by omega, decide_eq_false (by omega), by omega, by unfold sgG; rw [if_pos (by omega)]⟩
        · exact ⟨y / 8 + tn u - s, by omega, decide_eq_false (by omega), by omega, by unfold sgG; rw [if_neg (by omega)]; omega⟩
      have d8 : (8 * x + y % 8) / 8 = x := by omega
      have m8 : (8 * x + y % 8) % 8 = y % 8 := by omega
      refine ⟨8 * x + y % 8, ⟨?_, ?_⟩, by rw [d8]; exact x2, by rw [d8]; exact x3, by rw [d8, m8, x4]; omega⟩
      · rw [d8]; exact x1
      · rw [d8, m8, gf_sy rs m1' x2, x4]; exact ty.2
    have step : ∀ a b, thT G (gfT t u k s) a → nwG k (tn u) (a / 8) = false → gr (8 * sgG k s (tn u) (a / 8) + a % 8) = gr i0 → thT G (gfT t u k s) b → nwG k (tn u) (b / 8) = false → NR G t ce (8 * sgG k s (tn u) (a / 8) + a % 8) (8 * sgG k s (tn u) (b / 8) + b % 8) → NR G (gfT t u k s) (gfC k s (tn u) ce cu) a b := fun a b ta na ga tb nb n => by
      have nk : ¬ a / 8 = k := fun z => by
        have := (out _ ga).2
        have e : sgG k s (tn u) (a / 8) = k := by unfold sgG; rw [if_pos (by omega)]; exact z
        omega
      obtain ⟨fa, fo⟩ := edge a ta na fun z => absurd z nk
      obtain ⟨_, o, o1, o2, o3⟩ := n
      rw [← fa] at o2
      obtain ⟨e1, e2⟩ := fo o o2
      have o3 : scT G t ce (8 * sgG k s (tn u) (a / 8) + a % 8) o = 8 * sgG k s (tn u) (b / 8) + b % 8 := o3
      rw [o3] at e2
      exact ⟨ta, o, o1, o2, inj _ _ e1 nb e2⟩
    have mid : ∀ a c b, gr a = gr i0 → gr b = gr i0 → NR G t ce a c → RTc (NR G t ce) c b → gr c = gr i0 := fun a c b ga gb n r => by
      have l1 := P.2.2.1 a c n.1 n.2
      have l2 := P.le r
      omega
    have path : ∀ n a b, thT G (gfT t u k s) a → nwG k (tn u) (a / 8) = false → gr (8 * sgG k s (tn u) (a / 8) + a % 8) = gr i0 → thT G (gfT t u k s) b → nwG k (tn u) (b / 8) = false → gr (8 * sgG k s (tn u) (b / 8) + b % 8) = gr i0 → Rn (NR G t ce) n (8 * sgG k s (tn u) (a / 8) + a % 8) (8 * sgG k s (tn u) (b / 8) + b % 8) → RTc (NR G (gfT t u k s) (gfC k s (tn u) ce cu)) a b := fun n => by
      induction n with
      | zero =>
        intro a b ta na ga tb nb gb r
        have r : 8 * sgG k s (tn u) (a / 8) + a % 8 = 8 * sgG k s (tn u) (b / 8) + b % 8 := r
        rw [inj a b na nb r]; exact RTc.refl
      | succ n ih =>
        intro a b ta na ga tb nb gb r
        obtain ⟨c, c1, c2⟩ := r
        have gc := mid _ c _ ga gb c1 ⟨n, c2⟩
        obtain ⟨z, z1, z2, _, z4⟩ := bk c gc
        rw [← z4] at c1 c2 gc
        exact (RTc.one (step a z ta na ga z1 z2 c1)).trans (ih z b z1 z2 gc tb nb gb c2)
    have rcc : ∀ a b, thT G (gfT t u k s) a → nwG k (tn u) (a / 8) = false → gr (8 * sgG k s (tn u) (a / 8) + a % 8) = gr i0 → thT G (gfT t u k s) b → nwG k (tn u) (b / 8) = false → gr (8 * sgG k s (tn u) (b / 8) + b % 8) = gr i0 → rcB G t ce (8 * sgG k s (tn u) (a / 8) + a % 8) (8 * sgG k s (tn u) (b / 8) + b % 8) = true → rcB G (gfT t u k s) (gfC k s (tn u) ce cu) a b = true := fun a b ta na ga tb nb gb r => by
      obtain ⟨c, c1, n, c2⟩ := (rc_t hq h (th_320 h (th0 a ta na)).1).1 r
      have gc := mid _ c _ ga gb c1 ⟨n, c2⟩
      obtain ⟨z, z1, z2, _, z4⟩ := bk c gc
      rw [← z4] at c1 c2 gc
      exact (rc_t hq h' (th_320 h' ta).1).2 ⟨z, step a z ta na ga z1 z2 c1, path n z b z1 z2 gc tb nb gb c2⟩
    have gj : gr j0 = gr i0 := (P.same hq h tj0 t0).2 (Or.inr ⟨r2, r1⟩)
    obtain ⟨j, j1, j2, _, j4⟩ := bk j0 gj
    refine ⟨j, j2, j4, rcc i j hi nw (by rw [hi0]) j1 j2 (by rw [j4]; exact gj) (by rw [hi0, j4]; exact r1), rcc j i j1 j2 (by rw [j4]; exact gj) hi nw (by rw [hi0]) (by rw [hi0, j4]; exact r2)⟩
end cor
