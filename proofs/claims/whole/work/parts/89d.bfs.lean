-- the class goes through all that an instance needs, all that it reaches
def Rn (R : Nat → Nat → Prop) : Nat → Nat → Nat → Prop
  | 0, i, j => i = j
  | n + 1, i, j => ∃ k, R i k ∧ Rn R n k j
/-- reached in any number of steps -/
def RTc (R : Nat → Nat → Prop) (i j : Nat) : Prop := ∃ n, Rn R n i j
theorem RTc.refl {R : Nat → Nat → Prop} {i : Nat} : RTc R i i := ⟨0, rfl⟩
theorem Rn.add {R : Nat → Nat → Prop} : ∀ {n m i j k : Nat}, Rn R n i j → Rn R m j k → Rn R (n + m) i k
  | 0, m, i, j, k, h, h' => by
    have h : i = j := h
    subst h; rw [Nat.zero_add]; exact h'
  | n + 1, m, i, j, k, h, h' => by
    obtain ⟨x, h1, h2⟩ := h
    rw [show n + 1 + m = n + m + 1 by omega]
    exact ⟨x, h1, Rn.add h2 h'⟩
theorem RTc.trans {R : Nat → Nat → Prop} {i j k : Nat} (h : RTc R i j) (h' : RTc R j k) : RTc R i k := by
  obtain ⟨n, a⟩ := h
  obtain ⟨m, b⟩ := h'
  exact ⟨n + m, a.add b⟩
theorem RTc.one {R : Nat → Nat → Prop} {i j : Nat} (h : R i j) : RTc R i j := ⟨1, j, h, rfl⟩
theorem RTc.inv {R : Nat → Nat → Prop} {P : Nat → Prop} (hP : ∀ i j, P i → R i j → P j) : ∀ {i j : Nat}, RTc R i j → P i → P j := fun {i j} h => by
  obtain ⟨n, h⟩ := h
  induction n generalizing i with
  | zero => intro p; have h : i = j := h; subst h; exact p
  | succ n ih => intro p; obtain ⟨k, h1, h2⟩ := h; exact ih h2 (hP i k p h1)
theorem lenI (a : Nat) (n : Nat) (h : len a = n) : Int32.ofNat (len a) = nI n := by rw [h]; rfl
theorem s_clearFlags {a n : Nat} {M : Mm} (N : Nat) (hlen : len a = n) (hn : n ≤ 1000) (hN : 2000 < N) : ∃ M', D_X11_clearFlags N a M = some M' ∧ (∀ j, j < n → M'.1 a j = nI 0) ∧ FX (fun b _ => b = a) M M' := by
  have key : ∀ (fu i : Nat) (M : Mm), i ≤ n → n < i + fu → (∀ j, j < i → M.1 a j = nI 0) → ∃ M', L_X11_clearFlags_2 a fu (nI i) M = some M' ∧ (∀ j, j < n → M'.1 a j = nI 0) ∧ FX (fun b _ => b = a) M M' := fun fu => by
    induction fu with
    | zero => intro i M h1 h2; omega
    | succ fu ih =>
      intro i M h1 h2 h3
      rw [L_X11_clearFlags_2, lenI a n hlen, hlen]
      simp only [n_le (show n < 2 ^ 31 by omega) (show i < 2 ^ 31 by omega)]
      by_cases e : n ≤ i
      · rw [if_pos e]; exact ⟨M, rfl, fun j hj => h3 j (by omega), FX.refl⟩
      · have f1 : FX (fun b _ => b = a) M (upI M a i (nI 0)) := FX.I rfl
        rw [if_neg e, stZ_0 (by omega) (by omega), Option.bind_some, Option.bind_some, nI_add]
        obtain ⟨M', a1, a2, a3⟩ := ih (i + 1) _ (by omega) (by omega) (fun j hj => by
          rw [upI_j]
          by_cases z : j = i
          · rw [if_pos z]
          · rw [if_neg z]; exact h3 j (by omega))
        exact ⟨M', a1, a2, f1.trans a3⟩
  exact key N 0 M (by omega) (by omega) (fun j hj => absurd hj (Nat.not_lt_zero _))
/-- the search: how many, which, whether -/
def BSt (w c : Nat) (l : Nat → Nat) (sn : Nat → Bool) (M : Mm) : Prop := M.1 w 18 = nI c ∧ c = cnt sn 320 ∧ (∀ x, x < 320 → M.1 (w + 16) x = bI (sn x)) ∧ (∀ m, m < c → M.1 (w + 17) m = nI (l m) ∧ l m < 320 ∧ sn (l m) = true) ∧ ∀ x, x < 320 → sn x = true → ∃ m, m < c ∧ l m = x
def PBf (w b j : Nat) : Prop := b = w ∧ j = 18 ∨ b = w + 16 ∨ b = w + 17
section tok
variable {G : Gr} {t : TR} {ce : Nat → Nat → Nat} {me : Nat → Nat}
theorem CT.bf {w : Nat} {M M' : Mm} (h : CT w G t M) (f : FX (PBf w) M M') : CT w G t M' := by
  refine ⟨(f.2 w 0 (fun z => by unfold PBf at z; omega)).1.trans h.1, fun e he => (h.2 e he).fx f fun k k1 k2 k3 z => by unfold PBf at z; omega⟩
theorem CLk.fx {P : Nat → Nat → Prop} {w : Nat} {M M' : Mm} (h : CLk w G t ce me M) (f : FX P M M') (hP : ∀ b j, b = w + 6 ∨ b = w + 11 ∨ b = w + 13 ∨ b = w + 14 ∨ b = w + 15 → ¬ P b j) : CLk w G t ce me M' := by
  have g : ∀ b j, b = w + 6 ∨ b = w + 11 ∨ b = w + 13 ∨ b = w + 14 ∨ b = w + 15 → M'.1 b j = M.1 b j := fun b j z => (f.2 b j (hP b j z)).1
  refine ⟨fun k hk => ⟨(g _ _ (by omega)).trans (h.1 k hk).1, fun j j1 j2 => (g _ _ (by omega)).trans ((h.1 k hk).2 j j1 j2)⟩, fun x hx => (g _ _ (by omega)).trans (h.2.1 x hx), fun i hi => ?_⟩
  obtain ⟨a1, a2, a3⟩ := h.2.2 i hi
  exact ⟨(g _ _ (by omega)).trans a1, (g _ _ (by omega)).trans a2, (g _ _ (by omega)).trans a3⟩
theorem CLk.bf {w : Nat} {M M' : Mm} (h : CLk w G t ce me M) (f : FX (PBf w) M M') : CLk w G t ce me M' := h.fx f fun b j z q => by unfold PBf at q; omega
theorem CG.bf {g w : Nat} {M M' : Mm} (hg : g = 35 ∨ g = 52) (hw : w = 69 ∨ w = 87) (h : CG g G M) (f : FX (PBf w) M M') : CG g G M' := h.fx f fun k hk j q => by unfold PBf at q; omega
theorem s_instance {w k o : Nat} {M : Mm} (N : Nat) (hq : QG G) (h : TOK2 G t ce me) (L : CLk w G t ce me M) (hk : k < tn t) (ho : o < 32) (hd : o / 8 < G.i 6 (tp t k)) : D_X8_instance N w (nI k) (nI o) M = some (nI (inT ce k o)) := by
  have h40 := h.2.2.2.1
  have hsd := hq.sd (h.1.2.1 k hk).1
  unfold D_X8_instance
  rw [dv_n (by omega) (by omega) (by omega), Option.bind_some, pk_mul, nI_add, ldI_n (by omega) (by omega)]
  have e : M.1 (w + 11) (4 * k + o / 8) = nI (if o / 8 = 0 then k else ce k (o / 8)) := by
    by_cases z : o / 8 = 0
    · rw [if_pos z, z, Nat.add_zero]; exact (L.1 k hk).1
    · rw [if_neg z]; exact (L.1 k hk).2 _ (by omega) hd
  rw [e, Option.bind_some, rm_n (by omega) (by omega) (by omega), Option.bind_some, pk_mul, nI_add]; rfl
theorem th_320 (h : TOK2 G t ce me) {i : Nat} (hi : thT G t i) : i < 8 * tn t ∧ i < 320 := by
  have := hi.1
  have := h.2.2.2.1
  omega
theorem s_addAll {w k oc : Nat} {kI : Int32} (N : Nat) (hN : 2000 < N) (hq : QG G) (hw : w = 69 ∨ w = 87) (h : TOK2 G t ce me) (hoc : oc < 2 ^ 32) (hk : ∀ o, oc.testBit o = true → kI = nI k ∧ k < tn t ∧ (G.i 8 (tp t k)).testBit o = true) {c : Nat} {l : Nat → Nat} {sn : Nat → Bool} {M : Mm} (L : CLk w G t ce me M) (hB : BSt w c l sn M) : ∃ c' l' sn' M', D_X8_addAll N w kI (nI oc) M = some M' ∧ BSt w c' l' sn' M' ∧ c ≤ c' ∧ (∀ m, m < c → l' m = l m) ∧ (∀ x, sn' x = true ↔ sn x = true ∨ ∃ o, oc.testBit o = true ∧ inT ce k o = x) ∧ FX (PBf w) M M' := by
  have key : ∀ (fu b c : Nat) (l : Nat → Nat) (sn : Nat → Bool) (M : Mm), b ≤ 32 → 32 < b + fu → CLk w G t ce me M → BSt w c l sn M → ∃ c' l' sn' M', L_X8_addAll_2 (nI oc) N w kI fu (nI b) M = some M' ∧ BSt w c' l' sn' M' ∧ c ≤ c' ∧ (∀ m, m < c → l' m = l m) ∧ (∀ x, sn' x = true ↔ sn x = true ∨ ∃ o, b ≤ o ∧ oc.testBit o = true ∧ inT ce k o = x) ∧ FX (PBf w) M M' := fun fu => by
    induction fu with
    | zero => intro b c l sn M h1 h2; omega
    | succ fu ih =>
      intro b c l sn M h1 h2 L hB
      rw [L_X8_addAll_2]
      simp only [n_le (show 32 < 2 ^ 31 by omega) (show b < 2 ^ 31 by omega)]
      by_cases e : 32 ≤ b
      · rw [if_pos e]
        refine ⟨c, l, sn, M, rfl, hB, Nat.le_refl _, fun _ _ => rfl, fun x => ⟨Or.inl, fun z => ?_⟩, FX.refl⟩
        rcases z with z | ⟨o, o1, o2, o3⟩
        · exact z
        · have := tb_lt hoc o2; omega
      · rw [if_neg e, bitI hoc (by omega)]
        simp only [bI_0]
        cases x : oc.testBit b
        · rw [if_pos rfl, Option.bind_some, nI_add]
          obtain ⟨c', l', sn', M', a1, a2, a3, a4, a5, a6⟩ := ih (b + 1) c l sn M (by omega) (by omega) L hB
          refine ⟨c', l', sn', M', a1, a2, a3, a4, fun y => ⟨fun z => ?_, fun z => ?_⟩, a6⟩
          · rcases (a5 y).1 z with z | ⟨o, o1, o2, o3⟩
            · exact Or.inl z
            · exact Or.inr ⟨o, by omega, o2, o3⟩
          · rcases z with z | ⟨o, o1, o2, o3⟩
            · exact (a5 y).2 (Or.inl z)
            · refine (a5 y).2 (Or.inr ⟨o, ?_, o2, o3⟩)
              by_cases w' : o = b
              · rw [w', x] at o2; exact absurd o2 (by decide)
              · omega
        · obtain ⟨k1, k2, k3⟩ := hk b x
          obtain ⟨s1, s2⟩ := in_us hq h.1 k2 k3
          have s3 := (th_320 h s2).2
          rw [if_neg (by decide), k1, s_instance N hq h L k2 (by omega) s1, Option.bind_some, ldI_n s3 (by omega), hB.2.2.1 _ s3, Option.bind_some]
          simp only [bI_0]
          rw [← k1]
          cases y : sn (inT ce k b)
          · have lt : c < 320 := by
              have := cnt_one (f := sn) (g := fun x => if x = inT ce k b then true else sn x) (n := 320) (inT ce k b) s3 (fun i _ hi => (if_neg hi).symm) y (if_pos rfl)
              have := cnt_le (fun x => if x = inT ce k b then true else sn x) 320
              have := hB.2.1
              omega
            rw [if_pos rfl, hB.1]
            simp only [n_le (show 320 < 2 ^ 31 by omega) (show c < 2 ^ 31 by omega)]
            rw [if_neg (by omega), stZ_1 s3 (by omega), Option.bind_some, upI_n (by omega), hB.1, stI_n lt (by omega), Option.bind_some, upI_n (by omega), upI_n (by omega), hB.1, nI_add, pI_n, Option.bind_some, Option.bind_some, nI_add]
            have f1 : FX (PBf w) M (upI (upI (upI M (w + 16) (inT ce k b) (nI 1)) (w + 17) c (nI (inT ce k b))) w 18 (nI (c + 1))) := ((FX.I (P := PBf w) (by unfold PBf; omega)).trans (FX.I (by unfold PBf; omega))).trans (FX.I (by unfold PBf; omega))
            have B1 : BSt w (c + 1) (fun m => if m = c then inT ce k b else l m) (fun x => if x = inT ce k b then true else sn x) (upI (upI (upI M (w + 16) (inT ce k b) (nI 1)) (w + 17) c (nI (inT ce k b))) w 18 (nI (c + 1))) := by
              refine ⟨upI_s _ _ _ _, ?_, fun x hx => ?_, fun m hm => ?_, fun x hx hs => ?_⟩
              · have := cnt_one (f := sn) (g := fun x => if x = inT ce k b then true else sn x) (n := 320) (inT ce k b) s3 (fun i _ hi => (if_neg hi).symm) y (if_pos rfl)
                rw [this, ← hB.2.1]
              · rw [upI_n (by omega), upI_n (by omega), upI_j]
                show _ = bI (if x = inT ce k b then true else sn x)
                by_cases z : x = inT ce k b
                · rw [if_pos z, if_pos z]; rfl
                · rw [if_neg z, if_neg z]; exact hB.2.2.1 x hx
              · rw [upI_n (by omega), upI_j]
                show _ = nI (if m = c then inT ce k b else l m) ∧ (if m = c then inT ce k b else l m) < 320 ∧ (if (if m = c then inT ce k b else l m) = inT ce k b then true else sn (if m = c then inT ce k b else l m)) = true
                by_cases z : m = c
                · rw [if_pos z, if_pos z, if_pos rfl]; exact ⟨rfl, s3, rfl⟩
                · rw [if_neg z, if_neg z, upI_n (by omega)]
                  obtain ⟨q1, q2, q3⟩ := hB.2.2.2.1 m (by omega)
                  refine ⟨q1, q2, ?_⟩
                  split
                  · rfl
                  · exact q3
              · by_cases z : x = inT ce k b
                · exact ⟨c, by omega, by show (if c = c then _ else _) = x; rw [if_pos rfl, z]⟩
                · have hs : (if x = inT ce k b then true else sn x) = true := hs
                  rw [if_neg z] at hs
                  obtain ⟨m, m1', m2'⟩ := hB.2.2.2.2 x hx hs
                  exact ⟨m, by omega, by show (if m = c then _ else l m) = x; rw [if_neg (by omega)]; exact m2'⟩
            obtain ⟨c', l', sn', M', a1, a2, a3, a4, a5, a6⟩ := ih (b + 1) (c + 1) _ _ _ (by omega) (by omega) (L.bf f1) B1
            refine ⟨c', l', sn', M', a1, a2, by omega, fun m hm => ?_, fun v => ⟨fun z => ?_, fun z => ?_⟩, f1.trans a6⟩
            · rw [a4 m (by omega)]; exact if_neg (by omega)
            · rcases (a5 v).1 z with z | ⟨o, o1, o2, o3⟩
              · have z : (if v = inT ce k b then true else sn v) = true := z
                by_cases u : v = inT ce k b
                · exact Or.inr ⟨b, Nat.le_refl _, x, u.symm⟩
                · rw [if_neg u] at z; exact Or.inl z
              · exact Or.inr ⟨o, by omega, o2, o3⟩
            · refine (a5 v).2 ?_
              rcases z with z | ⟨o, o1, o2, o3⟩
              · left
                show (if v = inT ce k b then true else sn v) = true
                split
                · rfl
                · exact z
              · by_cases u : o = b
                · left
                  show (if v = inT ce k b then true else sn v) = true
                  rw [if_pos (by rw [← o3, u])]
                · exact Or.inr ⟨o, by omega, o2, o3⟩
          · rw [if_neg (by decide), Option.bind_some, nI_add]
            obtain ⟨c', l', sn', M', a1, a2, a3, a4, a5, a6⟩ := ih (b + 1) c l sn M (by omega) (by omega) L hB
            refine ⟨c', l', sn', M', a1, a2, a3, a4, fun v => ⟨fun z => ?_, fun z => ?_⟩, a6⟩
            · rcases (a5 v).1 z with z | ⟨o, o1, o2, o3⟩
              · exact Or.inl z
              · exact Or.inr ⟨o, by omega, o2, o3⟩
            · rcases z with z | ⟨o, o1, o2, o3⟩
              · exact (a5 v).2 (Or.inl z)
              · by_cases u : o = b
                · exact (a5 v).2 (Or.inl (by rw [← o3, u]; exact y))
                · exact (a5 v).2 (Or.inr ⟨o, by omega, o2, o3⟩)
  obtain ⟨c', l', sn', M', a1, a2, a3, a4, a5, a6⟩ := key N 0 c l sn M (by omega) (by omega) L hB
  exact ⟨c', l', sn', M', a1, a2, a3, a4, fun x => (a5 x).trans ⟨fun z => z.imp id fun ⟨o, _, o2⟩ => ⟨o, o2⟩, fun z => z.imp id fun ⟨o, o2⟩ => ⟨o, Nat.zero_le _, o2⟩⟩, a6⟩
end tok
