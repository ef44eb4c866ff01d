-- both sides answer: value, digest, anew
section q
variable {w q g : Nat} {G : Gr} {t : TR} {ce : Nat → Nat → Nat} {me : Nat → Nat} {gv val : Nat → Int32} {trn : Nat → Nat} {uns : Nat → Bool} {gN : Nat} {gr fr od : Nat → Nat} {kt : Nat → Bool} {dg : Nat → Bool} {A : Nat → Nat} {M : Mm} (N : Nat)
/-- the reference's values are the class's -/
theorem VI.vals (hq : QG G) (V : VI w q g G t ce me gv val trn uns gN gr fr od kt dg M) {i : Nat} (hi : thT G t i) : M.1 166 i = val i ∧ (knB G t ce i = true → M.1 168 i = nI (trn i) ∧ M.1 175 i = bI (uns i)) := by
  obtain ⟨h, C, L, hgv, ⟨P, K, e12, Vp, rows⟩, _, S, ad⟩ := V
  have emm : ∀ j, knB G t ce j = true → mmT G t ce j = mG gr (gr j - 1) := fun j kj => funext fun x => by
    rw [P.mm hq h kj x]
    have tj : thT G t j := ((knB_t hq h).1 kj).1
    have j0 := (P.1 j).1 tj
    unfold mG
    rw [show gr j - 1 + 1 = gr j by omega]
  have Vr : VALp G t ce gv (M.1 166) (fun j => (kI (wkT G t ce gv) (mG gr (gr j - 1)) 64 (zer (mG gr (gr j - 1)) (M.1 166))).2.2) (fun j => (kI (wkT G t ce gv) (mG gr (gr j - 1)) 64 (zer (mG gr (gr j - 1)) (M.1 166))).2.1) := fun j hj => by
    have v := S.2.2.2.2 j hj (ad j hj)
    refine ⟨v.1, fun k => ?_⟩
    rw [emm j k]
    exact ⟨(v.2 k).1, rfl, rfl⟩
  have u := Vr.uniq hq h P Vp (gr i) i (Nat.le_refl _) hi
  refine ⟨u.1, fun k => ?_⟩
  have v := (S.2.2.2.2 i hi (ad i hi)).2 k
  have u2 := u.2 k
  exact ⟨v.2.1.trans (by rw [show _ = trn i from u2.1]), v.2.2.trans (by rw [show _ = uns i from u2.2])⟩
theorem VI.rt (V : VI w q g G t ce me gv val trn uns gN gr fr od kt dg M) : RK3 G t ce gv M := V.2.2.2.2.2.2.1.1
theorem VI.n1 (V : VI w q g G t ce me gv val trn uns gN gr fr od kt dg M) : 1 ≤ tn t ∧ tn t ≤ 40 := ⟨V.1.1.1.1, V.1.2.2.2.1⟩
theorem VI.hasTree (V : VI w q g G t ce me gv val trn uns gN gr fr od kt dg M) : D_X12_hasTree N 137 M = some (nI 1) := by
  unfold D_X12_hasTree
  have n := V.n1
  rw [V.rt.1.2.1, if_neg (by rw [n_le (by omega) (by decide)]; omega), okZ_1]
theorem no_hasTree (h : M.1 137 50 = nI 0) : D_X12_hasTree N 137 M = some (nI 0) := by
  unfold D_X12_hasTree
  rw [h, if_pos (by decide), okZ_0]
theorem VI.w0 (V : VI w q g G t ce me gv val trn uns gN gr fr od kt dg M) : ¬ M.1 w 0 = nI 0 := by
  have n := V.n1
  rw [V.2.1.1, n_eq (by omega) (by decide)]; omega
theorem VI.s50 (V : VI w q g G t ce me gv val trn uns gN gr fr od kt dg M) : ¬ M.1 137 50 = nI 0 := by
  have n := V.n1
  rw [V.rt.1.2.1, n_eq (by omega) (by decide)]; omega
theorem hasNode_c (x : Int32) (V : VI w q g G t ce me gv val trn uns gN gr fr od kt dg M) : (D_X8_hasNode N w x M = some (nI 0) ∧ ∀ M', VI w q g G t ce me gv val trn uns gN gr fr od kt dg M' → D_X12_isNode N 137 x M' = some (nI 0)) ∨ ∃ k, k < tn t ∧ x = nI k ∧ D_X8_hasNode N w x M = some (nI 1) ∧ ∀ M', VI w q g G t ce me gv val trn uns gN gr fr od kt dg M' → D_X12_isNode N 137 x M' = some (nI 1) := by
  have n := V.n1
  unfold D_X8_hasNode D_X12_isNode
  simp only [jn, okZ_0, okZ_1]
  rw [V.2.1.1]
  rcases below_cases x (tn t) (by omega) with ⟨a, b⟩ | ⟨s, a, b, c, d, e⟩
  · refine Or.inl ⟨?_, fun M' V' => ?_⟩
    · rcases a with a | a
      · rw [if_pos a]
      · rw [if_neg a.1, if_pos a.2]
    · rw [V'.rt.1.2.1, b, Option.bind_some, okZ_0]
  · refine Or.inr ⟨s, a, b, ?_, fun M' V' => ?_⟩
    · rw [if_neg c, if_neg d]
    · rw [V'.rt.1.2.1, e, Option.bind_some, okZ_1]
theorem inst_A (hq : QG G) (x y : Int32) (hw : rf M 1 13 8 = some w) (V : VI w q g G t ce me gv val trn uns gN gr fr od kt dg M) : (D_X11_noInstance N 1 x y M = some (nI 4) ∧ ∀ M', VI w q g G t ce me gv val trn uns gN gr fr od kt dg M' → D_X12_isInstance N 137 x y M' = some (nI 0)) ∨ ∃ k a, k < tn t ∧ a < 8 ∧ thT G t (8 * k + a) ∧ x = nI k ∧ y = nI a ∧ D_X11_noInstance N 1 x y M = some (nI 0) ∧ ∀ M', VI w q g G t ce me gv val trn uns gN gr fr od kt dg M' → D_X12_isInstance N 137 x y M' = some (nI 1) := by
  have n := V.n1
  unfold D_X11_noInstance D_X12_isInstance
  rw [hw, Option.bind_some, if_neg V.w0, Option.bind_some]
  simp only [jn, okZ_0, okZ_1]
  rcases hasNode_c N x V with ⟨e1, e2⟩ | ⟨k, hk, rfl, e1, e2⟩
  · refine Or.inl ⟨by rw [e1, Option.bind_some, if_pos rfl], fun M' V' => ?_⟩
    rw [e2 M' V', Option.bind_some, if_pos rfl]
  · have s8 := syT_lt hq V.1.1 hk
    have a8 := hq.att8 s8
    have h9 : M.1 (w + 9) k = nI (att G (syT G t k)) := (V.2.1.2 k hk).2.2.2.2.2.2.2.1
    have ref : ∀ M', VI w q g G t ce me gv val trn uns gN gr fr od kt dg M' → D_X12_symbolOf N 137 (nI k) M' = some (nI (syT G t k)) ∧ D_X12_attributes N 137 (nI (syT G t k)) M' = some (nI (att G (syT G t k))) := fun M' V' => ⟨r_symbolOf N V'.1 V'.rt.1 hk, r_attrs N V'.rt.1.1 s8⟩
    unfold D_X8_hasInstance
    simp only [jn, okZ_0, okZ_1]
    rw [e1, Option.bind_some, if_neg z10, Option.bind_some, ldI_n (by omega) (by omega), h9, Option.bind_some]
    rcases below_cases y (att G (syT G t k)) (by omega) with ⟨a, b⟩ | ⟨s, a, b, c, d, e⟩
    · refine Or.inl ⟨?_, fun M' V' => ?_⟩
      · rcases a with a | a
        · rw [if_pos a, Option.bind_some, if_pos rfl]
        · rw [if_neg a.1, if_pos a.2, Option.bind_some, if_pos rfl]
      · rw [e2 M' V', Option.bind_some, if_neg z10, (ref M' V').1, Option.bind_some, (ref M' V').2, Option.bind_some, b, Option.bind_some, if_pos rfl]
    · refine Or.inr ⟨k, s, hk, by omega, ⟨by omega, ?_⟩, rfl, b, ?_, fun M' V' => ?_⟩
      · rw [show (8 * k + s) / 8 = k by omega, show (8 * k + s) % 8 = s by omega]; exact a
      · rw [if_neg c, if_neg d, Option.bind_some, if_neg z10]
      · rw [e2 M' V', Option.bind_some, if_neg z10, (ref M' V').1, Option.bind_some, (ref M' V').2, Option.bind_some, e, Option.bind_some, if_neg z10]
theorem noInst_0 (x y : Int32) (hw : rf M 1 13 8 = some w) (h : M.1 w 0 = nI 0) : D_X11_noInstance N 1 x y M = some (nI 3) := by
  unfold D_X11_noInstance
  rw [hw, Option.bind_some, if_pos h]
/-- no tree, or one -/
theorem IN0.tree {g g' w w' q q' : Nat} (I : IN0 g g' w w' q q' M) : (M.1 w 0 = nI 0 ∧ ∀ v, (upI M 1 0 v).1 137 50 = nI 0) ∨ ∃ G A t ce me gv val trn uns gN gr fr od kt dg, GrI g G A M ∧ VI w q g G t ce me gv val trn uns gN gr fr od kt dg M ∧ M.1 1 3 = M.1 137 53 := by
  obtain ⟨_, _, St⟩ := I
  rcases St with n0 | ⟨G, A, Gi, _, Tr⟩
  · exact Or.inl ⟨n0.2.2.2.1, fun v => by rw [upI_n (by decide)]; exact n0.2.2.2.2⟩
  · rcases Tr with z | ⟨z, t, ce, me, gv, val, trn, uns, gN, gr, fr, od, kt, dg, V⟩
    · exact Or.inl ⟨z.1, fun v => by rw [upI_n (by decide)]; exact z.2⟩
    · exact Or.inr ⟨G, A, t, ce, me, gv, val, trn, uns, gN, gr, fr, od, kt, dg, Gi, V, z⟩
end q
section q
variable {M : Mm} (N : Nat)
theorem q_value (hN : 20000 < N) (I : INV M) (a b : Int32) : QOK M (D_X11_value N 1 a b M) (D_X12_value N 137 a b) := by
  obtain ⟨_, g, g', w, w', q, q', I0⟩ := I
  have R := I0.2.1
  obtain ⟨hg, hw, hq, _⟩ := R.gg
  have rw' := R.w
  have rq := R.q
  rcases I0.tree with ⟨t1, t2⟩ | ⟨G, A, t, ce, me, gv, val, trn, uns, gN, gr, fr, od, kt, dg, Gi, V, _⟩
  · refine QOK.ref (v := nI 3) N I0 FX.refl ?_ FX.refl ?_
    · unfold D_X11_value
      rw [noInst_0 N a b rw' t1, Option.bind_some, if_neg (by decide), bind_pair]
    · unfold D_X12_value
      rw [no_hasTree N (t2 _), Option.bind_some, if_pos rfl, bind_pair]
  · have V2 := fun v => (V.q hw hq f10 : VI w q g G t ce me gv val trn uns gN gr fr od kt dg (upI M 1 0 v))
    rcases inst_A N Gi.1 a b rw' V with ⟨e1, e2⟩ | ⟨k, i, hk, hi, ht, rfl, rfl, e1, e2⟩
    · refine QOK.ref (v := nI 4) N I0 FX.refl ?_ FX.refl ?_
      · unfold D_X11_value
        rw [e1, Option.bind_some, if_neg (by decide), bind_pair]
      · unfold D_X12_value
        rw [(V2 _).hasTree, Option.bind_some, if_neg z10, e2 _ (V2 _), Option.bind_some, if_pos rfl, bind_pair]
    · have n := V.n1
      refine QOK.ans (v := val (8 * k + i)) N I0 FX.refl ?_ FX.refl ?_
      · unfold D_X11_value
        rw [e1, Option.bind_some, if_pos rfl, rq, Option.bind_some, pk_mul, nI_add, ldI_n (by omega) (by omega), V.2.2.2.2.1.2.2.1, Option.bind_some, bind_pair]
      · unfold D_X12_value
        rw [(V2 _).hasTree, Option.bind_some, if_neg z10, e2 _ (V2 _), Option.bind_some, if_neg z10, pk_mul, nI_add, show (137 : Nat) + 29 = 166 from rfl, ldI_n (by omega) (by omega), ((V2 _).vals Gi.1 ht).1, Option.bind_some, bind_pair]
theorem q_anew (I : INV M) (a : Int32) : QOK M (D_X11_anew N 1 a M) (D_X12_anew N 137 a) := by
  obtain ⟨_, g, g', w, w', q, q', I0⟩ := I
  have R := I0.2.1
  obtain ⟨hg, hw, hq, _⟩ := R.gg
  have rw' := R.w
  rcases arg2 a 1 (by decide) with h | ⟨k, hk, rfl, h1, h2⟩
  · refine QOK.ref (v := nI 1) N I0 FX.refl ?_ FX.refl ?_
    · unfold D_X11_anew
      simp only [bind_pair]
      rw [if_out h]
    · unfold D_X12_anew
      rw [out_from N _ h, Option.bind_some, if_pos rfl, bind_pair]
  · have x1 : D_X11_anew N 1 (nI k) M = if M.1 w 0 = nI 0 then D_X11_refuse N 1 (nI 3) M else if M.1 1 3 = nI 0 then D_X11_refuse N 1 (nI 7) M else if nI k = nI 0 then D_X11_answer N 1 (M.1 30 6) M else D_X11_answer N 1 (M.1 30 7) M := by
      unfold D_X11_anew
      simp only [bind_pair]
      rw [if_in h1 h2, rw', Option.bind_some]
    have y1 : ∀ M, D_X12_anew N 137 (nI k) M = ((D_X12_hasTree N 137 M).bind fun q3 => (if q3 = nI 0 then D_X12_refuse N 137 (nI 3) M else (if M.1 137 53 = nI 0 then D_X12_refuse N 137 (nI 7) M else (if nI k = nI 0 then D_X12_gives N 137 (M.1 137 54) M else D_X12_gives N 137 (M.1 137 55) M)))) := fun M => by
      unfold D_X12_anew
      simp only [bind_pair]
      rw [from_yes N M hk (by decide), Option.bind_some, if_neg z10]
    obtain ⟨B, n, Co⟩ := I0.1
    rcases I0.tree with ⟨t1, t2⟩ | ⟨G, A, t, ce, me, gv, val, trn, uns, gN, gr, fr, od, kt, dg, Gi, V, e3⟩
    · exact QOK.ref (v := nI 3) N I0 FX.refl (by rw [x1, if_pos t1]) FX.refl (by rw [y1, no_hasTree N (t2 _), Option.bind_some, if_pos rfl])
    · have V2 := fun v => (V.q hw hq f10 : VI w q g G t ce me gv val trn uns gN gr fr od kt dg (upI M 1 0 v))
      rw [if_neg V.w0, e3, Co.2.2.2.2.2.2.1, Co.2.2.2.2.2.2.2] at x1
      have y2 : ∀ v, D_X12_anew N 137 (nI k) (upI M 1 0 v) = if M.1 137 53 = nI 0 then D_X12_refuse N 137 (nI 7) (upI M 1 0 v) else (if nI k = nI 0 then D_X12_gives N 137 (M.1 137 54) (upI M 1 0 v) else D_X12_gives N 137 (M.1 137 55) (upI M 1 0 v)) := fun v => by
        rw [y1, (V2 _).hasTree, Option.bind_some, if_neg z10]; rfl
      by_cases c : M.1 137 53 = nI 0
      · rw [if_pos c] at x1
        exact QOK.ref (v := nI 7) N I0 FX.refl x1 FX.refl (by rw [y2, if_pos c])
      · rw [if_neg c] at x1
        by_cases d : nI k = nI 0
        · rw [if_pos d] at x1
          exact QOK.ans N I0 FX.refl x1 FX.refl (by rw [y2, if_neg c, if_pos d])
        · rw [if_neg d] at x1
          exact QOK.ans N I0 FX.refl x1 FX.refl (by rw [y2, if_neg c, if_neg d])
def digT (th : Nat → Bool) (val : Nat → Int32) : Nat → Int32
  | 0 => nI 17
  | n + 1 => if th n = true then nI 31 * digT th val n + val n else digT th val n
theorem q_digest (hN : 20000 < N) (I : INV M) : QOK M (D_X11_digest N 1 M) (D_X12_digest N 137) := by
  obtain ⟨_, g, g', w, w', q, q', I0⟩ := I
  have R := I0.2.1
  obtain ⟨hg, hw, hq, _⟩ := R.gg
  have rw' := R.w
  have rq := R.q
  rcases I0.tree with ⟨t1, t2⟩ | ⟨G, A, t, ce, me, gv, val, trn, uns, gN, gr, fr, od, kt, dg, Gi, V, e3⟩
  · refine QOK.ref (v := nI 3) N I0 FX.refl ?_ FX.refl ?_
    · unfold D_X11_digest
      simp only [bind_pair]
      rw [rw', Option.bind_some, if_pos t1]
    · unfold D_X12_digest
      rw [no_hasTree N (t2 _), Option.bind_some, if_pos rfl, bind_pair]
  · have V2 := (V.q hw hq f10 : VI w q g G t ce me gv val trn uns gN gr fr od kt dg (upI M 1 0 (nI 0)))
    have n := V.n1
    have cl : ∀ (fu i : Nat) (c : Int32), i ≤ 8 * tn t → 320 < i + fu → c = digT (thB G t) val i → L_X11_digest_21 M 1 N fu c (nI i) = D_X11_answer N 1 (digT (thB G t) val (8 * tn t)) M := fun fu => by
      induction fu with
      | zero => intro i c h1 h2; omega
      | succ fu ih =>
        intro i c h1 h2 hc
        rw [L_X11_digest_21, rw', Option.bind_some, V.2.1.1, pk_mul]
        simp only [n_le (show 8 * tn t < 2 ^ 31 by omega) (show i < 2 ^ 31 by omega), bind_pair]
        by_cases e : 8 * tn t ≤ i
        · rw [if_pos e, hc, show i = 8 * tn t by omega]
        · rw [if_neg e, Option.bind_some, dv_n (by omega) (by decide) (by decide), Option.bind_some, rm_n (by omega) (by decide) (by decide), Option.bind_some, s_hasInst N Gi.1 V.1 V.2.1 (by omega), Option.bind_some]
          simp only [bI_0]
          have st : digT (thB G t) val (i + 1) = if thB G t i = true then nI 31 * digT (thB G t) val i + val i else digT (thB G t) val i := rfl
          cases z : thB G t i
          · rw [if_pos rfl, Option.bind_some, nI_add]
            exact ih (i + 1) c (by omega) (by omega) (by rw [st, z, if_neg (by decide), hc])
          · rw [if_neg (by decide), rq, Option.bind_some, ldI_n (by omega) (by omega), V.2.2.2.2.1.2.2.1, Option.bind_some, Option.bind_some, Option.bind_some, nI_add]
            exact ih (i + 1) _ (by omega) (by omega) (by rw [st, z, if_pos rfl, hc])
    have rl : ∀ (fu i : Nat) (c : Int32), i ≤ 8 * tn t → 320 < i + fu → c = digT (thB G t) val i → L_X12_digest_18 (upI M 1 0 (nI 0)) 137 N fu c (nI i) = D_X12_gives N 137 (digT (thB G t) val (8 * tn t)) (upI M 1 0 (nI 0)) := fun fu => by
      induction fu with
      | zero => intro i c h1 h2; omega
      | succ fu ih =>
        intro i c h1 h2 hc
        rw [L_X12_digest_18, V2.rt.1.2.1, pk_mul]
        simp only [n_le (show 8 * tn t < 2 ^ 31 by omega) (show i < 2 ^ 31 by omega), bind_pair]
        by_cases e : 8 * tn t ≤ i
        · rw [if_pos e, hc, show i = 8 * tn t by omega]
        · rw [if_neg e, show (137 : Nat) + 37 = 174 from rfl, ldI_n (by omega) (by omega), (V2.rt.2.1 i (by omega)).1, Option.bind_some]
          simp only [bI_0]
          have st : digT (thB G t) val (i + 1) = if thB G t i = true then nI 31 * digT (thB G t) val i + val i else digT (thB G t) val i := rfl
          cases z : thB G t i
          · rw [if_pos rfl, Option.bind_some, nI_add]
            exact ih (i + 1) c (by omega) (by omega) (by rw [st, z, if_neg (by decide), hc])
          · rw [if_neg (by decide), show (137 : Nat) + 29 = 166 from rfl, ldI_n (by omega) (by omega), (V2.vals Gi.1 (thB_t.1 z)).1, Option.bind_some, Option.bind_some, Option.bind_some, nI_add]
            exact ih (i + 1) _ (by omega) (by omega) (by rw [st, z, if_pos rfl, hc])
    refine QOK.ans (v := digT (thB G t) val (8 * tn t)) N I0 FX.refl ?_ FX.refl ?_
    · unfold D_X11_digest
      simp only [bind_pair]
      rw [rw', Option.bind_some, if_neg V.w0]
      exact cl N 0 (nI 17) (Nat.zero_le _) (by omega) rfl
    · unfold D_X12_digest
      rw [V2.hasTree, Option.bind_some, if_neg z10]
      exact rl N 0 (nI 17) (Nat.zero_le _) (by omega) rfl
end q
