-- a change, both sides: what is shared
def FY (P : Nat → Nat → Prop) (M M' : Mm) : Prop := ∀ a j, ¬ P a j → M'.1 a j = M.1 a j ∧ M'.2.1 a j = M.2.1 a j
theorem FX.y {P : Nat → Nat → Prop} {M M' : Mm} (h : FX P M M') : FY P M M' := h.2
theorem Fr.y {S : Nat → Prop} {M M' : Mm} (h : Fr S M M') : FY (fun b _ => S b) M M' := fun a j ha => ⟨congrFun (h a ha).1 j, congrFun (h a ha).2.1 j⟩
theorem FY.x {P : Nat → Nat → Prop} {M M' : Mm} (h : FY P M M') : FX P M (M'.1, M'.2.1, M.2.2) := ⟨rfl, h⟩
theorem FY.trans {P : Nat → Nat → Prop} {M M' M'' : Mm} (h : FY P M M') (h' : FY P M' M'') : FY P M M'' := fun a j ha => ⟨(h' a j ha).1.trans (h a j ha).1, (h' a j ha).2.trans (h a j ha).2⟩
theorem FY.mono {P P' : Nat → Nat → Prop} {M M' : Mm} (h : FY P M M') (hs : ∀ a j, P a j → P' a j) : FY P' M M' := fun a j ha => h a j fun q => ha (hs a j q)
theorem FY.N {P : Nat → Nat → Prop} {M : Mm} {a k v : Nat} : FY P M (upN M a k v) := fun _ _ _ => ⟨rfl, rfl⟩
theorem s_chBegin {m : Nat} {M : Mm} (N : Nat) (hN : 2000 < N) (hm : m ≤ 40) : ∃ M', D_X0_begin N 30 (nI m) M = some M' ∧ (∀ j, j < 320 → M'.1 31 j = nI 0) ∧ (∀ e, e < m → M'.1 34 e = nI e) ∧ FX (fun b j => b = 31 ∨ b = 34 ∧ j < m) M M' := by
  obtain ⟨M1, a1, a2, a3⟩ := s_clearFlags (a := 31) (n := 320) (M := M) N rfl (by omega) hN
  have key : ∀ fu e M, e ≤ m → 40 < e + fu → (∀ x, x < e → M.1 34 x = nI x) → ∃ M', L_X0_begin_9 (nI m) 30 fu (nI e) M = some M' ∧ (∀ x, x < m → M'.1 34 x = nI x) ∧ FX (fun b j => b = 34 ∧ j < m) M M' := fun fu => by
    induction fu with
    | zero => intro e M h1 h2; omega
    | succ fu ih =>
      intro e M h1 h2 h3
      rw [L_X0_begin_9]
      simp only [n_le (show m < 2 ^ 31 by omega) (show e < 2 ^ 31 by omega)]
      by_cases c : m ≤ e
      · rw [if_pos c]; exact ⟨M, rfl, fun x hx => h3 x (by omega), FX.refl⟩
      · rw [if_neg c, show (30 : Nat) + 4 = 34 from rfl, stI_n (by omega) (by omega), Option.bind_some, Option.bind_some, nI_add]
        obtain ⟨M', b1, b2, b3⟩ := ih (e + 1) (upI M 34 e (nI e)) (by omega) (by omega) fun x hx => by
          rw [upI_j]
          by_cases z : x = e
          · rw [if_pos z, z]
          · rw [if_neg z]; exact h3 x (by omega)
        exact ⟨M', b1, b2, (FX.I (P := fun b j => b = 34 ∧ j < m) ⟨rfl, by omega⟩).trans b3⟩
  obtain ⟨M2, b1, b2, b3⟩ := key N 0 M1 (by omega) (by omega) fun x hx => by omega
  refine ⟨M2, ?_, fun j hj => by rw [(b3.2 31 j (by omega)).1]; exact a2 j hj, b2, (a3.mono fun b j z => Or.inl z).trans (b3.mono fun b j z => Or.inr z)⟩
  unfold D_X0_begin
  rw [show (30 : Nat) + 1 = 31 from rfl, a1, Option.bind_some]
  exact b1
def PBg (b _j : Nat) : Prop := b = 170 ∨ b = 171 ∨ b = 177 ∨ b = 178 ∨ b = 179
theorem r_beginsChange {M : Mm} (N : Nat) (hN : 2000 < N) : ∃ M', D_X12_beginsChange N 137 M = some M' ∧ (∀ j, j < 320 → M'.1 177 j = nI 0 ∧ M'.1 178 j = nI 0 ∧ M'.1 179 j = nI 0 ∧ M'.1 170 j = M.1 166 j) ∧ FX PBg M M' := by
  have key : ∀ fu i M0, i ≤ 320 → 320 < i + fu → FX PBg M M0 → (∀ j, j < i → M0.1 177 j = nI 0 ∧ M0.1 178 j = nI 0 ∧ M0.1 179 j = nI 0 ∧ M0.1 170 j = M.1 166 j) → ∃ M', L_X12_beginsChange_2 137 fu (nI i) M0 = some M' ∧ (∀ j, j < 320 → M'.1 177 j = nI 0 ∧ M'.1 178 j = nI 0 ∧ M'.1 179 j = nI 0 ∧ M'.1 170 j = M.1 166 j) ∧ FX PBg M M' := fun fu => by
    induction fu with
    | zero => intro i M h1 h2; omega
    | succ fu ih =>
      intro i M0 h1 h2 f h3
      rw [L_X12_beginsChange_2]
      simp only [n_le (show 320 < 2 ^ 31 by decide) (show i < 2 ^ 31 by omega)]
      by_cases c : 320 ≤ i
      · rw [if_pos c]; exact ⟨M0, rfl, fun x hx => h3 x (by omega), f⟩
      · rw [if_neg c, show (137 : Nat) + 40 = 177 from rfl, show (137 : Nat) + 41 = 178 from rfl, show (137 : Nat) + 42 = 179 from rfl, show (137 : Nat) + 29 = 166 from rfl, show (137 : Nat) + 33 = 170 from rfl, show (137 : Nat) + 30 = 167 from rfl, show (137 : Nat) + 34 = 171 from rfl, stZ_0 (by omega) (by omega), Option.bind_some, stZ_0 (by omega) (by omega), Option.bind_some, stZ_0 (by omega) (by omega), Option.bind_some, ldI_n (by omega) (by omega), Option.bind_some, stI_n (by omega) (by omega), Option.bind_some, ldI_n (by omega) (by omega), Option.bind_some, stI_n (by omega) (by omega), Option.bind_some, Option.bind_some, nI_add]
        refine ih (i + 1) _ (by omega) (by omega) ?_ ?_
        · exact ((((f.trans (FX.I (by unfold PBg; omega))).trans (FX.I (by unfold PBg; omega))).trans (FX.I (by unfold PBg; omega))).trans (FX.I (by unfold PBg; omega))).trans (FX.I (by unfold PBg; omega))
        · intro j hj
          have e166 : M0.1 166 i = M.1 166 i := (f.2 166 i (by unfold PBg; omega)).1
          by_cases z : j = i
          · subst z
            refine ⟨?_, ?_, ?_, ?_⟩
            · rw [upI_n (by decide), upI_n (by decide), upI_n (by decide), upI_n (by decide), upI_s]
            · rw [upI_n (by decide), upI_n (by decide), upI_n (by decide), upI_s]
            · rw [upI_n (by decide), upI_n (by decide), upI_s]
            · rw [upI_n (by decide), upI_s, upI_n (by decide), upI_n (by decide), upI_n (by decide), e166]
          · obtain ⟨k1, k2, k3, k4⟩ := h3 j (by omega)
            refine ⟨?_, ?_, ?_, ?_⟩
            · rw [upI_n (by decide), upI_n (by decide), upI_n (by decide), upI_n (by decide), upI_j, if_neg z, k1]
            · rw [upI_n (by decide), upI_n (by decide), upI_n (by decide), upI_j, if_neg z, upI_n (by decide), k2]
            · rw [upI_n (by decide), upI_n (by decide), upI_j, if_neg z, upI_n (by decide), upI_n (by decide), k3]
            · rw [upI_n (by decide), upI_j, if_neg z, upI_n (by decide), upI_n (by decide), upI_n (by decide), k4]
  exact key N 0 M (by omega) (by omega) FX.refl fun j hj => by omega
section tok
variable {G : Gr} {t : TR} {ce : Nat → Nat → Nat} {me : Nat → Nat} {gv val : Nat → Int32} {trn : Nat → Nat} {uns : Nat → Bool} {gN : Nat} {gr fr od : Nat → Nat} {kt : Nat → Bool} {dg : Nat → Bool} {A : Nat → Nat}
/-- the reference's values are those found -/
theorem RSI.vals {M : Mm} (hq : QG G) (h : TOK2 G t ce me) (P : GRP G t ce gN gr fr od kt) (S : RSI G t ce gv gr dg M) (ad : ∀ i, thT G t i → dg (gr i) = true) (Vp : VALp G t ce gv val trn uns) {i : Nat} (hi : thT G t i) : M.1 166 i = val i := by
  have emm : ∀ j, knB G t ce j = true → mmT G t ce j = mG gr (gr j - 1) := fun j kj => funext fun x => by
    rw [P.mm hq h kj x]
    have tj : thT G t j := ((knB_t hq h).1 kj).1
    have j0 := (P.1 j).1 tj
    unfold mG
    rw [show gr j - 1 + 1 = gr j by omega]
  have Vr : VALp G t ce gv (M.1 166) (fun j => (kI (wkT G t ce gv) (mG gr (gr j - 1)) 64 (zer (mG gr (gr j - 1)) (M.1 166))).2.2) (fun j => (kI (wkT G t ce gv) (mG gr (gr j - 1)) 64 (zer (mG gr (gr j - 1)) (M.1 166))).2.1) := fun j hj => by
    have v := S.2.2.2.2 j hj (ad j hj)
    refine ⟨v.1, fun k => ?_⟩
    rw [emm j k]
    exact ⟨(v.2 k).1, rfl, rfl⟩
  exact (Vr.uniq hq h P Vp (gr i) i (Nat.le_refl _) hi).1
end tok
theorem RSI.fy {P : Nat → Nat → Prop} {G : Gr} {t : TR} {ce : Nat → Nat → Nat} {gv : Nat → Int32} {gr : Nat → Nat} {dg : Nat → Bool} {M M' : Mm} (h : RSI G t ce gv gr dg M) (f : FY P M M') (hP : ∀ b j, P b j → b < 137) : RSI G t ce gv gr dg M' := by
  have e : ∀ b j, 137 ≤ b → M'.1 b j = M.1 b j := fun b j hb => (f b j (fun z => by have := hP b j z; omega)).1
  obtain ⟨h1, h2, h3, ⟨od, o1, o2, o3⟩, h5⟩ := h
  have k : RK3 G t ce gv (M'.1, M'.2.1, M.2.2) := by
    obtain ⟨r1, r2, r3, r4, r5, r6⟩ := h1
    exact ⟨⟨r1.1.fx f.x (fun j z => by have := hP _ _ z; omega) (fun j z => by have := hP _ _ z; omega), r1.2.fx f.x (fun z => by have := hP _ _ z; omega) (fun b j hb hb' z => by have := hP _ _ z; omega)⟩, r2.fx f.x fun j => ⟨fun z => by have := hP _ _ z; omega, fun z => by have := hP _ _ z; omega, fun z => by have := hP _ _ z; omega⟩, r3.fx f.x fun j z => by have := hP _ _ z; omega, r4.fx f.x fun j z => by have := hP _ _ z; omega, fun j hj => (e 167 j (by omega)).trans (r5 j hj), fun a ha => (e 163 a (by omega)).trans (r6 a ha)⟩
  refine ⟨k, fun x hx => by rw [e 176 _ (by omega)]; exact h2 x hx, h3, ⟨od, o1, by rw [e 137 _ (by omega)]; exact o2, fun k hk => by rw [e 169 _ (by omega)]; exact o3 k hk⟩, fun i hi hd => ?_⟩
  have v := h5 i hi hd
  have e6 : M'.1 166 = M.1 166 := funext fun j => e 166 j (by omega)
  unfold VLd at v ⊢
  rw [e6, e 168 _ (by omega), e 175 _ (by omega)]; exact v
def c0F (nw : Nat → Bool) (val ov : Nat → Int32) (i : Nat) : Bool := nw i || !decide (val i = ov i)
def CoT (B : Nat → Nat) (n : Nat) (M : Mm) : Prop := n ≤ 1000 ∧ M.1 2 6 = nI n ∧ M.1 137 5 = nI n ∧ (∀ i, i < n → M.1 3 i &&& nI 255 = nI (B i) ∧ B i < 256 ∧ M.1 138 i = nI (B i)) ∧ M.1 1 1 = M.1 137 7 ∧ M.1 1 2 = M.1 137 8
theorem CoI.t {B : Nat → Nat} {n : Nat} {M : Mm} (h : CoI B n M) : CoT B n M := ⟨h.1, h.2.1, h.2.2.1, h.2.2.2.1, h.2.2.2.2.1, h.2.2.2.2.2.1⟩
theorem CoT.fy {P : Nat → Nat → Prop} {B : Nat → Nat} {n : Nat} {M M' : Mm} (h : CoT B n M) (f : FY P M M') (hP : ∀ b j, P b j → ¬ b = 3 ∧ ¬ b = 138 ∧ ¬ (b = 2 ∧ j = 6) ∧ ¬ (b = 1 ∧ (j = 1 ∨ j = 2)) ∧ ¬ (b = 137 ∧ (j = 5 ∨ j = 7 ∨ j = 8))) : CoT B n M' := by
  obtain ⟨h1, h2, h3, h4, h5, h6⟩ := h
  have e : ∀ b j, (b = 3 ∨ b = 138 ∨ b = 2 ∧ j = 6 ∨ b = 1 ∧ (j = 1 ∨ j = 2) ∨ b = 137 ∧ (j = 5 ∨ j = 7 ∨ j = 8)) → M'.1 b j = M.1 b j := fun b j hb => (f b j (fun z => by have := hP b j z; omega)).1
  refine ⟨h1, by rw [e _ _ (by omega)]; exact h2, by rw [e _ _ (by omega)]; exact h3, fun i hi => by rw [e 3 _ (by omega), e 138 _ (by omega)]; exact h4 i hi, ?_, ?_⟩
  · rw [e 1 _ (by omega), e 137 _ (by omega)]; exact h5
  · rw [e 1 _ (by omega), e 137 _ (by omega)]; exact h6
/-- cells that the class's reckoning anew uses -/
def PCl (q' b j : Nat) : Prop := q' ≤ b ∧ b ≤ q' + 15 ∨ b = 32 ∨ b = 30 ∧ (j = 6 ∨ j = 7) ∨ b = 1 ∧ (j = 0 ∨ j = 3)
/-- cells that the reference may use ahead of its counting -/
def Pr (b j : Nat) : Prop := 137 ≤ b ∧ ¬ b = 139 ∧ ¬ b = 141 ∧ ¬ b = 143 ∧ ¬ (b = 137 ∧ j = 9)
section fin
variable {g g' w w' q q' w0 : Nat} {G : Gr} {A : Nat → Nat} {t t0 : TR} {ce ce0 : Nat → Nat → Nat} {me me0 : Nat → Nat} {gv gv0 ov val0 : Nat → Int32} {mk mr nw : Nat → Bool} {e : Nat → Nat} {trn0 : Nat → Nat} {uns0 : Nat → Bool} {gN0 : Nat} {gr0 fr0 od0 : Nat → Nat} {kt0 : Nat → Bool} {M : Mm}
theorem rf_of {a b c : Nat} {M M' : Mm} (h : rf M a b c = some g) (e : M'.2.2 a b = M.2.2 a b) : rf M' a b c = some g := by
  unfold rf at h ⊢
  rw [e]; exact h
theorem VALp.cg {val val' : Nat → Int32} {trn : Nat → Nat} {uns : Nat → Bool} (hq : QG G) (h : TOK2 G t ce me) (v : VALp G t ce gv val trn uns) (he : ∀ i, thT G t i → val' i = val i) : VALp G t ce gv val' trn uns := fun i hi => by
  refine ⟨fun k => ?_, fun k => ?_⟩
  · rw [he i hi, (v i hi).1 k]
    exact wk_cg hq h hi fun j hj => (he j (nr_th hq h hi hj)).symm
  · obtain ⟨a, b, c⟩ := (v i hi).2 k
    have mth : ∀ y, mmT G t ce i y = true → thT G t y := fun y hy => by
      unfold mmT at hy
      rw [Bool.and_eq_true] at hy
      exact ((knB_t hq h).1 hy.1).1
    have cg := kI_cg (wk := wkT G t ce gv) (m := mmT G t ce i) (A := thT G t) mth (fun u u' y hy e => wk_cg hq h (mth y hy) fun j hj => e j (nr_th hq h (mth y hy) hj)) (v := zer (mmT G t ce i) val') (v' := zer (mmT G t ce i) val) (fun y hy => by
      unfold zer
      by_cases z : mmT G t ce i y = true
      · rw [if_pos z, if_pos z]
      · rw [if_neg z, if_neg z]; exact he y hy) 64
    exact ⟨by rw [he i hi, a, cg.1 i hi], by rw [b, cg.2], by rw [c, cg.2]⟩
theorem chB_cg {gr : Nat → Nat} {mk : Nat → Bool} {nr : Nat → Nat → Bool} {c0 c1 : Nat → Bool} (h : ∀ i, ¬ gr i = 0 → c0 i = c1 i) : ∀ n, chB gr mk nr c0 n = chB gr mk nr c1 n
  | 0 => rfl
  | n + 1 => by
    funext i
    show (if gr i = n + 1 then c0 i && touB gr mk nr (chB gr mk nr c0 n) (n + 1) else chB gr mk nr c0 n i) = (if gr i = n + 1 then c1 i && touB gr mk nr (chB gr mk nr c1 n) (n + 1) else chB gr mk nr c1 n i)
    rw [chB_cg h n]
    by_cases c : gr i = n + 1
    · rw [if_pos c, if_pos c, h i (by omega)]
    · rw [if_neg c, if_neg c]
theorem anN_cg {gr : Nat → Nat} {mk : Nat → Bool} {nr : Nat → Nat → Bool} {c0 c1 : Nat → Bool} (h : ∀ i, ¬ gr i = 0 → c0 i = c1 i) : anN gr mk nr c0 = anN gr mk nr c1 ∧ chgN gr mk nr c0 = chgN gr mk nr c1 := by
  have tu : ∀ x, tuB gr mk nr c0 x = tuB gr mk nr c1 x := fun x => by unfold tuB; rw [chB_cg h]
  refine ⟨cnt_congr fun i _ => by rw [tu], cnt_congr fun i _ => ?_⟩
  rw [tu]
  by_cases c : gr i = 0
  · rw [decide_eq_false (fun z => z c)]; rfl
  · rw [h i c]
theorem s_anew (N : Nat) (hN : 20000 < N) (R : RfI g g' w w' q q' M) (hq : QG G) (Cg : CG g G M) (h : TOK2 G t ce me) (C : CT w G t M) (L : CLk w G t ce me M) (hgv : ∀ a, a < 4 → M.1 (w + 12) a = gv a) (h0 : TOK2 G t0 ce0 me0) (C0 : CV q w0 g G t0 ce0 me0 gv0 val0 trn0 uns0 gN0 gr0 fr0 od0 kt0 M) (Cr : COR G t t0 ce ce0 gv gv0 mk nw e) (hm : MKD G t mk nw M) (S : STD G t nw e M) (hnw : ∀ i, thT G t i → nw i = true → mk i = true) :
    ∃ val trn uns gN gr fr od kt M', D_X11_reckonAnew N 1 M = some M' ∧ CV q' w g G t ce me gv val trn uns gN gr fr od kt M' ∧ M'.2.2 (q' + 1) 6 = w ∧ RfI g g' w w' q' q M' ∧ M'.1 1 3 = nI 1 ∧ M'.1 30 6 = nI (anN gr mk (nrB G t ce) (c0F nw val fun i => val0 (e i))) ∧ M'.1 30 7 = nI (chgN gr mk (nrB G t ce) (c0F nw val fun i => val0 (e i))) ∧ FY (PCl q') M M' := by
  obtain ⟨hg, hw, hqq, _, _, hqq'⟩ := R.gg
  have hne : q = 105 ∧ q' = 121 ∨ q = 121 ∧ q' = 105 := R.2.2.2.2
  have R2 : RfI g g' w w' q' q (upN (upN M 1 15 q') 1 16 q) := by
    obtain ⟨⟨r1, r2, r3⟩, ⟨r4, r5, r6⟩, r7, r8, r9⟩ := R
    have e : ∀ j, (upN (upN M 1 15 q') 1 16 q).2.2 1 j = if j = 16 then q else if j = 15 then q' else M.2.2 1 j := fun j => by
      rw [upN3, if_pos rfl]
      show (if j = 16 then q else (upN M 1 15 q').2.2 1 j) = _
      rw [upN3, if_pos rfl]
    refine ⟨⟨by rw [e, if_neg (by decide), if_neg (by decide)]; exact r1, by rw [e, if_neg (by decide), if_neg (by decide)]; exact r2, r3⟩, ⟨by rw [e, if_neg (by decide), if_neg (by decide)]; exact r4, by rw [e, if_neg (by decide), if_neg (by decide)]; exact r5, r6⟩, by rw [e, if_neg (by decide), if_pos rfl], by rw [e, if_pos rfl], by omega⟩
  unfold D_X11_reckonAnew
  rw [R.q, Option.bind_some, R.q', Option.bind_some, pN_n, Option.bind_some, pN_n, Option.bind_some, R2.q, Option.bind_some, R2.g, Option.bind_some, R2.w, Option.bind_some]
  have f2 : FY (PCl q') M (upN (upN M 1 15 q') 1 16 q) := FY.N.trans FY.N
  obtain ⟨gN, gr, fr, od, kt, Ma, Mb, b0, b1, P, W, ref, fa, fb⟩ := s_workBegin (M := upN (upN M 1 15 q') 1 16 q) N hN hq h hw hqq' Cg hg C L hgv
  generalize hM2 : upN (upN M 1 15 q') 1 16 q = M2 at *
  have e2 : M2.1 = M.1 ∧ M2.2.1 = M.2.1 := by rw [← hM2]; exact ⟨rfl, rfl⟩
  have Ra : RfI g g' w w' q' q Ma := by unfold RfI; rw [(fa 1 (by omega)).2.2]; exact R2
  have Rb : RfI g g' w w' q' q Mb := by unfold RfI; rw [(fb 1 (by omega)).2.2]; exact R2
  rw [b0, Option.bind_some, Ra.q, Option.bind_some, Ra.w, Option.bind_some, b1, Option.bind_some, Rb.w, Option.bind_some, Rb.q, Option.bind_some]
  have f3 : FY (PCl q') M Mb := f2.trans ((Fr.y fb).mono fun b j z => by unfold PCl; omega)
  have same : ∀ b j, ¬ (q' ≤ b ∧ b ≤ q' + 10) → Mb.1 b j = M.1 b j := fun b j hb => by rw [(fb b hb).1, e2.1]
  have Cb : CV q w0 g G t0 ce0 me0 gv0 val0 trn0 uns0 gN0 gr0 fr0 od0 kt0 Mb := (C0.fx (M' := (Mb.1, M.2)) (P := fun b _ => q' ≤ b ∧ b ≤ q' + 10) ⟨rfl, fun b j nb => ⟨same b j nb, rfl⟩⟩ fun b j z => by omega : CV q w0 g G t0 ce0 me0 gv0 val0 trn0 uns0 gN0 gr0 fr0 od0 kt0 (Mb.1, M.2))
  obtain ⟨val, trn, uns, V⟩ : ∃ val trn uns, VALp G t ce gv val trn uns := ⟨_, _, _, vG_val hq h P (v := fun _ => nI 0)⟩
  obtain ⟨M4, d1, d2, d3, d4, d5, d6, d7⟩ := s_reckonC (q := q') (q0 := q) (mk := mk) (nw := nw) (e := e) (c0 := c0F nw val fun i => val0 (e i)) (M := Mb) N hN hq h h0 hg hw (by omega) P W Cb Cr V (fun i hi => by rw [same 31 _ (by omega)]; exact hm i hi) (fun i hi => by rw [same 34 _ (by omega)]; exact S i hi) hnw (fun i => rfl)
  have d1' : D_X0_reckon N (1 + 29) w q' q Mb = some M4 := d1
  rw [d1', Option.bind_some, pZ_1, Option.bind_some]
  have f5 : FX (fun b j => PRk q' b j ∨ b = 1 ∧ j = 3) Mb (upI M4 1 3 (nI 1)) := (d7.mono fun b j z => Or.inl z).trans (FX.I (Or.inr ⟨rfl, rfl⟩))
  have f6 : FX (fun b j => b = 1 ∧ j = 3) M4 (upI M4 1 3 (nI 1)) := FX.I ⟨rfl, rfl⟩
  have ce' : ∀ i, ¬ gr i = 0 → c0F nw val (fun i => val0 (e i)) i = c0F nw (M4.1 (q' + 12)) (fun i => val0 (e i)) i := fun i gi => by
    unfold c0F
    rw [d2 i ((P.1 i).2 gi)]
  obtain ⟨an1, an2⟩ := anN_cg (mk := mk) (nr := nrB G t ce) ce'
  have CV4 : CV q' w g G t ce me gv (M4.1 (q' + 12)) trn uns gN gr fr od kt M4 := ⟨P, d4, rfl, VALp.cg hq h V d2, d3⟩
  refine ⟨M4.1 (q' + 12), trn, uns, gN, gr, fr, od, kt, upI M4 1 3 (nI 1), rfl, CV4.fx f6 fun b j z => by omega, by rw [f5.1]; exact ref, Rb.fx f5, upI_s _ _ _ _, by rw [upI_n (by decide), ← an1]; exact d5, by rw [upI_n (by decide), ← an2]; exact d6, f3.trans (f5.y.mono fun b j z => by unfold PRk PWk PTl at z; unfold PCl; omega)⟩
theorem r_counts {val : Nat → Int32} {trn : Nat → Nat} {uns : Nat → Bool} {gN : Nat} {gr fr od : Nat → Nat} {kt : Nat → Bool} (N : Nat) (hN : 20000 < N) (hq : QG G) (h : TOK2 G t ce me) (P : GRP G t ce gN gr fr od kt) (Vp : VALp G t ce gv val trn uns) (hmk : ∀ i, thT G t i → (mk i = true ↔ mr i = true ∨ nw i = true)) (R : RT1 G t M) (hgv : ∀ a, a < 4 → M.1 163 a = gv a) (rows : ∀ i, thT G t i → M.1 177 i = bI (mr i) ∧ M.1 178 i = bI (nw i) ∧ M.1 179 i = nI 0 ∧ (nw i = false → M.1 170 i = ov i)) :
    ∃ dg M', D_X12_counts N 137 M = some M' ∧ RSI G t ce gv gr dg M' ∧ (∀ i, thT G t i → dg (gr i) = true) ∧ M'.1 137 53 = nI 1 ∧ M'.1 137 54 = nI (anN gr mk (nrB G t ce) (c0F nw val ov)) ∧ M'.1 137 55 = nI (chgN gr mk (nrB G t ce) (c0F nw val ov)) ∧ FX (fun b j => 164 ≤ b ∧ b ≤ 180 ∨ b = 137 ∧ (j = 72 ∨ j = 53 ∨ j = 54 ∨ j = 55)) M M' := by
  obtain ⟨dg, M3, a1, a2, a3, a4⟩ := r_settles N (by omega) hq h P R hgv
  unfold D_X12_counts
  rw [a1, Option.bind_some, pZ_1, Option.bind_some, pI_n, Option.bind_some, pI_n, Option.bind_some]
  have f4 : FX (fun b j => b = 137 ∧ (j = 53 ∨ j = 54 ∨ j = 55)) M3 (upI (upI (upI M3 137 53 (nI 1)) 137 54 (nI 0)) 137 55 (nI 0)) := ((FX.I (by omega)).trans (FX.I (by omega))).trans (FX.I (by omega))
  have S4 : RSI G t ce gv gr dg (upI (upI (upI M3 137 53 (nI 1)) 137 54 (nI 0)) 137 55 (nI 0)) := a2.fx f4 fun b j z => by omega
  have v53 : (upI (upI (upI M3 137 53 (nI 1)) 137 54 (nI 0)) 137 55 (nI 0)).1 137 53 = nI 1 := by rw [upI_j, if_neg (by decide), upI_j, if_neg (by decide), upI_s]
  have v54 : (upI (upI (upI M3 137 53 (nI 1)) 137 54 (nI 0)) 137 55 (nI 0)).1 137 54 = nI 0 := by rw [upI_j, if_neg (by decide), upI_s]
  have v55 : (upI (upI (upI M3 137 53 (nI 1)) 137 54 (nI 0)) 137 55 (nI 0)).1 137 55 = nI 0 := upI_s _ _ _ _
  have row : ∀ b j, (b = 177 ∨ b = 178 ∨ b = 179 ∨ b = 170) → (upI (upI (upI M3 137 53 (nI 1)) 137 54 (nI 0)) 137 55 (nI 0)).1 b j = M.1 b j := fun b j hb => by
    rw [(f4.2 b j (by omega)).1, (a4.2 b j (by unfold Pst; omega)).1]
  generalize upI (upI (upI M3 137 53 (nI 1)) 137 54 (nI 0)) 137 55 (nI 0) = M4 at *
  obtain ⟨o, O, O2, O3⟩ := S4.2.2.2.1
  have d0 := S4.2.2.1
  have c320 : cnt dg 321 ≤ 320 := cnt_rng (a := 1) (b := 321) fun x hx hd => ⟨by
    by_cases z : x = 0
    · rw [z, d0] at hd; exact absurd hd (by decide)
    · omega, hx⟩
  have Z : CNI G t ce gv mr nw (c0F nw val ov) (cnt dg 321) o M4 := ⟨S4.1, O2, O3, fun i hi => by
    obtain ⟨r1, r2, r3, r4⟩ := rows i hi
    rw [row 177 _ (by omega), row 178 _ (by omega), row 170 _ (by omega), S4.vals hq h P a3 Vp hi]
    refine ⟨r1, r2, ?_⟩
    unfold c0F
    cases c : nw i
    · rw [Bool.false_or, Bool.not_eq_false', decide_eq_true_eq, r4 c]
      exact ⟨fun z => ⟨rfl, z⟩, fun z => z.2⟩
    · exact ⟨fun z => absurd (show true = false from z) (by decide), fun z => absurd z.1 (by decide)⟩⟩
  obtain ⟨M5, b1, b2, b3, b4⟩ := r_countsL (mk := mk) N (by omega) hq h P O a3 c320 hmk Z (fun i hi => by rw [row 179 _ (by omega)]; exact (rows i hi).2.2.1) v54 v55
  exact ⟨dg, M5, b1, S4.fx b4 fun b j z => by unfold PCn at z; omega, a3, by rw [(b4.2 137 53 (by unfold PCn; omega)).1]; exact v53, b2, b3, ((a4.mono fun b j z => by unfold Pst at z; omega).trans (f4.mono fun b j z => by omega)).trans (b4.mono fun b j z => by unfold PCn at z; omega)⟩
theorem fin_change (N : Nat) (hN : 20000 < N) (R : RfI g g' w w' q q' M) (Gi : GrI g G A M) (Ck : CKs G M) (h : TOK2 G t ce me) (C : CT w G t M) (L : CLk w G t ce me M) (hgv : ∀ a, a < 4 → M.1 (w + 12) a = gv a) (h0 : TOK2 G t0 ce0 me0) (C0 : CV q w0 g G t0 ce0 me0 gv0 val0 trn0 uns0 gN0 gr0 fr0 od0 kt0 M) (Cr : COR G t t0 ce ce0 gv gv0 mk nw e) (hm : MKD G t mk nw M) (S : STD G t nw e M) (hmk : ∀ i, thT G t i → (mk i = true ↔ mr i = true ∨ nw i = true)) (v : Int32) (K : Mm → Option (Int32 × Mm)) (hK : ∀ M3, RfI g g' w w' q' q M3 → FY (PCl q') M M3 → K M3 = D_X11_answer N 1 v M3) (y : Mm → Option (Int32 × Mm)) (Kr : Mm → Option (Int32 × Mm)) (hKr : ∀ M7, RT1 G t M7 → Kr M7 = D_X12_gives N 137 v M7)
    (hy : ∀ M1, FY (PCl q') M M1 → ∃ M2, y M1 = ((D_X12_counts N 137 M2).bind Kr) ∧ FX Pr M1 M2 ∧ RT1 G t M2 ∧ (∀ a, a < 4 → M2.1 163 a = gv a) ∧ (∀ i, thT G t i → M2.1 177 i = bI (mr i) ∧ M2.1 178 i = bI (nw i) ∧ M2.1 179 i = nI 0 ∧ (nw i = false → M2.1 170 i = val0 (e i))) ∧ ∃ B n, CoT B n M2) :
    ∃ M1 M2, ((D_X11_reckonAnew N 1 M).bind K) = some (v, M1) ∧ y M1 = some (v, M2) ∧ INV M2 := by
  obtain ⟨hg, hw, hqq, _, _, hqq'⟩ := R.gg
  obtain ⟨val, trn, uns, gN, gr, fr, od, kt, M3, a1, a2, a3, a4, a5, a6, a7, a8⟩ := s_anew N hN R Gi.1 Gi.2.2.1 h C L hgv h0 C0 Cr hm S fun i hi z => (hmk i hi).2 (Or.inr z)
  have fy1 : FY (PCl q') M (upI M3 1 0 (nI 0)) := a8.trans ((FX.I (P := PCl q') (by unfold PCl; omega)).y)
  obtain ⟨M2, b1, b2, b3, b4, b5, B, n, b6⟩ := hy (upI M3 1 0 (nI 0)) fy1
  obtain ⟨dg, M7, c1, c2, c3, c4, c5, c6, c7⟩ := r_counts (ov := fun i => val0 (e i)) N hN Gi.1 h a2.1 a2.2.2.2.1 hmk b3 b4 b5
  refine ⟨upI M3 1 0 (nI 0), upI M7 137 6 (nI 0), ?_, ?_, ?_⟩
  · rw [a1, Option.bind_some, hK M3 a4 a8]; rfl
  · rw [b1, c1, Option.bind_some, hKr M7 c2.1.1]; rfl
  -- from M3 on only these cells
  have fx : FX (fun b j => b = 1 ∧ j = 0 ∨ Pr b j) M3 (upI M7 137 6 (nI 0)) := (((FX.I (Or.inl ⟨rfl, rfl⟩)).trans (b2.mono fun b j z => Or.inr z)).trans (c7.mono fun b j z => Or.inr (by unfold Pr; omega))).trans (FX.I (Or.inr (by unfold Pr; omega)))
  have fe : ∀ b j, ¬ (b = 1 ∧ j = 0) → b < 137 → (upI M7 137 6 (nI 0)).1 b j = M3.1 b j := fun b j h1 h2 => (fx.2 b j (fun z => by unfold Pr at z; omega)).1
  have e6 : ∀ b j, ¬ (b = 137 ∧ j = 6) → (upI M7 137 6 (nI 0)).1 b j = M7.1 b j := fun b j hb => ((FX.I (P := fun b j => b = 137 ∧ j = 6) (M := M7) (v := nI 0) ⟨rfl, rfl⟩).2 b j hb).1
  have GiF : GrI g G A (upI M7 137 6 (nI 0)) := GrI.fx hg (show GrI g G A M3 from (GrI.fx hg Gi (FY.x a8) (fun b j z => by unfold PCl at z; omega) : GrI g G A (M3.1, M3.2.1, M.2.2))) (P := fun b j => b = 1 ∧ j = 0 ∨ Pr b j) (M := M3) fx fun b j z => by unfold Pr at z; omega
  have CkF : CKs G (upI M7 137 6 (nI 0)) := CKs.fx (M := M3) (show CKs G M3 from (CKs.fx Ck (FY.x a8) (fun b j z => by unfold PCl at z; omega) : CKs G (M3.1, M3.2.1, M.2.2))) fx fun b j z => by unfold Pr at z; omega
  have cl : ∀ b j, w ≤ b → b ≤ w + 15 → (upI M7 137 6 (nI 0)).1 b j = M.1 b j := fun b j h1 h2 => (fe b j (by omega) (by omega)).trans (a8 b j (fun z => by unfold PCl at z; omega)).1
  have CF : CT w G t (upI M7 137 6 (nI 0)) := ⟨by rw [cl _ _ (by omega) (by omega)]; exact C.1, fun e he => (C.2 e he).of fun k k1 k2 => cl _ _ (by omega) (by omega)⟩
  have LF : CLk w G t ce me (upI M7 137 6 (nI 0)) := by
    refine ⟨fun k hk => ⟨?_, fun j j1 j2 => ?_⟩, fun x hx => ?_, fun i hi => ?_⟩
    · rw [cl _ _ (by omega) (by omega)]; exact (L.1 k hk).1
    · rw [cl _ _ (by omega) (by omega)]; exact (L.1 k hk).2 j j1 j2
    · rw [cl _ _ (by omega) (by omega)]; exact L.2.1 x hx
    · unfold LI1; rw [cl _ _ (by omega) (by omega), cl _ _ (by omega) (by omega), cl _ _ (by omega) (by omega)]; exact L.2.2 i hi
  have f7 : FX (fun b j => b = 137 ∧ j = 6) M7 (upI M7 137 6 (nI 0)) := FX.I ⟨rfl, rfl⟩
  refine ⟨?_, g, g', w, w', q', q, ⟨B, n, ?_⟩, a4.fx fx, Or.inr ⟨G, A, GiF, CkF, Or.inr ⟨?_, t, ce, me, gv, val, trn, uns, gN, gr, fr, od, kt, dg, h, CF, LF, fun a ha => by rw [cl _ _ (by omega) (by omega)]; exact hgv a ha, a2.fx fx fun b j z => by unfold Pr at z; omega, by rw [fx.1]; exact a3, c2.fx f7 fun b j z => by omega, c3⟩⟩⟩
  · have m7 : M7.1 1 0 = nI 0 := by rw [(c7.2 1 0 (by omega)).1, (b2.2 1 0 (by unfold Pr; omega)).1, upI_s]
    rw [upI_s, upI_n (by decide), m7]
  · have T := b6.fy ((c7.mono (P' := fun b j => 164 ≤ b ∧ b ≤ 180 ∨ b = 137 ∧ (j = 72 ∨ j = 53 ∨ j = 54 ∨ j = 55 ∨ j = 6)) fun b j z => by omega).trans (FX.I (v := nI 0) (M := M7) (a := 137) (k := 6) (by omega))).y fun b j z => by omega
    refine ⟨T.1, T.2.1, T.2.2.1, T.2.2.2.1, T.2.2.2.2.1, T.2.2.2.2.2, ?_, ?_⟩
    · rw [fe 30 6 (by omega) (by omega), a6, e6 137 54 (by omega), c5]
    · rw [fe 30 7 (by omega) (by omega), a7, e6 137 55 (by omega), c6]
  · rw [fe 1 3 (by omega) (by omega), a5, e6 137 53 (by omega), c4]
end fin
/-- no tree, or one (with its grammar's shades) -/
theorem IN0.tree2 {g g' w w' q q' : Nat} {M : Mm} (I : IN0 g g' w w' q q' M) : (M.1 w 0 = nI 0 ∧ ∀ v, (upI M 1 0 v).1 137 50 = nI 0) ∨ ∃ G A t ce me gv val trn uns gN gr fr od kt dg, GrI g G A M ∧ CKs G M ∧ VI w q g G t ce me gv val trn uns gN gr fr od kt dg M ∧ M.1 1 3 = M.1 137 53 := by
  obtain ⟨_, _, St⟩ := I
  rcases St with n0 | ⟨G, A, Gi, Ck, Tr⟩
  · exact Or.inl ⟨n0.2.2.2.1, fun v => by rw [upI_n (by decide)]; exact n0.2.2.2.2⟩
  · rcases Tr with z | ⟨z, t, ce, me, gv, val, trn, uns, gN, gr, fr, od, kt, dg, V⟩
    · exact Or.inl ⟨z.1, fun v => by rw [upI_n (by decide)]; exact z.2⟩
    · exact Or.inr ⟨G, A, t, ce, me, gv, val, trn, uns, gN, gr, fr, od, kt, dg, Gi, Ck, V, z⟩
