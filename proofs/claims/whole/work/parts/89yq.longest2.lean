-- both sides answer: longest, the reference
section q
variable {w q g : Nat} {G : Gr} {t : TR} {ce : Nat → Nat → Nat} {me : Nat → Nat} {gv val : Nat → Int32} {trn : Nat → Nat} {uns : Nat → Bool} {gN : Nat} {gr fr od : Nat → Nat} {kt : Nat → Bool} {dg : Nat → Bool} {A : Nat → Nat} {Lf : Nat → Nat} (N : Nat)
theorem p181 {b j : Nat} (z : b = 181) (_ : j = j) : PQ b j := by unfold PQ; omega
theorem len181 : len 181 = 320 := rfl
theorem loop_chain {i : Nat} (hN : 2000 < N) (hw : w = 69 ∨ w = 87) (hqq : q = 105 ∨ q = 121) (hq : QG G) (l : LNG G t ce Lf) (hi : thT G t i) (ki : knB G t ce i = false) (kE : Mm → Option (Int32 × Mm)) : ∀ (fu j : Nat) (M : Mm), j ≤ 8 * tn t → 320 < j + fu → VI w q g G t ce me gv val trn uns gN gr fr od kt dg M → (∀ x, nrT G t ce i x → knB G t ce x = false → M.1 181 x = nI (Lf x)) → M.1 181 i = nI (1 + mxB (nkB G t ce i) Lf j) → ∃ M', L_X12_longest_62 kE 137 N (nI i) fu (nI j) M = kE M' ∧ M'.1 181 i = nI (Lf i) ∧ (∀ x, ¬ x = i → M'.1 181 x = M.1 181 x) ∧ FX (fun b _ => b = 181) M M'
  | 0, j, M, h1, h2, V, _, _ => by have := V.n1; omega
  | fu + 1, j, M, h1, h2, V, dn, hv => by
    have n := V.n1
    have h := V.1
    obtain ⟨i8, i320⟩ := th_320 h hi
    have R := V.rt
    have st := mxB_s (nkB G t ce i) Lf j
    have bd : mxB (nkB G t ce i) Lf j ≤ 999 := mxB_le (fun x => by have := l.1 x; omega) j
    rw [L_X12_longest_62, R.1.2.1, pk_mul]
    simp only [n_le (show 8 * tn t < 2 ^ 31 by omega) (show j < 2 ^ 31 by omega)]
    by_cases e : 8 * tn t ≤ j
    · rw [if_pos e]
      refine ⟨M, rfl, ?_, fun _ _ => rfl, FX.refl⟩
      have ej : j = 8 * tn t := by omega
      rw [hv, l.2 i hi ki]
      have a := mxB_is (nkB G t ce i) Lf j
      have b := mxB_is (nkB G t ce i) Lf 320
      have : mxB (nkB G t ce i) Lf j = mxB (nkB G t ce i) Lf 320 := a.uniq ⟨fun x hx => b.1 x ⟨by omega, hx.2⟩, b.2.imp id fun ⟨x, x1, x2⟩ => ⟨x, ⟨by
        have := (nkB_t.1 x1.2).1
        have := (th_320 h (nr_th hq h this.1 this.2)).1
        omega, x1.2⟩, x2⟩⟩
      rw [this]
    · have j320 : j < 320 := by omega
      rw [if_neg e, show (137 : Nat) + 35 = 172 from rfl, show (137 : Nat) + 30 = 167 from rfl, show (137 : Nat) + 44 = 181 from rfl, r_bit N len172 R.2.2.1 i320 j320, Option.bind_some, nI_add]
      simp only [bI_0]
      cases b : nrB G t ce i j
      · rw [if_pos rfl, Option.bind_some]
        exact loop_chain hN hw hqq hq l hi ki kE fu (j + 1) M (by omega) (by omega) V dn (by rw [st, if_neg (by unfold nkB; rw [b, Bool.false_and]; decide)]; exact hv)
      · have nr := nrB_t.1 b
        rw [if_neg (by decide), ldI_n j320 (by omega), R.2.2.2.2.1 j j320, Option.bind_some, Option.bind_some]
        simp only [knI_m1 j320]
        cases k : knB G t ce j
        · have kt' : nkB G t ce i j = true := nkB_t.2 ⟨nr, k⟩
          have Lj := l.1 j
          have ne : ¬ j = i := fun z => by
            rw [z] at nr k
            have := V.2.2.2.2.1.1.alone hq h hi ki nr.2
            omega
          rw [if_pos rfl, ldI_n i320 (by omega), hv, Option.bind_some, ldI_n j320 (by omega), dn j nr.2 k, Option.bind_some, nI_add, mx_n (by omega) (by omega), stI_n i320 (by omega), Option.bind_some]
          have f1 : FX (fun b _ => b = 181) M (upI M 181 i (nI (if 1 + mxB (nkB G t ce i) Lf j < Lf j + 1 then Lf j + 1 else 1 + mxB (nkB G t ce i) Lf j))) := FX.I rfl
          obtain ⟨M', a1, a2, a3, a4⟩ := loop_chain hN hw hqq hq l hi ki kE fu (j + 1) _ (by omega) (by omega) (V.q hw hqq (f1.mono fun b j z => p181 z rfl)) (fun x nx kx => by
            have nx' : ¬ x = i := fun z => by
              rw [z] at nx
              have := V.2.2.2.2.1.1.alone hq h hi ki nx
              omega
            rw [upI_j, if_neg nx']; exact dn x nx kx) (by
            rw [upI_j, if_pos rfl, st, if_pos kt']
            congr 1
            by_cases c : mxB (nkB G t ce i) Lf j < Lf j
            · rw [if_pos c, if_pos (by omega)]; omega
            · rw [if_neg c, if_neg (by omega)])
          exact ⟨M', a1, a2, fun x hx => (a3 x hx).trans (by rw [upI_j, if_neg hx]), f1.trans a4⟩
        · rw [if_neg (by decide)]
          exact loop_chain hN hw hqq hq l hi ki kE fu (j + 1) M (by omega) (by omega) V dn (by rw [st, if_neg (by unfold nkB; rw [k, Bool.not_true, Bool.and_false]; decide)]; exact hv)
theorem r_longest {M : Mm} (hN : 2000 < N) (hw : w = 69 ∨ w = 87) (hqq : q = 105 ∨ q = 121) (hq : QG G) (V : VI w q g G t ce me gv val trn uns gN gr fr od kt dg M) (l : LNG G t ce Lf) : ∃ m M', D_X12_longest N 137 M = D_X12_gives N 137 (nI m) M' ∧ IsMx (lonS G t ce) Lf m ∧ FX (fun b _ => b = 181) M M' := by
  have h := V.1
  have P := V.2.2.2.2.1.1
  have ad := V.2.2.2.2.2.2.2
  obtain ⟨R, D, d0, ⟨o, O, O2, O3⟩, _⟩ := V.2.2.2.2.2.2.1
  have c320 : cnt dg 321 ≤ 320 := cnt_rng (a := 1) (b := 321) fun x hx hd => ⟨by
    by_cases z : x = 0
    · rw [z, d0] at hd; exact absurd hd (by decide)
    · omega, hx⟩
  have key : ∀ fu k m M, k ≤ cnt dg 321 → 321 < k + fu → VI w q g G t ce me gv val trn uns gN gr fr od kt dg M → M.1 137 72 = nI (cnt dg 321) → (∀ k, k < cnt dg 321 → M.1 169 k = nI (o k)) → (∀ y, y < k → knB G t ce (o y) = false → M.1 181 (o y) = nI (Lf (o y))) → m = mxB (fun y => !knB G t ce (o y)) (fun y => Lf (o y)) k → ∃ M', L_X12_longest_17 137 N fu (nI m) (nI k) M = D_X12_gives N 137 (nI (mxB (fun y => !knB G t ce (o y)) (fun y => Lf (o y)) (cnt dg 321))) M' ∧ FX (fun b _ => b = 181) M M' := fun fu => by
    induction fu with
    | zero => intro k m M h1 h2; omega
    | succ fu ih =>
      intro k m M h1 h2 V O2 O3 dn hm
      have st := mxB_s (fun y => !knB G t ce (o y)) (fun y => Lf (o y)) k
      have mb : m < 1000 := by
        have := mxB_le (f := fun y => !knB G t ce (o y)) (L := fun y => Lf (o y)) (c := 999) (fun j => by have := l.1 (o j); omega) k
        omega
      rw [L_X12_longest_17, O2]
      simp only [n_le (show cnt dg 321 < 2 ^ 31 by omega) (show k < 2 ^ 31 by omega), bind_pair]
      by_cases e : cnt dg 321 ≤ k
      · rw [if_pos e, hm, show k = cnt dg 321 by omega]
        exact ⟨M, rfl, FX.refl⟩
      · obtain ⟨t1, t2, t3⟩ := O.1 k (by omega)
        obtain ⟨i8, i320⟩ := th_320 h t1
        have R := V.rt
        have f1 : ∀ v, FX (fun b _ => b = 181) M (upI M 181 (o k) v) := fun v => FX.I rfl
        have nx : ∀ y, y < k → ¬ o y = o k := fun y hy z => by
          have := O.2.1 y k (by omega) (by omega) (by rw [z])
          omega
        rw [if_neg e, show (137 : Nat) + 32 = 169 from rfl, show (137 : Nat) + 30 = 167 from rfl, show (137 : Nat) + 44 = 181 from rfl, ldI_n (by omega) (by omega), O3 k (by omega), Option.bind_some, stI_n i320 (by omega), Option.bind_some, ldI_n i320 (by omega), upI_n (by decide), R.2.2.2.2.1 _ i320, Option.bind_some]
        simp only [knI_m1 i320]
        cases c : knB G t ce (o k)
        · rw [if_pos rfl, stI_n i320 (by omega), Option.bind_some]
          have f2 : FX (fun b _ => b = 181) M (upI (upI M 181 (o k) (nI 0)) 181 (o k) (nI 1)) := (f1 _).trans (FX.I rfl)
          have row : ∀ x, (upI (upI M 181 (o k) (nI 0)) 181 (o k) (nI 1)).1 181 x = if x = o k then nI 1 else M.1 181 x := fun x => by
            rw [upI_j, upI_j]
            by_cases z : x = o k
            · rw [if_pos z, if_pos z]
            · rw [if_neg z, if_neg z, if_neg z]
          obtain ⟨M1, a1, a2, a3, a4⟩ := loop_chain N hN hw hqq hq l t1 c (fun (M6 : Mm) => ((ldI 320 181 (nI (o k)) M6).bind fun v6 => (some ((mxI (nI m) v6))).bind fun l1_2 => ((some (nI k + (nI 1))).bind fun l2_2 => (L_X12_longest_17 137 N fu l1_2 l2_2 M6)))) N 0 (upI (upI M 181 (o k) (nI 0)) 181 (o k) (nI 1)) (by omega) (by omega) (V.q hw hqq (f2.mono fun b j z => p181 z rfl)) (fun x nr kx => by
            have tx := nr_th hq h t1 nr
            obtain ⟨k', k1, k2⟩ := O.2.2.2 k (o k) x (by omega) rfl nr
            have al := P.alone hq h t1 c nr
            have ex := P.one hq h tx kx (x := o k') k2.symm
            have kk : k' < k := by
              by_cases z : k' = k
              · rw [z] at k2; omega
              · omega
            rw [row, if_neg (fun z => by rw [z] at al; omega), ← ex]
            exact dn k' kk (by rw [ex]; exact kx)) (by rw [row, if_pos rfl]; rfl)
          have Lk := l.1 (o k)
          obtain ⟨M2, b1, b2⟩ := ih (k + 1) (if m < Lf (o k) then Lf (o k) else m) M1 (by omega) (by omega) (V.q hw hqq ((f2.trans a4).mono fun b j z => p181 z rfl)) (by rw [((f2.trans a4).2 137 72 (fun z => absurd (show (137 : Nat) = 181 from z) (by decide))).1]; exact O2) (fun k hk => by rw [((f2.trans a4).2 169 k (fun z => absurd (show (169 : Nat) = 181 from z) (by decide))).1]; exact O3 k hk) (fun y hy ky => by
            by_cases z : y = k
            · rw [z]; exact a2
            · have := nx y (by omega)
              rw [a3 _ this, row, if_neg this]; exact dn y (by omega) ky) (by rw [st, c, hm]; exact (if_pos rfl).symm)
          refine ⟨M2, ?_, (f2.trans a4).trans b2⟩
          rw [a1, ldI_n i320 (by omega), a2, Option.bind_some, mx_n (by omega) (by omega), Option.bind_some, nI_add, Option.bind_some]
          exact b1
        · rw [if_neg (by decide), Option.bind_some, nI_add]
          obtain ⟨M2, b1, b2⟩ := ih (k + 1) m (upI M 181 (o k) (nI 0)) (by omega) (by omega) (V.q hw hqq ((f1 _).mono fun b j z => p181 z rfl)) (by rw [upI_n (by decide)]; exact O2) (fun k hk => by rw [upI_n (by decide)]; exact O3 k hk) (fun y hy ky => by
            have z : ¬ y = k := fun z => by rw [z, c] at ky; exact absurd ky (by decide)
            rw [upI_j, if_neg (nx y (by omega))]; exact dn y (by omega) ky) (by rw [st, c, hm]; rfl)
          exact ⟨M2, b1, (f1 _).trans b2⟩
  obtain ⟨M', a1, a2⟩ := key N 0 0 M (by omega) (by omega) V O2 O3 (fun y hy => by omega) rfl
  refine ⟨mxB (fun y => !knB G t ce (o y)) (fun y => Lf (o y)) (cnt dg 321), M', ?_, ?_, a2⟩
  · unfold D_X12_longest
    simp only [bind_pair]
    rw [V.hasTree, Option.bind_some, if_neg z10]
    exact a1
  · refine mxB_img (e := o) (fun y hy hf => ?_) fun j hj => ?_
    · simp only [Bool.not_eq_true'] at hf
      exact ⟨⟨(O.1 y hy).1, hf⟩, rfl⟩
    · obtain ⟨tj, kj⟩ := hj
      obtain ⟨k, k1, k2⟩ := O.2.2.1 (gr j) (ad j tj)
      have ej := P.one hq h tj kj (x := o k) k2
      exact ⟨k, k1, by rw [ej, kj]; rfl, ej⟩
theorem q_longest {M : Mm} (hN : 20000 < N) (I : INV M) : QOK M (D_X11_longest N 1 M) (D_X12_longest N 137) := by
  obtain ⟨_, g, g', w, w', q, q', I0⟩ := I
  have R := I0.2.1
  obtain ⟨hg, hw, hqq, _⟩ := R.gg
  have rw' := R.w
  have rq := R.q
  rcases I0.tree with ⟨t1, t2⟩ | ⟨G, A, t, ce, me, gv, val, trn, uns, gN, gr, fr, od, kt, dg, Gi, V, e3⟩
  · refine QOK.ref (v := nI 3) N I0 FX.refl ?_ FX.refl ?_
    · unfold D_X11_longest
      simp only [bind_pair]
      rw [rw', Option.bind_some, if_pos t1]
    · unfold D_X12_longest
      simp only [bind_pair]
      rw [no_hasTree N (t2 _), Option.bind_some, if_pos rfl]
  · obtain ⟨Lf, l⟩ := LNG.ex Gi.1 V.1 V.2.2.2.2.1.1
    have cw : rf M (q + 1) 6 8 = some w := by
      unfold rf
      rw [V.2.2.2.2.2.1]
      rcases hw with e | e <;> subst e <;> rfl
    obtain ⟨m, M1, a1, a2, a3⟩ := s_longestRow (c := q + 1) N (by omega) (by omega) hw Gi.1 V.1 V.2.2.1 V.2.2.2.2.1.2.1 cw V.2.2.2.2.1.1 l
    have f1 : FX PQ M M1 := a3.mono fun b j z => by unfold PQ; omega
    have V2 : VI w q g G t ce me gv val trn uns gN gr fr od kt dg (upI M1 1 0 (nI 0)) := V.q hw hqq (f1.trans f10)
    obtain ⟨m', M2, b1, b2, b3⟩ := r_longest N (by omega) hw hqq Gi.1 V2 l
    refine QOK.ans (v := nI m) N I0 f1 ?_ (b3.mono fun b j z => by unfold PQ; omega) ?_
    · unfold D_X11_longest
      simp only [bind_pair]
      rw [rw', Option.bind_some, if_neg V.w0, rq, Option.bind_some, a1, Option.bind_some]
    · rw [b1, a2.uniq b2]
end q
