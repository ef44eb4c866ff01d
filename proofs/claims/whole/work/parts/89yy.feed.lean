-- both sides answer: feed, status, fault
def fdB (x : Int32) (k : Nat) : Nat := ((shr x (nI (24 - 8 * k))) &&& nI 255).toBitVec.toNat
theorem fdB_n (x : Int32) (k : Nat) : nI (fdB x k) = (shr x (nI (24 - 8 * k))) &&& nI 255 := (n_ofn _).symm
theorem fdB_lt (x : Int32) (k : Nat) : fdB x k < 256 := by
  unfold fdB
  rw [Int32.toBitVec_and, BitVec.toNat_and]
  have : (nI 255).toBitVec.toNat = 255 := by decide
  rw [this]
  exact Nat.lt_of_le_of_lt Nat.and_le_right (by decide)
theorem byte_and (v : Int32) : v.toInt8.toInt32.toInt8.toInt32 &&& nI 255 = v &&& nI 255 := by
  apply Int32.toBitVec_inj.1
  apply BitVec.eq_of_getLsbD_eq
  intro i hi
  have e : (nI 255).toBitVec = 255#32 := by decide
  simp only [Int32.toBitVec_and, BitVec.getLsbD_and, e, Int8.toBitVec_toInt32, Int32.toBitVec_toInt8, BitVec.getLsbD_signExtend, BitVec.getLsbD_setWidth]
  by_cases c : i < 8
  · simp [c, hi]
  · have : (255#32).getLsbD i = false := by
      have h8 : 8 ≤ i := by omega
      rw [BitVec.getLsbD_ofNat]
      have : Nat.testBit 255 i = false := Nat.testBit_lt_two_pow (Nat.lt_of_lt_of_le (show 255 < 2 ^ 8 by decide) (Nat.pow_le_pow_right (by decide) h8))
      rw [this, Bool.and_false]
    rw [this, Bool.and_false, Bool.and_false]
def ext (B : Nat → Nat) (n : Nat) (x : Int32) (i : Nat) : Nat := if i < n then B i else fdB x (i - n)
def TPc (B : Nat → Nat) (n : Nat) (M : Mm) : Prop := M.1 2 6 = nI n ∧ ∀ i, i < n → M.1 3 i &&& nI 255 = nI (B i)
def TPr (B : Nat → Nat) (n : Nat) (M : Mm) : Prop := M.1 137 5 = nI n ∧ ∀ i, i < n → M.1 138 i = nI (B i)
theorem s_append {B : Nat → Nat} {n : Nat} {M : Mm} (N : Nat) (hN : 2000 < N) (x : Int32) (T : TPc B n M) (hn : n + 4 ≤ 1000) : ∃ M', D_X7_append N 2 x M = some M' ∧ TPc (ext B n x) (n + 4) M' ∧ FX (fun b j => b = 3 ∨ b = 2 ∧ j = 6) M M' := by
  have step : ∀ fu k M0, k < 4 → FX (fun b j => b = 3 ∨ b = 2 ∧ j = 6) M M0 → TPc (ext B n x) (n + k) M0 → ∃ M1, L_X7_append_3 2 x (fu + 1) (nI (24 - 8 * k)) M0 = L_X7_append_3 2 x fu (nI (24 - 8 * k) + -(nI 8)) M1 ∧ FX (fun b j => b = 3 ∨ b = 2 ∧ j = 6) M M1 ∧ TPc (ext B n x) (n + (k + 1)) M1 := fun fu k M0 hk f T0 => by
    rw [L_X7_append_3, if_neg (by rw [n_lt (by omega) (by decide)]; omega), T0.1, if_neg (by show ¬ nI 1000 ≤ nI (n + k); rw [n_le (by decide) (by omega)]; omega), show (2 : Nat) + 1 = 3 from rfl, stB_n (by omega) (by decide), Option.bind_some, pI_n, Option.bind_some, Option.bind_some]
    refine ⟨_, rfl, (f.trans (FX.I (Or.inl rfl))).trans (FX.I (Or.inr ⟨rfl, rfl⟩)), ?_, fun i hi => ?_⟩
    · rw [upI_s, upI_n (by decide), T0.1, nI_add]; rfl
    · rw [upI_n (by decide), upI_j]
      by_cases z : i = n + k
      · rw [if_pos z, byte_and, ← fdB_n]
        unfold ext
        rw [if_neg (by omega), show i - n = k by omega]
      · rw [if_neg z]; exact T0.2 i (by omega)
  obtain ⟨fu, rfl⟩ : ∃ fu, N = fu + 5 := ⟨N - 5, by omega⟩
  obtain ⟨M1, a1, f1, T1⟩ := step (fu + 4) 0 M (by omega) FX.refl ⟨T.1, fun i hi => by
    unfold ext
    rw [if_pos (by omega)]; exact T.2 i (by omega)⟩
  obtain ⟨M2, a2, f2, T2⟩ := step (fu + 3) 1 M1 (by omega) f1 T1
  obtain ⟨M3, a3, f3, T3⟩ := step (fu + 2) 2 M2 (by omega) f2 T2
  obtain ⟨M4, a4, f4, T4⟩ := step (fu + 1) 3 M3 (by omega) f3 T3
  refine ⟨M4, ?_, T4, f4⟩
  unfold D_X7_append
  have b1 : L_X7_append_3 2 x (fu + 5) (nI 24) M = L_X7_append_3 2 x (fu + 4) (nI 16) M1 := a1
  have b2 : L_X7_append_3 2 x (fu + 4) (nI 16) M1 = L_X7_append_3 2 x (fu + 3) (nI 8) M2 := a2
  have b3 : L_X7_append_3 2 x (fu + 3) (nI 8) M2 = L_X7_append_3 2 x (fu + 2) (nI 0) M3 := a3
  have b4 : L_X7_append_3 2 x (fu + 2) (nI 0) M3 = L_X7_append_3 2 x (fu + 1) (nI 0 + -(nI 8)) M4 := a4
  rw [b1, b2, b3, b4, L_X7_append_3, if_pos (by decide)]
theorem r_come {B : Nat → Nat} {n : Nat} {M : Mm} (N : Nat) (hN : 2000 < N) (x : Int32) (T : TPr B n M) (hn : n + 4 ≤ 1000) : ∃ M', D_X12_come N 137 x M = some M' ∧ TPr (ext B n x) (n + 4) M' ∧ FX (fun b j => b = 138 ∨ b = 137 ∧ j = 5) M M' := by
  have step : ∀ fu k M0, k < 4 → FX (fun b j => b = 138 ∨ b = 137 ∧ j = 5) M M0 → TPr (ext B n x) (n + k) M0 → ∃ M1, L_X12_come_3 137 x (fu + 1) (nI (24 - 8 * k)) M0 = L_X12_come_3 137 x fu (nI (24 - 8 * k) + -(nI 8)) M1 ∧ FX (fun b j => b = 138 ∨ b = 137 ∧ j = 5) M M1 ∧ TPr (ext B n x) (n + (k + 1)) M1 := fun fu k M0 hk f T0 => by
    rw [L_X12_come_3, if_neg (by rw [n_lt (by omega) (by decide)]; omega), T0.1, show (137 : Nat) + 1 = 138 from rfl, stI_n (by omega) (by decide), Option.bind_some, pI_n, Option.bind_some, Option.bind_some]
    refine ⟨_, rfl, (f.trans (FX.I (Or.inl rfl))).trans (FX.I (Or.inr ⟨rfl, rfl⟩)), ?_, fun i hi => ?_⟩
    · rw [upI_s, upI_n (by decide), T0.1, nI_add]; rfl
    · rw [upI_n (by decide), upI_j]
      by_cases z : i = n + k
      · rw [if_pos z, ← fdB_n]
        unfold ext
        rw [if_neg (by omega), show i - n = k by omega]
      · rw [if_neg z]; exact T0.2 i (by omega)
  obtain ⟨fu, rfl⟩ : ∃ fu, N = fu + 5 := ⟨N - 5, by omega⟩
  obtain ⟨M1, a1, f1, T1⟩ := step (fu + 4) 0 M (by omega) FX.refl ⟨T.1, fun i hi => by
    unfold ext
    rw [if_pos (by omega)]; exact T.2 i (by omega)⟩
  obtain ⟨M2, a2, f2, T2⟩ := step (fu + 3) 1 M1 (by omega) f1 T1
  obtain ⟨M3, a3, f3, T3⟩ := step (fu + 2) 2 M2 (by omega) f2 T2
  obtain ⟨M4, a4, f4, T4⟩ := step (fu + 1) 3 M3 (by omega) f3 T3
  refine ⟨M4, ?_, T4, f4⟩
  unfold D_X12_come
  have b1 : L_X12_come_3 137 x (fu + 5) (nI 24) M = L_X12_come_3 137 x (fu + 4) (nI 16) M1 := a1
  have b2 : L_X12_come_3 137 x (fu + 4) (nI 16) M1 = L_X12_come_3 137 x (fu + 3) (nI 8) M2 := a2
  have b3 : L_X12_come_3 137 x (fu + 3) (nI 8) M2 = L_X12_come_3 137 x (fu + 2) (nI 0) M3 := a3
  have b4 : L_X12_come_3 137 x (fu + 2) (nI 0) M3 = L_X12_come_3 137 x (fu + 1) (nI 0 + -(nI 8)) M4 := a4
  rw [b1, b2, b3, b4, L_X12_come_3, if_pos (by decide)]
theorem ext_lt {B : Nat → Nat} {n m : Nat} {x : Int32} (h : ∀ i, i < n → B i < 256) : ∀ i, i < m → ext B n x i < 256 := fun i _ => by
  unfold ext
  by_cases c : i < n
  · rw [if_pos c]; exact h i c
  · rw [if_neg c]; exact fdB_lt _ _
section q
variable {M : Mm} (N : Nat)
def uR (b j : Nat) : Prop := b = 139 ∨ b = 141 ∨ 157 ≤ b ∧ b ≤ 159 ∨ 163 ≤ b ∧ b ≤ 169 ∨ 172 ≤ b ∧ b ≤ 176 ∨ b = 137 ∧ (j = 50 ∨ j = 72)
/-- what may change is known, and that three objects' references don't -/
def FW (P : Nat → Nat → Prop) (M M' : Mm) : Prop := FY P M M' ∧ ∀ b, (b = 1 ∨ b = 106 ∨ b = 122) → M'.2.2 b = M.2.2 b
theorem FX.w {P : Nat → Nat → Prop} {M M' : Mm} (h : FX P M M') : FW P M M' := ⟨h.y, fun b _ => by rw [h.1]⟩
theorem Fr.w {S : Nat → Prop} {M M' : Mm} (h : Fr S M M') (h1 : ¬ S 1) (h2 : ¬ S 106) (h3 : ¬ S 122) : FW (fun b _ => S b) M M' := ⟨h.y, fun b hb => by
  rcases hb with e | e | e <;> subst e
  · exact (h 1 h1).2.2
  · exact (h 106 h2).2.2
  · exact (h 122 h3).2.2⟩
theorem FW.refl {P : Nat → Nat → Prop} {M : Mm} : FW P M M := ⟨fun _ _ _ => ⟨rfl, rfl⟩, fun _ _ => rfl⟩
theorem FW.trans {P : Nat → Nat → Prop} {M M' M'' : Mm} (h : FW P M M') (h' : FW P M' M'') : FW P M M'' := ⟨h.1.trans h'.1, fun b hb => (h'.2 b hb).trans (h.2 b hb)⟩
theorem FW.mono {P P' : Nat → Nat → Prop} {M M' : Mm} (h : FW P M M') (hs : ∀ a j, P a j → P' a j) : FW P' M M' := ⟨h.1.mono hs, h.2⟩
theorem FW.e {P : Nat → Nat → Prop} {M M' : Mm} (h : FW P M M') {b j : Nat} (hb : ¬ P b j) : M'.1 b j = M.1 b j := (h.1 b j hb).1
theorem RfI.fw {P : Nat → Nat → Prop} {g g' w w' q q' : Nat} {M M' : Mm} (h : RfI g g' w w' q q' M) (f : FW P M M') : RfI g g' w w' q q' M' := by
  unfold RfI
  rw [f.2 1 (Or.inl rfl)]; exact h
theorem RSI.fy2 {P : Nat → Nat → Prop} {G : Gr} {t : TR} {ce : Nat → Nat → Nat} {gv : Nat → Int32} {gr : Nat → Nat} {dg : Nat → Bool} {M M' : Mm} (h : RSI G t ce gv gr dg M) (f : FY P M M') (hP : ∀ b j, P b j → ¬ uR b j) : RSI G t ce gv gr dg M' := by
  have e : ∀ b j, uR b j → M'.1 b j = M.1 b j := fun b j hb => (f b j (fun z => hP b j z hb)).1
  obtain ⟨h1, h2, h3, ⟨od, o1, o2, o3⟩, h5⟩ := h
  have k : RK3 G t ce gv (M'.1, M'.2.1, M.2.2) := by
    obtain ⟨r1, r2, r3, r4, r5, r6⟩ := h1
    exact ⟨⟨r1.1.fx f.x (fun j z => hP _ _ z (by unfold uR; omega)) (fun j z => hP _ _ z (by unfold uR; omega)), r1.2.fx f.x (fun z => hP _ _ z (by unfold uR; omega)) (fun b j hb hb' z => hP _ _ z (by unfold uR; omega))⟩, r2.fx f.x fun j => ⟨fun z => hP _ _ z (by unfold uR; omega), fun z => hP _ _ z (by unfold uR; omega), fun z => hP _ _ z (by unfold uR; omega)⟩, r3.fx f.x fun j z => hP _ _ z (by unfold uR; omega), r4.fx f.x fun j z => hP _ _ z (by unfold uR; omega), fun j hj => (e 167 j (by unfold uR; omega)).trans (r5 j hj), fun a ha => (e 163 a (by unfold uR; omega)).trans (r6 a ha)⟩
  refine ⟨k, fun x hx => by rw [e 176 _ (by unfold uR; omega)]; exact h2 x hx, h3, ⟨od, o1, by rw [e 137 _ (by unfold uR; omega)]; exact o2, fun k hk => by rw [e 169 _ (by unfold uR; omega)]; exact o3 k hk⟩, fun i hi hd => ?_⟩
  have v := h5 i hi hd
  have e6 : M'.1 166 = M.1 166 := funext fun j => e 166 j (by unfold uR; omega)
  unfold VLd at v ⊢
  rw [e6, e 168 _ (by unfold uR; omega), e 175 _ (by unfold uR; omega)]; exact v
/-- cells of the class's tree and its values -/
def uCl (w q b j : Nat) : Prop := w + 1 ≤ b ∧ b ≤ w + 15 ∨ b = w ∧ j = 0 ∨ q + 1 ≤ b ∧ b ≤ q + 5 ∨ q + 12 ≤ b ∧ b ≤ q + 14
theorem VI.fw {P : Nat → Nat → Prop} {w q g : Nat} {G : Gr} {t : TR} {ce : Nat → Nat → Nat} {me : Nat → Nat} {gv val : Nat → Int32} {trn : Nat → Nat} {uns : Nat → Bool} {gN : Nat} {gr fr od : Nat → Nat} {kt : Nat → Bool} {dg : Nat → Bool} {M M' : Mm} (hq : q = 105 ∨ q = 121) (h : VI w q g G t ce me gv val trn uns gN gr fr od kt dg M) (f : FW P M M') (hP : ∀ b j, P b j → ¬ uCl w q b j ∧ ¬ uR b j) : VI w q g G t ce me gv val trn uns gN gr fr od kt dg M' := by
  obtain ⟨h1, h2, h3, h4, h5, h6, h7, h8⟩ := h
  have e : ∀ b j, uCl w q b j → M'.1 b j = M.1 b j := fun b j hb => f.e (fun z => (hP b j z).1 hb)
  refine ⟨h1, ⟨by rw [e w 0 (by unfold uCl; omega)]; exact h2.1, fun x hx => (h2.2 x hx).of fun k k1 k2 => e _ _ (by unfold uCl; omega)⟩, ?_, fun a ha => by rw [e (w + 12) a (by unfold uCl; omega)]; exact h4 a ha, ?_, by rw [f.2 (q + 1) (by omega)]; exact h6, h7.fy2 f.1 fun b j z => (hP b j z).2, h8⟩
  · have : CLk w G t ce me (M'.1, M'.2.1, M.2.2) := h3.fx f.1.x fun b j hb z => (hP b j z).1 (by unfold uCl; omega)
    exact this
  · have : CV q w g G t ce me gv val trn uns gN gr fr od kt (M'.1, M'.2.1, M.2.2) := h5.fx f.1.x fun b j z => by
      have := (hP b j z).1
      unfold uCl at this
      omega
    exact ⟨this.1, this.2.1, this.2.2.1, this.2.2.2.1, this.2.2.2.2⟩
theorem TrI.fw {P : Nat → Nat → Prop} {w q g : Nat} {G : Gr} {M M' : Mm} (hq : q = 105 ∨ q = 121) (h : TrI w q g G M) (f : FW P M M') (hP : ∀ b j, P b j → ¬ uCl w q b j ∧ ¬ uR b j) (hQ : ¬ P 1 3 ∧ ¬ P 137 53) : TrI w q g G M' := by
  rcases h with h | ⟨h1, t, ce, me, gv, val, trn, uns, gN, gr, fr, od, kt, dg, h2⟩
  · exact Or.inl ⟨by rw [f.e (fun z => (hP _ _ z).1 (by unfold uCl; omega))]; exact h.1, by rw [f.e (fun z => (hP _ _ z).2 (by unfold uR; omega))]; exact h.2⟩
  · exact Or.inr ⟨by rw [f.e hQ.1, f.e hQ.2]; exact h1, t, ce, me, gv, val, trn, uns, gN, gr, fr, od, kt, dg, h2.fw hq f hP⟩
/-- cells of the grammar in use -/
def uG (g b j : Nat) : Prop := 9 ≤ b ∧ b ≤ 23 ∨ 24 ≤ b ∧ b ≤ 29 ∨ g ≤ b ∧ b ≤ g + 16 ∨ b = 139 ∨ b = 141 ∨ b = 143 ∨ b = 137 ∧ j = 9
theorem GrI.fw {P : Nat → Nat → Prop} {g : Nat} {G : Gr} {A : Nat → Nat} {M M' : Mm} (h : GrI g G A M) (f : FW P M M') (hP : ∀ b j, P b j → ¬ uG g b j) : GrI g G A M' := by
  obtain ⟨h1, h2, h3, h4, h5, h6, h7, h8, h9⟩ := h
  have : GrI g G A (M'.1, M'.2.1, M.2.2) := ⟨h1, h2, h3.fx f.1.x fun k hk j z => hP _ _ z (by unfold uG; omega), h4.fx f.1.x (fun j z => hP _ _ z (by unfold uG; omega)) (fun j z => hP _ _ z (by unfold uG; omega)), (f.e (fun z => hP _ _ z (by unfold uG; omega))).trans h5, h6, h7.fx f.1.x fun b j z => by have := hP _ _ z; unfold uG at this; omega, h8.fx f.1.x fun b j z => by have := hP _ _ z; unfold uG at this; omega, h9.fx f.1.x fun j _ _ z => hP _ _ z (by unfold uG; omega)⟩
  exact this
theorem CKs.fw {P : Nat → Nat → Prop} {G : Gr} {M M' : Mm} (h : CKs G M) (f : FW P M M') (hP : ∀ b j, P b j → b < 24 ∨ 29 < b) : CKs G M' := by
  have : CKs G (M'.1, M'.2.1, M.2.2) := h.fx f.1.x hP
  exact this
theorem StI.fw {P : Nat → Nat → Prop} {w q g : Nat} {M M' : Mm} (hq : q = 105 ∨ q = 121) (h : StI w q g M) (f : FW P M M') (hP : ∀ b j, P b j → ¬ uG g b j ∧ ¬ uCl w q b j ∧ ¬ uR b j ∧ ¬ (b = 1 ∧ j = 3) ∧ ¬ (b = 137 ∧ j = 53)) : StI w q g M' := by
  rcases h with ⟨n1, n2, n3, n4, n5⟩ | ⟨G, A, a1, a2, a3⟩
  · exact Or.inl ⟨by rw [f.e fun z => (hP _ _ z).1 (by unfold uG; omega)]; exact n1, by rw [f.e fun z => (hP _ _ z).1 (by unfold uG; omega)]; exact n2, by rw [f.e fun z => (hP _ _ z).1 (by unfold uG; omega)]; exact n3, by rw [f.e fun z => (hP _ _ z).2.1 (by unfold uCl; omega)]; exact n4, by rw [f.e fun z => (hP _ _ z).2.2.1 (by unfold uR; omega)]; exact n5⟩
  · exact Or.inr ⟨G, A, a1.fw f fun b j z => (hP b j z).1, a2.fw f fun b j z => by have := (hP b j z).1; unfold uG at this; omega, a3.fw hq f (fun b j z => ⟨(hP b j z).2.1, (hP b j z).2.2.1⟩) ⟨fun z => (hP _ _ z).2.2.2.1 ⟨rfl, rfl⟩, fun z => (hP _ _ z).2.2.2.2 ⟨rfl, rfl⟩⟩⟩
theorem q_feed (hN : 20000 < N) (I : INV M) (a b c d e : Int32) : QOK M (D_X11_feed N 1 a b c d e M) (D_X12_feed N 137 a b c d e) := by
  have I' := I
  obtain ⟨i10, g, g', w, w', q, q', I0⟩ := I
  obtain ⟨⟨B, n, Co⟩, R, St⟩ := I0
  obtain ⟨hg, hw, hqq, _⟩ := R.gg
  have n1000 := Co.1
  have x1 : D_X11_feed N 1 a b c d e M = if n + 20 ≤ 1000 then ((D_X7_append N 2 a M).bind fun M1 => (D_X7_append N 2 b M1).bind fun M2 => (D_X7_append N 2 c M2).bind fun M3 => (D_X7_append N 2 d M3).bind fun M4 => (D_X7_append N 2 e M4).bind fun M5 => some ((M5.1 2 6), M5)) else some (m1, M) := by
    unfold D_X11_feed
    rw [show (1 : Nat) + 1 = 2 from rfl, Co.2.1, nI_add]
    simp only [n_le (show n + 20 < 2 ^ 31 by omega) (show 1000 < 2 ^ 31 by decide)]
  have y1 : ∀ M, M.1 137 5 = nI n → D_X12_feed N 137 a b c d e M = if n + 20 ≤ 1000 then ((D_X12_come N 137 a M).bind fun M1 => (D_X12_come N 137 b M1).bind fun M2 => (D_X12_come N 137 c M2).bind fun M3 => (D_X12_come N 137 d M3).bind fun M4 => (D_X12_come N 137 e M4).bind fun M5 => some ((M5.1 137 5), M5)) else some (m1, M) := fun M h => by
    unfold D_X12_feed
    rw [h, nI_add]
    simp only [n_le (show n + 20 < 2 ^ 31 by omega) (show 1000 < 2 ^ 31 by decide)]
  by_cases k : n + 20 ≤ 1000
  · rw [if_pos k] at x1
    have T0 : TPc B n M := ⟨Co.2.1, fun i hi => (Co.2.2.2.1 i hi).1⟩
    obtain ⟨M1, a1, T1, f1⟩ := s_append N (by omega) a T0 (by omega)
    obtain ⟨M2, a2, T2, f2⟩ := s_append N (by omega) b T1 (by omega)
    obtain ⟨M3, a3, T3, f3⟩ := s_append N (by omega) c T2 (by omega)
    obtain ⟨M4, a4, T4, f4⟩ := s_append N (by omega) d T3 (by omega)
    obtain ⟨M5, a5, T5, f5⟩ := s_append N (by omega) e T4 (by omega)
    have F5 := (((f1.trans f2).trans f3).trans f4).trans f5
    rw [a1, Option.bind_some, a2, Option.bind_some, a3, Option.bind_some, a4, Option.bind_some, a5, Option.bind_some, T5.1] at x1
    have lo : ∀ b j, ¬ (b = 3 ∨ b = 2 ∧ j = 6) → M5.1 b j = M.1 b j := fun b j hb => (F5.2 b j hb).1
    have R0 : TPr B n M5 := ⟨by rw [lo 137 5 (by omega)]; exact Co.2.2.1, fun i hi => by rw [lo 138 i (by omega)]; exact (Co.2.2.2.1 i hi).2.2⟩
    obtain ⟨K1, b1, S1, h1⟩ := r_come N (by omega) a R0 (by omega)
    obtain ⟨K2, b2, S2, h2⟩ := r_come N (by omega) b S1 (by omega)
    obtain ⟨K3, b3, S3, h3⟩ := r_come N (by omega) c S2 (by omega)
    obtain ⟨K4, b4, S4, h4⟩ := r_come N (by omega) d S3 (by omega)
    obtain ⟨K5, b5, S5, h5⟩ := r_come N (by omega) e S4 (by omega)
    have H5 := (((h1.trans h2).trans h3).trans h4).trans h5
    have hi5 : ∀ b j, ¬ (b = 138 ∨ b = 137 ∧ j = 5) → K5.1 b j = M5.1 b j := fun b j hb => (H5.2 b j hb).1
    have FF : FX (fun b j => b = 2 ∧ j = 6 ∨ b = 3 ∨ b = 138 ∨ b = 137 ∧ j = 5) M K5 := (F5.mono fun b j z => by omega).trans (H5.mono fun b j z => by omega)
    have ff : ∀ b j, ¬ (b = 2 ∧ j = 6 ∨ b = 3 ∨ b = 138 ∨ b = 137 ∧ j = 5) → K5.1 b j = M.1 b j := fun b j hb => (FF.2 b j hb).1
    have lt := ext_lt (m := 1001) (x := e) (n := n + 4 + 4 + 4 + 4) (B := ext (ext (ext (ext B n a) (n + 4) b) (n + 4 + 4) c) (n + 4 + 4 + 4) d) (ext_lt (ext_lt (ext_lt (ext_lt fun i hi => (Co.2.2.2.1 i hi).2.1))))
    refine ⟨nI (n + 4 + 4 + 4 + 4 + 4), M5, K5, x1, ?_, ?_, g, g', w, w', q, q', ⟨ext (ext (ext (ext (ext B n a) (n + 4) b) (n + 4 + 4) c) (n + 4 + 4 + 4) d) (n + 4 + 4 + 4 + 4) e, n + 4 + 4 + 4 + 4 + 4, by omega, ?_, S5.1, fun i hi => ⟨?_, lt i (by omega), S5.2 i hi⟩, ?_, ?_, ?_, ?_⟩, R.fx FF, St.fw hqq FF.w fun b j z => by unfold uG uCl uR; omega⟩
    · rw [y1 M5 R0.1, if_pos k, b1, Option.bind_some, b2, Option.bind_some, b3, Option.bind_some, b4, Option.bind_some, b5, Option.bind_some, S5.1]
    · rw [ff 1 0 (by omega), ff 137 6 (by omega)]; exact i10
    · rw [hi5 2 6 (by omega)]; exact T5.1
    · rw [hi5 3 i (by omega)]; exact T5.2 i hi
    · rw [ff 1 1 (by omega), ff 137 7 (by omega)]; exact Co.2.2.2.2.1
    · rw [ff 1 2 (by omega), ff 137 8 (by omega)]; exact Co.2.2.2.2.2.1
    · rw [ff 30 6 (by omega), ff 137 54 (by omega)]; exact Co.2.2.2.2.2.2.1
    · rw [ff 30 7 (by omega), ff 137 55 (by omega)]; exact Co.2.2.2.2.2.2.2
  · exact ⟨m1, M, M, by rw [x1, if_neg k], by rw [y1 M Co.2.2.1, if_neg k], I'⟩
theorem q_status (I : INV M) : ∃ r, D_X11_status N 1 M = some r ∧ D_X12_status N 137 M = some r := ⟨M.1 1 0, rfl, by rw [I.1]; rfl⟩
theorem q_fault (I : INV M) (a : Int32) : ∃ r, D_X11_fault N 1 a M = some r ∧ D_X12_fault N 137 a M = some r := by
  obtain ⟨_, g, g', w, w', q, q', ⟨B, n, Co⟩, _⟩ := I
  unfold D_X11_fault D_X12_fault
  rw [← Co.2.2.2.2.1, ← Co.2.2.2.2.2.1]
  by_cases c : a = nI 0
  · rw [if_pos c]; exact ⟨_, rfl, rfl⟩
  · rw [if_neg c]
    by_cases d : a = nI 1
    · rw [if_pos d]; exact ⟨_, rfl, rfl⟩
    · rw [if_neg d]; exact ⟨_, rfl, rfl⟩
end q
