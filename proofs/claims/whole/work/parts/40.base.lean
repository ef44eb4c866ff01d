/-! plain rows over D_: numbers, indices, memory -/
def bI (b : Bool) : Int32 := if b then nI 1 else nI 0
theorem bI_t : bI true = nI 1 := rfl
theorem bI_f : bI false = nI 0 := rfl
theorem z10 : ¬ (nI 1 = nI 0) := by decide +kernel
theorem bI_0 (b : Bool) : (bI b = nI 0) = (b = false) := by cases b <;> simp [bI, z10]
theorem bI_1 (b : Bool) : (bI b = nI 1) = (b = true) := by
  have : ¬ (nI 0 = nI 1) := by decide +kernel
  cases b <;> simp [bI, this]
theorem okZ_b (b : Bool) : okZ (bI b) = some (bI b) := by cases b <;> rfl
theorem okZ_0 : okZ (nI 0) = some (nI 0) := rfl
theorem okZ_1 : okZ (nI 1) = some (nI 1) := rfl
theorem retZ_b (b : Bool) (M : Mm) : retZ (bI b) M = some (bI b, M) := by cases b <;> rfl
theorem retZ_0 (M : Mm) : retZ (nI 0) M = some (nI 0, M) := rfl
theorem retZ_1 (M : Mm) : retZ (nI 1) M = some (nI 1, M) := rfl
theorem m1_toInt : m1.toInt = -1 := by decide +kernel
theorem n_ne_m1 {a : Nat} (h : a < 2 ^ 31) : ¬ nI a = m1 := fun e => by
  have h1 := nI_toInt h
  rw [e, m1_toInt] at h1
  omega
theorem m1_ne_n {a : Nat} (h : a < 2 ^ 31) : ¬ m1 = nI a := fun e => n_ne_m1 h e.symm
theorem n_lt {a b : Nat} (ha : a < 2 ^ 31) (hb : b < 2 ^ 31) : (nI a < nI b) = (a < b) := propext (nI_ltI ha hb)
theorem n_le {a b : Nat} (ha : a < 2 ^ 31) (hb : b < 2 ^ 31) : (nI a ≤ nI b) = (a ≤ b) := propext (nI_leI ha hb)
theorem n_eq {a b : Nat} (ha : a < 2 ^ 31) (hb : b < 2 ^ 31) : (nI a = nI b) = (a = b) := propext (nI_eq ha hb)
theorem n_sub {a b : Nat} (h : b ≤ a) : nI a - nI b = nI (a - b) := pk_sub h
theorem n_neg {a b : Nat} (h : b ≤ a) : nI a + -(nI b) = nI (a - b) := by rw [← n_sub h, Int32.sub_eq_add_neg]
theorem n_m1 {a : Nat} (h : 0 < a) : nI a + m1 = nI (a - 1) := by
  obtain ⟨b, rfl⟩ : ∃ b, a = b + 1 := ⟨a - 1, by omega⟩
  exact pk_m1 b
theorem m1_add (a : Nat) : m1 + nI (a + 1) = nI a := by rw [Int32.add_comm]; exact pk_m1 a
theorem n_m1_lt {a : Nat} (h : a < 2 ^ 31) : (nI a < m1) = False := by
  refine eq_false fun e => ?_
  have h1 := Int32.lt_iff_toInt_lt.mp e
  rw [nI_toInt h, m1_toInt] at h1
  omega
theorem m1_lt_n {a : Nat} (h : a < 2 ^ 31) : (m1 < nI a) = True := by
  refine eq_true (Int32.lt_iff_toInt_lt.mpr ?_)
  rw [nI_toInt h, m1_toInt]
  omega
theorem m1_lt_0 : (m1 < nI 0) = True := m1_lt_n (by omega)
theorem m1_le_n {a : Nat} (h : a < 2 ^ 31) : (m1 ≤ nI a) = True := by
  refine eq_true (Int32.le_iff_toInt_le.mpr ?_)
  rw [nI_toInt h, m1_toInt]
  omega
theorem n_le_m1 {a : Nat} (h : a < 2 ^ 31) : (nI a ≤ m1) = False := by
  refine eq_false fun e => ?_
  have h1 := Int32.le_iff_toInt_le.mp e
  rw [nI_toInt h, m1_toInt] at h1
  omega
/-- any int: below 0, or a number -/
theorem n_cases (x : Int32) : x < nI 0 ∨ ∃ a : Nat, a < 2 ^ 31 ∧ x = nI a := by
  rw [nI_0]
  by_cases h : x < 0
  · exact Or.inl h
  · exact Or.inr (nI_of h)
theorem ix_n {n k : Nat} (h : k < n) (hn : n ≤ 2 ^ 31) : ix n (nI k) = some k := by
  have hk : k < 2 ^ 31 := by omega
  unfold ix
  rw [if_neg, nI_clamp hk]
  rw [nI_clamp hk]
  rintro (q | q)
  · exact nI_pos hk q
  · omega
theorem ldI_n {n a k : Nat} {M : Mm} (h : k < n) (hn : n ≤ 2 ^ 31) : ldI n a (nI k) M = some (M.1 a k) := by rw [ldI, ix_n h hn]; rfl
theorem ldJ_n {n a k : Nat} {M : Mm} (h : k < n) (hn : n ≤ 2 ^ 31) : ldJ n a (nI k) M = some (M.2.1 a k) := by rw [ldJ, ix_n h hn]; rfl
theorem stI_n {n a k : Nat} {v : Int32} {M : Mm} (h : k < n) (hn : n ≤ 2 ^ 31) : stI n a (nI k) v M = some (upI M a k v) := by rw [stI, ix_n h hn]; rfl
theorem stJ_n {n a k : Nat} {v : Int64} {M : Mm} (h : k < n) (hn : n ≤ 2 ^ 31) : stJ n a (nI k) v M = some (upJ M a k v) := by rw [stJ, ix_n h hn]; rfl
theorem stB_n {n a k : Nat} {v : Int32} {M : Mm} (h : k < n) (hn : n ≤ 2 ^ 31) : stB n a (nI k) v M = some (upI M a k v.toInt8.toInt32) := by rw [stB, ix_n h hn]; rfl
theorem stZ_n {n a k : Nat} {b : Bool} {M : Mm} (h : k < n) (hn : n ≤ 2 ^ 31) : stZ n a (nI k) (bI b) M = some (upI M a k (bI b)) := by rw [stZ, okZ_b, ix_n h hn]; rfl
theorem stZ_0 {n a k : Nat} {M : Mm} (h : k < n) (hn : n ≤ 2 ^ 31) : stZ n a (nI k) (nI 0) M = some (upI M a k (nI 0)) := stZ_n (b := false) h hn
theorem stZ_1 {n a k : Nat} {M : Mm} (h : k < n) (hn : n ≤ 2 ^ 31) : stZ n a (nI k) (nI 1) M = some (upI M a k (nI 1)) := stZ_n (b := true) h hn
theorem pI_n {M : Mm} {g f : Nat} {v : Int32} : pI M g f v = some (upI M g f v) := rfl
theorem pJ_n {M : Mm} {g f : Nat} {v : Int64} : pJ M g f v = some (upJ M g f v) := rfl
theorem pN_n {M : Mm} {g f v : Nat} : pN M g f v = some (upN M g f v) := rfl
theorem pZ_b {M : Mm} {g f : Nat} {b : Bool} : pZ M g f (bI b) = some (upI M g f (bI b)) := by rw [pZ, okZ_b]; rfl
theorem pZ_0 {M : Mm} {g f : Nat} : pZ M g f (nI 0) = some (upI M g f (nI 0)) := rfl
theorem pZ_1 {M : Mm} {g f : Nat} : pZ M g f (nI 1) = some (upI M g f (nI 1)) := rfl
theorem dv_n {a b : Nat} (ha : a < 2 ^ 31) (h0 : 0 < b) (hb : b < 2 ^ 31) : dvI (nI a) (nI b) = some (nI (a / b)) := by
  unfold dvI
  rw [if_neg (by rw [← nI_0, nI_eq hb (by omega)]; omega), pk_div ha h0 hb]
theorem rm_n {a b : Nat} (ha : a < 2 ^ 31) (h0 : 0 < b) (hb : b < 2 ^ 31) : rmI (nI a) (nI b) = some (nI (a % b)) := by
  unfold rmI
  rw [if_neg (by rw [← nI_0, nI_eq hb (by omega)]; omega), pk_rem ha h0 hb]
theorem up1 (M : Mm) (a k : Nat) (v : Int32) (b : Nat) : (upI M a k v).1 b = if b = a then upd (M.1 a) k v else M.1 b := rfl
theorem up2 (M : Mm) (a k : Nat) (v : Int32) : (upI M a k v).2 = M.2 := rfl
theorem upJ1 (M : Mm) (a k : Nat) (v : Int64) : (upJ M a k v).1 = M.1 := rfl
theorem upJ2 (M : Mm) (a k : Nat) (v : Int64) (b : Nat) : (upJ M a k v).2.1 b = if b = a then vp_updL (M.2.1 a) k v else M.2.1 b := rfl
theorem upJ3 (M : Mm) (a k : Nat) (v : Int64) : (upJ M a k v).2.2 = M.2.2 := rfl
theorem upN1 (M : Mm) (a k v : Nat) : (upN M a k v).1 = M.1 := rfl
theorem upN2 (M : Mm) (a k v : Nat) : (upN M a k v).2.1 = M.2.1 := rfl
theorem upN3 (M : Mm) (a k v : Nat) (b : Nat) : (upN M a k v).2.2 b = if b = a then (fun j => if j = k then v else M.2.2 a j) else M.2.2 b := rfl
theorem upd_a (f : Nat → Int32) (k : Nat) (x : Int32) (j : Nat) : upd f k x j = if j = k then x else f j := rfl
theorem updL_a (f : Nat → Int64) (k : Nat) (x : Int64) (j : Nat) : vp_updL f k x j = if j = k then x else f j := rfl
/-- memory stays outside some cells -/
def Fr (S : Nat → Prop) (M M' : Mm) : Prop := ∀ a, ¬ S a → M'.1 a = M.1 a ∧ M'.2.1 a = M.2.1 a ∧ M'.2.2 a = M.2.2 a
theorem Fr.refl {S : Nat → Prop} {M : Mm} : Fr S M M := fun _ _ => ⟨rfl, rfl, rfl⟩
theorem Fr.trans {S : Nat → Prop} {M M' M'' : Mm} (h : Fr S M M') (h' : Fr S M' M'') : Fr S M M'' := fun a ha => ⟨(h' a ha).1.trans (h a ha).1, (h' a ha).2.1.trans (h a ha).2.1, (h' a ha).2.2.trans (h a ha).2.2⟩
theorem Fr.mono {S S' : Nat → Prop} {M M' : Mm} (h : Fr S M M') (hs : ∀ a, S a → S' a) : Fr S' M M' := fun a ha => h a fun h1 => ha (hs a h1)
theorem Fr.I {S : Nat → Prop} {M : Mm} {a k : Nat} {v : Int32} (h : S a) : Fr S M (upI M a k v) := fun b hb => ⟨by rw [up1, if_neg (fun e => hb (by rw [e]; exact h))], by rw [up2], by rw [up2]⟩
theorem Fr.J {S : Nat → Prop} {M : Mm} {a k : Nat} {v : Int64} (h : S a) : Fr S M (upJ M a k v) := fun b hb => ⟨by rw [upJ1], by rw [upJ2, if_neg (fun e => hb (by rw [e]; exact h))], by rw [upJ3]⟩
theorem Fr.N {S : Nat → Prop} {M : Mm} {a k v : Nat} (h : S a) : Fr S M (upN M a k v) := fun b hb => ⟨by rw [upN1], by rw [upN2], by rw [upN3, if_neg (fun e => hb (by rw [e]; exact h))]⟩
-- bits
theorem n_and (a b : Nat) : nI a &&& nI b = nI (a &&& b) := by
  apply Int32.toBitVec_inj.mp
  simp [nI, BitVec.ofNat_and]
theorem n_or (a b : Nat) : nI a ||| nI b = nI (a ||| b) := by
  apply Int32.toBitVec_inj.mp
  simp [nI, BitVec.ofNat_or]
