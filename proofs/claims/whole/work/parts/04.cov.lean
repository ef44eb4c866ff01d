/-! the memory: cells by their numbers (1, 2, .. as they are made), null is 0 -/
abbrev Mm : Type := (Nat → Nat → Int32) × (Nat → Nat → Int64) × (Nat → Nat → Nat)
def layL : List (Nat × Nat) := [(0,0), (5,11), (5,7), (4,1000), (1,1001), (1,1001), (2,1001), (5,2), (5,9), (5,3), (1,64), (1,384), (0,0), (0,0), (0,0), (5,5), (1,8), (1,64), (1,384), (1,432), (1,4), (1,12), (1,12), (1,12), (5,6), (1,96), (1,8), (1,8), (1,32), (1,8), (5,0), (3,320), (3,320), (3,320), (1,40), (5,1), (2,8), (2,64), (2,12), (1,8), (1,8), (1,12), (1,48), (1,12), (1,12), (1,12), (1,12), (1,384), (1,384), (1,384), (1,384), (1,1000), (5,1), (2,8), (2,64), (2,12), (1,8), (1,8), (1,12), (1,48), (1,12), (1,12), (1,12), (1,12), (1,384), (1,384), (1,384), (1,384), (1,1000), (5,8), (1,40), (1,40), (1,40), (1,40), (1,40), (1,40), (1,40), (1,40), (1,40), (1,40), (1,160), (1,4), (1,320), (1,320), (1,320), (3,320), (1,320), (5,8), (1,40), (1,40), (1,40), (1,40), (1,40), (1,40), (1,40), (1,40), (1,40), (1,40), (1,160), (1,4), (1,320), (1,320), (1,320), (3,320), (1,320), (5,10), (5,4), (1,320), (1,321), (1,320), (3,320), (1,320), (1,320), (1,320), (1,320), (1,320), (1,320), (1,320), (1,320), (3,320), (1,20), (5,10), (5,4), (1,320), (1,321), (1,320), (3,320), (1,320), (1,320), (1,320), (1,320), (1,320), (1,320), (1,320), (1,320), (3,320), (1,20), (5,12), (1,1000), (1,3816), (1,3816), (2,84), (2,84), (1,64), (1,32), (1,32), (1,32), (1,32), (1,8), (1,64), (1,8), (1,100), (1,4), (1,112), (1,8), (1,8), (1,4), (1,40), (1,40), (1,40), (1,40), (1,40), (1,40), (1,4), (1,320), (1,320), (1,320), (1,320), (1,320), (1,320), (1,320), (1,320), (1,3200), (1,3200), (3,320), (3,320), (3,320), (3,320), (3,320), (3,320), (1,64), (1,320)]
def lay (k : Nat) : Nat × Nat := layL.getD k (0,0)
def fkL : List (List (Nat × Nat × Nat × Nat)) := [[(2,1,3,320), (2,2,3,320), (2,3,3,320), (2,4,1,40), (0,0,0,0), (0,0,0,0), (0,0,0,0), (0,0,0,0)],
  [(0,0,0,0), (0,0,0,0), (0,0,0,0), (2,1,2,8), (2,2,2,64), (2,3,2,12), (2,4,1,8), (2,5,1,8), (2,6,1,12), (2,7,1,48), (2,8,1,12), (2,9,1,12), (2,10,1,12), (2,11,1,12), (2,12,1,384), (2,13,1,384), (2,14,1,384), (2,15,1,384), (2,16,1,1000)],
  [(3,0,0,0), (3,0,0,0), (0,0,0,0), (0,0,0,0), (0,0,0,0)],
  [(2,1,1,64), (2,2,1,384), (0,0,0,0), (0,0,0,0)],
  [(2,1,1,320), (2,2,1,321), (2,3,1,320), (2,4,3,320), (0,0,0,0), (0,0,0,0), (3,0,0,0), (2,5,1,320), (2,6,1,320), (2,7,1,320), (0,0,0,0), (2,8,1,320), (2,9,1,320), (0,0,0,0), (0,0,0,0), (2,10,1,320)],
  [(2,1,1,8), (2,2,1,64), (2,3,1,384), (0,0,0,0), (2,4,1,432), (2,5,1,4), (0,0,0,0), (2,6,1,12), (2,7,1,12), (2,8,1,12)],
  [(2,1,1,96), (2,2,1,8), (2,3,1,8), (2,4,1,32), (2,5,1,8), (0,0,0,0), (0,0,0,0), (0,0,0,0), (0,0,0,0), (0,0,0,0), (0,0,0,0)],
  [(2,1,4,1000), (2,2,1,1001), (2,3,1,1001), (2,4,2,1001), (0,0,0,0), (0,0,0,0), (0,0,0,0), (0,0,0,0), (1,0,0,0), (0,0,0,0), (0,0,0,0)],
  [(0,0,0,0), (2,1,1,40), (2,2,1,40), (2,3,1,40), (2,4,1,40), (2,5,1,40), (2,6,1,40), (2,7,1,40), (2,8,1,40), (2,9,1,40), (2,10,1,40), (2,11,1,160), (2,12,1,4), (2,13,1,320), (2,14,1,320), (2,15,1,320), (2,16,3,320), (2,17,1,320), (0,0,0,0)],
  [(3,0,0,0), (3,0,0,0), (3,0,0,0), (0,0,0,0)],
  [(2,1,5,4), (2,12,1,320), (2,13,1,320), (2,14,3,320), (2,15,1,20), (3,0,0,0), (3,0,0,0)],
  [(0,0,0,0), (0,0,0,0), (0,0,0,0), (0,0,0,0), (2,1,5,7), (2,6,5,2), (2,7,5,9), (2,8,5,3), (2,14,5,5), (2,23,5,6), (2,29,5,0), (3,0,0,0), (3,0,0,0), (3,0,0,0), (3,0,0,0), (3,0,0,0), (3,0,0,0)],
  [(2,1,1,1000), (2,2,1,3816), (2,3,1,3816), (2,4,2,84), (2,5,2,84), (0,0,0,0), (0,0,0,0), (0,0,0,0), (0,0,0,0), (0,0,0,0), (0,0,0,0), (0,0,0,0), (0,0,0,0), (0,0,0,0), (0,0,0,0), (0,0,0,0), (0,0,0,0), (0,0,0,0), (1,0,0,0), (0,0,0,0), (0,0,0,0), (0,0,0,0), (2,6,1,64), (2,7,1,32), (2,8,1,32), (2,9,1,32), (2,10,1,32), (0,0,0,0), (2,11,1,8), (2,12,1,64), (2,13,1,8), (0,0,0,0), (2,14,1,100), (0,0,0,0), (2,15,1,4), (2,16,1,112), (2,17,1,8), (2,18,1,8), (2,19,1,4), (0,0,0,0), (0,0,0,0), (0,0,0,0), (0,0,0,0), (2,20,1,40), (2,21,1,40), (2,22,1,40), (2,23,1,40), (2,24,1,40), (2,25,1,40), (2,26,1,4), (0,0,0,0), (0,0,0,0), (0,0,0,0), (0,0,0,0), (0,0,0,0), (0,0,0,0), (2,27,1,320), (2,28,1,320), (2,29,1,320), (2,30,1,320), (2,31,1,320), (2,32,1,320), (2,33,1,320), (2,34,1,320), (2,35,1,3200), (2,36,1,3200), (2,37,3,320), (2,38,3,320), (2,39,3,320), (2,40,3,320), (2,41,3,320), (2,42,3,320), (0,0,0,0), (2,43,1,64), (2,44,1,320)]]
/-- cells are numbered as they were made in the first class: where number k lies, and which number lies there -/
def pz (k : Nat) : Nat := if k < 12 then k else k - 3
def vi (p : Nat) : Nat := if p < 12 then p else p + 3
def okv (k : Nat) : Prop := 1 ≤ pz k ∧ pz k ≤ 178 ∧ vi (pz k) = k
theorem pz_viC : ((List.range 178).all fun i => pz (vi (i + 1)) == i + 1) = true := by decide +kernel
theorem pz_vi (i : Nat) (h : i < 178) : pz (vi (i + 1)) = i + 1 := by
  have := List.all_eq_true.mp pz_viC i (List.mem_range.mpr h)
  simpa using this
def fk (c f : Nat) : Nat × Nat × Nat × Nat := (fkL.getD c []).getD f (0,0,0,0)
abbrev Wp : Type := Launch × va_G × (ClassId × ClassId × ClassId × ClassId) × Nat
abbrev wL (w : Wp) : Launch := w.1
abbrev wD (w : Wp) : va_G := w.2.1
abbrev wB (w : Wp) : Nat := w.2.2.2
def rv (b0 r : Nat) : Value := if r = 0 then .null else .ref (b0 + pz r)
def fval (b0 : Nat) (M : Mm) (g c f : Nat) : Value :=
  if (fk c f).1 = 0 then .int (M.1 g f) else if (fk c f).1 = 1 then .long (M.2.1 g f) else if (fk c f).1 = 2 then .ref (b0 + pz (g + (fk c f).2.1)) else rv b0 (M.2.2 g f)
def nfl (c : Nat) : Nat := (fkL.getD c []).length
def flds (b0 : Nat) (M : Mm) (g c : Nat) : List Value := (List.range (nfl c)).map (fval b0 M g c)
def cellE (w : Wp) (M : Mm) (k : Nat) : va_E :=
  if (lay k).1 = 1 then .inl (w.2.2.1.1, (lay k).2, .inl (M.1 k))
  else if (lay k).1 = 2 then .inl (w.2.2.1.2.1, (lay k).2, .inr (.inl (M.2.1 k)))
  else if (lay k).1 = 3 then .inl (w.2.2.1.2.2.1, (lay k).2, .inl (M.1 k))
  else if (lay k).1 = 4 then .inl (w.2.2.1.2.2.2, (lay k).2, .inl (M.1 k))
  else .inr ((lay k).2, flds (wB w) M k (lay k).2)
def wsl (w : Wp) (M : Mm) : va_W := (List.range 178).map (fun k => (wB w + (k + 1), cellE w M (vi (k + 1))))
abbrev tysl (w : Wp) : List (ClassId × FieldType) := [(w.2.2.1.1, .int), (w.2.2.1.2.1, .long), (w.2.2.1.2.2.1, .boolean), (w.2.2.1.2.2.2, .byte)]
def Aw (w : Wp) : Nat → Prop := fun q => wB w < q
theorem wsl_get (w : Wp) (M : Mm) {k : Nat} (h : okv k) : (wsl w M)[pz k - 1]? = some (wB w + pz k, cellE w M k) := by
  obtain ⟨h1, h2, h3⟩ := h
  obtain ⟨j, hj⟩ : ∃ j, pz k = j + 1 := ⟨pz k - 1, by omega⟩
  rw [hj] at h2 h3 ⊢
  simp [wsl, List.getElem?_range (show j < 178 by omega), h3]
theorem wsl_set (w : Wp) (M M' : Mm) {k : Nat} {e : va_E} (h : okv k) (he : cellE w M' k = e) (ho : ∀ j, j ≠ k → cellE w M' j = cellE w M j) : (wsl w M).set (pz k - 1) (wB w + pz k, e) = wsl w M' := by
  obtain ⟨h1, h2, h3⟩ := h
  apply List.ext_getElem?
  intro i
  rw [List.getElem?_set]
  by_cases hi : i < 178
  · by_cases hk : pz k - 1 = i
    · rw [if_pos hk, if_pos (by simp [wsl]; omega)]
      have hi1 : i + 1 = pz k := by omega
      simp only [wsl, List.getElem?_map, List.getElem?_range hi, Option.map_some]
      rw [hi1, h3, he]
    · rw [if_neg hk]
      simp only [wsl, List.getElem?_map, List.getElem?_range hi, Option.map_some]
      rw [ho (vi (i + 1)) (fun q => hk (by rw [← q, pz_vi i hi]; omega))]
  · have hk : ¬ pz k - 1 = i := by omega
    rw [if_neg hk, List.getElem?_eq_none (by simp [wsl]; omega), List.getElem?_eq_none (by simp [wsl]; omega)]
theorem wsl_D (w : Wp) (M : Mm) : va_D (Aw w) (wsl w M) := by
  have key : ∀ (i : Nat) (p : Nat × va_E), (wsl w M)[i]? = some p → p.1 = wB w + (i + 1) := by
    intro i p h
    have hi : i < 178 := by
      have := (List.getElem?_eq_some_iff.mp h).1
      simpa [wsl] using this
    simp only [wsl, List.getElem?_map, List.getElem?_range hi, Option.map_some] at h
    rw [← Option.some.inj h]
  refine ⟨fun i j p q hi hj e => ?_, fun k q hk => ?_⟩
  · rw [key i p hi, key j q hj] at e; omega
  · show wB w < q.1
    rw [key k q hk]; omega
theorem lay_in {k a n : Nat} (h : lay k = (a, n)) (ha : a ≠ 0) : 1 ≤ k ∧ k ≤ 181 := by
  refine ⟨?_, ?_⟩
  · rcases Nat.eq_zero_or_pos k with h0 | h0
    · subst h0
      have h2 : (0, 0) = (a, n) := h
      exact absurd (congrArg Prod.fst h2).symm ha
    · exact h0
  · refine Nat.not_lt.mp fun hk => ha ?_
    have h1 : lay k = (0, 0) := by
      unfold lay
      rw [List.getD_eq_getElem?_getD, List.getElem?_eq_none (by
        have : layL.length = 181 + 1 := by decide +kernel
        omega)]
      rfl
    exact (congrArg Prod.fst (h.symm.trans h1))
theorem okChk : ((List.range (181 + 1)).all fun k => (lay k).1 == 0 || (decide (1 ≤ pz k) && decide (pz k ≤ 178) && (vi (pz k) == k))) = true := by decide +kernel
theorem lay_ok {k a n : Nat} (h : lay k = (a, n)) (ha : a ≠ 0) : okv k := by
  have hb := lay_in h ha
  have h1 := List.all_eq_true.mp okChk k (List.mem_range.mpr (by omega))
  rw [h] at h1
  have h2 : ((a == 0) = false) := by simp [ha]
  rw [h2, Bool.false_or] at h1
  simp only [Bool.and_eq_true, decide_eq_true_eq, beq_iff_eq] at h1
  exact ⟨h1.1.1, h1.1.2, h1.2⟩
/-- what the final fields hold, of every object -/
def finChk : Bool := (List.range (181 + 1)).all fun g => if (lay g).1 = 5 then (List.range (nfl (lay g).2)).all fun f => if (fk (lay g).2 f).1 = 2 then lay (g + (fk (lay g).2 f).2.1) == (fk (lay g).2 f).2.2 else true else true
theorem finChk_ok : finChk = true := by decide +kernel
theorem lf {g c : Nat} (hg : lay g = (5, c)) (f : Nat) {o k n : Nat} (hf : fk c f = (2, o, k, n)) : lay (g + o) = (k, n) := by
  have hb := lay_in hg (by decide)
  have h1 := List.all_eq_true.mp finChk_ok g (List.mem_range.mpr (by omega))
  rw [hg] at h1
  simp only [if_true] at h1
  have hfl : f < nfl c := by
    refine Nat.not_le.mp fun h => ?_
    have : fk c f = (0,0,0,0) := by
      unfold fk nfl at *
      rw [List.getD_eq_getElem?_getD, List.getElem?_eq_none h]; rfl
    rw [this] at hf
    exact absurd (show (0 : Nat) = 2 from congrArg Prod.fst hf) (by decide)
  have h2 := List.all_eq_true.mp h1 f (List.mem_range.mpr hfl)
  rw [hf] at h2
  simpa using h2
theorem flds_get {b0 : Nat} {M : Mm} {g c f : Nat} (h : f < nfl c) : (flds b0 M g c)[f]? = some (fval b0 M g c f) := by
  simp [flds, List.getElem?_range h]
theorem flds_len {b0 : Nat} {M : Mm} {g c : Nat} : (flds b0 M g c).length = nfl c := by simp [flds]
theorem cell_o {w : Wp} {M : Mm} {g c : Nat} (h : lay g = (5, c)) : cellE w M g = .inr (c, flds (wB w) M g c) := by simp [cellE, h]
theorem cell_i {w : Wp} {M : Mm} {g n : Nat} (h : lay g = (1, n)) : cellE w M g = .inl (w.2.2.1.1, n, .inl (M.1 g)) := by simp [cellE, h]
theorem cell_l {w : Wp} {M : Mm} {g n : Nat} (h : lay g = (2, n)) : cellE w M g = .inl (w.2.2.1.2.1, n, .inr (.inl (M.2.1 g))) := by simp [cellE, h]
theorem cell_z {w : Wp} {M : Mm} {g n : Nat} (h : lay g = (3, n)) : cellE w M g = .inl (w.2.2.1.2.2.1, n, .inl (M.1 g)) := by simp [cellE, h]
theorem cell_b {w : Wp} {M : Mm} {g n : Nat} (h : lay g = (4, n)) : cellE w M g = .inl (w.2.2.1.2.2.2, n, .inl (M.1 g)) := by simp [cellE, h]
theorem get_c {w : Wp} {M : Mm} {g a n : Nat} (h : lay g = (a, n)) (ha : a ≠ 0) : (wsl w M)[pz g - 1]? = some (wB w + pz g, cellE w M g) := wsl_get w M (lay_ok h ha)
/-- a row of one cell is another one -/
def upR {α : Type} (m : Nat → Nat → α) (a : Nat) (r : Nat → α) : Nat → Nat → α := fun b => if b = a then r else m b
def upI (M : Mm) (a k : Nat) (v : Int32) : Mm := (upR M.1 a (upd (M.1 a) k v), M.2)
def upJ (M : Mm) (a k : Nat) (v : Int64) : Mm := (M.1, upR M.2.1 a (vp_updL (M.2.1 a) k v), M.2.2)
def upN (M : Mm) (a k : Nat) (v : Nat) : Mm := (M.1, M.2.1, upR M.2.2 a (fun j => if j = k then v else M.2.2 a j))
theorem upR_s {α : Type} {m : Nat → Nat → α} {a : Nat} {r : Nat → α} : upR m a r a = r := if_pos rfl
theorem upR_n {α : Type} {m : Nat → Nat → α} {a b : Nat} {r : Nat → α} (h : b ≠ a) : upR m a r b = m b := if_neg h
theorem cell_other {w : Wp} {M M' : Mm} {j : Nat} (h1 : M'.1 j = M.1 j) (h2 : M'.2.1 j = M.2.1 j) (h3 : M'.2.2 j = M.2.2 j) : cellE w M' j = cellE w M j := by
  have hf : ∀ c, flds (wB w) M' j c = flds (wB w) M j c := by
    intro c
    unfold flds
    refine List.map_congr_left fun f _ => ?_
    simp only [fval, h1, h2, h3]
  simp only [cellE, h1, h2, hf]
/-- an index -/
def ix (n : Nat) (i : Int32) : Option Nat := if i < 0 ∨ n ≤ i.toNatClampNeg then none else some i.toNatClampNeg
theorem ix_some {n : Nat} {i : Int32} {k : Nat} (h : ix n i = some k) : vp_in i n ∧ i.toNatClampNeg = k := by
  unfold ix at h
  split at h
  · cases h
  · rename_i q; exact ⟨q, Option.some.inj h⟩
def ldI (n a : Nat) (i : Int32) (M : Mm) : Option Int32 := (ix n i).map (M.1 a)
def ldJ (n a : Nat) (i : Int32) (M : Mm) : Option Int64 := (ix n i).map (M.2.1 a)
def stI (n a : Nat) (i v : Int32) (M : Mm) : Option Mm := (ix n i).map fun k => upI M a k v
def stJ (n a : Nat) (i : Int32) (v : Int64) (M : Mm) : Option Mm := (ix n i).map fun k => upJ M a k v
def okZ (v : Int32) : Option Int32 := if v = 0 ∨ v = 1 then some v else none
def stZ (n a : Nat) (i v : Int32) (M : Mm) : Option Mm := (okZ v).bind fun v => (ix n i).map fun k => upI M a k v
def stB (n a : Nat) (i v : Int32) (M : Mm) : Option Mm := (ix n i).map fun k => upI M a k v.toInt8.toInt32
def pI (M : Mm) (g f : Nat) (v : Int32) : Option Mm := some (upI M g f v)
def pZ (M : Mm) (g f : Nat) (v : Int32) : Option Mm := (okZ v).map fun v => upI M g f v
def pJ (M : Mm) (g f : Nat) (v : Int64) : Option Mm := some (upJ M g f v)
def pN (M : Mm) (g f v : Nat) : Option Mm := some (upN M g f v)
/-- a reference field, of a class -/
def rf (M : Mm) (g f c : Nat) : Option Nat := if lay (M.2.2 g f) = (5, c) then some (M.2.2 g f) else none
def retZ (v : Int32) (M : Mm) : Option (Int32 × Mm) := (okZ v).map fun v => (v, M)
def cpI (n0 a0 : Nat) (sp : Int32) (n1 a1 : Nat) (dp n : Int32) (M : Mm) : Option Mm :=
  if sp < 0 ∨ dp < 0 ∨ n < 0 ∨ n0 < sp.toNatClampNeg + n.toNatClampNeg ∨ n1 < dp.toNatClampNeg + n.toNatClampNeg then none
  else some (upR M.1 a1 (va_cpy (M.1 a0) (M.1 a1) sp.toNatClampNeg dp.toNatClampNeg n.toNatClampNeg), M.2)
def mxI (x y : Int32) : Int32 := if x < y then y else x
def mnI (x y : Int32) : Int32 := if y < x then y else x
def shr (x y : Int32) : Int32 := (x.toUInt32 >>> (y.toUInt32 &&& Int32.toUInt32 31)).toInt32
def dvI (x y : Int32) : Option Int32 := if y = 0 then none else some (x / y)
def rmI (x y : Int32) : Option Int32 := if y = 0 then none else some (x - x / y * y)
theorem okZ_some {v r : Int32} (h : okZ v = some r) : r = v ∧ (v = 0 ∨ v = 1) := by
  unfold okZ at h
  split at h
  · exact ⟨(Option.some.inj h).symm, by assumption⟩
  · cases h
theorem narZ {v : Int32} (h : v = 0 ∨ v = 1) : narrow .boolean (.int v) = .int v ∧ fits .boolean (.int v) = true ∧ vp_nar .boolean v = v := by
  rcases h with rfl | rfl <;> exact ⟨by decide +kernel, by decide +kernel, by decide +kernel⟩
-- the machine at a place
abbrev Cx : Type := Program × Env × Room × State × MethodId × Array Value × List Frame × Method × Code × Nat × Nat
abbrev xP (X : Cx) := X.1
abbrev xE (X : Cx) := X.2.1
abbrev xR (X : Cx) := X.2.2.1
abbrev xS (X : Cx) := X.2.2.2.1
abbrev xM (X : Cx) := X.2.2.2.2.1
abbrev xA (X : Cx) := X.2.2.2.2.2.1
abbrev xL (X : Cx) := X.2.2.2.2.2.2.1
abbrev xT (X : Cx) := X.2.2.2.2.2.2.2.1
abbrev xC (X : Cx) := X.2.2.2.2.2.2.2.2.1
abbrev xk (X : Cx) := X.2.2.2.2.2.2.2.2.2.1
abbrev xs (X : Cx) := X.2.2.2.2.2.2.2.2.2.2
def At (w : Wp) (X : Cx) (Q : State → Prop) (nL pc : Nat) (env : List (Nat × Value)) (st : List Value) (M : Mm) : Prop :=
  ∀ (H : Heap) (locs : List Loc) (ls : Array Slot), va_P (wD w) vwCl (wsl w M) H → va_S (Aw w) (xS X).heap H locs → lv_has ls nL env →
    W (xP X) (wL w) (xE X) (xR X) (xS X) (xM X) (xA X) (xL X) (xT X) (xC X) H locs (xk X) (xs X) Q (F0 (xM X) pc ls st)
def Cov {α β : Type} (w : Wp) (X : Cx) (Q : State → Prop) (ρ : β) (F : α → Option β) (nL pc : Nat) (env : List (Nat × Value)) (st : List Value) (M : Mm) (t : Option α) : Prop :=
  t.bind F = some ρ → At w X Q nL pc env st M
def nestA : List (String × Nat × MethodName × String) := [("RuleShuttle", 25, ⟨"RuleShuttle$Tape", "<init>", "()V"⟩, "RuleShuttle"), ("RuleShuttle", 32, ⟨"RuleShuttle$GrammarReader", "<init>", "()V"⟩, "RuleShuttle"), ("RuleShuttle", 39, ⟨"RuleShuttle$TreeReader", "<init>", "()V"⟩, "RuleShuttle"), ("RuleShuttle", 46, ⟨"RuleShuttle$Hanging", "<init>", "()V"⟩, "RuleShuttle"), ("RuleShuttle", 53, ⟨"RuleShuttle$Plans", "<init>", "()V"⟩, "RuleShuttle"), ("RuleShuttle", 60, ⟨"RuleShuttle$Shades", "<init>", "()V"⟩, "RuleShuttle"), ("RuleShuttle", 67, ⟨"RuleShuttle$Change", "<init>", "()V"⟩, "RuleShuttle"), ("RuleShuttle", 74, ⟨"RuleShuttle$Grammar", "<init>", "()V"⟩, "RuleShuttle"), ("RuleShuttle", 84, ⟨"RuleShuttle$Tree", "<init>", "()V"⟩, "RuleShuttle"), ("RuleShuttle", 94, ⟨"RuleShuttle$Work", "<init>", "()V"⟩, "RuleShuttle"), ("RuleShuttle$Work", 11, ⟨"RuleShuttle$Knots", "<init>", "()V"⟩, "RuleShuttle"), ("RuleShuttle$Tree", 116, ⟨"RuleShuttle", "clearFlags", "([Z)V"⟩, "RuleShuttle"), ("RuleShuttle$Change", 25, ⟨"RuleShuttle", "clearFlags", "([Z)V"⟩, "RuleShuttle")]
def nestL : List Cond := nestA.map fun a => Cond.methodLinkNest a.1 a.2.1 a.2.2.1 a.2.2.2
def NW (U : State) : Prop := ∀ q ∈ nestL, va_Nw q U
theorem nest_on : ∀ q ∈ nestL, q.onTables = true := by decide +kernel
theorem NW.warm {s U : State} (hW : s.WarmedH U.vm) (h : NW s) : NW U := by
  intro q hq
  obtain ⟨a, ha, rfl⟩ := List.mem_map.mp hq
  exact va_Nw.warmM hW (h _ hq)
theorem NW.same {u U : State} (h : u.vm = U.vm) (hZ : NW u) : NW U := fun q hq => va_Nw.same (nest_on q hq) h (hZ q hq)
def Good (w : Wp) (X : Cx) (cc : ByteArray) (nL : Nat) (own : String) (rt : Option FieldType) (dp : Nat) : Prop :=
  (xP X).tables.exec = Jvm.exec ∧ (xC X).code = cc ∧ (xC X).maxLocals = nL ∧ (xS X).vm.findClass own = some (xM X).cls ∧ (∀ q ∈ Tg, q.before (xA X) (xS X) = true) ∧ (xT X).locks = false ∧ (xT X).sig.returnType = rt ∧
  va_K (wD w) vwCl (tysl w) (xS X) ∧ dp ≤ (xR X).frames ∧ 64 * dp ≤ (xR X).locals ∧ xk X ≤ (xR X).cells ∧ xs X ≤ (xR X).slots ∧ NW (xS X)
def Qd (w : Wp) (ρ : Option Value × Mm) : Array Value → State → Outcome → State → Prop := fun _ st oc t =>
  (oc = .returned ρ.1 ∧ va_P (wD w) vwCl (wsl w ρ.2) t.heap ∧ va_K (wD w) vwCl (tysl w) t) ∧ va_F (Aw w) st t
def rmD (d : Nat) : Room := { frames := d, cells := 0, slots := 0, locals := 64 * d }
def Pd (w : Wp) (av : List Value) (M : Mm) : Array Value → State → Prop := va_Pc av (fun U => va_P (wD w) vwCl (wsl w M) U.heap ∧ va_K (wD w) vwCl (tysl w) U ∧ NW U)
/-- the contract of a method at some arguments, memory, answer and memory behind it -/
def Con (w : Wp) (d : Nat) (y : MethodName) (cc : ByteArray) (nL : Nat) (rt : Option FieldType) (av : List Value) (M : Mm) (ρ : Option Value × Mm) : Prop :=
  Met (wL w) y (Cond.code y cc nL rt :: Tg) (rmD d) (Pd w av M) (Qd w ρ) 0 0 (Aw w)
def encI (q : Int32 × Mm) : Option Value × Mm := (some (.int q.1), q.2)
def encJ (q : Int64 × Mm) : Option Value × Mm := (some (.long q.1), q.2)
def encV (q : Mm) : Option Value × Mm := (none, q)
theorem Pd_blind (w : Wp) (av : List Value) (M : Mm) : FrameBlind (Pd w av M) := fun a U g mk q => by
  obtain ⟨q0, qP, qK, qN⟩ := q
  exact ⟨q0, qP, va_K.moved (u := U) (U := U.calling g mk a) (Vm.Alike.refl U.vm) qK, NW.same (u := U) (U := U.calling g mk a) rfl qN⟩
/-- a contract out of a walk -/
theorem Con.of {β : Type} {w : Wp} {d : Nat} {y : MethodName} {cc : ByteArray} {nL : Nat} {rt : Option FieldType} {av : List Value} {M : Mm} (enc : β → Option Value × Mm) (ρ : β) (t : Option β) (ht : t = some ρ)
    (hy : plainName y.cls = true) (hn : (lg_sl av).length ≤ nL)
    (k : ∀ X : Cx, Good w X cc nL y.cls rt d → (∀ Q, Q = MQ (xL X) (Qd w (enc ρ)) (xA X) (xS X) (xk X) (xs X) (Aw w) → Cov w X Q ρ some nL 0 (lv_args 0 av) [] M t)) :
    Con w d y cc nL rt av M (enc ρ) := by
  refine Met.ofW (cc := cc) (maxL := nL) (ret := rt) hy rfl ?_
  intro p e s m args below meth c s₁ B hml hv
  obtain ⟨rfl, hP, hK, hN⟩ := hv
  have hts := atoms_spec (ws := Cond.code y cc nL rt :: Tg) B.pre
  have hown : s.vm.findClass y.cls = some m.cls := findClass_of_methodNamed B.named
  have hl := lv_entry av (n := nL) hn
  rw [lg_entry_eq]
  have G : Good w (p, e, (headSpec (Cond.code y cc nL rt :: Tg) (rmD d)).room, s, m, av.toArray, below, meth, c, 0, 0) cc nL y.cls rt d :=
    ⟨B.exec, B.bytes, hml, hown, fun q hq => hts q (List.mem_cons_of_mem _ hq), B.notSynchronized, B.returns, hK, Nat.le_refl _, Nat.le_refl _, Nat.zero_le _, Nat.zero_le _, hN⟩
  exact k _ G _ rfl (by rw [ht]; rfl) s.heap [] _ hP va_S.rf hl
-- what the tables say of a field of a class, at a place of a class's pool
def FL (own : String) (idx c f : Nat) : Prop := ∃ (C : String) (T : u_T) (N : Nat), vwCl[c]? = some (C, T, N) ∧ f < N ∧ f < nfl c ∧ (∀ q ∈ u_ws C T N, q ∈ Tg) ∧ Cond.fieldLink own idx C (T f).2.1 (T f).2.2.1 ∈ Tg ∧ (T f).1 = C
def FP (own : String) (idx c f : Nat) (ty : FieldType) : Prop := ∃ (C : String) (T : u_T) (N : Nat) (ty0 : Nat → FieldType), vwCl[c]? = some (C, T, N) ∧ f < N ∧ f < nfl c ∧ (∀ q ∈ u_ws C T N, q ∈ Tg) ∧ Cond.fieldLink own idx C (T f).2.1 (T f).2.2.1 ∈ Tg ∧ (T f).1 = C ∧
  (∀ k, k < N → parseFieldDescriptor (T k).2.2.1 = some (ty0 k)) ∧ (∀ a, a < N → ∀ b, b < N → a ≠ b → (T a).2.1 ≠ (T b).2.1) ∧ (T f).2.2.2 = false ∧ parseFieldDescriptor (T f).2.2.1 = some ty
theorem Good.nw {w : Wp} {X : Cx} {cc : ByteArray} {nL : Nat} {own : String} {rt : Option FieldType} {dp : Nat} (G : Good w X cc nL own rt dp) : NW (xS X) := G.2.2.2.2.2.2.2.2.2.2.2.2
section RULES
variable {α β : Type} {w : Wp} {X : Cx} {Q : State → Prop} {ρ : β} {F : α → Option β} {cc : ByteArray} {nL : Nat} {own : String} {rt : Option FieldType} {dp pc : Nat} {env : List (Nat × Value)} {st : List Value} {M : Mm} {t : Option α}
theorem c_iload_n (G : Good w X cc nL own rt dp) {k : Fin 4} {i : Nat} {x : Int32} (hdg : decode cc pc = .ok (.iload_n k, 1)) (hi : (k : Nat) = i) (pl : Nat) (hl : env[pl]? = some (i, .int x)) (kk : Cov w X Q ρ F nL (pc + 1) env (.int x :: st) M t) : Cov w X Q ρ F nL pc env st M t :=
  fun h H locs ls hP hS hl' => lv_iload_n G.1 G.2.1 hdg hi (lv_at hl' pl hl) (kk h H locs ls hP hS hl')
theorem c_iload (G : Good w X cc nL own rt dp) {i : Nat} {x : Int32} (hdg : decode cc pc = .ok (.iload i, 2)) (pl : Nat) (hl : env[pl]? = some (i, .int x)) (kk : Cov w X Q ρ F nL (pc + 2) env (.int x :: st) M t) : Cov w X Q ρ F nL pc env st M t :=
  fun h H locs ls hP hS hl' => lv_iload G.1 G.2.1 hdg (lv_at hl' pl hl) (kk h H locs ls hP hS hl')
theorem c_lload_n (G : Good w X cc nL own rt dp) {k : Fin 4} {i : Nat} {x : Int64} (hdg : decode cc pc = .ok (.lload_n k, 1)) (hi : (k : Nat) = i) (pl : Nat) (hl : env[pl]? = some (i, .long x)) (kk : Cov w X Q ρ F nL (pc + 1) env (.long x :: st) M t) : Cov w X Q ρ F nL pc env st M t :=
  fun h H locs ls hP hS hl' => lv_lload_n G.1 G.2.1 hdg hi (lv_at hl' pl hl) (kk h H locs ls hP hS hl')
theorem c_lload (G : Good w X cc nL own rt dp) {i : Nat} {x : Int64} (hdg : decode cc pc = .ok (.lload i, 2)) (pl : Nat) (hl : env[pl]? = some (i, .long x)) (kk : Cov w X Q ρ F nL (pc + 2) env (.long x :: st) M t) : Cov w X Q ρ F nL pc env st M t :=
  fun h H locs ls hP hS hl' => lv_lload G.1 G.2.1 hdg (lv_at hl' pl hl) (kk h H locs ls hP hS hl')
theorem c_aload_n (G : Good w X cc nL own rt dp) {k : Fin 4} {i : Nat} {x : Nat} (hdg : decode cc pc = .ok (.aload_n k, 1)) (hi : (k : Nat) = i) (pl : Nat) (hl : env[pl]? = some (i, .ref x)) (kk : Cov w X Q ρ F nL (pc + 1) env (.ref x :: st) M t) : Cov w X Q ρ F nL pc env st M t :=
  fun h H locs ls hP hS hl' => lv_aload_n G.1 G.2.1 hdg hi (lv_at hl' pl hl) (kk h H locs ls hP hS hl')
theorem c_aload (G : Good w X cc nL own rt dp) {i : Nat} {x : Nat} (hdg : decode cc pc = .ok (.aload i, 2)) (pl : Nat) (hl : env[pl]? = some (i, .ref x)) (kk : Cov w X Q ρ F nL (pc + 2) env (.ref x :: st) M t) : Cov w X Q ρ F nL pc env st M t :=
  fun h H locs ls hP hS hl' => lv_aload G.1 G.2.1 hdg (lv_at hl' pl hl) (kk h H locs ls hP hS hl')
theorem c_let {x : Int32} {f : Int32 → Option α} (kk : ∀ y, y = x → Cov w X Q ρ F nL pc env (.int y :: st) M (f y)) : Cov w X Q ρ F nL pc env (.int x :: st) M ((some x).bind f) := kk x rfl
theorem c_letl {x : Int64} {f : Int64 → Option α} (kk : ∀ y, y = x → Cov w X Q ρ F nL pc env (.long y :: st) M (f y)) : Cov w X Q ρ F nL pc env (.long x :: st) M ((some x).bind f) := kk x rfl
theorem c_istore_n (G : Good w X cc nL own rt dp) {k : Fin 4} {i : Nat} {x : Int32} (env' : List (Nat × Value)) (hdg : decode cc pc = .ok (.istore_n k, 1)) (hi : (k : Nat) = i) (hn : i < nL) (hl : (i, Value.int x) :: env.filter (fun q => !(q.1 == i) && !(q.1 + 1 == i && q.2.category == 2)) = env') (kk : Cov w X Q ρ F nL (pc + 1) env' st M t) : Cov w X Q ρ F nL pc env (.int x :: st) M t :=
  fun h H locs ls hP hS hl' => lv_istore_n G.1 G.2.1 hdg hi hl' hn hl (fun ls' h' => kk h H locs ls' hP hS h')
theorem c_istore (G : Good w X cc nL own rt dp) {i : Nat} {x : Int32} (env' : List (Nat × Value)) (hdg : decode cc pc = .ok (.istore i, 2)) (hn : i < nL) (hl : (i, Value.int x) :: env.filter (fun q => !(q.1 == i) && !(q.1 + 1 == i && q.2.category == 2)) = env') (kk : Cov w X Q ρ F nL (pc + 2) env' st M t) : Cov w X Q ρ F nL pc env (.int x :: st) M t :=
  fun h H locs ls hP hS hl' => lv_istore G.1 G.2.1 hdg hl' hn hl (fun ls' h' => kk h H locs ls' hP hS h')
theorem c_lstore_n (G : Good w X cc nL own rt dp) {k : Fin 4} {i : Nat} {x : Int64} (env' : List (Nat × Value)) (hdg : decode cc pc = .ok (.lstore_n k, 1)) (hi : (k : Nat) = i) (hn : i + 1 < nL) (hl : (i, Value.long x) :: env.filter (fun q => !(q.1 == i) && (!(q.1 == i + 1) && !(q.1 + 1 == i && q.2.category == 2))) = env') (kk : Cov w X Q ρ F nL (pc + 1) env' st M t) : Cov w X Q ρ F nL pc env (.long x :: st) M t :=
  fun h H locs ls hP hS hl' => lv_lstore_n G.1 G.2.1 hdg hi hl' hn hl (fun ls' h' => kk h H locs ls' hP hS h')
theorem c_lstore (G : Good w X cc nL own rt dp) {i : Nat} {x : Int64} (env' : List (Nat × Value)) (hdg : decode cc pc = .ok (.lstore i, 2)) (hn : i + 1 < nL) (hl : (i, Value.long x) :: env.filter (fun q => !(q.1 == i) && (!(q.1 == i + 1) && !(q.1 + 1 == i && q.2.category == 2))) = env') (kk : Cov w X Q ρ F nL (pc + 2) env' st M t) : Cov w X Q ρ F nL pc env (.long x :: st) M t :=
  fun h H locs ls hP hS hl' => lv_lstore G.1 G.2.1 hdg hl' hn hl (fun ls' h' => kk h H locs ls' hP hS h')
theorem c_astore_n (G : Good w X cc nL own rt dp) {k : Fin 4} {i : Nat} {x : Nat} (env' : List (Nat × Value)) (hdg : decode cc pc = .ok (.astore_n k, 1)) (hi : (k : Nat) = i) (hn : i < nL) (hl : (i, Value.ref x) :: env.filter (fun q => !(q.1 == i) && !(q.1 + 1 == i && q.2.category == 2)) = env') (kk : Cov w X Q ρ F nL (pc + 1) env' st M t) : Cov w X Q ρ F nL pc env (.ref x :: st) M t :=
  fun h H locs ls hP hS hl' => lv_astore_n G.1 G.2.1 hdg hi hl' hn hl (fun ls' h' => kk h H locs ls' hP hS h')
theorem c_astore (G : Good w X cc nL own rt dp) {i : Nat} {x : Nat} (env' : List (Nat × Value)) (hdg : decode cc pc = .ok (.astore i, 2)) (hn : i < nL) (hl : (i, Value.ref x) :: env.filter (fun q => !(q.1 == i) && !(q.1 + 1 == i && q.2.category == 2)) = env') (kk : Cov w X Q ρ F nL (pc + 2) env' st M t) : Cov w X Q ρ F nL pc env (.ref x :: st) M t :=
  fun h H locs ls hP hS hl' => lv_astore G.1 G.2.1 hdg hl' hn hl (fun ls' h' => kk h H locs ls' hP hS h')
theorem c_iinc (G : Good w X cc nL own rt dp) {i : Nat} {n : Int} {x v : Int32} {f : Int32 → Option α} (env' : Int32 → List (Nat × Value)) (hdg : decode cc pc = .ok (.iinc i n, 3)) (pl : Nat) (hk : env[pl]? = some (i, .int x)) (hv : Int32.ofInt n = v) (hn : i < nL) (hl : ∀ y, (i, Value.int y) :: env.filter (fun q => !(q.1 == i) && !(q.1 + 1 == i && q.2.category == 2)) = env' y)
    (kk : ∀ y, y = x + v → Cov w X Q ρ F nL (pc + 3) (env' y) st M (f y)) : Cov w X Q ρ F nL pc env st M ((some (x + v)).bind f) :=
  fun h H locs ls hP hS hl' => lv_iinc (v := x + v) G.1 G.2.1 hdg hl' hk (by rw [hv]) hn (hl _) (fun ls' h' => kk _ rfl h H locs ls' hP hS h')
theorem c_iconst (G : Good w X cc nL own rt dp) {n : Int} (v : Int32) (hdg : decode cc pc = .ok (.iconst n, 1)) (hv : Int32.ofInt n = v) (kk : Cov w X Q ρ F nL (pc + 1) env (.int v :: st) M t) : Cov w X Q ρ F nL pc env st M t :=
  fun h H locs ls hP hS hl' => lv_iconst G.1 G.2.1 hdg hv (kk h H locs ls hP hS hl')
theorem c_bipush (G : Good w X cc nL own rt dp) {n : Int} (v : Int32) (hdg : decode cc pc = .ok (.bipush n, 2)) (hv : (Int8.ofInt n).toInt32 = v) (kk : Cov w X Q ρ F nL (pc + 2) env (.int v :: st) M t) : Cov w X Q ρ F nL pc env st M t :=
  fun h H locs ls hP hS hl' => lv_bipush G.1 G.2.1 hdg hv (kk h H locs ls hP hS hl')
theorem c_sipush (G : Good w X cc nL own rt dp) {n : Int} (v : Int32) (hdg : decode cc pc = .ok (.sipush n, 3)) (hv : (Int16.ofInt n).toInt32 = v) (kk : Cov w X Q ρ F nL (pc + 3) env (.int v :: st) M t) : Cov w X Q ρ F nL pc env st M t :=
  fun h H locs ls hP hS hl' => lv_sipush G.1 G.2.1 hdg hv (kk h H locs ls hP hS hl')
theorem c_lconst (G : Good w X cc nL own rt dp) {n : Fin 2} (v : Int64) (hdg : decode cc pc = .ok (.lconst n, 1)) (hv : Int64.ofNat (n : Nat) = v) (kk : Cov w X Q ρ F nL (pc + 1) env (.long v :: st) M t) : Cov w X Q ρ F nL pc env st M t :=
  fun h H locs ls hP hS hl' => lv_lconst G.1 G.2.1 hdg hv (kk h H locs ls hP hS hl')
theorem c_ldc (G : Good w X cc nL own rt dp) {idx : Nat} {v : Int32} (v' : Int32) (hw : Cond.constant own idx v ∈ Tg) (hv : v = v') (hdg : decode cc pc = .ok (.ldc idx, 2)) (kk : Cov w X Q ρ F nL (pc + 2) env (.int v' :: st) M t) : Cov w X Q ρ F nL pc env st M t := by
  subst hv
  exact fun h H locs ls hP hS hl' => lv_ldc G.1 G.2.1 G.2.2.2.1 (G.2.2.2.2.1 _ hw) hdg (kk h H locs ls hP hS hl')
theorem c_ldc2 (G : Good w X cc nL own rt dp) {idx : Nat} {v : Int64} (v' : Int64) (hw : Cond.constantLong own idx v ∈ Tg) (hv : v = v') (hdg : decode cc pc = .ok (.ldc2_w idx, 3)) (kk : Cov w X Q ρ F nL (pc + 3) env (.long v' :: st) M t) : Cov w X Q ρ F nL pc env st M t := by
  subst hv
  exact fun h H locs ls hP hS hl' => lv_ldc2 G.1 G.2.1 G.2.2.2.1 (G.2.2.2.2.1 _ hw) hdg (kk h H locs ls hP hS hl')
theorem c_iadd (G : Good w X cc nL own rt dp) {x y : Int32} (hdg : decode cc pc = .ok (.iadd, 1)) (kk : Cov w X Q ρ F nL (pc + 1) env (.int (x + y) :: st) M t) : Cov w X Q ρ F nL pc env (.int y :: .int x :: st) M t :=
  fun h H locs ls hP hS hl' => lv_iadd G.1 G.2.1 hdg (kk h H locs ls hP hS hl')
theorem c_isub (G : Good w X cc nL own rt dp) {x y : Int32} (hdg : decode cc pc = .ok (.isub, 1)) (kk : Cov w X Q ρ F nL (pc + 1) env (.int (x - y) :: st) M t) : Cov w X Q ρ F nL pc env (.int y :: .int x :: st) M t :=
  fun h H locs ls hP hS hl' => lv_isub G.1 G.2.1 hdg (kk h H locs ls hP hS hl')
theorem c_imul (G : Good w X cc nL own rt dp) {x y : Int32} (hdg : decode cc pc = .ok (.imul, 1)) (kk : Cov w X Q ρ F nL (pc + 1) env (.int (x * y) :: st) M t) : Cov w X Q ρ F nL pc env (.int y :: .int x :: st) M t :=
  fun h H locs ls hP hS hl' => lv_imul G.1 G.2.1 hdg (kk h H locs ls hP hS hl')
theorem c_iand (G : Good w X cc nL own rt dp) {x y : Int32} (hdg : decode cc pc = .ok (.iand, 1)) (kk : Cov w X Q ρ F nL (pc + 1) env (.int (x &&& y) :: st) M t) : Cov w X Q ρ F nL pc env (.int y :: .int x :: st) M t :=
  fun h H locs ls hP hS hl' => lv_iand G.1 G.2.1 hdg (kk h H locs ls hP hS hl')
theorem c_ior (G : Good w X cc nL own rt dp) {x y : Int32} (hdg : decode cc pc = .ok (.ior, 1)) (kk : Cov w X Q ρ F nL (pc + 1) env (.int (x ||| y) :: st) M t) : Cov w X Q ρ F nL pc env (.int y :: .int x :: st) M t :=
  fun h H locs ls hP hS hl' => lv_ior G.1 G.2.1 hdg (kk h H locs ls hP hS hl')
theorem c_ixor (G : Good w X cc nL own rt dp) {x y : Int32} (hdg : decode cc pc = .ok (.ixor, 1)) (kk : Cov w X Q ρ F nL (pc + 1) env (.int (x ^^^ y) :: st) M t) : Cov w X Q ρ F nL pc env (.int y :: .int x :: st) M t :=
  fun h H locs ls hP hS hl' => lv_ixor G.1 G.2.1 hdg (kk h H locs ls hP hS hl')
theorem c_ishl (G : Good w X cc nL own rt dp) {x y : Int32} (hdg : decode cc pc = .ok (.ishl, 1)) (kk : Cov w X Q ρ F nL (pc + 1) env (.int (x <<< (y &&& 31)) :: st) M t) : Cov w X Q ρ F nL pc env (.int y :: .int x :: st) M t :=
  fun h H locs ls hP hS hl' => lv_ishl G.1 G.2.1 hdg (kk h H locs ls hP hS hl')
theorem c_ishr (G : Good w X cc nL own rt dp) {x y : Int32} (hdg : decode cc pc = .ok (.ishr, 1)) (kk : Cov w X Q ρ F nL (pc + 1) env (.int (x >>> (y &&& 31)) :: st) M t) : Cov w X Q ρ F nL pc env (.int y :: .int x :: st) M t :=
  fun h H locs ls hP hS hl' => lv_ishr G.1 G.2.1 hdg (kk h H locs ls hP hS hl')
theorem c_ladd (G : Good w X cc nL own rt dp) {x y : Int64} (hdg : decode cc pc = .ok (.ladd, 1)) (kk : Cov w X Q ρ F nL (pc + 1) env (.long (x + y) :: st) M t) : Cov w X Q ρ F nL pc env (.long y :: .long x :: st) M t :=
  fun h H locs ls hP hS hl' => lv_ladd G.1 G.2.1 hdg (kk h H locs ls hP hS hl')
theorem c_lsub (G : Good w X cc nL own rt dp) {x y : Int64} (hdg : decode cc pc = .ok (.lsub, 1)) (kk : Cov w X Q ρ F nL (pc + 1) env (.long (x - y) :: st) M t) : Cov w X Q ρ F nL pc env (.long y :: .long x :: st) M t :=
  fun h H locs ls hP hS hl' => lv_lsub G.1 G.2.1 hdg (kk h H locs ls hP hS hl')
theorem c_lmul (G : Good w X cc nL own rt dp) {x y : Int64} (hdg : decode cc pc = .ok (.lmul, 1)) (kk : Cov w X Q ρ F nL (pc + 1) env (.long (x * y) :: st) M t) : Cov w X Q ρ F nL pc env (.long y :: .long x :: st) M t :=
  fun h H locs ls hP hS hl' => lv_lmul G.1 G.2.1 hdg (kk h H locs ls hP hS hl')
theorem c_iushr (G : Good w X cc nL own rt dp) {x y : Int32} (hdg : decode cc pc = .ok (.iushr, 1)) (kk : Cov w X Q ρ F nL (pc + 1) env (.int (shr x y) :: st) M t) : Cov w X Q ρ F nL pc env (.int y :: .int x :: st) M t :=
  fun h H locs ls hP hS hl' => lv_iushr G.1 G.2.1 hdg rfl (kk h H locs ls hP hS hl')
theorem c_idiv (G : Good w X cc nL own rt dp) {x y : Int32} {f : Int32 → Option α} (hdg : decode cc pc = .ok (.idiv, 1)) (kk : ∀ r, dvI x y = some r → Cov w X Q ρ F nL (pc + 1) env (.int r :: st) M (f r)) : Cov w X Q ρ F nL pc env (.int y :: .int x :: st) M ((dvI x y).bind f) := by
  intro h H locs ls hP hS hl'
  by_cases hy : y = 0
  · rw [show dvI x y = none from if_pos hy] at h; cases h
  · have e : dvI x y = some (x / y) := if_neg hy
    rw [e] at h
    exact lv_idiv G.1 G.2.1 hdg hy (kk _ e h H locs ls hP hS hl')
theorem c_irem (G : Good w X cc nL own rt dp) {x y : Int32} {f : Int32 → Option α} (hdg : decode cc pc = .ok (.irem, 1)) (kk : ∀ r, rmI x y = some r → Cov w X Q ρ F nL (pc + 1) env (.int r :: st) M (f r)) : Cov w X Q ρ F nL pc env (.int y :: .int x :: st) M ((rmI x y).bind f) := by
  intro h H locs ls hP hS hl'
  by_cases hy : y = 0
  · rw [show rmI x y = none from if_pos hy] at h; cases h
  · have e : rmI x y = some (x - x / y * y) := if_neg hy
    rw [e] at h
    exact lv_irem G.1 G.2.1 hdg hy (kk _ e h H locs ls hP hS hl')
theorem c_i2l (G : Good w X cc nL own rt dp) {x : Int32} (hdg : decode cc pc = .ok (.i2l, 1)) (kk : Cov w X Q ρ F nL (pc + 1) env (.long x.toInt64 :: st) M t) : Cov w X Q ρ F nL pc env (.int x :: st) M t :=
  fun h H locs ls hP hS hl' => lv_i2l G.1 G.2.1 hdg rfl (kk h H locs ls hP hS hl')
theorem c_l2i (G : Good w X cc nL own rt dp) {x : Int64} (hdg : decode cc pc = .ok (.l2i, 1)) (kk : Cov w X Q ρ F nL (pc + 1) env (.int x.toInt32 :: st) M t) : Cov w X Q ρ F nL pc env (.long x :: st) M t :=
  fun h H locs ls hP hS hl' => lv_l2i G.1 G.2.1 hdg rfl (kk h H locs ls hP hS hl')
theorem c_i2b (G : Good w X cc nL own rt dp) {x : Int32} (hdg : decode cc pc = .ok (.i2b, 1)) (kk : Cov w X Q ρ F nL (pc + 1) env (.int x.toInt8.toInt32 :: st) M t) : Cov w X Q ρ F nL pc env (.int x :: st) M t :=
  fun h H locs ls hP hS hl' => lv_i2b G.1 G.2.1 hdg rfl (kk h H locs ls hP hS hl')
theorem c_lcmp (G : Good w X cc nL own rt dp) {x y : Int64} (hdg : decode cc pc = .ok (.lcmp, 1)) (kk : Cov w X Q ρ F nL (pc + 1) env (.int (lg_cmp x y) :: st) M t) : Cov w X Q ρ F nL pc env (.long y :: .long x :: st) M t :=
  fun h H locs ls hP hS hl' => W.lcmp G.1 G.2.1 hdg (kk h H locs ls hP hS hl')
theorem c_dup (G : Good w X cc nL own rt dp) {v : Value} (hdg : decode cc pc = .ok (.dup, 1)) (hv : v.category = 1) (kk : Cov w X Q ρ F nL (pc + 1) env (v :: v :: st) M t) : Cov w X Q ρ F nL pc env (v :: st) M t :=
  fun h H locs ls hP hS hl' => lv_dup G.1 G.2.1 hdg hv (kk h H locs ls hP hS hl')
theorem c_dup2 (G : Good w X cc nL own rt dp) {v u : Value} (hdg : decode cc pc = .ok (.dup2, 1)) (hv : v.category = 1) (hu : u.category = 1) (kk : Cov w X Q ρ F nL (pc + 1) env (v :: u :: v :: u :: st) M t) : Cov w X Q ρ F nL pc env (v :: u :: st) M t :=
  fun h H locs ls hP hS hl' => lv_dup2_11 G.1 G.2.1 hdg hv hu (kk h H locs ls hP hS hl')
theorem c_pop (G : Good w X cc nL own rt dp) {v : Value} (hdg : decode cc pc = .ok (.pop, 1)) (hv : v.category = 1) (kk : Cov w X Q ρ F nL (pc + 1) env st M t) : Cov w X Q ρ F nL pc env (v :: st) M t :=
  fun h H locs ls hP hS hl' => lv_pop G.1 G.2.1 hdg hv (kk h H locs ls hP hS hl')
theorem c_goto (G : Good w X cc nL own rt dp) {off : Int} {tgt : Nat} (hdg : decode cc pc = .ok (.goto off, 3)) (ht : (pc : Int) + off = (tgt : Int)) (kk : Cov w X Q ρ F nL tgt env st M t) : Cov w X Q ρ F nL pc env st M t :=
  fun h H locs ls hP hS hl' => lv_goto G.1 G.2.1 hdg ht (kk h H locs ls hP hS hl')
theorem c_if_eq (G : Good w X cc nL own rt dp) {x : Int32} {off : Int} {tgt : Nat} {t1 t2 : Option α} (hdg : decode cc pc = .ok (.ifCond .eq off, 3)) (ht : (pc : Int) + off = (tgt : Int)) (kt : x = nI 0 → Cov w X Q ρ F nL tgt env st M t1) (kf : ¬ x = nI 0 → Cov w X Q ρ F nL (pc + 3) env st M t2) : Cov w X Q ρ F nL pc env (.int x :: st) M (if x = nI 0 then t1 else t2) := by
  rw [nI_0] at kt kf
  simp only [nI_0]
  exact fun h H locs ls hP hS hl' => lv_if_eq G.1 G.2.1 hdg ht (fun hc => kt hc (by rw [if_pos hc] at h; exact h) H locs ls hP hS hl') (fun hc => kf hc (by rw [if_neg hc] at h; exact h) H locs ls hP hS hl')
theorem c_if_ne (G : Good w X cc nL own rt dp) {x : Int32} {off : Int} {tgt : Nat} {t1 t2 : Option α} (hdg : decode cc pc = .ok (.ifCond .ne off, 3)) (ht : (pc : Int) + off = (tgt : Int)) (kt : x = nI 0 → Cov w X Q ρ F nL (pc + 3) env st M t1) (kf : ¬ x = nI 0 → Cov w X Q ρ F nL tgt env st M t2) : Cov w X Q ρ F nL pc env (.int x :: st) M (if x = nI 0 then t1 else t2) := by
  rw [nI_0] at kt kf
  simp only [nI_0]
  exact fun h H locs ls hP hS hl' => lv_if_ne G.1 G.2.1 hdg ht (fun hc => kf hc (by rw [if_neg hc] at h; exact h) H locs ls hP hS hl') (fun hc => kt hc (by rw [if_pos hc] at h; exact h) H locs ls hP hS hl')
theorem c_if_lt (G : Good w X cc nL own rt dp) {x : Int32} {off : Int} {tgt : Nat} {t1 t2 : Option α} (hdg : decode cc pc = .ok (.ifCond .lt off, 3)) (ht : (pc : Int) + off = (tgt : Int)) (kt : x < nI 0 → Cov w X Q ρ F nL tgt env st M t1) (kf : ¬ x < nI 0 → Cov w X Q ρ F nL (pc + 3) env st M t2) : Cov w X Q ρ F nL pc env (.int x :: st) M (if x < nI 0 then t1 else t2) := by
  rw [nI_0] at kt kf
  simp only [nI_0]
  exact fun h H locs ls hP hS hl' => lv_if_lt G.1 G.2.1 hdg ht (fun hc => kt hc (by rw [if_pos hc] at h; exact h) H locs ls hP hS hl') (fun hc => kf hc (by rw [if_neg hc] at h; exact h) H locs ls hP hS hl')
theorem c_if_ge (G : Good w X cc nL own rt dp) {x : Int32} {off : Int} {tgt : Nat} {t1 t2 : Option α} (hdg : decode cc pc = .ok (.ifCond .ge off, 3)) (ht : (pc : Int) + off = (tgt : Int)) (kt : nI 0 ≤ x → Cov w X Q ρ F nL tgt env st M t1) (kf : ¬ nI 0 ≤ x → Cov w X Q ρ F nL (pc + 3) env st M t2) : Cov w X Q ρ F nL pc env (.int x :: st) M (if nI 0 ≤ x then t1 else t2) := by
  rw [nI_0] at kt kf
  simp only [nI_0]
  exact fun h H locs ls hP hS hl' => lv_if_ge G.1 G.2.1 hdg ht (fun hc => kt hc (by rw [if_pos hc] at h; exact h) H locs ls hP hS hl') (fun hc => kf hc (by rw [if_neg hc] at h; exact h) H locs ls hP hS hl')
theorem c_if_gt (G : Good w X cc nL own rt dp) {x : Int32} {off : Int} {tgt : Nat} {t1 t2 : Option α} (hdg : decode cc pc = .ok (.ifCond .gt off, 3)) (ht : (pc : Int) + off = (tgt : Int)) (kt : nI 0 < x → Cov w X Q ρ F nL tgt env st M t1) (kf : ¬ nI 0 < x → Cov w X Q ρ F nL (pc + 3) env st M t2) : Cov w X Q ρ F nL pc env (.int x :: st) M (if nI 0 < x then t1 else t2) := by
  rw [nI_0] at kt kf
  simp only [nI_0]
  exact fun h H locs ls hP hS hl' => lv_if_gt G.1 G.2.1 hdg ht (fun hc => kt hc (by rw [if_pos hc] at h; exact h) H locs ls hP hS hl') (fun hc => kf hc (by rw [if_neg hc] at h; exact h) H locs ls hP hS hl')
theorem c_if_le (G : Good w X cc nL own rt dp) {x : Int32} {off : Int} {tgt : Nat} {t1 t2 : Option α} (hdg : decode cc pc = .ok (.ifCond .le off, 3)) (ht : (pc : Int) + off = (tgt : Int)) (kt : x ≤ nI 0 → Cov w X Q ρ F nL tgt env st M t1) (kf : ¬ x ≤ nI 0 → Cov w X Q ρ F nL (pc + 3) env st M t2) : Cov w X Q ρ F nL pc env (.int x :: st) M (if x ≤ nI 0 then t1 else t2) := by
  rw [nI_0] at kt kf
  simp only [nI_0]
  exact fun h H locs ls hP hS hl' => lv_if_le G.1 G.2.1 hdg ht (fun hc => kt hc (by rw [if_pos hc] at h; exact h) H locs ls hP hS hl') (fun hc => kf hc (by rw [if_neg hc] at h; exact h) H locs ls hP hS hl')
theorem c_icmp_eq (G : Good w X cc nL own rt dp) {x y : Int32} {off : Int} {tgt : Nat} {t1 t2 : Option α} (hdg : decode cc pc = .ok (.if_icmp .eq off, 3)) (ht : (pc : Int) + off = (tgt : Int)) (kt : x = y → Cov w X Q ρ F nL tgt env st M t1) (kf : ¬ x = y → Cov w X Q ρ F nL (pc + 3) env st M t2) : Cov w X Q ρ F nL pc env (.int y :: .int x :: st) M (if x = y then t1 else t2) :=
  fun h H locs ls hP hS hl' => lv_icmp_eq G.1 G.2.1 hdg ht (fun hc => kt hc (by rw [if_pos hc] at h; exact h) H locs ls hP hS hl') (fun hc => kf hc (by rw [if_neg hc] at h; exact h) H locs ls hP hS hl')
theorem c_icmp_ne (G : Good w X cc nL own rt dp) {x y : Int32} {off : Int} {tgt : Nat} {t1 t2 : Option α} (hdg : decode cc pc = .ok (.if_icmp .ne off, 3)) (ht : (pc : Int) + off = (tgt : Int)) (kt : x = y → Cov w X Q ρ F nL (pc + 3) env st M t1) (kf : ¬ x = y → Cov w X Q ρ F nL tgt env st M t2) : Cov w X Q ρ F nL pc env (.int y :: .int x :: st) M (if x = y then t1 else t2) :=
  fun h H locs ls hP hS hl' => lv_icmp_ne G.1 G.2.1 hdg ht (fun hc => kf hc (by rw [if_neg hc] at h; exact h) H locs ls hP hS hl') (fun hc => kt hc (by rw [if_pos hc] at h; exact h) H locs ls hP hS hl')
theorem c_icmp_lt (G : Good w X cc nL own rt dp) {x y : Int32} {off : Int} {tgt : Nat} {t1 t2 : Option α} (hdg : decode cc pc = .ok (.if_icmp .lt off, 3)) (ht : (pc : Int) + off = (tgt : Int)) (kt : x < y → Cov w X Q ρ F nL tgt env st M t1) (kf : ¬ x < y → Cov w X Q ρ F nL (pc + 3) env st M t2) : Cov w X Q ρ F nL pc env (.int y :: .int x :: st) M (if x < y then t1 else t2) :=
  fun h H locs ls hP hS hl' => lv_icmp_lt G.1 G.2.1 hdg ht (fun hc => kt hc (by rw [if_pos hc] at h; exact h) H locs ls hP hS hl') (fun hc => kf hc (by rw [if_neg hc] at h; exact h) H locs ls hP hS hl')
theorem c_icmp_ge (G : Good w X cc nL own rt dp) {x y : Int32} {off : Int} {tgt : Nat} {t1 t2 : Option α} (hdg : decode cc pc = .ok (.if_icmp .ge off, 3)) (ht : (pc : Int) + off = (tgt : Int)) (kt : y ≤ x → Cov w X Q ρ F nL tgt env st M t1) (kf : ¬ y ≤ x → Cov w X Q ρ F nL (pc + 3) env st M t2) : Cov w X Q ρ F nL pc env (.int y :: .int x :: st) M (if y ≤ x then t1 else t2) :=
  fun h H locs ls hP hS hl' => lv_icmp_ge G.1 G.2.1 hdg ht (fun hc => kt hc (by rw [if_pos hc] at h; exact h) H locs ls hP hS hl') (fun hc => kf hc (by rw [if_neg hc] at h; exact h) H locs ls hP hS hl')
theorem c_icmp_gt (G : Good w X cc nL own rt dp) {x y : Int32} {off : Int} {tgt : Nat} {t1 t2 : Option α} (hdg : decode cc pc = .ok (.if_icmp .gt off, 3)) (ht : (pc : Int) + off = (tgt : Int)) (kt : y < x → Cov w X Q ρ F nL tgt env st M t1) (kf : ¬ y < x → Cov w X Q ρ F nL (pc + 3) env st M t2) : Cov w X Q ρ F nL pc env (.int y :: .int x :: st) M (if y < x then t1 else t2) :=
  fun h H locs ls hP hS hl' => lv_icmp_gt G.1 G.2.1 hdg ht (fun hc => kt hc (by rw [if_pos hc] at h; exact h) H locs ls hP hS hl') (fun hc => kf hc (by rw [if_neg hc] at h; exact h) H locs ls hP hS hl')
theorem c_icmp_le (G : Good w X cc nL own rt dp) {x y : Int32} {off : Int} {tgt : Nat} {t1 t2 : Option α} (hdg : decode cc pc = .ok (.if_icmp .le off, 3)) (ht : (pc : Int) + off = (tgt : Int)) (kt : x ≤ y → Cov w X Q ρ F nL tgt env st M t1) (kf : ¬ x ≤ y → Cov w X Q ρ F nL (pc + 3) env st M t2) : Cov w X Q ρ F nL pc env (.int y :: .int x :: st) M (if x ≤ y then t1 else t2) :=
  fun h H locs ls hP hS hl' => lv_icmp_le G.1 G.2.1 hdg ht (fun hc => kt hc (by rw [if_pos hc] at h; exact h) H locs ls hP hS hl') (fun hc => kf hc (by rw [if_neg hc] at h; exact h) H locs ls hP hS hl')
-- memory
theorem c_getI (G : Good w X cc nL own rt dp) {g c f idx : Nat} (hF : FL own idx c f) (hg : lay g = (5, c)) (hf : fk c f = (0,0,0,0)) (hdg : decode cc pc = .ok (.getfield idx, 3)) (kk : Cov w X Q ρ F nL (pc + 3) env (.int (M.1 g f) :: st) M t) : Cov w X Q ρ F nL pc env (.ref (wB w + pz g) :: st) M t := by
  obtain ⟨C, T, N, h1, h2, h3, h4, h5, h6⟩ := hF
  intro h H locs ls hP hS hl'
  refine va_get (Ts := Tg) (C := C) (ref := C) G.1 G.2.1 G.2.2.2.2.1 h4 G.2.2.2.1 G.2.2.2.2.2.2.2.1 hP (pz g - 1) ((get_c hg (by decide)).trans (by rw [cell_o hg])) h1 f h2 (G.2.2.2.2.1 _ h5) (fun _ h9 => h6 ▸ h9) ((flds_get h3).trans (congrArg some ?_)) hdg (kk h H locs ls hP hS hl')
  simp [fval, hf]
theorem c_getJ (G : Good w X cc nL own rt dp) {g c f idx : Nat} (hF : FL own idx c f) (hg : lay g = (5, c)) (hf : fk c f = (1,0,0,0)) (hdg : decode cc pc = .ok (.getfield idx, 3)) (kk : Cov w X Q ρ F nL (pc + 3) env (.long (M.2.1 g f) :: st) M t) : Cov w X Q ρ F nL pc env (.ref (wB w + pz g) :: st) M t := by
  obtain ⟨C, T, N, h1, h2, h3, h4, h5, h6⟩ := hF
  intro h H locs ls hP hS hl'
  refine va_get (Ts := Tg) (C := C) (ref := C) G.1 G.2.1 G.2.2.2.2.1 h4 G.2.2.2.1 G.2.2.2.2.2.2.2.1 hP (pz g - 1) ((get_c hg (by decide)).trans (by rw [cell_o hg])) h1 f h2 (G.2.2.2.2.1 _ h5) (fun _ h9 => h6 ▸ h9) ((flds_get h3).trans (congrArg some ?_)) hdg (kk h H locs ls hP hS hl')
  simp [fval, hf]
theorem c_getF (G : Good w X cc nL own rt dp) {g c f idx o k n : Nat} (hF : FL own idx c f) (hg : lay g = (5, c)) (hf : fk c f = (2,o,k,n)) (hdg : decode cc pc = .ok (.getfield idx, 3)) (kk : Cov w X Q ρ F nL (pc + 3) env (.ref (wB w + pz (g + o)) :: st) M t) : Cov w X Q ρ F nL pc env (.ref (wB w + pz g) :: st) M t := by
  obtain ⟨C, T, N, h1, h2, h3, h4, h5, h6⟩ := hF
  intro h H locs ls hP hS hl'
  refine va_get (Ts := Tg) (C := C) (ref := C) G.1 G.2.1 G.2.2.2.2.1 h4 G.2.2.2.1 G.2.2.2.2.2.2.2.1 hP (pz g - 1) ((get_c hg (by decide)).trans (by rw [cell_o hg])) h1 f h2 (G.2.2.2.2.1 _ h5) (fun _ h9 => h6 ▸ h9) ((flds_get h3).trans (congrArg some ?_)) hdg (kk h H locs ls hP hS hl')
  simp [fval, hf]
theorem rf_some {M : Mm} {g f c r : Nat} (h : rf M g f c = some r) : r = M.2.2 g f ∧ lay r = (5, c) := by
  unfold rf at h
  split at h
  · rename_i q; cases h; exact ⟨rfl, q⟩
  · cases h
theorem c_getR (G : Good w X cc nL own rt dp) {g c f idx c' : Nat} {fn : Nat → Option α} (hF : FL own idx c f) (hg : lay g = (5, c)) (hf : fk c f = (3,0,0,0)) (hdg : decode cc pc = .ok (.getfield idx, 3)) (kk : ∀ r, rf M g f c' = some r → lay r = (5, c') → Cov w X Q ρ F nL (pc + 3) env (.ref (wB w + pz r) :: st) M (fn r)) : Cov w X Q ρ F nL pc env (.ref (wB w + pz g) :: st) M ((rf M g f c').bind fn) := by
  obtain ⟨C, T, N, h1, h2, h3, h4, h5, h6⟩ := hF
  intro h H locs ls hP hS hl'
  cases hr : rf M g f c' with
  | none => rw [hr] at h; cases h
  | some r =>
    rw [hr] at h
    obtain ⟨e1, e2⟩ := rf_some hr
    have hr0 : r ≠ 0 := fun e => by have := (lay_in e2 (by decide)).1; omega
    refine va_get (Ts := Tg) (C := C) (ref := C) G.1 G.2.1 G.2.2.2.2.1 h4 G.2.2.2.1 G.2.2.2.2.2.2.2.1 hP (pz g - 1) ((get_c hg (by decide)).trans (by rw [cell_o hg])) h1 f h2 (G.2.2.2.2.1 _ h5) (fun _ h9 => h6 ▸ h9) ((flds_get h3).trans (congrArg some ?_)) hdg (kk r hr e2 h H locs ls hP hS hl')
    simp [fval, hf, rv, ← e1, hr0]
theorem put_set {w : Wp} {M M' : Mm} {g c f : Nat} {v : Value} (hg : lay g = (5, c)) (hf3 : f < nfl c) (hv : fval (wB w) M' g c f = v) (ho : ∀ j, j ≠ f → fval (wB w) M' g c j = fval (wB w) M g c j) (hc : ∀ j, j ≠ g → cellE w M' j = cellE w M j) :
    (wsl w M).set (pz g - 1) (wB w + pz g, .inr (c, (flds (wB w) M g c).set f v)) = wsl w M' := by
  refine wsl_set w M M' (lay_ok hg (by decide)) ?_ hc
  rw [cell_o hg]
  congr 2
  apply List.ext_getElem?
  intro i
  rw [List.getElem?_set]
  by_cases hi : i < nfl c
  · by_cases hif : f = i
    · subst hif
      rw [if_pos rfl, if_pos (by rw [flds_len]; exact hi), flds_get hi, hv]
    · rw [if_neg hif, flds_get hi, flds_get hi, ho i (fun e => hif e.symm)]
  · rw [if_neg (by omega), List.getElem?_eq_none (by rw [flds_len]; omega), List.getElem?_eq_none (by rw [flds_len]; omega)]
theorem c_putI (G : Good w X cc nL own rt dp) {g c f idx : Nat} {x : Int32} {fn : Mm → Option α} (hF : FP own idx c f .int) (hg : lay g = (5, c)) (hf : fk c f = (0,0,0,0)) (hdg : decode cc pc = .ok (.putfield idx, 3)) (kk : ∀ M1, pI M g f x = some M1 → Cov w X Q ρ F nL (pc + 3) env st M1 (fn M1)) : Cov w X Q ρ F nL pc env (.int x :: .ref (wB w + pz g) :: st) M ((pI M g f x).bind fn) := by
  obtain ⟨C, T, N, ty0, h1, h2, h3, h4, h5, h6, h7, h8, h9, h10⟩ := hF
  intro h H locs ls hP hS hl'
  refine va_put (Ts := Tg) (C := C) (ref := C) G.1 G.2.1 G.2.2.2.2.1 h4 ty0 h7 h8 G.2.2.2.1 G.2.2.2.2.2.2.2.1 hP (wsl_D w M) hS (pz g - 1) ((get_c hg (by decide)).trans (by rw [cell_o hg])) h1 f h2 (G.2.2.2.2.1 _ h5) (fun _ h9 => h6 ▸ h9) h9 h10 rfl rfl (by rw [flds_len]; exact h3) hdg ?_
  intro H1 locs1 hP1 hD1 hS1
  refine kk _ rfl h H1 locs1 ls ?_ hS1 hl'
  rw [put_set (M' := upI M g f x) hg h3 ?_ ?_ ?_] at hP1
  · exact hP1
  · simp [fval, hf, upI, upR, upd]
  · intro j hj; simp [fval, upI, upR, upd, hj]
  · intro j hj; exact cell_other (by simp [upI, upR, hj]) rfl rfl
theorem c_putZ (G : Good w X cc nL own rt dp) {g c f idx : Nat} {x : Int32} {fn : Mm → Option α} (hF : FP own idx c f .boolean) (hg : lay g = (5, c)) (hf : fk c f = (0,0,0,0)) (hdg : decode cc pc = .ok (.putfield idx, 3)) (kk : ∀ M1, pZ M g f x = some M1 → Cov w X Q ρ F nL (pc + 3) env st M1 (fn M1)) : Cov w X Q ρ F nL pc env (.int x :: .ref (wB w + pz g) :: st) M ((pZ M g f x).bind fn) := by
  obtain ⟨C, T, N, ty0, h1, h2, h3, h4, h5, h6, h7, h8, h9, h10⟩ := hF
  intro h H locs ls hP hS hl'
  unfold pZ at h kk
  cases hz : okZ x with
  | none => rw [hz] at h; cases h
  | some x' =>
    rw [hz] at h
    obtain ⟨rfl, hx⟩ := okZ_some hz
    refine va_put (Ts := Tg) (C := C) (ref := C) G.1 G.2.1 G.2.2.2.2.1 h4 ty0 h7 h8 G.2.2.2.1 G.2.2.2.2.2.2.2.1 hP (wsl_D w M) hS (pz g - 1) ((get_c hg (by decide)).trans (by rw [cell_o hg])) h1 f h2 (G.2.2.2.2.1 _ h5) (fun _ h9 => h6 ▸ h9) h9 h10 (narZ hx).1 (narZ hx).2.1 (by rw [flds_len]; exact h3) hdg ?_
    intro H1 locs1 hP1 hD1 hS1
    refine kk _ (by rw [hz]; rfl) h H1 locs1 ls ?_ hS1 hl'
    rw [put_set (M' := upI M g f x') hg h3 ?_ ?_ ?_] at hP1
    · exact hP1
    · simp [fval, hf, upI, upR, upd]
    · intro j hj; simp [fval, upI, upR, upd, hj]
    · intro j hj; exact cell_other (by simp [upI, upR, hj]) rfl rfl
theorem c_putJ (G : Good w X cc nL own rt dp) {g c f idx : Nat} {x : Int64} {fn : Mm → Option α} (hF : FP own idx c f .long) (hg : lay g = (5, c)) (hf : fk c f = (1,0,0,0)) (hdg : decode cc pc = .ok (.putfield idx, 3)) (kk : ∀ M1, pJ M g f x = some M1 → Cov w X Q ρ F nL (pc + 3) env st M1 (fn M1)) : Cov w X Q ρ F nL pc env (.long x :: .ref (wB w + pz g) :: st) M ((pJ M g f x).bind fn) := by
  obtain ⟨C, T, N, ty0, h1, h2, h3, h4, h5, h6, h7, h8, h9, h10⟩ := hF
  intro h H locs ls hP hS hl'
  refine va_put (Ts := Tg) (C := C) (ref := C) G.1 G.2.1 G.2.2.2.2.1 h4 ty0 h7 h8 G.2.2.2.1 G.2.2.2.2.2.2.2.1 hP (wsl_D w M) hS (pz g - 1) ((get_c hg (by decide)).trans (by rw [cell_o hg])) h1 f h2 (G.2.2.2.2.1 _ h5) (fun _ h9 => h6 ▸ h9) h9 h10 rfl rfl (by rw [flds_len]; exact h3) hdg ?_
  intro H1 locs1 hP1 hD1 hS1
  refine kk _ rfl h H1 locs1 ls ?_ hS1 hl'
  rw [put_set (M' := upJ M g f x) hg h3 ?_ ?_ ?_] at hP1
  · exact hP1
  · simp [fval, hf, upJ, upR, vp_updL]
  · intro j hj; simp [fval, upJ, upR, vp_updL, hj]
  · intro j hj; exact cell_other rfl (by simp [upJ, upR, hj]) rfl
theorem c_putN (G : Good w X cc nL own rt dp) {g c f idx r a n : Nat} {ty : FieldType} {fn : Mm → Option α} (hF : FP own idx c f ty) (hty : (∃ C, ty = .object C) ∨ ∃ u, ty = .array u) (hg : lay g = (5, c)) (hr : lay r = (a, n)) (ha : a ≠ 0) (hf : fk c f = (3,0,0,0)) (hdg : decode cc pc = .ok (.putfield idx, 3)) (kk : ∀ M1, pN M g f r = some M1 → Cov w X Q ρ F nL (pc + 3) env st M1 (fn M1)) : Cov w X Q ρ F nL pc env (.ref (wB w + pz r) :: .ref (wB w + pz g) :: st) M ((pN M g f r).bind fn) := by
  obtain ⟨C, T, N, ty0, h1, h2, h3, h4, h5, h6, h7, h8, h9, h10⟩ := hF
  have hr0 : r ≠ 0 := fun e => by have := (lay_in hr ha).1; omega
  intro h H locs ls hP hS hl'
  have hnf : narrow ty (.ref (wB w + pz r)) = .ref (wB w + pz r) ∧ fits ty (.ref (wB w + pz r)) = true := by
    rcases hty with ⟨C, rfl⟩ | ⟨u, rfl⟩ <;> exact ⟨rfl, rfl⟩
  refine va_put (Ts := Tg) (C := C) (ref := C) G.1 G.2.1 G.2.2.2.2.1 h4 ty0 h7 h8 G.2.2.2.1 G.2.2.2.2.2.2.2.1 hP (wsl_D w M) hS (pz g - 1) ((get_c hg (by decide)).trans (by rw [cell_o hg])) h1 f h2 (G.2.2.2.2.1 _ h5) (fun _ h9 => h6 ▸ h9) h9 h10 hnf.1 hnf.2 (by rw [flds_len]; exact h3) hdg ?_
  intro H1 locs1 hP1 hD1 hS1
  refine kk _ rfl h H1 locs1 ls ?_ hS1 hl'
  rw [put_set (M' := upN M g f r) hg h3 ?_ ?_ ?_] at hP1
  · exact hP1
  · simp [fval, hf, upN, upR, rv, hr0]
  · intro j hj; simp [fval, upN, upR, hj]
  · intro j hj; exact cell_other rfl rfl (by simp [upN, upR, hj])
theorem c_iald (G : Good w X cc nL own rt dp) {a n : Nat} {i : Int32} {fn : Int32 → Option α} (ha : lay a = (1, n)) (hdg : decode cc pc = .ok (.iaload, 1)) (kk : ∀ v, ldI n a i M = some v → Cov w X Q ρ F nL (pc + 1) env (.int v :: st) M (fn v)) : Cov w X Q ρ F nL pc env (.int i :: .ref (wB w + pz a) :: st) M ((ldI n a i M).bind fn) := by
  intro h H locs ls hP hS hl'
  cases hi : ix n i with
  | none => rw [ldI, hi] at h; cases h
  | some k =>
    have e : ldI n a i M = some (M.1 a k) := by rw [ldI, hi]; rfl
    rw [e] at h
    obtain ⟨h1, rfl⟩ := ix_some hi
    exact va_iald G.1 G.2.1 G.2.2.2.2.2.2.2.1 hP (pz a - 1) 0 ((get_c ha (by decide)).trans (by rw [cell_i ha])) rfl h1 hdg (kk _ e h H locs ls hP hS hl')
theorem c_zald (G : Good w X cc nL own rt dp) {a n : Nat} {i : Int32} {fn : Int32 → Option α} (ha : lay a = (3, n)) (hdg : decode cc pc = .ok (.baload, 1)) (kk : ∀ v, ldI n a i M = some v → Cov w X Q ρ F nL (pc + 1) env (.int v :: st) M (fn v)) : Cov w X Q ρ F nL pc env (.int i :: .ref (wB w + pz a) :: st) M ((ldI n a i M).bind fn) := by
  intro h H locs ls hP hS hl'
  cases hi : ix n i with
  | none => rw [ldI, hi] at h; cases h
  | some k =>
    have e : ldI n a i M = some (M.1 a k) := by rw [ldI, hi]; rfl
    rw [e] at h
    obtain ⟨h1, rfl⟩ := ix_some hi
    exact va_zald G.1 G.2.1 G.2.2.2.2.2.2.2.1 hP (pz a - 1) 2 ((get_c ha (by decide)).trans (by rw [cell_z ha])) rfl h1 hdg (kk _ e h H locs ls hP hS hl')
theorem c_bald (G : Good w X cc nL own rt dp) {a n : Nat} {i : Int32} {fn : Int32 → Option α} (ha : lay a = (4, n)) (hdg : decode cc pc = .ok (.baload, 1)) (kk : ∀ v, ldI n a i M = some v → Cov w X Q ρ F nL (pc + 1) env (.int v :: st) M (fn v)) : Cov w X Q ρ F nL pc env (.int i :: .ref (wB w + pz a) :: st) M ((ldI n a i M).bind fn) := by
  intro h H locs ls hP hS hl'
  cases hi : ix n i with
  | none => rw [ldI, hi] at h; cases h
  | some k =>
    have e : ldI n a i M = some (M.1 a k) := by rw [ldI, hi]; rfl
    rw [e] at h
    obtain ⟨h1, rfl⟩ := ix_some hi
    exact va_bald G.1 G.2.1 G.2.2.2.2.2.2.2.1 hP (pz a - 1) 3 ((get_c ha (by decide)).trans (by rw [cell_b ha])) rfl h1 hdg (kk _ e h H locs ls hP hS hl')
theorem c_lald (G : Good w X cc nL own rt dp) {a n : Nat} {i : Int32} {fn : Int64 → Option α} (ha : lay a = (2, n)) (hdg : decode cc pc = .ok (.laload, 1)) (kk : ∀ v, ldJ n a i M = some v → Cov w X Q ρ F nL (pc + 1) env (.long v :: st) M (fn v)) : Cov w X Q ρ F nL pc env (.int i :: .ref (wB w + pz a) :: st) M ((ldJ n a i M).bind fn) := by
  intro h H locs ls hP hS hl'
  cases hi : ix n i with
  | none => rw [ldJ, hi] at h; cases h
  | some k =>
    have e : ldJ n a i M = some (M.2.1 a k) := by rw [ldJ, hi]; rfl
    rw [e] at h
    obtain ⟨h1, rfl⟩ := ix_some hi
    exact va_lald G.1 G.2.1 G.2.2.2.2.2.2.2.1 hP (pz a - 1) 1 ((get_c ha (by decide)).trans (by rw [cell_l ha])) rfl h1 hdg (kk _ e h H locs ls hP hS hl')
theorem st_set {w : Wp} {M M' : Mm} {a : Nat} {e : va_E} (ha : okv a) (he : cellE w M' a = e) (hc : ∀ j, j ≠ a → cellE w M' j = cellE w M j) : (wsl w M).set (pz a - 1) (wB w + pz a, e) = wsl w M' := wsl_set w M M' ha he hc
theorem set_i {w : Wp} {M : Mm} {a n : Nat} (ha : lay a = (1, n)) (r : Nat → Int32) : (wsl w M).set (pz a - 1) (wB w + pz a, .inl (w.2.2.1.1, n, .inl r)) = wsl w (upR M.1 a r, M.2) := st_set (lay_ok ha (by decide)) (by rw [cell_i ha]; simp only [upR_s]) (fun j hj => cell_other (by simp [upR, hj]) rfl rfl)
theorem set_z {w : Wp} {M : Mm} {a n : Nat} (ha : lay a = (3, n)) (r : Nat → Int32) : (wsl w M).set (pz a - 1) (wB w + pz a, .inl (w.2.2.1.2.2.1, n, .inl r)) = wsl w (upR M.1 a r, M.2) := st_set (lay_ok ha (by decide)) (by rw [cell_z ha]; simp only [upR_s]) (fun j hj => cell_other (by simp [upR, hj]) rfl rfl)
theorem set_b {w : Wp} {M : Mm} {a n : Nat} (ha : lay a = (4, n)) (r : Nat → Int32) : (wsl w M).set (pz a - 1) (wB w + pz a, .inl (w.2.2.1.2.2.2, n, .inl r)) = wsl w (upR M.1 a r, M.2) := st_set (lay_ok ha (by decide)) (by rw [cell_b ha]; simp only [upR_s]) (fun j hj => cell_other (by simp [upR, hj]) rfl rfl)
theorem set_l {w : Wp} {M : Mm} {a n : Nat} (ha : lay a = (2, n)) (r : Nat → Int64) : (wsl w M).set (pz a - 1) (wB w + pz a, .inl (w.2.2.1.2.1, n, .inr (.inl r))) = wsl w (M.1, upR M.2.1 a r, M.2.2) := st_set (lay_ok ha (by decide)) (by rw [cell_l ha]; simp only [upR_s]) (fun j hj => cell_other rfl (by simp [upR, hj]) rfl)
theorem c_iast (G : Good w X cc nL own rt dp) {a n : Nat} {i v : Int32} {fn : Mm → Option α} (ha : lay a = (1, n)) (hdg : decode cc pc = .ok (.iastore, 1)) (kk : ∀ M1, stI n a i v M = some M1 → Cov w X Q ρ F nL (pc + 1) env st M1 (fn M1)) : Cov w X Q ρ F nL pc env (.int v :: .int i :: .ref (wB w + pz a) :: st) M ((stI n a i v M).bind fn) := by
  intro h H locs ls hP hS hl'
  cases hi : ix n i with
  | none => rw [stI, hi] at h; cases h
  | some k =>
    have e : stI n a i v M = some (upI M a k v) := by rw [stI, hi]; rfl
    rw [e] at h
    obtain ⟨h1, rfl⟩ := ix_some hi
    refine va_iast G.1 G.2.1 G.2.2.2.2.2.2.2.1 hP (wsl_D w M) hS (pz a - 1) 0 ((get_c ha (by decide)).trans (by rw [cell_i ha])) rfl h1 hdg fun H1 locs1 hP1 hD1 hS1 => ?_
    refine kk _ e h H1 locs1 ls ?_ hS1 hl'
    rw [set_i ha] at hP1
    exact hP1
theorem c_zast (G : Good w X cc nL own rt dp) {a n : Nat} {i v : Int32} {fn : Mm → Option α} (ha : lay a = (3, n)) (hdg : decode cc pc = .ok (.bastore, 1)) (kk : ∀ M1, stZ n a i v M = some M1 → Cov w X Q ρ F nL (pc + 1) env st M1 (fn M1)) : Cov w X Q ρ F nL pc env (.int v :: .int i :: .ref (wB w + pz a) :: st) M ((stZ n a i v M).bind fn) := by
  intro h H locs ls hP hS hl'
  cases hz : okZ v with
  | none => rw [stZ, hz] at h; cases h
  | some v' =>
    obtain ⟨rfl, hx⟩ := okZ_some hz
    cases hi : ix n i with
    | none => rw [stZ, hz, hi] at h; cases h
    | some k =>
      have e : stZ n a i v' M = some (upI M a k v') := by rw [stZ, hz, hi]; rfl
      rw [e] at h
      obtain ⟨h1, rfl⟩ := ix_some hi
      refine va_zast G.1 G.2.1 G.2.2.2.2.2.2.2.1 hP (wsl_D w M) hS (pz a - 1) 2 ((get_c ha (by decide)).trans (by rw [cell_z ha])) rfl h1 hdg fun H1 locs1 hP1 hD1 hS1 => ?_
      rw [(narZ hx).2.2] at hP1
      refine kk _ e h H1 locs1 ls ?_ hS1 hl'
      rw [set_z ha] at hP1
      exact hP1
theorem c_bast (G : Good w X cc nL own rt dp) {a n : Nat} {i v : Int32} {fn : Mm → Option α} (ha : lay a = (4, n)) (hdg : decode cc pc = .ok (.bastore, 1)) (kk : ∀ M1, stB n a i v M = some M1 → Cov w X Q ρ F nL (pc + 1) env st M1 (fn M1)) : Cov w X Q ρ F nL pc env (.int v :: .int i :: .ref (wB w + pz a) :: st) M ((stB n a i v M).bind fn) := by
  intro h H locs ls hP hS hl'
  cases hi : ix n i with
  | none => rw [stB, hi] at h; cases h
  | some k =>
    have e : stB n a i v M = some (upI M a k v.toInt8.toInt32) := by rw [stB, hi]; rfl
    rw [e] at h
    obtain ⟨h1, rfl⟩ := ix_some hi
    refine va_bast G.1 G.2.1 G.2.2.2.2.2.2.2.1 hP (wsl_D w M) hS (pz a - 1) 3 ((get_c ha (by decide)).trans (by rw [cell_b ha])) rfl h1 hdg fun H1 locs1 hP1 hD1 hS1 => ?_
    rw [vp_nar_byte] at hP1
    refine kk _ e h H1 locs1 ls ?_ hS1 hl'
    rw [set_b ha] at hP1
    exact hP1
theorem c_last (G : Good w X cc nL own rt dp) {a n : Nat} {i : Int32} {v : Int64} {fn : Mm → Option α} (ha : lay a = (2, n)) (hdg : decode cc pc = .ok (.lastore, 1)) (kk : ∀ M1, stJ n a i v M = some M1 → Cov w X Q ρ F nL (pc + 1) env st M1 (fn M1)) : Cov w X Q ρ F nL pc env (.long v :: .int i :: .ref (wB w + pz a) :: st) M ((stJ n a i v M).bind fn) := by
  intro h H locs ls hP hS hl'
  cases hi : ix n i with
  | none => rw [stJ, hi] at h; cases h
  | some k =>
    have e : stJ n a i v M = some (upJ M a k v) := by rw [stJ, hi]; rfl
    rw [e] at h
    obtain ⟨h1, rfl⟩ := ix_some hi
    refine va_last G.1 G.2.1 G.2.2.2.2.2.2.2.1 hP (wsl_D w M) hS (pz a - 1) 1 ((get_c ha (by decide)).trans (by rw [cell_l ha])) rfl h1 hdg fun H1 locs1 hP1 hD1 hS1 => ?_
    refine kk _ e h H1 locs1 ls ?_ hS1 hl'
    rw [set_l ha] at hP1
    exact hP1
theorem c_alenI (G : Good w X cc nL own rt dp) {a k n : Nat} (v : Int32) (ha : lay a = (k, n)) (hk : k = 1 ∨ k = 3 ∨ k = 4) (hv : Int32.ofNat n = v) (hdg : decode cc pc = .ok (.arraylength, 1)) (kk : Cov w X Q ρ F nL (pc + 1) env (.int v :: st) M t) : Cov w X Q ρ F nL pc env (.ref (wB w + pz a) :: st) M t := by
  intro h H locs ls hP hS hl'
  rcases hk with rfl | rfl | rfl
  · exact va_alen G.1 G.2.1 G.2.2.2.2.2.2.2.1 hP (pz a - 1) 0 ((get_c ha (by decide)).trans (by rw [cell_i ha])) rfl hv hdg (kk h H locs ls hP hS hl')
  · exact va_alen G.1 G.2.1 G.2.2.2.2.2.2.2.1 hP (pz a - 1) 2 ((get_c ha (by decide)).trans (by rw [cell_z ha])) rfl hv hdg (kk h H locs ls hP hS hl')
  · exact va_alen G.1 G.2.1 G.2.2.2.2.2.2.2.1 hP (pz a - 1) 3 ((get_c ha (by decide)).trans (by rw [cell_b ha])) rfl hv hdg (kk h H locs ls hP hS hl')
-- ends
theorem c_iret (G : Good w X cc nL own (some .int) dp) {ρ : Int32 × Mm} {v : Int32} (hQ : Q = MQ (xL X) (Qd w (encI ρ)) (xA X) (xS X) (xk X) (xs X) (Aw w)) (hdg : decode cc pc = .ok (.ireturn, 1)) : Cov w X Q ρ some nL pc env [.int v] M (some (v, M)) := by
  intro h H locs ls hP hS hl'
  have e : (v, M) = ρ := Option.some.inj h
  subst e; subst hQ
  exact W.iret G.1 G.2.1 G.2.2.2.2.2.2.1 (fun t ht hW => ⟨⟨rfl, by rw [ht]; exact hP, va_K.moved hW.alike G.2.2.2.2.2.2.2.1⟩, hS.F ht⟩) hS.2.2 hdg G.2.2.2.2.2.1
theorem c_zret (G : Good w X cc nL own (some .boolean) dp) {ρ : Int32 × Mm} {v : Int32} (hQ : Q = MQ (xL X) (Qd w (encI ρ)) (xA X) (xS X) (xk X) (xs X) (Aw w)) (hdg : decode cc pc = .ok (.ireturn, 1)) : Cov w X Q ρ some nL pc env [.int v] M (retZ v M) := by
  intro h H locs ls hP hS hl'
  unfold retZ at h
  cases hz : okZ v with
  | none => rw [hz] at h; cases h
  | some v' =>
    rw [hz] at h
    obtain ⟨rfl, hx⟩ := okZ_some hz
    have e : (v', M) = ρ := Option.some.inj h
    subst e; subst hQ
    exact W.zret G.1 G.2.1 G.2.2.2.2.2.2.1 (narZ hx).1 (fun t ht hW => ⟨⟨rfl, by rw [ht]; exact hP, va_K.moved hW.alike G.2.2.2.2.2.2.2.1⟩, hS.F ht⟩) hS.2.2 hdg G.2.2.2.2.2.1
theorem c_lret (G : Good w X cc nL own (some .long) dp) {ρ : Int64 × Mm} {v : Int64} (hQ : Q = MQ (xL X) (Qd w (encJ ρ)) (xA X) (xS X) (xk X) (xs X) (Aw w)) (hdg : decode cc pc = .ok (.lreturn, 1)) : Cov w X Q ρ some nL pc env [.long v] M (some (v, M)) := by
  intro h H locs ls hP hS hl'
  have e : (v, M) = ρ := Option.some.inj h
  subst e; subst hQ
  exact W.lret G.1 G.2.1 G.2.2.2.2.2.2.1 (fun t ht hW => ⟨⟨rfl, by rw [ht]; exact hP, va_K.moved hW.alike G.2.2.2.2.2.2.2.1⟩, hS.F ht⟩) hS.2.2 hdg G.2.2.2.2.2.1
theorem c_vret (G : Good w X cc nL own none dp) {ρ : Mm} (hQ : Q = MQ (xL X) (Qd w (encV ρ)) (xA X) (xS X) (xk X) (xs X) (Aw w)) (hdg : decode cc pc = .ok (.return_, 1)) : Cov w X Q ρ some nL pc env [] M (some M) := by
  intro h H locs ls hP hS hl'
  have e : M = ρ := Option.some.inj h
  subst e; subst hQ
  exact W.vret G.1 G.2.1 G.2.2.2.2.2.2.1 (fun t ht hW => ⟨⟨rfl, by rw [ht]; exact hP, va_K.moved hW.alike G.2.2.2.2.2.2.2.1⟩, hS.F ht⟩) hS.2.2 hdg G.2.2.2.2.2.1
-- structure
theorem c_weak (env' : List (Nat × Value)) (ks : List Nat) (hs : lv_pick env ks = env') (kk : Cov w X Q ρ F nL pc env' st M t) : Cov w X Q ρ F nL pc env st M t :=
  fun h H locs ls hP hS hl' => kk h H locs ls hP hS (lv_sub hl' ks hs)
theorem c_enter {γ : Type} {g : γ → Option α} {t : Option γ} (kk : Cov w X Q ρ (fun x => (g x).bind F) nL pc env st M t) : Cov w X Q ρ F nL pc env st M (t.bind g) := by
  intro h
  refine kk ?_
  rw [← h]
  cases t <;> rfl
theorem c_leaf {γ : Type} {g : γ → Option α} {p : γ} (kk : Cov w X Q ρ F nL pc env st M (g p)) : Cov w X Q ρ (fun x => (g x).bind F) nL pc env st M (some p) := fun h => kk h
theorem c_none : Cov w X Q ρ F nL pc env st M none := fun h => by cases h
end RULES

/-- behind a call -/
theorem callD {p : Program} {l : Launch} {e : Env} {R : Room} {s : State} {m : MethodId} {args a : Array Value} {below : List Frame} {meth : Method} {c : Code} {H : Heap} {locs : List Loc} {cells slots pc : Nat} {Qf : State → Prop} {ls : Array Slot} {st0 rest : List Value} {w : Wp} {ρ : Option Value × Mm}
    (hr : va_Run p l e R s m args below meth c H locs cells slots 0 0 (F0 m pc ls st0) rest (Qd w ρ a) (Aw w)) (hS : va_S (Aw w) s.heap H locs)
    (kk : ∀ (H1 : Heap) (locs1 : List Loc), va_P (wD w) vwCl (wsl w ρ.2) H1 → va_S (Aw w) s.heap H1 locs1 → W p l e R s m args below meth c H1 locs1 cells slots Qf (F0 m (pc + 3) ls (ρ.1.toList ++ rest))) : W p l e R s m args below meth c H locs cells slots Qf (F0 m pc ls st0) := by
  intro T hT X
  obtain ⟨v, st₀, t, T', L, h0, X', hL, e1, e2, ⟨⟨hv, hp, -⟩, hz, hk⟩, st⟩ := hr T hT X
  have hv' : v = ρ.1 := by injection hv
  subst hv'
  rw [h0] at hz hk
  obtain ⟨t2, a1, b1⟩ := kk T'.heap (locs ++ L) (by rw [e1]; exact hp)
    ⟨Nat.le_trans hS.1 (by rw [e1]; exact hz), fun q h1 h2 => by rw [e1, hk q (Nat.lt_of_lt_of_le h1 hS.1) h2]; exact hS.2.1 q h1 h2, fun q hq => by
      rcases List.mem_append.mp hq with h | h
      · exact hS.2.2 q h
      · exact hL q h⟩ T' rfl X'
  exact ⟨t2, st t2 a1, b1⟩
def YV (y : MethodName) (cc : ByteArray) (nL : Nat) (rt : Option FieldType) (n ci : Nat) : Prop :=
  Cond.instanceMethod y ∈ Tg ∧ Cond.selects y.cls y y ∈ Tg ∧ Cond.initialized y.cls ∈ Tg ∧ Cond.code y cc nL rt ∈ Tg ∧ (y.cls ≠ "java/lang/invoke/MethodHandle" ∧ y.cls ≠ "java/lang/invoke/VarHandle" ∧ (parseMethodDescriptor y.desc).map (fun d => d.parameters.length) = some n) ∧ ∃ (T : u_T) (N : Nat), vwCl[ci]? = some (y.cls, T, N)
def YS (y : MethodName) (cc : ByteArray) (nL : Nat) (rt : Option FieldType) (n : Nat) : Prop :=
  Cond.static y ∈ Tg ∧ Cond.initialized y.cls ∈ Tg ∧ Cond.code y cc nL rt ∈ Tg ∧ (y.cls ≠ "java/lang/invoke/MethodHandle" ∧ y.cls ≠ "java/lang/invoke/VarHandle" ∧ (parseMethodDescriptor y.desc).map (fun d => d.parameters.length) = some n)
theorem Tg_GoodIn {ws : List Cond} (h : ∀ q ∈ ws, q ∈ Tg) : GoodIn Tg ws := fun q hq => ⟨h q hq, good_of_word (Tg_good (h q hq))⟩
section CALLS
variable {α β δ : Type} {w : Wp} {X : Cx} {Q : State → Prop} {ρ : β} {F : α → Option β} {cc : ByteArray} {nL : Nat} {own : String} {rt : Option FieldType} {dp pc : Nat} {env : List (Nat × Value)} {st : List Value} {M : Mm} {t : Option α}
theorem c_callV (enc : δ → Option Value × Mm) (G : Good w X cc nL own rt dp) {D : Option δ} {f : δ → Option α} {y : MethodName} {bytes : ByteArray} {maxL n ci d idx b : Nat} {ret : Option FieldType} {rest : List Value} (As : List Value) (hY : YV y bytes maxL ret n ci) (hlink : Cond.methodLink own idx y ∈ Tg) (hd : d + 1 ≤ dp) (hm : maxL ≤ 45)
    (hs : st = As.reverse ++ .ref (wB w + pz b) :: rest) (hn : As.length = n) (hr : (rest.map fun v => v.category).sum ≤ 8) (hb : lay b = (5, ci)) (hcon : ∀ q, D = some q → Con w d y bytes maxL ret (.ref (wB w + pz b) :: As) M (enc q)) (hdg : decode cc pc = .ok (.invokevirtual idx, 3))
    (kk : ∀ q, D = some q → Cov w X Q ρ F nL (pc + 3) env ((enc q).1.toList ++ rest) (enc q).2 (f q)) : Cov w X Q ρ F nL pc env st M (D.bind f) := by
  intro h H locs ls hP hS hl
  cases hD : D with
  | none => rw [hD] at h; cases h
  | some q =>
    rw [hD] at h
    subst hs
    obtain ⟨h1, h2, h3, h4, h5, T, N, h6⟩ := hY
    have hts := G.2.2.2.2.1
    have hK := G.2.2.2.2.2.2.2.1
    have hr1 := G.2.2.2.2.2.2.2.2.1
    have hr2 := G.2.2.2.2.2.2.2.2.2.1
    have hall : ∀ q ∈ wsV own idx y.cls y (Cond.code y bytes maxL ret :: Tg), q ∈ Tg := by
      intro q hq
      simp only [wsV, List.cons_append, List.nil_append, List.mem_cons] at hq
      rcases hq with rfl | rfl | rfl | rfl | rfl | hq <;> assumption
    exact callD (va_runV (As := As) (rest := rest) (n := n) ⟨G.1, G.2.1, G.2.2.1, G.2.2.2.1, hts⟩ (hcon q hD)
      (cwV n hts (Tg_GoodIn hall) rfl rfl rfl ⟨rfl, h5⟩ ⟨Nat.le_trans hd hr1, by show 8 + (maxL + 11) + 64 * d ≤ _; omega⟩)
      ⟨Pd_blind _ _ _, va_recv hK hP (ci := ci) (q0 := pz b - 1) h6 ((get_c hb (by decide)).trans (by rw [cell_o hb])), fun U hU hW => ⟨rfl, by rw [hU]; exact hP, va_K.moved hW.alike hK, NW.warm hW (Good.nw G)⟩⟩
      rfl hn hl.1 rfl (by show 2 * 0 + _ ≤ _; omega) hdg ⟨G.2.2.2.2.2.2.2.2.2.2.1, G.2.2.2.2.2.2.2.2.2.2.2.1⟩) hS
      (fun H1 locs1 hP1 hS1 => kk q hD h H1 locs1 ls hP1 hS1 hl)
theorem c_callS (enc : δ → Option Value × Mm) (G : Good w X cc nL own rt dp) {D : Option δ} {f : δ → Option α} {y : MethodName} {bytes : ByteArray} {maxL n d idx : Nat} {ret : Option FieldType} {rest : List Value} (As : List Value) (hY : YS y bytes maxL ret n) (hlink : Cond.methodLink own idx y ∈ Tg) (hd : d + 1 ≤ dp) (hm : maxL ≤ 45)
    (hs : st = As.reverse ++ rest) (hn : As.length = n) (hr : (rest.map fun v => v.category).sum ≤ 8) (hcon : ∀ q, D = some q → Con w d y bytes maxL ret As M (enc q)) (hdg : decode cc pc = .ok (.invokestatic idx, 3))
    (kk : ∀ q, D = some q → Cov w X Q ρ F nL (pc + 3) env ((enc q).1.toList ++ rest) (enc q).2 (f q)) : Cov w X Q ρ F nL pc env st M (D.bind f) := by
  intro h H locs ls hP hS hl
  cases hD : D with
  | none => rw [hD] at h; cases h
  | some q =>
    rw [hD] at h
    subst hs
    obtain ⟨h1, h3, h4, h5⟩ := hY
    have hts := G.2.2.2.2.1
    have hK := G.2.2.2.2.2.2.2.1
    have hr1 := G.2.2.2.2.2.2.2.2.1
    have hr2 := G.2.2.2.2.2.2.2.2.2.1
    have hall : ∀ q ∈ va_wsS own idx y (Cond.code y bytes maxL ret :: Tg), q ∈ Tg := by
      intro q hq
      simp only [va_wsS, List.cons_append, List.nil_append, List.mem_cons] at hq
      rcases hq with rfl | rfl | rfl | rfl | hq <;> assumption
    exact callD (va_runS (As := As) (rest := rest) (n := n) ⟨G.1, G.2.1, G.2.2.1, G.2.2.2.1, hts⟩ (hcon q hD)
      (va_cwS n hts (Tg_GoodIn hall) rfl rfl rfl h5 ⟨Nat.le_trans hd hr1, by show 8 + (maxL + 11) + 64 * d ≤ _; omega⟩)
      ⟨Pd_blind _ _ _, fun U hU hW => ⟨rfl, by rw [hU]; exact hP, va_K.moved hW.alike hK, NW.warm hW (Good.nw G)⟩⟩
      rfl hn hl.1 rfl (by show 2 * 0 + _ ≤ _; omega) hdg ⟨G.2.2.2.2.2.2.2.2.2.2.1, G.2.2.2.2.2.2.2.2.2.2.2.1⟩) hS
      (fun H1 locs1 hP1 hS1 => kk q hD h H1 locs1 ls hP1 hS1 hl)
theorem c_callN (enc : δ → Option Value × Mm) (G : Good w X cc nL own rt dp) {D : Option δ} {f : δ → Option α} {y : MethodName} {bytes : ByteArray} {maxL n d idx : Nat} {ret : Option FieldType} {rest : List Value} {host : String} (As : List Value) (hY : YS y bytes maxL ret n) (hlink : va_Nw (.methodLinkNest own idx y host) (xS X)) (hd : d + 1 ≤ dp) (hm : maxL ≤ 45)
    (hs : st = As.reverse ++ rest) (hn : As.length = n) (hr : (rest.map fun v => v.category).sum ≤ 8) (hcon : ∀ q, D = some q → Con w d y bytes maxL ret As M (enc q)) (hdg : decode cc pc = .ok (.invokestatic idx, 3))
    (kk : ∀ q, D = some q → Cov w X Q ρ F nL (pc + 3) env ((enc q).1.toList ++ rest) (enc q).2 (f q)) : Cov w X Q ρ F nL pc env st M (D.bind f) := by
  intro h H locs ls hP hS hl
  cases hD : D with
  | none => rw [hD] at h; cases h
  | some q =>
    rw [hD] at h
    subst hs
    obtain ⟨h1, h3, h4, h5⟩ := hY
    have hts := G.2.2.2.2.1
    have hK := G.2.2.2.2.2.2.2.1
    have hr1 := G.2.2.2.2.2.2.2.2.1
    have hr2 := G.2.2.2.2.2.2.2.2.2.1
    have hall : ∀ q ∈ (Cond.code y bytes maxL ret :: Tg), q ∈ Tg := by
      intro q hq
      rcases List.mem_cons.mp hq with rfl | hq <;> assumption
    exact callD (va_runSN (As := As) (rest := rest) (n := n) (host := host) ⟨G.1, G.2.1, G.2.2.1, G.2.2.2.1, hts⟩ (hcon q hD)
      ⟨⟨⟨rfl, rfl, Nat.le_trans hd hr1, by show 8 + (maxL + 11) + 64 * d ≤ _; omega, pay_in hts (Tg_GoodIn hall), List.mem_cons_self⟩, hts _ h4, hts _ h3, ⟨h5.1, h5.2.1⟩, fun sig hsig => by
          have h2 := h5.2.2
          rw [hsig] at h2
          exact (Option.some.inj h2).symm, va_Nw.use rfl hlink⟩, hts _ h1, trivial⟩
      ⟨Pd_blind _ _ _, fun U hU hW => ⟨rfl, by rw [hU]; exact hP, va_K.moved hW.alike hK, NW.warm hW (Good.nw G)⟩⟩
      rfl hn hl.1 rfl (by show 2 * 0 + _ ≤ _; omega) hdg ⟨G.2.2.2.2.2.2.2.2.2.2.1, G.2.2.2.2.2.2.2.2.2.2.2.1⟩) hS
      (fun H1 locs1 hP1 hS1 => kk q hD h H1 locs1 ls hP1 hS1 hl)
end CALLS
section MORE
variable {α β : Type} {w : Wp} {X : Cx} {Q : State → Prop} {ρ : β} {F : α → Option β} {cc : ByteArray} {nL : Nat} {own : String} {rt : Option FieldType} {dp pc : Nat} {env : List (Nat × Value)} {st : List Value} {M : Mm} {t : Option α}
theorem c_mmax (G : Good w X cc nL own rt dp) {x y : Int32} {idx : Nat} (hlink : Cond.methodLink own idx Lib.Math.max.name ∈ Tg) (hY : YS Lib.Math.max.name Lib.Math.max.code 2 (some .int) 2) (hd : 1 ≤ dp) (hr : (st.map fun v => v.category).sum ≤ 40) (hdg : decode cc pc = .ok (.invokestatic idx, 3)) (kk : Cov w X Q ρ F nL (pc + 3) env (.int (mxI x y) :: st) M t) : Cov w X Q ρ F nL pc env (.int y :: .int x :: st) M t := by
  obtain ⟨h1, h3, h4, -⟩ := hY
  have hts := G.2.2.2.2.1
  have hr1 := G.2.2.2.2.2.2.2.2.1
  have hr2 := G.2.2.2.2.2.2.2.2.2.1
  exact fun h H locs ls hP hS hl' => va_mmax G.1 G.2.1 (G.2.2.1.trans hl'.1.symm) G.2.2.2.1 (hts _ hlink) (hts _ h1) (hts _ h3) (hts _ h4) (by omega) (by omega) G.2.2.2.2.2.2.2.2.2.2.1 G.2.2.2.2.2.2.2.2.2.2.2.1 hdg (kk h H locs ls hP hS hl')
theorem c_mmin (G : Good w X cc nL own rt dp) {x y : Int32} {idx : Nat} (hlink : Cond.methodLink own idx Lib.Math.min.name ∈ Tg) (hY : YS Lib.Math.min.name Lib.Math.min.code 2 (some .int) 2) (hd : 1 ≤ dp) (hr : (st.map fun v => v.category).sum ≤ 40) (hdg : decode cc pc = .ok (.invokestatic idx, 3)) (kk : Cov w X Q ρ F nL (pc + 3) env (.int (mnI x y) :: st) M t) : Cov w X Q ρ F nL pc env (.int y :: .int x :: st) M t := by
  obtain ⟨h1, h3, h4, -⟩ := hY
  have hts := G.2.2.2.2.1
  have hr1 := G.2.2.2.2.2.2.2.2.1
  have hr2 := G.2.2.2.2.2.2.2.2.2.1
  exact fun h H locs ls hP hS hl' => va_mmin G.1 G.2.1 (G.2.2.1.trans hl'.1.symm) G.2.2.2.1 (hts _ hlink) (hts _ h1) (hts _ h3) (hts _ h4) (by omega) (by omega) G.2.2.2.2.2.2.2.2.2.2.1 G.2.2.2.2.2.2.2.2.2.2.2.1 hdg (kk h H locs ls hP hS hl')
theorem c_copy (G : Good w X cc nL own rt dp) {n0 a0 n1 a1 : Nat} {sp dq n : Int32} {idx : Nat} {fn : Mm → Option α} (hlink : Cond.methodLink own idx arraycopyName ∈ Tg) (hna : Cond.native arraycopyName ∈ Tg) (hst : Cond.static arraycopyName ∈ Tg) (hini : Cond.initialized "java/lang/System" ∈ Tg) (hd : 1 ≤ dp) (hr : (st.map fun v => v.category).sum ≤ 8) (ha0 : lay a0 = (1, n0)) (ha1 : lay a1 = (1, n1)) (hdg : decode cc pc = .ok (.invokestatic idx, 3))
    (kk : ∀ M1, cpI n0 a0 sp n1 a1 dq n M = some M1 → Cov w X Q ρ F nL (pc + 3) env st M1 (fn M1)) : Cov w X Q ρ F nL pc env (.int n :: .int dq :: .ref (wB w + pz a1) :: .int sp :: .ref (wB w + pz a0) :: st) M ((cpI n0 a0 sp n1 a1 dq n M).bind fn) := by
  have hts := G.2.2.2.2.1
  have hr1 := G.2.2.2.2.2.2.2.2.1
  have hr2 := G.2.2.2.2.2.2.2.2.2.1
  intro h H locs ls hP hS hl'
  by_cases hc : sp < 0 ∨ dq < 0 ∨ n < 0 ∨ n0 < sp.toNatClampNeg + n.toNatClampNeg ∨ n1 < dq.toNatClampNeg + n.toNatClampNeg
  · rw [show cpI n0 a0 sp n1 a1 dq n M = none from if_pos hc] at h; cases h
  · have e : cpI n0 a0 sp n1 a1 dq n M = some (upR M.1 a1 (va_cpy (M.1 a0) (M.1 a1) sp.toNatClampNeg dq.toNatClampNeg n.toNatClampNeg), M.2) := if_neg hc
    rw [e] at h
    simp only [not_or] at hc
    refine va_copyi G.1 G.2.1 (G.2.2.1.trans hl'.1.symm) G.2.2.2.1 (hts _ hlink) (hts _ hna) (hts _ hst) (hts _ hini) G.2.2.2.2.2.2.2.1 hP (wsl_D w M) hS (pz a0 - 1) (pz a1 - 1) 0 0 ((get_c ha0 (by decide)).trans (by rw [cell_i ha0])) ((get_c ha1 (by decide)).trans (by rw [cell_i ha1])) rfl rfl rfl hc.1 hc.2.1 hc.2.2.1 (by omega) (by omega) (fun _ _ => rfl) (by omega) ?_ hdg fun H1 locs1 hP1 hD1 hS1 => ?_
    · have : nativeFrameWords "java/lang/System" "arraycopy" 5 ≤ 40 := by decide +kernel
      omega
    · refine kk _ e h H1 locs1 ls ?_ hS1 hl'
      rw [set_i ha1] at hP1
      exact hP1
theorem c_tsw (G : Good w X cc nL own rt dp) {dflt lo hi : Int} {offs : Array Int} {len : Nat} {x : Int32} {off : Int} {tgt : Nat} {t1 t2 : Option α} (v : Int32) (j : Nat) (hdg : decode cc pc = .ok (.tableswitch dflt lo hi offs, len)) (hv : v.toInt = lo + j) (hj : v.toInt ≤ hi) (ho : offs[j]? = some off) (ht : (pc : Int) + off = (tgt : Int))
    (kt : x = v → Cov w X Q ρ F nL tgt env st M t1) (kf : ¬ x = v → Cov w X Q ρ F nL pc env (.int x :: st) M t2) : Cov w X Q ρ F nL pc env (.int x :: st) M (if x = v then t1 else t2) := by
  intro h H locs ls hP hS hl'
  by_cases hx : x = v
  · rw [if_pos hx] at h
    have h2 : x.toInt = lo + j := by rw [hx]; exact hv
    refine lv_tableIn G.1 G.2.1 hdg (by omega) (by rw [hx]; omega) ?_ ht (kt hx h H locs ls hP hS hl')
    rw [h2, show (lo + (j : Int) - lo).toNat = j by omega]
    exact ho
  · rw [if_neg hx] at h
    exact kf hx h H locs ls hP hS hl'
theorem c_tswD (G : Good w X cc nL own rt dp) {dflt lo hi : Int} {offs : Array Int} {len : Nat} {x : Int32} {tgt : Nat} (hdg : decode cc pc = .ok (.tableswitch dflt lo hi offs, len)) (h : x.toInt < lo ∨ hi < x.toInt) (ht : (pc : Int) + dflt = (tgt : Int)) (kk : Cov w X Q ρ F nL tgt env st M t) : Cov w X Q ρ F nL pc env (.int x :: st) M t :=
  fun hh H locs ls hP hS hl' => lv_tableOut G.1 G.2.1 hdg h ht (kk hh H locs ls hP hS hl')
theorem c_lsw (G : Good w X cc nL own rt dp) {dflt : Int} {ps : Array (Int × Int)} {len : Nat} {x : Int32} {off : Int} {tgt : Nat} {t1 t2 : Option α} (v : Int32) (hdg : decode cc pc = .ok (.lookupswitch dflt ps, len)) (hp : (ps.toList.zip (ps.toList.drop 1)).all (fun (a, next) => a.1 < next.1) = true) (ho : Op.lookupswitch.offset ps.toList dflt v.toInt = off) (ht : (pc : Int) + off = (tgt : Int))
    (kt : x = v → Cov w X Q ρ F nL tgt env st M t1) (kf : ¬ x = v → Cov w X Q ρ F nL pc env (.int x :: st) M t2) : Cov w X Q ρ F nL pc env (.int x :: st) M (if x = v then t1 else t2) := by
  intro h H locs ls hP hS hl'
  by_cases hx : x = v
  · rw [if_pos hx] at h
    exact lv_lookup G.1 G.2.1 hdg hp (by rw [hx]; exact ho) ht (kt hx h H locs ls hP hS hl')
  · rw [if_neg hx] at h
    exact kf hx h H locs ls hP hS hl'
theorem c_lswD (G : Good w X cc nL own rt dp) {dflt : Int} {ps : Array (Int × Int)} {len : Nat} {x : Int32} {tgt : Nat} (hdg : decode cc pc = .ok (.lookupswitch dflt ps, len)) (hp : (ps.toList.zip (ps.toList.drop 1)).all (fun (a, next) => a.1 < next.1) = true) (ho : Op.lookupswitch.offset ps.toList dflt x.toInt = dflt) (ht : (pc : Int) + dflt = (tgt : Int)) (kk : Cov w X Q ρ F nL tgt env st M t) : Cov w X Q ρ F nL pc env (.int x :: st) M t :=
  fun h H locs ls hP hS hl' => lv_lookup G.1 G.2.1 hdg hp ho ht (kk h H locs ls hP hS hl')
end MORE
def jn {σ α : Type} (J : σ → Option α) (f : (σ → Option α) → Option α) : Option α := f J
def len (a : Nat) : Nat := (lay a).2
theorem ll {a k n : Nat} (h : lay a = (k, n)) : lay a = (k, len a) := by rw [len, h]
def m1 : Int32 := -1
def encPI (M : Mm) (r : Int32) : Option Value × Mm := (some (.int r), M)
def encPJ (M : Mm) (r : Int64) : Option Value × Mm := (some (.long r), M)
section MORE2
variable {α β δ : Type} {w : Wp} {X : Cx} {Q : State → Prop} {ρ : β} {F : α → Option β} {cc : ByteArray} {nL : Nat} {own : String} {rt : Option FieldType} {dp pc : Nat} {env : List (Nat × Value)} {st : List Value} {M : Mm} {t : Option α}
theorem c_bj {γ : Type} {tt : Option γ} {g : γ → Option α} {ej : γ → List (Nat × Value)} {sj : γ → List Value} {mj : γ → Mm} {pj : Nat} (h1 : ∀ p, Cov w X Q ρ F nL pj (ej p) (sj p) (mj p) (g p)) (h2 : ∀ F' : γ → Option β, (∀ p, Cov w X Q ρ F' nL pj (ej p) (sj p) (mj p) (some p)) → Cov w X Q ρ F' nL pc env st M tt) : Cov w X Q ρ F nL pc env st M (tt.bind g) :=
  c_enter (h2 _ (fun p => c_leaf (h1 p)))
theorem c_jn {γ : Type} {J : γ → Option α} {fb : (γ → Option α) → Option α} {ej : γ → List (Nat × Value)} {sj : γ → List Value} {mj : γ → Mm} {pj : Nat} (h1 : ∀ p, Cov w X Q ρ F nL pj (ej p) (sj p) (mj p) (J p)) (h2 : ∀ J' : γ → Option α, (∀ p, Cov w X Q ρ F nL pj (ej p) (sj p) (mj p) (J' p)) → Cov w X Q ρ F nL pc env st M (fb J')) : Cov w X Q ρ F nL pc env st M (jn J fb) := h2 J h1
theorem c_iretP (G : Good w X cc nL own (some .int) dp) {ρ : Int32} {v : Int32} (hQ : Q = MQ (xL X) (Qd w (encPI M ρ)) (xA X) (xS X) (xk X) (xs X) (Aw w)) (hdg : decode cc pc = .ok (.ireturn, 1)) : Cov w X Q ρ some nL pc env [.int v] M (some v) := by
  intro h H locs ls hP hS hl'
  have e : v = ρ := Option.some.inj h
  subst e; subst hQ
  exact W.iret G.1 G.2.1 G.2.2.2.2.2.2.1 (fun t ht hW => ⟨⟨rfl, by rw [ht]; exact hP, va_K.moved hW.alike G.2.2.2.2.2.2.2.1⟩, hS.F ht⟩) hS.2.2 hdg G.2.2.2.2.2.1
theorem c_zretP (G : Good w X cc nL own (some .boolean) dp) {ρ : Int32} {v : Int32} (hQ : Q = MQ (xL X) (Qd w (encPI M ρ)) (xA X) (xS X) (xk X) (xs X) (Aw w)) (hdg : decode cc pc = .ok (.ireturn, 1)) : Cov w X Q ρ some nL pc env [.int v] M (okZ v) := by
  intro h H locs ls hP hS hl'
  cases hz : okZ v with
  | none => rw [hz] at h; cases h
  | some v' =>
    rw [hz] at h
    obtain ⟨rfl, hx⟩ := okZ_some hz
    have e : v' = ρ := Option.some.inj h
    subst e; subst hQ
    exact W.zret G.1 G.2.1 G.2.2.2.2.2.2.1 (narZ hx).1 (fun t ht hW => ⟨⟨rfl, by rw [ht]; exact hP, va_K.moved hW.alike G.2.2.2.2.2.2.2.1⟩, hS.F ht⟩) hS.2.2 hdg G.2.2.2.2.2.1
theorem c_lretP (G : Good w X cc nL own (some .long) dp) {ρ : Int64} {v : Int64} (hQ : Q = MQ (xL X) (Qd w (encPJ M ρ)) (xA X) (xS X) (xk X) (xs X) (Aw w)) (hdg : decode cc pc = .ok (.lreturn, 1)) : Cov w X Q ρ some nL pc env [.long v] M (some v) := by
  intro h H locs ls hP hS hl'
  have e : v = ρ := Option.some.inj h
  subst e; subst hQ
  exact W.lret G.1 G.2.1 G.2.2.2.2.2.2.1 (fun t ht hW => ⟨⟨rfl, by rw [ht]; exact hP, va_K.moved hW.alike G.2.2.2.2.2.2.2.1⟩, hS.F ht⟩) hS.2.2 hdg G.2.2.2.2.2.1
theorem c_callV_I (G : Good w X cc nL own rt dp) {D : Option (Int32 × Mm)} {f : Int32 × Mm → Option α} {y : MethodName} {bytes : ByteArray} {maxL n ci d idx b : Nat} {ret : Option FieldType} {rest : List Value} (As : List Value) (hY : YV y bytes maxL ret n ci) (hlink : Cond.methodLink own idx y ∈ Tg) (hd : d + 1 ≤ dp) (hm : maxL ≤ 45)
    (hs : st = As.reverse ++ .ref (wB w + pz b) :: rest) (hn : As.length = n) (hr : (rest.map fun v => v.category).sum ≤ 8) (hb : lay b = (5, ci)) (hcon : ∀ q, D = some q → Con w d y bytes maxL ret (.ref (wB w + pz b) :: As) M (encI q)) (hdg : decode cc pc = .ok (.invokevirtual idx, 3))
    (kk : ∀ q : Int32 × Mm, D = some q → Cov w X Q ρ F nL (pc + 3) env (.int q.1 :: rest) q.2 (f q)) : Cov w X Q ρ F nL pc env st M (D.bind f) := c_callV encI G As hY hlink hd hm hs hn hr hb hcon hdg kk
theorem c_callS_I (G : Good w X cc nL own rt dp) {D : Option (Int32 × Mm)} {f : Int32 × Mm → Option α} {y : MethodName} {bytes : ByteArray} {maxL n d idx : Nat} {ret : Option FieldType} {rest : List Value} (As : List Value) (hY : YS y bytes maxL ret n) (hlink : Cond.methodLink own idx y ∈ Tg) (hd : d + 1 ≤ dp) (hm : maxL ≤ 45)
    (hs : st = As.reverse ++ rest) (hn : As.length = n) (hr : (rest.map fun v => v.category).sum ≤ 8) (hcon : ∀ q, D = some q → Con w d y bytes maxL ret As M (encI q)) (hdg : decode cc pc = .ok (.invokestatic idx, 3))
    (kk : ∀ q : Int32 × Mm, D = some q → Cov w X Q ρ F nL (pc + 3) env (.int q.1 :: rest) q.2 (f q)) : Cov w X Q ρ F nL pc env st M (D.bind f) := c_callS encI G As hY hlink hd hm hs hn hr hcon hdg kk
theorem c_callN_I (G : Good w X cc nL own rt dp) {D : Option (Int32 × Mm)} {f : Int32 × Mm → Option α} {y : MethodName} {bytes : ByteArray} {maxL n d idx : Nat} {ret : Option FieldType} {rest : List Value} {host : String} (As : List Value) (hY : YS y bytes maxL ret n) (hlink : va_Nw (.methodLinkNest own idx y host) (xS X)) (hd : d + 1 ≤ dp) (hm : maxL ≤ 45)
    (hs : st = As.reverse ++ rest) (hn : As.length = n) (hr : (rest.map fun v => v.category).sum ≤ 8) (hcon : ∀ q, D = some q → Con w d y bytes maxL ret As M (encI q)) (hdg : decode cc pc = .ok (.invokestatic idx, 3))
    (kk : ∀ q : Int32 × Mm, D = some q → Cov w X Q ρ F nL (pc + 3) env (.int q.1 :: rest) q.2 (f q)) : Cov w X Q ρ F nL pc env st M (D.bind f) := c_callN encI G As hY hlink hd hm hs hn hr hcon hdg kk
theorem c_callV_PI (G : Good w X cc nL own rt dp) {D : Option (Int32)} {f : Int32 → Option α} {y : MethodName} {bytes : ByteArray} {maxL n ci d idx b : Nat} {ret : Option FieldType} {rest : List Value} (As : List Value) (hY : YV y bytes maxL ret n ci) (hlink : Cond.methodLink own idx y ∈ Tg) (hd : d + 1 ≤ dp) (hm : maxL ≤ 45)
    (hs : st = As.reverse ++ .ref (wB w + pz b) :: rest) (hn : As.length = n) (hr : (rest.map fun v => v.category).sum ≤ 8) (hb : lay b = (5, ci)) (hcon : ∀ q, D = some q → Con w d y bytes maxL ret (.ref (wB w + pz b) :: As) M ((encPI M) q)) (hdg : decode cc pc = .ok (.invokevirtual idx, 3))
    (kk : ∀ q : Int32, D = some q → Cov w X Q ρ F nL (pc + 3) env (.int q :: rest) M (f q)) : Cov w X Q ρ F nL pc env st M (D.bind f) := c_callV (encPI M) G As hY hlink hd hm hs hn hr hb hcon hdg kk
theorem c_callS_PI (G : Good w X cc nL own rt dp) {D : Option (Int32)} {f : Int32 → Option α} {y : MethodName} {bytes : ByteArray} {maxL n d idx : Nat} {ret : Option FieldType} {rest : List Value} (As : List Value) (hY : YS y bytes maxL ret n) (hlink : Cond.methodLink own idx y ∈ Tg) (hd : d + 1 ≤ dp) (hm : maxL ≤ 45)
    (hs : st = As.reverse ++ rest) (hn : As.length = n) (hr : (rest.map fun v => v.category).sum ≤ 8) (hcon : ∀ q, D = some q → Con w d y bytes maxL ret As M ((encPI M) q)) (hdg : decode cc pc = .ok (.invokestatic idx, 3))
    (kk : ∀ q : Int32, D = some q → Cov w X Q ρ F nL (pc + 3) env (.int q :: rest) M (f q)) : Cov w X Q ρ F nL pc env st M (D.bind f) := c_callS (encPI M) G As hY hlink hd hm hs hn hr hcon hdg kk
theorem c_callN_PI (G : Good w X cc nL own rt dp) {D : Option (Int32)} {f : Int32 → Option α} {y : MethodName} {bytes : ByteArray} {maxL n d idx : Nat} {ret : Option FieldType} {rest : List Value} {host : String} (As : List Value) (hY : YS y bytes maxL ret n) (hlink : va_Nw (.methodLinkNest own idx y host) (xS X)) (hd : d + 1 ≤ dp) (hm : maxL ≤ 45)
    (hs : st = As.reverse ++ rest) (hn : As.length = n) (hr : (rest.map fun v => v.category).sum ≤ 8) (hcon : ∀ q, D = some q → Con w d y bytes maxL ret As M ((encPI M) q)) (hdg : decode cc pc = .ok (.invokestatic idx, 3))
    (kk : ∀ q : Int32, D = some q → Cov w X Q ρ F nL (pc + 3) env (.int q :: rest) M (f q)) : Cov w X Q ρ F nL pc env st M (D.bind f) := c_callN (encPI M) G As hY hlink hd hm hs hn hr hcon hdg kk
theorem c_callV_V (G : Good w X cc nL own rt dp) {D : Option (Mm)} {f : Mm → Option α} {y : MethodName} {bytes : ByteArray} {maxL n ci d idx b : Nat} {ret : Option FieldType} {rest : List Value} (As : List Value) (hY : YV y bytes maxL ret n ci) (hlink : Cond.methodLink own idx y ∈ Tg) (hd : d + 1 ≤ dp) (hm : maxL ≤ 45)
    (hs : st = As.reverse ++ .ref (wB w + pz b) :: rest) (hn : As.length = n) (hr : (rest.map fun v => v.category).sum ≤ 8) (hb : lay b = (5, ci)) (hcon : ∀ q, D = some q → Con w d y bytes maxL ret (.ref (wB w + pz b) :: As) M (encV q)) (hdg : decode cc pc = .ok (.invokevirtual idx, 3))
    (kk : ∀ q : Mm, D = some q → Cov w X Q ρ F nL (pc + 3) env (rest) q (f q)) : Cov w X Q ρ F nL pc env st M (D.bind f) := c_callV encV G As hY hlink hd hm hs hn hr hb hcon hdg kk
theorem c_callS_V (G : Good w X cc nL own rt dp) {D : Option (Mm)} {f : Mm → Option α} {y : MethodName} {bytes : ByteArray} {maxL n d idx : Nat} {ret : Option FieldType} {rest : List Value} (As : List Value) (hY : YS y bytes maxL ret n) (hlink : Cond.methodLink own idx y ∈ Tg) (hd : d + 1 ≤ dp) (hm : maxL ≤ 45)
    (hs : st = As.reverse ++ rest) (hn : As.length = n) (hr : (rest.map fun v => v.category).sum ≤ 8) (hcon : ∀ q, D = some q → Con w d y bytes maxL ret As M (encV q)) (hdg : decode cc pc = .ok (.invokestatic idx, 3))
    (kk : ∀ q : Mm, D = some q → Cov w X Q ρ F nL (pc + 3) env (rest) q (f q)) : Cov w X Q ρ F nL pc env st M (D.bind f) := c_callS encV G As hY hlink hd hm hs hn hr hcon hdg kk
theorem c_callN_V (G : Good w X cc nL own rt dp) {D : Option (Mm)} {f : Mm → Option α} {y : MethodName} {bytes : ByteArray} {maxL n d idx : Nat} {ret : Option FieldType} {rest : List Value} {host : String} (As : List Value) (hY : YS y bytes maxL ret n) (hlink : va_Nw (.methodLinkNest own idx y host) (xS X)) (hd : d + 1 ≤ dp) (hm : maxL ≤ 45)
    (hs : st = As.reverse ++ rest) (hn : As.length = n) (hr : (rest.map fun v => v.category).sum ≤ 8) (hcon : ∀ q, D = some q → Con w d y bytes maxL ret As M (encV q)) (hdg : decode cc pc = .ok (.invokestatic idx, 3))
    (kk : ∀ q : Mm, D = some q → Cov w X Q ρ F nL (pc + 3) env (rest) q (f q)) : Cov w X Q ρ F nL pc env st M (D.bind f) := c_callN encV G As hY hlink hd hm hs hn hr hcon hdg kk
theorem c_callV_J (G : Good w X cc nL own rt dp) {D : Option (Int64 × Mm)} {f : Int64 × Mm → Option α} {y : MethodName} {bytes : ByteArray} {maxL n ci d idx b : Nat} {ret : Option FieldType} {rest : List Value} (As : List Value) (hY : YV y bytes maxL ret n ci) (hlink : Cond.methodLink own idx y ∈ Tg) (hd : d + 1 ≤ dp) (hm : maxL ≤ 45)
    (hs : st = As.reverse ++ .ref (wB w + pz b) :: rest) (hn : As.length = n) (hr : (rest.map fun v => v.category).sum ≤ 8) (hb : lay b = (5, ci)) (hcon : ∀ q, D = some q → Con w d y bytes maxL ret (.ref (wB w + pz b) :: As) M (encJ q)) (hdg : decode cc pc = .ok (.invokevirtual idx, 3))
    (kk : ∀ q : Int64 × Mm, D = some q → Cov w X Q ρ F nL (pc + 3) env (.long q.1 :: rest) q.2 (f q)) : Cov w X Q ρ F nL pc env st M (D.bind f) := c_callV encJ G As hY hlink hd hm hs hn hr hb hcon hdg kk
theorem c_callS_J (G : Good w X cc nL own rt dp) {D : Option (Int64 × Mm)} {f : Int64 × Mm → Option α} {y : MethodName} {bytes : ByteArray} {maxL n d idx : Nat} {ret : Option FieldType} {rest : List Value} (As : List Value) (hY : YS y bytes maxL ret n) (hlink : Cond.methodLink own idx y ∈ Tg) (hd : d + 1 ≤ dp) (hm : maxL ≤ 45)
    (hs : st = As.reverse ++ rest) (hn : As.length = n) (hr : (rest.map fun v => v.category).sum ≤ 8) (hcon : ∀ q, D = some q → Con w d y bytes maxL ret As M (encJ q)) (hdg : decode cc pc = .ok (.invokestatic idx, 3))
    (kk : ∀ q : Int64 × Mm, D = some q → Cov w X Q ρ F nL (pc + 3) env (.long q.1 :: rest) q.2 (f q)) : Cov w X Q ρ F nL pc env st M (D.bind f) := c_callS encJ G As hY hlink hd hm hs hn hr hcon hdg kk
theorem c_callN_J (G : Good w X cc nL own rt dp) {D : Option (Int64 × Mm)} {f : Int64 × Mm → Option α} {y : MethodName} {bytes : ByteArray} {maxL n d idx : Nat} {ret : Option FieldType} {rest : List Value} {host : String} (As : List Value) (hY : YS y bytes maxL ret n) (hlink : va_Nw (.methodLinkNest own idx y host) (xS X)) (hd : d + 1 ≤ dp) (hm : maxL ≤ 45)
    (hs : st = As.reverse ++ rest) (hn : As.length = n) (hr : (rest.map fun v => v.category).sum ≤ 8) (hcon : ∀ q, D = some q → Con w d y bytes maxL ret As M (encJ q)) (hdg : decode cc pc = .ok (.invokestatic idx, 3))
    (kk : ∀ q : Int64 × Mm, D = some q → Cov w X Q ρ F nL (pc + 3) env (.long q.1 :: rest) q.2 (f q)) : Cov w X Q ρ F nL pc env st M (D.bind f) := c_callN encJ G As hY hlink hd hm hs hn hr hcon hdg kk
theorem c_callV_PJ (G : Good w X cc nL own rt dp) {D : Option (Int64)} {f : Int64 → Option α} {y : MethodName} {bytes : ByteArray} {maxL n ci d idx b : Nat} {ret : Option FieldType} {rest : List Value} (As : List Value) (hY : YV y bytes maxL ret n ci) (hlink : Cond.methodLink own idx y ∈ Tg) (hd : d + 1 ≤ dp) (hm : maxL ≤ 45)
    (hs : st = As.reverse ++ .ref (wB w + pz b) :: rest) (hn : As.length = n) (hr : (rest.map fun v => v.category).sum ≤ 8) (hb : lay b = (5, ci)) (hcon : ∀ q, D = some q → Con w d y bytes maxL ret (.ref (wB w + pz b) :: As) M ((encPJ M) q)) (hdg : decode cc pc = .ok (.invokevirtual idx, 3))
    (kk : ∀ q : Int64, D = some q → Cov w X Q ρ F nL (pc + 3) env (.long q :: rest) M (f q)) : Cov w X Q ρ F nL pc env st M (D.bind f) := c_callV (encPJ M) G As hY hlink hd hm hs hn hr hb hcon hdg kk
theorem c_callS_PJ (G : Good w X cc nL own rt dp) {D : Option (Int64)} {f : Int64 → Option α} {y : MethodName} {bytes : ByteArray} {maxL n d idx : Nat} {ret : Option FieldType} {rest : List Value} (As : List Value) (hY : YS y bytes maxL ret n) (hlink : Cond.methodLink own idx y ∈ Tg) (hd : d + 1 ≤ dp) (hm : maxL ≤ 45)
    (hs : st = As.reverse ++ rest) (hn : As.length = n) (hr : (rest.map fun v => v.category).sum ≤ 8) (hcon : ∀ q, D = some q → Con w d y bytes maxL ret As M ((encPJ M) q)) (hdg : decode cc pc = .ok (.invokestatic idx, 3))
    (kk : ∀ q : Int64, D = some q → Cov w X Q ρ F nL (pc + 3) env (.long q :: rest) M (f q)) : Cov w X Q ρ F nL pc env st M (D.bind f) := c_callS (encPJ M) G As hY hlink hd hm hs hn hr hcon hdg kk
theorem c_callN_PJ (G : Good w X cc nL own rt dp) {D : Option (Int64)} {f : Int64 → Option α} {y : MethodName} {bytes : ByteArray} {maxL n d idx : Nat} {ret : Option FieldType} {rest : List Value} {host : String} (As : List Value) (hY : YS y bytes maxL ret n) (hlink : va_Nw (.methodLinkNest own idx y host) (xS X)) (hd : d + 1 ≤ dp) (hm : maxL ≤ 45)
    (hs : st = As.reverse ++ rest) (hn : As.length = n) (hr : (rest.map fun v => v.category).sum ≤ 8) (hcon : ∀ q, D = some q → Con w d y bytes maxL ret As M ((encPJ M) q)) (hdg : decode cc pc = .ok (.invokestatic idx, 3))
    (kk : ∀ q : Int64, D = some q → Cov w X Q ρ F nL (pc + 3) env (.long q :: rest) M (f q)) : Cov w X Q ρ F nL pc env st M (D.bind f) := c_callN (encPJ M) G As hY hlink hd hm hs hn hr hcon hdg kk
end MORE2
