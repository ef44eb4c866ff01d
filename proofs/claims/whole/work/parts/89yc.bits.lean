-- how many bits
theorem and_sp {b m r s : Nat} (hb : b < 256) (hm : m < 256) : (b + 256 * r) &&& (m + 256 * s) = (b &&& m) + 256 * (r &&& s) := by
  have e : ∀ x y : Nat, x + 256 * y = 2 ^ 8 * y + x := fun x y => by omega
  have h3 : b &&& m < 2 ^ 8 := by have := Nat.and_le_left (n := b) (m := m); omega
  rw [e, e, e]
  refine nat_ext fun i => ?_
  rw [Nat.testBit_and, tb_split (show b < 2 ^ 8 by omega), tb_split (show m < 2 ^ 8 by omega), tb_split h3]
  by_cases c : i < 8
  · rw [if_pos c, if_pos c, if_pos c, Nat.testBit_and]
  · rw [if_neg c, if_neg c, if_neg c, Nat.testBit_and]
def f1 (b : Nat) : Nat := b - (b / 2 &&& 85)
def f2 (c : Nat) : Nat := (c &&& 51) + (c / 4 &&& 51)
def f3 (c : Nat) : Nat := (c + c / 16) &&& 15
theorem bc1 : ∀ b, b < 256 → ∀ c, c < 2 → (b / 2 + 128 * c) &&& 85 = b / 2 &&& 85 := by decide +kernel
theorem bc2 : ∀ b, b < 256 → ∀ c, c < 4 → (b / 4 + 64 * c) &&& 51 = b / 4 &&& 51 := by decide +kernel
theorem bc3 : ∀ c, c < 69 → ∀ d, d < 5 → (c + c / 16 + 16 * d) &&& 15 = (c + c / 16) &&& 15 := by decide +kernel
theorem bcb : ∀ b, b < 256 → f1 b < 256 ∧ f2 (f1 b) < 69 ∧ f2 (f1 b) % 16 < 5 ∧ f3 (f2 (f1 b)) = cnt (fun i => b.testBit i) 8 ∧ f3 (f2 (f1 b)) ≤ 8 ∧ (b / 2 &&& 85) ≤ b := by decide +kernel
theorem BS1 {b r s : Nat} (hb : b < 256) : ((b + 256 * r) / 2) &&& (85 + 256 * s) = (b / 2 &&& 85) + 256 * (r / 2 &&& s) := by
  rw [show (b + 256 * r) / 2 = (b / 2 + 128 * (r % 2)) + 256 * (r / 2) by omega, and_sp (by omega) (by omega), bc1 b hb _ (by omega)]
theorem BS2 {b r s : Nat} (hb : b < 256) : ((b + 256 * r) / 4) &&& (51 + 256 * s) = (b / 4 &&& 51) + 256 * (r / 4 &&& s) := by
  rw [show (b + 256 * r) / 4 = (b / 4 + 64 * (r % 4)) + 256 * (r / 4) by omega, and_sp (by omega) (by omega), bc2 b hb _ (by omega)]
theorem BS3 {c r s : Nat} (hc : c < 69) (hr : r % 16 < 5) : ((c + 256 * r) + (c + 256 * r) / 16) &&& (15 + 256 * s) = ((c + c / 16) &&& 15) + 256 * ((r + r / 16) &&& s) := by
  rw [show (c + 256 * r) + (c + 256 * r) / 16 = (c + c / 16 + 16 * (r % 16)) + 256 * (r + r / 16) by omega, and_sp (by omega) (by omega), bc3 c hc _ hr]
def v4 (a b c d : Nat) : Nat := a + 256 * (b + 256 * (c + 256 * (d + 256 * 0)))
theorem bc_1 {a b c d : Nat} (ha : a < 256) (hb : b < 256) (hc : c < 256) (hd : d < 256) : v4 a b c d - (v4 a b c d / 2 &&& 1431655765) = v4 (f1 a) (f1 b) (f1 c) (f1 d) := by
  have k := fun x hx => (bcb x hx).2.2.2.2.2
  have := k a ha; have := k b hb; have := k c hc; have := k d hd
  have e : v4 a b c d / 2 &&& 1431655765 = v4 (a / 2 &&& 85) (b / 2 &&& 85) (c / 2 &&& 85) (d / 2 &&& 85) := by
    show _ / 2 &&& (85 + 256 * (85 + 256 * (85 + 256 * (85 + 256 * 0)))) = _
    unfold v4
    rw [BS1 ha, BS1 hb, BS1 hc, BS1 hd]
    rfl
  rw [e]
  unfold v4 f1
  omega
theorem bc_2 {a b c d : Nat} (ha : a < 256) (hb : b < 256) (hc : c < 256) (hd : d < 256) : (v4 a b c d &&& 858993459) + (v4 a b c d / 4 &&& 858993459) = v4 (f2 a) (f2 b) (f2 c) (f2 d) := by
  have e : v4 a b c d / 4 &&& 858993459 = v4 (a / 4 &&& 51) (b / 4 &&& 51) (c / 4 &&& 51) (d / 4 &&& 51) := by
    show _ / 4 &&& (51 + 256 * (51 + 256 * (51 + 256 * (51 + 256 * 0)))) = _
    unfold v4
    rw [BS2 ha, BS2 hb, BS2 hc, BS2 hd]
    rfl
  have e' : v4 a b c d &&& 858993459 = v4 (a &&& 51) (b &&& 51) (c &&& 51) (d &&& 51) := by
    show _ &&& (51 + 256 * (51 + 256 * (51 + 256 * (51 + 256 * 0)))) = _
    unfold v4
    rw [and_sp ha (by omega), and_sp hb (by omega), and_sp hc (by omega), and_sp hd (by omega)]
    rfl
  rw [e, e']
  unfold v4 f2
  omega
theorem bc_3 {a b c d : Nat} (ha : a < 69) (hb : b < 69) (hc : c < 69) (hd : d < 69) (kb : b % 16 < 5) (kc : c % 16 < 5) (kd : d % 16 < 5) : (v4 a b c d + v4 a b c d / 16) &&& 252645135 = v4 (f3 a) (f3 b) (f3 c) (f3 d) := by
  show _ &&& (15 + 256 * (15 + 256 * (15 + 256 * (15 + 256 * 0)))) = _
  unfold v4
  rw [BS3 ha (by omega), BS3 hb (by omega), BS3 hc (by omega), BS3 hd (by decide)]
  rfl
theorem s_bitCount {v : Nat} (N : Nat) (M : Mm) (hv : v < 2 ^ 32) : D_J6_bitCount_0f7a4 N (nI v) M = some (nI (cnt (fun i => v.testBit i) 32)) := by
  obtain ⟨a, b, c, d, ha, hb, hc, hd, e⟩ : ∃ a b c d, a < 256 ∧ b < 256 ∧ c < 256 ∧ d < 256 ∧ v = v4 a b c d := ⟨v % 256, v / 256 % 256, v / 65536 % 256, v / 16777216, by omega, by omega, by omega, by omega, by unfold v4; omega⟩
  have A := bcb a ha; have B := bcb b hb; have C := bcb c hc; have D := bcb d hd
  have l2lt : v4 (f1 a) (f1 b) (f1 c) (f1 d) < 2 ^ 32 := by unfold v4; omega
  have l3lt : v4 (f2 (f1 a)) (f2 (f1 b)) (f2 (f1 c)) (f2 (f1 d)) < 2 ^ 32 := by unfold v4; omega
  generalize eq3 : v4 (f3 (f2 (f1 a))) (f3 (f2 (f1 b))) (f3 (f2 (f1 c))) (f3 (f2 (f1 d))) = l3 at *
  have l3b : l3 < 2 ^ 31 := by rw [← eq3]; unfold v4; omega
  have l1e : nI v - ((shr (nI v) (nI 1)) &&& (nI 1431655765)) = nI (v4 (f1 a) (f1 b) (f1 c) (f1 d)) := by
    have le := Nat.and_le_left (n := v / 2) (m := 1431655765)
    rw [n_shr hv (by decide), show v / 2 ^ 1 = v / 2 from rfl, n_and, n_sub (by omega), e, bc_1 ha hb hc hd]
  have l2e : (nI (v4 (f1 a) (f1 b) (f1 c) (f1 d)) &&& nI 858993459) + ((shr (nI (v4 (f1 a) (f1 b) (f1 c) (f1 d))) (nI 2)) &&& (nI 858993459)) = nI (v4 (f2 (f1 a)) (f2 (f1 b)) (f2 (f1 c)) (f2 (f1 d))) := by
    rw [n_shr l2lt (by decide), n_and, n_and, nI_add, show ∀ x : Nat, x / 2 ^ 2 = x / 4 from fun _ => rfl, bc_2 A.1 B.1 C.1 D.1]
  have l3e : (nI (v4 (f2 (f1 a)) (f2 (f1 b)) (f2 (f1 c)) (f2 (f1 d))) + shr (nI (v4 (f2 (f1 a)) (f2 (f1 b)) (f2 (f1 c)) (f2 (f1 d)))) (nI 4)) &&& nI 252645135 = nI l3 := by
    rw [n_shr l3lt (by decide), nI_add, n_and, show ∀ x : Nat, x / 2 ^ 4 = x / 16 from fun _ => rfl, bc_3 A.2.1 B.2.1 C.2.1 D.2.1 B.2.2.1 C.2.2.1 D.2.2.1, eq3]
  have l4e : nI l3 + shr (nI l3) (nI 8) = nI (l3 + l3 / 256) := by rw [n_shr (by omega) (by decide), nI_add]
  have l5e : nI (l3 + l3 / 256) + shr (nI (l3 + l3 / 256)) (nI 16) = nI (l3 + l3 / 256 + (l3 + l3 / 256) / 65536) := by rw [n_shr (by omega) (by decide), nI_add]
  have m63 : ∀ x : Nat, x &&& 63 = x % 64 := fun x => Nat.and_two_pow_sub_one_eq_mod x 6
  have split : cnt (fun i => v.testBit i) 32 = cnt (fun i => a.testBit i) 8 + cnt (fun i => b.testBit i) 8 + cnt (fun i => c.testBit i) 8 + cnt (fun i => d.testBit i) 8 := by
    have cb := cnt_blocks (fun i => v.testBit i) 4
    rw [show 8 * 4 = 32 from rfl] at cb
    have bt : ∀ k x, k < 4 → (if k = 0 then a else if k = 1 then b else if k = 2 then c else d) = x → (cnt (fun i => v.testBit (8 * k + i)) 8) = cnt (fun i => x.testBit i) 8 := fun k x hk hx => cnt_congr fun i hi => by
      have hx2 : v / 2 ^ (8 * k) % 256 = x := by
        rw [← hx, e]
        unfold v4
        rcases (show k = 0 ∨ k = 1 ∨ k = 2 ∨ k = 3 by omega) with z | z | z | z <;> subst z
        · show _ / 1 % 256 = _; rw [if_pos rfl]; omega
        · show _ / 256 % 256 = _; rw [if_neg (by decide), if_pos rfl]; omega
        · show _ / 65536 % 256 = _; rw [if_neg (by decide), if_neg (by decide), if_pos rfl]; omega
        · show _ / 16777216 % 256 = _; rw [if_neg (by decide), if_neg (by decide), if_neg (by decide)]; omega
      rw [← hx2, show (256 : Nat) = 2 ^ 8 from rfl, Nat.testBit_mod_two_pow, Nat.testBit_div_two_pow, decide_eq_true hi, Bool.true_and]
      rw [Nat.add_comm]
    rw [cb]
    show 0 + cnt (fun i => v.testBit (8 * 0 + i)) 8 + cnt (fun i => v.testBit (8 * 1 + i)) 8 + cnt (fun i => v.testBit (8 * 2 + i)) 8 + cnt (fun i => v.testBit (8 * 3 + i)) 8 = _
    rw [bt 0 a (by decide) rfl, bt 1 b (by decide) rfl, bt 2 c (by decide) rfl, bt 3 d (by decide) rfl, Nat.zero_add]
  unfold D_J6_bitCount_0f7a4
  simp only [Option.bind_some]
  rw [l1e, l2e, l3e, l4e, l5e, n_and, m63, split, ← A.2.2.2.1, ← B.2.2.2.1, ← C.2.2.2.1, ← D.2.2.2.1]
  congr 2
  rw [← eq3]
  have := A.2.2.2.2.1; have := B.2.2.2.2.1; have := C.2.2.2.2.1; have := D.2.2.2.2.1
  generalize f3 (f2 (f1 a)) = pa at *
  generalize f3 (f2 (f1 b)) = pb at *
  generalize f3 (f2 (f1 c)) = pc at *
  generalize f3 (f2 (f1 d)) = pd at *
  unfold v4
  have e1 : (pa + 256 * (pb + 256 * (pc + 256 * (pd + 256 * 0)))) / 256 = pb + 256 * pc + 65536 * pd := by omega
  rw [e1]
  have e2 : (pa + 256 * (pb + 256 * (pc + 256 * (pd + 256 * 0))) + (pb + 256 * pc + 65536 * pd)) / 65536 = pc + pd + 256 * pd := by omega
  rw [e2]
  omega
