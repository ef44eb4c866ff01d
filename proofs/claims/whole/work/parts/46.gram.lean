-- the class's Grammar as numbers: rows of ints (i) and of names (l) by their offset; pa, cp, co: the reader's parts, production, occ
def Gr : Type := (Nat → Nat → Nat) × (Nat → Nat → Nat) × Nat × Nat × Nat
def Gr.i (G : Gr) : Nat → Nat → Nat := G.1
def Gr.l (G : Gr) : Nat → Nat → Nat := G.2.1
def Gr.pa (G : Gr) : Nat := G.2.2.1
def Gr.cp (G : Gr) : Nat := G.2.2.2.1
def Gr.co (G : Gr) : Nat := G.2.2.2.2
def mkG (i l : Nat → Nat → Nat) (pa cp co : Nat) : Gr := (i, l, pa, cp, co)
def sI (G : Gr) (k j v : Nat) : Gr := mkG (fun a b => if a = k ∧ b = j then v else G.i a b) G.l G.pa G.cp G.co
def sL (G : Gr) (k j v : Nat) : Gr := mkG G.i (fun a b => if a = k ∧ b = j then v else G.l a b) G.pa G.cp G.co
theorem sI_i (G : Gr) (k j v a b : Nat) : (sI G k j v).i a b = if a = k ∧ b = j then v else G.i a b := rfl
theorem sI_l (G : Gr) (k j v : Nat) : (sI G k j v).l = G.l := rfl
theorem sI_pa (G : Gr) (k j v : Nat) : (sI G k j v).pa = G.pa := rfl
theorem sI_cp (G : Gr) (k j v : Nat) : (sI G k j v).cp = G.cp := rfl
theorem sI_co (G : Gr) (k j v : Nat) : (sI G k j v).co = G.co := rfl
theorem sL_l (G : Gr) (k j v a b : Nat) : (sL G k j v).l a b = if a = k ∧ b = j then v else G.l a b := rfl
theorem sL_i (G : Gr) (k j v : Nat) : (sL G k j v).i = G.i := rfl
theorem sL_pa (G : Gr) (k j v : Nat) : (sL G k j v).pa = G.pa := rfl
theorem sL_cp (G : Gr) (k j v : Nat) : (sL G k j v).cp = G.cp := rfl
theorem sL_co (G : Gr) (k j v : Nat) : (sL G k j v).co = G.co := rfl
def CG (g : Nat) (G : Gr) (M : Mm) : Prop := ∀ k, k ≤ 16 → ∀ j, M.1 (g + k) j = nI (G.i k j) ∧ M.2.1 (g + k) j = lN (G.l k j)
theorem CG.a {g : Nat} {G : Gr} {M : Mm} (h : CG g G M) (k j : Nat) (hk : k ≤ 16) : M.1 (g + k) j = nI (G.i k j) := (h k hk j).1
theorem CG.n {g : Nat} {G : Gr} {M : Mm} (h : CG g G M) (k j : Nat) (hk : k ≤ 16) : M.2.1 (g + k) j = lN (G.l k j) := (h k hk j).2
theorem CG.f {g : Nat} {G : Gr} {M : Mm} (h : CG g G M) (j : Nat) : M.1 g j = nI (G.i 0 j) := (h 0 (by omega) j).1
theorem CG.I {g : Nat} {G : Gr} {M : Mm} (h : CG g G M) (k j v : Nat) : CG g (sI G k j v) (upI M (g + k) j (nI v)) := fun k' hk' j' => by
  refine ⟨?_, ?_⟩
  · rw [up1, sI_i]
    by_cases e : k' = k
    · subst e
      rw [if_pos rfl, upd_a]
      by_cases e2 : j' = j
      · rw [if_pos e2, if_pos ⟨rfl, e2⟩]
      · rw [if_neg e2, if_neg (fun q => e2 q.2)]; exact h.a k' j' hk'
    · rw [if_neg (by omega), if_neg (fun q => e q.1)]; exact h.a k' j' hk'
  · rw [up2, sI_l]; exact h.n k' j' hk'
theorem CG.F {g : Nat} {G : Gr} {M : Mm} (h : CG g G M) (j v : Nat) : CG g (sI G 0 j v) (upI M g j (nI v)) := h.I 0 j v
theorem CG.J {g : Nat} {G : Gr} {M : Mm} (h : CG g G M) (k j v : Nat) : CG g (sL G k j v) (upJ M (g + k) j (lN v)) := fun k' hk' j' => by
  refine ⟨?_, ?_⟩
  · rw [upJ1, sL_i]; exact h.a k' j' hk'
  · rw [upJ2, sL_l]
    by_cases e : k' = k
    · subst e
      rw [if_pos rfl, updL_a]
      by_cases e2 : j' = j
      · rw [if_pos e2, if_pos ⟨rfl, e2⟩]
      · rw [if_neg e2, if_neg (fun q => e2 q.2)]; exact h.n k' j' hk'
    · rw [if_neg (by omega), if_neg (fun q => e q.1)]; exact h.n k' j' hk'
theorem l_ofn (x : Int64) : x = lN x.toBitVec.toNat := by
  apply Int64.toBitVec_inj.mp
  show x.toBitVec = BitVec.ofNat 64 x.toBitVec.toNat
  rw [BitVec.ofNat_toNat, BitVec.setWidth_eq]
theorem CG_ex (g : Nat) (M : Mm) (pa cp co : Nat) : ∃ G : Gr, CG g G M ∧ G.pa = pa ∧ G.cp = cp ∧ G.co = co :=
  ⟨mkG (fun k j => (M.1 (g + k) j).toBitVec.toNat) (fun k j => (M.2.1 (g + k) j).toBitVec.toNat) pa cp co, fun k _ j => ⟨n_ofn _, l_ofn _⟩, rfl, rfl, rfl⟩
theorem CG.mem {g : Nat} {G : Gr} {M M' : Mm} (h : CG g G M) (h1 : ∀ k, k ≤ 16 → M'.1 (g + k) = M.1 (g + k) ∧ M'.2.1 (g + k) = M.2.1 (g + k)) : CG g G M' := fun k hk j => by
  rw [(h1 k hk).1, (h1 k hk).2]; exact h k hk j
theorem CG.fr {g : Nat} {G : Gr} {S : Nat → Prop} {M M' : Mm} (h : CG g G M) (hf : Fr S M M') (hS : ∀ k, k ≤ 16 → ¬ S (g + k)) : CG g G M' :=
  h.mem fun k hk => ⟨(hf _ (hS k hk)).1, (hf _ (hS k hk)).2.1⟩
theorem CG.eq {g : Nat} {G G' : Gr} {M : Mm} (h : CG g G M) (hi : G'.i = G.i) (hl : G'.l = G.l) : CG g G' M := fun k hk j => by rw [hi, hl]; exact h k hk j
-- the first place of a row that holds a word; the row's length where none does
def fi (f : Nat → Nat) (w : Nat) : Nat → Nat
  | 0 => 0
  | n + 1 => if fi f w n < n then fi f w n else if f n = w then n else n + 1
theorem fi_le (f : Nat → Nat) (w : Nat) : ∀ n, fi f w n ≤ n
  | 0 => Nat.le_refl 0
  | n + 1 => by
    rw [fi]; split
    · omega
    · split <;> omega
theorem fi_eq {f : Nat → Nat} {w : Nat} : ∀ {n i : Nat}, i ≤ n → (∀ j, j < i → ¬ f j = w) → (i = n ∨ f i = w) → fi f w n = i
  | 0, i, h, _, _ => by rw [fi]; omega
  | n + 1, i, h, h1, h2 => by
    rw [fi]
    by_cases e : i = n + 1
    · have q := fi_eq (n := n) (i := n) (Nat.le_refl n) (fun j hj => h1 j (by omega)) (Or.inl rfl)
      rw [q, if_neg (Nat.lt_irrefl n), if_neg (h1 n (by omega)), e]
    · have h2' : f i = w := h2.resolve_left e
      have q := fi_eq (n := n) (i := i) (by omega) h1 (Or.inr h2')
      by_cases e2 : i = n
      · subst e2; rw [q, if_neg (Nat.lt_irrefl i), if_pos h2']
      · rw [q, if_pos (by omega)]
theorem fi_hit {f : Nat → Nat} {w : Nat} : ∀ {n : Nat}, fi f w n < n → f (fi f w n) = w
  | 0, h => by omega
  | n + 1, h => by
    rw [fi] at h ⊢
    by_cases e : fi f w n < n
    · rw [if_pos e]; exact fi_hit e
    · rw [if_neg e] at h ⊢
      by_cases e2 : f n = w
      · rw [if_pos e2]; exact e2
      · rw [if_neg e2] at h; omega
theorem fi_congr {f f' : Nat → Nat} {w w' : Nat} : ∀ {n : Nat}, (∀ j, j < n → (f j = w ↔ f' j = w')) → fi f w n = fi f' w' n
  | 0, _ => rfl
  | n + 1, h => by
    rw [fi, fi, fi_congr (n := n) fun j hj => h j (by omega)]
    by_cases e : f n = w
    · rw [if_pos e, if_pos ((h n (by omega)).mp e)]
    · rw [if_neg e, if_neg (fun q => e ((h n (by omega)).mpr q))]
-- what a search answers
def fR (r n : Nat) : Int32 := if r < n then nI r else m1
