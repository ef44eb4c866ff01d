/-- a flag is kept as the machine keeps it -/
def stY (n a : Nat) (i v : Int32) (M : Mm) : Option Mm := (ix n i).map fun k => upI M a k (vp_nar .boolean v)
section MORE3
variable {α β δ : Type} {w : Wp} {X : Cx} {Q : State → Prop} {ρ : β} {F : α → Option β} {cc : ByteArray} {nL : Nat} {own : String} {rt : Option FieldType} {dp pc : Nat} {env : List (Nat × Value)} {st : List Value} {M : Mm} {t : Option α}
theorem c_ldcw (G : Good w X cc nL own rt dp) {idx : Nat} {v : Int32} (v' : Int32) (hw : Cond.constant own idx v ∈ Tg) (hv : v = v') (hdg : decode cc pc = .ok (.ldc_w idx, 3)) (kk : Cov w X Q ρ F nL (pc + 3) env (.int v' :: st) M t) : Cov w X Q ρ F nL pc env st M t := by
  subst hv
  exact fun h H locs ls hP hS hl' => lv_ldcw G.1 G.2.1 G.2.2.2.1 (G.2.2.2.2.1 _ hw) hdg (kk h H locs ls hP hS hl')
theorem c_yast (G : Good w X cc nL own rt dp) {a n : Nat} {i v : Int32} {fn : Mm → Option α} (ha : lay a = (3, n)) (hdg : decode cc pc = .ok (.bastore, 1)) (kk : ∀ M1, stY n a i v M = some M1 → Cov w X Q ρ F nL (pc + 1) env st M1 (fn M1)) : Cov w X Q ρ F nL pc env (.int v :: .int i :: .ref (wB w + pz a) :: st) M ((stY n a i v M).bind fn) := by
  intro h H locs ls hP hS hl'
  cases hi : ix n i with
  | none => rw [stY, hi] at h; cases h
  | some k =>
    have e : stY n a i v M = some (upI M a k (vp_nar .boolean v)) := by rw [stY, hi]; rfl
    rw [e] at h
    obtain ⟨h1, rfl⟩ := ix_some hi
    refine va_zast G.1 G.2.1 G.2.2.2.2.2.2.2.1 hP (wsl_D w M) hS (pz a - 1) 2 ((get_c ha (by decide)).trans (by rw [cell_z ha])) rfl h1 hdg fun H1 locs1 hP1 hD1 hS1 => ?_
    refine kk _ e h H1 locs1 ls ?_ hS1 hl'
    rw [set_z ha] at hP1
    exact hP1
end MORE3
