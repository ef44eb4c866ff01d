section MORE3
variable {α β δ : Type} {w : Wp} {X : Cx} {Q : State → Prop} {ρ : β} {F : α → Option β} {cc : ByteArray} {nL : Nat} {own : String} {rt : Option FieldType} {dp pc : Nat} {env : List (Nat × Value)} {st : List Value} {M : Mm} {t : Option α}
theorem c_ldcw (G : Good w X cc nL own rt dp) {idx : Nat} {v : Int32} (v' : Int32) (hw : Cond.constant own idx v ∈ Tg) (hv : v = v') (hdg : decode cc pc = .ok (.ldc_w idx, 3)) (kk : Cov w X Q ρ F nL (pc + 3) env (.int v' :: st) M t) : Cov w X Q ρ F nL pc env st M t := by
  subst hv
  exact fun h H locs ls hP hS hl' => lv_ldcw G.1 G.2.1 G.2.2.2.1 (G.2.2.2.2.1 _ hw) hdg (kk h H locs ls hP hS hl')
end MORE3
