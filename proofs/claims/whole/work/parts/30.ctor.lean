/-! constructors: the heap holds the cells of a list, in the order in which they are made -/
def noE : va_E := .inr (0, [])
def wsx (b0 : Nat) (l : List va_E) : va_W := (List.range l.length).map (fun k => (b0 + (k + 1), l.getD k noE))
theorem wsx_len {b0 : Nat} {l : List va_E} : (wsx b0 l).length = l.length := by simp [wsx]
theorem wsx_get {b0 : Nat} {l : List va_E} {k : Nat} {e : va_E} (h : l[k]? = some e) : (wsx b0 l)[k]? = some (b0 + (k + 1), e) := by
  have hk : k < l.length := (List.getElem?_eq_some_iff.mp h).1
  simp only [wsx, List.getElem?_map, List.getElem?_range hk, Option.map_some, List.getD_eq_getElem?_getD, h, Option.getD_some]
theorem wsx_none {b0 : Nat} {l : List va_E} {k : Nat} (h : l.length ≤ k) : (wsx b0 l)[k]? = none := List.getElem?_eq_none (by rw [wsx_len]; exact h)
theorem wsx_at {b0 : Nat} {l : List va_E} {k : Nat} : (wsx b0 l)[k]? = (l[k]?).map fun e => (b0 + (k + 1), e) := by
  by_cases h : k < l.length
  · have h1 : l[k]? = some l[k] := List.getElem?_eq_getElem h
    rw [wsx_get h1, h1]; rfl
  · rw [wsx_none (by omega), List.getElem?_eq_none (by omega)]; rfl
theorem wsx_set {b0 : Nat} {l : List va_E} {k : Nat} {e : va_E} : (wsx b0 l).set k (b0 + (k + 1), e) = wsx b0 (l.set k e) := by
  apply List.ext_getElem?
  intro i
  rw [List.getElem?_set, wsx_at, wsx_at, List.getElem?_set, wsx_len]
  by_cases hk : k = i
  · subst hk
    by_cases hl : k < l.length
    · simp [hl]
    · simp [hl]
  · simp [hk]
theorem wsx_push {b0 : Nat} {l : List va_E} {e : va_E} : wsx b0 l ++ [(b0 + (l.length + 1), e)] = wsx b0 (l ++ [e]) := by
  apply List.ext_getElem?
  intro i
  rw [List.getElem?_append, wsx_len, wsx_at, wsx_at, List.getElem?_append]
  by_cases hl : i < l.length
  · simp [hl]
  · simp only [hl, if_false]
    by_cases h0 : i - l.length = 0
    · have hi : i = l.length := by omega
      subst hi
      simp
    · rw [List.getElem?_eq_none (by simp; omega), List.getElem?_eq_none (by simp; omega)]; rfl
theorem wsx_D (w : Wp) (l : List va_E) : va_D (Aw w) (wsx (wB w) l) := by
  have key : ∀ (i : Nat) (p : Nat × va_E), (wsx (wB w) l)[i]? = some p → p.1 = wB w + (i + 1) := by
    intro i p h
    rw [wsx_at] at h
    cases hl : l[i]? with
    | none => rw [hl] at h; cases h
    | some e => rw [hl] at h; cases h; rfl
  refine ⟨fun i j p q hi hj e => ?_, fun k q hk => ?_⟩
  · rw [key i p hi, key j q hj] at e; omega
  · show wB w < q.1
    rw [key k q hk]; omega
def AtC (w : Wp) (X : Cx) (Q : State → Prop) (nL pc : Nat) (env : List (Nat × Value)) (st : List Value) (l : List va_E) (ck sk : Nat) : Prop :=
  ∀ (H : Heap) (locs : List Loc) (ls : Array Slot), va_P (wD w) vwCl (wsx (wB w) l) H → H.size = wB w + 1 + l.length → va_S (Aw w) (xS X).heap H locs → lv_has ls nL env →
    W (xP X) (wL w) (xE X) (xR X) (xS X) (xM X) (xA X) (xL X) (xT X) (xC X) H locs ck sk Q (F0 (xM X) pc ls st)
def QdC (w : Wp) (l : List va_E) : Array Value → State → Outcome → State → Prop := fun _ st oc t =>
  (oc = .returned none ∧ va_P (wD w) vwCl (wsx (wB w) l) t.heap ∧ t.heap.size = wB w + 1 + l.length) ∧ va_F (Aw w) st t
def rmC (d mc ms : Nat) : Room := { frames := d, cells := mc, slots := ms, locals := 64 * d }
def PdC (w : Wp) (av : List Value) (l : List va_E) : Array Value → State → Prop := va_Pc av (fun U => va_P (wD w) vwCl (wsx (wB w) l) U.heap ∧ U.heap.size = wB w + 1 + l.length ∧ va_K (wD w) vwCl (tysl w) U ∧ NW U)
theorem PdC_blind (w : Wp) (av : List Value) (l : List va_E) : FrameBlind (PdC w av l) := fun a U g mk q => by
  obtain ⟨q0, qP, qz, qK, qN⟩ := q
  exact ⟨q0, qP, qz, va_K.moved (u := U) (U := U.calling g mk a) (Vm.Alike.refl U.vm) qK, NW.same (u := U) (U := U.calling g mk a) rfl qN⟩
/-- a constructor: from its object with nothing in it, the last cell, to its whole block of cells -/
def ConC (w : Wp) (d mc ms : Nat) (y : MethodName) (cc : ByteArray) (nL : Nat) (dfl : va_E) (blk : Nat → List va_E) : Prop :=
  ∀ pre : List va_E, Met (wL w) y (Cond.code y cc nL none :: Tg) (rmC d mc ms) (PdC w [.ref (wB w + (pre.length + 1))] (pre ++ [dfl])) (QdC w (pre ++ blk (pre.length + 1))) mc ms (Aw w)
theorem ConC.of {w : Wp} {d mc ms : Nat} {y : MethodName} {cc : ByteArray} {nL : Nat} {dfl : va_E} {blk : Nat → List va_E} (hy : plainName y.cls = true) (hn : 1 ≤ nL) (hN : y.name = "<init>")
    (k : ∀ (X : Cx) (pre : List va_E) (g : Nat), pre.length + 1 = g → Good w X cc nL y.cls none d → xk X = mc ∧ xs X = ms → (xT X).name = "<init>" → (∀ Q, Q = MQ (xL X) (QdC w (pre ++ blk g)) (xA X) (xS X) mc ms (Aw w) → AtC w X Q nL 0 [(0, .ref (wB w + g))] [] (pre ++ [dfl]) 0 0)) :
    ConC w d mc ms y cc nL dfl blk := by
  intro pre
  refine Met.ofW (cc := cc) (maxL := nL) (ret := none) hy rfl ?_
  intro p e s m args below meth c s₁ B hml hv
  obtain ⟨rfl, hP, hz, hK, hNW⟩ := hv
  have hts := atoms_spec (ws := Cond.code y cc nL none :: Tg) B.pre
  have hown : s.vm.findClass y.cls = some m.cls := findClass_of_methodNamed B.named
  have hin : meth.name = "<init>" := (name_of_methodNamed B.named B.method).1.trans hN
  have hl := lv_entry [.ref (wB w + (pre.length + 1))] (n := nL) (by simpa [lg_sl, Value.category] using hn)
  rw [lg_entry_eq]
  have G : Good w (p, e, (headSpec (Cond.code y cc nL none :: Tg) (rmC d mc ms)).room, s, m, [Value.ref (wB w + (pre.length + 1))].toArray, below, meth, c, mc, ms) cc nL y.cls none d :=
    ⟨B.exec, B.bytes, hml, hown, fun q hq => hts q (List.mem_cons_of_mem _ hq), B.notSynchronized, B.returns, hK, Nat.le_refl _, Nat.le_refl _, Nat.le_refl _, Nat.le_refl _, hNW⟩
  exact k _ pre _ rfl G ⟨rfl, rfl⟩ hin _ rfl s.heap [] _ hP hz va_S.rf hl
theorem callC {p : Program} {l : Launch} {e : Env} {R : Room} {s : State} {m : MethodId} {args a : Array Value} {below : List Frame} {meth : Method} {c : Code} {H : Heap} {locs : List Loc} {cells slots mc ms pc : Nat} {Qf : State → Prop} {ls : Array Slot} {st0 rest : List Value} {w : Wp} {cs : List va_E}
    (hr : va_Run p l e R s m args below meth c H locs cells slots mc ms (F0 m pc ls st0) rest (QdC w cs a) (Aw w)) (hS : va_S (Aw w) s.heap H locs)
    (kk : ∀ (H1 : Heap) (locs1 : List Loc), va_P (wD w) vwCl (wsx (wB w) cs) H1 → H1.size = wB w + 1 + cs.length → va_S (Aw w) s.heap H1 locs1 → W p l e R s m args below meth c H1 locs1 (cells + mc) (slots + ms) Qf (F0 m (pc + 3) ls rest)) : W p l e R s m args below meth c H locs cells slots Qf (F0 m pc ls st0) := by
  intro T hT X
  obtain ⟨v, st₀, t, T', L, h0, X', hL, e1, e2, ⟨⟨hv, hp, hsz⟩, hz, hk⟩, st⟩ := hr T hT X
  have hv' : v = none := by injection hv
  subst hv'
  rw [h0] at hz hk
  obtain ⟨t2, a1, b1⟩ := kk T'.heap (locs ++ L) (by rw [e1]; exact hp) (by rw [e1]; exact hsz)
    ⟨Nat.le_trans hS.1 (by rw [e1]; exact hz), fun q h1 h2 => by rw [e1, hk q (Nat.lt_of_lt_of_le h1 hS.1) h2]; exact hS.2.1 q h1 h2, fun q hq => by
      rcases List.mem_append.mp hq with h | h
      · exact hS.2.2 q h
      · exact hL q h⟩ T' rfl X'
  exact ⟨t2, st t2 a1, b1⟩
section KRULES
variable {w : Wp} {X : Cx} {Q : State → Prop} {cc : ByteArray} {nL : Nat} {own : String} {rt : Option FieldType} {dp pc Cm Sm ck sk g : Nat} {env : List (Nat × Value)} {st : List Value} {pre cs : List va_E} {l : List va_E}
theorem k_aload_n (G : Good w X cc nL own rt dp) {k : Fin 4} {i x : Nat} (hdg : decode cc pc = .ok (.aload_n k, 1)) (hi : (k : Nat) = i) (pl : Nat) (hl : env[pl]? = some (i, .ref x)) (kk : AtC w X Q nL (pc + 1) env (.ref x :: st) l ck sk) : AtC w X Q nL pc env st l ck sk :=
  fun H locs ls hP hz hS hl' => lv_aload_n G.1 G.2.1 hdg hi (lv_at hl' pl hl) (kk H locs ls hP hz hS hl')
theorem k_astore_n (G : Good w X cc nL own rt dp) {k : Fin 4} {i x : Nat} (env' : List (Nat × Value)) (hdg : decode cc pc = .ok (.astore_n k, 1)) (hi : (k : Nat) = i) (hn : i < nL) (hl : (i, Value.ref x) :: env.filter (fun q => !(q.1 == i) && !(q.1 + 1 == i && q.2.category == 2)) = env') (kk : AtC w X Q nL (pc + 1) env' st l ck sk) : AtC w X Q nL pc env (.ref x :: st) l ck sk :=
  fun H locs ls hP hz hS hl' => lv_astore_n G.1 G.2.1 hdg hi hl' hn hl (fun ls' h' => kk H locs ls' hP hz hS h')
theorem k_dup (G : Good w X cc nL own rt dp) {v : Value} (hdg : decode cc pc = .ok (.dup, 1)) (hv : v.category = 1) (kk : AtC w X Q nL (pc + 1) env (v :: v :: st) l ck sk) : AtC w X Q nL pc env (v :: st) l ck sk :=
  fun H locs ls hP hz hS hl' => lv_dup G.1 G.2.1 hdg hv (kk H locs ls hP hz hS hl')
theorem k_iconst (G : Good w X cc nL own rt dp) {n : Int} (v : Int32) (hdg : decode cc pc = .ok (.iconst n, 1)) (hv : Int32.ofInt n = v) (kk : AtC w X Q nL (pc + 1) env (.int v :: st) l ck sk) : AtC w X Q nL pc env st l ck sk :=
  fun H locs ls hP hz hS hl' => lv_iconst G.1 G.2.1 hdg hv (kk H locs ls hP hz hS hl')
theorem k_bipush (G : Good w X cc nL own rt dp) {n : Int} (v : Int32) (hdg : decode cc pc = .ok (.bipush n, 2)) (hv : (Int8.ofInt n).toInt32 = v) (kk : AtC w X Q nL (pc + 2) env (.int v :: st) l ck sk) : AtC w X Q nL pc env st l ck sk :=
  fun H locs ls hP hz hS hl' => lv_bipush G.1 G.2.1 hdg hv (kk H locs ls hP hz hS hl')
theorem k_sipush (G : Good w X cc nL own rt dp) {n : Int} (v : Int32) (hdg : decode cc pc = .ok (.sipush n, 3)) (hv : (Int16.ofInt n).toInt32 = v) (kk : AtC w X Q nL (pc + 3) env (.int v :: st) l ck sk) : AtC w X Q nL pc env st l ck sk :=
  fun H locs ls hP hz hS hl' => lv_sipush G.1 G.2.1 hdg hv (kk H locs ls hP hz hS hl')
theorem k_objInit (G : Good w X cc nL own rt dp) {a idx : Nat} (hlink : Cond.methodLink own idx Lib.objectInit ∈ Tg) (hinst : Cond.instanceMethod Lib.objectInit ∈ Tg) (hcode : Cond.code Lib.objectInit ⟨#[0xb1]⟩ 1 none ∈ Tg) (hd : 1 ≤ dp) (hr : (st.map fun v => v.category).sum ≤ 8) (hdg : decode cc pc = .ok (.invokespecial idx, 3)) (kk : AtC w X Q nL (pc + 3) env st l ck sk) : AtC w X Q nL pc env (.ref a :: st) l ck sk := by
  have hts := G.2.2.2.2.1
  have hr1 := G.2.2.2.2.2.2.2.2.1
  have hr2 := G.2.2.2.2.2.2.2.2.2.1
  exact fun H locs ls hP hz hS hl' => W.objInit G.1 G.2.1 G.2.2.2.1 (hts _ hlink) (hts _ hinst) (hts _ hcode) rfl (by rw [G.2.2.1]; exact hl'.1) rfl hdg (by omega) (by show 2 * 0 + _ + 12 ≤ _; omega) (kk H locs ls hP hz hS hl')
theorem AtC.grow {H H1 : Heap} {e : va_E} (hP : va_P (wD w) vwCl (wsx (wB w) l) H) (hz : H.size = wB w + 1 + l.length) (o1 : ∀ q, q < H.size → H1[q]? = H[q]?) (he : va_at (wD w) vwCl (H.size, e) H1) : va_P (wD w) vwCl (wsx (wB w) (l ++ [e])) H1 := by
  rw [← wsx_push]
  refine (hP.kept fun k x hx => o1 x.1 ((hP k x hx).lt)).app fun k x hx => ?_
  have hz0 : k < 1 := (List.getElem?_eq_some_iff.mp hx).1
  rw [show k = 0 by omega] at hx
  cases hx
  rw [show wB w + (l.length + 1) = H.size by omega]
  exact he
theorem k_newa (G : Good w X cc nL own rt dp) (hX : xk X = Cm ∧ xs X = Sm) {atype : ArrayType} (hw : Cond.arrayClass (newarray.typeOf atype) ∈ Tg) (ti : Nat) {cA : ClassId} (hty : (tysl w)[ti]? = some (cA, newarray.typeOf atype)) {n : Int32} (N k : Nat) (a0 : vp_A) (ha : vp_cell cA a0 = arrV cA N (fun _ => defaultValue (newarray.typeOf atype)))
    (hn : ¬ n < 0) (hN : n.toNatClampNeg = N) (hbytes : N * componentBytes (newarray.typeOf atype) ≤ 536870912) (hc : ck + 1 ≤ Cm) (hs : sk + N ≤ Sm) (hg : pre.length + 1 = g) (hk : cs.length = k) (hdg : decode cc pc = .ok (.newarray atype, 2))
    (kk : AtC w X Q nL (pc + 2) env (.ref (wB w + (g + k)) :: st) (pre ++ (cs ++ [.inl (cA, a0)])) (ck + 1) (sk + N)) : AtC w X Q nL pc env (.int n :: st) (pre ++ cs) ck sk := by
  intro H locs ls hP hz hS hl
  have h3 := G.2.2.2.2.2.2.2.2.2.2.1
  have h4 := G.2.2.2.2.2.2.2.2.2.2.2.1
  refine va_newaK G.1 G.2.1 (G.2.2.2.2.1 _ hw) rfl hdg rfl hn hN hbytes (by omega) (by omega) rfl fun H1 cA' e1 z1 o1 hAr hNm => ?_
  have hRA := (G.2.2.2.2.2.2.2.1.2 ti _ hty).2
  have hcc : cA' = cA := by
    have h5 : (xS X).vm.findClass ("[" ++ (newarray.typeOf atype).toString) = some cA := by cases atype <;> exact hRA
    exact Option.some.inj (hNm.symm.trans h5)
  subst hcc
  rw [show H.size = wB w + (g + k) by rw [hz, List.length_append]; omega]
  refine kk H1 locs ls ?_ (by rw [z1, hz]; simp; omega) ⟨Nat.le_trans hS.1 (by omega), fun x h1 h2 => (o1 x (Nat.lt_of_lt_of_le h1 hS.1)).trans (hS.2.1 x h1 h2), hS.2.2⟩ hl
  rw [← List.append_assoc]
  refine AtC.grow hP hz o1 ?_
  show H1[H.size]? = some (vp_cell _ _)
  rw [ha]
  exact e1
theorem k_new (G : Good w X cc nL own rt dp) (hX : xk X = Cm ∧ xs X = Sm) {C : String} {T : u_T} {N ci idx : Nat} (hin : ∀ q ∈ u_ws C T N, q ∈ Tg) (ty : Nat → FieldType) (hty : ∀ k, k < N → parseFieldDescriptor (T k).2.2.1 = some (ty k)) (hcl : Cond.classLink own idx C ∈ Tg) (hinst : Cond.instantiable C N ∈ Tg) (hini : Cond.initialized C ∈ Tg) (hvc : vwCl[ci]? = some (C, T, N)) {fs : List Value} (hfs : ∀ j, j < N → defaultValue (ty j) = vp_V fs j) (k : Nat)
    (hc : ck + 1 ≤ Cm) (hs : sk + N ≤ Sm) (hg : pre.length + 1 = g) (hk : cs.length = k) (hdg : decode cc pc = .ok (.new idx, 3))
    (kk : AtC w X Q nL (pc + 3) env (.ref (wB w + (g + k)) :: st) (pre ++ (cs ++ [.inr (ci, fs)])) (ck + 1) (sk + N)) : AtC w X Q nL pc env st (pre ++ cs) ck sk := by
  intro H locs ls hP hz hS hl
  have h3 := G.2.2.2.2.2.2.2.2.2.2.1
  have h4 := G.2.2.2.2.2.2.2.2.2.2.2.1
  have hts := G.2.2.2.2.1
  have hK := G.2.2.2.2.2.2.2.1
  have hKn := hK.1 ci _ hvc
  refine W.newcK G.1 G.2.1 G.2.2.2.1 (hts _ hcl) (hts _ hinst) (hts _ hini) rfl hdg (by omega) (by omega) hKn.2.1 rfl fun H1 kC hkC e1 z1 o1 => ?_
  rw [show H.size = wB w + (g + k) by rw [hz, List.length_append]; omega]
  refine kk H1 locs ls ?_ (by rw [z1, hz]; simp; omega) ⟨Nat.le_trans hS.1 (by omega), fun x h1 h2 => (o1 x (Nat.lt_of_lt_of_le h1 hS.1)).trans (hS.2.1 x h1 h2), hS.2.2⟩ hl
  rw [← List.append_assoc]
  exact AtC.grow hP hz o1 ⟨_, hvc, (u_born (ws := Tg) ty hts hin hKn hkC e1 hty).to hfs⟩
theorem set_pre {e : va_E} : (pre ++ cs).set pre.length e = pre ++ cs.set 0 e := by
  rw [List.set_append_right _ _ (Nat.le_refl _), Nat.sub_self]
theorem get_pre {e : va_E} (h : cs[0]? = some e) : (pre ++ cs)[pre.length]? = some e := by
  rw [List.getElem?_append_right (Nat.le_refl _), Nat.sub_self]; exact h
/-- a field of the block's own object is written: what is there behind it, and the heap's size stays -/
theorem k_putAll (G : Good w X cc nL own rt dp) {c f idx : Nat} {v : Value} {fs : List Value} {C : String} {T : u_T} {N : Nat} {ty0 : Nat → FieldType} {ty : FieldType} (h1 : vwCl[c]? = some (C, T, N)) (h2 : f < N) (h4 : ∀ q ∈ u_ws C T N, q ∈ Tg) (h5 : Cond.fieldLink own idx C (T f).2.1 (T f).2.2.1 ∈ Tg) (h6 : (T f).1 = C)
    (h7 : ∀ k, k < N → parseFieldDescriptor (T k).2.2.1 = some (ty0 k)) (h8 : ∀ a, a < N → ∀ b, b < N → a ≠ b → (T a).2.1 ≠ (T b).2.1) (h9 : (T f).2.2.2 = false ∨ ((T f).2.2.2 = true ∧ (xT X).name = "<init>" ∧ C = own)) (h10 : parseFieldDescriptor (T f).2.2.1 = some ty)
    (hn : narrow ty v = v) (hfit : fits ty v = true) (hg : pre.length + 1 = g) (he : cs[0]? = some (.inr (c, fs))) (hfl : f < fs.length) (hdg : decode cc pc = .ok (.putfield idx, 3))
    (kk : AtC w X Q nL (pc + 3) env st (pre ++ cs.set 0 (.inr (c, fs.set f v))) ck sk) : AtC w X Q nL pc env (v :: .ref (wB w + g) :: st) (pre ++ cs) ck sk := by
  intro H locs ls hP hz hS hl'
  subst hg
  have hts := G.2.2.2.2.1
  have hK := G.2.2.2.2.2.2.2.1
  have hown := G.2.2.2.1
  have hap := va_apart (own := own) hts h4 ty0 h7 h8 hK h1
  have hat := wsx_get (b0 := wB w) (get_pre (pre := pre) he)
  obtain ⟨r, g1, cell, q1, q2, q3, q4⟩ := hP pre.length _ hat
  have hr : r = (C, T, N) := Option.some.inj (g1.symm.trans h1)
  subst hr
  obtain ⟨hSl, hfc, kC, hkC, hkind⟩ := hK.1 c _ h1
  obtain ⟨cf, kf, fi, fd, hi, hsl⟩ := hSl f h2
  have hlay := hts _ (h4 _ (u_in_lay h2))
  have hst := (u_facts hfc hkC (u_lays hts h4 h2) hi).1
  have fin : ∀ (H' : Heap) (locs' : List Loc), H'[wB w + (pre.length + 1)]? = some (cell.setSlot (wD w |>.2 c f) v) → H'.size = H.size → (∀ q : Nat, q ≠ wB w + (pre.length + 1) → H'[q]? = H[q]?) → va_S (Aw w) (xS X).heap H' locs' → W (xP X) (wL w) (xE X) (xR X) (xS X) (xM X) (xA X) (xL X) (xT X) (xC X) H' locs' ck sk Q (F0 (xM X) (pc + 3) ls st) := by
    intro H' locs' e1 e2 e3 hS'
    have hat1 : va_at (wD w) vwCl (wB w + (pre.length + 1), .inr (c, fs.set f v)) H' := ⟨_, h1, t_OB.to (V := updV (vp_V fs) f v) ⟨_, e1, q2, q3, t_set q4 hap h2 v⟩ (fun j _ => vp_updV_set hfl v j)⟩
    have hP1 := hP.set (wsx_D w _) hat hat1 e3
    rw [wsx_set, set_pre] at hP1
    exact kk H' locs' ls hP1 (by rw [e2, hz]; simp) hS' hl'
  rcases h9 with h9 | ⟨h9, hin2, hdecl⟩
  · unfold u_lay at hlay
    rw [if_neg (by rw [h9]; decide)] at hlay
    have hs6 := u_store hfc hkC hkind hlay hi h10 hn hfit
    refine W.putK G.1 G.2.1 (f := fd) (ref := C) ⟨hown, hts _ h5, ⟨_, _, _, h6 ▸ hi⟩, hst⟩ (by rw [q2]; exact hs6) q1 q3 (by rw [hsl]; exact k2_hasslot (q4 f h2)) rfl rfl hdg fun H' e1 e2 e3 => ?_
    rw [hsl] at e1
    exact fin H' _ e1 e2 e3 (hS.put e2 e3 ((wsx_D w _).2 pre.length _ hat))
  · unfold u_lay at hlay
    rw [if_pos h9] at hlay
    have hcf : (xM X).cls = cf := by
      obtain ⟨_, _, c', _, _, _, -, -, hf', -, -, -, hown2, -⟩ := Cond.laysFinal_spec hlay
      have e1 : c' = cf := by have := hi.symm.trans hf'; simp at this; exact this.1.symm
      rw [h6, hdecl] at hown2
      rw [← e1]; exact Option.some.inj (hown.symm.trans hown2)
    have hs6 := u_fits hfc hkC hkind (Or.inr hlay) hi h10 hn hfit
    refine W.putFinK G.1 G.2.1 (ref := C) hown (hts _ h5) (h6 ▸ hi) hst hcf hin2 (by rw [q2]; exact hs6) q1 q3 (by rw [hsl]; exact k2_hasslot (q4 f h2)) rfl rfl hdg fun H' e1 e2 e3 => ?_
    rw [hsl] at e1
    exact fin H' _ e1 e2 e3 (hS.put e2 e3 ((wsx_D w _).2 pre.length _ hat))
theorem k_put (G : Good w X cc nL own rt dp) {c f idx : Nat} {ty : FieldType} {v : Value} {fs : List Value} (hF : FP own idx c f ty) (hn : narrow ty v = v) (hfit : fits ty v = true) (hg : pre.length + 1 = g) (he : cs[0]? = some (.inr (c, fs))) (hfl : f < fs.length) (hdg : decode cc pc = .ok (.putfield idx, 3))
    (kk : AtC w X Q nL (pc + 3) env st (pre ++ cs.set 0 (.inr (c, fs.set f v))) ck sk) : AtC w X Q nL pc env (v :: .ref (wB w + g) :: st) (pre ++ cs) ck sk := by
  obtain ⟨C, T, N, ty0, h1, h2, h3, h4, h5, h6, h7, h8, h9, h10⟩ := hF
  exact k_putAll G h1 h2 h4 h5 h6 h7 h8 (Or.inl h9) h10 hn hfit hg he hfl hdg kk
/-- what the tables say of a final field that its own constructor writes -/
def FQ (own : String) (idx c f : Nat) (ty : FieldType) : Prop := ∃ (T : u_T) (N : Nat) (ty0 : Nat → FieldType), vwCl[c]? = some (own, T, N) ∧ f < N ∧ (∀ q ∈ u_ws own T N, q ∈ Tg) ∧ Cond.fieldLink own idx own (T f).2.1 (T f).2.2.1 ∈ Tg ∧ (T f).1 = own ∧
  (∀ k, k < N → parseFieldDescriptor (T k).2.2.1 = some (ty0 k)) ∧ (∀ a, a < N → ∀ b, b < N → a ≠ b → (T a).2.1 ≠ (T b).2.1) ∧ (T f).2.2.2 = true ∧ parseFieldDescriptor (T f).2.2.1 = some ty
theorem k_putF (G : Good w X cc nL own rt dp) (hnm : (xT X).name = "<init>") {c f idx : Nat} {ty : FieldType} {v : Value} {fs : List Value} (hF : FQ own idx c f ty) (hn : narrow ty v = v) (hfit : fits ty v = true) (hg : pre.length + 1 = g) (he : cs[0]? = some (.inr (c, fs))) (hfl : f < fs.length) (hdg : decode cc pc = .ok (.putfield idx, 3))
    (kk : AtC w X Q nL (pc + 3) env st (pre ++ cs.set 0 (.inr (c, fs.set f v))) ck sk) : AtC w X Q nL pc env (v :: .ref (wB w + g) :: st) (pre ++ cs) ck sk := by
  obtain ⟨T, N, ty0, h1, h2, h4, h5, h6, h7, h8, h9, h10⟩ := hF
  exact k_putAll G h1 h2 h4 h5 h6 h7 h8 (Or.inr ⟨h9, hnm, rfl⟩) h10 hn hfit hg he hfl hdg kk
theorem k_callI (G : Good w X cc nL own rt dp) (hX : xk X = Cm ∧ xs X = Sm) {y : MethodName} {bytes : ByteArray} {maxL d idx k mc ms : Nat} {dfl : va_E} {blk : Nat → List va_E} (hcon : ConC w d mc ms y bytes maxL dfl blk) (hy1 : y.name = "<init>") (hin : Cond.instanceMethod y ∈ Tg) (hini : Cond.initialized y.cls ∈ Tg) (hcode : Cond.code y bytes maxL none ∈ Tg) (h5 : y.cls ≠ "java/lang/invoke/MethodHandle" ∧ y.cls ≠ "java/lang/invoke/VarHandle" ∧ (parseMethodDescriptor y.desc).map (fun d => d.parameters.length) = some 0)
    (hlink : Cond.methodLink own idx y ∈ Tg ∨ ∃ host, va_Nw (.methodLinkNest own idx y host) (xS X)) (hd : d + 1 ≤ dp) (hm : maxL ≤ 45) (hr : (st.map fun v => v.category).sum ≤ 8) (hc : ck + mc ≤ Cm) (hs : sk + ms ≤ Sm) (hg : pre.length + 1 = g) (hk : cs.length = k) (hdg : decode cc pc = .ok (.invokespecial idx, 3))
    (kk : AtC w X Q nL (pc + 3) env st (pre ++ (cs ++ blk (g + k))) (ck + mc) (sk + ms)) : AtC w X Q nL pc env (.ref (wB w + (g + k)) :: st) (pre ++ (cs ++ [dfl])) ck sk := by
  intro H locs ls hP hz hS hl
  have h3 := G.2.2.2.2.2.2.2.2.2.2.1
  have h4 := G.2.2.2.2.2.2.2.2.2.2.2.1
  have hts := G.2.2.2.2.1
  have hK := G.2.2.2.2.2.2.2.1
  have hr1 := G.2.2.2.2.2.2.2.2.1
  have hr2 := G.2.2.2.2.2.2.2.2.2.1
  have hgk : (pre ++ cs).length + 1 = g + k := by rw [List.length_append]; omega
  have hM := hcon (pre ++ cs)
  rw [hgk, List.append_assoc, List.append_assoc] at hM
  have hp : PreS (xS X) H (PdC w [.ref (wB w + (g + k))] (pre ++ (cs ++ [dfl]))) [.ref (wB w + (g + k))] := ⟨PdC_blind _ _ _, fun U hU hW => ⟨rfl, by rw [hU]; exact hP, by rw [hU]; exact hz, va_K.moved hW.alike hK, NW.warm hW (Good.nw G)⟩⟩
  have hall : ∀ q ∈ (Cond.code y bytes maxL none :: Tg), q ∈ Tg := by
    intro q hq
    rcases List.mem_cons.mp hq with rfl | hq <;> assumption
  have hlen : ∀ sig, parseMethodDescriptor y.desc = some sig → 0 = sig.parameters.length := fun sig hsig => by
    have h2 := h5.2.2
    rw [hsig] at h2
    exact (Option.some.inj h2).symm
  rcases hlink with hl1 | ⟨host, hl1⟩
  · exact callC (va_runI (As := []) (rest := st) (n := 0) ⟨G.1, G.2.1, G.2.2.1, G.2.2.2.1, hts⟩ hM
      (cwI 0 hts (Tg_GoodIn hall) rfl rfl rfl (hts _ hini) (hts _ hl1) (hts _ hin) hy1 h5 ⟨Nat.le_trans hd hr1, by show 8 + (maxL + 11) + 64 * d ≤ _; omega⟩) hp
      rfl rfl hl.1 rfl (by show 2 * 0 + _ ≤ _; omega) hdg ⟨by omega, by omega⟩) hS
      (fun H1 locs1 hP1 hz1 hS1 => kk H1 locs1 ls hP1 hz1 hS1 hl)
  · exact callC (va_runIN (As := []) (rest := st) (n := 0) (host := host) ⟨G.1, G.2.1, G.2.2.1, G.2.2.2.1, hts⟩ hM
      ⟨⟨⟨rfl, rfl, Nat.le_trans hd hr1, by show 8 + (maxL + 11) + 64 * d ≤ _; omega, pay_in hts (Tg_GoodIn hall), List.mem_cons_self⟩, hts _ hcode, hts _ hini, ⟨h5.1, h5.2.1⟩, hlen, va_Nw.use rfl hl1⟩, hy1, hts _ hin⟩ hp
      rfl rfl hl.1 rfl (by show 2 * 0 + _ ≤ _; omega) hdg ⟨by omega, by omega⟩) hS
      (fun H1 locs1 hP1 hz1 hS1 => kk H1 locs1 ls hP1 hz1 hS1 hl)
theorem k_ret (G : Good w X cc nL own none dp) {l' : List va_E} (hQ : Q = MQ (xL X) (QdC w l') (xA X) (xS X) ck sk (Aw w)) (hl' : l = l') (hdg : decode cc pc = .ok (.return_, 1)) : AtC w X Q nL pc env [] l ck sk := by
  intro H locs ls hP hz hS hl
  subst hl'; subst hQ
  exact W.vret G.1 G.2.1 G.2.2.2.2.2.2.1 (fun t ht hW => ⟨⟨rfl, by rw [ht]; exact hP, by rw [ht]; exact hz⟩, hS.F ht⟩) hS.2.2 hdg G.2.2.2.2.2.1
theorem k_norm (cs' : List va_E) (h : cs = cs') (kk : AtC w X Q nL pc env st (pre ++ cs') ck sk) : AtC w X Q nL pc env st (pre ++ cs) ck sk := h ▸ kk
end KRULES
def aI (w : Wp) (n : Nat) : va_E := .inl (w.2.2.1.1, n, .inl fun _ => 0)
def aJ (w : Wp) (n : Nat) : va_E := .inl (w.2.2.1.2.1, n, .inr (.inl fun _ => 0))
def aZ (w : Wp) (n : Nat) : va_E := .inl (w.2.2.1.2.2.1, n, .inl fun _ => 0)
def aB (w : Wp) (n : Nat) : va_E := .inl (w.2.2.1.2.2.2, n, .inl fun _ => 0)
