set_option maxHeartbeats 4000000 in
set_option maxRecDepth 100000 in
theorem cl_X12_longest_17 {w : Wp} {X : Cx} {Q : State → Prop} {ρ : Int32 × Mm} (G : Good w X cX12_longest 5 RX12 (some .int) 1) (hQ : Q = MQ (xL X) (Qd w (encI ρ)) (xA X) (xS X) (xk X) (xs X) (Aw w)) {a0 : Nat} {N : Nat} (h_a0 : lay a0 = (5, 12)) : ∀ (n : Nat) (l1_1 : Int32) (l2_1 : Int32) (M1 : Mm), Cov w X Q ρ some 5 17 [(0, .ref (wB w + pz (a0))), (1, .int l1_1), (2, .int l2_1)] [] M1 (L_X12_longest_17 a0 N n l1_1 l2_1 M1) := by
  intro n
  induction n with
  | zero => intro l1_1 l2_1 M1; exact c_none
  | succ n ih =>
    intro l1_1 l2_1 M1
    rw [L_X12_longest_17]
    refine c_iload_n G dX12_longest_17 rfl 2 rfl ?_
    refine c_aload_n G dX12_longest_18 rfl 0 rfl ?_
    refine c_getI G fl_X12_535 h_a0 rfl dX12_longest_19 ?_
    refine c_icmp_ge (tgt := 145) G dX12_longest_22 (by decide) (fun _ => ?_) (fun _ => ?_)
    · skip
      refine c_aload_n G dX12_longest_145 rfl 0 rfl ?_
      refine c_iload_n G dX12_longest_146 rfl 1 rfl ?_
      refine c_callV_I (d := 0) (rest := []) G [.int l1_1] yv_X12_gives ml_X12_328 (by omega) (by decide) rfl rfl (Nat.le_of_ble_eq_true rfl) h_a0 (fun q hq => con_X12_gives h_a0 hq) dX12_longest_147 (fun q3 _ => ?_)
      exact c_iret G hQ dX12_longest_150
    · skip
      refine c_aload_n G dX12_longest_25 rfl 0 rfl ?_
      refine c_getF G fl_X12_111 h_a0 rfl dX12_longest_26 ?_
      refine c_iload_n G dX12_longest_29 rfl 2 rfl ?_
      refine c_iald G (lf h_a0 61 rfl) dX12_longest_30 (fun v1 _ => ?_)
      refine c_istore_n G [(3, .int v1), (0, .ref (wB w + pz (a0))), (1, .int l1_1), (2, .int l2_1)] dX12_longest_31 rfl (by decide) rfl ?_
      refine c_aload_n G dX12_longest_32 rfl 1 rfl ?_
      refine c_getF G fl_X12_148 h_a0 rfl dX12_longest_33 ?_
      refine c_iload_n G dX12_longest_36 rfl 0 rfl ?_
      refine c_iconst G (nI 0) dX12_longest_37 kI_0 ?_
      refine c_iast G (lf h_a0 74 rfl) dX12_longest_38 (fun M2 _ => ?_)
      refine c_aload_n G dX12_longest_39 rfl 1 rfl ?_
      refine c_getF G fl_X12_105 h_a0 rfl dX12_longest_40 ?_
      refine c_iload_n G dX12_longest_43 rfl 0 rfl ?_
      refine c_iald G (lf h_a0 59 rfl) dX12_longest_44 (fun v2 _ => ?_)
      refine c_iconst G m1 dX12_longest_45 kI_m1 ?_
      refine c_icmp_eq (tgt := 52) G dX12_longest_46 (by decide) (fun _ => ?_) (fun _ => ?_)
      · skip
        refine c_aload_n G dX12_longest_52 rfl 1 rfl ?_
        refine c_getF G fl_X12_148 h_a0 rfl dX12_longest_53 ?_
        refine c_iload_n G dX12_longest_56 rfl 0 rfl ?_
        refine c_iconst G (nI 1) dX12_longest_57 kI_1 ?_
        refine c_iast G (lf h_a0 74 rfl) dX12_longest_58 (fun M3 _ => ?_)
        refine c_iconst G (nI 0) dX12_longest_59 kI_0 ?_
        refine c_istore G [(4, .int (nI 0)), (3, .int v1), (0, .ref (wB w + pz (a0))), (1, .int l1_1), (2, .int l2_1)] dX12_longest_60 (by decide) rfl ?_
        refine c_weak _ [2, 3, 4, 1, 0] rfl (cl_X12_longest_62 G hQ _ h_a0 ?_ N (nI 0) M3)
        · intro M6
          refine c_iload_n G dX12_longest_128 rfl 1 rfl ?_
          refine c_aload_n G dX12_longest_129 rfl 0 rfl ?_
          refine c_getF G fl_X12_148 h_a0 rfl dX12_longest_130 ?_
          refine c_iload_n G dX12_longest_133 rfl 3 rfl ?_
          refine c_iald G (lf h_a0 74 rfl) dX12_longest_134 (fun v6 _ => ?_)
          refine c_mmax G ml_X12_514 ys_J9_max_7cf53 (by omega) (Nat.le_of_ble_eq_true rfl) dX12_longest_135 ?_
          refine c_let (fun l1_2 _ => ?_)
          refine c_istore_n G [(1, .int l1_2), (0, .ref (wB w + pz (a0))), (2, .int l2_1), (3, .int v1)] dX12_longest_138 rfl (by decide) rfl ?_
          refine c_iinc G (fun y__ => [(2, .int y__), (1, .int l1_2), (0, .ref (wB w + pz (a0))), (3, .int v1)]) dX12_longest_139 2 rfl kI_1 (by decide) (fun _ => rfl) (fun l2_2 _ => ?_)
          refine c_goto (tgt := 17) G dX12_longest_142 (by decide) ?_
          exact c_weak _ [2, 1, 0] rfl (ih l1_2 l2_2 M6)
      · skip
        refine c_goto (tgt := 139) G dX12_longest_49 (by decide) ?_
        refine c_iinc G (fun y__ => [(2, .int y__), (3, .int v1), (0, .ref (wB w + pz (a0))), (1, .int l1_1)]) dX12_longest_139 3 rfl kI_1 (by decide) (fun _ => rfl) (fun l2_3 _ => ?_)
        refine c_goto (tgt := 17) G dX12_longest_142 (by decide) ?_
        exact c_weak _ [2, 3, 0] rfl (ih l1_1 l2_3 M2)
set_option maxHeartbeats 4000000 in
set_option maxRecDepth 100000 in
theorem con_X12_longest {w : Wp} {N : Nat} {a0 : Nat} {M : Mm} {q : Int32 × Mm} (h_a0 : lay a0 = (5, 12)) (hq : D_X12_longest N a0 M = some q) : Con w 1 yX12_longest cX12_longest 5 (some .int) [.ref (wB w + pz (a0))] M (encI q) := by
  refine Con.of encI q _ hq (by decide) (Nat.le_of_ble_eq_true rfl) ?_
  intro X G Q hQ
  have G : Good w X cX12_longest 5 RX12 (some .int) 1 := G
  refine c_weak [(0, .ref (wB w + pz (a0)))] [0] rfl ?_
  rw [D_X12_longest]
  refine c_aload_n G dX12_longest_0 rfl 0 rfl ?_
  refine c_callV_PI (d := 0) (rest := []) G [] yv_X12_hasTree ml_X12_544 (by omega) (by decide) rfl rfl (Nat.le_of_ble_eq_true rfl) h_a0 (fun q hq => con_X12_hasTree h_a0 hq) dX12_longest_1 (fun q1 _ => ?_)
  refine c_if_ne (tgt := 13) G dX12_longest_4 (by decide) (fun _ => ?_) (fun _ => ?_)
  · skip
    refine c_aload_n G dX12_longest_7 rfl 0 rfl ?_
    refine c_iconst G (nI 3) dX12_longest_8 kI_3 ?_
    refine c_callV_I (d := 0) (rest := []) G [.int (nI 3)] yv_X12_refuse ml_X12_305 (by omega) (by decide) rfl rfl (Nat.le_of_ble_eq_true rfl) h_a0 (fun q hq => con_X12_refuse h_a0 hq) dX12_longest_9 (fun q2 _ => ?_)
    exact c_iret G hQ dX12_longest_12
  · skip
    refine c_iconst G (nI 0) dX12_longest_13 kI_0 ?_
    refine c_istore_n G [(1, .int (nI 0)), (0, .ref (wB w + pz (a0)))] dX12_longest_14 rfl (by decide) rfl ?_
    refine c_iconst G (nI 0) dX12_longest_15 kI_0 ?_
    refine c_istore_n G [(2, .int (nI 0)), (1, .int (nI 0)), (0, .ref (wB w + pz (a0)))] dX12_longest_16 rfl (by decide) rfl ?_
    refine c_weak _ [2, 1, 0] rfl (cl_X12_longest_17 G hQ  h_a0 N (nI 0) (nI 0) M)
set_option maxHeartbeats 4000000 in
set_option maxRecDepth 100000 in
theorem cl_X12_beginsChange_2 {w : Wp} {X : Cx} {Q : State → Prop} {ρ : Mm} (G : Good w X cX12_beginsChange 2 RX12 none 0) (hQ : Q = MQ (xL X) (Qd w (encV ρ)) (xA X) (xS X) (xk X) (xs X) (Aw w)) {a0 : Nat} (h_a0 : lay a0 = (5, 12)) : ∀ (n : Nat) (l1_1 : Int32) (M1 : Mm), Cov w X Q ρ some 2 2 [(0, .ref (wB w + pz (a0))), (1, .int l1_1)] [] M1 (L_X12_beginsChange_2 a0 n l1_1 M1) := by
  intro n
  induction n with
  | zero => intro l1_1 M1; exact c_none
  | succ n ih =>
    intro l1_1 M1
    rw [L_X12_beginsChange_2]
    refine c_iload_n G dX12_beginsChange_2 rfl 1 rfl ?_
    refine c_sipush G (nI 320) dX12_beginsChange_3 kS_320 ?_
    refine c_icmp_ge (tgt := 60) G dX12_beginsChange_6 (by decide) (fun _ => ?_) (fun _ => ?_)
    · skip
      exact c_vret G hQ dX12_beginsChange_60
    · skip
      refine c_aload_n G dX12_beginsChange_9 rfl 0 rfl ?_
      refine c_getF G fl_X12_136 h_a0 rfl dX12_beginsChange_10 ?_
      refine c_iload_n G dX12_beginsChange_13 rfl 1 rfl ?_
      refine c_iconst G (nI 0) dX12_beginsChange_14 kI_0 ?_
      refine c_zast G (lf h_a0 69 rfl) dX12_beginsChange_15 (fun M2 _ => ?_)
      refine c_aload_n G dX12_beginsChange_16 rfl 0 rfl ?_
      refine c_getF G fl_X12_139 h_a0 rfl dX12_beginsChange_17 ?_
      refine c_iload_n G dX12_beginsChange_20 rfl 1 rfl ?_
      refine c_iconst G (nI 0) dX12_beginsChange_21 kI_0 ?_
      refine c_zast G (lf h_a0 70 rfl) dX12_beginsChange_22 (fun M3 _ => ?_)
      refine c_aload_n G dX12_beginsChange_23 rfl 0 rfl ?_
      refine c_getF G fl_X12_142 h_a0 rfl dX12_beginsChange_24 ?_
      refine c_iload_n G dX12_beginsChange_27 rfl 1 rfl ?_
      refine c_iconst G (nI 0) dX12_beginsChange_28 kI_0 ?_
      refine c_zast G (lf h_a0 71 rfl) dX12_beginsChange_29 (fun M4 _ => ?_)
      refine c_aload_n G dX12_beginsChange_30 rfl 0 rfl ?_
      refine c_getF G fl_X12_114 h_a0 rfl dX12_beginsChange_31 ?_
      refine c_iload_n G dX12_beginsChange_34 rfl 1 rfl ?_
      refine c_aload_n G dX12_beginsChange_35 rfl 0 rfl ?_
      refine c_getF G fl_X12_102 h_a0 rfl dX12_beginsChange_36 ?_
      refine c_iload_n G dX12_beginsChange_39 rfl 1 rfl ?_
      refine c_iald G (lf h_a0 58 rfl) dX12_beginsChange_40 (fun v1 _ => ?_)
      refine c_iast G (lf h_a0 62 rfl) dX12_beginsChange_41 (fun M5 _ => ?_)
      refine c_aload_n G dX12_beginsChange_42 rfl 0 rfl ?_
      refine c_getF G fl_X12_117 h_a0 rfl dX12_beginsChange_43 ?_
      refine c_iload_n G dX12_beginsChange_46 rfl 1 rfl ?_
      refine c_aload_n G dX12_beginsChange_47 rfl 0 rfl ?_
      refine c_getF G fl_X12_105 h_a0 rfl dX12_beginsChange_48 ?_
      refine c_iload_n G dX12_beginsChange_51 rfl 1 rfl ?_
      refine c_iald G (lf h_a0 59 rfl) dX12_beginsChange_52 (fun v2 _ => ?_)
      refine c_iast G (lf h_a0 63 rfl) dX12_beginsChange_53 (fun M6 _ => ?_)
      refine c_iinc G (fun y__ => [(1, .int y__), (0, .ref (wB w + pz (a0)))]) dX12_beginsChange_54 1 rfl kI_1 (by decide) (fun _ => rfl) (fun l1_2 _ => ?_)
      refine c_goto (tgt := 2) G dX12_beginsChange_57 (by decide) ?_
      exact c_weak _ [1, 0] rfl (ih l1_2 M6)
set_option maxHeartbeats 4000000 in
set_option maxRecDepth 100000 in
theorem con_X12_beginsChange {w : Wp} {N : Nat} {a0 : Nat} {M : Mm} {q : Mm} (h_a0 : lay a0 = (5, 12)) (hq : D_X12_beginsChange N a0 M = some q) : Con w 0 yX12_beginsChange cX12_beginsChange 2 none [.ref (wB w + pz (a0))] M (encV q) := by
  refine Con.of encV q _ hq (by decide) (Nat.le_of_ble_eq_true rfl) ?_
  intro X G Q hQ
  have G : Good w X cX12_beginsChange 2 RX12 none 0 := G
  refine c_weak [(0, .ref (wB w + pz (a0)))] [0] rfl ?_
  rw [D_X12_beginsChange]
  refine c_iconst G (nI 0) dX12_beginsChange_0 kI_0 ?_
  refine c_istore_n G [(1, .int (nI 0)), (0, .ref (wB w + pz (a0)))] dX12_beginsChange_1 rfl (by decide) rfl ?_
  refine c_weak _ [1, 0] rfl (cl_X12_beginsChange_2 G hQ  h_a0 N (nI 0) M)
set_option maxHeartbeats 4000000 in
set_option maxRecDepth 100000 in
theorem cl_X12_hangsOnChanged_2 {w : Wp} {M : Mm} {X : Cx} {Q : State → Prop} {ρ : Int32} (G : Good w X cX12_hangsOnChanged 3 RX12 (some .boolean) 1) (hQ : Q = MQ (xL X) (Qd w ((encPI M) ρ)) (xA X) (xS X) (xk X) (xs X) (Aw w)) {a0 : Nat} {N : Nat} {a1 : Int32} (h_a0 : lay a0 = (5, 12)) : ∀ (n : Nat) (l2_1 : Int32), Cov w X Q ρ some 3 2 [(0, .ref (wB w + pz (a0))), (1, .int a1), (2, .int l2_1)] [] M (L_X12_hangsOnChanged_2 M a0 N a1 n l2_1) := by
  intro n
  induction n with
  | zero => intro l2_1; exact c_none
  | succ n ih =>
    intro l2_1
    rw [L_X12_hangsOnChanged_2]
    refine c_iload_n G dX12_hangsOnChanged_2 rfl 2 rfl ?_
    refine c_bipush G (nI 8) dX12_hangsOnChanged_3 kB_8 ?_
    refine c_aload_n G dX12_hangsOnChanged_5 rfl 0 rfl ?_
    refine c_getI G fl_X12_322 h_a0 rfl dX12_hangsOnChanged_6 ?_
    refine c_imul G dX12_hangsOnChanged_9 ?_
    refine c_icmp_ge (tgt := 42) G dX12_hangsOnChanged_10 (by decide) (fun _ => ?_) (fun _ => ?_)
    · skip
      refine c_iconst G (nI 0) dX12_hangsOnChanged_42 kI_0 ?_
      exact c_zretP G hQ dX12_hangsOnChanged_43
    · skip
      refine c_aload_n G dX12_hangsOnChanged_13 rfl 0 rfl ?_
      refine c_getF G fl_X12_120 h_a0 rfl dX12_hangsOnChanged_14 ?_
      refine c_iload_n G dX12_hangsOnChanged_17 rfl 1 rfl ?_
      refine c_iload_n G dX12_hangsOnChanged_18 rfl 2 rfl ?_
      refine c_callS_PI (d := 0) (rest := []) G [.ref (wB w + pz ((a0 + 35))), .int a1, .int l2_1] ys_X12_bit ml_X12_511 (by omega) (by decide) rfl rfl (Nat.le_of_ble_eq_true rfl) (fun q hq => con_X12_bit (ll (lf h_a0 64 rfl)) hq) dX12_hangsOnChanged_19 (fun q1 _ => ?_)
      refine c_if_eq (tgt := 36) G dX12_hangsOnChanged_22 (by decide) (fun _ => ?_) (fun _ => ?_)
      · skip
        refine c_iinc G (fun y__ => [(2, .int y__), (0, .ref (wB w + pz (a0))), (1, .int a1)]) dX12_hangsOnChanged_36 2 rfl kI_1 (by decide) (fun _ => rfl) (fun l2_2 _ => ?_)
        refine c_goto (tgt := 2) G dX12_hangsOnChanged_39 (by decide) ?_
        exact c_weak _ [1, 2, 0] rfl (ih l2_2)
      · skip
        refine c_aload_n G dX12_hangsOnChanged_25 rfl 0 rfl ?_
        refine c_getF G fl_X12_142 h_a0 rfl dX12_hangsOnChanged_26 ?_
        refine c_iload_n G dX12_hangsOnChanged_29 rfl 2 rfl ?_
        refine c_zald G (lf h_a0 71 rfl) dX12_hangsOnChanged_30 (fun v1 _ => ?_)
        refine c_if_eq (tgt := 36) G dX12_hangsOnChanged_31 (by decide) (fun _ => ?_) (fun _ => ?_)
        · skip
          refine c_iinc G (fun y__ => [(2, .int y__), (0, .ref (wB w + pz (a0))), (1, .int a1)]) dX12_hangsOnChanged_36 2 rfl kI_1 (by decide) (fun _ => rfl) (fun l2_3 _ => ?_)
          refine c_goto (tgt := 2) G dX12_hangsOnChanged_39 (by decide) ?_
          exact c_weak _ [1, 2, 0] rfl (ih l2_3)
        · skip
          refine c_iconst G (nI 1) dX12_hangsOnChanged_34 kI_1 ?_
          exact c_zretP G hQ dX12_hangsOnChanged_35
set_option maxHeartbeats 4000000 in
set_option maxRecDepth 100000 in
theorem con_X12_hangsOnChanged {w : Wp} {N : Nat} {a0 : Nat} {a1 : Int32} {M : Mm} {q : Int32} (h_a0 : lay a0 = (5, 12)) (hq : D_X12_hangsOnChanged N a0 a1 M = some q) : Con w 1 yX12_hangsOnChanged cX12_hangsOnChanged 3 (some .boolean) [.ref (wB w + pz (a0)), .int a1] M ((encPI M) q) := by
  refine Con.of (encPI M) q _ hq (by decide) (Nat.le_of_ble_eq_true rfl) ?_
  intro X G Q hQ
  have G : Good w X cX12_hangsOnChanged 3 RX12 (some .boolean) 1 := G
  refine c_weak [(0, .ref (wB w + pz (a0))), (1, .int a1)] [0, 1] rfl ?_
  rw [D_X12_hangsOnChanged]
  refine c_iconst G (nI 0) dX12_hangsOnChanged_0 kI_0 ?_
  refine c_istore_n G [(2, .int (nI 0)), (0, .ref (wB w + pz (a0))), (1, .int a1)] dX12_hangsOnChanged_1 rfl (by decide) rfl ?_
  refine c_weak _ [1, 2, 0] rfl (cl_X12_hangsOnChanged_2 G hQ  h_a0 N (nI 0))
set_option maxHeartbeats 4000000 in
set_option maxRecDepth 100000 in
theorem con_X12_isTouched {w : Wp} {N : Nat} {a0 : Nat} {a1 : Int32} {M : Mm} {q : Int32} (h_a0 : lay a0 = (5, 12)) (hq : D_X12_isTouched N a0 a1 M = some q) : Con w 2 yX12_isTouched cX12_isTouched 2 (some .boolean) [.ref (wB w + pz (a0)), .int a1] M ((encPI M) q) := by
  refine Con.of (encPI M) q _ hq (by decide) (Nat.le_of_ble_eq_true rfl) ?_
  intro X G Q hQ
  have G : Good w X cX12_isTouched 2 RX12 (some .boolean) 2 := G
  refine c_weak [(0, .ref (wB w + pz (a0))), (1, .int a1)] [0, 1] rfl ?_
  rw [D_X12_isTouched]
  refine c_aload_n G dX12_isTouched_0 rfl 0 rfl ?_
  refine c_getF G fl_X12_136 h_a0 rfl dX12_isTouched_1 ?_
  refine c_iload_n G dX12_isTouched_4 rfl 1 rfl ?_
  refine c_zald G (lf h_a0 69 rfl) dX12_isTouched_5 (fun v1 _ => ?_)
  refine c_jn (ej := fun (p26 : Unit) => []) (sj := fun p26 => []) (mj := fun p26 => M) (pj := 26) (fun p26 => ?_) (fun J1 hJ26 => ?_)
  · skip
    refine c_iconst G (nI 1) dX12_isTouched_26 kI_1 ?_
    refine c_goto (tgt := 31) G dX12_isTouched_27 (by decide) ?_
    exact c_zretP G hQ dX12_isTouched_31
  · skip
    refine c_if_ne (tgt := 26) G dX12_isTouched_6 (by decide) (fun _ => ?_) (fun _ => ?_)
    · skip
      refine c_aload_n G dX12_isTouched_9 rfl 0 rfl ?_
      refine c_getF G fl_X12_139 h_a0 rfl dX12_isTouched_10 ?_
      refine c_iload_n G dX12_isTouched_13 rfl 1 rfl ?_
      refine c_zald G (lf h_a0 70 rfl) dX12_isTouched_14 (fun v2 _ => ?_)
      refine c_if_ne (tgt := 26) G dX12_isTouched_15 (by decide) (fun _ => ?_) (fun _ => ?_)
      · skip
        refine c_aload_n G dX12_isTouched_18 rfl 0 rfl ?_
        refine c_iload_n G dX12_isTouched_19 rfl 1 rfl ?_
        refine c_callV_PI (d := 1) (rest := []) G [.int a1] yv_X12_hangsOnChanged ml_X12_547 (by omega) (by decide) rfl rfl (Nat.le_of_ble_eq_true rfl) h_a0 (fun q hq => con_X12_hangsOnChanged h_a0 hq) dX12_isTouched_20 (fun q1 _ => ?_)
        refine c_if_eq (tgt := 30) G dX12_isTouched_23 (by decide) (fun _ => ?_) (fun _ => ?_)
        · skip
          refine c_iconst G (nI 0) dX12_isTouched_30 kI_0 ?_
          exact c_zretP G hQ dX12_isTouched_31
        · skip
          exact c_weak _ [] rfl (hJ26 ())
      · skip
        exact c_weak _ [] rfl (hJ26 ())
    · skip
      exact c_weak _ [] rfl (hJ26 ())
set_option maxHeartbeats 4000000 in
set_option maxRecDepth 100000 in
theorem con_X12_isOf {w : Wp} {N : Nat} {a0 : Nat} {a1 : Int32} {a2 : Int32} {M : Mm} {q : Int32} (h_a0 : lay a0 = (5, 12)) (hq : D_X12_isOf N a0 a1 a2 M = some q) : Con w 0 yX12_isOf cX12_isOf 3 (some .boolean) [.ref (wB w + pz (a0)), .int a1, .int a2] M ((encPI M) q) := by
  refine Con.of (encPI M) q _ hq (by decide) (Nat.le_of_ble_eq_true rfl) ?_
  intro X G Q hQ
  have G : Good w X cX12_isOf 3 RX12 (some .boolean) 0 := G
  refine c_weak [(0, .ref (wB w + pz (a0))), (1, .int a1), (2, .int a2)] [0, 1, 2] rfl ?_
  rw [D_X12_isOf]
  refine c_aload_n G dX12_isOf_0 rfl 0 rfl ?_
  refine c_getF G fl_X12_126 h_a0 rfl dX12_isOf_1 ?_
  refine c_iload_n G dX12_isOf_4 rfl 1 rfl ?_
  refine c_zald G (lf h_a0 66 rfl) dX12_isOf_5 (fun v1 _ => ?_)
  refine c_jn (ej := fun (p43 : Unit) => []) (sj := fun p43 => []) (mj := fun p43 => M) (pj := 43) (fun p43 => ?_) (fun J1 hJ43 => ?_)
  · skip
    refine c_iconst G (nI 0) dX12_isOf_43 kI_0 ?_
    exact c_zretP G hQ dX12_isOf_44
  · skip
    refine c_if_eq (tgt := 43) G dX12_isOf_6 (by decide) (fun _ => ?_) (fun _ => ?_)
    · skip
      exact c_weak _ [] rfl (hJ43 ())
    · skip
      refine c_iload_n G dX12_isOf_9 rfl 1 rfl ?_
      refine c_iload_n G dX12_isOf_10 rfl 2 rfl ?_
      refine c_jn (ej := fun (p39 : Unit) => []) (sj := fun p39 => []) (mj := fun p39 => M) (pj := 39) (fun p39 => ?_) (fun J2 hJ39 => ?_)
      · skip
        refine c_iconst G (nI 1) dX12_isOf_39 kI_1 ?_
        refine c_goto (tgt := 44) G dX12_isOf_40 (by decide) ?_
        exact c_zretP G hQ dX12_isOf_44
      · skip
        refine c_icmp_eq (tgt := 39) G dX12_isOf_11 (by decide) (fun _ => ?_) (fun _ => ?_)
        · skip
          exact c_weak _ [] rfl (hJ39 ())
        · skip
          refine c_aload_n G dX12_isOf_14 rfl 0 rfl ?_
          refine c_getF G fl_X12_105 h_a0 rfl dX12_isOf_15 ?_
          refine c_iload_n G dX12_isOf_18 rfl 2 rfl ?_
          refine c_iald G (lf h_a0 59 rfl) dX12_isOf_19 (fun v2 _ => ?_)
          refine c_iconst G m1 dX12_isOf_20 kI_m1 ?_
          refine c_icmp_eq (tgt := 43) G dX12_isOf_21 (by decide) (fun _ => ?_) (fun _ => ?_)
          · skip
            exact c_weak _ [] rfl (hJ43 ())
          · skip
            refine c_aload_n G dX12_isOf_24 rfl 0 rfl ?_
            refine c_getF G fl_X12_105 h_a0 rfl dX12_isOf_25 ?_
            refine c_iload_n G dX12_isOf_28 rfl 1 rfl ?_
            refine c_iald G (lf h_a0 59 rfl) dX12_isOf_29 (fun v3 _ => ?_)
            refine c_aload_n G dX12_isOf_30 rfl 0 rfl ?_
            refine c_getF G fl_X12_105 h_a0 rfl dX12_isOf_31 ?_
            refine c_iload_n G dX12_isOf_34 rfl 2 rfl ?_
            refine c_iald G (lf h_a0 59 rfl) dX12_isOf_35 (fun v4 _ => ?_)
            refine c_icmp_ne (tgt := 43) G dX12_isOf_36 (by decide) (fun _ => ?_) (fun _ => ?_)
            · skip
              exact c_weak _ [] rfl (hJ39 ())
            · skip
              exact c_weak _ [] rfl (hJ43 ())
set_option maxHeartbeats 4000000 in
set_option maxRecDepth 100000 in
theorem cl_X12_counts_41 {w : Wp} {X : Cx} {Q : State → Prop} {ρ : Mm} (G : Good w X cX12_counts 5 RX12 none 5) (hQ : Q = MQ (xL X) (Qd w (encV ρ)) (xA X) (xS X) (xk X) (xs X) (Aw w)) (kE88 : Int32 → Option (Mm)) {M5 : Mm} {a0 : Nat} {N : Nat} {v1 : Int32} {l1_1 : Int32} (h_a0 : lay a0 = (5, 12)) (hE88 : ∀ (z3 : Int32), Cov w X Q ρ some 5 88 [(0, .ref (wB w + pz (a0))), (1, .int l1_1), (2, .int v1), (3, .int z3)] [] M5 (kE88 z3)) : ∀ (n : Nat) (l3_1 : Int32) (l4_1 : Int32), Cov w X Q ρ some 5 41 [(0, .ref (wB w + pz (a0))), (1, .int l1_1), (2, .int v1), (3, .int l3_1), (4, .int l4_1)] [] M5 (L_X12_counts_41 kE88 M5 a0 N v1 n l3_1 l4_1) := by
  intro n
  induction n with
  | zero => intro l3_1 l4_1; exact c_none
  | succ n ih =>
    intro l3_1 l4_1
    rw [L_X12_counts_41]
    refine c_iload G dX12_counts_41 4 rfl ?_
    refine c_bipush G (nI 8) dX12_counts_43 kB_8 ?_
    refine c_aload_n G dX12_counts_45 rfl 0 rfl ?_
    refine c_getI G fl_X12_322 h_a0 rfl dX12_counts_46 ?_
    refine c_imul G dX12_counts_49 ?_
    refine c_icmp_ge (tgt := 88) G dX12_counts_50 (by decide) (fun _ => ?_) (fun _ => ?_)
    · skip
      exact c_weak _ [0, 1, 2, 3] rfl (hE88 l3_1)
    · skip
      refine c_iload_n G dX12_counts_53 rfl 3 rfl ?_
      refine c_jn (ej := fun (p76 : Unit) => [(0, .ref (wB w + pz (a0))), (1, .int l1_1), (2, .int v1), (4, .int l4_1)]) (sj := fun p76 => []) (mj := fun p76 => M5) (pj := 76) (fun p76 => ?_) (fun J1 hJ76 => ?_)
      · skip
        refine c_iconst G (nI 1) dX12_counts_76 kI_1 ?_
        refine c_goto (tgt := 81) G dX12_counts_77 (by decide) ?_
        refine c_istore_n G [(3, .int (nI 1)), (0, .ref (wB w + pz (a0))), (1, .int l1_1), (2, .int v1), (4, .int l4_1)] dX12_counts_81 rfl (by decide) rfl ?_
        refine c_iinc G (fun y__ => [(4, .int y__), (3, .int (nI 1)), (0, .ref (wB w + pz (a0))), (1, .int l1_1), (2, .int v1)]) dX12_counts_82 4 rfl kI_1 (by decide) (fun _ => rfl) (fun l4_2 _ => ?_)
        refine c_goto (tgt := 41) G dX12_counts_85 (by decide) ?_
        exact c_weak _ [2, 3, 4, 1, 0] rfl (ih (nI 1) l4_2)
      · skip
        refine c_if_ne (tgt := 76) G dX12_counts_54 (by decide) (fun _ => ?_) (fun _ => ?_)
        · skip
          refine c_aload_n G dX12_counts_57 rfl 0 rfl ?_
          refine c_iload G dX12_counts_58 4 rfl ?_
          refine c_iload_n G dX12_counts_60 rfl 2 rfl ?_
          refine c_callV_PI (d := 0) (rest := []) G [.int l4_1, .int v1] yv_X12_isOf ml_X12_556 (by omega) (by decide) rfl rfl (Nat.le_of_ble_eq_true rfl) h_a0 (fun q hq => con_X12_isOf h_a0 hq) dX12_counts_61 (fun q1 _ => ?_)
          refine c_jn (ej := fun (p80 : Unit) => [(0, .ref (wB w + pz (a0))), (1, .int l1_1), (2, .int v1), (4, .int l4_1)]) (sj := fun p80 => []) (mj := fun p80 => M5) (pj := 80) (fun p80 => ?_) (fun J2 hJ80 => ?_)
          · skip
            refine c_iconst G (nI 0) dX12_counts_80 kI_0 ?_
            refine c_istore_n G [(3, .int (nI 0)), (0, .ref (wB w + pz (a0))), (1, .int l1_1), (2, .int v1), (4, .int l4_1)] dX12_counts_81 rfl (by decide) rfl ?_
            refine c_iinc G (fun y__ => [(4, .int y__), (3, .int (nI 0)), (0, .ref (wB w + pz (a0))), (1, .int l1_1), (2, .int v1)]) dX12_counts_82 4 rfl kI_1 (by decide) (fun _ => rfl) (fun l4_3 _ => ?_)
            refine c_goto (tgt := 41) G dX12_counts_85 (by decide) ?_
            exact c_weak _ [2, 3, 4, 1, 0] rfl (ih (nI 0) l4_3)
          · skip
            refine c_if_eq (tgt := 80) G dX12_counts_64 (by decide) (fun _ => ?_) (fun _ => ?_)
            · skip
              exact c_weak _ [0, 1, 2, 4] rfl (hJ80 ())
            · skip
              refine c_aload_n G dX12_counts_67 rfl 0 rfl ?_
              refine c_iload G dX12_counts_68 4 rfl ?_
              refine c_callV_PI (d := 2) (rest := []) G [.int l4_1] yv_X12_isTouched ml_X12_559 (by omega) (by decide) rfl rfl (Nat.le_of_ble_eq_true rfl) h_a0 (fun q hq => con_X12_isTouched h_a0 hq) dX12_counts_70 (fun q2 _ => ?_)
              refine c_if_eq (tgt := 80) G dX12_counts_73 (by decide) (fun _ => ?_) (fun _ => ?_)
              · skip
                exact c_weak _ [0, 1, 2, 4] rfl (hJ80 ())
              · skip
                exact c_weak _ [0, 1, 2, 4] rfl (hJ76 ())
        · skip
          exact c_weak _ [0, 1, 2, 4] rfl (hJ76 ())
set_option maxHeartbeats 4000000 in
set_option maxRecDepth 100000 in
theorem cl_X12_counts_91 {w : Wp} {X : Cx} {Q : State → Prop} {ρ : Mm} (G : Good w X cX12_counts 5 RX12 none 5) (hQ : Q = MQ (xL X) (Qd w (encV ρ)) (xA X) (xS X) (xk X) (xs X) (Aw w)) (kE199 : Mm → Option (Mm)) {a0 : Nat} {l3_2 : Int32} {N : Nat} {v1 : Int32} {l1_1 : Int32} (h_a0 : lay a0 = (5, 12)) (hE199 : ∀ (Mz : Mm), Cov w X Q ρ some 5 199 [(0, .ref (wB w + pz (a0))), (1, .int l1_1)] [] Mz (kE199 Mz)) : ∀ (n : Nat) (l4_4 : Int32) (M6 : Mm), Cov w X Q ρ some 5 91 [(0, .ref (wB w + pz (a0))), (1, .int l1_1), (2, .int v1), (3, .int l3_2), (4, .int l4_4)] [] M6 (L_X12_counts_91 kE199 a0 l3_2 N v1 n l4_4 M6) := by
  intro n
  induction n with
  | zero => intro l4_4 M6; exact c_none
  | succ n ih =>
    intro l4_4 M6
    rw [L_X12_counts_91]
    refine c_iload G dX12_counts_91 4 rfl ?_
    refine c_bipush G (nI 8) dX12_counts_93 kB_8 ?_
    refine c_aload_n G dX12_counts_95 rfl 0 rfl ?_
    refine c_getI G fl_X12_322 h_a0 rfl dX12_counts_96 ?_
    refine c_imul G dX12_counts_99 ?_
    refine c_icmp_ge (tgt := 199) G dX12_counts_100 (by decide) (fun _ => ?_) (fun _ => ?_)
    · skip
      exact c_weak _ [0, 1] rfl (hE199 M6)
    · skip
      refine c_iload_n G dX12_counts_103 rfl 3 rfl ?_
      refine c_if_eq (tgt := 199) G dX12_counts_104 (by decide) (fun _ => ?_) (fun _ => ?_)
      · skip
        exact c_weak _ [0, 1] rfl (hE199 M6)
      · skip
        refine c_aload_n G dX12_counts_107 rfl 0 rfl ?_
        refine c_iload G dX12_counts_108 4 rfl ?_
        refine c_iload_n G dX12_counts_110 rfl 2 rfl ?_
        refine c_callV_PI (d := 0) (rest := []) G [.int l4_4, .int v1] yv_X12_isOf ml_X12_556 (by omega) (by decide) rfl rfl (Nat.le_of_ble_eq_true rfl) h_a0 (fun q hq => con_X12_isOf h_a0 hq) dX12_counts_111 (fun q3 _ => ?_)
        refine c_if_ne (tgt := 120) G dX12_counts_114 (by decide) (fun _ => ?_) (fun _ => ?_)
        · skip
          refine c_goto (tgt := 193) G dX12_counts_117 (by decide) ?_
          refine c_iinc G (fun y__ => [(4, .int y__), (0, .ref (wB w + pz (a0))), (1, .int l1_1), (2, .int v1), (3, .int l3_2)]) dX12_counts_193 4 rfl kI_1 (by decide) (fun _ => rfl) (fun l4_5 _ => ?_)
          refine c_goto (tgt := 91) G dX12_counts_196 (by decide) ?_
          exact c_weak _ [1, 2, 3, 4, 0] rfl (ih l4_5 M6)
        · skip
          refine c_aload_n G dX12_counts_120 rfl 0 rfl ?_
          refine c_dup G dX12_counts_121 rfl ?_
          refine c_getI G fl_X12_550 h_a0 rfl dX12_counts_122 ?_
          refine c_iconst G (nI 1) dX12_counts_125 kI_1 ?_
          refine c_iadd G dX12_counts_126 ?_
          refine c_putI G fp_X12_550 h_a0 rfl dX12_counts_127 (fun M7 _ => ?_)
          refine c_aload_n G dX12_counts_130 rfl 0 rfl ?_
          refine c_getF G fl_X12_142 h_a0 rfl dX12_counts_131 ?_
          refine c_iload G dX12_counts_134 4 rfl ?_
          refine c_aload_n G dX12_counts_136 rfl 0 rfl ?_
          refine c_getF G fl_X12_139 h_a0 rfl dX12_counts_137 ?_
          refine c_iload G dX12_counts_140 4 rfl ?_
          refine c_zald G (lf h_a0 70 rfl) dX12_counts_142 (fun v2 _ => ?_)
          refine c_bj (ej := fun (p168 : Int32) => [(0, .ref (wB w + pz (a0))), (1, .int l1_1), (2, .int v1), (3, .int l3_2), (4, .int l4_4)]) (sj := fun p168 => [.int p168, .int l4_4, .ref (wB w + pz ((a0 + 42)))]) (mj := fun p168 => M7) (pj := 168) (fun p168 => ?_) (fun F hJ168 => ?_)
          · skip
            refine c_zast G (lf h_a0 71 rfl) dX12_counts_168 (fun M8 _ => ?_)
            refine c_aload_n G dX12_counts_169 rfl 0 rfl ?_
            refine c_dup G dX12_counts_170 rfl ?_
            refine c_getI G fl_X12_553 h_a0 rfl dX12_counts_171 ?_
            refine c_aload_n G dX12_counts_174 rfl 0 rfl ?_
            refine c_getF G fl_X12_142 h_a0 rfl dX12_counts_175 ?_
            refine c_iload G dX12_counts_178 4 rfl ?_
            refine c_zald G (lf h_a0 71 rfl) dX12_counts_180 (fun v3 _ => ?_)
            refine c_bj (ej := fun (p189 : Int32) => [(0, .ref (wB w + pz (a0))), (1, .int l1_1), (2, .int v1), (3, .int l3_2), (4, .int l4_4)]) (sj := fun p189 => [.int p189, .int (M8.1 a0 55), .ref (wB w + pz (a0))]) (mj := fun p189 => M8) (pj := 189) (fun p189 => ?_) (fun F hJ189 => ?_)
            · skip
              refine c_iadd G dX12_counts_189 ?_
              refine c_putI G fp_X12_553 h_a0 rfl dX12_counts_190 (fun M9 _ => ?_)
              refine c_iinc G (fun y__ => [(4, .int y__), (0, .ref (wB w + pz (a0))), (1, .int l1_1), (2, .int v1), (3, .int l3_2)]) dX12_counts_193 4 rfl kI_1 (by decide) (fun _ => rfl) (fun l4_6 _ => ?_)
              refine c_goto (tgt := 91) G dX12_counts_196 (by decide) ?_
              exact c_weak _ [1, 2, 3, 4, 0] rfl (ih l4_6 M9)
            · skip
              refine c_if_eq (tgt := 188) G dX12_counts_181 (by decide) (fun _ => ?_) (fun _ => ?_)
              · skip
                refine c_iconst G (nI 0) dX12_counts_188 kI_0 ?_
                exact c_weak _ [0, 1, 2, 3, 4] rfl (hJ189 (nI 0))
              · skip
                refine c_iconst G (nI 1) dX12_counts_184 kI_1 ?_
                refine c_goto (tgt := 189) G dX12_counts_185 (by decide) ?_
                exact c_weak _ [0, 1, 2, 3, 4] rfl (hJ189 (nI 1))
          · skip
            refine c_jn (ej := fun (p163 : Unit) => [(0, .ref (wB w + pz (a0))), (1, .int l1_1), (2, .int v1), (3, .int l3_2), (4, .int l4_4)]) (sj := fun p163 => [.int l4_4, .ref (wB w + pz ((a0 + 42)))]) (mj := fun p163 => M7) (pj := 163) (fun p163 => ?_) (fun J3 hJ163 => ?_)
            · skip
              refine c_iconst G (nI 1) dX12_counts_163 kI_1 ?_
              refine c_goto (tgt := 168) G dX12_counts_164 (by decide) ?_
              exact c_weak _ [0, 1, 2, 3, 4] rfl (hJ168 (nI 1))
            · skip
              refine c_if_ne (tgt := 163) G dX12_counts_143 (by decide) (fun _ => ?_) (fun _ => ?_)
              · skip
                refine c_aload_n G dX12_counts_146 rfl 0 rfl ?_
                refine c_getF G fl_X12_102 h_a0 rfl dX12_counts_147 ?_
                refine c_iload G dX12_counts_150 4 rfl ?_
                refine c_iald G (lf h_a0 58 rfl) dX12_counts_152 (fun v4 _ => ?_)
                refine c_aload_n G dX12_counts_153 rfl 0 rfl ?_
                refine c_getF G fl_X12_114 h_a0 rfl dX12_counts_154 ?_
                refine c_iload G dX12_counts_157 4 rfl ?_
                refine c_iald G (lf h_a0 62 rfl) dX12_counts_159 (fun v5 _ => ?_)
                refine c_icmp_eq (tgt := 167) G dX12_counts_160 (by decide) (fun _ => ?_) (fun _ => ?_)
                · skip
                  refine c_iconst G (nI 0) dX12_counts_167 kI_0 ?_
                  exact c_weak _ [0, 1, 2, 3, 4] rfl (hJ168 (nI 0))
                · skip
                  exact c_weak _ [0, 1, 2, 3, 4] rfl (hJ163 ())
              · skip
                exact c_weak _ [0, 1, 2, 3, 4] rfl (hJ163 ())
set_option maxHeartbeats 4000000 in
set_option maxRecDepth 100000 in
theorem cl_X12_counts_21 {w : Wp} {X : Cx} {Q : State → Prop} {ρ : Mm} (G : Good w X cX12_counts 5 RX12 none 5) (hQ : Q = MQ (xL X) (Qd w (encV ρ)) (xA X) (xS X) (xk X) (xs X) (Aw w)) {a0 : Nat} {N : Nat} (h_a0 : lay a0 = (5, 12)) : ∀ (n : Nat) (l1_1 : Int32) (M5 : Mm), Cov w X Q ρ some 5 21 [(0, .ref (wB w + pz (a0))), (1, .int l1_1)] [] M5 (L_X12_counts_21 a0 N n l1_1 M5) := by
  intro n
  induction n with
  | zero => intro l1_1 M5; exact c_none
  | succ n ih =>
    intro l1_1 M5
    rw [L_X12_counts_21]
    refine c_iload_n G dX12_counts_21 rfl 1 rfl ?_
    refine c_aload_n G dX12_counts_22 rfl 0 rfl ?_
    refine c_getI G fl_X12_535 h_a0 rfl dX12_counts_23 ?_
    refine c_icmp_ge (tgt := 205) G dX12_counts_26 (by decide) (fun _ => ?_) (fun _ => ?_)
    · skip
      exact c_vret G hQ dX12_counts_205
    · skip
      refine c_aload_n G dX12_counts_29 rfl 0 rfl ?_
      refine c_getF G fl_X12_111 h_a0 rfl dX12_counts_30 ?_
      refine c_iload_n G dX12_counts_33 rfl 1 rfl ?_
      refine c_iald G (lf h_a0 61 rfl) dX12_counts_34 (fun v1 _ => ?_)
      refine c_istore_n G [(2, .int v1), (0, .ref (wB w + pz (a0))), (1, .int l1_1)] dX12_counts_35 rfl (by decide) rfl ?_
      refine c_iconst G (nI 0) dX12_counts_36 kI_0 ?_
      refine c_istore_n G [(3, .int (nI 0)), (2, .int v1), (0, .ref (wB w + pz (a0))), (1, .int l1_1)] dX12_counts_37 rfl (by decide) rfl ?_
      refine c_iconst G (nI 0) dX12_counts_38 kI_0 ?_
      refine c_istore G [(4, .int (nI 0)), (3, .int (nI 0)), (2, .int v1), (0, .ref (wB w + pz (a0))), (1, .int l1_1)] dX12_counts_39 (by decide) rfl ?_
      refine c_weak _ [3, 4, 2, 1, 0] rfl (cl_X12_counts_41 G hQ _ h_a0 ?_ N (nI 0) (nI 0))
      · intro l3_2
        refine c_iconst G (nI 0) dX12_counts_88 kI_0 ?_
        refine c_istore G [(4, .int (nI 0)), (0, .ref (wB w + pz (a0))), (1, .int l1_1), (2, .int v1), (3, .int l3_2)] dX12_counts_89 (by decide) rfl ?_
        refine c_weak _ [1, 2, 3, 4, 0] rfl (cl_X12_counts_91 G hQ _ h_a0 ?_ N (nI 0) M5)
        · intro M10
          refine c_iinc G (fun y__ => [(1, .int y__), (0, .ref (wB w + pz (a0)))]) dX12_counts_199 1 rfl kI_1 (by decide) (fun _ => rfl) (fun l1_2 _ => ?_)
          refine c_goto (tgt := 21) G dX12_counts_202 (by decide) ?_
          exact c_weak _ [1, 0] rfl (ih l1_2 M10)
set_option maxHeartbeats 4000000 in
set_option maxRecDepth 100000 in
theorem con_X12_counts {w : Wp} {N : Nat} {a0 : Nat} {M : Mm} {q : Mm} (h_a0 : lay a0 = (5, 12)) (hq : D_X12_counts N a0 M = some q) : Con w 5 yX12_counts cX12_counts 5 none [.ref (wB w + pz (a0))] M (encV q) := by
  refine Con.of encV q _ hq (by decide) (Nat.le_of_ble_eq_true rfl) ?_
  intro X G Q hQ
  have G : Good w X cX12_counts 5 RX12 none 5 := G
  refine c_weak [(0, .ref (wB w + pz (a0)))] [0] rfl ?_
  rw [D_X12_counts]
  refine c_aload_n G dX12_counts_0 rfl 0 rfl ?_
  refine c_callV_V (d := 4) (rest := []) G [] yv_X12_settles ml_X12_481 (by omega) (by decide) rfl rfl (Nat.le_of_ble_eq_true rfl) h_a0 (fun q hq => con_X12_settles h_a0 hq) dX12_counts_1 (fun M1 _ => ?_)
  refine c_aload_n G dX12_counts_4 rfl 0 rfl ?_
  refine c_iconst G (nI 1) dX12_counts_5 kI_1 ?_
  refine c_putZ G fp_X12_478 h_a0 rfl dX12_counts_6 (fun M2 _ => ?_)
  refine c_aload_n G dX12_counts_9 rfl 0 rfl ?_
  refine c_iconst G (nI 0) dX12_counts_10 kI_0 ?_
  refine c_putI G fp_X12_550 h_a0 rfl dX12_counts_11 (fun M3 _ => ?_)
  refine c_aload_n G dX12_counts_14 rfl 0 rfl ?_
  refine c_iconst G (nI 0) dX12_counts_15 kI_0 ?_
  refine c_putI G fp_X12_553 h_a0 rfl dX12_counts_16 (fun M4 _ => ?_)
  refine c_iconst G (nI 0) dX12_counts_19 kI_0 ?_
  refine c_istore_n G [(1, .int (nI 0)), (0, .ref (wB w + pz (a0)))] dX12_counts_20 rfl (by decide) rfl ?_
  refine c_weak _ [1, 0] rfl (cl_X12_counts_21 G hQ  h_a0 N (nI 0) M4)
set_option maxHeartbeats 4000000 in
set_option maxRecDepth 100000 in
theorem cl_X12_asksOwn_32 {w : Wp} {M : Mm} {X : Cx} {Q : State → Prop} {ρ : Int32} (G : Good w X cX12_asksOwn 4 RX12 (some .boolean) 0) (hQ : Q = MQ (xL X) (Qd w ((encPI M) ρ)) (xA X) (xS X) (xk X) (xs X) (Aw w)) {a0 : Nat} {l2_1 : Int32} (h_a0 : lay a0 = (5, 12)) : ∀ (n : Nat) (l3_1 : Int32), Cov w X Q ρ some 4 32 [(0, .ref (wB w + pz (a0))), (2, .int l2_1), (3, .int l3_1)] [] M (L_X12_asksOwn_32 a0 l2_1 M n l3_1) := by
  intro n
  induction n with
  | zero => intro l3_1; exact c_none
  | succ n ih =>
    intro l3_1
    rw [L_X12_asksOwn_32]
    refine c_iload_n G dX12_asksOwn_32 rfl 2 rfl ?_
    refine c_aload_n G dX12_asksOwn_33 rfl 0 rfl ?_
    refine c_getF G fl_X12_13 h_a0 rfl dX12_asksOwn_34 ?_
    refine c_sipush G (nI 464) dX12_asksOwn_37 kS_464 ?_
    refine c_iload_n G dX12_asksOwn_40 rfl 1 rfl ?_
    refine c_iadd G dX12_asksOwn_41 ?_
    refine c_iald G (lf h_a0 1 rfl) dX12_asksOwn_42 (fun v5 _ => ?_)
    refine c_icmp_ge (tgt := 68) G dX12_asksOwn_43 (by decide) (fun _ => ?_) (fun _ => ?_)
    · skip
      refine c_iconst G (nI 0) dX12_asksOwn_68 kI_0 ?_
      exact c_zretP G hQ dX12_asksOwn_69
    · skip
      refine c_aload_n G dX12_asksOwn_46 rfl 0 rfl ?_
      refine c_getF G fl_X12_13 h_a0 rfl dX12_asksOwn_47 ?_
      refine c_sipush G (nI 1616) dX12_asksOwn_50 kS_1616 ?_
      refine c_iload_n G dX12_asksOwn_53 rfl 2 rfl ?_
      refine c_iadd G dX12_asksOwn_54 ?_
      refine c_iald G (lf h_a0 1 rfl) dX12_asksOwn_55 (fun v6 _ => ?_)
      refine c_iconst G (nI 1) dX12_asksOwn_56 kI_1 ?_
      refine c_icmp_ne (tgt := 62) G dX12_asksOwn_57 (by decide) (fun _ => ?_) (fun _ => ?_)
      · skip
        refine c_iconst G (nI 1) dX12_asksOwn_60 kI_1 ?_
        exact c_zretP G hQ dX12_asksOwn_61
      · skip
        refine c_iinc G (fun y__ => [(3, .int y__), (0, .ref (wB w + pz (a0))), (2, .int l2_1)]) dX12_asksOwn_62 2 rfl kI_1 (by decide) (fun _ => rfl) (fun l3_2 _ => ?_)
        refine c_goto (tgt := 32) G dX12_asksOwn_65 (by decide) ?_
        exact c_weak _ [1, 2, 0] rfl (ih l3_2)
set_option maxHeartbeats 4000000 in
set_option maxRecDepth 100000 in
theorem con_X12_asksOwn {w : Wp} {N : Nat} {a0 : Nat} {a1 : Int32} {M : Mm} {q : Int32} (h_a0 : lay a0 = (5, 12)) (hq : D_X12_asksOwn N a0 a1 M = some q) : Con w 0 yX12_asksOwn cX12_asksOwn 4 (some .boolean) [.ref (wB w + pz (a0)), .int a1] M ((encPI M) q) := by
  refine Con.of (encPI M) q _ hq (by decide) (Nat.le_of_ble_eq_true rfl) ?_
  intro X G Q hQ
  have G : Good w X cX12_asksOwn 4 RX12 (some .boolean) 0 := G
  refine c_weak [(0, .ref (wB w + pz (a0))), (1, .int a1)] [0, 1] rfl ?_
  rw [D_X12_asksOwn]
  refine c_bipush G (nI 32) dX12_asksOwn_0 kB_32 ?_
  refine c_aload_n G dX12_asksOwn_2 rfl 0 rfl ?_
  refine c_getF G fl_X12_75 h_a0 rfl dX12_asksOwn_3 ?_
  refine c_aload_n G dX12_asksOwn_6 rfl 0 rfl ?_
  refine c_getF G fl_X12_96 h_a0 rfl dX12_asksOwn_7 ?_
  refine c_iload_n G dX12_asksOwn_10 rfl 1 rfl ?_
  refine c_iald G (lf h_a0 56 rfl) dX12_asksOwn_11 (fun v1 _ => ?_)
  refine c_iald G (lf h_a0 43 rfl) dX12_asksOwn_12 (fun v2 _ => ?_)
  refine c_imul G dX12_asksOwn_13 ?_
  refine c_aload_n G dX12_asksOwn_14 rfl 0 rfl ?_
  refine c_getF G fl_X12_99 h_a0 rfl dX12_asksOwn_15 ?_
  refine c_iload_n G dX12_asksOwn_18 rfl 1 rfl ?_
  refine c_iald G (lf h_a0 57 rfl) dX12_asksOwn_19 (fun v3 _ => ?_)
  refine c_iadd G dX12_asksOwn_20 ?_
  refine c_let (fun l2_1 _ => ?_)
  refine c_istore_n G [(2, .int l2_1), (0, .ref (wB w + pz (a0))), (1, .int a1)] dX12_asksOwn_21 rfl (by decide) rfl ?_
  refine c_aload_n G dX12_asksOwn_22 rfl 1 rfl ?_
  refine c_getF G fl_X12_13 h_a0 rfl dX12_asksOwn_23 ?_
  refine c_bipush G (nI 80) dX12_asksOwn_26 kB_80 ?_
  refine c_iload_n G dX12_asksOwn_28 rfl 0 rfl ?_
  refine c_iadd G dX12_asksOwn_29 ?_
  refine c_iald G (lf h_a0 1 rfl) dX12_asksOwn_30 (fun v4 _ => ?_)
  refine c_istore_n G [(3, .int v4), (2, .int l2_1), (0, .ref (wB w + pz (a0))), (1, .int a1)] dX12_asksOwn_31 rfl (by decide) rfl ?_
  refine c_weak _ [2, 1, 0] rfl (cl_X12_asksOwn_32 G hQ  h_a0 N v4)
set_option maxHeartbeats 4000000 in
set_option maxRecDepth 100000 in
theorem cl_X12_put_58 {w : Wp} {X : Cx} {Q : State → Prop} {ρ : Int32 × Mm} (G : Good w X cX12_put 5 RX12 (some .int) 6) (hQ : Q = MQ (xL X) (Qd w (encI ρ)) (xA X) (xS X) (xk X) (xs X) (Aw w)) (kE123 : Mm → Option (Int32 × Mm)) {a0 : Nat} {v1 : Int32} {a2 : Int32} {a1 : Int32} {N : Nat} (h_a0 : lay a0 = (5, 12)) (hE123 : ∀ (Mz : Mm), Cov w X Q ρ some 5 123 [(0, .ref (wB w + pz (a0))), (1, .int a1), (2, .int a2), (3, .int v1)] [] Mz (kE123 Mz)) : ∀ (n : Nat) (l4_1 : Int32) (M2 : Mm), Cov w X Q ρ some 5 58 [(0, .ref (wB w + pz (a0))), (1, .int a1), (2, .int a2), (3, .int v1), (4, .int l4_1)] [] M2 (L_X12_put_58 kE123 a0 v1 a2 a1 N n l4_1 M2) := by
  intro n
  induction n with
  | zero => intro l4_1 M2; exact c_none
  | succ n ih =>
    intro l4_1 M2
    rw [L_X12_put_58]
    refine c_iload G dX12_put_58 4 rfl ?_
    refine c_bipush G (nI 8) dX12_put_60 kB_8 ?_
    refine c_aload_n G dX12_put_62 rfl 0 rfl ?_
    refine c_getI G fl_X12_322 h_a0 rfl dX12_put_63 ?_
    refine c_imul G dX12_put_66 ?_
    refine c_icmp_ge (tgt := 123) G dX12_put_67 (by decide) (fun _ => ?_) (fun _ => ?_)
    · skip
      exact c_weak _ [0, 1, 2, 3] rfl (hE123 M2)
    · skip
      refine c_iload_n G dX12_put_70 rfl 3 rfl ?_
      refine c_iload_n G dX12_put_71 rfl 2 rfl ?_
      refine c_icmp_eq (tgt := 123) G dX12_put_72 (by decide) (fun _ => ?_) (fun _ => ?_)
      · skip
        exact c_weak _ [0, 1, 2, 3] rfl (hE123 M2)
      · skip
        refine c_aload_n G dX12_put_75 rfl 0 rfl ?_
        refine c_getF G fl_X12_136 h_a0 rfl dX12_put_76 ?_
        refine c_iload G dX12_put_79 4 rfl ?_
        refine c_aload_n G dX12_put_81 rfl 0 rfl ?_
        refine c_getF G fl_X12_126 h_a0 rfl dX12_put_82 ?_
        refine c_iload G dX12_put_85 4 rfl ?_
        refine c_zald G (lf h_a0 66 rfl) dX12_put_87 (fun v2 _ => ?_)
        refine c_jn (ej := fun (p115 : Unit) => [(0, .ref (wB w + pz (a0))), (1, .int a1), (2, .int a2), (3, .int v1), (4, .int l4_1)]) (sj := fun p115 => [.int l4_1, .ref (wB w + pz ((a0 + 40)))]) (mj := fun p115 => M2) (pj := 115) (fun p115 => ?_) (fun J1 hJ115 => ?_)
        · skip
          refine c_iconst G (nI 0) dX12_put_115 kI_0 ?_
          refine c_zast G (lf h_a0 69 rfl) dX12_put_116 (fun M3 _ => ?_)
          refine c_iinc G (fun y__ => [(4, .int y__), (0, .ref (wB w + pz (a0))), (1, .int a1), (2, .int a2), (3, .int v1)]) dX12_put_117 4 rfl kI_1 (by decide) (fun _ => rfl) (fun l4_2 _ => ?_)
          refine c_goto (tgt := 58) G dX12_put_120 (by decide) ?_
          exact c_weak _ [1, 2, 3, 4, 0] rfl (ih l4_2 M3)
        · skip
          refine c_if_eq (tgt := 115) G dX12_put_88 (by decide) (fun _ => ?_) (fun _ => ?_)
          · skip
            exact c_weak _ [0, 1, 2, 3, 4] rfl (hJ115 ())
          · skip
            refine c_aload_n G dX12_put_91 rfl 0 rfl ?_
            refine c_getF G fl_X12_96 h_a0 rfl dX12_put_92 ?_
            refine c_iload G dX12_put_95 4 rfl ?_
            refine c_iald G (lf h_a0 56 rfl) dX12_put_97 (fun v3 _ => ?_)
            refine c_iload_n G dX12_put_98 rfl 1 rfl ?_
            refine c_icmp_ne (tgt := 115) G dX12_put_99 (by decide) (fun _ => ?_) (fun _ => ?_)
            · skip
              refine c_aload_n G dX12_put_102 rfl 0 rfl ?_
              refine c_iload G dX12_put_103 4 rfl ?_
              refine c_callV_PI (d := 0) (rest := [.int l4_1, .ref (wB w + pz ((a0 + 40)))]) G [.int l4_1] yv_X12_asksOwn ml_X12_565 (by omega) (by decide) rfl rfl (Nat.le_of_ble_eq_true rfl) h_a0 (fun q hq => con_X12_asksOwn h_a0 hq) dX12_put_105 (fun q7 _ => ?_)
              refine c_if_eq (tgt := 115) G dX12_put_108 (by decide) (fun _ => ?_) (fun _ => ?_)
              · skip
                exact c_weak _ [0, 1, 2, 3, 4] rfl (hJ115 ())
              · skip
                refine c_iconst G (nI 1) dX12_put_111 kI_1 ?_
                refine c_goto (tgt := 116) G dX12_put_112 (by decide) ?_
                refine c_zast G (lf h_a0 69 rfl) dX12_put_116 (fun M4 _ => ?_)
                refine c_iinc G (fun y__ => [(4, .int y__), (0, .ref (wB w + pz (a0))), (1, .int a1), (2, .int a2), (3, .int v1)]) dX12_put_117 4 rfl kI_1 (by decide) (fun _ => rfl) (fun l4_3 _ => ?_)
                refine c_goto (tgt := 58) G dX12_put_120 (by decide) ?_
                exact c_weak _ [1, 2, 3, 4, 0] rfl (ih l4_3 M4)
            · skip
              exact c_weak _ [0, 1, 2, 3, 4] rfl (hJ115 ())
set_option maxHeartbeats 4000000 in
set_option maxRecDepth 100000 in
theorem con_X12_put {w : Wp} {N : Nat} {a0 : Nat} {a1 : Int32} {a2 : Int32} {M : Mm} {q : Int32 × Mm} (h_a0 : lay a0 = (5, 12)) (hq : D_X12_put N a0 a1 a2 M = some q) : Con w 6 yX12_put cX12_put 5 (some .int) [.ref (wB w + pz (a0)), .int a1, .int a2] M (encI q) := by
  refine Con.of encI q _ hq (by decide) (Nat.le_of_ble_eq_true rfl) ?_
  intro X G Q hQ
  have G : Good w X cX12_put 5 RX12 (some .int) 6 := G
  refine c_weak [(0, .ref (wB w + pz (a0))), (1, .int a1), (2, .int a2)] [0, 1, 2] rfl ?_
  rw [D_X12_put]
  refine c_iload_n G dX12_put_0 rfl 2 rfl ?_
  refine c_iconst G (nI 0) dX12_put_1 kI_0 ?_
  refine c_sipush G (nI 9999) dX12_put_2 kS_9999 ?_
  refine c_callS_PI (d := 0) (rest := []) G [.int a2, .int (nI 0), .int (nI 9999)] ys_X12_isFrom ml_X12_246 (by omega) (by decide) rfl rfl (Nat.le_of_ble_eq_true rfl) (fun q hq => con_X12_isFrom hq) dX12_put_5 (fun q1 _ => ?_)
  refine c_if_ne (tgt := 17) G dX12_put_8 (by decide) (fun _ => ?_) (fun _ => ?_)
  · skip
    refine c_aload_n G dX12_put_11 rfl 0 rfl ?_
    refine c_iconst G (nI 1) dX12_put_12 kI_1 ?_
    refine c_callV_I (d := 0) (rest := []) G [.int (nI 1)] yv_X12_refuse ml_X12_305 (by omega) (by decide) rfl rfl (Nat.le_of_ble_eq_true rfl) h_a0 (fun q hq => con_X12_refuse h_a0 hq) dX12_put_13 (fun q2 _ => ?_)
    exact c_iret G hQ dX12_put_16
  · skip
    refine c_aload_n G dX12_put_17 rfl 0 rfl ?_
    refine c_callV_PI (d := 0) (rest := []) G [] yv_X12_hasTree ml_X12_544 (by omega) (by decide) rfl rfl (Nat.le_of_ble_eq_true rfl) h_a0 (fun q hq => con_X12_hasTree h_a0 hq) dX12_put_18 (fun q3 _ => ?_)
    refine c_if_ne (tgt := 30) G dX12_put_21 (by decide) (fun _ => ?_) (fun _ => ?_)
    · skip
      refine c_aload_n G dX12_put_24 rfl 0 rfl ?_
      refine c_iconst G (nI 3) dX12_put_25 kI_3 ?_
      refine c_callV_I (d := 0) (rest := []) G [.int (nI 3)] yv_X12_refuse ml_X12_305 (by omega) (by decide) rfl rfl (Nat.le_of_ble_eq_true rfl) h_a0 (fun q hq => con_X12_refuse h_a0 hq) dX12_put_26 (fun q4 _ => ?_)
      exact c_iret G hQ dX12_put_29
    · skip
      refine c_aload_n G dX12_put_30 rfl 0 rfl ?_
      refine c_iload_n G dX12_put_31 rfl 1 rfl ?_
      refine c_callV_PI (d := 1) (rest := []) G [.int a1] yv_X12_isNode ml_X12_484 (by omega) (by decide) rfl rfl (Nat.le_of_ble_eq_true rfl) h_a0 (fun q hq => con_X12_isNode h_a0 hq) dX12_put_32 (fun q5 _ => ?_)
      refine c_if_ne (tgt := 44) G dX12_put_35 (by decide) (fun _ => ?_) (fun _ => ?_)
      · skip
        refine c_aload_n G dX12_put_38 rfl 0 rfl ?_
        refine c_iconst G (nI 4) dX12_put_39 kI_4 ?_
        refine c_callV_I (d := 0) (rest := []) G [.int (nI 4)] yv_X12_refuse ml_X12_305 (by omega) (by decide) rfl rfl (Nat.le_of_ble_eq_true rfl) h_a0 (fun q hq => con_X12_refuse h_a0 hq) dX12_put_40 (fun q6 _ => ?_)
        exact c_iret G hQ dX12_put_43
      · skip
        refine c_aload_n G dX12_put_44 rfl 0 rfl ?_
        refine c_getF G fl_X12_78 h_a0 rfl dX12_put_45 ?_
        refine c_iload_n G dX12_put_48 rfl 1 rfl ?_
        refine c_iald G (lf h_a0 44 rfl) dX12_put_49 (fun v1 _ => ?_)
        refine c_istore_n G [(3, .int v1), (0, .ref (wB w + pz (a0))), (1, .int a1), (2, .int a2)] dX12_put_50 rfl (by decide) rfl ?_
        refine c_aload_n G dX12_put_51 rfl 1 rfl ?_
        refine c_callV_V (d := 0) (rest := []) G [] yv_X12_beginsChange ml_X12_562 (by omega) (by decide) rfl rfl (Nat.le_of_ble_eq_true rfl) h_a0 (fun q hq => con_X12_beginsChange h_a0 hq) dX12_put_52 (fun M1 _ => ?_)
        refine c_iconst G (nI 0) dX12_put_55 kI_0 ?_
        refine c_istore G [(4, .int (nI 0)), (3, .int v1), (0, .ref (wB w + pz (a0))), (1, .int a1), (2, .int a2)] dX12_put_56 (by decide) rfl ?_
        refine c_weak _ [2, 3, 4, 1, 0] rfl (cl_X12_put_58 G hQ _ h_a0 ?_ N (nI 0) M1)
        · intro M5
          refine c_aload_n G dX12_put_123 rfl 0 rfl ?_
          refine c_getF G fl_X12_78 h_a0 rfl dX12_put_124 ?_
          refine c_iload_n G dX12_put_127 rfl 1 rfl ?_
          refine c_iload_n G dX12_put_128 rfl 2 rfl ?_
          refine c_iast G (lf h_a0 44 rfl) dX12_put_129 (fun M6 _ => ?_)
          refine c_aload_n G dX12_put_130 rfl 0 rfl ?_
          refine c_callV_V (d := 5) (rest := []) G [] yv_X12_counts ml_X12_568 (by omega) (by decide) rfl rfl (Nat.le_of_ble_eq_true rfl) h_a0 (fun q hq => con_X12_counts h_a0 hq) dX12_put_131 (fun M7 _ => ?_)
          refine c_aload_n G dX12_put_134 rfl 0 rfl ?_
          refine c_iload_n G dX12_put_135 rfl 3 rfl ?_
          refine c_callV_I (d := 0) (rest := []) G [.int v1] yv_X12_gives ml_X12_328 (by omega) (by decide) rfl rfl (Nat.le_of_ble_eq_true rfl) h_a0 (fun q hq => con_X12_gives h_a0 hq) dX12_put_136 (fun q8 _ => ?_)
          exact c_iret G hQ dX12_put_139
set_option maxHeartbeats 4000000 in
set_option maxRecDepth 100000 in
theorem con_X12_give {w : Wp} {N : Nat} {a0 : Nat} {a1 : Int32} {a2 : Int32} {M : Mm} {q : Int32 × Mm} (h_a0 : lay a0 = (5, 12)) (hq : D_X12_give N a0 a1 a2 M = some q) : Con w 6 yX12_give cX12_give 4 (some .int) [.ref (wB w + pz (a0)), .int a1, .int a2] M (encI q) := by
  refine Con.of encI q _ hq (by decide) (Nat.le_of_ble_eq_true rfl) ?_
  intro X G Q hQ
  have G : Good w X cX12_give 4 RX12 (some .int) 6 := G
  refine c_weak [(0, .ref (wB w + pz (a0))), (1, .int a1), (2, .int a2)] [0, 1, 2] rfl ?_
  rw [D_X12_give]
  refine c_aload_n G dX12_give_0 rfl 0 rfl ?_
  refine c_callV_PI (d := 0) (rest := []) G [] yv_X12_hasTree ml_X12_544 (by omega) (by decide) rfl rfl (Nat.le_of_ble_eq_true rfl) h_a0 (fun q hq => con_X12_hasTree h_a0 hq) dX12_give_1 (fun q1 _ => ?_)
  refine c_if_ne (tgt := 13) G dX12_give_4 (by decide) (fun _ => ?_) (fun _ => ?_)
  · skip
    refine c_aload_n G dX12_give_7 rfl 0 rfl ?_
    refine c_iconst G (nI 3) dX12_give_8 kI_3 ?_
    refine c_callV_I (d := 0) (rest := []) G [.int (nI 3)] yv_X12_refuse ml_X12_305 (by omega) (by decide) rfl rfl (Nat.le_of_ble_eq_true rfl) h_a0 (fun q hq => con_X12_refuse h_a0 hq) dX12_give_9 (fun q2 _ => ?_)
    exact c_iret G hQ dX12_give_12
  · skip
    refine c_iload_n G dX12_give_13 rfl 1 rfl ?_
    refine c_iconst G (nI 0) dX12_give_14 kI_0 ?_
    refine c_aload_n G dX12_give_15 rfl 0 rfl ?_
    refine c_getF G fl_X12_13 h_a0 rfl dX12_give_16 ?_
    refine c_iconst G (nI 4) dX12_give_19 kI_4 ?_
    refine c_aload_n G dX12_give_20 rfl 0 rfl ?_
    refine c_iconst G (nI 0) dX12_give_21 kI_0 ?_
    refine c_callV_PI (d := 0) (rest := [.int (nI 4), .ref (wB w + pz ((a0 + 2))), .int (nI 0), .int a1]) G [.int (nI 0)] yv_X12_symbolOf ml_X12_487 (by omega) (by decide) rfl rfl (Nat.le_of_ble_eq_true rfl) h_a0 (fun q hq => con_X12_symbolOf h_a0 hq) dX12_give_22 (fun q3 _ => ?_)
    refine c_iadd G dX12_give_25 ?_
    refine c_iald G (lf h_a0 1 rfl) dX12_give_26 (fun v1 _ => ?_)
    refine c_iconst G (nI 1) dX12_give_27 kI_1 ?_
    refine c_isub G dX12_give_28 ?_
    refine c_callS_PI (d := 0) (rest := []) G [.int a1, .int (nI 0), .int (v1 - (nI 1))] ys_X12_isFrom ml_X12_246 (by omega) (by decide) rfl rfl (Nat.le_of_ble_eq_true rfl) (fun q hq => con_X12_isFrom hq) dX12_give_29 (fun q4 _ => ?_)
    refine c_if_ne (tgt := 41) G dX12_give_32 (by decide) (fun _ => ?_) (fun _ => ?_)
    · skip
      refine c_aload_n G dX12_give_35 rfl 0 rfl ?_
      refine c_iconst G (nI 4) dX12_give_36 kI_4 ?_
      refine c_callV_I (d := 0) (rest := []) G [.int (nI 4)] yv_X12_refuse ml_X12_305 (by omega) (by decide) rfl rfl (Nat.le_of_ble_eq_true rfl) h_a0 (fun q hq => con_X12_refuse h_a0 hq) dX12_give_37 (fun q5 _ => ?_)
      exact c_iret G hQ dX12_give_40
    · skip
      refine c_aload_n G dX12_give_41 rfl 0 rfl ?_
      refine c_getF G fl_X12_93 h_a0 rfl dX12_give_42 ?_
      refine c_iload_n G dX12_give_45 rfl 1 rfl ?_
      refine c_iald G (lf h_a0 49 rfl) dX12_give_46 (fun v2 _ => ?_)
      refine c_istore_n G [(3, .int v2), (0, .ref (wB w + pz (a0))), (1, .int a1), (2, .int a2)] dX12_give_47 rfl (by decide) rfl ?_
      refine c_aload_n G dX12_give_48 rfl 1 rfl ?_
      refine c_callV_V (d := 0) (rest := []) G [] yv_X12_beginsChange ml_X12_562 (by omega) (by decide) rfl rfl (Nat.le_of_ble_eq_true rfl) h_a0 (fun q hq => con_X12_beginsChange h_a0 hq) dX12_give_49 (fun M1 _ => ?_)
      refine c_aload_n G dX12_give_52 rfl 1 rfl ?_
      refine c_getF G fl_X12_136 h_a0 rfl dX12_give_53 ?_
      refine c_iload_n G dX12_give_56 rfl 2 rfl ?_
      refine c_iload_n G dX12_give_57 rfl 0 rfl ?_
      refine c_iload_n G dX12_give_58 rfl 3 rfl ?_
      refine c_bj (ej := fun (p67 : Int32) => [(0, .ref (wB w + pz (a0))), (1, .int a1), (2, .int a2), (3, .int v2)]) (sj := fun p67 => [.int p67, .int a1, .ref (wB w + pz ((a0 + 40)))]) (mj := fun p67 => M1) (pj := 67) (fun p67 => ?_) (fun F hJ67 => ?_)
      · skip
        refine c_zast G (lf h_a0 69 rfl) dX12_give_67 (fun M2 _ => ?_)
        refine c_aload_n G dX12_give_68 rfl 0 rfl ?_
        refine c_getF G fl_X12_93 h_a0 rfl dX12_give_69 ?_
        refine c_iload_n G dX12_give_72 rfl 1 rfl ?_
        refine c_iload_n G dX12_give_73 rfl 2 rfl ?_
        refine c_iast G (lf h_a0 49 rfl) dX12_give_74 (fun M3 _ => ?_)
        refine c_aload_n G dX12_give_75 rfl 0 rfl ?_
        refine c_callV_V (d := 5) (rest := []) G [] yv_X12_counts ml_X12_568 (by omega) (by decide) rfl rfl (Nat.le_of_ble_eq_true rfl) h_a0 (fun q hq => con_X12_counts h_a0 hq) dX12_give_76 (fun M4 _ => ?_)
        refine c_aload_n G dX12_give_79 rfl 0 rfl ?_
        refine c_iload_n G dX12_give_80 rfl 3 rfl ?_
        refine c_callV_I (d := 0) (rest := []) G [.int v2] yv_X12_gives ml_X12_328 (by omega) (by decide) rfl rfl (Nat.le_of_ble_eq_true rfl) h_a0 (fun q hq => con_X12_gives h_a0 hq) dX12_give_81 (fun q6 _ => ?_)
        exact c_iret G hQ dX12_give_84
      · skip
        refine c_icmp_eq (tgt := 66) G dX12_give_59 (by decide) (fun _ => ?_) (fun _ => ?_)
        · skip
          refine c_iconst G (nI 0) dX12_give_66 kI_0 ?_
          exact c_weak _ [1, 2, 3, 0] rfl (hJ67 (nI 0))
        · skip
          refine c_iconst G (nI 1) dX12_give_62 kI_1 ?_
          refine c_goto (tgt := 67) G dX12_give_63 (by decide) ?_
          exact c_weak _ [1, 2, 3, 0] rfl (hJ67 (nI 1))
set_option maxHeartbeats 4000000 in
set_option maxRecDepth 100000 in
theorem cl_X12_wasTied_18 {w : Wp} {M : Mm} {X : Cx} {Q : State → Prop} {ρ : Int32} (G : Good w X cX12_wasTied 5 RX12 (some .boolean) 0) (hQ : Q = MQ (xL X) (Qd w ((encPI M) ρ)) (xA X) (xS X) (xk X) (xs X) (Aw w)) {a2 : Int32} {a3 : Int32} {a0 : Nat} {a1 : Int32} (h_a0 : lay a0 = (5, 12)) : ∀ (n : Nat) (l4_2 : Int32), Cov w X Q ρ some 5 18 [(0, .ref (wB w + pz (a0))), (1, .int a1), (2, .int a2), (3, .int a3), (4, .int l4_2)] [] M (L_X12_wasTied_18 a2 a3 a0 M a1 n l4_2) := by
  intro n
  induction n with
  | zero => intro l4_2; exact c_none
  | succ n ih =>
    intro l4_2
    rw [L_X12_wasTied_18]
    refine c_iload G dX12_wasTied_18 4 rfl ?_
    refine c_bipush G (nI 8) dX12_wasTied_20 kB_8 ?_
    refine c_iload_n G dX12_wasTied_22 rfl 2 rfl ?_
    refine c_iload_n G dX12_wasTied_23 rfl 3 rfl ?_
    refine c_iadd G dX12_wasTied_24 ?_
    refine c_imul G dX12_wasTied_25 ?_
    refine c_icmp_ge (tgt := 63) G dX12_wasTied_26 (by decide) (fun _ => ?_) (fun _ => ?_)
    · skip
      refine c_iconst G (nI 0) dX12_wasTied_63 kI_0 ?_
      exact c_zretP G hQ dX12_wasTied_64
    · skip
      refine c_aload_n G dX12_wasTied_29 rfl 0 rfl ?_
      refine c_getF G fl_X12_126 h_a0 rfl dX12_wasTied_30 ?_
      refine c_iload G dX12_wasTied_33 4 rfl ?_
      refine c_zald G (lf h_a0 66 rfl) dX12_wasTied_35 (fun v2 _ => ?_)
      refine c_if_eq (tgt := 57) G dX12_wasTied_36 (by decide) (fun _ => ?_) (fun _ => ?_)
      · skip
        refine c_iinc G (fun y__ => [(4, .int y__), (0, .ref (wB w + pz (a0))), (1, .int a1), (2, .int a2), (3, .int a3)]) dX12_wasTied_57 4 rfl kI_1 (by decide) (fun _ => rfl) (fun l4_3 _ => ?_)
        refine c_goto (tgt := 18) G dX12_wasTied_60 (by decide) ?_
        exact c_weak _ [1, 2, 3, 4, 0] rfl (ih l4_3)
      · skip
        refine c_aload_n G dX12_wasTied_39 rfl 0 rfl ?_
        refine c_getF G fl_X12_105 h_a0 rfl dX12_wasTied_40 ?_
        refine c_iload G dX12_wasTied_43 4 rfl ?_
        refine c_iald G (lf h_a0 59 rfl) dX12_wasTied_45 (fun v3 _ => ?_)
        refine c_aload_n G dX12_wasTied_46 rfl 0 rfl ?_
        refine c_getF G fl_X12_105 h_a0 rfl dX12_wasTied_47 ?_
        refine c_iload_n G dX12_wasTied_50 rfl 1 rfl ?_
        refine c_iald G (lf h_a0 59 rfl) dX12_wasTied_51 (fun v4 _ => ?_)
        refine c_icmp_ne (tgt := 57) G dX12_wasTied_52 (by decide) (fun _ => ?_) (fun _ => ?_)
        · skip
          refine c_iconst G (nI 1) dX12_wasTied_55 kI_1 ?_
          exact c_zretP G hQ dX12_wasTied_56
        · skip
          refine c_iinc G (fun y__ => [(4, .int y__), (0, .ref (wB w + pz (a0))), (1, .int a1), (2, .int a2), (3, .int a3)]) dX12_wasTied_57 4 rfl kI_1 (by decide) (fun _ => rfl) (fun l4_4 _ => ?_)
          refine c_goto (tgt := 18) G dX12_wasTied_60 (by decide) ?_
          exact c_weak _ [1, 2, 3, 4, 0] rfl (ih l4_4)
set_option maxHeartbeats 4000000 in
set_option maxRecDepth 100000 in
theorem con_X12_wasTied {w : Wp} {N : Nat} {a0 : Nat} {a1 : Int32} {a2 : Int32} {a3 : Int32} {M : Mm} {q : Int32} (h_a0 : lay a0 = (5, 12)) (hq : D_X12_wasTied N a0 a1 a2 a3 M = some q) : Con w 0 yX12_wasTied cX12_wasTied 5 (some .boolean) [.ref (wB w + pz (a0)), .int a1, .int a2, .int a3] M ((encPI M) q) := by
  refine Con.of (encPI M) q _ hq (by decide) (Nat.le_of_ble_eq_true rfl) ?_
  intro X G Q hQ
  have G : Good w X cX12_wasTied 5 RX12 (some .boolean) 0 := G
  refine c_weak [(0, .ref (wB w + pz (a0))), (1, .int a1), (2, .int a2), (3, .int a3)] [0, 1, 2, 3] rfl ?_
  rw [D_X12_wasTied]
  refine c_aload_n G dX12_wasTied_0 rfl 0 rfl ?_
  refine c_getF G fl_X12_105 h_a0 rfl dX12_wasTied_1 ?_
  refine c_iload_n G dX12_wasTied_4 rfl 1 rfl ?_
  refine c_iald G (lf h_a0 59 rfl) dX12_wasTied_5 (fun v1 _ => ?_)
  refine c_iconst G m1 dX12_wasTied_6 kI_m1 ?_
  refine c_icmp_ne (tgt := 12) G dX12_wasTied_7 (by decide) (fun _ => ?_) (fun _ => ?_)
  · skip
    refine c_iconst G (nI 0) dX12_wasTied_10 kI_0 ?_
    exact c_zretP G hQ dX12_wasTied_11
  · skip
    refine c_bipush G (nI 8) dX12_wasTied_12 kB_8 ?_
    refine c_iload_n G dX12_wasTied_14 rfl 2 rfl ?_
    refine c_imul G dX12_wasTied_15 ?_
    refine c_let (fun l4_1 _ => ?_)
    refine c_istore G [(4, .int l4_1), (0, .ref (wB w + pz (a0))), (1, .int a1), (2, .int a2), (3, .int a3)] dX12_wasTied_16 (by decide) rfl ?_
    refine c_weak _ [1, 2, 3, 4, 0] rfl (cl_X12_wasTied_18 G hQ  h_a0 N l4_1)
set_option maxHeartbeats 4000000 in
set_option maxRecDepth 100000 in
theorem cl_X12_movesBehind_119 {w : Wp} {X : Cx} {Q : State → Prop} {ρ : Mm} (G : Good w X cX12_movesBehind 6 RX12 none 0) (hQ : Q = MQ (xL X) (Qd w (encV ρ)) (xA X) (xS X) (xk X) (xs X) (Aw w)) (kE204 : Mm → Option (Mm)) {a0 : Nat} {l4_1 : Int32} {a2 : Int32} {a1 : Int32} {t1 : Int32} (h_a0 : lay a0 = (5, 12)) (hE204 : ∀ (Mz : Mm), Cov w X Q ρ some 6 204 [(0, .ref (wB w + pz (a0))), (1, .int a1), (2, .int a2), (3, .int t1), (4, .int l4_1)] [] Mz (kE204 Mz)) : ∀ (n : Nat) (l5_1 : Int32) (M5 : Mm), Cov w X Q ρ some 6 119 [(0, .ref (wB w + pz (a0))), (1, .int a1), (2, .int a2), (3, .int t1), (4, .int l4_1), (5, .int l5_1)] [] M5 (L_X12_movesBehind_119 kE204 a0 l4_1 a2 n l5_1 M5) := by
  intro n
  induction n with
  | zero => intro l5_1 M5; exact c_none
  | succ n ih =>
    intro l5_1 M5
    rw [L_X12_movesBehind_119]
    refine c_iload G dX12_movesBehind_119 5 rfl ?_
    refine c_bipush G (nI 8) dX12_movesBehind_121 kB_8 ?_
    refine c_icmp_ge (tgt := 204) G dX12_movesBehind_123 (by decide) (fun _ => ?_) (fun _ => ?_)
    · skip
      exact c_weak _ [0, 1, 2, 3, 4] rfl (hE204 M5)
    · skip
      refine c_aload_n G dX12_movesBehind_126 rfl 0 rfl ?_
      refine c_getF G fl_X12_114 h_a0 rfl dX12_movesBehind_127 ?_
      refine c_bipush G (nI 8) dX12_movesBehind_130 kB_8 ?_
      refine c_iload G dX12_movesBehind_132 4 rfl ?_
      refine c_iload_n G dX12_movesBehind_134 rfl 2 rfl ?_
      refine c_iadd G dX12_movesBehind_135 ?_
      refine c_imul G dX12_movesBehind_136 ?_
      refine c_iload G dX12_movesBehind_137 5 rfl ?_
      refine c_iadd G dX12_movesBehind_139 ?_
      refine c_aload_n G dX12_movesBehind_140 rfl 0 rfl ?_
      refine c_getF G fl_X12_114 h_a0 rfl dX12_movesBehind_141 ?_
      refine c_bipush G (nI 8) dX12_movesBehind_144 kB_8 ?_
      refine c_iload G dX12_movesBehind_146 4 rfl ?_
      refine c_imul G dX12_movesBehind_148 ?_
      refine c_iload G dX12_movesBehind_149 5 rfl ?_
      refine c_iadd G dX12_movesBehind_151 ?_
      refine c_iald G (lf h_a0 62 rfl) dX12_movesBehind_152 (fun v4 _ => ?_)
      refine c_iast G (lf h_a0 62 rfl) dX12_movesBehind_153 (fun M6 _ => ?_)
      refine c_aload_n G dX12_movesBehind_154 rfl 0 rfl ?_
      refine c_getF G fl_X12_136 h_a0 rfl dX12_movesBehind_155 ?_
      refine c_bipush G (nI 8) dX12_movesBehind_158 kB_8 ?_
      refine c_iload G dX12_movesBehind_160 4 rfl ?_
      refine c_iload_n G dX12_movesBehind_162 rfl 2 rfl ?_
      refine c_iadd G dX12_movesBehind_163 ?_
      refine c_imul G dX12_movesBehind_164 ?_
      refine c_iload G dX12_movesBehind_165 5 rfl ?_
      refine c_iadd G dX12_movesBehind_167 ?_
      refine c_aload_n G dX12_movesBehind_168 rfl 0 rfl ?_
      refine c_getF G fl_X12_136 h_a0 rfl dX12_movesBehind_169 ?_
      refine c_bipush G (nI 8) dX12_movesBehind_172 kB_8 ?_
      refine c_iload G dX12_movesBehind_174 4 rfl ?_
      refine c_imul G dX12_movesBehind_176 ?_
      refine c_iload G dX12_movesBehind_177 5 rfl ?_
      refine c_iadd G dX12_movesBehind_179 ?_
      refine c_zald G (lf h_a0 69 rfl) dX12_movesBehind_180 (fun v5 _ => ?_)
      refine c_zast G (lf h_a0 69 rfl) dX12_movesBehind_181 (fun M7 _ => ?_)
      refine c_aload_n G dX12_movesBehind_182 rfl 0 rfl ?_
      refine c_getF G fl_X12_139 h_a0 rfl dX12_movesBehind_183 ?_
      refine c_bipush G (nI 8) dX12_movesBehind_186 kB_8 ?_
      refine c_iload G dX12_movesBehind_188 4 rfl ?_
      refine c_iload_n G dX12_movesBehind_190 rfl 2 rfl ?_
      refine c_iadd G dX12_movesBehind_191 ?_
      refine c_imul G dX12_movesBehind_192 ?_
      refine c_iload G dX12_movesBehind_193 5 rfl ?_
      refine c_iadd G dX12_movesBehind_195 ?_
      refine c_iconst G (nI 0) dX12_movesBehind_196 kI_0 ?_
      refine c_zast G (lf h_a0 70 rfl) dX12_movesBehind_197 (fun M8 _ => ?_)
      refine c_iinc G (fun y__ => [(5, .int y__), (0, .ref (wB w + pz (a0))), (1, .int a1), (2, .int a2), (3, .int t1), (4, .int l4_1)]) dX12_movesBehind_198 5 rfl kI_1 (by decide) (fun _ => rfl) (fun l5_2 _ => ?_)
      refine c_goto (tgt := 119) G dX12_movesBehind_201 (by decide) ?_
      exact c_weak _ [1, 2, 3, 4, 5, 0] rfl (ih l5_2 M8)
set_option maxHeartbeats 4000000 in
set_option maxRecDepth 100000 in
theorem cl_X12_movesBehind_26 {w : Wp} {X : Cx} {Q : State → Prop} {ρ : Mm} (G : Good w X cX12_movesBehind 6 RX12 none 0) (hQ : Q = MQ (xL X) (Qd w (encV ρ)) (xA X) (xS X) (xk X) (xs X) (Aw w)) {a2 : Int32} {a1 : Int32} {a0 : Nat} {t1 : Int32} {N : Nat} (h_a0 : lay a0 = (5, 12)) : ∀ (n : Nat) (l4_1 : Int32) (M1 : Mm), Cov w X Q ρ some 6 26 [(0, .ref (wB w + pz (a0))), (1, .int a1), (2, .int a2), (3, .int t1), (4, .int l4_1)] [] M1 (L_X12_movesBehind_26 a2 a1 a0 t1 N n l4_1 M1) := by
  intro n
  induction n with
  | zero => intro l4_1 M1; exact c_none
  | succ n ih =>
    intro l4_1 M1
    rw [L_X12_movesBehind_26]
    refine c_iload_n G dX12_movesBehind_26 rfl 2 rfl ?_
    refine c_if_eq (tgt := 213) G dX12_movesBehind_27 (by decide) (fun _ => ?_) (fun _ => ?_)
    · skip
      exact c_vret G hQ dX12_movesBehind_213
    · skip
      refine c_iload G dX12_movesBehind_30 4 rfl ?_
      refine c_iload_n G dX12_movesBehind_32 rfl 1 rfl ?_
      refine c_icmp_lt (tgt := 213) G dX12_movesBehind_33 (by decide) (fun _ => ?_) (fun _ => ?_)
      · skip
        exact c_vret G hQ dX12_movesBehind_213
      · skip
        refine c_iload G dX12_movesBehind_36 4 rfl ?_
        refine c_aload_n G dX12_movesBehind_38 rfl 0 rfl ?_
        refine c_getI G fl_X12_322 h_a0 rfl dX12_movesBehind_39 ?_
        refine c_icmp_ge (tgt := 213) G dX12_movesBehind_42 (by decide) (fun _ => ?_) (fun _ => ?_)
        · skip
          exact c_vret G hQ dX12_movesBehind_213
        · skip
          refine c_aload_n G dX12_movesBehind_45 rfl 0 rfl ?_
          refine c_getF G fl_X12_75 h_a0 rfl dX12_movesBehind_46 ?_
          refine c_iload G dX12_movesBehind_49 4 rfl ?_
          refine c_iload_n G dX12_movesBehind_51 rfl 2 rfl ?_
          refine c_iadd G dX12_movesBehind_52 ?_
          refine c_aload_n G dX12_movesBehind_53 rfl 0 rfl ?_
          refine c_getF G fl_X12_75 h_a0 rfl dX12_movesBehind_54 ?_
          refine c_iload G dX12_movesBehind_57 4 rfl ?_
          refine c_iald G (lf h_a0 43 rfl) dX12_movesBehind_59 (fun v1 _ => ?_)
          refine c_iast G (lf h_a0 43 rfl) dX12_movesBehind_60 (fun M2 _ => ?_)
          refine c_aload_n G dX12_movesBehind_61 rfl 0 rfl ?_
          refine c_getF G fl_X12_78 h_a0 rfl dX12_movesBehind_62 ?_
          refine c_iload G dX12_movesBehind_65 4 rfl ?_
          refine c_iload_n G dX12_movesBehind_67 rfl 2 rfl ?_
          refine c_iadd G dX12_movesBehind_68 ?_
          refine c_aload_n G dX12_movesBehind_69 rfl 0 rfl ?_
          refine c_getF G fl_X12_78 h_a0 rfl dX12_movesBehind_70 ?_
          refine c_iload G dX12_movesBehind_73 4 rfl ?_
          refine c_iald G (lf h_a0 44 rfl) dX12_movesBehind_75 (fun v2 _ => ?_)
          refine c_iast G (lf h_a0 44 rfl) dX12_movesBehind_76 (fun M3 _ => ?_)
          refine c_aload_n G dX12_movesBehind_77 rfl 0 rfl ?_
          refine c_getF G fl_X12_81 h_a0 rfl dX12_movesBehind_78 ?_
          refine c_iload G dX12_movesBehind_81 4 rfl ?_
          refine c_iload_n G dX12_movesBehind_83 rfl 2 rfl ?_
          refine c_iadd G dX12_movesBehind_84 ?_
          refine c_aload_n G dX12_movesBehind_85 rfl 0 rfl ?_
          refine c_getF G fl_X12_81 h_a0 rfl dX12_movesBehind_86 ?_
          refine c_iload G dX12_movesBehind_89 4 rfl ?_
          refine c_iald G (lf h_a0 45 rfl) dX12_movesBehind_91 (fun v3 _ => ?_)
          refine c_iload_n G dX12_movesBehind_92 rfl 1 rfl ?_
          refine c_bj (ej := fun (p115 : Int32) => [(0, .ref (wB w + pz (a0))), (1, .int a1), (2, .int a2), (3, .int t1), (4, .int l4_1)]) (sj := fun p115 => [.int p115, .int (l4_1 + a2), .ref (wB w + pz ((a0 + 22)))]) (mj := fun p115 => M3) (pj := 115) (fun p115 => ?_) (fun F hJ115 => ?_)
          · skip
            refine c_iast G (lf h_a0 45 rfl) dX12_movesBehind_115 (fun M4 _ => ?_)
            refine c_iconst G (nI 0) dX12_movesBehind_116 kI_0 ?_
            refine c_istore G [(5, .int (nI 0)), (0, .ref (wB w + pz (a0))), (1, .int a1), (2, .int a2), (3, .int t1), (4, .int l4_1)] dX12_movesBehind_117 (by decide) rfl ?_
            refine c_weak _ [1, 2, 3, 4, 5, 0] rfl (cl_X12_movesBehind_119 G hQ _ h_a0 ?_ N (nI 0) M4)
            · intro M9
              refine c_iload G dX12_movesBehind_204 4 rfl ?_
              refine c_iload_n G dX12_movesBehind_206 rfl 3 rfl ?_
              refine c_iadd G dX12_movesBehind_207 ?_
              refine c_let (fun l4_2 _ => ?_)
              refine c_istore G [(4, .int l4_2), (0, .ref (wB w + pz (a0))), (1, .int a1), (2, .int a2), (3, .int t1)] dX12_movesBehind_208 (by decide) rfl ?_
              refine c_goto (tgt := 26) G dX12_movesBehind_210 (by decide) ?_
              exact c_weak _ [1, 2, 3, 4, 0] rfl (ih l4_2 M9)
          · skip
            refine c_icmp_lt (tgt := 108) G dX12_movesBehind_93 (by decide) (fun _ => ?_) (fun _ => ?_)
            · skip
              refine c_aload_n G dX12_movesBehind_108 rfl 0 rfl ?_
              refine c_getF G fl_X12_81 h_a0 rfl dX12_movesBehind_109 ?_
              refine c_iload G dX12_movesBehind_112 4 rfl ?_
              refine c_iald G (lf h_a0 45 rfl) dX12_movesBehind_114 (fun v6 _ => ?_)
              exact c_weak _ [0, 1, 2, 3, 4] rfl (hJ115 v6)
            · skip
              refine c_aload_n G dX12_movesBehind_96 rfl 0 rfl ?_
              refine c_getF G fl_X12_81 h_a0 rfl dX12_movesBehind_97 ?_
              refine c_iload G dX12_movesBehind_100 4 rfl ?_
              refine c_iald G (lf h_a0 45 rfl) dX12_movesBehind_102 (fun v7 _ => ?_)
              refine c_iload_n G dX12_movesBehind_103 rfl 2 rfl ?_
              refine c_iadd G dX12_movesBehind_104 ?_
              refine c_goto (tgt := 115) G dX12_movesBehind_105 (by decide) ?_
              exact c_weak _ [0, 1, 2, 3, 4] rfl (hJ115 (v7 + a2))
set_option maxHeartbeats 4000000 in
set_option maxRecDepth 100000 in
theorem con_X12_movesBehind {w : Wp} {N : Nat} {a0 : Nat} {a1 : Int32} {a2 : Int32} {M : Mm} {q : Mm} (h_a0 : lay a0 = (5, 12)) (hq : D_X12_movesBehind N a0 a1 a2 M = some q) : Con w 0 yX12_movesBehind cX12_movesBehind 6 none [.ref (wB w + pz (a0)), .int a1, .int a2] M (encV q) := by
  refine Con.of encV q _ hq (by decide) (Nat.le_of_ble_eq_true rfl) ?_
  intro X G Q hQ
  have G : Good w X cX12_movesBehind 6 RX12 none 0 := G
  refine c_weak [(0, .ref (wB w + pz (a0))), (1, .int a1), (2, .int a2)] [0, 1, 2] rfl ?_
  rw [D_X12_movesBehind]
  refine c_iload_n G dX12_movesBehind_0 rfl 2 rfl ?_
  refine c_bj (ej := fun (p9 : Int32) => [(0, .ref (wB w + pz (a0))), (1, .int a1), (2, .int a2)]) (sj := fun p9 => [.int p9]) (mj := fun p9 => M) (pj := 9) (fun p9 => ?_) (fun F hJ9 => ?_)
  · skip
    refine c_istore_n G [(3, .int p9), (0, .ref (wB w + pz (a0))), (1, .int a1), (2, .int a2)] dX12_movesBehind_9 rfl (by decide) rfl ?_
    refine c_iload_n G dX12_movesBehind_10 rfl 3 rfl ?_
    refine c_bj (ej := fun (p24 : Int32) => [(0, .ref (wB w + pz (a0))), (1, .int a1), (2, .int a2), (3, .int p9)]) (sj := fun p24 => [.int p24]) (mj := fun p24 => M) (pj := 24) (fun p24 => ?_) (fun F hJ24 => ?_)
    · skip
      refine c_istore G [(4, .int p24), (0, .ref (wB w + pz (a0))), (1, .int a1), (2, .int a2), (3, .int p9)] dX12_movesBehind_24 (by decide) rfl ?_
      refine c_weak _ [1, 2, 3, 4, 0] rfl (cl_X12_movesBehind_26 G hQ  h_a0 N p24 M)
    · skip
      refine c_if_le (tgt := 23) G dX12_movesBehind_11 (by decide) (fun _ => ?_) (fun _ => ?_)
      · skip
        refine c_iload_n G dX12_movesBehind_23 rfl 2 rfl ?_
        exact c_weak _ [1, 2, 3, 0] rfl (hJ24 a1)
      · skip
        refine c_aload_n G dX12_movesBehind_14 rfl 1 rfl ?_
        refine c_getI G fl_X12_322 h_a0 rfl dX12_movesBehind_15 ?_
        refine c_iconst G (nI 1) dX12_movesBehind_18 kI_1 ?_
        refine c_isub G dX12_movesBehind_19 ?_
        refine c_goto (tgt := 24) G dX12_movesBehind_20 (by decide) ?_
        exact c_weak _ [1, 2, 3, 0] rfl (hJ24 ((M.1 a0 50) - (nI 1)))
  · skip
    refine c_if_le (tgt := 8) G dX12_movesBehind_1 (by decide) (fun _ => ?_) (fun _ => ?_)
    · skip
      refine c_iconst G (nI 1) dX12_movesBehind_8 kI_1 ?_
      exact c_weak _ [0, 1, 2] rfl (hJ9 (nI 1))
    · skip
      refine c_iconst G m1 dX12_movesBehind_4 kI_m1 ?_
      refine c_goto (tgt := 9) G dX12_movesBehind_5 (by decide) ?_
      exact c_weak _ [0, 1, 2] rfl (hJ9 m1)
set_option maxHeartbeats 4000000 in
set_option maxRecDepth 100000 in
theorem cl_X12_graft_99 {w : Wp} {X : Cx} {Q : State → Prop} {ρ : Int32 × Mm} (G : Good w X cX12_graft 8 RX12 (some .int) 19) (hQ : Q = MQ (xL X) (Qd w (encI ρ)) (xA X) (xS X) (xk X) (xs X) (Aw w)) (kE150 : Mm → Option (Int32 × Mm)) {a0 : Nat} {N : Nat} {a1 : Int32} {q7 : Int32} (h_a0 : lay a0 = (5, 12)) (hE150 : ∀ (Mz : Mm), Cov w X Q ρ some 8 150 [(0, .ref (wB w + pz (a0))), (1, .int a1), (3, .int q7)] [] Mz (kE150 Mz)) : ∀ (n : Nat) (l4_1 : Int32) (M3 : Mm), Cov w X Q ρ some 8 99 [(0, .ref (wB w + pz (a0))), (1, .int a1), (3, .int q7), (4, .int l4_1)] [] M3 (L_X12_graft_99 kE150 a0 N a1 q7 n l4_1 M3) := by
  intro n
  induction n with
  | zero => intro l4_1 M3; exact c_none
  | succ n ih =>
    intro l4_1 M3
    rw [L_X12_graft_99]
    refine c_iload G dX12_graft_99 3 rfl ?_
    refine c_bipush G (nI 8) dX12_graft_101 kB_8 ?_
    refine c_aload_n G dX12_graft_103 rfl 0 rfl ?_
    refine c_getI G fl_X12_322 h_a0 rfl dX12_graft_104 ?_
    refine c_imul G dX12_graft_107 ?_
    refine c_icmp_ge (tgt := 150) G dX12_graft_108 (by decide) (fun _ => ?_) (fun _ => ?_)
    · skip
      exact c_weak _ [0, 1, 2] rfl (hE150 M3)
    · skip
      refine c_aload_n G dX12_graft_111 rfl 0 rfl ?_
      refine c_getF G fl_X12_136 h_a0 rfl dX12_graft_112 ?_
      refine c_iload G dX12_graft_115 3 rfl ?_
      refine c_aload_n G dX12_graft_117 rfl 0 rfl ?_
      refine c_getF G fl_X12_126 h_a0 rfl dX12_graft_118 ?_
      refine c_iload G dX12_graft_121 3 rfl ?_
      refine c_zald G (lf h_a0 66 rfl) dX12_graft_123 (fun v1 _ => ?_)
      refine c_jn (ej := fun (p142 : Unit) => [(0, .ref (wB w + pz (a0))), (1, .int a1), (3, .int q7), (4, .int l4_1)]) (sj := fun p142 => [.int l4_1, .ref (wB w + pz ((a0 + 40)))]) (mj := fun p142 => M3) (pj := 142) (fun p142 => ?_) (fun J1 hJ142 => ?_)
      · skip
        refine c_iconst G (nI 0) dX12_graft_142 kI_0 ?_
        refine c_zast G (lf h_a0 69 rfl) dX12_graft_143 (fun M4 _ => ?_)
        refine c_iinc G (fun y__ => [(4, .int y__), (0, .ref (wB w + pz (a0))), (1, .int a1), (3, .int q7)]) dX12_graft_144 3 rfl kI_1 (by decide) (fun _ => rfl) (fun l4_2 _ => ?_)
        refine c_goto (tgt := 99) G dX12_graft_147 (by decide) ?_
        exact c_weak _ [1, 2, 3, 0] rfl (ih l4_2 M4)
      · skip
        refine c_if_eq (tgt := 142) G dX12_graft_124 (by decide) (fun _ => ?_) (fun _ => ?_)
        · skip
          exact c_weak _ [0, 1, 2, 3] rfl (hJ142 ())
        · skip
          refine c_aload_n G dX12_graft_127 rfl 0 rfl ?_
          refine c_iload G dX12_graft_128 3 rfl ?_
          refine c_iload_n G dX12_graft_130 rfl 1 rfl ?_
          refine c_iload_n G dX12_graft_131 rfl 2 rfl ?_
          refine c_callV_PI (d := 0) (rest := [.int l4_1, .ref (wB w + pz ((a0 + 40)))]) G [.int l4_1, .int a1, .int q7] yv_X12_wasTied ml_X12_571 (by omega) (by decide) rfl rfl (Nat.le_of_ble_eq_true rfl) h_a0 (fun q hq => con_X12_wasTied h_a0 hq) dX12_graft_132 (fun q12 _ => ?_)
          refine c_if_eq (tgt := 142) G dX12_graft_135 (by decide) (fun _ => ?_) (fun _ => ?_)
          · skip
            exact c_weak _ [0, 1, 2, 3] rfl (hJ142 ())
          · skip
            refine c_iconst G (nI 1) dX12_graft_138 kI_1 ?_
            refine c_goto (tgt := 143) G dX12_graft_139 (by decide) ?_
            refine c_zast G (lf h_a0 69 rfl) dX12_graft_143 (fun M5 _ => ?_)
            refine c_iinc G (fun y__ => [(4, .int y__), (0, .ref (wB w + pz (a0))), (1, .int a1), (3, .int q7)]) dX12_graft_144 3 rfl kI_1 (by decide) (fun _ => rfl) (fun l4_3 _ => ?_)
            refine c_goto (tgt := 99) G dX12_graft_147 (by decide) ?_
            exact c_weak _ [1, 2, 3, 0] rfl (ih l4_3 M5)
set_option maxHeartbeats 4000000 in
set_option maxRecDepth 100000 in
theorem cl_X12_graft_250 {w : Wp} {X : Cx} {Q : State → Prop} {ρ : Int32 × Mm} (G : Good w X cX12_graft 8 RX12 (some .int) 19) (hQ : Q = MQ (xL X) (Qd w (encI ρ)) (xA X) (xS X) (xk X) (xs X) (Aw w)) (kE300 : Mm → Option (Int32 × Mm)) {l6_1 : Int32} {a0 : Nat} {a1 : Int32} {l4_4 : Int32} {v2 : Int32} (h_a0 : lay a0 = (5, 12)) (hE300 : ∀ (Mz : Mm), Cov w X Q ρ some 8 300 [(0, .ref (wB w + pz (a0))), (1, .int a1), (4, .int l4_4), (5, .int v2), (6, .int l6_1)] [] Mz (kE300 Mz)) : ∀ (n : Nat) (l7_1 : Int32) (M12 : Mm), Cov w X Q ρ some 8 250 [(0, .ref (wB w + pz (a0))), (1, .int a1), (4, .int l4_4), (5, .int v2), (6, .int l6_1), (7, .int l7_1)] [] M12 (L_X12_graft_250 kE300 l6_1 a0 a1 n l7_1 M12) := by
  intro n
  induction n with
  | zero => intro l7_1 M12; exact c_none
  | succ n ih =>
    intro l7_1 M12
    rw [L_X12_graft_250]
    refine c_iload G dX12_graft_250 5 rfl ?_
    refine c_bipush G (nI 8) dX12_graft_252 kB_8 ?_
    refine c_icmp_ge (tgt := 300) G dX12_graft_254 (by decide) (fun _ => ?_) (fun _ => ?_)
    · skip
      exact c_weak _ [0, 1, 2, 3, 4] rfl (hE300 M12)
    · skip
      refine c_iload G dX12_graft_257 4 rfl ?_
      refine c_if_le (tgt := 300) G dX12_graft_259 (by decide) (fun _ => ?_) (fun _ => ?_)
      · skip
        exact c_weak _ [0, 1, 2, 3, 4] rfl (hE300 M12)
      · skip
        refine c_aload_n G dX12_graft_262 rfl 0 rfl ?_
        refine c_getF G fl_X12_139 h_a0 rfl dX12_graft_263 ?_
        refine c_bipush G (nI 8) dX12_graft_266 kB_8 ?_
        refine c_iload_n G dX12_graft_268 rfl 1 rfl ?_
        refine c_iload G dX12_graft_269 4 rfl ?_
        refine c_iadd G dX12_graft_271 ?_
        refine c_imul G dX12_graft_272 ?_
        refine c_iload G dX12_graft_273 5 rfl ?_
        refine c_iadd G dX12_graft_275 ?_
        refine c_iconst G (nI 1) dX12_graft_276 kI_1 ?_
        refine c_zast G (lf h_a0 70 rfl) dX12_graft_277 (fun M13 _ => ?_)
        refine c_aload_n G dX12_graft_278 rfl 0 rfl ?_
        refine c_getF G fl_X12_136 h_a0 rfl dX12_graft_279 ?_
        refine c_bipush G (nI 8) dX12_graft_282 kB_8 ?_
        refine c_iload_n G dX12_graft_284 rfl 1 rfl ?_
        refine c_iload G dX12_graft_285 4 rfl ?_
        refine c_iadd G dX12_graft_287 ?_
        refine c_imul G dX12_graft_288 ?_
        refine c_iload G dX12_graft_289 5 rfl ?_
        refine c_iadd G dX12_graft_291 ?_
        refine c_iconst G (nI 1) dX12_graft_292 kI_1 ?_
        refine c_zast G (lf h_a0 69 rfl) dX12_graft_293 (fun M14 _ => ?_)
        refine c_iinc G (fun y__ => [(7, .int y__), (0, .ref (wB w + pz (a0))), (1, .int a1), (4, .int l4_4), (5, .int v2), (6, .int l6_1)]) dX12_graft_294 5 rfl kI_1 (by decide) (fun _ => rfl) (fun l7_2 _ => ?_)
        refine c_goto (tgt := 250) G dX12_graft_297 (by decide) ?_
        exact c_weak _ [1, 2, 3, 4, 5, 0] rfl (ih l7_2 M14)
set_option maxHeartbeats 4000000 in
set_option maxRecDepth 100000 in
theorem cl_X12_graft_178 {w : Wp} {X : Cx} {Q : State → Prop} {ρ : Int32 × Mm} (G : Good w X cX12_graft 8 RX12 (some .int) 19) (hQ : Q = MQ (xL X) (Qd w (encI ρ)) (xA X) (xS X) (xk X) (xs X) (Aw w)) (kE306 : Mm → Option (Int32 × Mm)) {a0 : Nat} {a1 : Int32} {v2 : Int32} {N : Nat} {l4_4 : Int32} (h_a0 : lay a0 = (5, 12)) (hE306 : ∀ (Mz : Mm), Cov w X Q ρ some 8 306 [(0, .ref (wB w + pz (a0))), (1, .int a1), (4, .int l4_4)] [] Mz (kE306 Mz)) : ∀ (n : Nat) (l6_1 : Int32) (M8 : Mm), Cov w X Q ρ some 8 178 [(0, .ref (wB w + pz (a0))), (1, .int a1), (4, .int l4_4), (5, .int v2), (6, .int l6_1)] [] M8 (L_X12_graft_178 kE306 a0 a1 v2 N n l6_1 M8) := by
  intro n
  induction n with
  | zero => intro l6_1 M8; exact c_none
  | succ n ih =>
    intro l6_1 M8
    rw [L_X12_graft_178]
    refine c_iload G dX12_graft_178 4 rfl ?_
    refine c_aload_n G dX12_graft_180 rfl 0 rfl ?_
    refine c_getI G fl_X12_469 h_a0 rfl dX12_graft_181 ?_
    refine c_icmp_ge (tgt := 306) G dX12_graft_184 (by decide) (fun _ => ?_) (fun _ => ?_)
    · skip
      exact c_weak _ [0, 1, 2] rfl (hE306 M8)
    · skip
      refine c_aload_n G dX12_graft_187 rfl 0 rfl ?_
      refine c_getF G fl_X12_75 h_a0 rfl dX12_graft_188 ?_
      refine c_iload_n G dX12_graft_191 rfl 1 rfl ?_
      refine c_iload G dX12_graft_192 4 rfl ?_
      refine c_iadd G dX12_graft_194 ?_
      refine c_aload_n G dX12_graft_195 rfl 0 rfl ?_
      refine c_getF G fl_X12_84 h_a0 rfl dX12_graft_196 ?_
      refine c_iload G dX12_graft_199 4 rfl ?_
      refine c_iald G (lf h_a0 46 rfl) dX12_graft_201 (fun v3 _ => ?_)
      refine c_iast G (lf h_a0 43 rfl) dX12_graft_202 (fun M9 _ => ?_)
      refine c_aload_n G dX12_graft_203 rfl 0 rfl ?_
      refine c_getF G fl_X12_78 h_a0 rfl dX12_graft_204 ?_
      refine c_iload_n G dX12_graft_207 rfl 1 rfl ?_
      refine c_iload G dX12_graft_208 4 rfl ?_
      refine c_iadd G dX12_graft_210 ?_
      refine c_aload_n G dX12_graft_211 rfl 0 rfl ?_
      refine c_getF G fl_X12_87 h_a0 rfl dX12_graft_212 ?_
      refine c_iload G dX12_graft_215 4 rfl ?_
      refine c_iald G (lf h_a0 47 rfl) dX12_graft_217 (fun v4 _ => ?_)
      refine c_iast G (lf h_a0 44 rfl) dX12_graft_218 (fun M10 _ => ?_)
      refine c_aload_n G dX12_graft_219 rfl 0 rfl ?_
      refine c_getF G fl_X12_81 h_a0 rfl dX12_graft_220 ?_
      refine c_iload_n G dX12_graft_223 rfl 1 rfl ?_
      refine c_iload G dX12_graft_224 4 rfl ?_
      refine c_iadd G dX12_graft_226 ?_
      refine c_iload G dX12_graft_227 4 rfl ?_
      refine c_bj (ej := fun (p246 : Int32) => [(0, .ref (wB w + pz (a0))), (1, .int a1), (4, .int l4_4), (5, .int v2), (6, .int l6_1)]) (sj := fun p246 => [.int p246, .int (a1 + l6_1), .ref (wB w + pz ((a0 + 22)))]) (mj := fun p246 => M10) (pj := 246) (fun p246 => ?_) (fun F hJ246 => ?_)
      · skip
        refine c_iast G (lf h_a0 45 rfl) dX12_graft_246 (fun M11 _ => ?_)
        refine c_iconst G (nI 0) dX12_graft_247 kI_0 ?_
        refine c_istore G [(7, .int (nI 0)), (0, .ref (wB w + pz (a0))), (1, .int a1), (4, .int l4_4), (5, .int v2), (6, .int l6_1)] dX12_graft_248 (by decide) rfl ?_
        refine c_weak _ [1, 2, 3, 4, 5, 0] rfl (cl_X12_graft_250 G hQ _ h_a0 ?_ N (nI 0) M11)
        · intro M15
          refine c_iinc G (fun y__ => [(6, .int y__), (0, .ref (wB w + pz (a0))), (1, .int a1), (4, .int l4_4), (5, .int v2)]) dX12_graft_300 4 rfl kI_1 (by decide) (fun _ => rfl) (fun l6_2 _ => ?_)
          refine c_goto (tgt := 178) G dX12_graft_303 (by decide) ?_
          exact c_weak _ [1, 2, 3, 4, 0] rfl (ih l6_2 M15)
      · skip
        refine c_if_ne (tgt := 237) G dX12_graft_229 (by decide) (fun _ => ?_) (fun _ => ?_)
        · skip
          refine c_iload G dX12_graft_232 3 rfl ?_
          refine c_goto (tgt := 246) G dX12_graft_234 (by decide) ?_
          exact c_weak _ [0, 1, 2, 3, 4] rfl (hJ246 v2)
        · skip
          refine c_aload_n G dX12_graft_237 rfl 0 rfl ?_
          refine c_getF G fl_X12_90 h_a0 rfl dX12_graft_238 ?_
          refine c_iload G dX12_graft_241 4 rfl ?_
          refine c_iald G (lf h_a0 48 rfl) dX12_graft_243 (fun v5 _ => ?_)
          refine c_iload_n G dX12_graft_244 rfl 1 rfl ?_
          refine c_iadd G dX12_graft_245 ?_
          exact c_weak _ [0, 1, 2, 3, 4] rfl (hJ246 (v5 + a1))
set_option maxHeartbeats 4000000 in
set_option maxRecDepth 100000 in
theorem cl_X12_graft_331 {w : Wp} {X : Cx} {Q : State → Prop} {ρ : Int32 × Mm} (G : Good w X cX12_graft 8 RX12 (some .int) 19) (hQ : Q = MQ (xL X) (Qd w (encI ρ)) (xA X) (xS X) (xk X) (xs X) (Aw w)) (kE364 : Mm → Option (Int32 × Mm)) {N : Nat} {a0 : Nat} {a1 : Int32} (h_a0 : lay a0 = (5, 12)) (hE364 : ∀ (Mz : Mm), Cov w X Q ρ some 8 364 [(0, .ref (wB w + pz (a0)))] [] Mz (kE364 Mz)) : ∀ (n : Nat) (l6_3 : Int32) (M18 : Mm), Cov w X Q ρ some 8 331 [(0, .ref (wB w + pz (a0))), (1, .int a1), (6, .int l6_3)] [] M18 (L_X12_graft_331 kE364 N a0 a1 n l6_3 M18) := by
  intro n
  induction n with
  | zero => intro l6_3 M18; exact c_none
  | succ n ih =>
    intro l6_3 M18
    rw [L_X12_graft_331]
    refine c_iload G dX12_graft_331 2 rfl ?_
    refine c_aload_n G dX12_graft_333 rfl 0 rfl ?_
    refine c_aload_n G dX12_graft_334 rfl 0 rfl ?_
    refine c_iload_n G dX12_graft_335 rfl 1 rfl ?_
    refine c_callV_PI (d := 0) (rest := [.ref (wB w + pz (a0)), .int l6_3]) G [.int a1] yv_X12_symbolOf ml_X12_487 (by omega) (by decide) rfl rfl (Nat.le_of_ble_eq_true rfl) h_a0 (fun q hq => con_X12_symbolOf h_a0 hq) dX12_graft_336 (fun q14 _ => ?_)
    refine c_callV_PI (d := 1) (rest := [.int l6_3]) G [.int q14] yv_X12_attributes ml_X12_334 (by omega) (by decide) rfl rfl (Nat.le_of_ble_eq_true rfl) h_a0 (fun q hq => con_X12_attributes h_a0 hq) dX12_graft_339 (fun q15 _ => ?_)
    refine c_icmp_ge (tgt := 364) G dX12_graft_342 (by decide) (fun _ => ?_) (fun _ => ?_)
    · skip
      exact c_weak _ [0] rfl (hE364 M18)
    · skip
      refine c_aload_n G dX12_graft_345 rfl 0 rfl ?_
      refine c_getF G fl_X12_136 h_a0 rfl dX12_graft_346 ?_
      refine c_bipush G (nI 8) dX12_graft_349 kB_8 ?_
      refine c_iload_n G dX12_graft_351 rfl 1 rfl ?_
      refine c_imul G dX12_graft_352 ?_
      refine c_iload G dX12_graft_353 2 rfl ?_
      refine c_iadd G dX12_graft_355 ?_
      refine c_iconst G (nI 1) dX12_graft_356 kI_1 ?_
      refine c_zast G (lf h_a0 69 rfl) dX12_graft_357 (fun M19 _ => ?_)
      refine c_iinc G (fun y__ => [(6, .int y__), (0, .ref (wB w + pz (a0))), (1, .int a1)]) dX12_graft_358 2 rfl kI_1 (by decide) (fun _ => rfl) (fun l6_4 _ => ?_)
      refine c_goto (tgt := 331) G dX12_graft_361 (by decide) ?_
      exact c_weak _ [1, 2, 0] rfl (ih l6_4 M19)
set_option maxHeartbeats 4000000 in
set_option maxRecDepth 100000 in
theorem con_X12_graft {w : Wp} {N : Nat} {a0 : Nat} {a1 : Int32} {a2 : Int32} {M : Mm} {q : Int32 × Mm} (h_a0 : lay a0 = (5, 12)) (hq : D_X12_graft N a0 a1 a2 M = some q) : Con w 19 yX12_graft cX12_graft 8 (some .int) [.ref (wB w + pz (a0)), .int a1, .int a2] M (encI q) := by
  refine Con.of encI q _ hq (by decide) (Nat.le_of_ble_eq_true rfl) ?_
  intro X G Q hQ
  have G : Good w X cX12_graft 8 RX12 (some .int) 19 := G
  refine c_weak [(0, .ref (wB w + pz (a0))), (1, .int a1), (2, .int a2)] [0, 1, 2] rfl ?_
  rw [D_X12_graft]
  refine c_iload_n G dX12_graft_0 rfl 2 rfl ?_
  refine c_iconst G (nI 0) dX12_graft_1 kI_0 ?_
  refine c_aload_n G dX12_graft_2 rfl 0 rfl ?_
  refine c_getI G fl_X12_154 h_a0 rfl dX12_graft_3 ?_
  refine c_callS_PI (d := 0) (rest := []) G [.int a2, .int (nI 0), .int (M.1 a0 5)] ys_X12_isFrom ml_X12_246 (by omega) (by decide) rfl rfl (Nat.le_of_ble_eq_true rfl) (fun q hq => con_X12_isFrom hq) dX12_graft_6 (fun q1 _ => ?_)
  refine c_if_ne (tgt := 18) G dX12_graft_9 (by decide) (fun _ => ?_) (fun _ => ?_)
  · skip
    refine c_aload_n G dX12_graft_12 rfl 0 rfl ?_
    refine c_iconst G (nI 1) dX12_graft_13 kI_1 ?_
    refine c_callV_I (d := 0) (rest := []) G [.int (nI 1)] yv_X12_refuse ml_X12_305 (by omega) (by decide) rfl rfl (Nat.le_of_ble_eq_true rfl) h_a0 (fun q hq => con_X12_refuse h_a0 hq) dX12_graft_14 (fun q2 _ => ?_)
    exact c_iret G hQ dX12_graft_17
  · skip
    refine c_aload_n G dX12_graft_18 rfl 0 rfl ?_
    refine c_callV_PI (d := 0) (rest := []) G [] yv_X12_hasTree ml_X12_544 (by omega) (by decide) rfl rfl (Nat.le_of_ble_eq_true rfl) h_a0 (fun q hq => con_X12_hasTree h_a0 hq) dX12_graft_19 (fun q3 _ => ?_)
    refine c_if_ne (tgt := 31) G dX12_graft_22 (by decide) (fun _ => ?_) (fun _ => ?_)
    · skip
      refine c_aload_n G dX12_graft_25 rfl 0 rfl ?_
      refine c_iconst G (nI 3) dX12_graft_26 kI_3 ?_
      refine c_callV_I (d := 0) (rest := []) G [.int (nI 3)] yv_X12_refuse ml_X12_305 (by omega) (by decide) rfl rfl (Nat.le_of_ble_eq_true rfl) h_a0 (fun q hq => con_X12_refuse h_a0 hq) dX12_graft_27 (fun q4 _ => ?_)
      exact c_iret G hQ dX12_graft_30
    · skip
      refine c_aload_n G dX12_graft_31 rfl 0 rfl ?_
      refine c_iload_n G dX12_graft_32 rfl 1 rfl ?_
      refine c_callV_PI (d := 1) (rest := []) G [.int a1] yv_X12_isNode ml_X12_484 (by omega) (by decide) rfl rfl (Nat.le_of_ble_eq_true rfl) h_a0 (fun q hq => con_X12_isNode h_a0 hq) dX12_graft_33 (fun q5 _ => ?_)
      refine c_if_ne (tgt := 45) G dX12_graft_36 (by decide) (fun _ => ?_) (fun _ => ?_)
      · skip
        refine c_aload_n G dX12_graft_39 rfl 0 rfl ?_
        refine c_iconst G (nI 4) dX12_graft_40 kI_4 ?_
        refine c_callV_I (d := 0) (rest := []) G [.int (nI 4)] yv_X12_refuse ml_X12_305 (by omega) (by decide) rfl rfl (Nat.le_of_ble_eq_true rfl) h_a0 (fun q hq => con_X12_refuse h_a0 hq) dX12_graft_41 (fun q6 _ => ?_)
        exact c_iret G hQ dX12_graft_44
      · skip
        refine c_aload_n G dX12_graft_45 rfl 0 rfl ?_
        refine c_iload_n G dX12_graft_46 rfl 1 rfl ?_
        refine c_callV_PI (d := 0) (rest := []) G [.int a1] yv_X12_sizeOf ml_X12_496 (by omega) (by decide) rfl rfl (Nat.le_of_ble_eq_true rfl) h_a0 (fun q hq => con_X12_sizeOf h_a0 hq) dX12_graft_47 (fun q7 _ => ?_)
        refine c_istore_n G [(3, .int q7), (0, .ref (wB w + pz (a0))), (1, .int a1), (2, .int a2)] dX12_graft_50 rfl (by decide) rfl ?_
        refine c_aload_n G dX12_graft_51 rfl 1 rfl ?_
        refine c_aload_n G dX12_graft_52 rfl 1 rfl ?_
        refine c_getI G fl_X12_322 h_a0 rfl dX12_graft_53 ?_
        refine c_iload_n G dX12_graft_56 rfl 0 rfl ?_
        refine c_isub G dX12_graft_57 ?_
        refine c_putI G fp_X12_466 h_a0 rfl dX12_graft_58 (fun M1 _ => ?_)
        refine c_aload_n G dX12_graft_61 rfl 1 rfl ?_
        refine c_aload_n G dX12_graft_62 rfl 1 rfl ?_
        refine c_iload_n G dX12_graft_63 rfl 3 rfl ?_
        refine c_aload_n G dX12_graft_64 rfl 1 rfl ?_
        refine c_iload_n G dX12_graft_65 rfl 2 rfl ?_
        refine c_callV_PI (d := 0) (rest := [.int a2, .ref (wB w + pz (a0)), .ref (wB w + pz (a0))]) G [.int a1] yv_X12_symbolOf ml_X12_487 (by omega) (by decide) rfl rfl (Nat.le_of_ble_eq_true rfl) h_a0 (fun q hq => con_X12_symbolOf h_a0 hq) dX12_graft_66 (fun q8 _ => ?_)
        refine c_aload_n G dX12_graft_69 rfl 1 rfl ?_
        refine c_iload_n G dX12_graft_70 rfl 2 rfl ?_
        refine c_callV_PI (d := 14) (rest := [.int q8, .int a2, .ref (wB w + pz (a0)), .ref (wB w + pz (a0))]) G [.int a1] yv_X12_depthOf ml_X12_490 (by omega) (by decide) rfl rfl (Nat.le_of_ble_eq_true rfl) h_a0 (fun q hq => con_X12_depthOf h_a0 hq) dX12_graft_71 (fun q9 _ => ?_)
        refine c_iconst G (nI 1) dX12_graft_74 kI_1 ?_
        refine c_iadd G dX12_graft_75 ?_
        refine c_callV_I (d := 18) (rest := [.ref (wB w + pz (a0))]) G [.int a2, .int q8, .int (q9 + (nI 1))] yv_X12_readTree ml_X12_475 (by omega) (by decide) rfl rfl (Nat.le_of_ble_eq_true rfl) h_a0 (fun q hq => con_X12_readTree h_a0 hq) dX12_graft_76 (fun q10 _ => ?_)
        refine c_callV_I (d := 0) (rest := []) G [.int q10.1] yv_X12_ends ml_X12_314 (by omega) (by decide) rfl rfl (Nat.le_of_ble_eq_true rfl) h_a0 (fun q hq => con_X12_ends h_a0 hq) dX12_graft_79 (fun q11 _ => ?_)
        refine c_if_le (tgt := 92) G dX12_graft_82 (by decide) (fun _ => ?_) (fun _ => ?_)
        · skip
          refine c_aload_n G dX12_graft_92 rfl 1 rfl ?_
          refine c_callV_V (d := 0) (rest := []) G [] yv_X12_beginsChange ml_X12_562 (by omega) (by decide) rfl rfl (Nat.le_of_ble_eq_true rfl) h_a0 (fun q hq => con_X12_beginsChange h_a0 hq) dX12_graft_93 (fun M2 _ => ?_)
          refine c_iconst G (nI 0) dX12_graft_96 kI_0 ?_
          refine c_istore G [(4, .int (nI 0)), (3, .int q7), (0, .ref (wB w + pz (a0))), (1, .int a1), (2, .int a2)] dX12_graft_97 (by decide) rfl ?_
          refine c_weak _ [2, 3, 1, 0] rfl (cl_X12_graft_99 G hQ _ h_a0 ?_ N (nI 0) M2)
          · intro M6
            refine c_aload_n G dX12_graft_150 rfl 0 rfl ?_
            refine c_getI G fl_X12_469 h_a0 rfl dX12_graft_151 ?_
            refine c_iload_n G dX12_graft_154 rfl 2 rfl ?_
            refine c_isub G dX12_graft_155 ?_
            refine c_let (fun l4_4 _ => ?_)
            refine c_istore G [(4, .int l4_4), (0, .ref (wB w + pz (a0))), (1, .int a1), (3, .int q7)] dX12_graft_156 (by decide) rfl ?_
            refine c_aload_n G dX12_graft_158 rfl 1 rfl ?_
            refine c_iload_n G dX12_graft_159 rfl 2 rfl ?_
            refine c_iload_n G dX12_graft_160 rfl 3 rfl ?_
            refine c_iadd G dX12_graft_161 ?_
            refine c_iload G dX12_graft_162 0 rfl ?_
            refine c_callV_V (d := 0) (rest := []) G [.int (a1 + q7), .int l4_4] yv_X12_movesBehind ml_X12_574 (by omega) (by decide) rfl rfl (Nat.le_of_ble_eq_true rfl) h_a0 (fun q hq => con_X12_movesBehind h_a0 hq) dX12_graft_164 (fun M7 _ => ?_)
            refine c_aload_n G dX12_graft_167 rfl 1 rfl ?_
            refine c_getF G fl_X12_81 h_a0 rfl dX12_graft_168 ?_
            refine c_iload_n G dX12_graft_171 rfl 2 rfl ?_
            refine c_iald G (lf h_a0 45 rfl) dX12_graft_172 (fun v2 _ => ?_)
            refine c_istore G [(5, .int v2), (4, .int l4_4), (0, .ref (wB w + pz (a0))), (1, .int a1), (3, .int q7)] dX12_graft_173 (by decide) rfl ?_
            refine c_iconst G (nI 0) dX12_graft_175 kI_0 ?_
            refine c_istore G [(6, .int (nI 0)), (5, .int v2), (4, .int l4_4), (0, .ref (wB w + pz (a0))), (1, .int a1), (3, .int q7)] dX12_graft_176 (by decide) rfl ?_
            refine c_weak _ [3, 4, 2, 1, 0] rfl (cl_X12_graft_178 G hQ _ h_a0 ?_ N (nI 0) M7)
            · intro M16
              refine c_aload_n G dX12_graft_306 rfl 0 rfl ?_
              refine c_dup G dX12_graft_307 rfl ?_
              refine c_getI G fl_X12_322 h_a0 rfl dX12_graft_308 ?_
              refine c_iload G dX12_graft_311 2 rfl ?_
              refine c_iadd G dX12_graft_313 ?_
              refine c_putI G fp_X12_322 h_a0 rfl dX12_graft_314 (fun M17 _ => ?_)
              refine c_aload_n G dX12_graft_317 rfl 0 rfl ?_
              refine c_getF G fl_X12_13 h_a0 rfl dX12_graft_318 ?_
              refine c_iconst G (nI 4) dX12_graft_321 kI_4 ?_
              refine c_aload_n G dX12_graft_322 rfl 0 rfl ?_
              refine c_iload_n G dX12_graft_323 rfl 1 rfl ?_
              refine c_callV_PI (d := 0) (rest := [.int (nI 4), .ref (wB w + pz ((a0 + 2)))]) G [.int a1] yv_X12_symbolOf ml_X12_487 (by omega) (by decide) rfl rfl (Nat.le_of_ble_eq_true rfl) h_a0 (fun q hq => con_X12_symbolOf h_a0 hq) dX12_graft_324 (fun q13 _ => ?_)
              refine c_iadd G dX12_graft_327 ?_
              refine c_iald G (lf h_a0 1 rfl) dX12_graft_328 (fun v6 _ => ?_)
              refine c_istore G [(6, .int v6), (0, .ref (wB w + pz (a0))), (1, .int a1), (4, .int l4_4)] dX12_graft_329 (by decide) rfl ?_
              refine c_weak _ [1, 2, 0] rfl (cl_X12_graft_331 G hQ _ h_a0 ?_ N v6 M17)
              · intro M20
                refine c_aload_n G dX12_graft_364 rfl 0 rfl ?_
                refine c_callV_V (d := 5) (rest := []) G [] yv_X12_counts ml_X12_568 (by omega) (by decide) rfl rfl (Nat.le_of_ble_eq_true rfl) h_a0 (fun q hq => con_X12_counts h_a0 hq) dX12_graft_365 (fun M21 _ => ?_)
                refine c_aload_n G dX12_graft_368 rfl 0 rfl ?_
                refine c_aload_n G dX12_graft_369 rfl 0 rfl ?_
                refine c_getI G fl_X12_322 h_a0 rfl dX12_graft_370 ?_
                refine c_callV_I (d := 0) (rest := []) G [.int (M21.1 a0 50)] yv_X12_gives ml_X12_328 (by omega) (by decide) rfl rfl (Nat.le_of_ble_eq_true rfl) h_a0 (fun q hq => con_X12_gives h_a0 hq) dX12_graft_373 (fun q16 _ => ?_)
                exact c_iret G hQ dX12_graft_376
        · skip
          refine c_aload_n G dX12_graft_85 rfl 1 rfl ?_
          refine c_bipush G (nI 9) dX12_graft_86 kB_9 ?_
          refine c_callV_I (d := 0) (rest := []) G [.int (nI 9)] yv_X12_refuse ml_X12_305 (by omega) (by decide) rfl rfl (Nat.le_of_ble_eq_true rfl) h_a0 (fun q hq => con_X12_refuse h_a0 hq) dX12_graft_88 (fun q17 _ => ?_)
          exact c_iret G hQ dX12_graft_91
set_option maxHeartbeats 4000000 in
set_option maxRecDepth 100000 in
theorem con_X12_anew {w : Wp} {N : Nat} {a0 : Nat} {a1 : Int32} {M : Mm} {q : Int32 × Mm} (h_a0 : lay a0 = (5, 12)) (hq : D_X12_anew N a0 a1 M = some q) : Con w 1 yX12_anew cX12_anew 2 (some .int) [.ref (wB w + pz (a0)), .int a1] M (encI q) := by
  refine Con.of encI q _ hq (by decide) (Nat.le_of_ble_eq_true rfl) ?_
  intro X G Q hQ
  have G : Good w X cX12_anew 2 RX12 (some .int) 1 := G
  refine c_weak [(0, .ref (wB w + pz (a0))), (1, .int a1)] [0, 1] rfl ?_
  rw [D_X12_anew]
  refine c_iload_n G dX12_anew_0 rfl 1 rfl ?_
  refine c_iconst G (nI 0) dX12_anew_1 kI_0 ?_
  refine c_iconst G (nI 1) dX12_anew_2 kI_1 ?_
  refine c_callS_PI (d := 0) (rest := []) G [.int a1, .int (nI 0), .int (nI 1)] ys_X12_isFrom ml_X12_246 (by omega) (by decide) rfl rfl (Nat.le_of_ble_eq_true rfl) (fun q hq => con_X12_isFrom hq) dX12_anew_3 (fun q1 _ => ?_)
  refine c_if_ne (tgt := 15) G dX12_anew_6 (by decide) (fun _ => ?_) (fun _ => ?_)
  · skip
    refine c_aload_n G dX12_anew_9 rfl 0 rfl ?_
    refine c_iconst G (nI 1) dX12_anew_10 kI_1 ?_
    refine c_callV_I (d := 0) (rest := []) G [.int (nI 1)] yv_X12_refuse ml_X12_305 (by omega) (by decide) rfl rfl (Nat.le_of_ble_eq_true rfl) h_a0 (fun q hq => con_X12_refuse h_a0 hq) dX12_anew_11 (fun q2 _ => ?_)
    exact c_iret G hQ dX12_anew_14
  · skip
    refine c_aload_n G dX12_anew_15 rfl 0 rfl ?_
    refine c_callV_PI (d := 0) (rest := []) G [] yv_X12_hasTree ml_X12_544 (by omega) (by decide) rfl rfl (Nat.le_of_ble_eq_true rfl) h_a0 (fun q hq => con_X12_hasTree h_a0 hq) dX12_anew_16 (fun q3 _ => ?_)
    refine c_if_ne (tgt := 28) G dX12_anew_19 (by decide) (fun _ => ?_) (fun _ => ?_)
    · skip
      refine c_aload_n G dX12_anew_22 rfl 0 rfl ?_
      refine c_iconst G (nI 3) dX12_anew_23 kI_3 ?_
      refine c_callV_I (d := 0) (rest := []) G [.int (nI 3)] yv_X12_refuse ml_X12_305 (by omega) (by decide) rfl rfl (Nat.le_of_ble_eq_true rfl) h_a0 (fun q hq => con_X12_refuse h_a0 hq) dX12_anew_24 (fun q4 _ => ?_)
      exact c_iret G hQ dX12_anew_27
    · skip
      refine c_aload_n G dX12_anew_28 rfl 0 rfl ?_
      refine c_getI G fl_X12_478 h_a0 rfl dX12_anew_29 ?_
      refine c_if_ne (tgt := 42) G dX12_anew_32 (by decide) (fun _ => ?_) (fun _ => ?_)
      · skip
        refine c_aload_n G dX12_anew_35 rfl 0 rfl ?_
        refine c_bipush G (nI 7) dX12_anew_36 kB_7 ?_
        refine c_callV_I (d := 0) (rest := []) G [.int (nI 7)] yv_X12_refuse ml_X12_305 (by omega) (by decide) rfl rfl (Nat.le_of_ble_eq_true rfl) h_a0 (fun q hq => con_X12_refuse h_a0 hq) dX12_anew_38 (fun q5 _ => ?_)
        exact c_iret G hQ dX12_anew_41
      · skip
        refine c_aload_n G dX12_anew_42 rfl 0 rfl ?_
        refine c_iload_n G dX12_anew_43 rfl 1 rfl ?_
        refine c_if_ne (tgt := 54) G dX12_anew_44 (by decide) (fun _ => ?_) (fun _ => ?_)
        · skip
          refine c_aload_n G dX12_anew_47 rfl 0 rfl ?_
          refine c_getI G fl_X12_550 h_a0 rfl dX12_anew_48 ?_
          refine c_goto (tgt := 58) G dX12_anew_51 (by decide) ?_
          refine c_callV_I (d := 0) (rest := []) G [.int (M.1 a0 54)] yv_X12_gives ml_X12_328 (by omega) (by decide) rfl rfl (Nat.le_of_ble_eq_true rfl) h_a0 (fun q hq => con_X12_gives h_a0 hq) dX12_anew_58 (fun q6 _ => ?_)
          exact c_iret G hQ dX12_anew_61
        · skip
          refine c_aload_n G dX12_anew_54 rfl 0 rfl ?_
          refine c_getI G fl_X12_553 h_a0 rfl dX12_anew_55 ?_
          refine c_callV_I (d := 0) (rest := []) G [.int (M.1 a0 55)] yv_X12_gives ml_X12_328 (by omega) (by decide) rfl rfl (Nat.le_of_ble_eq_true rfl) h_a0 (fun q hq => con_X12_gives h_a0 hq) dX12_anew_58 (fun q7 _ => ?_)
          exact c_iret G hQ dX12_anew_61
set_option maxHeartbeats 4000000 in
set_option maxRecDepth 100000 in
theorem cl_X12_digest_18 {w : Wp} {X : Cx} {Q : State → Prop} {ρ : Int32 × Mm} (G : Good w X cX12_digest 3 RX12 (some .int) 1) (hQ : Q = MQ (xL X) (Qd w (encI ρ)) (xA X) (xS X) (xk X) (xs X) (Aw w)) {M : Mm} {a0 : Nat} {N : Nat} (h_a0 : lay a0 = (5, 12)) : ∀ (n : Nat) (l1_1 : Int32) (l2_1 : Int32), Cov w X Q ρ some 3 18 [(0, .ref (wB w + pz (a0))), (1, .int l1_1), (2, .int l2_1)] [] M (L_X12_digest_18 M a0 N n l1_1 l2_1) := by
  intro n
  induction n with
  | zero => intro l1_1 l2_1; exact c_none
  | succ n ih =>
    intro l1_1 l2_1
    rw [L_X12_digest_18]
    refine c_iload_n G dX12_digest_18 rfl 2 rfl ?_
    refine c_bipush G (nI 8) dX12_digest_19 kB_8 ?_
    refine c_aload_n G dX12_digest_21 rfl 0 rfl ?_
    refine c_getI G fl_X12_322 h_a0 rfl dX12_digest_22 ?_
    refine c_imul G dX12_digest_25 ?_
    refine c_icmp_ge (tgt := 56) G dX12_digest_26 (by decide) (fun _ => ?_) (fun _ => ?_)
    · skip
      refine c_aload_n G dX12_digest_56 rfl 0 rfl ?_
      refine c_iload_n G dX12_digest_57 rfl 1 rfl ?_
      refine c_callV_I (d := 0) (rest := []) G [.int l1_1] yv_X12_gives ml_X12_328 (by omega) (by decide) rfl rfl (Nat.le_of_ble_eq_true rfl) h_a0 (fun q hq => con_X12_gives h_a0 hq) dX12_digest_58 (fun q3 _ => ?_)
      exact c_iret G hQ dX12_digest_61
    · skip
      refine c_aload_n G dX12_digest_29 rfl 0 rfl ?_
      refine c_getF G fl_X12_126 h_a0 rfl dX12_digest_30 ?_
      refine c_iload_n G dX12_digest_33 rfl 2 rfl ?_
      refine c_zald G (lf h_a0 66 rfl) dX12_digest_34 (fun v1 _ => ?_)
      refine c_if_eq (tgt := 50) G dX12_digest_35 (by decide) (fun _ => ?_) (fun _ => ?_)
      · skip
        refine c_iinc G (fun y__ => [(2, .int y__), (0, .ref (wB w + pz (a0))), (1, .int l1_1)]) dX12_digest_50 2 rfl kI_1 (by decide) (fun _ => rfl) (fun l2_2 _ => ?_)
        refine c_goto (tgt := 18) G dX12_digest_53 (by decide) ?_
        exact c_weak _ [1, 2, 0] rfl (ih l1_1 l2_2)
      · skip
        refine c_bipush G (nI 31) dX12_digest_38 kB_31 ?_
        refine c_iload_n G dX12_digest_40 rfl 1 rfl ?_
        refine c_imul G dX12_digest_41 ?_
        refine c_aload_n G dX12_digest_42 rfl 0 rfl ?_
        refine c_getF G fl_X12_102 h_a0 rfl dX12_digest_43 ?_
        refine c_iload_n G dX12_digest_46 rfl 2 rfl ?_
        refine c_iald G (lf h_a0 58 rfl) dX12_digest_47 (fun v2 _ => ?_)
        refine c_iadd G dX12_digest_48 ?_
        refine c_let (fun l1_2 _ => ?_)
        refine c_istore_n G [(1, .int l1_2), (0, .ref (wB w + pz (a0))), (2, .int l2_1)] dX12_digest_49 rfl (by decide) rfl ?_
        refine c_iinc G (fun y__ => [(2, .int y__), (1, .int l1_2), (0, .ref (wB w + pz (a0)))]) dX12_digest_50 2 rfl kI_1 (by decide) (fun _ => rfl) (fun l2_3 _ => ?_)
        refine c_goto (tgt := 18) G dX12_digest_53 (by decide) ?_
        exact c_weak _ [2, 1, 0] rfl (ih l1_2 l2_3)
set_option maxHeartbeats 4000000 in
set_option maxRecDepth 100000 in
theorem con_X12_digest {w : Wp} {N : Nat} {a0 : Nat} {M : Mm} {q : Int32 × Mm} (h_a0 : lay a0 = (5, 12)) (hq : D_X12_digest N a0 M = some q) : Con w 1 yX12_digest cX12_digest 3 (some .int) [.ref (wB w + pz (a0))] M (encI q) := by
  refine Con.of encI q _ hq (by decide) (Nat.le_of_ble_eq_true rfl) ?_
  intro X G Q hQ
  have G : Good w X cX12_digest 3 RX12 (some .int) 1 := G
  refine c_weak [(0, .ref (wB w + pz (a0)))] [0] rfl ?_
  rw [D_X12_digest]
  refine c_aload_n G dX12_digest_0 rfl 0 rfl ?_
  refine c_callV_PI (d := 0) (rest := []) G [] yv_X12_hasTree ml_X12_544 (by omega) (by decide) rfl rfl (Nat.le_of_ble_eq_true rfl) h_a0 (fun q hq => con_X12_hasTree h_a0 hq) dX12_digest_1 (fun q1 _ => ?_)
  refine c_if_ne (tgt := 13) G dX12_digest_4 (by decide) (fun _ => ?_) (fun _ => ?_)
  · skip
    refine c_aload_n G dX12_digest_7 rfl 0 rfl ?_
    refine c_iconst G (nI 3) dX12_digest_8 kI_3 ?_
    refine c_callV_I (d := 0) (rest := []) G [.int (nI 3)] yv_X12_refuse ml_X12_305 (by omega) (by decide) rfl rfl (Nat.le_of_ble_eq_true rfl) h_a0 (fun q hq => con_X12_refuse h_a0 hq) dX12_digest_9 (fun q2 _ => ?_)
    exact c_iret G hQ dX12_digest_12
  · skip
    refine c_bipush G (nI 17) dX12_digest_13 kB_17 ?_
    refine c_istore_n G [(1, .int (nI 17)), (0, .ref (wB w + pz (a0)))] dX12_digest_15 rfl (by decide) rfl ?_
    refine c_iconst G (nI 0) dX12_digest_16 kI_0 ?_
    refine c_istore_n G [(2, .int (nI 0)), (1, .int (nI 17)), (0, .ref (wB w + pz (a0)))] dX12_digest_17 rfl (by decide) rfl ?_
    refine c_weak _ [2, 1, 0] rfl (cl_X12_digest_18 G hQ  h_a0 N (nI 17) (nI 0))
