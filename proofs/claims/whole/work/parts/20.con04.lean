set_option maxHeartbeats 4000000 in
set_option maxRecDepth 100000 in
theorem con_X12_readLine {w : Wp} {N : Nat} {a0 : Nat} {M : Mm} {q : Int32 × Mm} (h_a0 : lay a0 = (5, 12)) (hq : D_X12_readLine N a0 M = some q) : Con w 23 yX12_readLine cX12_readLine 1 (some .boolean) [.ref (wB w + pz (a0))] M (encI q) := by
  refine Con.of encI q _ hq (by decide) (Nat.le_of_ble_eq_true rfl) ?_
  intro X G Q hQ
  have G : Good w X cX12_readLine 1 RX12 (some .boolean) 23 := G
  refine c_weak [(0, .ref (wB w + pz (a0)))] [0] rfl ?_
  rw [D_X12_readLine]
  refine c_aload_n G dX12_readLine_0 rfl 0 rfl ?_
  refine c_iconst G (nI 0) dX12_readLine_1 kI_0 ?_
  refine c_callV_PI (d := 2) (rest := []) G [.int (nI 0)] yv_X12_isWord ml_X12_236 (by omega) (by decide) rfl rfl (Nat.le_of_ble_eq_true rfl) h_a0 (fun q hq => con_X12_isWord h_a0 hq) dX12_readLine_2 (fun q1 _ => ?_)
  refine c_if_eq (tgt := 30) G dX12_readLine_5 (by decide) (fun _ => ?_) (fun _ => ?_)
  · skip
    refine c_aload_n G dX12_readLine_30 rfl 0 rfl ?_
    refine c_iconst G (nI 1) dX12_readLine_31 kI_1 ?_
    refine c_callV_PI (d := 2) (rest := []) G [.int (nI 1)] yv_X12_isWord ml_X12_236 (by omega) (by decide) rfl rfl (Nat.le_of_ble_eq_true rfl) h_a0 (fun q hq => con_X12_isWord h_a0 hq) dX12_readLine_32 (fun q2 _ => ?_)
    refine c_if_eq (tgt := 60) G dX12_readLine_35 (by decide) (fun _ => ?_) (fun _ => ?_)
    · skip
      refine c_aload_n G dX12_readLine_60 rfl 0 rfl ?_
      refine c_iconst G (nI 2) dX12_readLine_61 kI_2 ?_
      refine c_callV_PI (d := 2) (rest := []) G [.int (nI 2)] yv_X12_isWord ml_X12_236 (by omega) (by decide) rfl rfl (Nat.le_of_ble_eq_true rfl) h_a0 (fun q hq => con_X12_isWord h_a0 hq) dX12_readLine_62 (fun q3 _ => ?_)
      refine c_if_eq (tgt := 92) G dX12_readLine_65 (by decide) (fun _ => ?_) (fun _ => ?_)
      · skip
        refine c_aload_n G dX12_readLine_92 rfl 0 rfl ?_
        refine c_iconst G (nI 2) dX12_readLine_93 kI_2 ?_
        refine c_callV_I (d := 0) (rest := []) G [.int (nI 2)] yv_X12_bad ml_X12_218 (by omega) (by decide) rfl rfl (Nat.le_of_ble_eq_true rfl) h_a0 (fun q hq => con_X12_bad h_a0 hq) dX12_readLine_94 (fun q4 _ => ?_)
        exact c_zret G hQ dX12_readLine_97
      · skip
        refine c_aload_n G dX12_readLine_68 rfl 0 rfl ?_
        refine c_callV_I (d := 22) (rest := []) G [] yv_X12_readRule ml_X12_302 (by omega) (by decide) rfl rfl (Nat.le_of_ble_eq_true rfl) h_a0 (fun q hq => con_X12_readRule h_a0 hq) dX12_readLine_69 (fun q5 _ => ?_)
        refine c_jn (ej := fun (p88 : Mm) => []) (sj := fun p88 => []) (mj := fun p88 => p88) (pj := 88) (fun p88 => ?_) (fun J1 hJ88 => ?_)
        · skip
          refine c_iconst G (nI 0) dX12_readLine_88 kI_0 ?_
          refine c_goto (tgt := 97) G dX12_readLine_89 (by decide) ?_
          exact c_zret G hQ dX12_readLine_97
        · skip
          refine c_if_eq (tgt := 88) G dX12_readLine_72 (by decide) (fun _ => ?_) (fun _ => ?_)
          · skip
            exact c_weak _ [] rfl (hJ88 q5.2)
          · skip
            refine c_aload_n G dX12_readLine_75 rfl 0 rfl ?_
            refine c_bipush G (nI 59) dX12_readLine_76 kB_59 ?_
            refine c_callV_I (d := 2) (rest := []) G [.int (nI 59)] yv_X12_eats ml_X12_243 (by omega) (by decide) rfl rfl (Nat.le_of_ble_eq_true rfl) h_a0 (fun q hq => con_X12_eats h_a0 hq) dX12_readLine_78 (fun q6 _ => ?_)
            refine c_if_eq (tgt := 88) G dX12_readLine_81 (by decide) (fun _ => ?_) (fun _ => ?_)
            · skip
              exact c_weak _ [] rfl (hJ88 q6.2)
            · skip
              refine c_iconst G (nI 1) dX12_readLine_84 kI_1 ?_
              refine c_goto (tgt := 97) G dX12_readLine_85 (by decide) ?_
              exact c_zret G hQ dX12_readLine_97
    · skip
      refine c_aload_n G dX12_readLine_38 rfl 0 rfl ?_
      refine c_callV_I (d := 3) (rest := []) G [] yv_X12_readProduction ml_X12_299 (by omega) (by decide) rfl rfl (Nat.le_of_ble_eq_true rfl) h_a0 (fun q hq => con_X12_readProduction h_a0 hq) dX12_readLine_39 (fun q7 _ => ?_)
      refine c_jn (ej := fun (p58 : Mm) => []) (sj := fun p58 => []) (mj := fun p58 => p58) (pj := 58) (fun p58 => ?_) (fun J2 hJ58 => ?_)
      · skip
        refine c_iconst G (nI 0) dX12_readLine_58 kI_0 ?_
        exact c_zret G hQ dX12_readLine_59
      · skip
        refine c_if_eq (tgt := 58) G dX12_readLine_42 (by decide) (fun _ => ?_) (fun _ => ?_)
        · skip
          exact c_weak _ [] rfl (hJ58 q7.2)
        · skip
          refine c_aload_n G dX12_readLine_45 rfl 0 rfl ?_
          refine c_bipush G (nI 59) dX12_readLine_46 kB_59 ?_
          refine c_callV_I (d := 2) (rest := []) G [.int (nI 59)] yv_X12_eats ml_X12_243 (by omega) (by decide) rfl rfl (Nat.le_of_ble_eq_true rfl) h_a0 (fun q hq => con_X12_eats h_a0 hq) dX12_readLine_48 (fun q8 _ => ?_)
          refine c_if_eq (tgt := 58) G dX12_readLine_51 (by decide) (fun _ => ?_) (fun _ => ?_)
          · skip
            exact c_weak _ [] rfl (hJ58 q8.2)
          · skip
            refine c_iconst G (nI 1) dX12_readLine_54 kI_1 ?_
            refine c_goto (tgt := 59) G dX12_readLine_55 (by decide) ?_
            exact c_zret G hQ dX12_readLine_59
  · skip
    refine c_aload_n G dX12_readLine_8 rfl 0 rfl ?_
    refine c_callV_I (d := 4) (rest := []) G [] yv_X12_readSymbol ml_X12_296 (by omega) (by decide) rfl rfl (Nat.le_of_ble_eq_true rfl) h_a0 (fun q hq => con_X12_readSymbol h_a0 hq) dX12_readLine_9 (fun q9 _ => ?_)
    refine c_jn (ej := fun (p28 : Mm) => []) (sj := fun p28 => []) (mj := fun p28 => p28) (pj := 28) (fun p28 => ?_) (fun J3 hJ28 => ?_)
    · skip
      refine c_iconst G (nI 0) dX12_readLine_28 kI_0 ?_
      exact c_zret G hQ dX12_readLine_29
    · skip
      refine c_if_eq (tgt := 28) G dX12_readLine_12 (by decide) (fun _ => ?_) (fun _ => ?_)
      · skip
        exact c_weak _ [] rfl (hJ28 q9.2)
      · skip
        refine c_aload_n G dX12_readLine_15 rfl 0 rfl ?_
        refine c_bipush G (nI 59) dX12_readLine_16 kB_59 ?_
        refine c_callV_I (d := 2) (rest := []) G [.int (nI 59)] yv_X12_eats ml_X12_243 (by omega) (by decide) rfl rfl (Nat.le_of_ble_eq_true rfl) h_a0 (fun q hq => con_X12_eats h_a0 hq) dX12_readLine_18 (fun q10 _ => ?_)
        refine c_if_eq (tgt := 28) G dX12_readLine_21 (by decide) (fun _ => ?_) (fun _ => ?_)
        · skip
          exact c_weak _ [] rfl (hJ28 q10.2)
        · skip
          refine c_iconst G (nI 1) dX12_readLine_24 kI_1 ?_
          refine c_goto (tgt := 29) G dX12_readLine_25 (by decide) ?_
          exact c_zret G hQ dX12_readLine_29
set_option maxHeartbeats 4000000 in
set_option maxRecDepth 100000 in
theorem con_X12_begins {w : Wp} {N : Nat} {a0 : Nat} {a1 : Int32} {M : Mm} {q : Mm} (h_a0 : lay a0 = (5, 12)) (hq : D_X12_begins N a0 a1 M = some q) : Con w 2 yX12_begins cX12_begins 2 none [.ref (wB w + pz (a0)), .int a1] M (encV q) := by
  refine Con.of encV q _ hq (by decide) (Nat.le_of_ble_eq_true rfl) ?_
  intro X G Q hQ
  have G : Good w X cX12_begins 2 RX12 none 2 := G
  refine c_weak [(0, .ref (wB w + pz (a0))), (1, .int a1)] [0, 1] rfl ?_
  rw [D_X12_begins]
  refine c_aload_n G dX12_begins_0 rfl 0 rfl ?_
  refine c_iload_n G dX12_begins_1 rfl 1 rfl ?_
  refine c_putI G fp_X12_161 h_a0 rfl dX12_begins_2 (fun M1 _ => ?_)
  refine c_aload_n G dX12_begins_5 rfl 0 rfl ?_
  refine c_iconst G (nI 0) dX12_begins_6 kI_0 ?_
  refine c_putI G fp_X12_154 h_a0 rfl dX12_begins_7 (fun M2 _ => ?_)
  refine c_aload_n G dX12_begins_10 rfl 0 rfl ?_
  refine c_iconst G (nI 0) dX12_begins_11 kI_0 ?_
  refine c_putI G fp_X12_164 h_a0 rfl dX12_begins_12 (fun M3 _ => ?_)
  refine c_aload_n G dX12_begins_15 rfl 0 rfl ?_
  refine c_iconst G (nI 0) dX12_begins_16 kI_0 ?_
  refine c_putI G fp_X12_209 h_a0 rfl dX12_begins_17 (fun M4 _ => ?_)
  refine c_aload_n G dX12_begins_20 rfl 0 rfl ?_
  refine c_iconst G m1 dX12_begins_21 kI_m1 ?_
  refine c_putI G fp_X12_212 h_a0 rfl dX12_begins_22 (fun M5 _ => ?_)
  refine c_aload_n G dX12_begins_25 rfl 0 rfl ?_
  refine c_callV_V (d := 1) (rest := []) G [] yv_X12_go ml_X12_221 (by omega) (by decide) rfl rfl (Nat.le_of_ble_eq_true rfl) h_a0 (fun q hq => con_X12_go h_a0 hq) dX12_begins_26 (fun M6 _ => ?_)
  exact c_vret G hQ dX12_begins_29
set_option maxHeartbeats 4000000 in
set_option maxRecDepth 100000 in
theorem con_X12_ends {w : Wp} {N : Nat} {a0 : Nat} {a1 : Int32} {M : Mm} {q : Int32 × Mm} (h_a0 : lay a0 = (5, 12)) (hq : D_X12_ends N a0 a1 M = some q) : Con w 0 yX12_ends cX12_ends 2 (some .int) [.ref (wB w + pz (a0)), .int a1] M (encI q) := by
  refine Con.of encI q _ hq (by decide) (Nat.le_of_ble_eq_true rfl) ?_
  intro X G Q hQ
  have G : Good w X cX12_ends 2 RX12 (some .int) 0 := G
  refine c_weak [(0, .ref (wB w + pz (a0))), (1, .int a1)] [0, 1] rfl ?_
  rw [D_X12_ends]
  refine c_aload_n G dX12_ends_0 rfl 0 rfl ?_
  refine c_aload_n G dX12_ends_1 rfl 0 rfl ?_
  refine c_getI G fl_X12_209 h_a0 rfl dX12_ends_2 ?_
  refine c_putI G fp_X12_26 h_a0 rfl dX12_ends_5 (fun M1 _ => ?_)
  refine c_aload_n G dX12_ends_8 rfl 0 rfl ?_
  refine c_aload_n G dX12_ends_9 rfl 0 rfl ?_
  refine c_getI G fl_X12_212 h_a0 rfl dX12_ends_10 ?_
  refine c_putI G fp_X12_30 h_a0 rfl dX12_ends_13 (fun M2 _ => ?_)
  refine c_iload_n G dX12_ends_16 rfl 1 rfl ?_
  refine c_if_eq (tgt := 24) G dX12_ends_17 (by decide) (fun _ => ?_) (fun _ => ?_)
  · skip
    refine c_bipush G (nI 9) dX12_ends_24 kB_9 ?_
    exact c_iret G hQ dX12_ends_26
  · skip
    refine c_iconst G (nI 0) dX12_ends_20 kI_0 ?_
    refine c_goto (tgt := 26) G dX12_ends_21 (by decide) ?_
    exact c_iret G hQ dX12_ends_26
set_option maxHeartbeats 4000000 in
set_option maxRecDepth 100000 in
theorem con_X12_asks {w : Wp} {N : Nat} {a0 : Nat} {a1 : Int32} {a2 : Int32} {M : Mm} {q : Int32} (h_a0 : lay a0 = (5, 12)) (hq : D_X12_asks N a0 a1 a2 M = some q) : Con w 0 yX12_asks cX12_asks 3 (some .int) [.ref (wB w + pz (a0)), .int a1, .int a2] M ((encPI M) q) := by
  refine Con.of (encPI M) q _ hq (by decide) (Nat.le_of_ble_eq_true rfl) ?_
  intro X G Q hQ
  have G : Good w X cX12_asks 3 RX12 (some .int) 0 := G
  refine c_weak [(0, .ref (wB w + pz (a0))), (1, .int a1), (2, .int a2)] [0, 1, 2] rfl ?_
  rw [D_X12_asks]
  refine c_aload_n G dX12_asks_0 rfl 0 rfl ?_
  refine c_getF G fl_X12_13 h_a0 rfl dX12_asks_1 ?_
  refine c_sipush G (nI 848) dX12_asks_4 kS_848 ?_
  refine c_bipush G (nI 32) dX12_asks_7 kB_32 ?_
  refine c_iload_n G dX12_asks_9 rfl 1 rfl ?_
  refine c_imul G dX12_asks_10 ?_
  refine c_iadd G dX12_asks_11 ?_
  refine c_iload_n G dX12_asks_12 rfl 2 rfl ?_
  refine c_iadd G dX12_asks_13 ?_
  refine c_iald G (lf h_a0 1 rfl) dX12_asks_14 (fun v1 _ => ?_)
  exact c_iretP G hQ dX12_asks_15
set_option maxHeartbeats 4000000 in
set_option maxRecDepth 100000 in
theorem cl_X12_laysRules_2 {w : Wp} {X : Cx} {Q : State → Prop} {ρ : Mm} (G : Good w X cX12_laysRules 3 RX12 none 1) (hQ : Q = MQ (xL X) (Qd w (encV ρ)) (xA X) (xS X) (xk X) (xs X) (Aw w)) {N : Nat} {a0 : Nat} {a1 : Int32} (h_a0 : lay a0 = (5, 12)) : ∀ (n : Nat) (l2_1 : Int32) (M1 : Mm), Cov w X Q ρ some 3 2 [(0, .ref (wB w + pz (a0))), (1, .int a1), (2, .int l2_1)] [] M1 (L_X12_laysRules_2 N a0 a1 n l2_1 M1) := by
  intro n
  induction n with
  | zero => intro l2_1 M1; exact c_none
  | succ n ih =>
    intro l2_1 M1
    rw [L_X12_laysRules_2]
    refine c_iload_n G dX12_laysRules_2 rfl 2 rfl ?_
    refine c_bipush G (nI 32) dX12_laysRules_3 kB_32 ?_
    refine c_icmp_ge (tgt := 26) G dX12_laysRules_5 (by decide) (fun _ => ?_) (fun _ => ?_)
    · skip
      exact c_vret G hQ dX12_laysRules_26
    · skip
      refine c_aload_n G dX12_laysRules_8 rfl 0 rfl ?_
      refine c_getF G fl_X12_36 h_a0 rfl dX12_laysRules_9 ?_
      refine c_iload_n G dX12_laysRules_12 rfl 2 rfl ?_
      refine c_aload_n G dX12_laysRules_13 rfl 0 rfl ?_
      refine c_iload_n G dX12_laysRules_14 rfl 1 rfl ?_
      refine c_iload_n G dX12_laysRules_15 rfl 2 rfl ?_
      refine c_callV_PI (d := 0) (rest := [.int l2_1, .ref (wB w + pz ((a0 + 7)))]) G [.int a1, .int l2_1] yv_X12_asks ml_X12_340 (by omega) (by decide) rfl rfl (Nat.le_of_ble_eq_true rfl) h_a0 (fun q hq => con_X12_asks h_a0 hq) dX12_laysRules_16 (fun q1 _ => ?_)
      refine c_iast G (lf h_a0 23 rfl) dX12_laysRules_19 (fun M2 _ => ?_)
      refine c_iinc G (fun y__ => [(2, .int y__), (0, .ref (wB w + pz (a0))), (1, .int a1)]) dX12_laysRules_20 2 rfl kI_1 (by decide) (fun _ => rfl) (fun l2_2 _ => ?_)
      refine c_goto (tgt := 2) G dX12_laysRules_23 (by decide) ?_
      exact c_weak _ [1, 2, 0] rfl (ih l2_2 M2)
set_option maxHeartbeats 4000000 in
set_option maxRecDepth 100000 in
theorem con_X12_laysRules {w : Wp} {N : Nat} {a0 : Nat} {a1 : Int32} {M : Mm} {q : Mm} (h_a0 : lay a0 = (5, 12)) (hq : D_X12_laysRules N a0 a1 M = some q) : Con w 1 yX12_laysRules cX12_laysRules 3 none [.ref (wB w + pz (a0)), .int a1] M (encV q) := by
  refine Con.of encV q _ hq (by decide) (Nat.le_of_ble_eq_true rfl) ?_
  intro X G Q hQ
  have G : Good w X cX12_laysRules 3 RX12 none 1 := G
  refine c_weak [(0, .ref (wB w + pz (a0))), (1, .int a1)] [0, 1] rfl ?_
  rw [D_X12_laysRules]
  refine c_iconst G (nI 0) dX12_laysRules_0 kI_0 ?_
  refine c_istore_n G [(2, .int (nI 0)), (0, .ref (wB w + pz (a0))), (1, .int a1)] dX12_laysRules_1 rfl (by decide) rfl ?_
  refine c_weak _ [1, 2, 0] rfl (cl_X12_laysRules_2 G hQ  h_a0 N (nI 0) M)
set_option maxHeartbeats 4000000 in
set_option maxRecDepth 100000 in
theorem con_X12_attributes {w : Wp} {N : Nat} {a0 : Nat} {a1 : Int32} {M : Mm} {q : Int32} (h_a0 : lay a0 = (5, 12)) (hq : D_X12_attributes N a0 a1 M = some q) : Con w 1 yX12_attributes cX12_attributes 2 (some .int) [.ref (wB w + pz (a0)), .int a1] M ((encPI M) q) := by
  refine Con.of (encPI M) q _ hq (by decide) (Nat.le_of_ble_eq_true rfl) ?_
  intro X G Q hQ
  have G : Good w X cX12_attributes 2 RX12 (some .int) 1 := G
  refine c_weak [(0, .ref (wB w + pz (a0))), (1, .int a1)] [0, 1] rfl ?_
  rw [D_X12_attributes]
  refine c_aload_n G dX12_attributes_0 rfl 0 rfl ?_
  refine c_getF G fl_X12_13 h_a0 rfl dX12_attributes_1 ?_
  refine c_iload_n G dX12_attributes_4 rfl 1 rfl ?_
  refine c_callS_PI (d := 0) (rest := []) G [.ref (wB w + pz ((a0 + 2))), .int a1] ys_X12_attributesIn ml_X12_228 (by omega) (by decide) rfl rfl (Nat.le_of_ble_eq_true rfl) (fun q hq => con_X12_attributesIn (ll (lf h_a0 1 rfl)) hq) dX12_attributes_5 (fun q1 _ => ?_)
  exact c_iretP G hQ dX12_attributes_8
set_option maxHeartbeats 4000000 in
set_option maxRecDepth 100000 in
theorem cl_X12_addsInduced_28 {w : Wp} {X : Cx} {Q : State → Prop} {ρ : Mm} (G : Good w X cX12_addsInduced 5 RX12 none 2) (hQ : Q = MQ (xL X) (Qd w (encV ρ)) (xA X) (xS X) (xk X) (xs X) (Aw w)) (kE76 : Mm → Option (Mm)) {N : Nat} {a0 : Nat} {q1 : Int32} {l2_1 : Int32} {a1 : Int32} (h_a0 : lay a0 = (5, 12)) (hE76 : ∀ (Mz : Mm), Cov w X Q ρ some 5 76 [(0, .ref (wB w + pz (a0))), (1, .int a1), (2, .int l2_1)] [] Mz (kE76 Mz)) : ∀ (n : Nat) (l4_1 : Int32) (M2 : Mm), Cov w X Q ρ some 5 28 [(0, .ref (wB w + pz (a0))), (1, .int a1), (2, .int l2_1), (3, .int q1), (4, .int l4_1)] [] M2 (L_X12_addsInduced_28 kE76 N a0 q1 l2_1 n l4_1 M2) := by
  intro n
  induction n with
  | zero => intro l4_1 M2; exact c_none
  | succ n ih =>
    intro l4_1 M2
    rw [L_X12_addsInduced_28]
    refine c_iload G dX12_addsInduced_28 4 rfl ?_
    refine c_aload_n G dX12_addsInduced_30 rfl 0 rfl ?_
    refine c_iload_n G dX12_addsInduced_31 rfl 3 rfl ?_
    refine c_callV_PI (d := 1) (rest := [.int l4_1]) G [.int q1] yv_X12_attributes ml_X12_334 (by omega) (by decide) rfl rfl (Nat.le_of_ble_eq_true rfl) h_a0 (fun q hq => con_X12_attributes h_a0 hq) dX12_addsInduced_32 (fun q2 _ => ?_)
    refine c_icmp_ge (tgt := 76) G dX12_addsInduced_35 (by decide) (fun _ => ?_) (fun _ => ?_)
    · skip
      exact c_weak _ [0, 1, 2] rfl (hE76 M2)
    · skip
      refine c_aload_n G dX12_addsInduced_38 rfl 0 rfl ?_
      refine c_getF G fl_X12_36 h_a0 rfl dX12_addsInduced_39 ?_
      refine c_bipush G (nI 8) dX12_addsInduced_42 kB_8 ?_
      refine c_iload_n G dX12_addsInduced_44 rfl 2 rfl ?_
      refine c_imul G dX12_addsInduced_45 ?_
      refine c_iload G dX12_addsInduced_46 4 rfl ?_
      refine c_iadd G dX12_addsInduced_48 ?_
      refine c_dup2 G dX12_addsInduced_49 rfl rfl ?_
      refine c_iald G (lf h_a0 23 rfl) dX12_addsInduced_50 (fun v2 _ => ?_)
      refine c_aload_n G dX12_addsInduced_51 rfl 0 rfl ?_
      refine c_getF G fl_X12_33 h_a0 rfl dX12_addsInduced_52 ?_
      refine c_bipush G (nI 8) dX12_addsInduced_55 kB_8 ?_
      refine c_iload_n G dX12_addsInduced_57 rfl 3 rfl ?_
      refine c_imul G dX12_addsInduced_58 ?_
      refine c_iload G dX12_addsInduced_59 4 rfl ?_
      refine c_iadd G dX12_addsInduced_61 ?_
      refine c_iald G (lf h_a0 22 rfl) dX12_addsInduced_62 (fun v3 _ => ?_)
      refine c_bipush G (nI 8) dX12_addsInduced_63 kB_8 ?_
      refine c_iload_n G dX12_addsInduced_65 rfl 2 rfl ?_
      refine c_imul G dX12_addsInduced_66 ?_
      refine c_ishl G dX12_addsInduced_67 ?_
      refine c_ior G dX12_addsInduced_68 ?_
      refine c_iast G (lf h_a0 23 rfl) dX12_addsInduced_69 (fun M3 _ => ?_)
      refine c_iinc G (fun y__ => [(4, .int y__), (0, .ref (wB w + pz (a0))), (1, .int a1), (2, .int l2_1), (3, .int q1)]) dX12_addsInduced_70 4 rfl kI_1 (by decide) (fun _ => rfl) (fun l4_2 _ => ?_)
      refine c_goto (tgt := 28) G dX12_addsInduced_73 (by decide) ?_
      exact c_weak _ [1, 2, 3, 4, 0] rfl (ih l4_2 M3)
set_option maxHeartbeats 4000000 in
set_option maxRecDepth 100000 in
theorem cl_X12_addsInduced_2 {w : Wp} {X : Cx} {Q : State → Prop} {ρ : Mm} (G : Good w X cX12_addsInduced 5 RX12 none 2) (hQ : Q = MQ (xL X) (Qd w (encV ρ)) (xA X) (xS X) (xk X) (xs X) (Aw w)) {a0 : Nat} {a1 : Int32} {N : Nat} (h_a0 : lay a0 = (5, 12)) : ∀ (n : Nat) (l2_1 : Int32) (M1 : Mm), Cov w X Q ρ some 5 2 [(0, .ref (wB w + pz (a0))), (1, .int a1), (2, .int l2_1)] [] M1 (L_X12_addsInduced_2 a0 a1 N n l2_1 M1) := by
  intro n
  induction n with
  | zero => intro l2_1 M1; exact c_none
  | succ n ih =>
    intro l2_1 M1
    rw [L_X12_addsInduced_2]
    refine c_iload_n G dX12_addsInduced_2 rfl 2 rfl ?_
    refine c_aload_n G dX12_addsInduced_3 rfl 0 rfl ?_
    refine c_getF G fl_X12_13 h_a0 rfl dX12_addsInduced_4 ?_
    refine c_bipush G (nI 32) dX12_addsInduced_7 kB_32 ?_
    refine c_iload_n G dX12_addsInduced_9 rfl 1 rfl ?_
    refine c_iadd G dX12_addsInduced_10 ?_
    refine c_iald G (lf h_a0 1 rfl) dX12_addsInduced_11 (fun v1 _ => ?_)
    refine c_icmp_gt (tgt := 82) G dX12_addsInduced_12 (by decide) (fun _ => ?_) (fun _ => ?_)
    · skip
      exact c_vret G hQ dX12_addsInduced_82
    · skip
      refine c_aload_n G dX12_addsInduced_15 rfl 0 rfl ?_
      refine c_getF G fl_X12_13 h_a0 rfl dX12_addsInduced_16 ?_
      refine c_iload_n G dX12_addsInduced_19 rfl 1 rfl ?_
      refine c_iload_n G dX12_addsInduced_20 rfl 2 rfl ?_
      refine c_callS_PI (d := 0) (rest := []) G [.ref (wB w + pz ((a0 + 2))), .int a1, .int l2_1] ys_X12_symbolAt ml_X12_250 (by omega) (by decide) rfl rfl (Nat.le_of_ble_eq_true rfl) (fun q hq => con_X12_symbolAt (ll (lf h_a0 1 rfl)) hq) dX12_addsInduced_21 (fun q1 _ => ?_)
      refine c_istore_n G [(3, .int q1), (0, .ref (wB w + pz (a0))), (1, .int a1), (2, .int l2_1)] dX12_addsInduced_24 rfl (by decide) rfl ?_
      refine c_iconst G (nI 0) dX12_addsInduced_25 kI_0 ?_
      refine c_istore G [(4, .int (nI 0)), (3, .int q1), (0, .ref (wB w + pz (a0))), (1, .int a1), (2, .int l2_1)] dX12_addsInduced_26 (by decide) rfl ?_
      refine c_weak _ [2, 3, 4, 1, 0] rfl (cl_X12_addsInduced_28 G hQ _ h_a0 ?_ N (nI 0) M1)
      · intro M4
        refine c_iinc G (fun y__ => [(2, .int y__), (0, .ref (wB w + pz (a0))), (1, .int a1)]) dX12_addsInduced_76 2 rfl kI_1 (by decide) (fun _ => rfl) (fun l2_2 _ => ?_)
        refine c_goto (tgt := 2) G dX12_addsInduced_79 (by decide) ?_
        exact c_weak _ [1, 2, 0] rfl (ih l2_2 M4)
set_option maxHeartbeats 4000000 in
set_option maxRecDepth 100000 in
theorem con_X12_addsInduced {w : Wp} {N : Nat} {a0 : Nat} {a1 : Int32} {M : Mm} {q : Mm} (h_a0 : lay a0 = (5, 12)) (hq : D_X12_addsInduced N a0 a1 M = some q) : Con w 2 yX12_addsInduced cX12_addsInduced 5 none [.ref (wB w + pz (a0)), .int a1] M (encV q) := by
  refine Con.of encV q _ hq (by decide) (Nat.le_of_ble_eq_true rfl) ?_
  intro X G Q hQ
  have G : Good w X cX12_addsInduced 5 RX12 none 2 := G
  refine c_weak [(0, .ref (wB w + pz (a0))), (1, .int a1)] [0, 1] rfl ?_
  rw [D_X12_addsInduced]
  refine c_iconst G (nI 0) dX12_addsInduced_0 kI_0 ?_
  refine c_istore_n G [(2, .int (nI 0)), (0, .ref (wB w + pz (a0))), (1, .int a1)] dX12_addsInduced_1 rfl (by decide) rfl ?_
  refine c_weak _ [1, 2, 0] rfl (cl_X12_addsInduced_2 G hQ  h_a0 N (nI 0) M)
set_option maxHeartbeats 4000000 in
set_option maxRecDepth 100000 in
theorem cl_X12_closes_10 {w : Wp} {X : Cx} {Q : State → Prop} {ρ : Mm} (G : Good w X cX12_closes 3 RX12 none 1) (hQ : Q = MQ (xL X) (Qd w (encV ρ)) (xA X) (xS X) (xk X) (xs X) (Aw w)) (kE50 : Mm → Option (Mm)) {a0 : Nat} {N : Nat} {l1_1 : Int32} (h_a0 : lay a0 = (5, 12)) (hE50 : ∀ (Mz : Mm), Cov w X Q ρ some 3 50 [(0, .ref (wB w + pz (a0))), (1, .int l1_1)] [] Mz (kE50 Mz)) : ∀ (n : Nat) (l2_1 : Int32) (M2 : Mm), Cov w X Q ρ some 3 10 [(0, .ref (wB w + pz (a0))), (1, .int l1_1), (2, .int l2_1)] [] M2 (L_X12_closes_10 kE50 a0 N l1_1 n l2_1 M2) := by
  intro n
  induction n with
  | zero => intro l2_1 M2; exact c_none
  | succ n ih =>
    intro l2_1 M2
    rw [L_X12_closes_10]
    refine c_iload_n G dX12_closes_10 rfl 2 rfl ?_
    refine c_bipush G (nI 32) dX12_closes_11 kB_32 ?_
    refine c_icmp_ge (tgt := 50) G dX12_closes_13 (by decide) (fun _ => ?_) (fun _ => ?_)
    · skip
      exact c_weak _ [0, 1] rfl (hE50 M2)
    · skip
      refine c_aload_n G dX12_closes_16 rfl 0 rfl ?_
      refine c_getF G fl_X12_36 h_a0 rfl dX12_closes_17 ?_
      refine c_iload_n G dX12_closes_20 rfl 2 rfl ?_
      refine c_iald G (lf h_a0 23 rfl) dX12_closes_21 (fun v1 _ => ?_)
      refine c_iload_n G dX12_closes_22 rfl 1 rfl ?_
      refine c_callS_PI (d := 0) (rest := []) G [.int v1, .int l1_1] ys_X12_has ml_X12_344 (by omega) (by decide) rfl rfl (Nat.le_of_ble_eq_true rfl) (fun q hq => con_X12_has hq) dX12_closes_23 (fun q1 _ => ?_)
      refine c_if_eq (tgt := 44) G dX12_closes_26 (by decide) (fun _ => ?_) (fun _ => ?_)
      · skip
        refine c_iinc G (fun y__ => [(2, .int y__), (0, .ref (wB w + pz (a0))), (1, .int l1_1)]) dX12_closes_44 2 rfl kI_1 (by decide) (fun _ => rfl) (fun l2_2 _ => ?_)
        refine c_goto (tgt := 10) G dX12_closes_47 (by decide) ?_
        exact c_weak _ [1, 2, 0] rfl (ih l2_2 M2)
      · skip
        refine c_aload_n G dX12_closes_29 rfl 0 rfl ?_
        refine c_getF G fl_X12_36 h_a0 rfl dX12_closes_30 ?_
        refine c_iload_n G dX12_closes_33 rfl 2 rfl ?_
        refine c_dup2 G dX12_closes_34 rfl rfl ?_
        refine c_iald G (lf h_a0 23 rfl) dX12_closes_35 (fun v2 _ => ?_)
        refine c_aload_n G dX12_closes_36 rfl 0 rfl ?_
        refine c_getF G fl_X12_36 h_a0 rfl dX12_closes_37 ?_
        refine c_iload_n G dX12_closes_40 rfl 1 rfl ?_
        refine c_iald G (lf h_a0 23 rfl) dX12_closes_41 (fun v3 _ => ?_)
        refine c_ior G dX12_closes_42 ?_
        refine c_iast G (lf h_a0 23 rfl) dX12_closes_43 (fun M3 _ => ?_)
        refine c_iinc G (fun y__ => [(2, .int y__), (0, .ref (wB w + pz (a0))), (1, .int l1_1)]) dX12_closes_44 2 rfl kI_1 (by decide) (fun _ => rfl) (fun l2_3 _ => ?_)
        refine c_goto (tgt := 10) G dX12_closes_47 (by decide) ?_
        exact c_weak _ [1, 2, 0] rfl (ih l2_3 M3)
set_option maxHeartbeats 4000000 in
set_option maxRecDepth 100000 in
theorem cl_X12_closes_2 {w : Wp} {X : Cx} {Q : State → Prop} {ρ : Mm} (G : Good w X cX12_closes 3 RX12 none 1) (hQ : Q = MQ (xL X) (Qd w (encV ρ)) (xA X) (xS X) (xk X) (xs X) (Aw w)) {a0 : Nat} {N : Nat} (h_a0 : lay a0 = (5, 12)) : ∀ (n : Nat) (l1_1 : Int32) (M1 : Mm), Cov w X Q ρ some 3 2 [(0, .ref (wB w + pz (a0))), (1, .int l1_1)] [] M1 (L_X12_closes_2 a0 N n l1_1 M1) := by
  intro n
  induction n with
  | zero => intro l1_1 M1; exact c_none
  | succ n ih =>
    intro l1_1 M1
    rw [L_X12_closes_2]
    refine c_iload_n G dX12_closes_2 rfl 1 rfl ?_
    refine c_bipush G (nI 32) dX12_closes_3 kB_32 ?_
    refine c_icmp_ge (tgt := 56) G dX12_closes_5 (by decide) (fun _ => ?_) (fun _ => ?_)
    · skip
      exact c_vret G hQ dX12_closes_56
    · skip
      refine c_iconst G (nI 0) dX12_closes_8 kI_0 ?_
      refine c_istore_n G [(2, .int (nI 0)), (0, .ref (wB w + pz (a0))), (1, .int l1_1)] dX12_closes_9 rfl (by decide) rfl ?_
      refine c_weak _ [1, 2, 0] rfl (cl_X12_closes_10 G hQ _ h_a0 ?_ N (nI 0) M1)
      · intro M4
        refine c_iinc G (fun y__ => [(1, .int y__), (0, .ref (wB w + pz (a0)))]) dX12_closes_50 1 rfl kI_1 (by decide) (fun _ => rfl) (fun l1_2 _ => ?_)
        refine c_goto (tgt := 2) G dX12_closes_53 (by decide) ?_
        exact c_weak _ [1, 0] rfl (ih l1_2 M4)
set_option maxHeartbeats 4000000 in
set_option maxRecDepth 100000 in
theorem con_X12_closes {w : Wp} {N : Nat} {a0 : Nat} {M : Mm} {q : Mm} (h_a0 : lay a0 = (5, 12)) (hq : D_X12_closes N a0 M = some q) : Con w 1 yX12_closes cX12_closes 3 none [.ref (wB w + pz (a0))] M (encV q) := by
  refine Con.of encV q _ hq (by decide) (Nat.le_of_ble_eq_true rfl) ?_
  intro X G Q hQ
  have G : Good w X cX12_closes 3 RX12 none 1 := G
  refine c_weak [(0, .ref (wB w + pz (a0)))] [0] rfl ?_
  rw [D_X12_closes]
  refine c_iconst G (nI 0) dX12_closes_0 kI_0 ?_
  refine c_istore_n G [(1, .int (nI 0)), (0, .ref (wB w + pz (a0)))] dX12_closes_1 rfl (by decide) rfl ?_
  refine c_weak _ [1, 0] rfl (cl_X12_closes_2 G hQ  h_a0 N (nI 0) M)
set_option maxHeartbeats 4000000 in
set_option maxRecDepth 100000 in
theorem con_X12_laysClosed {w : Wp} {N : Nat} {a0 : Nat} {a1 : Int32} {M : Mm} {q : Mm} (h_a0 : lay a0 = (5, 12)) (hq : D_X12_laysClosed N a0 a1 M = some q) : Con w 3 yX12_laysClosed cX12_laysClosed 2 none [.ref (wB w + pz (a0)), .int a1] M (encV q) := by
  refine Con.of encV q _ hq (by decide) (Nat.le_of_ble_eq_true rfl) ?_
  intro X G Q hQ
  have G : Good w X cX12_laysClosed 2 RX12 none 3 := G
  refine c_weak [(0, .ref (wB w + pz (a0))), (1, .int a1)] [0, 1] rfl ?_
  rw [D_X12_laysClosed]
  refine c_aload_n G dX12_laysClosed_0 rfl 0 rfl ?_
  refine c_iload_n G dX12_laysClosed_1 rfl 1 rfl ?_
  refine c_callV_V (d := 1) (rest := []) G [.int a1] yv_X12_laysRules ml_X12_347 (by omega) (by decide) rfl rfl (Nat.le_of_ble_eq_true rfl) h_a0 (fun q hq => con_X12_laysRules h_a0 hq) dX12_laysClosed_2 (fun M1 _ => ?_)
  refine c_aload_n G dX12_laysClosed_5 rfl 0 rfl ?_
  refine c_iload_n G dX12_laysClosed_6 rfl 1 rfl ?_
  refine c_callV_V (d := 2) (rest := []) G [.int a1] yv_X12_addsInduced ml_X12_350 (by omega) (by decide) rfl rfl (Nat.le_of_ble_eq_true rfl) h_a0 (fun q hq => con_X12_addsInduced h_a0 hq) dX12_laysClosed_7 (fun M2 _ => ?_)
  refine c_aload_n G dX12_laysClosed_10 rfl 0 rfl ?_
  refine c_callV_V (d := 1) (rest := []) G [] yv_X12_closes ml_X12_353 (by omega) (by decide) rfl rfl (Nat.le_of_ble_eq_true rfl) h_a0 (fun q hq => con_X12_closes h_a0 hq) dX12_laysClosed_11 (fun M3 _ => ?_)
  exact c_vret G hQ dX12_laysClosed_14
set_option maxHeartbeats 4000000 in
set_option maxRecDepth 100000 in
theorem cl_X12_induces_2 {w : Wp} {X : Cx} {Q : State → Prop} {ρ : Mm} (G : Good w X cX12_induces 7 RX12 none 4) (hQ : Q = MQ (xL X) (Qd w (encV ρ)) (xA X) (xS X) (xk X) (xs X) (Aw w)) (kE21 : Mm → Option (Mm)) {a0 : Nat} (h_a0 : lay a0 = (5, 12)) (hE21 : ∀ (Mz : Mm), Cov w X Q ρ some 7 21 [(0, .ref (wB w + pz (a0)))] [] Mz (kE21 Mz)) : ∀ (n : Nat) (l1_1 : Int32) (M1 : Mm), Cov w X Q ρ some 7 2 [(0, .ref (wB w + pz (a0))), (1, .int l1_1)] [] M1 (L_X12_induces_2 kE21 a0 n l1_1 M1) := by
  intro n
  induction n with
  | zero => intro l1_1 M1; exact c_none
  | succ n ih =>
    intro l1_1 M1
    rw [L_X12_induces_2]
    refine c_iload_n G dX12_induces_2 rfl 1 rfl ?_
    refine c_bipush G (nI 64) dX12_induces_3 kB_64 ?_
    refine c_icmp_ge (tgt := 21) G dX12_induces_5 (by decide) (fun _ => ?_) (fun _ => ?_)
    · skip
      exact c_weak _ [0] rfl (hE21 M1)
    · skip
      refine c_aload_n G dX12_induces_8 rfl 0 rfl ?_
      refine c_getF G fl_X12_33 h_a0 rfl dX12_induces_9 ?_
      refine c_iload_n G dX12_induces_12 rfl 1 rfl ?_
      refine c_iconst G (nI 0) dX12_induces_13 kI_0 ?_
      refine c_iast G (lf h_a0 22 rfl) dX12_induces_14 (fun M2 _ => ?_)
      refine c_iinc G (fun y__ => [(1, .int y__), (0, .ref (wB w + pz (a0)))]) dX12_induces_15 1 rfl kI_1 (by decide) (fun _ => rfl) (fun l1_2 _ => ?_)
      refine c_goto (tgt := 2) G dX12_induces_18 (by decide) ?_
      exact c_weak _ [1, 0] rfl (ih l1_2 M2)
set_option maxHeartbeats 4000000 in
set_option maxRecDepth 100000 in
theorem cl_X12_induces_75 {w : Wp} {X : Cx} {Q : State → Prop} {ρ : Mm} (G : Good w X cX12_induces 7 RX12 none 4) (hQ : Q = MQ (xL X) (Qd w (encV ρ)) (xA X) (xS X) (xk X) (xs X) (Aw w)) (kE172 : Int32 → Mm → Option (Mm)) {N : Nat} {a0 : Nat} {q1 : Int32} {l3_1 : Int32} {l2_1 : Int32} (h_a0 : lay a0 = (5, 12)) (hE172 : ∀ (z1 : Int32), ∀ (Mz : Mm), Cov w X Q ρ some 7 172 [(0, .ref (wB w + pz (a0))), (1, .int z1), (2, .int l2_1), (3, .int l3_1)] [] Mz (kE172 z1 Mz)) : ∀ (n : Nat) (l1_6 : Int32) (l5_1 : Int32) (M8 : Mm), Cov w X Q ρ some 7 75 [(0, .ref (wB w + pz (a0))), (1, .int l1_6), (2, .int l2_1), (3, .int l3_1), (4, .int q1), (5, .int l5_1)] [] M8 (L_X12_induces_75 kE172 N a0 q1 l3_1 n l1_6 l5_1 M8) := by
  intro n
  induction n with
  | zero => intro l1_6 l5_1 M8; exact c_none
  | succ n ih =>
    intro l1_6 l5_1 M8
    rw [L_X12_induces_75]
    refine c_iload G dX12_induces_75 5 rfl ?_
    refine c_aload_n G dX12_induces_77 rfl 0 rfl ?_
    refine c_iload G dX12_induces_78 4 rfl ?_
    refine c_callV_PI (d := 1) (rest := [.int l5_1]) G [.int q1] yv_X12_attributes ml_X12_334 (by omega) (by decide) rfl rfl (Nat.le_of_ble_eq_true rfl) h_a0 (fun q hq => con_X12_attributes h_a0 hq) dX12_induces_80 (fun q2 _ => ?_)
    refine c_icmp_ge (tgt := 172) G dX12_induces_83 (by decide) (fun _ => ?_) (fun _ => ?_)
    · skip
      exact c_weak _ [0, 1, 2, 3] rfl (hE172 l1_6 M8)
    · skip
      refine c_aload_n G dX12_induces_86 rfl 0 rfl ?_
      refine c_getF G fl_X12_33 h_a0 rfl dX12_induces_87 ?_
      refine c_bipush G (nI 8) dX12_induces_90 kB_8 ?_
      refine c_iload G dX12_induces_92 4 rfl ?_
      refine c_imul G dX12_induces_94 ?_
      refine c_iload G dX12_induces_95 5 rfl ?_
      refine c_iadd G dX12_induces_97 ?_
      refine c_iald G (lf h_a0 22 rfl) dX12_induces_98 (fun v3 _ => ?_)
      refine c_aload_n G dX12_induces_99 rfl 0 rfl ?_
      refine c_getF G fl_X12_36 h_a0 rfl dX12_induces_100 ?_
      refine c_bipush G (nI 8) dX12_induces_103 kB_8 ?_
      refine c_iload_n G dX12_induces_105 rfl 3 rfl ?_
      refine c_imul G dX12_induces_106 ?_
      refine c_iload G dX12_induces_107 5 rfl ?_
      refine c_iadd G dX12_induces_109 ?_
      refine c_iald G (lf h_a0 23 rfl) dX12_induces_110 (fun v4 _ => ?_)
      refine c_bipush G (nI 8) dX12_induces_111 kB_8 ?_
      refine c_iload_n G dX12_induces_113 rfl 3 rfl ?_
      refine c_imul G dX12_induces_114 ?_
      refine c_iushr G dX12_induces_115 ?_
      refine c_sipush G (nI 255) dX12_induces_116 kS_255 ?_
      refine c_iand G dX12_induces_119 ?_
      refine c_ior G dX12_induces_120 ?_
      refine c_let (fun l6_1 _ => ?_)
      refine c_istore G [(6, .int l6_1), (0, .ref (wB w + pz (a0))), (1, .int l1_6), (2, .int l2_1), (3, .int l3_1), (4, .int q1), (5, .int l5_1)] dX12_induces_121 (by decide) rfl ?_
      refine c_iload_n G dX12_induces_123 rfl 2 rfl ?_
      refine c_bj (ej := fun (p150 : Int32) => [(0, .ref (wB w + pz (a0))), (2, .int l2_1), (3, .int l3_1), (4, .int q1), (5, .int l5_1), (6, .int l6_1)]) (sj := fun p150 => [.int p150]) (mj := fun p150 => M8) (pj := 150) (fun p150 => ?_) (fun F hJ150 => ?_)
      · skip
        refine c_istore_n G [(1, .int p150), (0, .ref (wB w + pz (a0))), (2, .int l2_1), (3, .int l3_1), (4, .int q1), (5, .int l5_1), (6, .int l6_1)] dX12_induces_150 rfl (by decide) rfl ?_
        refine c_aload_n G dX12_induces_151 rfl 1 rfl ?_
        refine c_getF G fl_X12_33 h_a0 rfl dX12_induces_152 ?_
        refine c_bipush G (nI 8) dX12_induces_155 kB_8 ?_
        refine c_iload G dX12_induces_157 4 rfl ?_
        refine c_imul G dX12_induces_159 ?_
        refine c_iload G dX12_induces_160 5 rfl ?_
        refine c_iadd G dX12_induces_162 ?_
        refine c_iload G dX12_induces_163 6 rfl ?_
        refine c_iast G (lf h_a0 22 rfl) dX12_induces_165 (fun M9 _ => ?_)
        refine c_iinc G (fun y__ => [(5, .int y__), (1, .int p150), (0, .ref (wB w + pz (a0))), (2, .int l2_1), (3, .int l3_1), (4, .int q1), (6, .int l6_1)]) dX12_induces_166 5 rfl kI_1 (by decide) (fun _ => rfl) (fun l5_2 _ => ?_)
        refine c_goto (tgt := 75) G dX12_induces_169 (by decide) ?_
        exact c_weak _ [2, 1, 3, 4, 5, 0] rfl (ih p150 l5_2 M9)
      · skip
        refine c_jn (ej := fun (p145 : Unit) => [(0, .ref (wB w + pz (a0))), (2, .int l2_1), (3, .int l3_1), (4, .int q1), (5, .int l5_1), (6, .int l6_1)]) (sj := fun p145 => []) (mj := fun p145 => M8) (pj := 145) (fun p145 => ?_) (fun J1 hJ145 => ?_)
        · skip
          refine c_iconst G (nI 1) dX12_induces_145 kI_1 ?_
          refine c_goto (tgt := 150) G dX12_induces_146 (by decide) ?_
          exact c_weak _ [0, 1, 2, 3, 4, 5] rfl (hJ150 (nI 1))
        · skip
          refine c_if_ne (tgt := 145) G dX12_induces_124 (by decide) (fun _ => ?_) (fun _ => ?_)
          · skip
            refine c_iload G dX12_induces_127 0 rfl ?_
            refine c_aload_n G dX12_induces_129 rfl 1 rfl ?_
            refine c_getF G fl_X12_33 h_a0 rfl dX12_induces_130 ?_
            refine c_bipush G (nI 8) dX12_induces_133 kB_8 ?_
            refine c_iload G dX12_induces_135 5 rfl ?_
            refine c_imul G dX12_induces_137 ?_
            refine c_iload G dX12_induces_138 6 rfl ?_
            refine c_iadd G dX12_induces_140 ?_
            refine c_iald G (lf h_a0 22 rfl) dX12_induces_141 (fun v5 _ => ?_)
            refine c_icmp_eq (tgt := 149) G dX12_induces_142 (by decide) (fun _ => ?_) (fun _ => ?_)
            · skip
              refine c_iconst G (nI 0) dX12_induces_149 kI_0 ?_
              exact c_weak _ [1, 3, 4, 5, 6, 0] rfl (hJ150 (nI 0))
            · skip
              exact c_weak _ [1, 3, 4, 5, 6, 0] rfl (hJ145 ())
          · skip
            exact c_weak _ [1, 3, 4, 5, 6, 0] rfl (hJ145 ())
set_option maxHeartbeats 4000000 in
set_option maxRecDepth 100000 in
theorem cl_X12_induces_48 {w : Wp} {X : Cx} {Q : State → Prop} {ρ : Mm} (G : Good w X cX12_induces 7 RX12 none 4) (hQ : Q = MQ (xL X) (Qd w (encV ρ)) (xA X) (xS X) (xk X) (xs X) (Aw w)) (kE178 : Int32 → Mm → Option (Mm)) {a0 : Nat} {l2_1 : Int32} {N : Nat} (h_a0 : lay a0 = (5, 12)) (hE178 : ∀ (z1 : Int32), ∀ (Mz : Mm), Cov w X Q ρ some 7 178 [(0, .ref (wB w + pz (a0))), (1, .int z1), (2, .int l2_1)] [] Mz (kE178 z1 Mz)) : ∀ (n : Nat) (l1_5 : Int32) (l3_1 : Int32) (M7 : Mm), Cov w X Q ρ some 7 48 [(0, .ref (wB w + pz (a0))), (1, .int l1_5), (2, .int l2_1), (3, .int l3_1)] [] M7 (L_X12_induces_48 kE178 a0 l2_1 N n l1_5 l3_1 M7) := by
  intro n
  induction n with
  | zero => intro l1_5 l3_1 M7; exact c_none
  | succ n ih =>
    intro l1_5 l3_1 M7
    rw [L_X12_induces_48]
    refine c_iload_n G dX12_induces_48 rfl 3 rfl ?_
    refine c_aload_n G dX12_induces_49 rfl 0 rfl ?_
    refine c_getF G fl_X12_13 h_a0 rfl dX12_induces_50 ?_
    refine c_bipush G (nI 32) dX12_induces_53 kB_32 ?_
    refine c_iload_n G dX12_induces_55 rfl 2 rfl ?_
    refine c_iadd G dX12_induces_56 ?_
    refine c_iald G (lf h_a0 1 rfl) dX12_induces_57 (fun v2 _ => ?_)
    refine c_icmp_gt (tgt := 178) G dX12_induces_58 (by decide) (fun _ => ?_) (fun _ => ?_)
    · skip
      exact c_weak _ [0, 1, 2] rfl (hE178 l1_5 M7)
    · skip
      refine c_aload_n G dX12_induces_61 rfl 0 rfl ?_
      refine c_getF G fl_X12_13 h_a0 rfl dX12_induces_62 ?_
      refine c_iload_n G dX12_induces_65 rfl 2 rfl ?_
      refine c_iload_n G dX12_induces_66 rfl 3 rfl ?_
      refine c_callS_PI (d := 0) (rest := []) G [.ref (wB w + pz ((a0 + 2))), .int l2_1, .int l3_1] ys_X12_symbolAt ml_X12_250 (by omega) (by decide) rfl rfl (Nat.le_of_ble_eq_true rfl) (fun q hq => con_X12_symbolAt (ll (lf h_a0 1 rfl)) hq) dX12_induces_67 (fun q1 _ => ?_)
      refine c_istore G [(4, .int q1), (0, .ref (wB w + pz (a0))), (1, .int l1_5), (2, .int l2_1), (3, .int l3_1)] dX12_induces_70 (by decide) rfl ?_
      refine c_iconst G (nI 0) dX12_induces_72 kI_0 ?_
      refine c_istore G [(5, .int (nI 0)), (4, .int q1), (0, .ref (wB w + pz (a0))), (1, .int l1_5), (2, .int l2_1), (3, .int l3_1)] dX12_induces_73 (by decide) rfl ?_
      refine c_weak _ [2, 3, 4, 5, 1, 0] rfl (cl_X12_induces_75 G hQ _ h_a0 ?_ N l1_5 (nI 0) M7)
      · intro l1_7 M10
        refine c_iinc G (fun y__ => [(3, .int y__), (0, .ref (wB w + pz (a0))), (1, .int l1_7), (2, .int l2_1)]) dX12_induces_172 3 rfl kI_1 (by decide) (fun _ => rfl) (fun l3_2 _ => ?_)
        refine c_goto (tgt := 48) G dX12_induces_175 (by decide) ?_
        exact c_weak _ [1, 2, 3, 0] rfl (ih l1_7 l3_2 M10)
set_option maxHeartbeats 4000000 in
set_option maxRecDepth 100000 in
theorem cl_X12_induces_31 {w : Wp} {X : Cx} {Q : State → Prop} {ρ : Mm} (G : Good w X cX12_induces 7 RX12 none 4) (hQ : Q = MQ (xL X) (Qd w (encV ρ)) (xA X) (xS X) (xk X) (xs X) (Aw w)) (kE184 : Int32 → Mm → Option (Mm)) {a0 : Nat} {N : Nat} (h_a0 : lay a0 = (5, 12)) (hE184 : ∀ (z1 : Int32), ∀ (Mz : Mm), Cov w X Q ρ some 7 184 [(0, .ref (wB w + pz (a0))), (1, .int z1)] [] Mz (kE184 z1 Mz)) : ∀ (n : Nat) (l1_4 : Int32) (l2_1 : Int32) (M5 : Mm), Cov w X Q ρ some 7 31 [(0, .ref (wB w + pz (a0))), (1, .int l1_4), (2, .int l2_1)] [] M5 (L_X12_induces_31 kE184 a0 N n l1_4 l2_1 M5) := by
  intro n
  induction n with
  | zero => intro l1_4 l2_1 M5; exact c_none
  | succ n ih =>
    intro l1_4 l2_1 M5
    rw [L_X12_induces_31]
    refine c_iload_n G dX12_induces_31 rfl 2 rfl ?_
    refine c_aload_n G dX12_induces_32 rfl 0 rfl ?_
    refine c_getF G fl_X12_13 h_a0 rfl dX12_induces_33 ?_
    refine c_iconst G (nI 1) dX12_induces_36 kI_1 ?_
    refine c_iald G (lf h_a0 1 rfl) dX12_induces_37 (fun v1 _ => ?_)
    refine c_icmp_ge (tgt := 184) G dX12_induces_38 (by decide) (fun _ => ?_) (fun _ => ?_)
    · skip
      exact c_weak _ [0, 1] rfl (hE184 l1_4 M5)
    · skip
      refine c_aload_n G dX12_induces_41 rfl 0 rfl ?_
      refine c_iload_n G dX12_induces_42 rfl 2 rfl ?_
      refine c_callV_V (d := 3) (rest := []) G [.int l2_1] yv_X12_laysClosed ml_X12_356 (by omega) (by decide) rfl rfl (Nat.le_of_ble_eq_true rfl) h_a0 (fun q hq => con_X12_laysClosed h_a0 hq) dX12_induces_43 (fun M6 _ => ?_)
      refine c_iconst G (nI 0) dX12_induces_46 kI_0 ?_
      refine c_istore_n G [(3, .int (nI 0)), (0, .ref (wB w + pz (a0))), (1, .int l1_4), (2, .int l2_1)] dX12_induces_47 rfl (by decide) rfl ?_
      refine c_weak _ [1, 2, 3, 0] rfl (cl_X12_induces_48 G hQ _ h_a0 ?_ N l1_4 (nI 0) M6)
      · intro l1_8 M11
        refine c_iinc G (fun y__ => [(2, .int y__), (0, .ref (wB w + pz (a0))), (1, .int l1_8)]) dX12_induces_178 2 rfl kI_1 (by decide) (fun _ => rfl) (fun l2_2 _ => ?_)
        refine c_goto (tgt := 31) G dX12_induces_181 (by decide) ?_
        exact c_weak _ [1, 2, 0] rfl (ih l1_8 l2_2 M11)
set_option maxHeartbeats 4000000 in
set_option maxRecDepth 100000 in
theorem cl_X12_induces_23 {w : Wp} {X : Cx} {Q : State → Prop} {ρ : Mm} (G : Good w X cX12_induces 7 RX12 none 4) (hQ : Q = MQ (xL X) (Qd w (encV ρ)) (xA X) (xS X) (xk X) (xs X) (Aw w)) {a0 : Nat} {N : Nat} (h_a0 : lay a0 = (5, 12)) : ∀ (n : Nat) (l1_3 : Int32) (M4 : Mm), Cov w X Q ρ some 7 23 [(0, .ref (wB w + pz (a0))), (1, .int l1_3)] [] M4 (L_X12_induces_23 a0 N n l1_3 M4) := by
  intro n
  induction n with
  | zero => intro l1_3 M4; exact c_none
  | succ n ih =>
    intro l1_3 M4
    rw [L_X12_induces_23]
    refine c_iload_n G dX12_induces_23 rfl 1 rfl ?_
    refine c_if_eq (tgt := 187) G dX12_induces_24 (by decide) (fun _ => ?_) (fun _ => ?_)
    · skip
      exact c_vret G hQ dX12_induces_187
    · skip
      refine c_iconst G (nI 0) dX12_induces_27 kI_0 ?_
      refine c_istore_n G [(1, .int (nI 0)), (0, .ref (wB w + pz (a0)))] dX12_induces_28 rfl (by decide) rfl ?_
      refine c_iconst G (nI 0) dX12_induces_29 kI_0 ?_
      refine c_istore_n G [(2, .int (nI 0)), (1, .int (nI 0)), (0, .ref (wB w + pz (a0)))] dX12_induces_30 rfl (by decide) rfl ?_
      refine c_weak _ [2, 1, 0] rfl (cl_X12_induces_31 G hQ _ h_a0 ?_ N (nI 0) (nI 0) M4)
      · intro l1_9 M12
        refine c_goto (tgt := 23) G dX12_induces_184 (by decide) ?_
        exact c_weak _ [0, 1] rfl (ih l1_9 M12)
set_option maxHeartbeats 4000000 in
set_option maxRecDepth 100000 in
theorem con_X12_induces {w : Wp} {N : Nat} {a0 : Nat} {M : Mm} {q : Mm} (h_a0 : lay a0 = (5, 12)) (hq : D_X12_induces N a0 M = some q) : Con w 4 yX12_induces cX12_induces 7 none [.ref (wB w + pz (a0))] M (encV q) := by
  refine Con.of encV q _ hq (by decide) (Nat.le_of_ble_eq_true rfl) ?_
  intro X G Q hQ
  have G : Good w X cX12_induces 7 RX12 none 4 := G
  refine c_weak [(0, .ref (wB w + pz (a0)))] [0] rfl ?_
  rw [D_X12_induces]
  refine c_iconst G (nI 0) dX12_induces_0 kI_0 ?_
  refine c_istore_n G [(1, .int (nI 0)), (0, .ref (wB w + pz (a0)))] dX12_induces_1 rfl (by decide) rfl ?_
  refine c_weak _ [1, 0] rfl (cl_X12_induces_2 G hQ _ h_a0 ?_ N (nI 0) M)
  · intro M3
    refine c_iconst G (nI 1) dX12_induces_21 kI_1 ?_
    refine c_istore_n G [(1, .int (nI 1)), (0, .ref (wB w + pz (a0)))] dX12_induces_22 rfl (by decide) rfl ?_
    refine c_weak _ [1, 0] rfl (cl_X12_induces_23 G hQ  h_a0 N (nI 1) M3)
set_option maxHeartbeats 4000000 in
set_option maxRecDepth 100000 in
theorem cl_X12_grammar_56 {w : Wp} {X : Cx} {Q : State → Prop} {ρ : Int32 × Mm} (G : Good w X cX12_grammar 4 RX12 (some .int) 24) (hQ : Q = MQ (xL X) (Qd w (encI ρ)) (xA X) (xS X) (xk X) (xs X) (Aw w)) (kE75 : Int32 → Mm → Option (Int32 × Mm)) {a0 : Nat} {N : Nat} (h_a0 : lay a0 = (5, 12)) (hE75 : ∀ (z2 : Int32), ∀ (Mz : Mm), Cov w X Q ρ some 4 75 [(0, .ref (wB w + pz (a0))), (2, .int z2)] [] Mz (kE75 z2 Mz)) : ∀ (n : Nat) (l2_1 : Int32) (M6 : Mm), Cov w X Q ρ some 4 56 [(0, .ref (wB w + pz (a0))), (2, .int l2_1)] [] M6 (L_X12_grammar_56 kE75 a0 N n l2_1 M6) := by
  intro n
  induction n with
  | zero => intro l2_1 M6; exact c_none
  | succ n ih =>
    intro l2_1 M6
    rw [L_X12_grammar_56]
    refine c_iload_n G dX12_grammar_56 rfl 1 rfl ?_
    refine c_if_eq (tgt := 75) G dX12_grammar_57 (by decide) (fun _ => ?_) (fun _ => ?_)
    · skip
      exact c_weak _ [0, 1] rfl (hE75 l2_1 M6)
    · skip
      refine c_aload_n G dX12_grammar_60 rfl 0 rfl ?_
      refine c_getI G fl_X12_174 h_a0 rfl dX12_grammar_61 ?_
      refine c_if_eq (tgt := 75) G dX12_grammar_64 (by decide) (fun _ => ?_) (fun _ => ?_)
      · skip
        exact c_weak _ [0, 1] rfl (hE75 l2_1 M6)
      · skip
        refine c_aload_n G dX12_grammar_67 rfl 0 rfl ?_
        refine c_callV_I (d := 23) (rest := []) G [] yv_X12_readLine ml_X12_311 (by omega) (by decide) rfl rfl (Nat.le_of_ble_eq_true rfl) h_a0 (fun q hq => con_X12_readLine h_a0 hq) dX12_grammar_68 (fun q4 _ => ?_)
        refine c_istore_n G [(2, .int q4.1), (0, .ref (wB w + pz (a0)))] dX12_grammar_71 rfl (by decide) rfl ?_
        refine c_goto (tgt := 56) G dX12_grammar_72 (by decide) ?_
        exact c_weak _ [1, 0] rfl (ih q4.1 q4.2)
set_option maxHeartbeats 4000000 in
set_option maxRecDepth 100000 in
theorem cl_X12_grammar_92 {w : Wp} {X : Cx} {Q : State → Prop} {ρ : Int32 × Mm} (G : Good w X cX12_grammar 4 RX12 (some .int) 24) (hQ : Q = MQ (xL X) (Qd w (encI ρ)) (xA X) (xS X) (xk X) (xs X) (Aw w)) (kE117 : Mm → Option (Int32 × Mm)) {a0 : Nat} (h_a0 : lay a0 = (5, 12)) (hE117 : ∀ (Mz : Mm), Cov w X Q ρ some 4 117 [(0, .ref (wB w + pz (a0)))] [] Mz (kE117 Mz)) : ∀ (n : Nat) (l3_1 : Int32) (M8 : Mm), Cov w X Q ρ some 4 92 [(0, .ref (wB w + pz (a0))), (3, .int l3_1)] [] M8 (L_X12_grammar_92 kE117 a0 n l3_1 M8) := by
  intro n
  induction n with
  | zero => intro l3_1 M8; exact c_none
  | succ n ih =>
    intro l3_1 M8
    rw [L_X12_grammar_92]
    refine c_iload_n G dX12_grammar_92 rfl 1 rfl ?_
    refine c_sipush G (nI 3816) dX12_grammar_93 kS_3816 ?_
    refine c_icmp_ge (tgt := 117) G dX12_grammar_96 (by decide) (fun _ => ?_) (fun _ => ?_)
    · skip
      exact c_weak _ [0] rfl (hE117 M8)
    · skip
      refine c_aload_n G dX12_grammar_99 rfl 0 rfl ?_
      refine c_getF G fl_X12_13 h_a0 rfl dX12_grammar_100 ?_
      refine c_iload_n G dX12_grammar_103 rfl 1 rfl ?_
      refine c_aload_n G dX12_grammar_104 rfl 0 rfl ?_
      refine c_getF G fl_X12_16 h_a0 rfl dX12_grammar_105 ?_
      refine c_iload_n G dX12_grammar_108 rfl 1 rfl ?_
      refine c_iald G (lf h_a0 2 rfl) dX12_grammar_109 (fun v1 _ => ?_)
      refine c_iast G (lf h_a0 1 rfl) dX12_grammar_110 (fun M9 _ => ?_)
      refine c_iinc G (fun y__ => [(3, .int y__), (0, .ref (wB w + pz (a0)))]) dX12_grammar_111 1 rfl kI_1 (by decide) (fun _ => rfl) (fun l3_2 _ => ?_)
      refine c_goto (tgt := 92) G dX12_grammar_114 (by decide) ?_
      exact c_weak _ [1, 0] rfl (ih l3_2 M9)
set_option maxHeartbeats 4000000 in
set_option maxRecDepth 100000 in
theorem cl_X12_grammar_119 {w : Wp} {X : Cx} {Q : State → Prop} {ρ : Int32 × Mm} (G : Good w X cX12_grammar 4 RX12 (some .int) 24) (hQ : Q = MQ (xL X) (Qd w (encI ρ)) (xA X) (xS X) (xk X) (xs X) (Aw w)) (kE143 : Mm → Option (Int32 × Mm)) {a0 : Nat} (h_a0 : lay a0 = (5, 12)) (hE143 : ∀ (Mz : Mm), Cov w X Q ρ some 4 143 [(0, .ref (wB w + pz (a0)))] [] Mz (kE143 Mz)) : ∀ (n : Nat) (l3_3 : Int32) (M11 : Mm), Cov w X Q ρ some 4 119 [(0, .ref (wB w + pz (a0))), (3, .int l3_3)] [] M11 (L_X12_grammar_119 kE143 a0 n l3_3 M11) := by
  intro n
  induction n with
  | zero => intro l3_3 M11; exact c_none
  | succ n ih =>
    intro l3_3 M11
    rw [L_X12_grammar_119]
    refine c_iload_n G dX12_grammar_119 rfl 1 rfl ?_
    refine c_bipush G (nI 84) dX12_grammar_120 kB_84 ?_
    refine c_icmp_ge (tgt := 143) G dX12_grammar_122 (by decide) (fun _ => ?_) (fun _ => ?_)
    · skip
      exact c_weak _ [0] rfl (hE143 M11)
    · skip
      refine c_aload_n G dX12_grammar_125 rfl 0 rfl ?_
      refine c_getF G fl_X12_19 h_a0 rfl dX12_grammar_126 ?_
      refine c_iload_n G dX12_grammar_129 rfl 1 rfl ?_
      refine c_aload_n G dX12_grammar_130 rfl 0 rfl ?_
      refine c_getF G fl_X12_23 h_a0 rfl dX12_grammar_131 ?_
      refine c_iload_n G dX12_grammar_134 rfl 1 rfl ?_
      refine c_lald G (lf h_a0 4 rfl) dX12_grammar_135 (fun v2 _ => ?_)
      refine c_last G (lf h_a0 3 rfl) dX12_grammar_136 (fun M12 _ => ?_)
      refine c_iinc G (fun y__ => [(3, .int y__), (0, .ref (wB w + pz (a0)))]) dX12_grammar_137 1 rfl kI_1 (by decide) (fun _ => rfl) (fun l3_4 _ => ?_)
      refine c_goto (tgt := 119) G dX12_grammar_140 (by decide) ?_
      exact c_weak _ [1, 0] rfl (ih l3_4 M12)
set_option maxHeartbeats 4000000 in
set_option maxRecDepth 100000 in
theorem con_X12_grammar {w : Wp} {N : Nat} {a0 : Nat} {a1 : Int32} {M : Mm} {q : Int32 × Mm} (h_a0 : lay a0 = (5, 12)) (hq : D_X12_grammar N a0 a1 M = some q) : Con w 24 yX12_grammar cX12_grammar 4 (some .int) [.ref (wB w + pz (a0)), .int a1] M (encI q) := by
  refine Con.of encI q _ hq (by decide) (Nat.le_of_ble_eq_true rfl) ?_
  intro X G Q hQ
  have G : Good w X cX12_grammar 4 RX12 (some .int) 24 := G
  refine c_weak [(0, .ref (wB w + pz (a0))), (1, .int a1)] [0, 1] rfl ?_
  rw [D_X12_grammar]
  refine c_iload_n G dX12_grammar_0 rfl 1 rfl ?_
  refine c_iconst G (nI 0) dX12_grammar_1 kI_0 ?_
  refine c_aload_n G dX12_grammar_2 rfl 0 rfl ?_
  refine c_getI G fl_X12_154 h_a0 rfl dX12_grammar_3 ?_
  refine c_callS_PI (d := 0) (rest := []) G [.int a1, .int (nI 0), .int (M.1 a0 5)] ys_X12_isFrom ml_X12_246 (by omega) (by decide) rfl rfl (Nat.le_of_ble_eq_true rfl) (fun q hq => con_X12_isFrom hq) dX12_grammar_6 (fun q1 _ => ?_)
  refine c_if_ne (tgt := 18) G dX12_grammar_9 (by decide) (fun _ => ?_) (fun _ => ?_)
  · skip
    refine c_aload_n G dX12_grammar_12 rfl 0 rfl ?_
    refine c_iconst G (nI 1) dX12_grammar_13 kI_1 ?_
    refine c_callV_I (d := 0) (rest := []) G [.int (nI 1)] yv_X12_refuse ml_X12_305 (by omega) (by decide) rfl rfl (Nat.le_of_ble_eq_true rfl) h_a0 (fun q hq => con_X12_refuse h_a0 hq) dX12_grammar_14 (fun q2 _ => ?_)
    exact c_iret G hQ dX12_grammar_17
  · skip
    refine c_aload_n G dX12_grammar_18 rfl 0 rfl ?_
    refine c_iload_n G dX12_grammar_19 rfl 1 rfl ?_
    refine c_callV_V (d := 2) (rest := []) G [.int a1] yv_X12_begins ml_X12_308 (by omega) (by decide) rfl rfl (Nat.le_of_ble_eq_true rfl) h_a0 (fun q hq => con_X12_begins h_a0 hq) dX12_grammar_20 (fun M1 _ => ?_)
    refine c_aload_n G dX12_grammar_23 rfl 0 rfl ?_
    refine c_getF G fl_X12_16 h_a0 rfl dX12_grammar_24 ?_
    refine c_iconst G (nI 0) dX12_grammar_27 kI_0 ?_
    refine c_iconst G (nI 0) dX12_grammar_28 kI_0 ?_
    refine c_iast G (lf h_a0 2 rfl) dX12_grammar_29 (fun M2 _ => ?_)
    refine c_aload_n G dX12_grammar_30 rfl 0 rfl ?_
    refine c_getF G fl_X12_16 h_a0 rfl dX12_grammar_31 ?_
    refine c_iconst G (nI 1) dX12_grammar_34 kI_1 ?_
    refine c_iconst G (nI 0) dX12_grammar_35 kI_0 ?_
    refine c_iast G (lf h_a0 2 rfl) dX12_grammar_36 (fun M3 _ => ?_)
    refine c_aload_n G dX12_grammar_37 rfl 0 rfl ?_
    refine c_getF G fl_X12_16 h_a0 rfl dX12_grammar_38 ?_
    refine c_iconst G (nI 2) dX12_grammar_41 kI_2 ?_
    refine c_iconst G (nI 0) dX12_grammar_42 kI_0 ?_
    refine c_iast G (lf h_a0 2 rfl) dX12_grammar_43 (fun M4 _ => ?_)
    refine c_aload_n G dX12_grammar_44 rfl 0 rfl ?_
    refine c_getF G fl_X12_16 h_a0 rfl dX12_grammar_45 ?_
    refine c_iconst G (nI 3) dX12_grammar_48 kI_3 ?_
    refine c_iconst G (nI 0) dX12_grammar_49 kI_0 ?_
    refine c_iast G (lf h_a0 2 rfl) dX12_grammar_50 (fun M5 _ => ?_)
    refine c_aload_n G dX12_grammar_51 rfl 0 rfl ?_
    refine c_callV_I (d := 23) (rest := []) G [] yv_X12_readLine ml_X12_311 (by omega) (by decide) rfl rfl (Nat.le_of_ble_eq_true rfl) h_a0 (fun q hq => con_X12_readLine h_a0 hq) dX12_grammar_52 (fun q3 _ => ?_)
    refine c_istore_n G [(2, .int q3.1), (0, .ref (wB w + pz (a0))), (1, .int a1)] dX12_grammar_55 rfl (by decide) rfl ?_
    refine c_weak _ [1, 0] rfl (cl_X12_grammar_56 G hQ _ h_a0 ?_ N q3.1 q3.2)
    · intro l2_2 M7
      refine c_aload_n G dX12_grammar_75 rfl 0 rfl ?_
      refine c_iload_n G dX12_grammar_76 rfl 1 rfl ?_
      refine c_callV_I (d := 0) (rest := []) G [.int l2_2] yv_X12_ends ml_X12_314 (by omega) (by decide) rfl rfl (Nat.le_of_ble_eq_true rfl) h_a0 (fun q hq => con_X12_ends h_a0 hq) dX12_grammar_77 (fun q5 _ => ?_)
      refine c_if_le (tgt := 90) G dX12_grammar_80 (by decide) (fun _ => ?_) (fun _ => ?_)
      · skip
        refine c_iconst G (nI 0) dX12_grammar_90 kI_0 ?_
        refine c_istore_n G [(3, .int (nI 0)), (0, .ref (wB w + pz (a0))), (2, .int l2_2)] dX12_grammar_91 rfl (by decide) rfl ?_
        refine c_weak _ [1, 0] rfl (cl_X12_grammar_92 G hQ _ h_a0 ?_ N (nI 0) q5.2)
        · intro M10
          refine c_iconst G (nI 0) dX12_grammar_117 kI_0 ?_
          refine c_istore_n G [(3, .int (nI 0)), (0, .ref (wB w + pz (a0)))] dX12_grammar_118 rfl (by decide) rfl ?_
          refine c_weak _ [1, 0] rfl (cl_X12_grammar_119 G hQ _ h_a0 ?_ N (nI 0) M10)
          · intro M13
            refine c_aload_n G dX12_grammar_143 rfl 0 rfl ?_
            refine c_iconst G (nI 1) dX12_grammar_144 kI_1 ?_
            refine c_putZ G fp_X12_318 h_a0 rfl dX12_grammar_145 (fun M14 _ => ?_)
            refine c_aload_n G dX12_grammar_148 rfl 0 rfl ?_
            refine c_iconst G (nI 0) dX12_grammar_149 kI_0 ?_
            refine c_putI G fp_X12_322 h_a0 rfl dX12_grammar_150 (fun M15 _ => ?_)
            refine c_aload_n G dX12_grammar_153 rfl 0 rfl ?_
            refine c_callV_V (d := 4) (rest := []) G [] yv_X12_induces ml_X12_325 (by omega) (by decide) rfl rfl (Nat.le_of_ble_eq_true rfl) h_a0 (fun q hq => con_X12_induces h_a0 hq) dX12_grammar_154 (fun M16 _ => ?_)
            refine c_aload_n G dX12_grammar_157 rfl 0 rfl ?_
            refine c_aload_n G dX12_grammar_158 rfl 0 rfl ?_
            refine c_getF G fl_X12_13 h_a0 rfl dX12_grammar_159 ?_
            refine c_iconst G (nI 1) dX12_grammar_162 kI_1 ?_
            refine c_iald G (lf h_a0 1 rfl) dX12_grammar_163 (fun v3 _ => ?_)
            refine c_callV_I (d := 0) (rest := []) G [.int v3] yv_X12_gives ml_X12_328 (by omega) (by decide) rfl rfl (Nat.le_of_ble_eq_true rfl) h_a0 (fun q hq => con_X12_gives h_a0 hq) dX12_grammar_164 (fun q6 _ => ?_)
            exact c_iret G hQ dX12_grammar_167
      · skip
        refine c_aload_n G dX12_grammar_83 rfl 0 rfl ?_
        refine c_bipush G (nI 9) dX12_grammar_84 kB_9 ?_
        refine c_callV_I (d := 0) (rest := []) G [.int (nI 9)] yv_X12_refuse ml_X12_305 (by omega) (by decide) rfl rfl (Nat.le_of_ble_eq_true rfl) h_a0 (fun q hq => con_X12_refuse h_a0 hq) dX12_grammar_86 (fun q7 _ => ?_)
        exact c_iret G hQ dX12_grammar_89
set_option maxHeartbeats 4000000 in
set_option maxRecDepth 100000 in
theorem con_X12_fault {w : Wp} {N : Nat} {a0 : Nat} {a1 : Int32} {M : Mm} {q : Int32} (h_a0 : lay a0 = (5, 12)) (hq : D_X12_fault N a0 a1 M = some q) : Con w 0 yX12_fault cX12_fault 2 (some .int) [.ref (wB w + pz (a0)), .int a1] M ((encPI M) q) := by
  refine Con.of (encPI M) q _ hq (by decide) (Nat.le_of_ble_eq_true rfl) ?_
  intro X G Q hQ
  have G : Good w X cX12_fault 2 RX12 (some .int) 0 := G
  refine c_weak [(0, .ref (wB w + pz (a0))), (1, .int a1)] [0, 1] rfl ?_
  rw [D_X12_fault]
  refine c_iload_n G dX12_fault_0 rfl 1 rfl ?_
  refine c_if_ne (tgt := 11) G dX12_fault_1 (by decide) (fun _ => ?_) (fun _ => ?_)
  · skip
    refine c_aload_n G dX12_fault_4 rfl 0 rfl ?_
    refine c_getI G fl_X12_26 h_a0 rfl dX12_fault_5 ?_
    refine c_goto (tgt := 24) G dX12_fault_8 (by decide) ?_
    exact c_iretP G hQ dX12_fault_24
  · skip
    refine c_iload_n G dX12_fault_11 rfl 1 rfl ?_
    refine c_iconst G (nI 1) dX12_fault_12 kI_1 ?_
    refine c_icmp_ne (tgt := 23) G dX12_fault_13 (by decide) (fun _ => ?_) (fun _ => ?_)
    · skip
      refine c_aload_n G dX12_fault_16 rfl 0 rfl ?_
      refine c_getI G fl_X12_30 h_a0 rfl dX12_fault_17 ?_
      refine c_goto (tgt := 24) G dX12_fault_20 (by decide) ?_
      exact c_iretP G hQ dX12_fault_24
    · skip
      refine c_iconst G m1 dX12_fault_23 kI_m1 ?_
      exact c_iretP G hQ dX12_fault_24
set_option maxHeartbeats 4000000 in
set_option maxRecDepth 100000 in
theorem con_X12_isSymbol {w : Wp} {N : Nat} {a0 : Nat} {a1 : Int32} {M : Mm} {q : Int32} (h_a0 : lay a0 = (5, 12)) (hq : D_X12_isSymbol N a0 a1 M = some q) : Con w 1 yX12_isSymbol cX12_isSymbol 2 (some .boolean) [.ref (wB w + pz (a0)), .int a1] M ((encPI M) q) := by
  refine Con.of (encPI M) q _ hq (by decide) (Nat.le_of_ble_eq_true rfl) ?_
  intro X G Q hQ
  have G : Good w X cX12_isSymbol 2 RX12 (some .boolean) 1 := G
  refine c_weak [(0, .ref (wB w + pz (a0))), (1, .int a1)] [0, 1] rfl ?_
  rw [D_X12_isSymbol]
  refine c_aload_n G dX12_isSymbol_0 rfl 0 rfl ?_
  refine c_getI G fl_X12_318 h_a0 rfl dX12_isSymbol_1 ?_
  refine c_jn (ej := fun (p27 : Unit) => []) (sj := fun p27 => []) (mj := fun p27 => M) (pj := 27) (fun p27 => ?_) (fun J1 hJ27 => ?_)
  · skip
    refine c_iconst G (nI 0) dX12_isSymbol_27 kI_0 ?_
    exact c_zretP G hQ dX12_isSymbol_28
  · skip
    refine c_if_eq (tgt := 27) G dX12_isSymbol_4 (by decide) (fun _ => ?_) (fun _ => ?_)
    · skip
      exact c_weak _ [] rfl (hJ27 ())
    · skip
      refine c_iload_n G dX12_isSymbol_7 rfl 1 rfl ?_
      refine c_iconst G (nI 0) dX12_isSymbol_8 kI_0 ?_
      refine c_aload_n G dX12_isSymbol_9 rfl 0 rfl ?_
      refine c_getF G fl_X12_13 h_a0 rfl dX12_isSymbol_10 ?_
      refine c_iconst G (nI 0) dX12_isSymbol_13 kI_0 ?_
      refine c_iald G (lf h_a0 1 rfl) dX12_isSymbol_14 (fun v1 _ => ?_)
      refine c_iconst G (nI 1) dX12_isSymbol_15 kI_1 ?_
      refine c_isub G dX12_isSymbol_16 ?_
      refine c_callS_PI (d := 0) (rest := []) G [.int a1, .int (nI 0), .int (v1 - (nI 1))] ys_X12_isFrom ml_X12_246 (by omega) (by decide) rfl rfl (Nat.le_of_ble_eq_true rfl) (fun q hq => con_X12_isFrom hq) dX12_isSymbol_17 (fun q1 _ => ?_)
      refine c_if_eq (tgt := 27) G dX12_isSymbol_20 (by decide) (fun _ => ?_) (fun _ => ?_)
      · skip
        exact c_weak _ [] rfl (hJ27 ())
      · skip
        refine c_iconst G (nI 1) dX12_isSymbol_23 kI_1 ?_
        refine c_goto (tgt := 28) G dX12_isSymbol_24 (by decide) ?_
        exact c_zretP G hQ dX12_isSymbol_28
set_option maxHeartbeats 4000000 in
set_option maxRecDepth 100000 in
theorem con_X12_isProduction {w : Wp} {N : Nat} {a0 : Nat} {a1 : Int32} {M : Mm} {q : Int32} (h_a0 : lay a0 = (5, 12)) (hq : D_X12_isProduction N a0 a1 M = some q) : Con w 1 yX12_isProduction cX12_isProduction 2 (some .boolean) [.ref (wB w + pz (a0)), .int a1] M ((encPI M) q) := by
  refine Con.of (encPI M) q _ hq (by decide) (Nat.le_of_ble_eq_true rfl) ?_
  intro X G Q hQ
  have G : Good w X cX12_isProduction 2 RX12 (some .boolean) 1 := G
  refine c_weak [(0, .ref (wB w + pz (a0))), (1, .int a1)] [0, 1] rfl ?_
  rw [D_X12_isProduction]
  refine c_aload_n G dX12_isProduction_0 rfl 0 rfl ?_
  refine c_getI G fl_X12_318 h_a0 rfl dX12_isProduction_1 ?_
  refine c_jn (ej := fun (p27 : Unit) => []) (sj := fun p27 => []) (mj := fun p27 => M) (pj := 27) (fun p27 => ?_) (fun J1 hJ27 => ?_)
  · skip
    refine c_iconst G (nI 0) dX12_isProduction_27 kI_0 ?_
    exact c_zretP G hQ dX12_isProduction_28
  · skip
    refine c_if_eq (tgt := 27) G dX12_isProduction_4 (by decide) (fun _ => ?_) (fun _ => ?_)
    · skip
      exact c_weak _ [] rfl (hJ27 ())
    · skip
      refine c_iload_n G dX12_isProduction_7 rfl 1 rfl ?_
      refine c_iconst G (nI 0) dX12_isProduction_8 kI_0 ?_
      refine c_aload_n G dX12_isProduction_9 rfl 0 rfl ?_
      refine c_getF G fl_X12_13 h_a0 rfl dX12_isProduction_10 ?_
      refine c_iconst G (nI 1) dX12_isProduction_13 kI_1 ?_
      refine c_iald G (lf h_a0 1 rfl) dX12_isProduction_14 (fun v1 _ => ?_)
      refine c_iconst G (nI 1) dX12_isProduction_15 kI_1 ?_
      refine c_isub G dX12_isProduction_16 ?_
      refine c_callS_PI (d := 0) (rest := []) G [.int a1, .int (nI 0), .int (v1 - (nI 1))] ys_X12_isFrom ml_X12_246 (by omega) (by decide) rfl rfl (Nat.le_of_ble_eq_true rfl) (fun q hq => con_X12_isFrom hq) dX12_isProduction_17 (fun q1 _ => ?_)
      refine c_if_eq (tgt := 27) G dX12_isProduction_20 (by decide) (fun _ => ?_) (fun _ => ?_)
      · skip
        exact c_weak _ [] rfl (hJ27 ())
      · skip
        refine c_iconst G (nI 1) dX12_isProduction_23 kI_1 ?_
        refine c_goto (tgt := 28) G dX12_isProduction_24 (by decide) ?_
        exact c_zretP G hQ dX12_isProduction_28
set_option maxHeartbeats 4000000 in
set_option maxRecDepth 100000 in
theorem con_X12_isAttribute {w : Wp} {N : Nat} {a0 : Nat} {a1 : Int32} {a2 : Int32} {M : Mm} {q : Int32} (h_a0 : lay a0 = (5, 12)) (hq : D_X12_isAttribute N a0 a1 a2 M = some q) : Con w 2 yX12_isAttribute cX12_isAttribute 3 (some .boolean) [.ref (wB w + pz (a0)), .int a1, .int a2] M ((encPI M) q) := by
  refine Con.of (encPI M) q _ hq (by decide) (Nat.le_of_ble_eq_true rfl) ?_
  intro X G Q hQ
  have G : Good w X cX12_isAttribute 3 RX12 (some .boolean) 2 := G
  refine c_weak [(0, .ref (wB w + pz (a0))), (1, .int a1), (2, .int a2)] [0, 1, 2] rfl ?_
  rw [D_X12_isAttribute]
  refine c_aload_n G dX12_isAttribute_0 rfl 0 rfl ?_
  refine c_iload_n G dX12_isAttribute_1 rfl 1 rfl ?_
  refine c_callV_PI (d := 1) (rest := []) G [.int a1] yv_X12_isSymbol ml_X12_331 (by omega) (by decide) rfl rfl (Nat.le_of_ble_eq_true rfl) h_a0 (fun q hq => con_X12_isSymbol h_a0 hq) dX12_isAttribute_2 (fun q1 _ => ?_)
  refine c_jn (ej := fun (p27 : Unit) => []) (sj := fun p27 => []) (mj := fun p27 => M) (pj := 27) (fun p27 => ?_) (fun J1 hJ27 => ?_)
  · skip
    refine c_iconst G (nI 0) dX12_isAttribute_27 kI_0 ?_
    exact c_zretP G hQ dX12_isAttribute_28
  · skip
    refine c_if_eq (tgt := 27) G dX12_isAttribute_5 (by decide) (fun _ => ?_) (fun _ => ?_)
    · skip
      exact c_weak _ [] rfl (hJ27 ())
    · skip
      refine c_iload_n G dX12_isAttribute_8 rfl 2 rfl ?_
      refine c_iconst G (nI 0) dX12_isAttribute_9 kI_0 ?_
      refine c_aload_n G dX12_isAttribute_10 rfl 0 rfl ?_
      refine c_iload_n G dX12_isAttribute_11 rfl 1 rfl ?_
      refine c_callV_PI (d := 1) (rest := [.int (nI 0), .int a2]) G [.int a1] yv_X12_attributes ml_X12_334 (by omega) (by decide) rfl rfl (Nat.le_of_ble_eq_true rfl) h_a0 (fun q hq => con_X12_attributes h_a0 hq) dX12_isAttribute_12 (fun q2 _ => ?_)
      refine c_iconst G (nI 1) dX12_isAttribute_15 kI_1 ?_
      refine c_isub G dX12_isAttribute_16 ?_
      refine c_callS_PI (d := 0) (rest := []) G [.int a2, .int (nI 0), .int (q2 - (nI 1))] ys_X12_isFrom ml_X12_246 (by omega) (by decide) rfl rfl (Nat.le_of_ble_eq_true rfl) (fun q hq => con_X12_isFrom hq) dX12_isAttribute_17 (fun q3 _ => ?_)
      refine c_if_eq (tgt := 27) G dX12_isAttribute_20 (by decide) (fun _ => ?_) (fun _ => ?_)
      · skip
        exact c_weak _ [] rfl (hJ27 ())
      · skip
        refine c_iconst G (nI 1) dX12_isAttribute_23 kI_1 ?_
        refine c_goto (tgt := 28) G dX12_isAttribute_24 (by decide) ?_
        exact c_zretP G hQ dX12_isAttribute_28
set_option maxHeartbeats 4000000 in
set_option maxRecDepth 100000 in
theorem con_X12_isOcc {w : Wp} {N : Nat} {a0 : Nat} {a1 : Int32} {a2 : Int32} {M : Mm} {q : Int32} (h_a0 : lay a0 = (5, 12)) (hq : D_X12_isOcc N a0 a1 a2 M = some q) : Con w 2 yX12_isOcc cX12_isOcc 3 (some .boolean) [.ref (wB w + pz (a0)), .int a1, .int a2] M ((encPI M) q) := by
  refine Con.of (encPI M) q _ hq (by decide) (Nat.le_of_ble_eq_true rfl) ?_
  intro X G Q hQ
  have G : Good w X cX12_isOcc 3 RX12 (some .boolean) 2 := G
  refine c_weak [(0, .ref (wB w + pz (a0))), (1, .int a1), (2, .int a2)] [0, 1, 2] rfl ?_
  rw [D_X12_isOcc]
  refine c_aload_n G dX12_isOcc_0 rfl 0 rfl ?_
  refine c_iload_n G dX12_isOcc_1 rfl 1 rfl ?_
  refine c_callV_PI (d := 1) (rest := []) G [.int a1] yv_X12_isProduction ml_X12_337 (by omega) (by decide) rfl rfl (Nat.le_of_ble_eq_true rfl) h_a0 (fun q hq => con_X12_isProduction h_a0 hq) dX12_isOcc_2 (fun q1 _ => ?_)
  refine c_jn (ej := fun (p54 : Unit) => []) (sj := fun p54 => []) (mj := fun p54 => M) (pj := 54) (fun p54 => ?_) (fun J1 hJ54 => ?_)
  · skip
    refine c_iconst G (nI 0) dX12_isOcc_54 kI_0 ?_
    exact c_zretP G hQ dX12_isOcc_55
  · skip
    refine c_if_eq (tgt := 54) G dX12_isOcc_5 (by decide) (fun _ => ?_) (fun _ => ?_)
    · skip
      exact c_weak _ [] rfl (hJ54 ())
    · skip
      refine c_iload_n G dX12_isOcc_8 rfl 2 rfl ?_
      refine c_if_lt (tgt := 54) G dX12_isOcc_9 (by decide) (fun _ => ?_) (fun _ => ?_)
      · skip
        exact c_weak _ [] rfl (hJ54 ())
      · skip
        refine c_aload_n G dX12_isOcc_12 rfl 0 rfl ?_
        refine c_getF G fl_X12_13 h_a0 rfl dX12_isOcc_13 ?_
        refine c_iload_n G dX12_isOcc_16 rfl 1 rfl ?_
        refine c_iload_n G dX12_isOcc_17 rfl 2 rfl ?_
        refine c_bipush G (nI 8) dX12_isOcc_18 kB_8 ?_
        refine c_idiv G dX12_isOcc_20 (fun v1 _ => ?_)
        refine c_callS_PI (d := 1) (rest := []) G [.ref (wB w + pz ((a0 + 2))), .int a1, .int v1] ys_X12_isPosition ml_X12_257 (by omega) (by decide) rfl rfl (Nat.le_of_ble_eq_true rfl) (fun q hq => con_X12_isPosition (ll (lf h_a0 1 rfl)) hq) dX12_isOcc_21 (fun q2 _ => ?_)
        refine c_if_eq (tgt := 54) G dX12_isOcc_24 (by decide) (fun _ => ?_) (fun _ => ?_)
        · skip
          exact c_weak _ [] rfl (hJ54 ())
        · skip
          refine c_iload_n G dX12_isOcc_27 rfl 2 rfl ?_
          refine c_bipush G (nI 8) dX12_isOcc_28 kB_8 ?_
          refine c_irem G dX12_isOcc_30 (fun v2 _ => ?_)
          refine c_aload_n G dX12_isOcc_31 rfl 0 rfl ?_
          refine c_aload_n G dX12_isOcc_32 rfl 0 rfl ?_
          refine c_getF G fl_X12_13 h_a0 rfl dX12_isOcc_33 ?_
          refine c_iload_n G dX12_isOcc_36 rfl 1 rfl ?_
          refine c_iload_n G dX12_isOcc_37 rfl 2 rfl ?_
          refine c_bipush G (nI 8) dX12_isOcc_38 kB_8 ?_
          refine c_idiv G dX12_isOcc_40 (fun v3 _ => ?_)
          refine c_callS_PI (d := 0) (rest := [.ref (wB w + pz (a0)), .int v2]) G [.ref (wB w + pz ((a0 + 2))), .int a1, .int v3] ys_X12_symbolAt ml_X12_250 (by omega) (by decide) rfl rfl (Nat.le_of_ble_eq_true rfl) (fun q hq => con_X12_symbolAt (ll (lf h_a0 1 rfl)) hq) dX12_isOcc_41 (fun q3 _ => ?_)
          refine c_callV_PI (d := 1) (rest := [.int v2]) G [.int q3] yv_X12_attributes ml_X12_334 (by omega) (by decide) rfl rfl (Nat.le_of_ble_eq_true rfl) h_a0 (fun q hq => con_X12_attributes h_a0 hq) dX12_isOcc_44 (fun q4 _ => ?_)
          refine c_icmp_ge (tgt := 54) G dX12_isOcc_47 (by decide) (fun _ => ?_) (fun _ => ?_)
          · skip
            exact c_weak _ [] rfl (hJ54 ())
          · skip
            refine c_iconst G (nI 1) dX12_isOcc_50 kI_1 ?_
            refine c_goto (tgt := 55) G dX12_isOcc_51 (by decide) ?_
            exact c_zretP G hQ dX12_isOcc_55
set_option maxHeartbeats 4000000 in
set_option maxRecDepth 100000 in
theorem cl_X12_isSelf_2 {w : Wp} {M : Mm} {X : Cx} {Q : State → Prop} {ρ : Int32} (G : Good w X cX12_isSelf 3 RX12 (some .boolean) 2) (hQ : Q = MQ (xL X) (Qd w ((encPI M) ρ)) (xA X) (xS X) (xk X) (xs X) (Aw w)) {N : Nat} {a0 : Nat} {a1 : Int32} (h_a0 : lay a0 = (5, 12)) : ∀ (n : Nat) (l2_1 : Int32), Cov w X Q ρ some 3 2 [(0, .ref (wB w + pz (a0))), (1, .int a1), (2, .int l2_1)] [] M (L_X12_isSelf_2 N a0 a1 M n l2_1) := by
  intro n
  induction n with
  | zero => intro l2_1; exact c_none
  | succ n ih =>
    intro l2_1
    rw [L_X12_isSelf_2]
    refine c_iload_n G dX12_isSelf_2 rfl 2 rfl ?_
    refine c_aload_n G dX12_isSelf_3 rfl 0 rfl ?_
    refine c_iload_n G dX12_isSelf_4 rfl 1 rfl ?_
    refine c_callV_PI (d := 1) (rest := [.int l2_1]) G [.int a1] yv_X12_attributes ml_X12_334 (by omega) (by decide) rfl rfl (Nat.le_of_ble_eq_true rfl) h_a0 (fun q hq => con_X12_attributes h_a0 hq) dX12_isSelf_5 (fun q1 _ => ?_)
    refine c_icmp_ge (tgt := 37) G dX12_isSelf_8 (by decide) (fun _ => ?_) (fun _ => ?_)
    · skip
      refine c_iconst G (nI 0) dX12_isSelf_37 kI_0 ?_
      exact c_zretP G hQ dX12_isSelf_38
    · skip
      refine c_aload_n G dX12_isSelf_11 rfl 0 rfl ?_
      refine c_getF G fl_X12_33 h_a0 rfl dX12_isSelf_12 ?_
      refine c_bipush G (nI 8) dX12_isSelf_15 kB_8 ?_
      refine c_iload_n G dX12_isSelf_17 rfl 1 rfl ?_
      refine c_imul G dX12_isSelf_18 ?_
      refine c_iload_n G dX12_isSelf_19 rfl 2 rfl ?_
      refine c_iadd G dX12_isSelf_20 ?_
      refine c_iald G (lf h_a0 22 rfl) dX12_isSelf_21 (fun v1 _ => ?_)
      refine c_iload_n G dX12_isSelf_22 rfl 2 rfl ?_
      refine c_callS_PI (d := 0) (rest := []) G [.int v1, .int l2_1] ys_X12_has ml_X12_344 (by omega) (by decide) rfl rfl (Nat.le_of_ble_eq_true rfl) (fun q hq => con_X12_has hq) dX12_isSelf_23 (fun q2 _ => ?_)
      refine c_if_eq (tgt := 31) G dX12_isSelf_26 (by decide) (fun _ => ?_) (fun _ => ?_)
      · skip
        refine c_iinc G (fun y__ => [(2, .int y__), (0, .ref (wB w + pz (a0))), (1, .int a1)]) dX12_isSelf_31 2 rfl kI_1 (by decide) (fun _ => rfl) (fun l2_2 _ => ?_)
        refine c_goto (tgt := 2) G dX12_isSelf_34 (by decide) ?_
        exact c_weak _ [1, 2, 0] rfl (ih l2_2)
      · skip
        refine c_iconst G (nI 1) dX12_isSelf_29 kI_1 ?_
        exact c_zretP G hQ dX12_isSelf_30
set_option maxHeartbeats 4000000 in
set_option maxRecDepth 100000 in
theorem con_X12_isSelf {w : Wp} {N : Nat} {a0 : Nat} {a1 : Int32} {M : Mm} {q : Int32} (h_a0 : lay a0 = (5, 12)) (hq : D_X12_isSelf N a0 a1 M = some q) : Con w 2 yX12_isSelf cX12_isSelf 3 (some .boolean) [.ref (wB w + pz (a0)), .int a1] M ((encPI M) q) := by
  refine Con.of (encPI M) q _ hq (by decide) (Nat.le_of_ble_eq_true rfl) ?_
  intro X G Q hQ
  have G : Good w X cX12_isSelf 3 RX12 (some .boolean) 2 := G
  refine c_weak [(0, .ref (wB w + pz (a0))), (1, .int a1)] [0, 1] rfl ?_
  rw [D_X12_isSelf]
  refine c_iconst G (nI 0) dX12_isSelf_0 kI_0 ?_
  refine c_istore_n G [(2, .int (nI 0)), (0, .ref (wB w + pz (a0))), (1, .int a1)] dX12_isSelf_1 rfl (by decide) rfl ?_
  refine c_weak _ [1, 2, 0] rfl (cl_X12_isSelf_2 G hQ  h_a0 N (nI 0))
set_option maxHeartbeats 4000000 in
set_option maxRecDepth 100000 in
theorem cl_X12_isSelfIn_2 {w : Wp} {M : Mm} {X : Cx} {Q : State → Prop} {ρ : Int32} (G : Good w X cX12_isSelfIn 3 RX12 (some .boolean) 3) (hQ : Q = MQ (xL X) (Qd w ((encPI M) ρ)) (xA X) (xS X) (xk X) (xs X) (Aw w)) {a0 : Nat} {a1 : Int32} {N : Nat} (h_a0 : lay a0 = (5, 12)) : ∀ (n : Nat) (l2_1 : Int32), Cov w X Q ρ some 3 2 [(0, .ref (wB w + pz (a0))), (1, .int a1), (2, .int l2_1)] [] M (L_X12_isSelfIn_2 a0 a1 M N n l2_1) := by
  intro n
  induction n with
  | zero => intro l2_1; exact c_none
  | succ n ih =>
    intro l2_1
    rw [L_X12_isSelfIn_2]
    refine c_iload_n G dX12_isSelfIn_2 rfl 2 rfl ?_
    refine c_aload_n G dX12_isSelfIn_3 rfl 0 rfl ?_
    refine c_getF G fl_X12_13 h_a0 rfl dX12_isSelfIn_4 ?_
    refine c_bipush G (nI 32) dX12_isSelfIn_7 kB_32 ?_
    refine c_iload_n G dX12_isSelfIn_9 rfl 1 rfl ?_
    refine c_iadd G dX12_isSelfIn_10 ?_
    refine c_iald G (lf h_a0 1 rfl) dX12_isSelfIn_11 (fun v1 _ => ?_)
    refine c_icmp_gt (tgt := 39) G dX12_isSelfIn_12 (by decide) (fun _ => ?_) (fun _ => ?_)
    · skip
      refine c_iconst G (nI 0) dX12_isSelfIn_39 kI_0 ?_
      exact c_zretP G hQ dX12_isSelfIn_40
    · skip
      refine c_aload_n G dX12_isSelfIn_15 rfl 0 rfl ?_
      refine c_aload_n G dX12_isSelfIn_16 rfl 0 rfl ?_
      refine c_getF G fl_X12_13 h_a0 rfl dX12_isSelfIn_17 ?_
      refine c_iload_n G dX12_isSelfIn_20 rfl 1 rfl ?_
      refine c_iload_n G dX12_isSelfIn_21 rfl 2 rfl ?_
      refine c_callS_PI (d := 0) (rest := [.ref (wB w + pz (a0))]) G [.ref (wB w + pz ((a0 + 2))), .int a1, .int l2_1] ys_X12_symbolAt ml_X12_250 (by omega) (by decide) rfl rfl (Nat.le_of_ble_eq_true rfl) (fun q hq => con_X12_symbolAt (ll (lf h_a0 1 rfl)) hq) dX12_isSelfIn_22 (fun q1 _ => ?_)
      refine c_callV_PI (d := 2) (rest := []) G [.int q1] yv_X12_isSelf ml_X12_359 (by omega) (by decide) rfl rfl (Nat.le_of_ble_eq_true rfl) h_a0 (fun q hq => con_X12_isSelf h_a0 hq) dX12_isSelfIn_25 (fun q2 _ => ?_)
      refine c_if_eq (tgt := 33) G dX12_isSelfIn_28 (by decide) (fun _ => ?_) (fun _ => ?_)
      · skip
        refine c_iinc G (fun y__ => [(2, .int y__), (0, .ref (wB w + pz (a0))), (1, .int a1)]) dX12_isSelfIn_33 2 rfl kI_1 (by decide) (fun _ => rfl) (fun l2_2 _ => ?_)
        refine c_goto (tgt := 2) G dX12_isSelfIn_36 (by decide) ?_
        exact c_weak _ [1, 2, 0] rfl (ih l2_2)
      · skip
        refine c_iconst G (nI 1) dX12_isSelfIn_31 kI_1 ?_
        exact c_zretP G hQ dX12_isSelfIn_32
set_option maxHeartbeats 4000000 in
set_option maxRecDepth 100000 in
theorem con_X12_isSelfIn {w : Wp} {N : Nat} {a0 : Nat} {a1 : Int32} {M : Mm} {q : Int32} (h_a0 : lay a0 = (5, 12)) (hq : D_X12_isSelfIn N a0 a1 M = some q) : Con w 3 yX12_isSelfIn cX12_isSelfIn 3 (some .boolean) [.ref (wB w + pz (a0)), .int a1] M ((encPI M) q) := by
  refine Con.of (encPI M) q _ hq (by decide) (Nat.le_of_ble_eq_true rfl) ?_
  intro X G Q hQ
  have G : Good w X cX12_isSelfIn 3 RX12 (some .boolean) 3 := G
  refine c_weak [(0, .ref (wB w + pz (a0))), (1, .int a1)] [0, 1] rfl ?_
  rw [D_X12_isSelfIn]
  refine c_iconst G (nI 0) dX12_isSelfIn_0 kI_0 ?_
  refine c_istore_n G [(2, .int (nI 0)), (0, .ref (wB w + pz (a0))), (1, .int a1)] dX12_isSelfIn_1 rfl (by decide) rfl ?_
  refine c_weak _ [1, 2, 0] rfl (cl_X12_isSelfIn_2 G hQ  h_a0 N (nI 0))
set_option maxHeartbeats 4000000 in
set_option maxRecDepth 100000 in
theorem cl_X12_firstSelf_2 {w : Wp} {M : Mm} {X : Cx} {Q : State → Prop} {ρ : Int32} (G : Good w X cX12_firstSelf 2 RX12 (some .int) 1) (hQ : Q = MQ (xL X) (Qd w ((encPI M) ρ)) (xA X) (xS X) (xk X) (xs X) (Aw w)) {a0 : Nat} {N : Nat} (h_a0 : lay a0 = (5, 12)) : ∀ (n : Nat) (l1_1 : Int32), Cov w X Q ρ some 2 2 [(0, .ref (wB w + pz (a0))), (1, .int l1_1)] [] M (L_X12_firstSelf_2 a0 M N n l1_1) := by
  intro n
  induction n with
  | zero => intro l1_1; exact c_none
  | succ n ih =>
    intro l1_1
    rw [L_X12_firstSelf_2]
    refine c_iload_n G dX12_firstSelf_2 rfl 1 rfl ?_
    refine c_bipush G (nI 32) dX12_firstSelf_3 kB_32 ?_
    refine c_icmp_ge (tgt := 29) G dX12_firstSelf_5 (by decide) (fun _ => ?_) (fun _ => ?_)
    · skip
      refine c_iconst G m1 dX12_firstSelf_29 kI_m1 ?_
      exact c_iretP G hQ dX12_firstSelf_30
    · skip
      refine c_aload_n G dX12_firstSelf_8 rfl 0 rfl ?_
      refine c_getF G fl_X12_36 h_a0 rfl dX12_firstSelf_9 ?_
      refine c_iload_n G dX12_firstSelf_12 rfl 1 rfl ?_
      refine c_iald G (lf h_a0 23 rfl) dX12_firstSelf_13 (fun v1 _ => ?_)
      refine c_iload_n G dX12_firstSelf_14 rfl 1 rfl ?_
      refine c_callS_PI (d := 0) (rest := []) G [.int v1, .int l1_1] ys_X12_has ml_X12_344 (by omega) (by decide) rfl rfl (Nat.le_of_ble_eq_true rfl) (fun q hq => con_X12_has hq) dX12_firstSelf_15 (fun q1 _ => ?_)
      refine c_if_eq (tgt := 23) G dX12_firstSelf_18 (by decide) (fun _ => ?_) (fun _ => ?_)
      · skip
        refine c_iinc G (fun y__ => [(1, .int y__), (0, .ref (wB w + pz (a0)))]) dX12_firstSelf_23 1 rfl kI_1 (by decide) (fun _ => rfl) (fun l1_2 _ => ?_)
        refine c_goto (tgt := 2) G dX12_firstSelf_26 (by decide) ?_
        exact c_weak _ [1, 0] rfl (ih l1_2)
      · skip
        refine c_iload_n G dX12_firstSelf_21 rfl 1 rfl ?_
        exact c_iretP G hQ dX12_firstSelf_22
set_option maxHeartbeats 4000000 in
set_option maxRecDepth 100000 in
theorem con_X12_firstSelf {w : Wp} {N : Nat} {a0 : Nat} {M : Mm} {q : Int32} (h_a0 : lay a0 = (5, 12)) (hq : D_X12_firstSelf N a0 M = some q) : Con w 1 yX12_firstSelf cX12_firstSelf 2 (some .int) [.ref (wB w + pz (a0))] M ((encPI M) q) := by
  refine Con.of (encPI M) q _ hq (by decide) (Nat.le_of_ble_eq_true rfl) ?_
  intro X G Q hQ
  have G : Good w X cX12_firstSelf 2 RX12 (some .int) 1 := G
  refine c_weak [(0, .ref (wB w + pz (a0)))] [0] rfl ?_
  rw [D_X12_firstSelf]
  refine c_iconst G (nI 0) dX12_firstSelf_0 kI_0 ?_
  refine c_istore_n G [(1, .int (nI 0)), (0, .ref (wB w + pz (a0)))] dX12_firstSelf_1 rfl (by decide) rfl ?_
  refine c_weak _ [1, 0] rfl (cl_X12_firstSelf_2 G hQ  h_a0 N (nI 0))
set_option maxHeartbeats 4000000 in
set_option maxRecDepth 100000 in
theorem cl_X12_laysRing_2 {w : Wp} {X : Cx} {Q : State → Prop} {ρ : Mm} (G : Good w X cX12_laysRing 5 RX12 none 1) (hQ : Q = MQ (xL X) (Qd w (encV ρ)) (xA X) (xS X) (xk X) (xs X) (Aw w)) (kE40 : Mm → Option (Mm)) {a0 : Nat} {N : Nat} {a1 : Int32} (h_a0 : lay a0 = (5, 12)) (hE40 : ∀ (Mz : Mm), Cov w X Q ρ some 5 40 [(0, .ref (wB w + pz (a0))), (1, .int a1)] [] Mz (kE40 Mz)) : ∀ (n : Nat) (l2_1 : Int32) (M1 : Mm), Cov w X Q ρ some 5 2 [(0, .ref (wB w + pz (a0))), (1, .int a1), (2, .int l2_1)] [] M1 (L_X12_laysRing_2 kE40 a0 N a1 n l2_1 M1) := by
  intro n
  induction n with
  | zero => intro l2_1 M1; exact c_none
  | succ n ih =>
    intro l2_1 M1
    rw [L_X12_laysRing_2]
    refine c_iload_n G dX12_laysRing_2 rfl 2 rfl ?_
    refine c_bipush G (nI 32) dX12_laysRing_3 kB_32 ?_
    refine c_icmp_ge (tgt := 40) G dX12_laysRing_5 (by decide) (fun _ => ?_) (fun _ => ?_)
    · skip
      exact c_weak _ [0, 1] rfl (hE40 M1)
    · skip
      refine c_aload_n G dX12_laysRing_8 rfl 0 rfl ?_
      refine c_getF G fl_X12_42 h_a0 rfl dX12_laysRing_9 ?_
      refine c_iload_n G dX12_laysRing_12 rfl 2 rfl ?_
      refine c_aload_n G dX12_laysRing_13 rfl 0 rfl ?_
      refine c_getF G fl_X12_36 h_a0 rfl dX12_laysRing_14 ?_
      refine c_iload_n G dX12_laysRing_17 rfl 2 rfl ?_
      refine c_iald G (lf h_a0 23 rfl) dX12_laysRing_18 (fun v1 _ => ?_)
      refine c_iload_n G dX12_laysRing_19 rfl 1 rfl ?_
      refine c_callS_PI (d := 0) (rest := [.int l2_1, .ref (wB w + pz ((a0 + 9)))]) G [.int v1, .int a1] ys_X12_has ml_X12_344 (by omega) (by decide) rfl rfl (Nat.le_of_ble_eq_true rfl) (fun q hq => con_X12_has hq) dX12_laysRing_20 (fun q1 _ => ?_)
      refine c_if_eq (tgt := 30) G dX12_laysRing_23 (by decide) (fun _ => ?_) (fun _ => ?_)
      · skip
        refine c_sipush G (nI 1000) dX12_laysRing_30 kS_1000 ?_
        refine c_iast G (lf h_a0 25 rfl) dX12_laysRing_33 (fun M2 _ => ?_)
        refine c_iinc G (fun y__ => [(2, .int y__), (0, .ref (wB w + pz (a0))), (1, .int a1)]) dX12_laysRing_34 2 rfl kI_1 (by decide) (fun _ => rfl) (fun l2_2 _ => ?_)
        refine c_goto (tgt := 2) G dX12_laysRing_37 (by decide) ?_
        exact c_weak _ [1, 2, 0] rfl (ih l2_2 M2)
      · skip
        refine c_iconst G (nI 1) dX12_laysRing_26 kI_1 ?_
        refine c_goto (tgt := 33) G dX12_laysRing_27 (by decide) ?_
        refine c_iast G (lf h_a0 25 rfl) dX12_laysRing_33 (fun M3 _ => ?_)
        refine c_iinc G (fun y__ => [(2, .int y__), (0, .ref (wB w + pz (a0))), (1, .int a1)]) dX12_laysRing_34 2 rfl kI_1 (by decide) (fun _ => rfl) (fun l2_3 _ => ?_)
        refine c_goto (tgt := 2) G dX12_laysRing_37 (by decide) ?_
        exact c_weak _ [1, 2, 0] rfl (ih l2_3 M3)
set_option maxHeartbeats 4000000 in
set_option maxRecDepth 100000 in
theorem cl_X12_laysRing_59 {w : Wp} {X : Cx} {Q : State → Prop} {ρ : Mm} (G : Good w X cX12_laysRing 5 RX12 none 1) (hQ : Q = MQ (xL X) (Qd w (encV ρ)) (xA X) (xS X) (xk X) (xs X) (Aw w)) (kE110 : Mm → Option (Mm)) {a0 : Nat} {l3_1 : Int32} {N : Nat} {a1 : Int32} {l2_4 : Int32} (h_a0 : lay a0 = (5, 12)) (hE110 : ∀ (Mz : Mm), Cov w X Q ρ some 5 110 [(0, .ref (wB w + pz (a0))), (1, .int a1), (2, .int l2_4), (3, .int l3_1)] [] Mz (kE110 Mz)) : ∀ (n : Nat) (l4_1 : Int32) (M7 : Mm), Cov w X Q ρ some 5 59 [(0, .ref (wB w + pz (a0))), (1, .int a1), (2, .int l2_4), (3, .int l3_1), (4, .int l4_1)] [] M7 (L_X12_laysRing_59 kE110 a0 l3_1 N n l4_1 M7) := by
  intro n
  induction n with
  | zero => intro l4_1 M7; exact c_none
  | succ n ih =>
    intro l4_1 M7
    rw [L_X12_laysRing_59]
    refine c_iload G dX12_laysRing_59 4 rfl ?_
    refine c_bipush G (nI 32) dX12_laysRing_61 kB_32 ?_
    refine c_icmp_ge (tgt := 110) G dX12_laysRing_63 (by decide) (fun _ => ?_) (fun _ => ?_)
    · skip
      exact c_weak _ [0, 1, 2, 3] rfl (hE110 M7)
    · skip
      refine c_aload_n G dX12_laysRing_66 rfl 0 rfl ?_
      refine c_getF G fl_X12_36 h_a0 rfl dX12_laysRing_67 ?_
      refine c_iload_n G dX12_laysRing_70 rfl 3 rfl ?_
      refine c_iald G (lf h_a0 23 rfl) dX12_laysRing_71 (fun v2 _ => ?_)
      refine c_iload G dX12_laysRing_72 4 rfl ?_
      refine c_callS_PI (d := 0) (rest := []) G [.int v2, .int l4_1] ys_X12_has ml_X12_344 (by omega) (by decide) rfl rfl (Nat.le_of_ble_eq_true rfl) (fun q hq => con_X12_has hq) dX12_laysRing_74 (fun q2 _ => ?_)
      refine c_if_eq (tgt := 104) G dX12_laysRing_77 (by decide) (fun _ => ?_) (fun _ => ?_)
      · skip
        refine c_iinc G (fun y__ => [(4, .int y__), (0, .ref (wB w + pz (a0))), (1, .int a1), (2, .int l2_4), (3, .int l3_1)]) dX12_laysRing_104 4 rfl kI_1 (by decide) (fun _ => rfl) (fun l4_2 _ => ?_)
        refine c_goto (tgt := 59) G dX12_laysRing_107 (by decide) ?_
        exact c_weak _ [1, 2, 3, 4, 0] rfl (ih l4_2 M7)
      · skip
        refine c_aload_n G dX12_laysRing_80 rfl 0 rfl ?_
        refine c_getF G fl_X12_42 h_a0 rfl dX12_laysRing_81 ?_
        refine c_iload_n G dX12_laysRing_84 rfl 3 rfl ?_
        refine c_aload_n G dX12_laysRing_85 rfl 0 rfl ?_
        refine c_getF G fl_X12_42 h_a0 rfl dX12_laysRing_86 ?_
        refine c_iload_n G dX12_laysRing_89 rfl 3 rfl ?_
        refine c_iald G (lf h_a0 25 rfl) dX12_laysRing_90 (fun v3 _ => ?_)
        refine c_aload_n G dX12_laysRing_91 rfl 0 rfl ?_
        refine c_getF G fl_X12_42 h_a0 rfl dX12_laysRing_92 ?_
        refine c_iload G dX12_laysRing_95 4 rfl ?_
        refine c_iald G (lf h_a0 25 rfl) dX12_laysRing_97 (fun v4 _ => ?_)
        refine c_iconst G (nI 1) dX12_laysRing_98 kI_1 ?_
        refine c_iadd G dX12_laysRing_99 ?_
        refine c_mmin G ml_X12_368 ys_J9_min_7cf53 (by omega) (Nat.le_of_ble_eq_true rfl) dX12_laysRing_100 ?_
        refine c_iast G (lf h_a0 25 rfl) dX12_laysRing_103 (fun M8 _ => ?_)
        refine c_iinc G (fun y__ => [(4, .int y__), (0, .ref (wB w + pz (a0))), (1, .int a1), (2, .int l2_4), (3, .int l3_1)]) dX12_laysRing_104 4 rfl kI_1 (by decide) (fun _ => rfl) (fun l4_3 _ => ?_)
        refine c_goto (tgt := 59) G dX12_laysRing_107 (by decide) ?_
        exact c_weak _ [1, 2, 3, 4, 0] rfl (ih l4_3 M8)
set_option maxHeartbeats 4000000 in
set_option maxRecDepth 100000 in
theorem cl_X12_laysRing_50 {w : Wp} {X : Cx} {Q : State → Prop} {ρ : Mm} (G : Good w X cX12_laysRing 5 RX12 none 1) (hQ : Q = MQ (xL X) (Qd w (encV ρ)) (xA X) (xS X) (xk X) (xs X) (Aw w)) (kE116 : Mm → Option (Mm)) {a0 : Nat} {N : Nat} {a1 : Int32} {l2_4 : Int32} (h_a0 : lay a0 = (5, 12)) (hE116 : ∀ (Mz : Mm), Cov w X Q ρ some 5 116 [(0, .ref (wB w + pz (a0))), (1, .int a1), (2, .int l2_4)] [] Mz (kE116 Mz)) : ∀ (n : Nat) (l3_1 : Int32) (M6 : Mm), Cov w X Q ρ some 5 50 [(0, .ref (wB w + pz (a0))), (1, .int a1), (2, .int l2_4), (3, .int l3_1)] [] M6 (L_X12_laysRing_50 kE116 a0 N n l3_1 M6) := by
  intro n
  induction n with
  | zero => intro l3_1 M6; exact c_none
  | succ n ih =>
    intro l3_1 M6
    rw [L_X12_laysRing_50]
    refine c_iload_n G dX12_laysRing_50 rfl 3 rfl ?_
    refine c_bipush G (nI 32) dX12_laysRing_51 kB_32 ?_
    refine c_icmp_ge (tgt := 116) G dX12_laysRing_53 (by decide) (fun _ => ?_) (fun _ => ?_)
    · skip
      exact c_weak _ [0, 1, 2] rfl (hE116 M6)
    · skip
      refine c_iconst G (nI 0) dX12_laysRing_56 kI_0 ?_
      refine c_istore G [(4, .int (nI 0)), (0, .ref (wB w + pz (a0))), (1, .int a1), (2, .int l2_4), (3, .int l3_1)] dX12_laysRing_57 (by decide) rfl ?_
      refine c_weak _ [1, 2, 3, 4, 0] rfl (cl_X12_laysRing_59 G hQ _ h_a0 ?_ N (nI 0) M6)
      · intro M9
        refine c_iinc G (fun y__ => [(3, .int y__), (0, .ref (wB w + pz (a0))), (1, .int a1), (2, .int l2_4)]) dX12_laysRing_110 3 rfl kI_1 (by decide) (fun _ => rfl) (fun l3_2 _ => ?_)
        refine c_goto (tgt := 50) G dX12_laysRing_113 (by decide) ?_
        exact c_weak _ [1, 2, 3, 0] rfl (ih l3_2 M9)
set_option maxHeartbeats 4000000 in
set_option maxRecDepth 100000 in
theorem cl_X12_laysRing_42 {w : Wp} {X : Cx} {Q : State → Prop} {ρ : Mm} (G : Good w X cX12_laysRing 5 RX12 none 1) (hQ : Q = MQ (xL X) (Qd w (encV ρ)) (xA X) (xS X) (xk X) (xs X) (Aw w)) (kE122 : Mm → Option (Mm)) {a0 : Nat} {N : Nat} {a1 : Int32} (h_a0 : lay a0 = (5, 12)) (hE122 : ∀ (Mz : Mm), Cov w X Q ρ some 5 122 [(0, .ref (wB w + pz (a0))), (1, .int a1)] [] Mz (kE122 Mz)) : ∀ (n : Nat) (l2_4 : Int32) (M5 : Mm), Cov w X Q ρ some 5 42 [(0, .ref (wB w + pz (a0))), (1, .int a1), (2, .int l2_4)] [] M5 (L_X12_laysRing_42 kE122 a0 N n l2_4 M5) := by
  intro n
  induction n with
  | zero => intro l2_4 M5; exact c_none
  | succ n ih =>
    intro l2_4 M5
    rw [L_X12_laysRing_42]
    refine c_iload_n G dX12_laysRing_42 rfl 2 rfl ?_
    refine c_bipush G (nI 32) dX12_laysRing_43 kB_32 ?_
    refine c_icmp_ge (tgt := 122) G dX12_laysRing_45 (by decide) (fun _ => ?_) (fun _ => ?_)
    · skip
      exact c_weak _ [0, 1] rfl (hE122 M5)
    · skip
      refine c_iconst G (nI 0) dX12_laysRing_48 kI_0 ?_
      refine c_istore_n G [(3, .int (nI 0)), (0, .ref (wB w + pz (a0))), (1, .int a1), (2, .int l2_4)] dX12_laysRing_49 rfl (by decide) rfl ?_
      refine c_weak _ [1, 2, 3, 0] rfl (cl_X12_laysRing_50 G hQ _ h_a0 ?_ N (nI 0) M5)
      · intro M10
        refine c_iinc G (fun y__ => [(2, .int y__), (0, .ref (wB w + pz (a0))), (1, .int a1)]) dX12_laysRing_116 2 rfl kI_1 (by decide) (fun _ => rfl) (fun l2_5 _ => ?_)
        refine c_goto (tgt := 42) G dX12_laysRing_119 (by decide) ?_
        exact c_weak _ [1, 2, 0] rfl (ih l2_5 M10)
set_option maxHeartbeats 4000000 in
set_option maxRecDepth 100000 in
theorem cl_X12_laysRing_154 {w : Wp} {X : Cx} {Q : State → Prop} {ρ : Mm} (G : Good w X cX12_laysRing 5 RX12 none 1) (hQ : Q = MQ (xL X) (Qd w (encV ρ)) (xA X) (xS X) (xk X) (xs X) (Aw w)) (kE202 : Int32 → Option (Mm)) {M14 : Mm} {a0 : Nat} {l3_3 : Int32} {l2_6 : Int32} {N : Nat} (h_a0 : lay a0 = (5, 12)) (hE202 : ∀ (z4 : Int32), Cov w X Q ρ some 5 202 [(0, .ref (wB w + pz (a0))), (3, .int l3_3), (4, .int z4)] [] M14 (kE202 z4)) : ∀ (n : Nat) (l4_4 : Int32), Cov w X Q ρ some 5 154 [(0, .ref (wB w + pz (a0))), (2, .int l2_6), (3, .int l3_3), (4, .int l4_4)] [] M14 (L_X12_laysRing_154 kE202 M14 a0 l3_3 l2_6 N n l4_4) := by
  intro n
  induction n with
  | zero => intro l4_4; exact c_none
  | succ n ih =>
    intro l4_4
    rw [L_X12_laysRing_154]
    refine c_iload_n G dX12_laysRing_154 rfl 2 rfl ?_
    refine c_iconst G (nI 1) dX12_laysRing_155 kI_1 ?_
    refine c_iadd G dX12_laysRing_156 ?_
    refine c_aload_n G dX12_laysRing_157 rfl 0 rfl ?_
    refine c_getI G fl_X12_373 h_a0 rfl dX12_laysRing_158 ?_
    refine c_icmp_ge (tgt := 202) G dX12_laysRing_161 (by decide) (fun _ => ?_) (fun _ => ?_)
    · skip
      exact c_weak _ [0, 2, 3] rfl (hE202 l4_4)
    · skip
      refine c_aload_n G dX12_laysRing_164 rfl 0 rfl ?_
      refine c_getF G fl_X12_36 h_a0 rfl dX12_laysRing_165 ?_
      refine c_iload_n G dX12_laysRing_168 rfl 1 rfl ?_
      refine c_iald G (lf h_a0 23 rfl) dX12_laysRing_169 (fun v6 _ => ?_)
      refine c_iload G dX12_laysRing_170 3 rfl ?_
      refine c_callS_PI (d := 0) (rest := []) G [.int v6, .int l4_4] ys_X12_has ml_X12_344 (by omega) (by decide) rfl rfl (Nat.le_of_ble_eq_true rfl) (fun q hq => con_X12_has hq) dX12_laysRing_172 (fun q3 _ => ?_)
      refine c_if_eq (tgt := 196) G dX12_laysRing_175 (by decide) (fun _ => ?_) (fun _ => ?_)
      · skip
        refine c_iinc G (fun y__ => [(4, .int y__), (0, .ref (wB w + pz (a0))), (2, .int l2_6), (3, .int l3_3)]) dX12_laysRing_196 3 rfl kI_1 (by decide) (fun _ => rfl) (fun l4_5 _ => ?_)
        refine c_goto (tgt := 154) G dX12_laysRing_199 (by decide) ?_
        exact c_weak _ [1, 2, 3, 0] rfl (ih l4_5)
      · skip
        refine c_aload_n G dX12_laysRing_178 rfl 0 rfl ?_
        refine c_getF G fl_X12_42 h_a0 rfl dX12_laysRing_179 ?_
        refine c_iload G dX12_laysRing_182 3 rfl ?_
        refine c_iald G (lf h_a0 25 rfl) dX12_laysRing_184 (fun v7 _ => ?_)
        refine c_aload_n G dX12_laysRing_185 rfl 0 rfl ?_
        refine c_getI G fl_X12_373 h_a0 rfl dX12_laysRing_186 ?_
        refine c_iload_n G dX12_laysRing_189 rfl 2 rfl ?_
        refine c_isub G dX12_laysRing_190 ?_
        refine c_iconst G (nI 1) dX12_laysRing_191 kI_1 ?_
        refine c_isub G dX12_laysRing_192 ?_
        refine c_icmp_eq (tgt := 202) G dX12_laysRing_193 (by decide) (fun _ => ?_) (fun _ => ?_)
        · skip
          exact c_weak _ [0, 2, 3] rfl (hE202 l4_4)
        · skip
          refine c_iinc G (fun y__ => [(4, .int y__), (0, .ref (wB w + pz (a0))), (2, .int l2_6), (3, .int l3_3)]) dX12_laysRing_196 3 rfl kI_1 (by decide) (fun _ => rfl) (fun l4_6 _ => ?_)
          refine c_goto (tgt := 154) G dX12_laysRing_199 (by decide) ?_
          exact c_weak _ [1, 2, 3, 0] rfl (ih l4_6)
set_option maxHeartbeats 4000000 in
set_option maxRecDepth 100000 in
theorem cl_X12_laysRing_136 {w : Wp} {X : Cx} {Q : State → Prop} {ρ : Mm} (G : Good w X cX12_laysRing 5 RX12 none 1) (hQ : Q = MQ (xL X) (Qd w (encV ρ)) (xA X) (xS X) (xk X) (xs X) (Aw w)) {a0 : Nat} {N : Nat} (h_a0 : lay a0 = (5, 12)) : ∀ (n : Nat) (l2_6 : Int32) (l3_3 : Int32) (M13 : Mm), Cov w X Q ρ some 5 136 [(0, .ref (wB w + pz (a0))), (2, .int l2_6), (3, .int l3_3)] [] M13 (L_X12_laysRing_136 a0 N n l2_6 l3_3 M13) := by
  intro n
  induction n with
  | zero => intro l2_6 l3_3 M13; exact c_none
  | succ n ih =>
    intro l2_6 l3_3 M13
    rw [L_X12_laysRing_136]
    refine c_iload_n G dX12_laysRing_136 rfl 2 rfl ?_
    refine c_aload_n G dX12_laysRing_137 rfl 0 rfl ?_
    refine c_getI G fl_X12_373 h_a0 rfl dX12_laysRing_138 ?_
    refine c_icmp_ge (tgt := 211) G dX12_laysRing_141 (by decide) (fun _ => ?_) (fun _ => ?_)
    · skip
      exact c_vret G hQ dX12_laysRing_211
    · skip
      refine c_aload_n G dX12_laysRing_144 rfl 0 rfl ?_
      refine c_getF G fl_X12_45 h_a0 rfl dX12_laysRing_145 ?_
      refine c_iload_n G dX12_laysRing_148 rfl 2 rfl ?_
      refine c_iload_n G dX12_laysRing_149 rfl 1 rfl ?_
      refine c_iast G (lf h_a0 26 rfl) dX12_laysRing_150 (fun M14 _ => ?_)
      refine c_iconst G (nI 0) dX12_laysRing_151 kI_0 ?_
      refine c_istore G [(4, .int (nI 0)), (0, .ref (wB w + pz (a0))), (2, .int l2_6), (3, .int l3_3)] dX12_laysRing_152 (by decide) rfl ?_
      refine c_weak _ [1, 2, 3, 0] rfl (cl_X12_laysRing_154 G hQ _ h_a0 ?_ N (nI 0))
      · intro l4_7
        refine c_iload G dX12_laysRing_202 2 rfl ?_
        refine c_istore_n G [(2, .int l4_7), (0, .ref (wB w + pz (a0))), (3, .int l3_3), (4, .int l4_7)] dX12_laysRing_204 rfl (by decide) rfl ?_
        refine c_iinc G (fun y__ => [(3, .int y__), (2, .int l4_7), (0, .ref (wB w + pz (a0))), (4, .int l4_7)]) dX12_laysRing_205 2 rfl kI_1 (by decide) (fun _ => rfl) (fun l3_4 _ => ?_)
        refine c_goto (tgt := 136) G dX12_laysRing_208 (by decide) ?_
        exact c_weak _ [2, 1, 0] rfl (ih l4_7 l3_4 M14)
set_option maxHeartbeats 4000000 in
set_option maxRecDepth 100000 in
theorem con_X12_laysRing {w : Wp} {N : Nat} {a0 : Nat} {a1 : Int32} {M : Mm} {q : Mm} (h_a0 : lay a0 = (5, 12)) (hq : D_X12_laysRing N a0 a1 M = some q) : Con w 1 yX12_laysRing cX12_laysRing 5 none [.ref (wB w + pz (a0)), .int a1] M (encV q) := by
  refine Con.of encV q _ hq (by decide) (Nat.le_of_ble_eq_true rfl) ?_
  intro X G Q hQ
  have G : Good w X cX12_laysRing 5 RX12 none 1 := G
  refine c_weak [(0, .ref (wB w + pz (a0))), (1, .int a1)] [0, 1] rfl ?_
  rw [D_X12_laysRing]
  refine c_iconst G (nI 0) dX12_laysRing_0 kI_0 ?_
  refine c_istore_n G [(2, .int (nI 0)), (0, .ref (wB w + pz (a0))), (1, .int a1)] dX12_laysRing_1 rfl (by decide) rfl ?_
  refine c_weak _ [1, 2, 0] rfl (cl_X12_laysRing_2 G hQ _ h_a0 ?_ N (nI 0) M)
  · intro M4
    refine c_iconst G (nI 0) dX12_laysRing_40 kI_0 ?_
    refine c_istore_n G [(2, .int (nI 0)), (0, .ref (wB w + pz (a0))), (1, .int a1)] dX12_laysRing_41 rfl (by decide) rfl ?_
    refine c_weak _ [1, 2, 0] rfl (cl_X12_laysRing_42 G hQ _ h_a0 ?_ N (nI 0) M4)
    · intro M11
      refine c_aload_n G dX12_laysRing_122 rfl 0 rfl ?_
      refine c_aload_n G dX12_laysRing_123 rfl 0 rfl ?_
      refine c_getF G fl_X12_42 h_a0 rfl dX12_laysRing_124 ?_
      refine c_iload_n G dX12_laysRing_127 rfl 1 rfl ?_
      refine c_iald G (lf h_a0 25 rfl) dX12_laysRing_128 (fun v5 _ => ?_)
      refine c_putI G fp_X12_373 h_a0 rfl dX12_laysRing_129 (fun M12 _ => ?_)
      refine c_iload_n G dX12_laysRing_132 rfl 1 rfl ?_
      refine c_istore_n G [(2, .int a1), (0, .ref (wB w + pz (a0))), (1, .int a1)] dX12_laysRing_133 rfl (by decide) rfl ?_
      refine c_iconst G (nI 0) dX12_laysRing_134 kI_0 ?_
      refine c_istore_n G [(3, .int (nI 0)), (2, .int a1), (0, .ref (wB w + pz (a0))), (1, .int a1)] dX12_laysRing_135 rfl (by decide) rfl ?_
      refine c_weak _ [2, 1, 0] rfl (cl_X12_laysRing_136 G hQ  h_a0 N a1 (nI 0) M12)
set_option maxHeartbeats 4000000 in
set_option maxRecDepth 100000 in
theorem cl_X12_findsCircle_2 {w : Wp} {X : Cx} {Q : State → Prop} {ρ : Int32 × Mm} (G : Good w X cX12_findsCircle 3 RX12 (some .int) 4) (hQ : Q = MQ (xL X) (Qd w (encI ρ)) (xA X) (xS X) (xk X) (xs X) (Aw w)) (kE30 : Int32 → Int32 → Mm → Option (Int32 × Mm)) {a0 : Nat} {N : Nat} (h_a0 : lay a0 = (5, 12)) (hE30 : ∀ (z1 : Int32), ∀ (z2 : Int32), ∀ (Mz : Mm), Cov w X Q ρ some 3 30 [(0, .ref (wB w + pz (a0))), (1, .int z1), (2, .int z2)] [] Mz (kE30 z1 z2 Mz)) : ∀ (n : Nat) (l1_1 : Int32) (M1 : Mm), Cov w X Q ρ some 3 2 [(0, .ref (wB w + pz (a0))), (1, .int l1_1)] [] M1 (L_X12_findsCircle_2 kE30 a0 N n l1_1 M1) := by
  intro n
  induction n with
  | zero => intro l1_1 M1; exact c_none
  | succ n ih =>
    intro l1_1 M1
    rw [L_X12_findsCircle_2]
    refine c_iload_n G dX12_findsCircle_2 rfl 1 rfl ?_
    refine c_aload_n G dX12_findsCircle_3 rfl 0 rfl ?_
    refine c_getF G fl_X12_13 h_a0 rfl dX12_findsCircle_4 ?_
    refine c_iconst G (nI 1) dX12_findsCircle_7 kI_1 ?_
    refine c_iald G (lf h_a0 1 rfl) dX12_findsCircle_8 (fun v1 _ => ?_)
    refine c_icmp_ge (tgt := 53) G dX12_findsCircle_9 (by decide) (fun _ => ?_) (fun _ => ?_)
    · skip
      refine c_iconst G m1 dX12_findsCircle_53 kI_m1 ?_
      exact c_iret G hQ dX12_findsCircle_54
    · skip
      refine c_aload_n G dX12_findsCircle_12 rfl 0 rfl ?_
      refine c_iload_n G dX12_findsCircle_13 rfl 1 rfl ?_
      refine c_callV_V (d := 3) (rest := []) G [.int l1_1] yv_X12_laysClosed ml_X12_356 (by omega) (by decide) rfl rfl (Nat.le_of_ble_eq_true rfl) h_a0 (fun q hq => con_X12_laysClosed h_a0 hq) dX12_findsCircle_14 (fun M2 _ => ?_)
      refine c_aload_n G dX12_findsCircle_17 rfl 0 rfl ?_
      refine c_callV_PI (d := 1) (rest := []) G [] yv_X12_firstSelf ml_X12_362 (by omega) (by decide) rfl rfl (Nat.le_of_ble_eq_true rfl) h_a0 (fun q hq => con_X12_firstSelf h_a0 hq) dX12_findsCircle_18 (fun q1 _ => ?_)
      refine c_istore_n G [(2, .int q1), (0, .ref (wB w + pz (a0))), (1, .int l1_1)] dX12_findsCircle_21 rfl (by decide) rfl ?_
      refine c_iload_n G dX12_findsCircle_22 rfl 0 rfl ?_
      refine c_iconst G m1 dX12_findsCircle_23 kI_m1 ?_
      refine c_icmp_ne (tgt := 30) G dX12_findsCircle_24 (by decide) (fun _ => ?_) (fun _ => ?_)
      · skip
        refine c_goto (tgt := 47) G dX12_findsCircle_27 (by decide) ?_
        refine c_iinc G (fun y__ => [(1, .int y__), (2, .int q1), (0, .ref (wB w + pz (a0)))]) dX12_findsCircle_47 2 rfl kI_1 (by decide) (fun _ => rfl) (fun l1_2 _ => ?_)
        refine c_goto (tgt := 2) G dX12_findsCircle_50 (by decide) ?_
        exact c_weak _ [2, 0] rfl (ih l1_2 M2)
      · skip
        exact c_weak _ [1, 2, 0] rfl (hE30 l1_1 q1 M2)
set_option maxHeartbeats 4000000 in
set_option maxRecDepth 100000 in
theorem con_X12_findsCircle {w : Wp} {N : Nat} {a0 : Nat} {M : Mm} {q : Int32 × Mm} (h_a0 : lay a0 = (5, 12)) (hq : D_X12_findsCircle N a0 M = some q) : Con w 4 yX12_findsCircle cX12_findsCircle 3 (some .int) [.ref (wB w + pz (a0))] M (encI q) := by
  refine Con.of encI q _ hq (by decide) (Nat.le_of_ble_eq_true rfl) ?_
  intro X G Q hQ
  have G : Good w X cX12_findsCircle 3 RX12 (some .int) 4 := G
  refine c_weak [(0, .ref (wB w + pz (a0)))] [0] rfl ?_
  rw [D_X12_findsCircle]
  refine c_iconst G (nI 0) dX12_findsCircle_0 kI_0 ?_
  refine c_istore_n G [(1, .int (nI 0)), (0, .ref (wB w + pz (a0)))] dX12_findsCircle_1 rfl (by decide) rfl ?_
  refine c_weak _ [1, 0] rfl (cl_X12_findsCircle_2 G hQ _ h_a0 ?_ N (nI 0) M)
  · intro l1_3 l2_1 M3
    refine c_aload_n G dX12_findsCircle_30 rfl 0 rfl ?_
    refine c_iload_n G dX12_findsCircle_31 rfl 1 rfl ?_
    refine c_callV_V (d := 1) (rest := []) G [.int l1_3] yv_X12_laysRules ml_X12_347 (by omega) (by decide) rfl rfl (Nat.le_of_ble_eq_true rfl) h_a0 (fun q hq => con_X12_laysRules h_a0 hq) dX12_findsCircle_32 (fun M4 _ => ?_)
    refine c_aload_n G dX12_findsCircle_35 rfl 0 rfl ?_
    refine c_iload_n G dX12_findsCircle_36 rfl 1 rfl ?_
    refine c_callV_V (d := 2) (rest := []) G [.int l1_3] yv_X12_addsInduced ml_X12_350 (by omega) (by decide) rfl rfl (Nat.le_of_ble_eq_true rfl) h_a0 (fun q hq => con_X12_addsInduced h_a0 hq) dX12_findsCircle_37 (fun M5 _ => ?_)
    refine c_aload_n G dX12_findsCircle_40 rfl 0 rfl ?_
    refine c_iload_n G dX12_findsCircle_41 rfl 2 rfl ?_
    refine c_callV_V (d := 1) (rest := []) G [.int l2_1] yv_X12_laysRing ml_X12_365 (by omega) (by decide) rfl rfl (Nat.le_of_ble_eq_true rfl) h_a0 (fun q hq => con_X12_laysRing h_a0 hq) dX12_findsCircle_42 (fun M6 _ => ?_)
    refine c_iload_n G dX12_findsCircle_45 rfl 1 rfl ?_
    exact c_iret G hQ dX12_findsCircle_46
set_option maxHeartbeats 4000000 in
set_option maxRecDepth 100000 in
theorem cl_X12_isFree_2 {w : Wp} {M : Mm} {X : Cx} {Q : State → Prop} {ρ : Int32} (G : Good w X cX12_isFree 4 RX12 (some .boolean) 2) (hQ : Q = MQ (xL X) (Qd w ((encPI M) ρ)) (xA X) (xS X) (xk X) (xs X) (Aw w)) {N : Nat} {a0 : Nat} {a1 : Int32} {a2 : Int32} (h_a0 : lay a0 = (5, 12)) : ∀ (n : Nat) (l3_1 : Int32), Cov w X Q ρ some 4 2 [(0, .ref (wB w + pz (a0))), (1, .int a1), (2, .int a2), (3, .int l3_1)] [] M (L_X12_isFree_2 N a0 a1 M a2 n l3_1) := by
  intro n
  induction n with
  | zero => intro l3_1; exact c_none
  | succ n ih =>
    intro l3_1
    rw [L_X12_isFree_2]
    refine c_iload_n G dX12_isFree_2 rfl 3 rfl ?_
    refine c_aload_n G dX12_isFree_3 rfl 0 rfl ?_
    refine c_iload_n G dX12_isFree_4 rfl 1 rfl ?_
    refine c_callV_PI (d := 1) (rest := [.int l3_1]) G [.int a1] yv_X12_attributes ml_X12_334 (by omega) (by decide) rfl rfl (Nat.le_of_ble_eq_true rfl) h_a0 (fun q hq => con_X12_attributes h_a0 hq) dX12_isFree_5 (fun q1 _ => ?_)
    refine c_icmp_ge (tgt := 46) G dX12_isFree_8 (by decide) (fun _ => ?_) (fun _ => ?_)
    · skip
      refine c_iconst G (nI 1) dX12_isFree_46 kI_1 ?_
      exact c_zretP G hQ dX12_isFree_47
    · skip
      refine c_aload_n G dX12_isFree_11 rfl 0 rfl ?_
      refine c_getF G fl_X12_48 h_a0 rfl dX12_isFree_12 ?_
      refine c_iload_n G dX12_isFree_15 rfl 3 rfl ?_
      refine c_iald G (lf h_a0 28 rfl) dX12_isFree_16 (fun v1 _ => ?_)
      refine c_if_ne (tgt := 40) G dX12_isFree_17 (by decide) (fun _ => ?_) (fun _ => ?_)
      · skip
        refine c_aload_n G dX12_isFree_20 rfl 0 rfl ?_
        refine c_getF G fl_X12_33 h_a0 rfl dX12_isFree_21 ?_
        refine c_bipush G (nI 8) dX12_isFree_24 kB_8 ?_
        refine c_iload_n G dX12_isFree_26 rfl 1 rfl ?_
        refine c_imul G dX12_isFree_27 ?_
        refine c_iload_n G dX12_isFree_28 rfl 3 rfl ?_
        refine c_iadd G dX12_isFree_29 ?_
        refine c_iald G (lf h_a0 22 rfl) dX12_isFree_30 (fun v2 _ => ?_)
        refine c_iload_n G dX12_isFree_31 rfl 2 rfl ?_
        refine c_callS_PI (d := 0) (rest := []) G [.int v2, .int a2] ys_X12_has ml_X12_344 (by omega) (by decide) rfl rfl (Nat.le_of_ble_eq_true rfl) (fun q hq => con_X12_has hq) dX12_isFree_32 (fun q2 _ => ?_)
        refine c_if_eq (tgt := 40) G dX12_isFree_35 (by decide) (fun _ => ?_) (fun _ => ?_)
        · skip
          refine c_iinc G (fun y__ => [(3, .int y__), (0, .ref (wB w + pz (a0))), (1, .int a1), (2, .int a2)]) dX12_isFree_40 3 rfl kI_1 (by decide) (fun _ => rfl) (fun l3_2 _ => ?_)
          refine c_goto (tgt := 2) G dX12_isFree_43 (by decide) ?_
          exact c_weak _ [1, 2, 3, 0] rfl (ih l3_2)
        · skip
          refine c_iconst G (nI 0) dX12_isFree_38 kI_0 ?_
          exact c_zretP G hQ dX12_isFree_39
      · skip
        refine c_iinc G (fun y__ => [(3, .int y__), (0, .ref (wB w + pz (a0))), (1, .int a1), (2, .int a2)]) dX12_isFree_40 3 rfl kI_1 (by decide) (fun _ => rfl) (fun l3_3 _ => ?_)
        refine c_goto (tgt := 2) G dX12_isFree_43 (by decide) ?_
        exact c_weak _ [1, 2, 3, 0] rfl (ih l3_3)
set_option maxHeartbeats 4000000 in
set_option maxRecDepth 100000 in
theorem con_X12_isFree {w : Wp} {N : Nat} {a0 : Nat} {a1 : Int32} {a2 : Int32} {M : Mm} {q : Int32} (h_a0 : lay a0 = (5, 12)) (hq : D_X12_isFree N a0 a1 a2 M = some q) : Con w 2 yX12_isFree cX12_isFree 4 (some .boolean) [.ref (wB w + pz (a0)), .int a1, .int a2] M ((encPI M) q) := by
  refine Con.of (encPI M) q _ hq (by decide) (Nat.le_of_ble_eq_true rfl) ?_
  intro X G Q hQ
  have G : Good w X cX12_isFree 4 RX12 (some .boolean) 2 := G
  refine c_weak [(0, .ref (wB w + pz (a0))), (1, .int a1), (2, .int a2)] [0, 1, 2] rfl ?_
  rw [D_X12_isFree]
  refine c_iconst G (nI 0) dX12_isFree_0 kI_0 ?_
  refine c_istore_n G [(3, .int (nI 0)), (0, .ref (wB w + pz (a0))), (1, .int a1), (2, .int a2)] dX12_isFree_1 rfl (by decide) rfl ?_
  refine c_weak _ [1, 2, 3, 0] rfl (cl_X12_isFree_2 G hQ  h_a0 N (nI 0))
set_option maxHeartbeats 4000000 in
set_option maxRecDepth 100000 in
theorem cl_X12_fillsSet_11 {w : Wp} {X : Cx} {Q : State → Prop} {ρ : Mm} (G : Good w X cX12_fillsSet 5 RX12 none 3) (hQ : Q = MQ (xL X) (Qd w (encV ρ)) (xA X) (xS X) (xk X) (xs X) (Aw w)) (kE85 : Int32 → Mm → Option (Mm)) {N : Nat} {a0 : Nat} {a1 : Int32} {a2 : Int32} (h_a0 : lay a0 = (5, 12)) (hE85 : ∀ (z3 : Int32), ∀ (Mz : Mm), Cov w X Q ρ some 5 85 [(0, .ref (wB w + pz (a0))), (1, .int a1), (2, .int a2), (3, .int z3)] [] Mz (kE85 z3 Mz)) : ∀ (n : Nat) (l3_2 : Int32) (l4_1 : Int32) (M2 : Mm), Cov w X Q ρ some 5 11 [(0, .ref (wB w + pz (a0))), (1, .int a1), (2, .int a2), (3, .int l3_2), (4, .int l4_1)] [] M2 (L_X12_fillsSet_11 kE85 N a0 a1 a2 n l3_2 l4_1 M2) := by
  intro n
  induction n with
  | zero => intro l3_2 l4_1 M2; exact c_none
  | succ n ih =>
    intro l3_2 l4_1 M2
    rw [L_X12_fillsSet_11]
    refine c_iload G dX12_fillsSet_11 4 rfl ?_
    refine c_aload_n G dX12_fillsSet_13 rfl 0 rfl ?_
    refine c_iload_n G dX12_fillsSet_14 rfl 1 rfl ?_
    refine c_callV_PI (d := 1) (rest := [.int l4_1]) G [.int a1] yv_X12_attributes ml_X12_334 (by omega) (by decide) rfl rfl (Nat.le_of_ble_eq_true rfl) h_a0 (fun q hq => con_X12_attributes h_a0 hq) dX12_fillsSet_15 (fun q1 _ => ?_)
    refine c_icmp_ge (tgt := 85) G dX12_fillsSet_18 (by decide) (fun _ => ?_) (fun _ => ?_)
    · skip
      exact c_weak _ [0, 1, 2, 3] rfl (hE85 l3_2 M2)
    · skip
      refine c_aload_n G dX12_fillsSet_21 rfl 0 rfl ?_
      refine c_getF G fl_X12_48 h_a0 rfl dX12_fillsSet_22 ?_
      refine c_iload G dX12_fillsSet_25 4 rfl ?_
      refine c_iald G (lf h_a0 28 rfl) dX12_fillsSet_27 (fun v1 _ => ?_)
      refine c_if_ne (tgt := 79) G dX12_fillsSet_28 (by decide) (fun _ => ?_) (fun _ => ?_)
      · skip
        refine c_iload G dX12_fillsSet_31 4 rfl ?_
        refine c_aload_n G dX12_fillsSet_33 rfl 0 rfl ?_
        refine c_getF G fl_X12_13 h_a0 rfl dX12_fillsSet_34 ?_
        refine c_iconst G (nI 4) dX12_fillsSet_37 kI_4 ?_
        refine c_iload_n G dX12_fillsSet_38 rfl 1 rfl ?_
        refine c_iadd G dX12_fillsSet_39 ?_
        refine c_iald G (lf h_a0 1 rfl) dX12_fillsSet_40 (fun v2 _ => ?_)
        refine c_bj (ej := fun (p49 : Int32) => [(0, .ref (wB w + pz (a0))), (1, .int a1), (2, .int a2), (3, .int l3_2), (4, .int l4_1)]) (sj := fun p49 => [.int p49]) (mj := fun p49 => M2) (pj := 49) (fun p49 => ?_) (fun F hJ49 => ?_)
        · skip
          refine c_iload_n G dX12_fillsSet_49 rfl 2 rfl ?_
          refine c_icmp_ne (tgt := 79) G dX12_fillsSet_50 (by decide) (fun _ => ?_) (fun _ => ?_)
          · skip
            refine c_aload_n G dX12_fillsSet_53 rfl 0 rfl ?_
            refine c_iload_n G dX12_fillsSet_54 rfl 1 rfl ?_
            refine c_iload G dX12_fillsSet_55 4 rfl ?_
            refine c_callV_PI (d := 2) (rest := []) G [.int a1, .int l4_1] yv_X12_isFree ml_X12_376 (by omega) (by decide) rfl rfl (Nat.le_of_ble_eq_true rfl) h_a0 (fun q hq => con_X12_isFree h_a0 hq) dX12_fillsSet_57 (fun q2 _ => ?_)
            refine c_if_ne (tgt := 66) G dX12_fillsSet_60 (by decide) (fun _ => ?_) (fun _ => ?_)
            · skip
              refine c_goto (tgt := 79) G dX12_fillsSet_63 (by decide) ?_
              refine c_iinc G (fun y__ => [(4, .int y__), (0, .ref (wB w + pz (a0))), (1, .int a1), (2, .int a2), (3, .int l3_2)]) dX12_fillsSet_79 4 rfl kI_1 (by decide) (fun _ => rfl) (fun l4_2 _ => ?_)
              refine c_goto (tgt := 11) G dX12_fillsSet_82 (by decide) ?_
              exact c_weak _ [1, 2, 3, 4, 0] rfl (ih l3_2 l4_2 M2)
            · skip
              refine c_aload_n G dX12_fillsSet_66 rfl 0 rfl ?_
              refine c_getF G fl_X12_48 h_a0 rfl dX12_fillsSet_67 ?_
              refine c_iload G dX12_fillsSet_70 4 rfl ?_
              refine c_aload_n G dX12_fillsSet_72 rfl 0 rfl ?_
              refine c_getI G fl_X12_379 h_a0 rfl dX12_fillsSet_73 ?_
              refine c_iast G (lf h_a0 28 rfl) dX12_fillsSet_76 (fun M3 _ => ?_)
              refine c_iconst G (nI 1) dX12_fillsSet_77 kI_1 ?_
              refine c_istore_n G [(3, .int (nI 1)), (0, .ref (wB w + pz (a0))), (1, .int a1), (2, .int a2), (4, .int l4_1)] dX12_fillsSet_78 rfl (by decide) rfl ?_
              refine c_iinc G (fun y__ => [(4, .int y__), (3, .int (nI 1)), (0, .ref (wB w + pz (a0))), (1, .int a1), (2, .int a2)]) dX12_fillsSet_79 4 rfl kI_1 (by decide) (fun _ => rfl) (fun l4_3 _ => ?_)
              refine c_goto (tgt := 11) G dX12_fillsSet_82 (by decide) ?_
              exact c_weak _ [2, 3, 4, 1, 0] rfl (ih (nI 1) l4_3 M3)
          · skip
            refine c_iinc G (fun y__ => [(4, .int y__), (0, .ref (wB w + pz (a0))), (1, .int a1), (2, .int a2), (3, .int l3_2)]) dX12_fillsSet_79 4 rfl kI_1 (by decide) (fun _ => rfl) (fun l4_4 _ => ?_)
            refine c_goto (tgt := 11) G dX12_fillsSet_82 (by decide) ?_
            exact c_weak _ [1, 2, 3, 4, 0] rfl (ih l3_2 l4_4 M2)
        · skip
          refine c_icmp_lt (tgt := 48) G dX12_fillsSet_41 (by decide) (fun _ => ?_) (fun _ => ?_)
          · skip
            refine c_iconst G (nI 0) dX12_fillsSet_48 kI_0 ?_
            exact c_weak _ [0, 1, 2, 3, 4] rfl (hJ49 (nI 0))
          · skip
            refine c_iconst G (nI 1) dX12_fillsSet_44 kI_1 ?_
            refine c_goto (tgt := 49) G dX12_fillsSet_45 (by decide) ?_
            exact c_weak _ [0, 1, 2, 3, 4] rfl (hJ49 (nI 1))
      · skip
        refine c_iinc G (fun y__ => [(4, .int y__), (0, .ref (wB w + pz (a0))), (1, .int a1), (2, .int a2), (3, .int l3_2)]) dX12_fillsSet_79 4 rfl kI_1 (by decide) (fun _ => rfl) (fun l4_5 _ => ?_)
        refine c_goto (tgt := 11) G dX12_fillsSet_82 (by decide) ?_
        exact c_weak _ [1, 2, 3, 4, 0] rfl (ih l3_2 l4_5 M2)
set_option maxHeartbeats 4000000 in
set_option maxRecDepth 100000 in
theorem cl_X12_fillsSet_2 {w : Wp} {X : Cx} {Q : State → Prop} {ρ : Mm} (G : Good w X cX12_fillsSet 5 RX12 none 3) (hQ : Q = MQ (xL X) (Qd w (encV ρ)) (xA X) (xS X) (xk X) (xs X) (Aw w)) {N : Nat} {a0 : Nat} {a1 : Int32} {a2 : Int32} (h_a0 : lay a0 = (5, 12)) : ∀ (n : Nat) (l3_1 : Int32) (M1 : Mm), Cov w X Q ρ some 5 2 [(0, .ref (wB w + pz (a0))), (1, .int a1), (2, .int a2), (3, .int l3_1)] [] M1 (L_X12_fillsSet_2 N a0 a1 a2 n l3_1 M1) := by
  intro n
  induction n with
  | zero => intro l3_1 M1; exact c_none
  | succ n ih =>
    intro l3_1 M1
    rw [L_X12_fillsSet_2]
    refine c_iload_n G dX12_fillsSet_2 rfl 3 rfl ?_
    refine c_if_eq (tgt := 88) G dX12_fillsSet_3 (by decide) (fun _ => ?_) (fun _ => ?_)
    · skip
      exact c_vret G hQ dX12_fillsSet_88
    · skip
      refine c_iconst G (nI 0) dX12_fillsSet_6 kI_0 ?_
      refine c_istore_n G [(3, .int (nI 0)), (0, .ref (wB w + pz (a0))), (1, .int a1), (2, .int a2)] dX12_fillsSet_7 rfl (by decide) rfl ?_
      refine c_iconst G (nI 0) dX12_fillsSet_8 kI_0 ?_
      refine c_istore G [(4, .int (nI 0)), (3, .int (nI 0)), (0, .ref (wB w + pz (a0))), (1, .int a1), (2, .int a2)] dX12_fillsSet_9 (by decide) rfl ?_
      refine c_weak _ [2, 3, 4, 1, 0] rfl (cl_X12_fillsSet_11 G hQ _ h_a0 ?_ N (nI 0) (nI 0) M1)
      · intro l3_3 M4
        refine c_goto (tgt := 2) G dX12_fillsSet_85 (by decide) ?_
        exact c_weak _ [0, 1, 2, 3] rfl (ih l3_3 M4)
set_option maxHeartbeats 4000000 in
set_option maxRecDepth 100000 in
theorem con_X12_fillsSet {w : Wp} {N : Nat} {a0 : Nat} {a1 : Int32} {a2 : Int32} {M : Mm} {q : Mm} (h_a0 : lay a0 = (5, 12)) (hq : D_X12_fillsSet N a0 a1 a2 M = some q) : Con w 3 yX12_fillsSet cX12_fillsSet 5 none [.ref (wB w + pz (a0)), .int a1, .int a2] M (encV q) := by
  refine Con.of encV q _ hq (by decide) (Nat.le_of_ble_eq_true rfl) ?_
  intro X G Q hQ
  have G : Good w X cX12_fillsSet 5 RX12 none 3 := G
  refine c_weak [(0, .ref (wB w + pz (a0))), (1, .int a1), (2, .int a2)] [0, 1, 2] rfl ?_
  rw [D_X12_fillsSet]
  refine c_iconst G (nI 1) dX12_fillsSet_0 kI_1 ?_
  refine c_istore_n G [(3, .int (nI 1)), (0, .ref (wB w + pz (a0))), (1, .int a1), (2, .int a2)] dX12_fillsSet_1 rfl (by decide) rfl ?_
  refine c_weak _ [1, 2, 3, 0] rfl (cl_X12_fillsSet_2 G hQ  h_a0 N (nI 1) M)
set_option maxHeartbeats 4000000 in
set_option maxRecDepth 100000 in
theorem cl_X12_laysVisits_2 {w : Wp} {X : Cx} {Q : State → Prop} {ρ : Mm} (G : Good w X cX12_laysVisits 4 RX12 none 4) (hQ : Q = MQ (xL X) (Qd w (encV ρ)) (xA X) (xS X) (xk X) (xs X) (Aw w)) (kE21 : Mm → Option (Mm)) {a0 : Nat} {a1 : Int32} (h_a0 : lay a0 = (5, 12)) (hE21 : ∀ (Mz : Mm), Cov w X Q ρ some 4 21 [(0, .ref (wB w + pz (a0))), (1, .int a1)] [] Mz (kE21 Mz)) : ∀ (n : Nat) (l2_1 : Int32) (M1 : Mm), Cov w X Q ρ some 4 2 [(0, .ref (wB w + pz (a0))), (1, .int a1), (2, .int l2_1)] [] M1 (L_X12_laysVisits_2 kE21 a0 n l2_1 M1) := by
  intro n
  induction n with
  | zero => intro l2_1 M1; exact c_none
  | succ n ih =>
    intro l2_1 M1
    rw [L_X12_laysVisits_2]
    refine c_iload_n G dX12_laysVisits_2 rfl 2 rfl ?_
    refine c_bipush G (nI 8) dX12_laysVisits_3 kB_8 ?_
    refine c_icmp_ge (tgt := 21) G dX12_laysVisits_5 (by decide) (fun _ => ?_) (fun _ => ?_)
    · skip
      exact c_weak _ [0, 1] rfl (hE21 M1)
    · skip
      refine c_aload_n G dX12_laysVisits_8 rfl 0 rfl ?_
      refine c_getF G fl_X12_48 h_a0 rfl dX12_laysVisits_9 ?_
      refine c_iload_n G dX12_laysVisits_12 rfl 2 rfl ?_
      refine c_iconst G (nI 0) dX12_laysVisits_13 kI_0 ?_
      refine c_iast G (lf h_a0 28 rfl) dX12_laysVisits_14 (fun M2 _ => ?_)
      refine c_iinc G (fun y__ => [(2, .int y__), (0, .ref (wB w + pz (a0))), (1, .int a1)]) dX12_laysVisits_15 2 rfl kI_1 (by decide) (fun _ => rfl) (fun l2_2 _ => ?_)
      refine c_goto (tgt := 2) G dX12_laysVisits_18 (by decide) ?_
      exact c_weak _ [1, 2, 0] rfl (ih l2_2 M2)
set_option maxHeartbeats 4000000 in
set_option maxRecDepth 100000 in
theorem cl_X12_laysVisits_78 {w : Wp} {X : Cx} {Q : State → Prop} {ρ : Mm} (G : Good w X cX12_laysVisits 4 RX12 none 4) (hQ : Q = MQ (xL X) (Qd w (encV ρ)) (xA X) (xS X) (xk X) (xs X) (Aw w)) (kE112 : Int32 → Option (Mm)) {N : Nat} {a0 : Nat} {a1 : Int32} {M7 : Mm} (h_a0 : lay a0 = (5, 12)) (hE112 : ∀ (z2 : Int32), Cov w X Q ρ some 4 112 [(0, .ref (wB w + pz (a0))), (1, .int a1), (2, .int z2)] [] M7 (kE112 z2)) : ∀ (n : Nat) (l2_4 : Int32) (l3_1 : Int32), Cov w X Q ρ some 4 78 [(0, .ref (wB w + pz (a0))), (1, .int a1), (2, .int l2_4), (3, .int l3_1)] [] M7 (L_X12_laysVisits_78 kE112 N a0 a1 M7 n l2_4 l3_1) := by
  intro n
  induction n with
  | zero => intro l2_4 l3_1; exact c_none
  | succ n ih =>
    intro l2_4 l3_1
    rw [L_X12_laysVisits_78]
    refine c_iload_n G dX12_laysVisits_78 rfl 3 rfl ?_
    refine c_aload_n G dX12_laysVisits_79 rfl 0 rfl ?_
    refine c_iload_n G dX12_laysVisits_80 rfl 1 rfl ?_
    refine c_callV_PI (d := 1) (rest := [.int l3_1]) G [.int a1] yv_X12_attributes ml_X12_334 (by omega) (by decide) rfl rfl (Nat.le_of_ble_eq_true rfl) h_a0 (fun q hq => con_X12_attributes h_a0 hq) dX12_laysVisits_81 (fun q2 _ => ?_)
    refine c_icmp_ge (tgt := 112) G dX12_laysVisits_84 (by decide) (fun _ => ?_) (fun _ => ?_)
    · skip
      exact c_weak _ [0, 1, 2] rfl (hE112 l2_4)
    · skip
      refine c_iload_n G dX12_laysVisits_87 rfl 2 rfl ?_
      refine c_jn (ej := fun (p100 : Unit) => [(0, .ref (wB w + pz (a0))), (1, .int a1), (3, .int l3_1)]) (sj := fun p100 => []) (mj := fun p100 => M7) (pj := 100) (fun p100 => ?_) (fun J1 hJ100 => ?_)
      · skip
        refine c_iconst G (nI 1) dX12_laysVisits_100 kI_1 ?_
        refine c_goto (tgt := 105) G dX12_laysVisits_101 (by decide) ?_
        refine c_istore_n G [(2, .int (nI 1)), (0, .ref (wB w + pz (a0))), (1, .int a1), (3, .int l3_1)] dX12_laysVisits_105 rfl (by decide) rfl ?_
        refine c_iinc G (fun y__ => [(3, .int y__), (2, .int (nI 1)), (0, .ref (wB w + pz (a0))), (1, .int a1)]) dX12_laysVisits_106 3 rfl kI_1 (by decide) (fun _ => rfl) (fun l3_2 _ => ?_)
        refine c_goto (tgt := 78) G dX12_laysVisits_109 (by decide) ?_
        exact c_weak _ [2, 3, 1, 0] rfl (ih (nI 1) l3_2)
      · skip
        refine c_if_ne (tgt := 100) G dX12_laysVisits_88 (by decide) (fun _ => ?_) (fun _ => ?_)
        · skip
          refine c_aload_n G dX12_laysVisits_91 rfl 0 rfl ?_
          refine c_getF G fl_X12_48 h_a0 rfl dX12_laysVisits_92 ?_
          refine c_iload_n G dX12_laysVisits_95 rfl 3 rfl ?_
          refine c_iald G (lf h_a0 28 rfl) dX12_laysVisits_96 (fun v2 _ => ?_)
          refine c_if_ne (tgt := 104) G dX12_laysVisits_97 (by decide) (fun _ => ?_) (fun _ => ?_)
          · skip
            exact c_weak _ [0, 1, 3] rfl (hJ100 ())
          · skip
            refine c_iconst G (nI 0) dX12_laysVisits_104 kI_0 ?_
            refine c_istore_n G [(2, .int (nI 0)), (0, .ref (wB w + pz (a0))), (1, .int a1), (3, .int l3_1)] dX12_laysVisits_105 rfl (by decide) rfl ?_
            refine c_iinc G (fun y__ => [(3, .int y__), (2, .int (nI 0)), (0, .ref (wB w + pz (a0))), (1, .int a1)]) dX12_laysVisits_106 3 rfl kI_1 (by decide) (fun _ => rfl) (fun l3_3 _ => ?_)
            refine c_goto (tgt := 78) G dX12_laysVisits_109 (by decide) ?_
            exact c_weak _ [2, 3, 1, 0] rfl (ih (nI 0) l3_3)
        · skip
          exact c_weak _ [0, 1, 3] rfl (hJ100 ())
set_option maxHeartbeats 4000000 in
set_option maxRecDepth 100000 in
theorem cl_X12_laysVisits_40 {w : Wp} {X : Cx} {Q : State → Prop} {ρ : Mm} (G : Good w X cX12_laysVisits 4 RX12 none 4) (hQ : Q = MQ (xL X) (Qd w (encV ρ)) (xA X) (xS X) (xk X) (xs X) (Aw w)) (kE115 : Mm → Option (Mm)) {a0 : Nat} {N : Nat} {a1 : Int32} (h_a0 : lay a0 = (5, 12)) (hE115 : ∀ (Mz : Mm), Cov w X Q ρ some 4 115 [(0, .ref (wB w + pz (a0))), (1, .int a1)] [] Mz (kE115 Mz)) : ∀ (n : Nat) (l2_3 : Int32) (M5 : Mm), Cov w X Q ρ some 4 40 [(0, .ref (wB w + pz (a0))), (1, .int a1), (2, .int l2_3)] [] M5 (L_X12_laysVisits_40 kE115 a0 N a1 n l2_3 M5) := by
  intro n
  induction n with
  | zero => intro l2_3 M5; exact c_none
  | succ n ih =>
    intro l2_3 M5
    rw [L_X12_laysVisits_40]
    refine c_iload_n G dX12_laysVisits_40 rfl 2 rfl ?_
    refine c_if_eq (tgt := 115) G dX12_laysVisits_41 (by decide) (fun _ => ?_) (fun _ => ?_)
    · skip
      exact c_weak _ [0, 1] rfl (hE115 M5)
    · skip
      refine c_aload_n G dX12_laysVisits_44 rfl 0 rfl ?_
      refine c_dup G dX12_laysVisits_45 rfl ?_
      refine c_getI G fl_X12_379 h_a0 rfl dX12_laysVisits_46 ?_
      refine c_iconst G (nI 1) dX12_laysVisits_49 kI_1 ?_
      refine c_iadd G dX12_laysVisits_50 ?_
      refine c_putI G fp_X12_379 h_a0 rfl dX12_laysVisits_51 (fun M6 _ => ?_)
      refine c_aload_n G dX12_laysVisits_54 rfl 0 rfl ?_
      refine c_iload_n G dX12_laysVisits_55 rfl 1 rfl ?_
      refine c_aload_n G dX12_laysVisits_56 rfl 0 rfl ?_
      refine c_getI G fl_X12_379 h_a0 rfl dX12_laysVisits_57 ?_
      refine c_iconst G (nI 2) dX12_laysVisits_60 kI_2 ?_
      refine c_irem G dX12_laysVisits_61 (fun v1 _ => ?_)
      refine c_iconst G (nI 1) dX12_laysVisits_62 kI_1 ?_
      refine c_bj (ej := fun (p71 : Int32) => [(0, .ref (wB w + pz (a0))), (1, .int a1)]) (sj := fun p71 => [.int p71, .int a1, .ref (wB w + pz (a0))]) (mj := fun p71 => M6) (pj := 71) (fun p71 => ?_) (fun F hJ71 => ?_)
      · skip
        refine c_callV_V (d := 3) (rest := []) G [.int a1, .int p71] yv_X12_fillsSet ml_X12_382 (by omega) (by decide) rfl rfl (Nat.le_of_ble_eq_true rfl) h_a0 (fun q hq => con_X12_fillsSet h_a0 hq) dX12_laysVisits_71 (fun M7 _ => ?_)
        refine c_iconst G (nI 0) dX12_laysVisits_74 kI_0 ?_
        refine c_istore_n G [(2, .int (nI 0)), (0, .ref (wB w + pz (a0))), (1, .int a1)] dX12_laysVisits_75 rfl (by decide) rfl ?_
        refine c_iconst G (nI 0) dX12_laysVisits_76 kI_0 ?_
        refine c_istore_n G [(3, .int (nI 0)), (2, .int (nI 0)), (0, .ref (wB w + pz (a0))), (1, .int a1)] dX12_laysVisits_77 rfl (by decide) rfl ?_
        refine c_weak _ [2, 3, 1, 0] rfl (cl_X12_laysVisits_78 G hQ _ h_a0 ?_ N (nI 0) (nI 0))
        · intro l2_5
          refine c_goto (tgt := 40) G dX12_laysVisits_112 (by decide) ?_
          exact c_weak _ [0, 1, 2] rfl (ih l2_5 M7)
      · skip
        refine c_icmp_ne (tgt := 70) G dX12_laysVisits_63 (by decide) (fun _ => ?_) (fun _ => ?_)
        · skip
          refine c_iconst G (nI 1) dX12_laysVisits_66 kI_1 ?_
          refine c_goto (tgt := 71) G dX12_laysVisits_67 (by decide) ?_
          exact c_weak _ [0, 1] rfl (hJ71 (nI 1))
        · skip
          refine c_iconst G (nI 0) dX12_laysVisits_70 kI_0 ?_
          exact c_weak _ [0, 1] rfl (hJ71 (nI 0))
set_option maxHeartbeats 4000000 in
set_option maxRecDepth 100000 in
theorem cl_X12_laysVisits_142 {w : Wp} {X : Cx} {Q : State → Prop} {ρ : Mm} (G : Good w X cX12_laysVisits 4 RX12 none 4) (hQ : Q = MQ (xL X) (Qd w (encV ρ)) (xA X) (xS X) (xk X) (xs X) (Aw w)) {N : Nat} {a0 : Nat} {a1 : Int32} (h_a0 : lay a0 = (5, 12)) : ∀ (n : Nat) (l3_4 : Int32) (M10 : Mm), Cov w X Q ρ some 4 142 [(0, .ref (wB w + pz (a0))), (1, .int a1), (3, .int l3_4)] [] M10 (L_X12_laysVisits_142 N a0 a1 n l3_4 M10) := by
  intro n
  induction n with
  | zero => intro l3_4 M10; exact c_none
  | succ n ih =>
    intro l3_4 M10
    rw [L_X12_laysVisits_142]
    refine c_iload_n G dX12_laysVisits_142 rfl 2 rfl ?_
    refine c_aload_n G dX12_laysVisits_143 rfl 0 rfl ?_
    refine c_iload_n G dX12_laysVisits_144 rfl 1 rfl ?_
    refine c_callV_PI (d := 1) (rest := [.int l3_4]) G [.int a1] yv_X12_attributes ml_X12_334 (by omega) (by decide) rfl rfl (Nat.le_of_ble_eq_true rfl) h_a0 (fun q hq => con_X12_attributes h_a0 hq) dX12_laysVisits_145 (fun q3 _ => ?_)
    refine c_icmp_ge (tgt := 187) G dX12_laysVisits_148 (by decide) (fun _ => ?_) (fun _ => ?_)
    · skip
      exact c_vret G hQ dX12_laysVisits_187
    · skip
      refine c_aload_n G dX12_laysVisits_151 rfl 0 rfl ?_
      refine c_getF G fl_X12_51 h_a0 rfl dX12_laysVisits_152 ?_
      refine c_bipush G (nI 8) dX12_laysVisits_155 kB_8 ?_
      refine c_iload_n G dX12_laysVisits_157 rfl 1 rfl ?_
      refine c_imul G dX12_laysVisits_158 ?_
      refine c_iload_n G dX12_laysVisits_159 rfl 2 rfl ?_
      refine c_iadd G dX12_laysVisits_160 ?_
      refine c_aload_n G dX12_laysVisits_161 rfl 0 rfl ?_
      refine c_getF G fl_X12_54 h_a0 rfl dX12_laysVisits_162 ?_
      refine c_iload_n G dX12_laysVisits_165 rfl 1 rfl ?_
      refine c_iald G (lf h_a0 30 rfl) dX12_laysVisits_166 (fun v3 _ => ?_)
      refine c_aload_n G dX12_laysVisits_167 rfl 0 rfl ?_
      refine c_getF G fl_X12_48 h_a0 rfl dX12_laysVisits_168 ?_
      refine c_iload_n G dX12_laysVisits_171 rfl 2 rfl ?_
      refine c_iald G (lf h_a0 28 rfl) dX12_laysVisits_172 (fun v4 _ => ?_)
      refine c_iconst G (nI 1) dX12_laysVisits_173 kI_1 ?_
      refine c_iadd G dX12_laysVisits_174 ?_
      refine c_iconst G (nI 2) dX12_laysVisits_175 kI_2 ?_
      refine c_idiv G dX12_laysVisits_176 (fun v5 _ => ?_)
      refine c_isub G dX12_laysVisits_177 ?_
      refine c_iconst G (nI 1) dX12_laysVisits_178 kI_1 ?_
      refine c_iadd G dX12_laysVisits_179 ?_
      refine c_iast G (lf h_a0 29 rfl) dX12_laysVisits_180 (fun M11 _ => ?_)
      refine c_iinc G (fun y__ => [(3, .int y__), (0, .ref (wB w + pz (a0))), (1, .int a1)]) dX12_laysVisits_181 2 rfl kI_1 (by decide) (fun _ => rfl) (fun l3_5 _ => ?_)
      refine c_goto (tgt := 142) G dX12_laysVisits_184 (by decide) ?_
      exact c_weak _ [1, 2, 0] rfl (ih l3_5 M11)
set_option maxHeartbeats 4000000 in
set_option maxRecDepth 100000 in
theorem con_X12_laysVisits {w : Wp} {N : Nat} {a0 : Nat} {a1 : Int32} {M : Mm} {q : Mm} (h_a0 : lay a0 = (5, 12)) (hq : D_X12_laysVisits N a0 a1 M = some q) : Con w 4 yX12_laysVisits cX12_laysVisits 4 none [.ref (wB w + pz (a0)), .int a1] M (encV q) := by
  refine Con.of encV q _ hq (by decide) (Nat.le_of_ble_eq_true rfl) ?_
  intro X G Q hQ
  have G : Good w X cX12_laysVisits 4 RX12 none 4 := G
  refine c_weak [(0, .ref (wB w + pz (a0))), (1, .int a1)] [0, 1] rfl ?_
  rw [D_X12_laysVisits]
  refine c_iconst G (nI 0) dX12_laysVisits_0 kI_0 ?_
  refine c_istore_n G [(2, .int (nI 0)), (0, .ref (wB w + pz (a0))), (1, .int a1)] dX12_laysVisits_1 rfl (by decide) rfl ?_
  refine c_weak _ [1, 2, 0] rfl (cl_X12_laysVisits_2 G hQ _ h_a0 ?_ N (nI 0) M)
  · intro M3
    refine c_aload_n G dX12_laysVisits_21 rfl 0 rfl ?_
    refine c_iconst G (nI 0) dX12_laysVisits_22 kI_0 ?_
    refine c_putI G fp_X12_379 h_a0 rfl dX12_laysVisits_23 (fun M4 _ => ?_)
    refine c_aload_n G dX12_laysVisits_26 rfl 0 rfl ?_
    refine c_iload_n G dX12_laysVisits_27 rfl 1 rfl ?_
    refine c_callV_PI (d := 1) (rest := []) G [.int a1] yv_X12_attributes ml_X12_334 (by omega) (by decide) rfl rfl (Nat.le_of_ble_eq_true rfl) h_a0 (fun q hq => con_X12_attributes h_a0 hq) dX12_laysVisits_28 (fun q1 _ => ?_)
    refine c_bj (ej := fun (p39 : Int32) => [(0, .ref (wB w + pz (a0))), (1, .int a1)]) (sj := fun p39 => [.int p39]) (mj := fun p39 => M4) (pj := 39) (fun p39 => ?_) (fun F hJ39 => ?_)
    · skip
      refine c_istore_n G [(2, .int p39), (0, .ref (wB w + pz (a0))), (1, .int a1)] dX12_laysVisits_39 rfl (by decide) rfl ?_
      refine c_weak _ [1, 2, 0] rfl (cl_X12_laysVisits_40 G hQ _ h_a0 ?_ N p39 M4)
      · intro M8
        refine c_aload_n G dX12_laysVisits_115 rfl 0 rfl ?_
        refine c_getF G fl_X12_54 h_a0 rfl dX12_laysVisits_116 ?_
        refine c_iload_n G dX12_laysVisits_119 rfl 1 rfl ?_
        refine c_aload_n G dX12_laysVisits_120 rfl 0 rfl ?_
        refine c_getI G fl_X12_379 h_a0 rfl dX12_laysVisits_121 ?_
        refine c_bj (ej := fun (p139 : Int32) => [(0, .ref (wB w + pz (a0))), (1, .int a1)]) (sj := fun p139 => [.int p139, .int a1, .ref (wB w + pz ((a0 + 13)))]) (mj := fun p139 => M8) (pj := 139) (fun p139 => ?_) (fun F hJ139 => ?_)
        · skip
          refine c_iast G (lf h_a0 30 rfl) dX12_laysVisits_139 (fun M9 _ => ?_)
          refine c_iconst G (nI 0) dX12_laysVisits_140 kI_0 ?_
          refine c_istore_n G [(3, .int (nI 0)), (0, .ref (wB w + pz (a0))), (1, .int a1)] dX12_laysVisits_141 rfl (by decide) rfl ?_
          refine c_weak _ [1, 2, 0] rfl (cl_X12_laysVisits_142 G hQ  h_a0 N (nI 0) M9)
        · skip
          refine c_if_ne (tgt := 131) G dX12_laysVisits_124 (by decide) (fun _ => ?_) (fun _ => ?_)
          · skip
            refine c_iconst G (nI 1) dX12_laysVisits_127 kI_1 ?_
            refine c_goto (tgt := 139) G dX12_laysVisits_128 (by decide) ?_
            exact c_weak _ [0, 1] rfl (hJ139 (nI 1))
          · skip
            refine c_aload_n G dX12_laysVisits_131 rfl 0 rfl ?_
            refine c_getI G fl_X12_379 h_a0 rfl dX12_laysVisits_132 ?_
            refine c_iconst G (nI 1) dX12_laysVisits_135 kI_1 ?_
            refine c_iadd G dX12_laysVisits_136 ?_
            refine c_iconst G (nI 2) dX12_laysVisits_137 kI_2 ?_
            refine c_idiv G dX12_laysVisits_138 (fun v6 _ => ?_)
            exact c_weak _ [0, 1] rfl (hJ139 v6)
    · skip
      refine c_if_le (tgt := 38) G dX12_laysVisits_31 (by decide) (fun _ => ?_) (fun _ => ?_)
      · skip
        refine c_iconst G (nI 0) dX12_laysVisits_38 kI_0 ?_
        exact c_weak _ [0, 1] rfl (hJ39 (nI 0))
      · skip
        refine c_iconst G (nI 1) dX12_laysVisits_34 kI_1 ?_
        refine c_goto (tgt := 39) G dX12_laysVisits_35 (by decide) ?_
        exact c_weak _ [0, 1] rfl (hJ39 (nI 1))
set_option maxHeartbeats 4000000 in
set_option maxRecDepth 100000 in
theorem cl_X12_laysAllVisits_2 {w : Wp} {X : Cx} {Q : State → Prop} {ρ : Mm} (G : Good w X cX12_laysAllVisits 2 RX12 none 5) (hQ : Q = MQ (xL X) (Qd w (encV ρ)) (xA X) (xS X) (xk X) (xs X) (Aw w)) {a0 : Nat} {N : Nat} (h_a0 : lay a0 = (5, 12)) : ∀ (n : Nat) (l1_1 : Int32) (M1 : Mm), Cov w X Q ρ some 2 2 [(0, .ref (wB w + pz (a0))), (1, .int l1_1)] [] M1 (L_X12_laysAllVisits_2 a0 N n l1_1 M1) := by
  intro n
  induction n with
  | zero => intro l1_1 M1; exact c_none
  | succ n ih =>
    intro l1_1 M1
    rw [L_X12_laysAllVisits_2]
    refine c_iload_n G dX12_laysAllVisits_2 rfl 1 rfl ?_
    refine c_aload_n G dX12_laysAllVisits_3 rfl 0 rfl ?_
    refine c_getF G fl_X12_13 h_a0 rfl dX12_laysAllVisits_4 ?_
    refine c_iconst G (nI 0) dX12_laysAllVisits_7 kI_0 ?_
    refine c_iald G (lf h_a0 1 rfl) dX12_laysAllVisits_8 (fun v1 _ => ?_)
    refine c_icmp_ge (tgt := 31) G dX12_laysAllVisits_9 (by decide) (fun _ => ?_) (fun _ => ?_)
    · skip
      exact c_vret G hQ dX12_laysAllVisits_31
    · skip
      refine c_aload_n G dX12_laysAllVisits_12 rfl 0 rfl ?_
      refine c_iload_n G dX12_laysAllVisits_13 rfl 1 rfl ?_
      refine c_callV_PI (d := 2) (rest := []) G [.int l1_1] yv_X12_isSelf ml_X12_359 (by omega) (by decide) rfl rfl (Nat.le_of_ble_eq_true rfl) h_a0 (fun q hq => con_X12_isSelf h_a0 hq) dX12_laysAllVisits_14 (fun q1 _ => ?_)
      refine c_if_ne (tgt := 25) G dX12_laysAllVisits_17 (by decide) (fun _ => ?_) (fun _ => ?_)
      · skip
        refine c_aload_n G dX12_laysAllVisits_20 rfl 0 rfl ?_
        refine c_iload_n G dX12_laysAllVisits_21 rfl 1 rfl ?_
        refine c_callV_V (d := 4) (rest := []) G [.int l1_1] yv_X12_laysVisits ml_X12_386 (by omega) (by decide) rfl rfl (Nat.le_of_ble_eq_true rfl) h_a0 (fun q hq => con_X12_laysVisits h_a0 hq) dX12_laysAllVisits_22 (fun M2 _ => ?_)
        refine c_iinc G (fun y__ => [(1, .int y__), (0, .ref (wB w + pz (a0)))]) dX12_laysAllVisits_25 1 rfl kI_1 (by decide) (fun _ => rfl) (fun l1_2 _ => ?_)
        refine c_goto (tgt := 2) G dX12_laysAllVisits_28 (by decide) ?_
        exact c_weak _ [1, 0] rfl (ih l1_2 M2)
      · skip
        refine c_iinc G (fun y__ => [(1, .int y__), (0, .ref (wB w + pz (a0)))]) dX12_laysAllVisits_25 1 rfl kI_1 (by decide) (fun _ => rfl) (fun l1_3 _ => ?_)
        refine c_goto (tgt := 2) G dX12_laysAllVisits_28 (by decide) ?_
        exact c_weak _ [1, 0] rfl (ih l1_3 M1)
set_option maxHeartbeats 4000000 in
set_option maxRecDepth 100000 in
theorem con_X12_laysAllVisits {w : Wp} {N : Nat} {a0 : Nat} {M : Mm} {q : Mm} (h_a0 : lay a0 = (5, 12)) (hq : D_X12_laysAllVisits N a0 M = some q) : Con w 5 yX12_laysAllVisits cX12_laysAllVisits 2 none [.ref (wB w + pz (a0))] M (encV q) := by
  refine Con.of encV q _ hq (by decide) (Nat.le_of_ble_eq_true rfl) ?_
  intro X G Q hQ
  have G : Good w X cX12_laysAllVisits 2 RX12 none 5 := G
  refine c_weak [(0, .ref (wB w + pz (a0)))] [0] rfl ?_
  rw [D_X12_laysAllVisits]
  refine c_iconst G (nI 0) dX12_laysAllVisits_0 kI_0 ?_
  refine c_istore_n G [(1, .int (nI 0)), (0, .ref (wB w + pz (a0)))] dX12_laysAllVisits_1 rfl (by decide) rfl ?_
  refine c_weak _ [1, 0] rfl (cl_X12_laysAllVisits_2 G hQ  h_a0 N (nI 0) M)
set_option maxHeartbeats 4000000 in
set_option maxRecDepth 100000 in
theorem cl_X12_addsVisits_45 {w : Wp} {X : Cx} {Q : State → Prop} {ρ : Mm} (G : Good w X cX12_addsVisits 8 RX12 none 6) (hQ : Q = MQ (xL X) (Qd w (encV ρ)) (xA X) (xS X) (xk X) (xs X) (Aw w)) (kE189 : Mm → Option (Mm)) {N : Nat} {a0 : Nat} {q1 : Int32} {l4_1 : Int32} {l2_1 : Int32} {a1 : Int32} (h_a0 : lay a0 = (5, 12)) (hE189 : ∀ (Mz : Mm), Cov w X Q ρ some 8 189 [(0, .ref (wB w + pz (a0))), (1, .int a1), (2, .int l2_1), (3, .int q1), (4, .int l4_1)] [] Mz (kE189 Mz)) : ∀ (n : Nat) (l5_1 : Int32) (M4 : Mm), Cov w X Q ρ some 8 45 [(0, .ref (wB w + pz (a0))), (1, .int a1), (2, .int l2_1), (3, .int q1), (4, .int l4_1), (5, .int l5_1)] [] M4 (L_X12_addsVisits_45 kE189 N a0 q1 l4_1 l2_1 n l5_1 M4) := by
  intro n
  induction n with
  | zero => intro l5_1 M4; exact c_none
  | succ n ih =>
    intro l5_1 M4
    rw [L_X12_addsVisits_45]
    refine c_iload G dX12_addsVisits_45 5 rfl ?_
    refine c_aload_n G dX12_addsVisits_47 rfl 0 rfl ?_
    refine c_iload_n G dX12_addsVisits_48 rfl 3 rfl ?_
    refine c_callV_PI (d := 1) (rest := [.int l5_1]) G [.int q1] yv_X12_attributes ml_X12_334 (by omega) (by decide) rfl rfl (Nat.le_of_ble_eq_true rfl) h_a0 (fun q hq => con_X12_attributes h_a0 hq) dX12_addsVisits_49 (fun q3 _ => ?_)
    refine c_icmp_ge (tgt := 189) G dX12_addsVisits_52 (by decide) (fun _ => ?_) (fun _ => ?_)
    · skip
      exact c_weak _ [0, 1, 2, 3, 4] rfl (hE189 M4)
    · skip
      refine c_aload_n G dX12_addsVisits_55 rfl 0 rfl ?_
      refine c_getF G fl_X12_51 h_a0 rfl dX12_addsVisits_56 ?_
      refine c_bipush G (nI 8) dX12_addsVisits_59 kB_8 ?_
      refine c_iload_n G dX12_addsVisits_61 rfl 3 rfl ?_
      refine c_imul G dX12_addsVisits_62 ?_
      refine c_iload G dX12_addsVisits_63 4 rfl ?_
      refine c_iadd G dX12_addsVisits_65 ?_
      refine c_iald G (lf h_a0 29 rfl) dX12_addsVisits_66 (fun v2 _ => ?_)
      refine c_aload_n G dX12_addsVisits_67 rfl 0 rfl ?_
      refine c_getF G fl_X12_51 h_a0 rfl dX12_addsVisits_68 ?_
      refine c_bipush G (nI 8) dX12_addsVisits_71 kB_8 ?_
      refine c_iload_n G dX12_addsVisits_73 rfl 3 rfl ?_
      refine c_imul G dX12_addsVisits_74 ?_
      refine c_iload G dX12_addsVisits_75 5 rfl ?_
      refine c_iadd G dX12_addsVisits_77 ?_
      refine c_iald G (lf h_a0 29 rfl) dX12_addsVisits_78 (fun v3 _ => ?_)
      refine c_bj (ej := fun (p87 : Int32) => [(0, .ref (wB w + pz (a0))), (1, .int a1), (2, .int l2_1), (3, .int q1), (4, .int l4_1), (5, .int l5_1)]) (sj := fun p87 => [.int p87]) (mj := fun p87 => M4) (pj := 87) (fun p87 => ?_) (fun F hJ87 => ?_)
      · skip
        refine c_istore G [(6, .int p87), (0, .ref (wB w + pz (a0))), (1, .int a1), (2, .int l2_1), (3, .int q1), (4, .int l4_1), (5, .int l5_1)] dX12_addsVisits_87 (by decide) rfl ?_
        refine c_aload_n G dX12_addsVisits_89 rfl 1 rfl ?_
        refine c_getF G fl_X12_51 h_a0 rfl dX12_addsVisits_90 ?_
        refine c_bipush G (nI 8) dX12_addsVisits_93 kB_8 ?_
        refine c_iload_n G dX12_addsVisits_95 rfl 4 rfl ?_
        refine c_imul G dX12_addsVisits_96 ?_
        refine c_iload G dX12_addsVisits_97 5 rfl ?_
        refine c_iadd G dX12_addsVisits_99 ?_
        refine c_iald G (lf h_a0 29 rfl) dX12_addsVisits_100 (fun v4 _ => ?_)
        refine c_aload_n G dX12_addsVisits_101 rfl 1 rfl ?_
        refine c_getF G fl_X12_51 h_a0 rfl dX12_addsVisits_102 ?_
        refine c_bipush G (nI 8) dX12_addsVisits_105 kB_8 ?_
        refine c_iload_n G dX12_addsVisits_107 rfl 4 rfl ?_
        refine c_imul G dX12_addsVisits_108 ?_
        refine c_iload G dX12_addsVisits_109 6 rfl ?_
        refine c_iadd G dX12_addsVisits_111 ?_
        refine c_iald G (lf h_a0 29 rfl) dX12_addsVisits_112 (fun v5 _ => ?_)
        refine c_bj (ej := fun (p147 : Int32) => [(0, .ref (wB w + pz (a0))), (1, .int a1), (2, .int l2_1), (3, .int q1), (4, .int l4_1), (5, .int l5_1), (6, .int p87)]) (sj := fun p147 => [.int p147]) (mj := fun p147 => M4) (pj := 147) (fun p147 => ?_) (fun F hJ147 => ?_)
        · skip
          refine c_istore G [(7, .int p147), (0, .ref (wB w + pz (a0))), (1, .int a1), (2, .int l2_1), (3, .int q1), (4, .int l4_1), (5, .int l5_1), (6, .int p87)] dX12_addsVisits_147 (by decide) rfl ?_
          refine c_iload G dX12_addsVisits_149 7 rfl ?_
          refine c_jn (ej := fun (p159 : Unit) => [(0, .ref (wB w + pz (a0))), (1, .int a1), (2, .int l2_1), (3, .int q1), (4, .int l4_1), (5, .int l5_1)]) (sj := fun p159 => []) (mj := fun p159 => M4) (pj := 159) (fun p159 => ?_) (fun J1 hJ159 => ?_)
          · skip
            refine c_aload_n G dX12_addsVisits_159 rfl 0 rfl ?_
            refine c_getF G fl_X12_36 h_a0 rfl dX12_addsVisits_160 ?_
            refine c_bipush G (nI 8) dX12_addsVisits_163 kB_8 ?_
            refine c_iload_n G dX12_addsVisits_165 rfl 2 rfl ?_
            refine c_imul G dX12_addsVisits_166 ?_
            refine c_iload G dX12_addsVisits_167 4 rfl ?_
            refine c_iadd G dX12_addsVisits_169 ?_
            refine c_dup2 G dX12_addsVisits_170 rfl rfl ?_
            refine c_iald G (lf h_a0 23 rfl) dX12_addsVisits_171 (fun v6 _ => ?_)
            refine c_iconst G (nI 1) dX12_addsVisits_172 kI_1 ?_
            refine c_bipush G (nI 8) dX12_addsVisits_173 kB_8 ?_
            refine c_iload_n G dX12_addsVisits_175 rfl 2 rfl ?_
            refine c_imul G dX12_addsVisits_176 ?_
            refine c_iload G dX12_addsVisits_177 5 rfl ?_
            refine c_iadd G dX12_addsVisits_179 ?_
            refine c_ishl G dX12_addsVisits_180 ?_
            refine c_ior G dX12_addsVisits_181 ?_
            refine c_iast G (lf h_a0 23 rfl) dX12_addsVisits_182 (fun M5 _ => ?_)
            refine c_iinc G (fun y__ => [(5, .int y__), (0, .ref (wB w + pz (a0))), (1, .int a1), (2, .int l2_1), (3, .int q1), (4, .int l4_1)]) dX12_addsVisits_183 5 rfl kI_1 (by decide) (fun _ => rfl) (fun l5_2 _ => ?_)
            refine c_goto (tgt := 45) G dX12_addsVisits_186 (by decide) ?_
            exact c_weak _ [1, 2, 3, 4, 5, 0] rfl (ih l5_2 M5)
          · skip
            refine c_if_ne (tgt := 159) G dX12_addsVisits_151 (by decide) (fun _ => ?_) (fun _ => ?_)
            · skip
              refine c_iload G dX12_addsVisits_154 0 rfl ?_
              refine c_if_eq (tgt := 183) G dX12_addsVisits_156 (by decide) (fun _ => ?_) (fun _ => ?_)
              · skip
                refine c_iinc G (fun y__ => [(5, .int y__), (7, .int p147), (0, .ref (wB w + pz (a0))), (1, .int a1), (2, .int l2_1), (3, .int q1), (4, .int l4_1), (6, .int p87)]) dX12_addsVisits_183 6 rfl kI_1 (by decide) (fun _ => rfl) (fun l5_3 _ => ?_)
                refine c_goto (tgt := 45) G dX12_addsVisits_186 (by decide) ?_
                exact c_weak _ [2, 3, 4, 5, 6, 0] rfl (ih l5_3 M4)
              · skip
                exact c_weak _ [1, 2, 3, 4, 5, 6] rfl (hJ159 ())
            · skip
              exact c_weak _ [1, 2, 3, 4, 5, 6] rfl (hJ159 ())
        · skip
          refine c_jn (ej := fun (p146 : Unit) => [(0, .ref (wB w + pz (a0))), (1, .int a1), (2, .int l2_1), (3, .int q1), (4, .int l4_1), (5, .int l5_1), (6, .int p87)]) (sj := fun p146 => []) (mj := fun p146 => M4) (pj := 146) (fun p146 => ?_) (fun J2 hJ146 => ?_)
          · skip
            refine c_iconst G (nI 0) dX12_addsVisits_146 kI_0 ?_
            exact c_weak _ [0, 1, 2, 3, 4, 5, 6] rfl (hJ147 (nI 0))
          · skip
            refine c_icmp_ne (tgt := 146) G dX12_addsVisits_113 (by decide) (fun _ => ?_) (fun _ => ?_)
            · skip
              refine c_iload G dX12_addsVisits_116 5 rfl ?_
              refine c_aload_n G dX12_addsVisits_118 rfl 1 rfl ?_
              refine c_getF G fl_X12_13 h_a0 rfl dX12_addsVisits_119 ?_
              refine c_iconst G (nI 4) dX12_addsVisits_122 kI_4 ?_
              refine c_iload_n G dX12_addsVisits_123 rfl 4 rfl ?_
              refine c_iadd G dX12_addsVisits_124 ?_
              refine c_iald G (lf h_a0 1 rfl) dX12_addsVisits_125 (fun v7 _ => ?_)
              refine c_icmp_lt (tgt := 146) G dX12_addsVisits_126 (by decide) (fun _ => ?_) (fun _ => ?_)
              · skip
                exact c_weak _ [1, 2, 3, 4, 5, 6, 0] rfl (hJ146 ())
              · skip
                refine c_iload G dX12_addsVisits_129 6 rfl ?_
                refine c_aload_n G dX12_addsVisits_131 rfl 1 rfl ?_
                refine c_getF G fl_X12_13 h_a0 rfl dX12_addsVisits_132 ?_
                refine c_iconst G (nI 4) dX12_addsVisits_135 kI_4 ?_
                refine c_iload_n G dX12_addsVisits_136 rfl 4 rfl ?_
                refine c_iadd G dX12_addsVisits_137 ?_
                refine c_iald G (lf h_a0 1 rfl) dX12_addsVisits_138 (fun v8 _ => ?_)
                refine c_icmp_ge (tgt := 146) G dX12_addsVisits_139 (by decide) (fun _ => ?_) (fun _ => ?_)
                · skip
                  exact c_weak _ [1, 2, 3, 4, 5, 6, 0] rfl (hJ146 ())
                · skip
                  refine c_iconst G (nI 1) dX12_addsVisits_142 kI_1 ?_
                  refine c_goto (tgt := 147) G dX12_addsVisits_143 (by decide) ?_
                  exact c_weak _ [1, 2, 3, 4, 5, 6, 0] rfl (hJ147 (nI 1))
            · skip
              exact c_weak _ [1, 2, 3, 4, 5, 6, 0] rfl (hJ146 ())
      · skip
        refine c_icmp_le (tgt := 86) G dX12_addsVisits_79 (by decide) (fun _ => ?_) (fun _ => ?_)
        · skip
          refine c_iconst G (nI 0) dX12_addsVisits_86 kI_0 ?_
          exact c_weak _ [0, 1, 2, 3, 4, 5] rfl (hJ87 (nI 0))
        · skip
          refine c_iconst G (nI 1) dX12_addsVisits_82 kI_1 ?_
          refine c_goto (tgt := 87) G dX12_addsVisits_83 (by decide) ?_
          exact c_weak _ [0, 1, 2, 3, 4, 5] rfl (hJ87 (nI 1))
set_option maxHeartbeats 4000000 in
set_option maxRecDepth 100000 in
theorem cl_X12_addsVisits_32 {w : Wp} {X : Cx} {Q : State → Prop} {ρ : Mm} (G : Good w X cX12_addsVisits 8 RX12 none 6) (hQ : Q = MQ (xL X) (Qd w (encV ρ)) (xA X) (xS X) (xk X) (xs X) (Aw w)) (kE195 : Mm → Option (Mm)) {N : Nat} {a0 : Nat} {q1 : Int32} {l2_1 : Int32} {a1 : Int32} (h_a0 : lay a0 = (5, 12)) (hE195 : ∀ (Mz : Mm), Cov w X Q ρ some 8 195 [(0, .ref (wB w + pz (a0))), (1, .int a1), (2, .int l2_1)] [] Mz (kE195 Mz)) : ∀ (n : Nat) (l4_1 : Int32) (M3 : Mm), Cov w X Q ρ some 8 32 [(0, .ref (wB w + pz (a0))), (1, .int a1), (2, .int l2_1), (3, .int q1), (4, .int l4_1)] [] M3 (L_X12_addsVisits_32 kE195 N a0 q1 l2_1 n l4_1 M3) := by
  intro n
  induction n with
  | zero => intro l4_1 M3; exact c_none
  | succ n ih =>
    intro l4_1 M3
    rw [L_X12_addsVisits_32]
    refine c_iload G dX12_addsVisits_32 4 rfl ?_
    refine c_aload_n G dX12_addsVisits_34 rfl 0 rfl ?_
    refine c_iload_n G dX12_addsVisits_35 rfl 3 rfl ?_
    refine c_callV_PI (d := 1) (rest := [.int l4_1]) G [.int q1] yv_X12_attributes ml_X12_334 (by omega) (by decide) rfl rfl (Nat.le_of_ble_eq_true rfl) h_a0 (fun q hq => con_X12_attributes h_a0 hq) dX12_addsVisits_36 (fun q2 _ => ?_)
    refine c_icmp_ge (tgt := 195) G dX12_addsVisits_39 (by decide) (fun _ => ?_) (fun _ => ?_)
    · skip
      exact c_weak _ [0, 1, 2] rfl (hE195 M3)
    · skip
      refine c_iconst G (nI 0) dX12_addsVisits_42 kI_0 ?_
      refine c_istore G [(5, .int (nI 0)), (0, .ref (wB w + pz (a0))), (1, .int a1), (2, .int l2_1), (3, .int q1), (4, .int l4_1)] dX12_addsVisits_43 (by decide) rfl ?_
      refine c_weak _ [1, 2, 3, 4, 5, 0] rfl (cl_X12_addsVisits_45 G hQ _ h_a0 ?_ N (nI 0) M3)
      · intro M6
        refine c_iinc G (fun y__ => [(4, .int y__), (0, .ref (wB w + pz (a0))), (1, .int a1), (2, .int l2_1), (3, .int q1)]) dX12_addsVisits_189 4 rfl kI_1 (by decide) (fun _ => rfl) (fun l4_2 _ => ?_)
        refine c_goto (tgt := 32) G dX12_addsVisits_192 (by decide) ?_
        exact c_weak _ [1, 2, 3, 4, 0] rfl (ih l4_2 M6)
set_option maxHeartbeats 4000000 in
set_option maxRecDepth 100000 in
theorem cl_X12_addsVisits_6 {w : Wp} {X : Cx} {Q : State → Prop} {ρ : Mm} (G : Good w X cX12_addsVisits 8 RX12 none 6) (hQ : Q = MQ (xL X) (Qd w (encV ρ)) (xA X) (xS X) (xk X) (xs X) (Aw w)) {a0 : Nat} {a1 : Int32} {N : Nat} (h_a0 : lay a0 = (5, 12)) : ∀ (n : Nat) (l2_1 : Int32) (M2 : Mm), Cov w X Q ρ some 8 6 [(0, .ref (wB w + pz (a0))), (1, .int a1), (2, .int l2_1)] [] M2 (L_X12_addsVisits_6 a0 a1 N n l2_1 M2) := by
  intro n
  induction n with
  | zero => intro l2_1 M2; exact c_none
  | succ n ih =>
    intro l2_1 M2
    rw [L_X12_addsVisits_6]
    refine c_iload_n G dX12_addsVisits_6 rfl 2 rfl ?_
    refine c_aload_n G dX12_addsVisits_7 rfl 0 rfl ?_
    refine c_getF G fl_X12_13 h_a0 rfl dX12_addsVisits_8 ?_
    refine c_bipush G (nI 32) dX12_addsVisits_11 kB_32 ?_
    refine c_iload_n G dX12_addsVisits_13 rfl 1 rfl ?_
    refine c_iadd G dX12_addsVisits_14 ?_
    refine c_iald G (lf h_a0 1 rfl) dX12_addsVisits_15 (fun v1 _ => ?_)
    refine c_icmp_gt (tgt := 201) G dX12_addsVisits_16 (by decide) (fun _ => ?_) (fun _ => ?_)
    · skip
      exact c_vret G hQ dX12_addsVisits_201
    · skip
      refine c_aload_n G dX12_addsVisits_19 rfl 0 rfl ?_
      refine c_getF G fl_X12_13 h_a0 rfl dX12_addsVisits_20 ?_
      refine c_iload_n G dX12_addsVisits_23 rfl 1 rfl ?_
      refine c_iload_n G dX12_addsVisits_24 rfl 2 rfl ?_
      refine c_callS_PI (d := 0) (rest := []) G [.ref (wB w + pz ((a0 + 2))), .int a1, .int l2_1] ys_X12_symbolAt ml_X12_250 (by omega) (by decide) rfl rfl (Nat.le_of_ble_eq_true rfl) (fun q hq => con_X12_symbolAt (ll (lf h_a0 1 rfl)) hq) dX12_addsVisits_25 (fun q1 _ => ?_)
      refine c_istore_n G [(3, .int q1), (0, .ref (wB w + pz (a0))), (1, .int a1), (2, .int l2_1)] dX12_addsVisits_28 rfl (by decide) rfl ?_
      refine c_iconst G (nI 0) dX12_addsVisits_29 kI_0 ?_
      refine c_istore G [(4, .int (nI 0)), (3, .int q1), (0, .ref (wB w + pz (a0))), (1, .int a1), (2, .int l2_1)] dX12_addsVisits_30 (by decide) rfl ?_
      refine c_weak _ [2, 3, 4, 1, 0] rfl (cl_X12_addsVisits_32 G hQ _ h_a0 ?_ N (nI 0) M2)
      · intro M7
        refine c_iinc G (fun y__ => [(2, .int y__), (0, .ref (wB w + pz (a0))), (1, .int a1)]) dX12_addsVisits_195 2 rfl kI_1 (by decide) (fun _ => rfl) (fun l2_2 _ => ?_)
        refine c_goto (tgt := 6) G dX12_addsVisits_198 (by decide) ?_
        exact c_weak _ [1, 2, 0] rfl (ih l2_2 M7)
set_option maxHeartbeats 4000000 in
set_option maxRecDepth 100000 in
theorem con_X12_addsVisits {w : Wp} {N : Nat} {a0 : Nat} {a1 : Int32} {M : Mm} {q : Mm} (h_a0 : lay a0 = (5, 12)) (hq : D_X12_addsVisits N a0 a1 M = some q) : Con w 6 yX12_addsVisits cX12_addsVisits 8 none [.ref (wB w + pz (a0)), .int a1] M (encV q) := by
  refine Con.of encV q _ hq (by decide) (Nat.le_of_ble_eq_true rfl) ?_
  intro X G Q hQ
  have G : Good w X cX12_addsVisits 8 RX12 none 6 := G
  refine c_weak [(0, .ref (wB w + pz (a0))), (1, .int a1)] [0, 1] rfl ?_
  rw [D_X12_addsVisits]
  refine c_aload_n G dX12_addsVisits_0 rfl 0 rfl ?_
  refine c_callV_V (d := 5) (rest := []) G [] yv_X12_laysAllVisits ml_X12_389 (by omega) (by decide) rfl rfl (Nat.le_of_ble_eq_true rfl) h_a0 (fun q hq => con_X12_laysAllVisits h_a0 hq) dX12_addsVisits_1 (fun M1 _ => ?_)
  refine c_iconst G (nI 0) dX12_addsVisits_4 kI_0 ?_
  refine c_istore_n G [(2, .int (nI 0)), (0, .ref (wB w + pz (a0))), (1, .int a1)] dX12_addsVisits_5 rfl (by decide) rfl ?_
  refine c_weak _ [1, 2, 0] rfl (cl_X12_addsVisits_6 G hQ  h_a0 N (nI 0) M1)
set_option maxHeartbeats 4000000 in
set_option maxRecDepth 100000 in
theorem con_X12_laysOrdered {w : Wp} {N : Nat} {a0 : Nat} {a1 : Int32} {M : Mm} {q : Mm} (h_a0 : lay a0 = (5, 12)) (hq : D_X12_laysOrdered N a0 a1 M = some q) : Con w 7 yX12_laysOrdered cX12_laysOrdered 2 none [.ref (wB w + pz (a0)), .int a1] M (encV q) := by
  refine Con.of encV q _ hq (by decide) (Nat.le_of_ble_eq_true rfl) ?_
  intro X G Q hQ
  have G : Good w X cX12_laysOrdered 2 RX12 none 7 := G
  refine c_weak [(0, .ref (wB w + pz (a0))), (1, .int a1)] [0, 1] rfl ?_
  rw [D_X12_laysOrdered]
  refine c_aload_n G dX12_laysOrdered_0 rfl 0 rfl ?_
  refine c_iload_n G dX12_laysOrdered_1 rfl 1 rfl ?_
  refine c_callV_V (d := 1) (rest := []) G [.int a1] yv_X12_laysRules ml_X12_347 (by omega) (by decide) rfl rfl (Nat.le_of_ble_eq_true rfl) h_a0 (fun q hq => con_X12_laysRules h_a0 hq) dX12_laysOrdered_2 (fun M1 _ => ?_)
  refine c_aload_n G dX12_laysOrdered_5 rfl 0 rfl ?_
  refine c_iload_n G dX12_laysOrdered_6 rfl 1 rfl ?_
  refine c_callV_V (d := 2) (rest := []) G [.int a1] yv_X12_addsInduced ml_X12_350 (by omega) (by decide) rfl rfl (Nat.le_of_ble_eq_true rfl) h_a0 (fun q hq => con_X12_addsInduced h_a0 hq) dX12_laysOrdered_7 (fun M2 _ => ?_)
  refine c_aload_n G dX12_laysOrdered_10 rfl 0 rfl ?_
  refine c_iload_n G dX12_laysOrdered_11 rfl 1 rfl ?_
  refine c_callV_V (d := 6) (rest := []) G [.int a1] yv_X12_addsVisits ml_X12_392 (by omega) (by decide) rfl rfl (Nat.le_of_ble_eq_true rfl) h_a0 (fun q hq => con_X12_addsVisits h_a0 hq) dX12_laysOrdered_12 (fun M3 _ => ?_)
  refine c_aload_n G dX12_laysOrdered_15 rfl 0 rfl ?_
  refine c_callV_V (d := 1) (rest := []) G [] yv_X12_closes ml_X12_353 (by omega) (by decide) rfl rfl (Nat.le_of_ble_eq_true rfl) h_a0 (fun q hq => con_X12_closes h_a0 hq) dX12_laysOrdered_16 (fun M4 _ => ?_)
  exact c_vret G hQ dX12_laysOrdered_19
set_option maxHeartbeats 4000000 in
set_option maxRecDepth 100000 in
theorem cl_X12_block_2 {w : Wp} {X : Cx} {Q : State → Prop} {ρ : Int32 × Mm} (G : Good w X cX12_block 2 RX12 (some .int) 8) (hQ : Q = MQ (xL X) (Qd w (encI ρ)) (xA X) (xS X) (xk X) (xs X) (Aw w)) {a0 : Nat} {N : Nat} (h_a0 : lay a0 = (5, 12)) : ∀ (n : Nat) (l1_1 : Int32) (M1 : Mm), Cov w X Q ρ some 2 2 [(0, .ref (wB w + pz (a0))), (1, .int l1_1)] [] M1 (L_X12_block_2 a0 N n l1_1 M1) := by
  intro n
  induction n with
  | zero => intro l1_1 M1; exact c_none
  | succ n ih =>
    intro l1_1 M1
    rw [L_X12_block_2]
    refine c_iload_n G dX12_block_2 rfl 1 rfl ?_
    refine c_aload_n G dX12_block_3 rfl 0 rfl ?_
    refine c_getF G fl_X12_13 h_a0 rfl dX12_block_4 ?_
    refine c_iconst G (nI 1) dX12_block_7 kI_1 ?_
    refine c_iald G (lf h_a0 1 rfl) dX12_block_8 (fun v1 _ => ?_)
    refine c_icmp_ge (tgt := 48) G dX12_block_9 (by decide) (fun _ => ?_) (fun _ => ?_)
    · skip
      refine c_iconst G m1 dX12_block_48 kI_m1 ?_
      exact c_iret G hQ dX12_block_49
    · skip
      refine c_aload_n G dX12_block_12 rfl 0 rfl ?_
      refine c_iload_n G dX12_block_13 rfl 1 rfl ?_
      refine c_callV_V (d := 3) (rest := []) G [.int l1_1] yv_X12_laysClosed ml_X12_356 (by omega) (by decide) rfl rfl (Nat.le_of_ble_eq_true rfl) h_a0 (fun q hq => con_X12_laysClosed h_a0 hq) dX12_block_14 (fun M2 _ => ?_)
      refine c_aload_n G dX12_block_17 rfl 0 rfl ?_
      refine c_callV_PI (d := 1) (rest := []) G [] yv_X12_firstSelf ml_X12_362 (by omega) (by decide) rfl rfl (Nat.le_of_ble_eq_true rfl) h_a0 (fun q hq => con_X12_firstSelf h_a0 hq) dX12_block_18 (fun q1 _ => ?_)
      refine c_iconst G m1 dX12_block_21 kI_m1 ?_
      refine c_icmp_eq (tgt := 27) G dX12_block_22 (by decide) (fun _ => ?_) (fun _ => ?_)
      · skip
        refine c_aload_n G dX12_block_27 rfl 0 rfl ?_
        refine c_iload_n G dX12_block_28 rfl 1 rfl ?_
        refine c_callV_V (d := 7) (rest := []) G [.int l1_1] yv_X12_laysOrdered ml_X12_395 (by omega) (by decide) rfl rfl (Nat.le_of_ble_eq_true rfl) h_a0 (fun q hq => con_X12_laysOrdered h_a0 hq) dX12_block_29 (fun M3 _ => ?_)
        refine c_aload_n G dX12_block_32 rfl 0 rfl ?_
        refine c_callV_PI (d := 1) (rest := []) G [] yv_X12_firstSelf ml_X12_362 (by omega) (by decide) rfl rfl (Nat.le_of_ble_eq_true rfl) h_a0 (fun q hq => con_X12_firstSelf h_a0 hq) dX12_block_33 (fun q2 _ => ?_)
        refine c_iconst G m1 dX12_block_36 kI_m1 ?_
        refine c_icmp_eq (tgt := 42) G dX12_block_37 (by decide) (fun _ => ?_) (fun _ => ?_)
        · skip
          refine c_iinc G (fun y__ => [(1, .int y__), (0, .ref (wB w + pz (a0)))]) dX12_block_42 1 rfl kI_1 (by decide) (fun _ => rfl) (fun l1_2 _ => ?_)
          refine c_goto (tgt := 2) G dX12_block_45 (by decide) ?_
          exact c_weak _ [1, 0] rfl (ih l1_2 M3)
        · skip
          refine c_iload_n G dX12_block_40 rfl 1 rfl ?_
          exact c_iret G hQ dX12_block_41
      · skip
        refine c_iload_n G dX12_block_25 rfl 1 rfl ?_
        exact c_iret G hQ dX12_block_26
set_option maxHeartbeats 4000000 in
set_option maxRecDepth 100000 in
theorem con_X12_block {w : Wp} {N : Nat} {a0 : Nat} {M : Mm} {q : Int32 × Mm} (h_a0 : lay a0 = (5, 12)) (hq : D_X12_block N a0 M = some q) : Con w 8 yX12_block cX12_block 2 (some .int) [.ref (wB w + pz (a0))] M (encI q) := by
  refine Con.of encI q _ hq (by decide) (Nat.le_of_ble_eq_true rfl) ?_
  intro X G Q hQ
  have G : Good w X cX12_block 2 RX12 (some .int) 8 := G
  refine c_weak [(0, .ref (wB w + pz (a0)))] [0] rfl ?_
  rw [D_X12_block]
  refine c_iconst G (nI 0) dX12_block_0 kI_0 ?_
  refine c_istore_n G [(1, .int (nI 0)), (0, .ref (wB w + pz (a0)))] dX12_block_1 rfl (by decide) rfl ?_
  refine c_weak _ [1, 0] rfl (cl_X12_block_2 G hQ  h_a0 N (nI 0) M)
set_option maxHeartbeats 4000000 in
set_option maxRecDepth 100000 in
theorem con_X12_step {w : Wp} {N : Nat} {a0 : Nat} {a1 : Int32} {M : Mm} {q : Mm} (h_a0 : lay a0 = (5, 12)) (hq : D_X12_step N a0 a1 M = some q) : Con w 0 yX12_step cX12_step 2 none [.ref (wB w + pz (a0)), .int a1] M (encV q) := by
  refine Con.of encV q _ hq (by decide) (Nat.le_of_ble_eq_true rfl) ?_
  intro X G Q hQ
  have G : Good w X cX12_step 2 RX12 none 0 := G
  refine c_weak [(0, .ref (wB w + pz (a0))), (1, .int a1)] [0, 1] rfl ?_
  rw [D_X12_step]
  refine c_aload_n G dX12_step_0 rfl 0 rfl ?_
  refine c_getF G fl_X12_57 h_a0 rfl dX12_step_1 ?_
  refine c_aload_n G dX12_step_4 rfl 0 rfl ?_
  refine c_getI G fl_X12_398 h_a0 rfl dX12_step_5 ?_
  refine c_iload_n G dX12_step_8 rfl 1 rfl ?_
  refine c_iast G (lf h_a0 32 rfl) dX12_step_9 (fun M1 _ => ?_)
  refine c_aload_n G dX12_step_10 rfl 0 rfl ?_
  refine c_dup G dX12_step_11 rfl ?_
  refine c_getI G fl_X12_398 h_a0 rfl dX12_step_12 ?_
  refine c_iconst G (nI 1) dX12_step_15 kI_1 ?_
  refine c_iadd G dX12_step_16 ?_
  refine c_putI G fp_X12_398 h_a0 rfl dX12_step_17 (fun M2 _ => ?_)
  exact c_vret G hQ dX12_step_20
set_option maxHeartbeats 4000000 in
set_option maxRecDepth 100000 in
theorem cl_X12_insOf_6 {w : Wp} {M : Mm} {X : Cx} {Q : State → Prop} {ρ : Int32} (G : Good w X cX12_insOf 6 RX12 (some .int) 0) (hQ : Q = MQ (xL X) (Qd w ((encPI M) ρ)) (xA X) (xS X) (xk X) (xs X) (Aw w)) {a0 : Nat} {a2 : Int32} {a3 : Int32} {a1 : Int32} (h_a0 : lay a0 = (5, 12)) : ∀ (n : Nat) (l4_1 : Int32) (l5_1 : Int32), Cov w X Q ρ some 6 6 [(0, .ref (wB w + pz (a0))), (1, .int a1), (2, .int a2), (3, .int a3), (4, .int l4_1), (5, .int l5_1)] [] M (L_X12_insOf_6 a0 a2 M a3 a1 n l4_1 l5_1) := by
  intro n
  induction n with
  | zero => intro l4_1 l5_1; exact c_none
  | succ n ih =>
    intro l4_1 l5_1
    rw [L_X12_insOf_6]
    refine c_iload G dX12_insOf_6 5 rfl ?_
    refine c_aload_n G dX12_insOf_8 rfl 0 rfl ?_
    refine c_getF G fl_X12_13 h_a0 rfl dX12_insOf_9 ?_
    refine c_iconst G (nI 4) dX12_insOf_12 kI_4 ?_
    refine c_iload_n G dX12_insOf_13 rfl 2 rfl ?_
    refine c_iadd G dX12_insOf_14 ?_
    refine c_iald G (lf h_a0 1 rfl) dX12_insOf_15 (fun v1 _ => ?_)
    refine c_icmp_ge (tgt := 59) G dX12_insOf_16 (by decide) (fun _ => ?_) (fun _ => ?_)
    · skip
      refine c_iload G dX12_insOf_59 4 rfl ?_
      exact c_iretP G hQ dX12_insOf_61
    · skip
      refine c_iload G dX12_insOf_19 4 rfl ?_
      refine c_aload_n G dX12_insOf_21 rfl 0 rfl ?_
      refine c_getF G fl_X12_51 h_a0 rfl dX12_insOf_22 ?_
      refine c_bipush G (nI 8) dX12_insOf_25 kB_8 ?_
      refine c_iload_n G dX12_insOf_27 rfl 2 rfl ?_
      refine c_imul G dX12_insOf_28 ?_
      refine c_iload G dX12_insOf_29 5 rfl ?_
      refine c_iadd G dX12_insOf_31 ?_
      refine c_iald G (lf h_a0 29 rfl) dX12_insOf_32 (fun v2 _ => ?_)
      refine c_iload_n G dX12_insOf_33 rfl 3 rfl ?_
      refine c_icmp_ne (tgt := 49) G dX12_insOf_34 (by decide) (fun _ => ?_) (fun _ => ?_)
      · skip
        refine c_iconst G (nI 1) dX12_insOf_37 kI_1 ?_
        refine c_bipush G (nI 8) dX12_insOf_38 kB_8 ?_
        refine c_iload_n G dX12_insOf_40 rfl 1 rfl ?_
        refine c_imul G dX12_insOf_41 ?_
        refine c_iload G dX12_insOf_42 5 rfl ?_
        refine c_iadd G dX12_insOf_44 ?_
        refine c_ishl G dX12_insOf_45 ?_
        refine c_goto (tgt := 50) G dX12_insOf_46 (by decide) ?_
        refine c_ior G dX12_insOf_50 ?_
        refine c_let (fun l4_2 _ => ?_)
        refine c_istore G [(4, .int l4_2), (0, .ref (wB w + pz (a0))), (1, .int a1), (2, .int a2), (3, .int a3), (5, .int l5_1)] dX12_insOf_51 (by decide) rfl ?_
        refine c_iinc G (fun y__ => [(5, .int y__), (4, .int l4_2), (0, .ref (wB w + pz (a0))), (1, .int a1), (2, .int a2), (3, .int a3)]) dX12_insOf_53 5 rfl kI_1 (by decide) (fun _ => rfl) (fun l5_2 _ => ?_)
        refine c_goto (tgt := 6) G dX12_insOf_56 (by decide) ?_
        exact c_weak _ [2, 3, 4, 5, 1, 0] rfl (ih l4_2 l5_2)
      · skip
        refine c_iconst G (nI 0) dX12_insOf_49 kI_0 ?_
        refine c_ior G dX12_insOf_50 ?_
        refine c_let (fun l4_3 _ => ?_)
        refine c_istore G [(4, .int l4_3), (0, .ref (wB w + pz (a0))), (1, .int a1), (2, .int a2), (3, .int a3), (5, .int l5_1)] dX12_insOf_51 (by decide) rfl ?_
        refine c_iinc G (fun y__ => [(5, .int y__), (4, .int l4_3), (0, .ref (wB w + pz (a0))), (1, .int a1), (2, .int a2), (3, .int a3)]) dX12_insOf_53 5 rfl kI_1 (by decide) (fun _ => rfl) (fun l5_3 _ => ?_)
        refine c_goto (tgt := 6) G dX12_insOf_56 (by decide) ?_
        exact c_weak _ [2, 3, 4, 5, 1, 0] rfl (ih l4_3 l5_3)
set_option maxHeartbeats 4000000 in
set_option maxRecDepth 100000 in
theorem con_X12_insOf {w : Wp} {N : Nat} {a0 : Nat} {a1 : Int32} {a2 : Int32} {a3 : Int32} {M : Mm} {q : Int32} (h_a0 : lay a0 = (5, 12)) (hq : D_X12_insOf N a0 a1 a2 a3 M = some q) : Con w 0 yX12_insOf cX12_insOf 6 (some .int) [.ref (wB w + pz (a0)), .int a1, .int a2, .int a3] M ((encPI M) q) := by
  refine Con.of (encPI M) q _ hq (by decide) (Nat.le_of_ble_eq_true rfl) ?_
  intro X G Q hQ
  have G : Good w X cX12_insOf 6 RX12 (some .int) 0 := G
  refine c_weak [(0, .ref (wB w + pz (a0))), (1, .int a1), (2, .int a2), (3, .int a3)] [0, 1, 2, 3] rfl ?_
  rw [D_X12_insOf]
  refine c_iconst G (nI 0) dX12_insOf_0 kI_0 ?_
  refine c_istore G [(4, .int (nI 0)), (0, .ref (wB w + pz (a0))), (1, .int a1), (2, .int a2), (3, .int a3)] dX12_insOf_1 (by decide) rfl ?_
  refine c_iconst G (nI 0) dX12_insOf_3 kI_0 ?_
  refine c_istore G [(5, .int (nI 0)), (4, .int (nI 0)), (0, .ref (wB w + pz (a0))), (1, .int a1), (2, .int a2), (3, .int a3)] dX12_insOf_4 (by decide) rfl ?_
  refine c_weak _ [2, 3, 4, 5, 1, 0] rfl (cl_X12_insOf_6 G hQ  h_a0 N (nI 0) (nI 0))
set_option maxHeartbeats 4000000 in
set_option maxRecDepth 100000 in
theorem cl_X12_outsOf_13 {w : Wp} {M : Mm} {X : Cx} {Q : State → Prop} {ρ : Int32} (G : Good w X cX12_outsOf 6 RX12 (some .int) 2) (hQ : Q = MQ (xL X) (Qd w ((encPI M) ρ)) (xA X) (xS X) (xk X) (xs X) (Aw w)) {N : Nat} {a0 : Nat} {a2 : Int32} {a3 : Int32} {a1 : Int32} (h_a0 : lay a0 = (5, 12)) : ∀ (n : Nat) (l4_1 : Int32) (l5_1 : Int32), Cov w X Q ρ some 6 13 [(0, .ref (wB w + pz (a0))), (1, .int a1), (2, .int a2), (3, .int a3), (4, .int l4_1), (5, .int l5_1)] [] M (L_X12_outsOf_13 N a0 a2 M a3 a1 n l4_1 l5_1) := by
  intro n
  induction n with
  | zero => intro l4_1 l5_1; exact c_none
  | succ n ih =>
    intro l4_1 l5_1
    rw [L_X12_outsOf_13]
    refine c_iload G dX12_outsOf_13 5 rfl ?_
    refine c_aload_n G dX12_outsOf_15 rfl 0 rfl ?_
    refine c_iload_n G dX12_outsOf_16 rfl 2 rfl ?_
    refine c_callV_PI (d := 1) (rest := [.int l5_1]) G [.int a2] yv_X12_attributes ml_X12_334 (by omega) (by decide) rfl rfl (Nat.le_of_ble_eq_true rfl) h_a0 (fun q hq => con_X12_attributes h_a0 hq) dX12_outsOf_17 (fun q1 _ => ?_)
    refine c_icmp_ge (tgt := 63) G dX12_outsOf_20 (by decide) (fun _ => ?_) (fun _ => ?_)
    · skip
      refine c_iload G dX12_outsOf_63 4 rfl ?_
      exact c_iretP G hQ dX12_outsOf_65
    · skip
      refine c_iload G dX12_outsOf_23 4 rfl ?_
      refine c_aload_n G dX12_outsOf_25 rfl 0 rfl ?_
      refine c_getF G fl_X12_51 h_a0 rfl dX12_outsOf_26 ?_
      refine c_bipush G (nI 8) dX12_outsOf_29 kB_8 ?_
      refine c_iload_n G dX12_outsOf_31 rfl 2 rfl ?_
      refine c_imul G dX12_outsOf_32 ?_
      refine c_iload G dX12_outsOf_33 5 rfl ?_
      refine c_iadd G dX12_outsOf_35 ?_
      refine c_iald G (lf h_a0 29 rfl) dX12_outsOf_36 (fun v2 _ => ?_)
      refine c_iload_n G dX12_outsOf_37 rfl 3 rfl ?_
      refine c_icmp_ne (tgt := 53) G dX12_outsOf_38 (by decide) (fun _ => ?_) (fun _ => ?_)
      · skip
        refine c_iconst G (nI 1) dX12_outsOf_41 kI_1 ?_
        refine c_bipush G (nI 8) dX12_outsOf_42 kB_8 ?_
        refine c_iload_n G dX12_outsOf_44 rfl 1 rfl ?_
        refine c_imul G dX12_outsOf_45 ?_
        refine c_iload G dX12_outsOf_46 5 rfl ?_
        refine c_iadd G dX12_outsOf_48 ?_
        refine c_ishl G dX12_outsOf_49 ?_
        refine c_goto (tgt := 54) G dX12_outsOf_50 (by decide) ?_
        refine c_ior G dX12_outsOf_54 ?_
        refine c_let (fun l4_2 _ => ?_)
        refine c_istore G [(4, .int l4_2), (0, .ref (wB w + pz (a0))), (1, .int a1), (2, .int a2), (3, .int a3), (5, .int l5_1)] dX12_outsOf_55 (by decide) rfl ?_
        refine c_iinc G (fun y__ => [(5, .int y__), (4, .int l4_2), (0, .ref (wB w + pz (a0))), (1, .int a1), (2, .int a2), (3, .int a3)]) dX12_outsOf_57 5 rfl kI_1 (by decide) (fun _ => rfl) (fun l5_2 _ => ?_)
        refine c_goto (tgt := 13) G dX12_outsOf_60 (by decide) ?_
        exact c_weak _ [2, 3, 4, 5, 1, 0] rfl (ih l4_2 l5_2)
      · skip
        refine c_iconst G (nI 0) dX12_outsOf_53 kI_0 ?_
        refine c_ior G dX12_outsOf_54 ?_
        refine c_let (fun l4_3 _ => ?_)
        refine c_istore G [(4, .int l4_3), (0, .ref (wB w + pz (a0))), (1, .int a1), (2, .int a2), (3, .int a3), (5, .int l5_1)] dX12_outsOf_55 (by decide) rfl ?_
        refine c_iinc G (fun y__ => [(5, .int y__), (4, .int l4_3), (0, .ref (wB w + pz (a0))), (1, .int a1), (2, .int a2), (3, .int a3)]) dX12_outsOf_57 5 rfl kI_1 (by decide) (fun _ => rfl) (fun l5_3 _ => ?_)
        refine c_goto (tgt := 13) G dX12_outsOf_60 (by decide) ?_
        exact c_weak _ [2, 3, 4, 5, 1, 0] rfl (ih l4_3 l5_3)
set_option maxHeartbeats 4000000 in
set_option maxRecDepth 100000 in
theorem con_X12_outsOf {w : Wp} {N : Nat} {a0 : Nat} {a1 : Int32} {a2 : Int32} {a3 : Int32} {M : Mm} {q : Int32} (h_a0 : lay a0 = (5, 12)) (hq : D_X12_outsOf N a0 a1 a2 a3 M = some q) : Con w 2 yX12_outsOf cX12_outsOf 6 (some .int) [.ref (wB w + pz (a0)), .int a1, .int a2, .int a3] M ((encPI M) q) := by
  refine Con.of (encPI M) q _ hq (by decide) (Nat.le_of_ble_eq_true rfl) ?_
  intro X G Q hQ
  have G : Good w X cX12_outsOf 6 RX12 (some .int) 2 := G
  refine c_weak [(0, .ref (wB w + pz (a0))), (1, .int a1), (2, .int a2), (3, .int a3)] [0, 1, 2, 3] rfl ?_
  rw [D_X12_outsOf]
  refine c_iconst G (nI 0) dX12_outsOf_0 kI_0 ?_
  refine c_istore G [(4, .int (nI 0)), (0, .ref (wB w + pz (a0))), (1, .int a1), (2, .int a2), (3, .int a3)] dX12_outsOf_1 (by decide) rfl ?_
  refine c_aload_n G dX12_outsOf_3 rfl 1 rfl ?_
  refine c_getF G fl_X12_13 h_a0 rfl dX12_outsOf_4 ?_
  refine c_iconst G (nI 4) dX12_outsOf_7 kI_4 ?_
  refine c_iload_n G dX12_outsOf_8 rfl 3 rfl ?_
  refine c_iadd G dX12_outsOf_9 ?_
  refine c_iald G (lf h_a0 1 rfl) dX12_outsOf_10 (fun v1 _ => ?_)
  refine c_istore G [(5, .int v1), (4, .int (nI 0)), (0, .ref (wB w + pz (a0))), (1, .int a1), (2, .int a2), (3, .int a3)] dX12_outsOf_11 (by decide) rfl ?_
  refine c_weak _ [2, 3, 4, 5, 1, 0] rfl (cl_X12_outsOf_13 G hQ  h_a0 N (nI 0) v1)
set_option maxHeartbeats 4000000 in
set_option maxRecDepth 100000 in
theorem cl_X12_nextRule_2 {w : Wp} {M : Mm} {X : Cx} {Q : State → Prop} {ρ : Int32} (G : Good w X cX12_nextRule 4 RX12 (some .int) 3) (hQ : Q = MQ (xL X) (Qd w ((encPI M) ρ)) (xA X) (xS X) (xk X) (xs X) (Aw w)) {N : Nat} {a0 : Nat} {a1 : Int32} {a2 : Int32} (h_a0 : lay a0 = (5, 12)) : ∀ (n : Nat) (l3_1 : Int32), Cov w X Q ρ some 4 2 [(0, .ref (wB w + pz (a0))), (1, .int a1), (2, .int a2), (3, .int l3_1)] [] M (L_X12_nextRule_2 N a0 a1 M a2 n l3_1) := by
  intro n
  induction n with
  | zero => intro l3_1; exact c_none
  | succ n ih =>
    intro l3_1
    rw [L_X12_nextRule_2]
    refine c_iload_n G dX12_nextRule_2 rfl 3 rfl ?_
    refine c_bipush G (nI 32) dX12_nextRule_3 kB_32 ?_
    refine c_icmp_ge (tgt := 58) G dX12_nextRule_5 (by decide) (fun _ => ?_) (fun _ => ?_)
    · skip
      refine c_iconst G m1 dX12_nextRule_58 kI_m1 ?_
      exact c_iretP G hQ dX12_nextRule_59
    · skip
      refine c_aload_n G dX12_nextRule_8 rfl 0 rfl ?_
      refine c_iload_n G dX12_nextRule_9 rfl 1 rfl ?_
      refine c_iload_n G dX12_nextRule_10 rfl 3 rfl ?_
      refine c_callV_PI (d := 2) (rest := []) G [.int a1, .int l3_1] yv_X12_isOcc ml_X12_401 (by omega) (by decide) rfl rfl (Nat.le_of_ble_eq_true rfl) h_a0 (fun q hq => con_X12_isOcc h_a0 hq) dX12_nextRule_11 (fun q1 _ => ?_)
      refine c_if_eq (tgt := 52) G dX12_nextRule_14 (by decide) (fun _ => ?_) (fun _ => ?_)
      · skip
        refine c_iinc G (fun y__ => [(3, .int y__), (0, .ref (wB w + pz (a0))), (1, .int a1), (2, .int a2)]) dX12_nextRule_52 3 rfl kI_1 (by decide) (fun _ => rfl) (fun l3_2 _ => ?_)
        refine c_goto (tgt := 2) G dX12_nextRule_55 (by decide) ?_
        exact c_weak _ [1, 2, 3, 0] rfl (ih l3_2)
      · skip
        refine c_aload_n G dX12_nextRule_17 rfl 0 rfl ?_
        refine c_getF G fl_X12_13 h_a0 rfl dX12_nextRule_18 ?_
        refine c_iload_n G dX12_nextRule_21 rfl 1 rfl ?_
        refine c_iload_n G dX12_nextRule_22 rfl 3 rfl ?_
        refine c_callS_PI (d := 1) (rest := []) G [.ref (wB w + pz ((a0 + 2))), .int a1, .int l3_1] ys_X12_canTell ml_X12_264 (by omega) (by decide) rfl rfl (Nat.le_of_ble_eq_true rfl) (fun q hq => con_X12_canTell (ll (lf h_a0 1 rfl)) hq) dX12_nextRule_23 (fun q2 _ => ?_)
        refine c_if_eq (tgt := 52) G dX12_nextRule_26 (by decide) (fun _ => ?_) (fun _ => ?_)
        · skip
          refine c_iinc G (fun y__ => [(3, .int y__), (0, .ref (wB w + pz (a0))), (1, .int a1), (2, .int a2)]) dX12_nextRule_52 3 rfl kI_1 (by decide) (fun _ => rfl) (fun l3_3 _ => ?_)
          refine c_goto (tgt := 2) G dX12_nextRule_55 (by decide) ?_
          exact c_weak _ [1, 2, 3, 0] rfl (ih l3_3)
        · skip
          refine c_iload_n G dX12_nextRule_29 rfl 2 rfl ?_
          refine c_iload_n G dX12_nextRule_30 rfl 3 rfl ?_
          refine c_callS_PI (d := 0) (rest := []) G [.int a2, .int l3_1] ys_X12_has ml_X12_344 (by omega) (by decide) rfl rfl (Nat.le_of_ble_eq_true rfl) (fun q hq => con_X12_has hq) dX12_nextRule_31 (fun q3 _ => ?_)
          refine c_if_ne (tgt := 52) G dX12_nextRule_34 (by decide) (fun _ => ?_) (fun _ => ?_)
          · skip
            refine c_aload_n G dX12_nextRule_37 rfl 0 rfl ?_
            refine c_iload_n G dX12_nextRule_38 rfl 1 rfl ?_
            refine c_iload_n G dX12_nextRule_39 rfl 3 rfl ?_
            refine c_callV_PI (d := 0) (rest := []) G [.int a1, .int l3_1] yv_X12_asks ml_X12_340 (by omega) (by decide) rfl rfl (Nat.le_of_ble_eq_true rfl) h_a0 (fun q hq => con_X12_asks h_a0 hq) dX12_nextRule_40 (fun q4 _ => ?_)
            refine c_iload_n G dX12_nextRule_43 rfl 2 rfl ?_
            refine c_iconst G m1 dX12_nextRule_44 kI_m1 ?_
            refine c_ixor G dX12_nextRule_45 ?_
            refine c_iand G dX12_nextRule_46 ?_
            refine c_if_ne (tgt := 52) G dX12_nextRule_47 (by decide) (fun _ => ?_) (fun _ => ?_)
            · skip
              refine c_iload_n G dX12_nextRule_50 rfl 3 rfl ?_
              exact c_iretP G hQ dX12_nextRule_51
            · skip
              refine c_iinc G (fun y__ => [(3, .int y__), (0, .ref (wB w + pz (a0))), (1, .int a1), (2, .int a2)]) dX12_nextRule_52 3 rfl kI_1 (by decide) (fun _ => rfl) (fun l3_4 _ => ?_)
              refine c_goto (tgt := 2) G dX12_nextRule_55 (by decide) ?_
              exact c_weak _ [1, 2, 3, 0] rfl (ih l3_4)
          · skip
            refine c_iinc G (fun y__ => [(3, .int y__), (0, .ref (wB w + pz (a0))), (1, .int a1), (2, .int a2)]) dX12_nextRule_52 3 rfl kI_1 (by decide) (fun _ => rfl) (fun l3_5 _ => ?_)
            refine c_goto (tgt := 2) G dX12_nextRule_55 (by decide) ?_
            exact c_weak _ [1, 2, 3, 0] rfl (ih l3_5)
set_option maxHeartbeats 4000000 in
set_option maxRecDepth 100000 in
theorem con_X12_nextRule {w : Wp} {N : Nat} {a0 : Nat} {a1 : Int32} {a2 : Int32} {M : Mm} {q : Int32} (h_a0 : lay a0 = (5, 12)) (hq : D_X12_nextRule N a0 a1 a2 M = some q) : Con w 3 yX12_nextRule cX12_nextRule 4 (some .int) [.ref (wB w + pz (a0)), .int a1, .int a2] M ((encPI M) q) := by
  refine Con.of (encPI M) q _ hq (by decide) (Nat.le_of_ble_eq_true rfl) ?_
  intro X G Q hQ
  have G : Good w X cX12_nextRule 4 RX12 (some .int) 3 := G
  refine c_weak [(0, .ref (wB w + pz (a0))), (1, .int a1), (2, .int a2)] [0, 1, 2] rfl ?_
  rw [D_X12_nextRule]
  refine c_iconst G (nI 0) dX12_nextRule_0 kI_0 ?_
  refine c_istore_n G [(3, .int (nI 0)), (0, .ref (wB w + pz (a0))), (1, .int a1), (2, .int a2)] dX12_nextRule_1 rfl (by decide) rfl ?_
  refine c_weak _ [1, 2, 3, 0] rfl (cl_X12_nextRule_2 G hQ  h_a0 N (nI 0))
set_option maxHeartbeats 4000000 in
set_option maxRecDepth 100000 in
theorem cl_X12_nextChild_2 {w : Wp} {M : Mm} {X : Cx} {Q : State → Prop} {ρ : Int32} (G : Good w X cX12_nextChild 5 RX12 (some .int) 1) (hQ : Q = MQ (xL X) (Qd w ((encPI M) ρ)) (xA X) (xS X) (xk X) (xs X) (Aw w)) {a0 : Nat} {a1 : Int32} {N : Nat} {a2 : Int32} (h_a0 : lay a0 = (5, 12)) : ∀ (n : Nat) (l3_1 : Int32), Cov w X Q ρ some 5 2 [(0, .ref (wB w + pz (a0))), (1, .int a1), (2, .int a2), (3, .int l3_1)] [] M (L_X12_nextChild_2 a0 a1 M N a2 n l3_1) := by
  intro n
  induction n with
  | zero => intro l3_1; exact c_none
  | succ n ih =>
    intro l3_1
    rw [L_X12_nextChild_2]
    refine c_iload_n G dX12_nextChild_2 rfl 3 rfl ?_
    refine c_aload_n G dX12_nextChild_3 rfl 0 rfl ?_
    refine c_getF G fl_X12_13 h_a0 rfl dX12_nextChild_4 ?_
    refine c_bipush G (nI 32) dX12_nextChild_7 kB_32 ?_
    refine c_iload_n G dX12_nextChild_9 rfl 1 rfl ?_
    refine c_iadd G dX12_nextChild_10 ?_
    refine c_iald G (lf h_a0 1 rfl) dX12_nextChild_11 (fun v1 _ => ?_)
    refine c_icmp_gt (tgt := 75) G dX12_nextChild_12 (by decide) (fun _ => ?_) (fun _ => ?_)
    · skip
      refine c_iconst G m1 dX12_nextChild_75 kI_m1 ?_
      exact c_iretP G hQ dX12_nextChild_76
    · skip
      refine c_aload_n G dX12_nextChild_15 rfl 0 rfl ?_
      refine c_getF G fl_X12_13 h_a0 rfl dX12_nextChild_16 ?_
      refine c_iload_n G dX12_nextChild_19 rfl 1 rfl ?_
      refine c_iload_n G dX12_nextChild_20 rfl 3 rfl ?_
      refine c_callS_PI (d := 0) (rest := []) G [.ref (wB w + pz ((a0 + 2))), .int a1, .int l3_1] ys_X12_symbolAt ml_X12_250 (by omega) (by decide) rfl rfl (Nat.le_of_ble_eq_true rfl) (fun q hq => con_X12_symbolAt (ll (lf h_a0 1 rfl)) hq) dX12_nextChild_21 (fun q1 _ => ?_)
      refine c_istore G [(4, .int q1), (0, .ref (wB w + pz (a0))), (1, .int a1), (2, .int a2), (3, .int l3_1)] dX12_nextChild_24 (by decide) rfl ?_
      refine c_aload_n G dX12_nextChild_26 rfl 1 rfl ?_
      refine c_getF G fl_X12_60 h_a0 rfl dX12_nextChild_27 ?_
      refine c_iload_n G dX12_nextChild_30 rfl 4 rfl ?_
      refine c_iald G (lf h_a0 34 rfl) dX12_nextChild_31 (fun v2 _ => ?_)
      refine c_aload_n G dX12_nextChild_32 rfl 1 rfl ?_
      refine c_getF G fl_X12_54 h_a0 rfl dX12_nextChild_33 ?_
      refine c_iload G dX12_nextChild_36 0 rfl ?_
      refine c_iald G (lf h_a0 30 rfl) dX12_nextChild_38 (fun v3 _ => ?_)
      refine c_icmp_ne (tgt := 45) G dX12_nextChild_39 (by decide) (fun _ => ?_) (fun _ => ?_)
      · skip
        refine c_goto (tgt := 69) G dX12_nextChild_42 (by decide) ?_
        refine c_iinc G (fun y__ => [(3, .int y__), (4, .int q1), (0, .ref (wB w + pz (a0))), (1, .int a1), (2, .int a2)]) dX12_nextChild_69 4 rfl kI_1 (by decide) (fun _ => rfl) (fun l3_2 _ => ?_)
        refine c_goto (tgt := 2) G dX12_nextChild_72 (by decide) ?_
        exact c_weak _ [2, 3, 4, 0] rfl (ih l3_2)
      · skip
        refine c_aload_n G dX12_nextChild_45 rfl 1 rfl ?_
        refine c_iload_n G dX12_nextChild_46 rfl 4 rfl ?_
        refine c_iload G dX12_nextChild_47 0 rfl ?_
        refine c_aload_n G dX12_nextChild_49 rfl 1 rfl ?_
        refine c_getF G fl_X12_60 h_a0 rfl dX12_nextChild_50 ?_
        refine c_iload_n G dX12_nextChild_53 rfl 4 rfl ?_
        refine c_iald G (lf h_a0 34 rfl) dX12_nextChild_54 (fun v4 _ => ?_)
        refine c_iconst G (nI 1) dX12_nextChild_55 kI_1 ?_
        refine c_iadd G dX12_nextChild_56 ?_
        refine c_callV_PI (d := 0) (rest := []) G [.int l3_1, .int q1, .int (v4 + (nI 1))] yv_X12_insOf ml_X12_404 (by omega) (by decide) rfl rfl (Nat.le_of_ble_eq_true rfl) h_a0 (fun q hq => con_X12_insOf h_a0 hq) dX12_nextChild_57 (fun q2 _ => ?_)
        refine c_iload_n G dX12_nextChild_60 rfl 3 rfl ?_
        refine c_iconst G m1 dX12_nextChild_61 kI_m1 ?_
        refine c_ixor G dX12_nextChild_62 ?_
        refine c_iand G dX12_nextChild_63 ?_
        refine c_if_ne (tgt := 69) G dX12_nextChild_64 (by decide) (fun _ => ?_) (fun _ => ?_)
        · skip
          refine c_iload_n G dX12_nextChild_67 rfl 4 rfl ?_
          exact c_iretP G hQ dX12_nextChild_68
        · skip
          refine c_iinc G (fun y__ => [(3, .int y__), (4, .int q1), (0, .ref (wB w + pz (a0))), (1, .int a1), (2, .int a2)]) dX12_nextChild_69 4 rfl kI_1 (by decide) (fun _ => rfl) (fun l3_3 _ => ?_)
          refine c_goto (tgt := 2) G dX12_nextChild_72 (by decide) ?_
          exact c_weak _ [2, 3, 4, 0] rfl (ih l3_3)
set_option maxHeartbeats 4000000 in
set_option maxRecDepth 100000 in
theorem con_X12_nextChild {w : Wp} {N : Nat} {a0 : Nat} {a1 : Int32} {a2 : Int32} {M : Mm} {q : Int32} (h_a0 : lay a0 = (5, 12)) (hq : D_X12_nextChild N a0 a1 a2 M = some q) : Con w 1 yX12_nextChild cX12_nextChild 5 (some .int) [.ref (wB w + pz (a0)), .int a1, .int a2] M ((encPI M) q) := by
  refine Con.of (encPI M) q _ hq (by decide) (Nat.le_of_ble_eq_true rfl) ?_
  intro X G Q hQ
  have G : Good w X cX12_nextChild 5 RX12 (some .int) 1 := G
  refine c_weak [(0, .ref (wB w + pz (a0))), (1, .int a1), (2, .int a2)] [0, 1, 2] rfl ?_
  rw [D_X12_nextChild]
  refine c_iconst G (nI 1) dX12_nextChild_0 kI_1 ?_
  refine c_istore_n G [(3, .int (nI 1)), (0, .ref (wB w + pz (a0))), (1, .int a1), (2, .int a2)] dX12_nextChild_1 rfl (by decide) rfl ?_
  refine c_weak _ [1, 2, 3, 0] rfl (cl_X12_nextChild_2 G hQ  h_a0 N (nI 1))
set_option maxHeartbeats 4000000 in
set_option maxRecDepth 100000 in
theorem cl_X12_laysPlan_11 {w : Wp} {X : Cx} {Q : State → Prop} {ρ : Mm} (G : Good w X cX12_laysPlan 8 RX12 none 6) (hQ : Q = MQ (xL X) (Qd w (encV ρ)) (xA X) (xS X) (xk X) (xs X) (Aw w)) (kE29 : Mm → Option (Mm)) {a0 : Nat} {a1 : Int32} (h_a0 : lay a0 = (5, 12)) (hE29 : ∀ (Mz : Mm), Cov w X Q ρ some 8 29 [(0, .ref (wB w + pz (a0))), (1, .int a1)] [] Mz (kE29 Mz)) : ∀ (n : Nat) (l2_1 : Int32) (M3 : Mm), Cov w X Q ρ some 8 11 [(0, .ref (wB w + pz (a0))), (1, .int a1), (2, .int l2_1)] [] M3 (L_X12_laysPlan_11 kE29 a0 n l2_1 M3) := by
  intro n
  induction n with
  | zero => intro l2_1 M3; exact c_none
  | succ n ih =>
    intro l2_1 M3
    rw [L_X12_laysPlan_11]
    refine c_iload_n G dX12_laysPlan_11 rfl 2 rfl ?_
    refine c_iconst G (nI 4) dX12_laysPlan_12 kI_4 ?_
    refine c_icmp_ge (tgt := 29) G dX12_laysPlan_13 (by decide) (fun _ => ?_) (fun _ => ?_)
    · skip
      exact c_weak _ [0, 1] rfl (hE29 M3)
    · skip
      refine c_aload_n G dX12_laysPlan_16 rfl 0 rfl ?_
      refine c_getF G fl_X12_60 h_a0 rfl dX12_laysPlan_17 ?_
      refine c_iload_n G dX12_laysPlan_20 rfl 2 rfl ?_
      refine c_iconst G (nI 0) dX12_laysPlan_21 kI_0 ?_
      refine c_iast G (lf h_a0 34 rfl) dX12_laysPlan_22 (fun M4 _ => ?_)
      refine c_iinc G (fun y__ => [(2, .int y__), (0, .ref (wB w + pz (a0))), (1, .int a1)]) dX12_laysPlan_23 2 rfl kI_1 (by decide) (fun _ => rfl) (fun l2_2 _ => ?_)
      refine c_goto (tgt := 11) G dX12_laysPlan_26 (by decide) ?_
      exact c_weak _ [1, 2, 0] rfl (ih l2_2 M4)
set_option maxHeartbeats 4000000 in
set_option maxRecDepth 100000 in
theorem cl_X12_laysPlan_50 {w : Wp} {X : Cx} {Q : State → Prop} {ρ : Mm} (G : Good w X cX12_laysPlan 8 RX12 none 6) (hQ : Q = MQ (xL X) (Qd w (encV ρ)) (xA X) (xS X) (xk X) (xs X) (Aw w)) {a0 : Nat} {v1 : Int32} {N : Nat} {a1 : Int32} (h_a0 : lay a0 = (5, 12)) : ∀ (n : Nat) (l3_1 : Int32) (l4_1 : Int32) (M6 : Mm), Cov w X Q ρ some 8 50 [(0, .ref (wB w + pz (a0))), (1, .int a1), (2, .int v1), (3, .int l3_1), (4, .int l4_1)] [] M6 (L_X12_laysPlan_50 a0 v1 N a1 n l3_1 l4_1 M6) := by
  intro n
  induction n with
  | zero => intro l3_1 l4_1 M6; exact c_none
  | succ n ih =>
    intro l3_1 l4_1 M6
    rw [L_X12_laysPlan_50]
    refine c_iload_n G dX12_laysPlan_50 rfl 3 rfl ?_
    refine c_aload_n G dX12_laysPlan_51 rfl 0 rfl ?_
    refine c_getF G fl_X12_54 h_a0 rfl dX12_laysPlan_52 ?_
    refine c_iload_n G dX12_laysPlan_55 rfl 2 rfl ?_
    refine c_iald G (lf h_a0 30 rfl) dX12_laysPlan_56 (fun v2 _ => ?_)
    refine c_icmp_gt (tgt := 240) G dX12_laysPlan_57 (by decide) (fun _ => ?_) (fun _ => ?_)
    · skip
      exact c_vret G hQ dX12_laysPlan_240
    · skip
      refine c_aload_n G dX12_laysPlan_60 rfl 0 rfl ?_
      refine c_iconst G (nI 0) dX12_laysPlan_61 kI_0 ?_
      refine c_iload_n G dX12_laysPlan_62 rfl 2 rfl ?_
      refine c_iload_n G dX12_laysPlan_63 rfl 3 rfl ?_
      refine c_callV_PI (d := 2) (rest := []) G [.int (nI 0), .int v1, .int l3_1] yv_X12_outsOf ml_X12_408 (by omega) (by decide) rfl rfl (Nat.le_of_ble_eq_true rfl) h_a0 (fun q hq => con_X12_outsOf h_a0 hq) dX12_laysPlan_64 (fun q2 _ => ?_)
      refine c_iload G dX12_laysPlan_67 4 rfl ?_
      refine c_iconst G m1 dX12_laysPlan_69 kI_m1 ?_
      refine c_ixor G dX12_laysPlan_70 ?_
      refine c_iand G dX12_laysPlan_71 ?_
      refine c_bj (ej := fun (p80 : Int32) => [(0, .ref (wB w + pz (a0))), (1, .int a1), (2, .int v1), (3, .int l3_1), (4, .int l4_1)]) (sj := fun p80 => [.int p80]) (mj := fun p80 => M6) (pj := 80) (fun p80 => ?_) (fun F hJ80 => ?_)
      · skip
        refine c_istore G [(5, .int p80), (0, .ref (wB w + pz (a0))), (1, .int a1), (2, .int v1), (3, .int l3_1), (4, .int l4_1)] dX12_laysPlan_80 (by decide) rfl ?_
        refine c_aload_n G dX12_laysPlan_82 rfl 1 rfl ?_
        refine c_iload_n G dX12_laysPlan_83 rfl 2 rfl ?_
        refine c_iload G dX12_laysPlan_84 5 rfl ?_
        refine c_callV_PI (d := 3) (rest := []) G [.int a1, .int l4_1] yv_X12_nextRule ml_X12_411 (by omega) (by decide) rfl rfl (Nat.le_of_ble_eq_true rfl) h_a0 (fun q hq => con_X12_nextRule h_a0 hq) dX12_laysPlan_86 (fun q3 _ => ?_)
        refine c_istore G [(6, .int q3), (5, .int p80), (0, .ref (wB w + pz (a0))), (1, .int a1), (2, .int v1), (3, .int l3_1), (4, .int l4_1)] dX12_laysPlan_89 (by decide) rfl ?_
        refine c_aload_n G dX12_laysPlan_91 rfl 2 rfl ?_
        refine c_iload_n G dX12_laysPlan_92 rfl 3 rfl ?_
        refine c_iload G dX12_laysPlan_93 6 rfl ?_
        refine c_callV_PI (d := 1) (rest := []) G [.int a1, .int l4_1] yv_X12_nextChild ml_X12_414 (by omega) (by decide) rfl rfl (Nat.le_of_ble_eq_true rfl) h_a0 (fun q hq => con_X12_nextChild h_a0 hq) dX12_laysPlan_95 (fun q4 _ => ?_)
        refine c_istore G [(7, .int q4), (6, .int q3), (5, .int p80), (0, .ref (wB w + pz (a0))), (1, .int a1), (2, .int v1), (3, .int l3_1), (4, .int l4_1)] dX12_laysPlan_98 (by decide) rfl ?_
        refine c_iload_n G dX12_laysPlan_100 rfl 6 rfl ?_
        refine c_aload_n G dX12_laysPlan_101 rfl 3 rfl ?_
        refine c_getF G fl_X12_54 h_a0 rfl dX12_laysPlan_102 ?_
        refine c_iload_n G dX12_laysPlan_105 rfl 5 rfl ?_
        refine c_iald G (lf h_a0 30 rfl) dX12_laysPlan_106 (fun v3 _ => ?_)
        refine c_jn (ej := fun (p127 : Unit) => [(0, .ref (wB w + pz (a0))), (1, .int a1), (2, .int v1), (3, .int l3_1), (4, .int l4_1)]) (sj := fun p127 => []) (mj := fun p127 => M6) (pj := 127) (fun p127 => ?_) (fun J1 hJ127 => ?_)
        · skip
          refine c_aload_n G dX12_laysPlan_127 rfl 0 rfl ?_
          refine c_sipush G (nI 1000) dX12_laysPlan_128 kS_1000 ?_
          refine c_iload_n G dX12_laysPlan_131 rfl 3 rfl ?_
          refine c_iadd G dX12_laysPlan_132 ?_
          refine c_callV_V (d := 0) (rest := []) G [.int ((nI 1000) + l3_1)] yv_X12_step ml_X12_417 (by omega) (by decide) rfl rfl (Nat.le_of_ble_eq_true rfl) h_a0 (fun q hq => con_X12_step h_a0 hq) dX12_laysPlan_133 (fun M7 _ => ?_)
          refine c_iinc G (fun y__ => [(3, .int y__), (0, .ref (wB w + pz (a0))), (1, .int a1), (2, .int v1), (4, .int l4_1)]) dX12_laysPlan_136 3 rfl kI_1 (by decide) (fun _ => rfl) (fun l3_2 _ => ?_)
          refine c_iload G dX12_laysPlan_139 4 rfl ?_
          refine c_aload_n G dX12_laysPlan_141 rfl 1 rfl ?_
          refine c_iconst G (nI 0) dX12_laysPlan_142 kI_0 ?_
          refine c_iload_n G dX12_laysPlan_143 rfl 3 rfl ?_
          refine c_iload_n G dX12_laysPlan_144 rfl 0 rfl ?_
          refine c_callV_PI (d := 0) (rest := [.int l4_1]) G [.int (nI 0), .int v1, .int l3_2] yv_X12_insOf ml_X12_404 (by omega) (by decide) rfl rfl (Nat.le_of_ble_eq_true rfl) h_a0 (fun q hq => con_X12_insOf h_a0 hq) dX12_laysPlan_145 (fun q5 _ => ?_)
          refine c_ior G dX12_laysPlan_148 ?_
          refine c_let (fun l4_2 _ => ?_)
          refine c_istore G [(4, .int l4_2), (3, .int l3_2), (0, .ref (wB w + pz (a0))), (1, .int a1), (2, .int v1)] dX12_laysPlan_149 (by decide) rfl ?_
          refine c_goto (tgt := 237) G dX12_laysPlan_151 (by decide) ?_
          refine c_goto (tgt := 50) G dX12_laysPlan_237 (by decide) ?_
          exact c_weak _ [2, 3, 4, 1, 0] rfl (ih l3_2 l4_2 M7)
        · skip
          refine c_jn (ej := fun (p115 : Unit) => [(0, .ref (wB w + pz (a0))), (1, .int a1), (2, .int v1), (3, .int l3_1), (4, .int l4_1), (6, .int q3), (7, .int q4)]) (sj := fun p115 => []) (mj := fun p115 => M6) (pj := 115) (fun p115 => ?_) (fun J3 hJ115 => ?_)
          · skip
            refine c_iload G dX12_laysPlan_115 5 rfl ?_
            refine c_iconst G m1 dX12_laysPlan_117 kI_m1 ?_
            refine c_jn (ej := fun (p154 : Unit) => [(0, .ref (wB w + pz (a0))), (1, .int a1), (2, .int v1), (3, .int l3_1), (4, .int l4_1), (6, .int q3), (7, .int q4)]) (sj := fun p154 => []) (mj := fun p154 => M6) (pj := 154) (fun p154 => ?_) (fun J2 hJ154 => ?_)
            · skip
              refine c_iload G dX12_laysPlan_154 5 rfl ?_
              refine c_iconst G m1 dX12_laysPlan_156 kI_m1 ?_
              refine c_icmp_eq (tgt := 181) G dX12_laysPlan_157 (by decide) (fun _ => ?_) (fun _ => ?_)
              · skip
                refine c_aload_n G dX12_laysPlan_181 rfl 0 rfl ?_
                refine c_getF G fl_X12_60 h_a0 rfl dX12_laysPlan_182 ?_
                refine c_iload G dX12_laysPlan_185 6 rfl ?_
                refine c_dup2 G dX12_laysPlan_187 rfl rfl ?_
                refine c_iald G (lf h_a0 34 rfl) dX12_laysPlan_188 (fun v4 _ => ?_)
                refine c_iconst G (nI 1) dX12_laysPlan_189 kI_1 ?_
                refine c_iadd G dX12_laysPlan_190 ?_
                refine c_iast G (lf h_a0 34 rfl) dX12_laysPlan_191 (fun M8 _ => ?_)
                refine c_aload_n G dX12_laysPlan_192 rfl 0 rfl ?_
                refine c_bipush G (nI 10) dX12_laysPlan_193 kB_10 ?_
                refine c_iload G dX12_laysPlan_195 6 rfl ?_
                refine c_imul G dX12_laysPlan_197 ?_
                refine c_aload_n G dX12_laysPlan_198 rfl 0 rfl ?_
                refine c_getF G fl_X12_60 h_a0 rfl dX12_laysPlan_199 ?_
                refine c_iload G dX12_laysPlan_202 6 rfl ?_
                refine c_iald G (lf h_a0 34 rfl) dX12_laysPlan_204 (fun v5 _ => ?_)
                refine c_iadd G dX12_laysPlan_205 ?_
                refine c_callV_V (d := 0) (rest := []) G [.int (((nI 10) * q4) + v5)] yv_X12_step ml_X12_417 (by omega) (by decide) rfl rfl (Nat.le_of_ble_eq_true rfl) h_a0 (fun q hq => con_X12_step h_a0 hq) dX12_laysPlan_206 (fun M9 _ => ?_)
                refine c_iload G dX12_laysPlan_209 4 rfl ?_
                refine c_aload_n G dX12_laysPlan_211 rfl 0 rfl ?_
                refine c_iload G dX12_laysPlan_212 6 rfl ?_
                refine c_aload_n G dX12_laysPlan_214 rfl 0 rfl ?_
                refine c_getF G fl_X12_13 h_a0 rfl dX12_laysPlan_215 ?_
                refine c_iload_n G dX12_laysPlan_218 rfl 1 rfl ?_
                refine c_iload G dX12_laysPlan_219 6 rfl ?_
                refine c_callS_PI (d := 0) (rest := [.int q4, .ref (wB w + pz (a0)), .int l4_1]) G [.ref (wB w + pz ((a0 + 2))), .int a1, .int q4] ys_X12_symbolAt ml_X12_250 (by omega) (by decide) rfl rfl (Nat.le_of_ble_eq_true rfl) (fun q hq => con_X12_symbolAt (ll (lf h_a0 1 rfl)) hq) dX12_laysPlan_221 (fun q6 _ => ?_)
                refine c_aload_n G dX12_laysPlan_224 rfl 0 rfl ?_
                refine c_getF G fl_X12_60 h_a0 rfl dX12_laysPlan_225 ?_
                refine c_iload G dX12_laysPlan_228 6 rfl ?_
                refine c_iald G (lf h_a0 34 rfl) dX12_laysPlan_230 (fun v6 _ => ?_)
                refine c_callV_PI (d := 2) (rest := [.int l4_1]) G [.int q4, .int q6, .int v6] yv_X12_outsOf ml_X12_408 (by omega) (by decide) rfl rfl (Nat.le_of_ble_eq_true rfl) h_a0 (fun q hq => con_X12_outsOf h_a0 hq) dX12_laysPlan_231 (fun q7 _ => ?_)
                refine c_ior G dX12_laysPlan_234 ?_
                refine c_let (fun l4_3 _ => ?_)
                refine c_istore G [(4, .int l4_3), (0, .ref (wB w + pz (a0))), (1, .int a1), (2, .int v1), (3, .int l3_1), (6, .int q3), (7, .int q4)] dX12_laysPlan_235 (by decide) rfl ?_
                refine c_goto (tgt := 50) G dX12_laysPlan_237 (by decide) ?_
                exact c_weak _ [1, 2, 3, 4, 0] rfl (ih l3_1 l4_3 M9)
              · skip
                refine c_aload_n G dX12_laysPlan_160 rfl 0 rfl ?_
                refine c_bipush G (nI 100) dX12_laysPlan_161 kB_100 ?_
                refine c_iload G dX12_laysPlan_163 5 rfl ?_
                refine c_iadd G dX12_laysPlan_165 ?_
                refine c_callV_V (d := 0) (rest := []) G [.int ((nI 100) + q3)] yv_X12_step ml_X12_417 (by omega) (by decide) rfl rfl (Nat.le_of_ble_eq_true rfl) h_a0 (fun q hq => con_X12_step h_a0 hq) dX12_laysPlan_166 (fun M10 _ => ?_)
                refine c_iload G dX12_laysPlan_169 4 rfl ?_
                refine c_iconst G (nI 1) dX12_laysPlan_171 kI_1 ?_
                refine c_iload G dX12_laysPlan_172 5 rfl ?_
                refine c_ishl G dX12_laysPlan_174 ?_
                refine c_ior G dX12_laysPlan_175 ?_
                refine c_let (fun l4_4 _ => ?_)
                refine c_istore G [(4, .int l4_4), (0, .ref (wB w + pz (a0))), (1, .int a1), (2, .int v1), (3, .int l3_1), (6, .int q3), (7, .int q4)] dX12_laysPlan_176 (by decide) rfl ?_
                refine c_goto (tgt := 237) G dX12_laysPlan_178 (by decide) ?_
                refine c_goto (tgt := 50) G dX12_laysPlan_237 (by decide) ?_
                exact c_weak _ [1, 2, 3, 4, 0] rfl (ih l3_1 l4_4 M10)
            · skip
              refine c_icmp_ne (tgt := 154) G dX12_laysPlan_118 (by decide) (fun _ => ?_) (fun _ => ?_)
              · skip
                refine c_iload G dX12_laysPlan_121 6 rfl ?_
                refine c_iconst G m1 dX12_laysPlan_123 kI_m1 ?_
                refine c_icmp_ne (tgt := 154) G dX12_laysPlan_124 (by decide) (fun _ => ?_) (fun _ => ?_)
                · skip
                  exact c_weak _ [0, 1, 2, 3, 4] rfl (hJ127 ())
                · skip
                  exact c_weak _ [0, 1, 2, 3, 4, 5, 6] rfl (hJ154 ())
              · skip
                exact c_weak _ [0, 1, 2, 3, 4, 5, 6] rfl (hJ154 ())
          · skip
            refine c_icmp_ge (tgt := 115) G dX12_laysPlan_107 (by decide) (fun _ => ?_) (fun _ => ?_)
            · skip
              exact c_weak _ [3, 4, 5, 6, 7, 1, 0] rfl (hJ115 ())
            · skip
              refine c_iload G dX12_laysPlan_110 2 rfl ?_
              refine c_if_ne (tgt := 127) G dX12_laysPlan_112 (by decide) (fun _ => ?_) (fun _ => ?_)
              · skip
                exact c_weak _ [3, 4, 5, 6, 7, 1, 0] rfl (hJ115 ())
              · skip
                exact c_weak _ [3, 4, 5, 6, 7] rfl (hJ127 ())
      · skip
        refine c_if_ne (tgt := 79) G dX12_laysPlan_72 (by decide) (fun _ => ?_) (fun _ => ?_)
        · skip
          refine c_iconst G (nI 1) dX12_laysPlan_75 kI_1 ?_
          refine c_goto (tgt := 80) G dX12_laysPlan_76 (by decide) ?_
          exact c_weak _ [0, 1, 2, 3, 4] rfl (hJ80 (nI 1))
        · skip
          refine c_iconst G (nI 0) dX12_laysPlan_79 kI_0 ?_
          exact c_weak _ [0, 1, 2, 3, 4] rfl (hJ80 (nI 0))
set_option maxHeartbeats 4000000 in
set_option maxRecDepth 100000 in
theorem con_X12_laysPlan {w : Wp} {N : Nat} {a0 : Nat} {a1 : Int32} {M : Mm} {q : Mm} (h_a0 : lay a0 = (5, 12)) (hq : D_X12_laysPlan N a0 a1 M = some q) : Con w 6 yX12_laysPlan cX12_laysPlan 8 none [.ref (wB w + pz (a0)), .int a1] M (encV q) := by
  refine Con.of encV q _ hq (by decide) (Nat.le_of_ble_eq_true rfl) ?_
  intro X G Q hQ
  have G : Good w X cX12_laysPlan 8 RX12 none 6 := G
  refine c_weak [(0, .ref (wB w + pz (a0))), (1, .int a1)] [0, 1] rfl ?_
  rw [D_X12_laysPlan]
  refine c_aload_n G dX12_laysPlan_0 rfl 0 rfl ?_
  refine c_callV_V (d := 5) (rest := []) G [] yv_X12_laysAllVisits ml_X12_389 (by omega) (by decide) rfl rfl (Nat.le_of_ble_eq_true rfl) h_a0 (fun q hq => con_X12_laysAllVisits h_a0 hq) dX12_laysPlan_1 (fun M1 _ => ?_)
  refine c_aload_n G dX12_laysPlan_4 rfl 0 rfl ?_
  refine c_iconst G (nI 0) dX12_laysPlan_5 kI_0 ?_
  refine c_putI G fp_X12_398 h_a0 rfl dX12_laysPlan_6 (fun M2 _ => ?_)
  refine c_iconst G (nI 0) dX12_laysPlan_9 kI_0 ?_
  refine c_istore_n G [(2, .int (nI 0)), (0, .ref (wB w + pz (a0))), (1, .int a1)] dX12_laysPlan_10 rfl (by decide) rfl ?_
  refine c_weak _ [1, 2, 0] rfl (cl_X12_laysPlan_11 G hQ _ h_a0 ?_ N (nI 0) M2)
  · intro M5
    refine c_aload_n G dX12_laysPlan_29 rfl 0 rfl ?_
    refine c_getF G fl_X12_13 h_a0 rfl dX12_laysPlan_30 ?_
    refine c_bipush G (nI 20) dX12_laysPlan_33 kB_20 ?_
    refine c_iload_n G dX12_laysPlan_35 rfl 1 rfl ?_
    refine c_iadd G dX12_laysPlan_36 ?_
    refine c_iald G (lf h_a0 1 rfl) dX12_laysPlan_37 (fun v1 _ => ?_)
    refine c_istore_n G [(2, .int v1), (0, .ref (wB w + pz (a0))), (1, .int a1)] dX12_laysPlan_38 rfl (by decide) rfl ?_
    refine c_iconst G (nI 1) dX12_laysPlan_39 kI_1 ?_
    refine c_istore_n G [(3, .int (nI 1)), (2, .int v1), (0, .ref (wB w + pz (a0))), (1, .int a1)] dX12_laysPlan_40 rfl (by decide) rfl ?_
    refine c_aload_n G dX12_laysPlan_41 rfl 2 rfl ?_
    refine c_iconst G (nI 0) dX12_laysPlan_42 kI_0 ?_
    refine c_iload_n G dX12_laysPlan_43 rfl 1 rfl ?_
    refine c_iconst G (nI 1) dX12_laysPlan_44 kI_1 ?_
    refine c_callV_PI (d := 0) (rest := []) G [.int (nI 0), .int v1, .int (nI 1)] yv_X12_insOf ml_X12_404 (by omega) (by decide) rfl rfl (Nat.le_of_ble_eq_true rfl) h_a0 (fun q hq => con_X12_insOf h_a0 hq) dX12_laysPlan_45 (fun q1 _ => ?_)
    refine c_istore G [(4, .int q1), (3, .int (nI 1)), (2, .int v1), (0, .ref (wB w + pz (a0))), (1, .int a1)] dX12_laysPlan_48 (by decide) rfl ?_
    refine c_weak _ [3, 4, 2, 1, 0] rfl (cl_X12_laysPlan_50 G hQ  h_a0 N (nI 1) q1 M5)
set_option maxHeartbeats 4000000 in
set_option maxRecDepth 100000 in
theorem cl_X12_keepsShade_2 {w : Wp} {X : Cx} {Q : State → Prop} {ρ : Mm} (G : Good w X cX12_keepsShade 4 RX12 none 0) (hQ : Q = MQ (xL X) (Qd w (encV ρ)) (xA X) (xS X) (xk X) (xs X) (Aw w)) (kE34 : Option (Mm)) {a0 : Nat} {a1 : Int32} {M : Mm} {a2 : Int32} (h_a0 : lay a0 = (5, 12)) (hE34 : Cov w X Q ρ some 4 34 [(0, .ref (wB w + pz (a0))), (1, .int a1), (2, .int a2)] [] M (kE34)) : ∀ (n : Nat) (l3_1 : Int32), Cov w X Q ρ some 4 2 [(0, .ref (wB w + pz (a0))), (1, .int a1), (2, .int a2), (3, .int l3_1)] [] M (L_X12_keepsShade_2 kE34 a0 a1 M a2 n l3_1) := by
  intro n
  induction n with
  | zero => intro l3_1; exact c_none
  | succ n ih =>
    intro l3_1
    rw [L_X12_keepsShade_2]
    refine c_iload_n G dX12_keepsShade_2 rfl 3 rfl ?_
    refine c_aload_n G dX12_keepsShade_3 rfl 0 rfl ?_
    refine c_getF G fl_X12_66 h_a0 rfl dX12_keepsShade_4 ?_
    refine c_iload_n G dX12_keepsShade_7 rfl 1 rfl ?_
    refine c_iald G (lf h_a0 36 rfl) dX12_keepsShade_8 (fun v1 _ => ?_)
    refine c_icmp_ge (tgt := 34) G dX12_keepsShade_9 (by decide) (fun _ => ?_) (fun _ => ?_)
    · skip
      exact c_weak _ [0, 1, 2] rfl (hE34)
    · skip
      refine c_aload_n G dX12_keepsShade_12 rfl 0 rfl ?_
      refine c_getF G fl_X12_63 h_a0 rfl dX12_keepsShade_13 ?_
      refine c_bipush G (nI 14) dX12_keepsShade_16 kB_14 ?_
      refine c_iload_n G dX12_keepsShade_18 rfl 1 rfl ?_
      refine c_imul G dX12_keepsShade_19 ?_
      refine c_iload_n G dX12_keepsShade_20 rfl 3 rfl ?_
      refine c_iadd G dX12_keepsShade_21 ?_
      refine c_iald G (lf h_a0 35 rfl) dX12_keepsShade_22 (fun v2 _ => ?_)
      refine c_iload_n G dX12_keepsShade_23 rfl 2 rfl ?_
      refine c_icmp_ne (tgt := 28) G dX12_keepsShade_24 (by decide) (fun _ => ?_) (fun _ => ?_)
      · skip
        exact c_vret G hQ dX12_keepsShade_27
      · skip
        refine c_iinc G (fun y__ => [(3, .int y__), (0, .ref (wB w + pz (a0))), (1, .int a1), (2, .int a2)]) dX12_keepsShade_28 3 rfl kI_1 (by decide) (fun _ => rfl) (fun l3_2 _ => ?_)
        refine c_goto (tgt := 2) G dX12_keepsShade_31 (by decide) ?_
        exact c_weak _ [1, 2, 3, 0] rfl (ih l3_2)
set_option maxHeartbeats 4000000 in
set_option maxRecDepth 100000 in
theorem con_X12_keepsShade {w : Wp} {N : Nat} {a0 : Nat} {a1 : Int32} {a2 : Int32} {M : Mm} {q : Mm} (h_a0 : lay a0 = (5, 12)) (hq : D_X12_keepsShade N a0 a1 a2 M = some q) : Con w 0 yX12_keepsShade cX12_keepsShade 4 none [.ref (wB w + pz (a0)), .int a1, .int a2] M (encV q) := by
  refine Con.of encV q _ hq (by decide) (Nat.le_of_ble_eq_true rfl) ?_
  intro X G Q hQ
  have G : Good w X cX12_keepsShade 4 RX12 none 0 := G
  refine c_weak [(0, .ref (wB w + pz (a0))), (1, .int a1), (2, .int a2)] [0, 1, 2] rfl ?_
  rw [D_X12_keepsShade]
  refine c_iconst G (nI 0) dX12_keepsShade_0 kI_0 ?_
  refine c_istore_n G [(3, .int (nI 0)), (0, .ref (wB w + pz (a0))), (1, .int a1), (2, .int a2)] dX12_keepsShade_1 rfl (by decide) rfl ?_
  refine c_weak _ [1, 2, 3, 0] rfl (cl_X12_keepsShade_2 G hQ _ h_a0 ?_ N (nI 0))
  · skip
    refine c_aload_n G dX12_keepsShade_34 rfl 0 rfl ?_
    refine c_iconst G (nI 1) dX12_keepsShade_35 kI_1 ?_
    refine c_putZ G fp_X12_420 h_a0 rfl dX12_keepsShade_36 (fun M1 _ => ?_)
    refine c_aload_n G dX12_keepsShade_39 rfl 0 rfl ?_
    refine c_getF G fl_X12_66 h_a0 rfl dX12_keepsShade_40 ?_
    refine c_iload_n G dX12_keepsShade_43 rfl 1 rfl ?_
    refine c_iald G (lf h_a0 36 rfl) dX12_keepsShade_44 (fun v3 _ => ?_)
    refine c_bipush G (nI 12) dX12_keepsShade_45 kB_12 ?_
    refine c_icmp_ne (tgt := 56) G dX12_keepsShade_47 (by decide) (fun _ => ?_) (fun _ => ?_)
    · skip
      refine c_aload_n G dX12_keepsShade_50 rfl 0 rfl ?_
      refine c_iconst G (nI 1) dX12_keepsShade_51 kI_1 ?_
      refine c_putZ G fp_X12_423 h_a0 rfl dX12_keepsShade_52 (fun M2 _ => ?_)
      exact c_vret G hQ dX12_keepsShade_55
    · skip
      refine c_aload_n G dX12_keepsShade_56 rfl 0 rfl ?_
      refine c_getF G fl_X12_63 h_a0 rfl dX12_keepsShade_57 ?_
      refine c_bipush G (nI 14) dX12_keepsShade_60 kB_14 ?_
      refine c_iload_n G dX12_keepsShade_62 rfl 1 rfl ?_
      refine c_imul G dX12_keepsShade_63 ?_
      refine c_aload_n G dX12_keepsShade_64 rfl 0 rfl ?_
      refine c_getF G fl_X12_66 h_a0 rfl dX12_keepsShade_65 ?_
      refine c_iload_n G dX12_keepsShade_68 rfl 1 rfl ?_
      refine c_iald G (lf h_a0 36 rfl) dX12_keepsShade_69 (fun v4 _ => ?_)
      refine c_iadd G dX12_keepsShade_70 ?_
      refine c_iload_n G dX12_keepsShade_71 rfl 2 rfl ?_
      refine c_iast G (lf h_a0 35 rfl) dX12_keepsShade_72 (fun M3 _ => ?_)
      refine c_aload_n G dX12_keepsShade_73 rfl 0 rfl ?_
      refine c_getF G fl_X12_66 h_a0 rfl dX12_keepsShade_74 ?_
      refine c_iload_n G dX12_keepsShade_77 rfl 1 rfl ?_
      refine c_dup2 G dX12_keepsShade_78 rfl rfl ?_
      refine c_iald G (lf h_a0 36 rfl) dX12_keepsShade_79 (fun v5 _ => ?_)
      refine c_iconst G (nI 1) dX12_keepsShade_80 kI_1 ?_
      refine c_iadd G dX12_keepsShade_81 ?_
      refine c_iast G (lf h_a0 36 rfl) dX12_keepsShade_82 (fun M4 _ => ?_)
      exact c_vret G hQ dX12_keepsShade_83
set_option maxHeartbeats 4000000 in
set_option maxRecDepth 100000 in
theorem cl_X12_shadesBy_58 {w : Wp} {X : Cx} {Q : State → Prop} {ρ : Mm} (G : Good w X cX12_shadesBy 6 RX12 none 2) (hQ : Q = MQ (xL X) (Qd w (encV ρ)) (xA X) (xS X) (xk X) (xs X) (Aw w)) (kE113 : Mm → Option (Mm)) {N : Nat} {a0 : Nat} {q1 : Int32} {l2_1 : Int32} {v3 : Int32} {a1 : Int32} (h_a0 : lay a0 = (5, 12)) (hE113 : ∀ (Mz : Mm), Cov w X Q ρ some 6 113 [(0, .ref (wB w + pz (a0))), (1, .int a1), (2, .int l2_1)] [] Mz (kE113 Mz)) : ∀ (n : Nat) (l5_1 : Int32) (M3 : Mm), Cov w X Q ρ some 6 58 [(0, .ref (wB w + pz (a0))), (1, .int a1), (2, .int l2_1), (3, .int q1), (4, .int v3), (5, .int l5_1)] [] M3 (L_X12_shadesBy_58 kE113 N a0 q1 l2_1 v3 n l5_1 M3) := by
  intro n
  induction n with
  | zero => intro l5_1 M3; exact c_none
  | succ n ih =>
    intro l5_1 M3
    rw [L_X12_shadesBy_58]
    refine c_iload G dX12_shadesBy_58 5 rfl ?_
    refine c_aload_n G dX12_shadesBy_60 rfl 0 rfl ?_
    refine c_iload_n G dX12_shadesBy_61 rfl 3 rfl ?_
    refine c_callV_PI (d := 1) (rest := [.int l5_1]) G [.int q1] yv_X12_attributes ml_X12_334 (by omega) (by decide) rfl rfl (Nat.le_of_ble_eq_true rfl) h_a0 (fun q hq => con_X12_attributes h_a0 hq) dX12_shadesBy_62 (fun q2 _ => ?_)
    refine c_icmp_ge (tgt := 113) G dX12_shadesBy_65 (by decide) (fun _ => ?_) (fun _ => ?_)
    · skip
      exact c_weak _ [0, 1, 2] rfl (hE113 M3)
    · skip
      refine c_aload_n G dX12_shadesBy_68 rfl 0 rfl ?_
      refine c_getF G fl_X12_36 h_a0 rfl dX12_shadesBy_69 ?_
      refine c_bipush G (nI 8) dX12_shadesBy_72 kB_8 ?_
      refine c_iload_n G dX12_shadesBy_74 rfl 2 rfl ?_
      refine c_imul G dX12_shadesBy_75 ?_
      refine c_iload G dX12_shadesBy_76 5 rfl ?_
      refine c_iadd G dX12_shadesBy_78 ?_
      refine c_dup2 G dX12_shadesBy_79 rfl rfl ?_
      refine c_iald G (lf h_a0 23 rfl) dX12_shadesBy_80 (fun v5 _ => ?_)
      refine c_iload G dX12_shadesBy_81 4 rfl ?_
      refine c_iconst G (nI 4) dX12_shadesBy_83 kI_4 ?_
      refine c_iload G dX12_shadesBy_84 5 rfl ?_
      refine c_aload_n G dX12_shadesBy_86 rfl 0 rfl ?_
      refine c_getF G fl_X12_13 h_a0 rfl dX12_shadesBy_87 ?_
      refine c_iconst G (nI 4) dX12_shadesBy_90 kI_4 ?_
      refine c_iload_n G dX12_shadesBy_91 rfl 3 rfl ?_
      refine c_iadd G dX12_shadesBy_92 ?_
      refine c_iald G (lf h_a0 1 rfl) dX12_shadesBy_93 (fun v6 _ => ?_)
      refine c_isub G dX12_shadesBy_94 ?_
      refine c_imul G dX12_shadesBy_95 ?_
      refine c_ishr G dX12_shadesBy_96 ?_
      refine c_bipush G (nI 15) dX12_shadesBy_97 kB_15 ?_
      refine c_iand G dX12_shadesBy_99 ?_
      refine c_bipush G (nI 8) dX12_shadesBy_100 kB_8 ?_
      refine c_iload_n G dX12_shadesBy_102 rfl 2 rfl ?_
      refine c_imul G dX12_shadesBy_103 ?_
      refine c_ishl G dX12_shadesBy_104 ?_
      refine c_ior G dX12_shadesBy_105 ?_
      refine c_iast G (lf h_a0 23 rfl) dX12_shadesBy_106 (fun M4 _ => ?_)
      refine c_iinc G (fun y__ => [(5, .int y__), (0, .ref (wB w + pz (a0))), (1, .int a1), (2, .int l2_1), (3, .int q1), (4, .int v3)]) dX12_shadesBy_107 5 rfl kI_1 (by decide) (fun _ => rfl) (fun l5_2 _ => ?_)
      refine c_goto (tgt := 58) G dX12_shadesBy_110 (by decide) ?_
      exact c_weak _ [1, 2, 3, 4, 5, 0] rfl (ih l5_2 M4)
set_option maxHeartbeats 4000000 in
set_option maxRecDepth 100000 in
theorem cl_X12_shadesBy_7 {w : Wp} {X : Cx} {Q : State → Prop} {ρ : Mm} (G : Good w X cX12_shadesBy 6 RX12 none 2) (hQ : Q = MQ (xL X) (Qd w (encV ρ)) (xA X) (xS X) (xk X) (xs X) (Aw w)) (kE119 : Mm → Option (Mm)) {a0 : Nat} {a1 : Int32} {N : Nat} (h_a0 : lay a0 = (5, 12)) (hE119 : ∀ (Mz : Mm), Cov w X Q ρ some 6 119 [(0, .ref (wB w + pz (a0))), (1, .int a1)] [] Mz (kE119 Mz)) : ∀ (n : Nat) (l2_1 : Int32) (M2 : Mm), Cov w X Q ρ some 6 7 [(0, .ref (wB w + pz (a0))), (1, .int a1), (2, .int l2_1)] [] M2 (L_X12_shadesBy_7 kE119 a0 a1 N n l2_1 M2) := by
  intro n
  induction n with
  | zero => intro l2_1 M2; exact c_none
  | succ n ih =>
    intro l2_1 M2
    rw [L_X12_shadesBy_7]
    refine c_iload_n G dX12_shadesBy_7 rfl 2 rfl ?_
    refine c_aload_n G dX12_shadesBy_8 rfl 0 rfl ?_
    refine c_getF G fl_X12_13 h_a0 rfl dX12_shadesBy_9 ?_
    refine c_bipush G (nI 32) dX12_shadesBy_12 kB_32 ?_
    refine c_iload_n G dX12_shadesBy_14 rfl 1 rfl ?_
    refine c_iadd G dX12_shadesBy_15 ?_
    refine c_iald G (lf h_a0 1 rfl) dX12_shadesBy_16 (fun v1 _ => ?_)
    refine c_icmp_gt (tgt := 119) G dX12_shadesBy_17 (by decide) (fun _ => ?_) (fun _ => ?_)
    · skip
      exact c_weak _ [0, 1] rfl (hE119 M2)
    · skip
      refine c_aload_n G dX12_shadesBy_20 rfl 0 rfl ?_
      refine c_getF G fl_X12_13 h_a0 rfl dX12_shadesBy_21 ?_
      refine c_iload_n G dX12_shadesBy_24 rfl 1 rfl ?_
      refine c_iload_n G dX12_shadesBy_25 rfl 2 rfl ?_
      refine c_callS_PI (d := 0) (rest := []) G [.ref (wB w + pz ((a0 + 2))), .int a1, .int l2_1] ys_X12_symbolAt ml_X12_250 (by omega) (by decide) rfl rfl (Nat.le_of_ble_eq_true rfl) (fun q hq => con_X12_symbolAt (ll (lf h_a0 1 rfl)) hq) dX12_shadesBy_26 (fun q1 _ => ?_)
      refine c_istore_n G [(3, .int q1), (0, .ref (wB w + pz (a0))), (1, .int a1), (2, .int l2_1)] dX12_shadesBy_29 rfl (by decide) rfl ?_
      refine c_aload_n G dX12_shadesBy_30 rfl 1 rfl ?_
      refine c_getF G fl_X12_63 h_a0 rfl dX12_shadesBy_31 ?_
      refine c_bipush G (nI 14) dX12_shadesBy_34 kB_14 ?_
      refine c_iload_n G dX12_shadesBy_36 rfl 0 rfl ?_
      refine c_imul G dX12_shadesBy_37 ?_
      refine c_aload_n G dX12_shadesBy_38 rfl 1 rfl ?_
      refine c_getF G fl_X12_72 h_a0 rfl dX12_shadesBy_39 ?_
      refine c_iload_n G dX12_shadesBy_42 rfl 3 rfl ?_
      refine c_iald G (lf h_a0 38 rfl) dX12_shadesBy_43 (fun v2 _ => ?_)
      refine c_iadd G dX12_shadesBy_44 ?_
      refine c_iald G (lf h_a0 35 rfl) dX12_shadesBy_45 (fun v3 _ => ?_)
      refine c_istore G [(4, .int v3), (3, .int q1), (0, .ref (wB w + pz (a0))), (1, .int a1), (2, .int l2_1)] dX12_shadesBy_46 (by decide) rfl ?_
      refine c_aload_n G dX12_shadesBy_48 rfl 2 rfl ?_
      refine c_getF G fl_X12_13 h_a0 rfl dX12_shadesBy_49 ?_
      refine c_iconst G (nI 4) dX12_shadesBy_52 kI_4 ?_
      refine c_iload_n G dX12_shadesBy_53 rfl 1 rfl ?_
      refine c_iadd G dX12_shadesBy_54 ?_
      refine c_iald G (lf h_a0 1 rfl) dX12_shadesBy_55 (fun v4 _ => ?_)
      refine c_istore G [(5, .int v4), (4, .int v3), (3, .int q1), (0, .ref (wB w + pz (a0))), (1, .int a1), (2, .int l2_1)] dX12_shadesBy_56 (by decide) rfl ?_
      refine c_weak _ [3, 4, 5, 2, 1, 0] rfl (cl_X12_shadesBy_58 G hQ _ h_a0 ?_ N v4 M2)
      · intro M5
        refine c_iinc G (fun y__ => [(2, .int y__), (0, .ref (wB w + pz (a0))), (1, .int a1)]) dX12_shadesBy_113 2 rfl kI_1 (by decide) (fun _ => rfl) (fun l2_2 _ => ?_)
        refine c_goto (tgt := 7) G dX12_shadesBy_116 (by decide) ?_
        exact c_weak _ [1, 2, 0] rfl (ih l2_2 M5)
set_option maxHeartbeats 4000000 in
set_option maxRecDepth 100000 in
theorem cl_X12_shadesBy_168 {w : Wp} {X : Cx} {Q : State → Prop} {ρ : Mm} (G : Good w X cX12_shadesBy 6 RX12 none 2) (hQ : Q = MQ (xL X) (Qd w (encV ρ)) (xA X) (xS X) (xk X) (xs X) (Aw w)) {N : Nat} {a0 : Nat} {v7 : Int32} {M8 : Mm} (h_a0 : lay a0 = (5, 12)) : ∀ (n : Nat) (l3_1 : Int32) (l4_1 : Int32), Cov w X Q ρ some 6 168 [(0, .ref (wB w + pz (a0))), (2, .int v7), (3, .int l3_1), (4, .int l4_1)] [] M8 (L_X12_shadesBy_168 N a0 v7 M8 n l3_1 l4_1) := by
  intro n
  induction n with
  | zero => intro l3_1 l4_1; exact c_none
  | succ n ih =>
    intro l3_1 l4_1
    rw [L_X12_shadesBy_168]
    refine c_iload G dX12_shadesBy_168 3 rfl ?_
    refine c_aload_n G dX12_shadesBy_170 rfl 0 rfl ?_
    refine c_iload_n G dX12_shadesBy_171 rfl 1 rfl ?_
    refine c_callV_PI (d := 1) (rest := [.int l4_1]) G [.int v7] yv_X12_attributes ml_X12_334 (by omega) (by decide) rfl rfl (Nat.le_of_ble_eq_true rfl) h_a0 (fun q hq => con_X12_attributes h_a0 hq) dX12_shadesBy_172 (fun q4 _ => ?_)
    refine c_icmp_ge (tgt := 221) G dX12_shadesBy_175 (by decide) (fun _ => ?_) (fun _ => ?_)
    · skip
      refine c_aload_n G dX12_shadesBy_221 rfl 0 rfl ?_
      refine c_iload_n G dX12_shadesBy_222 rfl 1 rfl ?_
      refine c_iload_n G dX12_shadesBy_223 rfl 2 rfl ?_
      refine c_callV_V (d := 0) (rest := []) G [.int v7, .int l3_1] yv_X12_keepsShade ml_X12_432 (by omega) (by decide) rfl rfl (Nat.le_of_ble_eq_true rfl) h_a0 (fun q hq => con_X12_keepsShade h_a0 hq) dX12_shadesBy_224 (fun M9 _ => ?_)
      exact c_vret G hQ dX12_shadesBy_227
    · skip
      refine c_iload_n G dX12_shadesBy_178 rfl 2 rfl ?_
      refine c_aload_n G dX12_shadesBy_179 rfl 0 rfl ?_
      refine c_getF G fl_X12_36 h_a0 rfl dX12_shadesBy_180 ?_
      refine c_iload G dX12_shadesBy_183 3 rfl ?_
      refine c_iald G (lf h_a0 23 rfl) dX12_shadesBy_185 (fun v9 _ => ?_)
      refine c_iconst G (nI 1) dX12_shadesBy_186 kI_1 ?_
      refine c_aload_n G dX12_shadesBy_187 rfl 0 rfl ?_
      refine c_getF G fl_X12_13 h_a0 rfl dX12_shadesBy_188 ?_
      refine c_iconst G (nI 4) dX12_shadesBy_191 kI_4 ?_
      refine c_iload_n G dX12_shadesBy_192 rfl 1 rfl ?_
      refine c_iadd G dX12_shadesBy_193 ?_
      refine c_iald G (lf h_a0 1 rfl) dX12_shadesBy_194 (fun v10 _ => ?_)
      refine c_ishl G dX12_shadesBy_195 ?_
      refine c_iconst G (nI 1) dX12_shadesBy_196 kI_1 ?_
      refine c_isub G dX12_shadesBy_197 ?_
      refine c_iand G dX12_shadesBy_198 ?_
      refine c_iconst G (nI 4) dX12_shadesBy_199 kI_4 ?_
      refine c_iload G dX12_shadesBy_200 3 rfl ?_
      refine c_aload_n G dX12_shadesBy_202 rfl 0 rfl ?_
      refine c_getF G fl_X12_13 h_a0 rfl dX12_shadesBy_203 ?_
      refine c_iconst G (nI 4) dX12_shadesBy_206 kI_4 ?_
      refine c_iload_n G dX12_shadesBy_207 rfl 1 rfl ?_
      refine c_iadd G dX12_shadesBy_208 ?_
      refine c_iald G (lf h_a0 1 rfl) dX12_shadesBy_209 (fun v11 _ => ?_)
      refine c_isub G dX12_shadesBy_210 ?_
      refine c_imul G dX12_shadesBy_211 ?_
      refine c_ishl G dX12_shadesBy_212 ?_
      refine c_ior G dX12_shadesBy_213 ?_
      refine c_let (fun l3_2 _ => ?_)
      refine c_istore_n G [(3, .int l3_2), (0, .ref (wB w + pz (a0))), (2, .int v7), (4, .int l4_1)] dX12_shadesBy_214 rfl (by decide) rfl ?_
      refine c_iinc G (fun y__ => [(4, .int y__), (3, .int l3_2), (0, .ref (wB w + pz (a0))), (2, .int v7)]) dX12_shadesBy_215 3 rfl kI_1 (by decide) (fun _ => rfl) (fun l4_2 _ => ?_)
      refine c_goto (tgt := 168) G dX12_shadesBy_218 (by decide) ?_
      exact c_weak _ [2, 3, 1, 0] rfl (ih l3_2 l4_2)
set_option maxHeartbeats 4000000 in
set_option maxRecDepth 100000 in
theorem con_X12_shadesBy {w : Wp} {N : Nat} {a0 : Nat} {a1 : Int32} {M : Mm} {q : Mm} (h_a0 : lay a0 = (5, 12)) (hq : D_X12_shadesBy N a0 a1 M = some q) : Con w 2 yX12_shadesBy cX12_shadesBy 6 none [.ref (wB w + pz (a0)), .int a1] M (encV q) := by
  refine Con.of encV q _ hq (by decide) (Nat.le_of_ble_eq_true rfl) ?_
  intro X G Q hQ
  have G : Good w X cX12_shadesBy 6 RX12 none 2 := G
  refine c_weak [(0, .ref (wB w + pz (a0))), (1, .int a1)] [0, 1] rfl ?_
  rw [D_X12_shadesBy]
  refine c_aload_n G dX12_shadesBy_0 rfl 0 rfl ?_
  refine c_iload_n G dX12_shadesBy_1 rfl 1 rfl ?_
  refine c_callV_V (d := 1) (rest := []) G [.int a1] yv_X12_laysRules ml_X12_347 (by omega) (by decide) rfl rfl (Nat.le_of_ble_eq_true rfl) h_a0 (fun q hq => con_X12_laysRules h_a0 hq) dX12_shadesBy_2 (fun M1 _ => ?_)
  refine c_iconst G (nI 1) dX12_shadesBy_5 kI_1 ?_
  refine c_istore_n G [(2, .int (nI 1)), (0, .ref (wB w + pz (a0))), (1, .int a1)] dX12_shadesBy_6 rfl (by decide) rfl ?_
  refine c_weak _ [1, 2, 0] rfl (cl_X12_shadesBy_7 G hQ _ h_a0 ?_ N (nI 1) M1)
  · intro M6
    refine c_aload_n G dX12_shadesBy_119 rfl 0 rfl ?_
    refine c_callV_V (d := 1) (rest := []) G [] yv_X12_closes ml_X12_353 (by omega) (by decide) rfl rfl (Nat.le_of_ble_eq_true rfl) h_a0 (fun q hq => con_X12_closes h_a0 hq) dX12_shadesBy_120 (fun M7 _ => ?_)
    refine c_aload_n G dX12_shadesBy_123 rfl 0 rfl ?_
    refine c_callV_PI (d := 1) (rest := []) G [] yv_X12_firstSelf ml_X12_362 (by omega) (by decide) rfl rfl (Nat.le_of_ble_eq_true rfl) h_a0 (fun q hq => con_X12_firstSelf h_a0 hq) dX12_shadesBy_124 (fun q3 _ => ?_)
    refine c_iconst G m1 dX12_shadesBy_127 kI_m1 ?_
    refine c_bj (ej := fun (p146 : Mm) => [(0, .ref (wB w + pz (a0))), (1, .int a1)]) (sj := fun p146 => []) (mj := fun p146 => p146) (pj := 146) (fun p146 => ?_) (fun F hJ146 => ?_)
    · skip
      refine c_aload_n G dX12_shadesBy_146 rfl 0 rfl ?_
      refine c_getF G fl_X12_13 h_a0 rfl dX12_shadesBy_147 ?_
      refine c_bipush G (nI 20) dX12_shadesBy_150 kB_20 ?_
      refine c_iload_n G dX12_shadesBy_152 rfl 1 rfl ?_
      refine c_iadd G dX12_shadesBy_153 ?_
      refine c_iald G (lf h_a0 1 rfl) dX12_shadesBy_154 (fun v7 _ => ?_)
      refine c_istore_n G [(2, .int v7), (0, .ref (wB w + pz (a0))), (1, .int a1)] dX12_shadesBy_155 rfl (by decide) rfl ?_
      refine c_iconst G (nI 0) dX12_shadesBy_156 kI_0 ?_
      refine c_istore_n G [(3, .int (nI 0)), (2, .int v7), (0, .ref (wB w + pz (a0))), (1, .int a1)] dX12_shadesBy_157 rfl (by decide) rfl ?_
      refine c_aload_n G dX12_shadesBy_158 rfl 2 rfl ?_
      refine c_getF G fl_X12_13 h_a0 rfl dX12_shadesBy_159 ?_
      refine c_iconst G (nI 4) dX12_shadesBy_162 kI_4 ?_
      refine c_iload_n G dX12_shadesBy_163 rfl 1 rfl ?_
      refine c_iadd G dX12_shadesBy_164 ?_
      refine c_iald G (lf h_a0 1 rfl) dX12_shadesBy_165 (fun v8 _ => ?_)
      refine c_istore G [(4, .int v8), (3, .int (nI 0)), (2, .int v7), (0, .ref (wB w + pz (a0))), (1, .int a1)] dX12_shadesBy_166 (by decide) rfl ?_
      refine c_weak _ [3, 2, 1, 0] rfl (cl_X12_shadesBy_168 G hQ  h_a0 N (nI 0) v8)
    · skip
      refine c_icmp_eq (tgt := 146) G dX12_shadesBy_128 (by decide) (fun _ => ?_) (fun _ => ?_)
      · skip
        exact c_weak _ [0, 1] rfl (hJ146 M7)
      · skip
        refine c_aload_n G dX12_shadesBy_131 rfl 0 rfl ?_
        refine c_getI G fl_X12_426 h_a0 rfl dX12_shadesBy_132 ?_
        refine c_if_ne (tgt := 146) G dX12_shadesBy_135 (by decide) (fun _ => ?_) (fun _ => ?_)
        · skip
          refine c_aload_n G dX12_shadesBy_138 rfl 0 rfl ?_
          refine c_aload_n G dX12_shadesBy_139 rfl 0 rfl ?_
          refine c_getI G fl_X12_429 h_a0 rfl dX12_shadesBy_140 ?_
          refine c_putI G fp_X12_426 h_a0 rfl dX12_shadesBy_143 (fun M10 _ => ?_)
          exact c_weak _ [0, 1] rfl (hJ146 M10)
        · skip
          exact c_weak _ [0, 1] rfl (hJ146 M7)
set_option maxHeartbeats 4000000 in
set_option maxRecDepth 100000 in
theorem cl_X12_chooses_32 {w : Wp} {rc : Nat → Int32 → Int32 → Mm → Option (Mm)} {X : Cx} {Q : State → Prop} {ρ : Mm} {dd : Nat} (G : Good w X cX12_chooses 5 RX12 none (dd + 1)) (hQ : Q = MQ (xL X) (Qd w (encV ρ)) (xA X) (xS X) (xk X) (xs X) (Aw w)) (hdd : 3 ≤ dd) (hrc : ∀ (b0 : Nat) (b1 : Int32) (b2 : Int32) (M : Mm) (q : Mm), lay b0 = (5, 12) → rc b0 b1 b2 M = some q → Con w dd yX12_chooses cX12_chooses 5 none [.ref (wB w + pz (b0)), .int b1, .int b2] M (encV q)) {a0 : Nat} {q1 : Int32} {a2 : Int32} {a1 : Int32} (h_a0 : lay a0 = (5, 12)) : ∀ (n : Nat) (l4_1 : Int32) (M1 : Mm), Cov w X Q ρ some 5 32 [(0, .ref (wB w + pz (a0))), (1, .int a1), (2, .int a2), (3, .int q1), (4, .int l4_1)] [] M1 (L_X12_chooses_32 a0 q1 a2 rc a1 n l4_1 M1) := by
  intro n
  induction n with
  | zero => intro l4_1 M1; exact c_none
  | succ n ih =>
    intro l4_1 M1
    rw [L_X12_chooses_32]
    refine c_iload G dX12_chooses_32 4 rfl ?_
    refine c_aload_n G dX12_chooses_34 rfl 0 rfl ?_
    refine c_getF G fl_X12_69 h_a0 rfl dX12_chooses_35 ?_
    refine c_iload_n G dX12_chooses_38 rfl 3 rfl ?_
    refine c_iald G (lf h_a0 37 rfl) dX12_chooses_39 (fun v2 _ => ?_)
    refine c_icmp_ge (tgt := 65) G dX12_chooses_40 (by decide) (fun _ => ?_) (fun _ => ?_)
    · skip
      exact c_vret G hQ dX12_chooses_65
    · skip
      refine c_aload_n G dX12_chooses_43 rfl 0 rfl ?_
      refine c_getF G fl_X12_72 h_a0 rfl dX12_chooses_44 ?_
      refine c_iload_n G dX12_chooses_47 rfl 2 rfl ?_
      refine c_iload G dX12_chooses_48 4 rfl ?_
      refine c_iast G (lf h_a0 38 rfl) dX12_chooses_50 (fun M2 _ => ?_)
      refine c_aload_n G dX12_chooses_51 rfl 0 rfl ?_
      refine c_iload_n G dX12_chooses_52 rfl 1 rfl ?_
      refine c_iload_n G dX12_chooses_53 rfl 2 rfl ?_
      refine c_iconst G (nI 1) dX12_chooses_54 kI_1 ?_
      refine c_iadd G dX12_chooses_55 ?_
      refine c_callV_V (d := dd) (rest := []) G [.int a1, .int (a2 + (nI 1))] yv_X12_chooses ml_X12_438 (by omega) (by decide) rfl rfl (Nat.le_of_ble_eq_true rfl) h_a0 (fun q hq => hrc a0 a1 (a2 + (nI 1)) M2 q h_a0 hq) dX12_chooses_56 (fun M3 _ => ?_)
      refine c_iinc G (fun y__ => [(4, .int y__), (0, .ref (wB w + pz (a0))), (1, .int a1), (2, .int a2), (3, .int q1)]) dX12_chooses_59 4 rfl kI_1 (by decide) (fun _ => rfl) (fun l4_2 _ => ?_)
      refine c_goto (tgt := 32) G dX12_chooses_62 (by decide) ?_
      exact c_weak _ [1, 2, 3, 4, 0] rfl (ih l4_2 M3)
set_option maxHeartbeats 4000000 in
set_option maxRecDepth 100000 in
theorem conB_X12_chooses {w : Wp} {N : Nat} {dd : Nat} {rc : Nat → Int32 → Int32 → Mm → Option (Mm)} {a0 : Nat} {a1 : Int32} {a2 : Int32} {M : Mm} {q : Mm} (hdd : 3 ≤ dd) (hrc : ∀ (b0 : Nat) (b1 : Int32) (b2 : Int32) (M : Mm) (q : Mm), lay b0 = (5, 12) → rc b0 b1 b2 M = some q → Con w dd yX12_chooses cX12_chooses 5 none [.ref (wB w + pz (b0)), .int b1, .int b2] M (encV q)) (h_a0 : lay a0 = (5, 12)) (hq : DB_X12_chooses N rc a0 a1 a2 M = some q) : Con w (dd + 1) yX12_chooses cX12_chooses 5 none [.ref (wB w + pz (a0)), .int a1, .int a2] M (encV q) := by
  refine Con.of encV q _ hq (by decide) (Nat.le_of_ble_eq_true rfl) ?_
  intro X G Q hQ
  have G : Good w X cX12_chooses 5 RX12 none (dd + 1) := G
  refine c_weak [(0, .ref (wB w + pz (a0))), (1, .int a1), (2, .int a2)] [0, 1, 2] rfl ?_
  rw [DB_X12_chooses]
  refine c_iload_n G dX12_chooses_0 rfl 2 rfl ?_
  refine c_aload_n G dX12_chooses_1 rfl 0 rfl ?_
  refine c_getF G fl_X12_13 h_a0 rfl dX12_chooses_2 ?_
  refine c_bipush G (nI 32) dX12_chooses_5 kB_32 ?_
  refine c_iload_n G dX12_chooses_7 rfl 1 rfl ?_
  refine c_iadd G dX12_chooses_8 ?_
  refine c_iald G (lf h_a0 1 rfl) dX12_chooses_9 (fun v1 _ => ?_)
  refine c_icmp_le (tgt := 19) G dX12_chooses_10 (by decide) (fun _ => ?_) (fun _ => ?_)
  · skip
    refine c_aload_n G dX12_chooses_19 rfl 0 rfl ?_
    refine c_getF G fl_X12_13 h_a0 rfl dX12_chooses_20 ?_
    refine c_iload_n G dX12_chooses_23 rfl 1 rfl ?_
    refine c_iload_n G dX12_chooses_24 rfl 2 rfl ?_
    refine c_callS_PI (d := 0) (rest := []) G [.ref (wB w + pz ((a0 + 2))), .int a1, .int a2] ys_X12_symbolAt ml_X12_250 (by omega) (by decide) rfl rfl (Nat.le_of_ble_eq_true rfl) (fun q hq => con_X12_symbolAt (ll (lf h_a0 1 rfl)) hq) dX12_chooses_25 (fun q1 _ => ?_)
    refine c_istore_n G [(3, .int q1), (0, .ref (wB w + pz (a0))), (1, .int a1), (2, .int a2)] dX12_chooses_28 rfl (by decide) rfl ?_
    refine c_iconst G (nI 0) dX12_chooses_29 kI_0 ?_
    refine c_istore G [(4, .int (nI 0)), (3, .int q1), (0, .ref (wB w + pz (a0))), (1, .int a1), (2, .int a2)] dX12_chooses_30 (by decide) rfl ?_
    refine c_weak _ [2, 3, 4, 1, 0] rfl (cl_X12_chooses_32 G hQ hdd hrc  h_a0 N (nI 0) M)
  · skip
    refine c_aload_n G dX12_chooses_13 rfl 0 rfl ?_
    refine c_iload_n G dX12_chooses_14 rfl 1 rfl ?_
    refine c_callV_V (d := 2) (rest := []) G [.int a1] yv_X12_shadesBy ml_X12_435 (by omega) (by decide) rfl rfl (Nat.le_of_ble_eq_true rfl) h_a0 (fun q hq => con_X12_shadesBy h_a0 hq) dX12_chooses_15 (fun M4 _ => ?_)
    exact c_vret G hQ dX12_chooses_18
theorem con_X12_chooses_f {w : Wp} {N : Nat} : ∀ (fu : Nat) (a0 : Nat) (a1 : Int32) (a2 : Int32) (M : Mm) (q : Mm), lay a0 = (5, 12) → D_X12_chooses N fu a0 a1 a2 M = some q → Con w (3 + 1 * fu) yX12_chooses cX12_chooses 5 none [.ref (wB w + pz (a0)), .int a1, .int a2] M (encV q) := by
  intro fu
  induction fu with
  | zero => intro a0 a1 a2 M q h_a0 h; cases h
  | succ fu ih =>
    intro a0 a1 a2 M q h_a0 h
    exact conB_X12_chooses (dd := 3 + 1 * fu) (by omega) (fun a0 a1 a2 M q h_a0 h => ih a0 a1 a2 M q h_a0 h) h_a0 h
theorem con_X12_chooses {w : Wp} {N : Nat} {a0 : Nat} {a1 : Int32} {a2 : Int32} {M : Mm} {q : Mm} (h_a0 : lay a0 = (5, 12)) (hq : D_X12_chooses N 5 a0 a1 a2 M = some q) : Con w 8 yX12_chooses cX12_chooses 5 none [.ref (wB w + pz (a0)), .int a1, .int a2] M (encV q) := con_X12_chooses_f 5 a0 a1 a2 M q h_a0 hq
set_option maxHeartbeats 4000000 in
set_option maxRecDepth 100000 in
theorem cl_X12_round_17 {w : Wp} {X : Cx} {Q : State → Prop} {ρ : Mm} (G : Good w X cX12_round 2 RX12 none 9) (hQ : Q = MQ (xL X) (Qd w (encV ρ)) (xA X) (xS X) (xk X) (xs X) (Aw w)) (kE45 : Mm → Option (Mm)) {a0 : Nat} (h_a0 : lay a0 = (5, 12)) (hE45 : ∀ (Mz : Mm), Cov w X Q ρ some 2 45 [(0, .ref (wB w + pz (a0)))] [] Mz (kE45 Mz)) : ∀ (n : Nat) (l1_1 : Int32) (M3 : Mm), Cov w X Q ρ some 2 17 [(0, .ref (wB w + pz (a0))), (1, .int l1_1)] [] M3 (L_X12_round_17 kE45 a0 n l1_1 M3) := by
  intro n
  induction n with
  | zero => intro l1_1 M3; exact c_none
  | succ n ih =>
    intro l1_1 M3
    rw [L_X12_round_17]
    refine c_iload_n G dX12_round_17 rfl 1 rfl ?_
    refine c_aload_n G dX12_round_18 rfl 0 rfl ?_
    refine c_getF G fl_X12_13 h_a0 rfl dX12_round_19 ?_
    refine c_iconst G (nI 0) dX12_round_22 kI_0 ?_
    refine c_iald G (lf h_a0 1 rfl) dX12_round_23 (fun v1 _ => ?_)
    refine c_icmp_ge (tgt := 45) G dX12_round_24 (by decide) (fun _ => ?_) (fun _ => ?_)
    · skip
      exact c_weak _ [0] rfl (hE45 M3)
    · skip
      refine c_aload_n G dX12_round_27 rfl 0 rfl ?_
      refine c_getF G fl_X12_69 h_a0 rfl dX12_round_28 ?_
      refine c_iload_n G dX12_round_31 rfl 1 rfl ?_
      refine c_aload_n G dX12_round_32 rfl 0 rfl ?_
      refine c_getF G fl_X12_66 h_a0 rfl dX12_round_33 ?_
      refine c_iload_n G dX12_round_36 rfl 1 rfl ?_
      refine c_iald G (lf h_a0 36 rfl) dX12_round_37 (fun v2 _ => ?_)
      refine c_iast G (lf h_a0 37 rfl) dX12_round_38 (fun M4 _ => ?_)
      refine c_iinc G (fun y__ => [(1, .int y__), (0, .ref (wB w + pz (a0)))]) dX12_round_39 1 rfl kI_1 (by decide) (fun _ => rfl) (fun l1_2 _ => ?_)
      refine c_goto (tgt := 17) G dX12_round_42 (by decide) ?_
      exact c_weak _ [1, 0] rfl (ih l1_2 M4)
set_option maxHeartbeats 4000000 in
set_option maxRecDepth 100000 in
theorem cl_X12_round_47 {w : Wp} {X : Cx} {Q : State → Prop} {ρ : Mm} (G : Good w X cX12_round 2 RX12 none 9) (hQ : Q = MQ (xL X) (Qd w (encV ρ)) (xA X) (xS X) (xk X) (xs X) (Aw w)) {a0 : Nat} {N : Nat} (h_a0 : lay a0 = (5, 12)) : ∀ (n : Nat) (l1_3 : Int32) (M6 : Mm), Cov w X Q ρ some 2 47 [(0, .ref (wB w + pz (a0))), (1, .int l1_3)] [] M6 (L_X12_round_47 a0 N n l1_3 M6) := by
  intro n
  induction n with
  | zero => intro l1_3 M6; exact c_none
  | succ n ih =>
    intro l1_3 M6
    rw [L_X12_round_47]
    refine c_iload_n G dX12_round_47 rfl 1 rfl ?_
    refine c_aload_n G dX12_round_48 rfl 0 rfl ?_
    refine c_getF G fl_X12_13 h_a0 rfl dX12_round_49 ?_
    refine c_iconst G (nI 1) dX12_round_52 kI_1 ?_
    refine c_iald G (lf h_a0 1 rfl) dX12_round_53 (fun v3 _ => ?_)
    refine c_icmp_ge (tgt := 102) G dX12_round_54 (by decide) (fun _ => ?_) (fun _ => ?_)
    · skip
      exact c_vret G hQ dX12_round_102
    · skip
      refine c_aload_n G dX12_round_57 rfl 0 rfl ?_
      refine c_getF G fl_X12_13 h_a0 rfl dX12_round_58 ?_
      refine c_bipush G (nI 32) dX12_round_61 kB_32 ?_
      refine c_iload_n G dX12_round_63 rfl 1 rfl ?_
      refine c_iadd G dX12_round_64 ?_
      refine c_iald G (lf h_a0 1 rfl) dX12_round_65 (fun v4 _ => ?_)
      refine c_bj (ej := fun (p74 : Int32) => [(0, .ref (wB w + pz (a0))), (1, .int l1_3)]) (sj := fun p74 => [.int p74]) (mj := fun p74 => M6) (pj := 74) (fun p74 => ?_) (fun F hJ74 => ?_)
      · skip
        refine c_aload_n G dX12_round_74 rfl 0 rfl ?_
        refine c_getI G fl_X12_429 h_a0 rfl dX12_round_75 ?_
        refine c_iconst G (nI 1) dX12_round_78 kI_1 ?_
        refine c_bj (ej := fun (p87 : Int32) => [(0, .ref (wB w + pz (a0))), (1, .int l1_3)]) (sj := fun p87 => [.int p87, .int p74]) (mj := fun p87 => M6) (pj := 87) (fun p87 => ?_) (fun F hJ87 => ?_)
        · skip
          refine c_icmp_ne (tgt := 96) G dX12_round_87 (by decide) (fun _ => ?_) (fun _ => ?_)
          · skip
            refine c_aload_n G dX12_round_90 rfl 0 rfl ?_
            refine c_iload_n G dX12_round_91 rfl 1 rfl ?_
            refine c_iconst G (nI 1) dX12_round_92 kI_1 ?_
            refine c_callV_V (d := 8) (rest := []) G [.int l1_3, .int (nI 1)] yv_X12_chooses ml_X12_438 (by omega) (by decide) rfl rfl (Nat.le_of_ble_eq_true rfl) h_a0 (fun q hq => con_X12_chooses h_a0 hq) dX12_round_93 (fun M7 _ => ?_)
            refine c_iinc G (fun y__ => [(1, .int y__), (0, .ref (wB w + pz (a0)))]) dX12_round_96 1 rfl kI_1 (by decide) (fun _ => rfl) (fun l1_4 _ => ?_)
            refine c_goto (tgt := 47) G dX12_round_99 (by decide) ?_
            exact c_weak _ [1, 0] rfl (ih l1_4 M7)
          · skip
            refine c_iinc G (fun y__ => [(1, .int y__), (0, .ref (wB w + pz (a0)))]) dX12_round_96 1 rfl kI_1 (by decide) (fun _ => rfl) (fun l1_5 _ => ?_)
            refine c_goto (tgt := 47) G dX12_round_99 (by decide) ?_
            exact c_weak _ [1, 0] rfl (ih l1_5 M6)
        · skip
          refine c_icmp_ne (tgt := 86) G dX12_round_79 (by decide) (fun _ => ?_) (fun _ => ?_)
          · skip
            refine c_iconst G (nI 1) dX12_round_82 kI_1 ?_
            refine c_goto (tgt := 87) G dX12_round_83 (by decide) ?_
            exact c_weak _ [0, 1] rfl (hJ87 (nI 1))
          · skip
            refine c_iconst G (nI 0) dX12_round_86 kI_0 ?_
            exact c_weak _ [0, 1] rfl (hJ87 (nI 0))
      · skip
        refine c_if_ne (tgt := 73) G dX12_round_66 (by decide) (fun _ => ?_) (fun _ => ?_)
        · skip
          refine c_iconst G (nI 1) dX12_round_69 kI_1 ?_
          refine c_goto (tgt := 74) G dX12_round_70 (by decide) ?_
          exact c_weak _ [0, 1] rfl (hJ74 (nI 1))
        · skip
          refine c_iconst G (nI 0) dX12_round_73 kI_0 ?_
          exact c_weak _ [0, 1] rfl (hJ74 (nI 0))
set_option maxHeartbeats 4000000 in
set_option maxRecDepth 100000 in
theorem con_X12_round {w : Wp} {N : Nat} {a0 : Nat} {M : Mm} {q : Mm} (h_a0 : lay a0 = (5, 12)) (hq : D_X12_round N a0 M = some q) : Con w 9 yX12_round cX12_round 2 none [.ref (wB w + pz (a0))] M (encV q) := by
  refine Con.of encV q _ hq (by decide) (Nat.le_of_ble_eq_true rfl) ?_
  intro X G Q hQ
  have G : Good w X cX12_round 2 RX12 none 9 := G
  refine c_weak [(0, .ref (wB w + pz (a0)))] [0] rfl ?_
  rw [D_X12_round]
  refine c_aload_n G dX12_round_0 rfl 0 rfl ?_
  refine c_dup G dX12_round_1 rfl ?_
  refine c_getI G fl_X12_429 h_a0 rfl dX12_round_2 ?_
  refine c_iconst G (nI 1) dX12_round_5 kI_1 ?_
  refine c_iadd G dX12_round_6 ?_
  refine c_putI G fp_X12_429 h_a0 rfl dX12_round_7 (fun M1 _ => ?_)
  refine c_aload_n G dX12_round_10 rfl 0 rfl ?_
  refine c_iconst G (nI 0) dX12_round_11 kI_0 ?_
  refine c_putZ G fp_X12_420 h_a0 rfl dX12_round_12 (fun M2 _ => ?_)
  refine c_iconst G (nI 0) dX12_round_15 kI_0 ?_
  refine c_istore_n G [(1, .int (nI 0)), (0, .ref (wB w + pz (a0)))] dX12_round_16 rfl (by decide) rfl ?_
  refine c_weak _ [1, 0] rfl (cl_X12_round_17 G hQ _ h_a0 ?_ N (nI 0) M2)
  · intro M5
    refine c_iconst G (nI 0) dX12_round_45 kI_0 ?_
    refine c_istore_n G [(1, .int (nI 0)), (0, .ref (wB w + pz (a0)))] dX12_round_46 rfl (by decide) rfl ?_
    refine c_weak _ [1, 0] rfl (cl_X12_round_47 G hQ  h_a0 N (nI 0) M5)
set_option maxHeartbeats 4000000 in
set_option maxRecDepth 100000 in
theorem cl_X12_seeks_2 {w : Wp} {X : Cx} {Q : State → Prop} {ρ : Mm} (G : Good w X cX12_seeks 3 RX12 none 10) (hQ : Q = MQ (xL X) (Qd w (encV ρ)) (xA X) (xS X) (xk X) (xs X) (Aw w)) (kE21 : Mm → Option (Mm)) {a0 : Nat} {a1 : Int32} (h_a0 : lay a0 = (5, 12)) (hE21 : ∀ (Mz : Mm), Cov w X Q ρ some 3 21 [(0, .ref (wB w + pz (a0))), (1, .int a1)] [] Mz (kE21 Mz)) : ∀ (n : Nat) (l2_1 : Int32) (M1 : Mm), Cov w X Q ρ some 3 2 [(0, .ref (wB w + pz (a0))), (1, .int a1), (2, .int l2_1)] [] M1 (L_X12_seeks_2 kE21 a0 n l2_1 M1) := by
  intro n
  induction n with
  | zero => intro l2_1 M1; exact c_none
  | succ n ih =>
    intro l2_1 M1
    rw [L_X12_seeks_2]
    refine c_iload_n G dX12_seeks_2 rfl 2 rfl ?_
    refine c_bipush G (nI 8) dX12_seeks_3 kB_8 ?_
    refine c_icmp_ge (tgt := 21) G dX12_seeks_5 (by decide) (fun _ => ?_) (fun _ => ?_)
    · skip
      exact c_weak _ [0, 1] rfl (hE21 M1)
    · skip
      refine c_aload_n G dX12_seeks_8 rfl 0 rfl ?_
      refine c_getF G fl_X12_66 h_a0 rfl dX12_seeks_9 ?_
      refine c_iload_n G dX12_seeks_12 rfl 2 rfl ?_
      refine c_iconst G (nI 0) dX12_seeks_13 kI_0 ?_
      refine c_iast G (lf h_a0 36 rfl) dX12_seeks_14 (fun M2 _ => ?_)
      refine c_iinc G (fun y__ => [(2, .int y__), (0, .ref (wB w + pz (a0))), (1, .int a1)]) dX12_seeks_15 2 rfl kI_1 (by decide) (fun _ => rfl) (fun l2_2 _ => ?_)
      refine c_goto (tgt := 2) G dX12_seeks_18 (by decide) ?_
      exact c_weak _ [1, 2, 0] rfl (ih l2_2 M2)
set_option maxHeartbeats 4000000 in
set_option maxRecDepth 100000 in
theorem cl_X12_seeks_36 {w : Wp} {X : Cx} {Q : State → Prop} {ρ : Mm} (G : Good w X cX12_seeks 3 RX12 none 10) (hQ : Q = MQ (xL X) (Qd w (encV ρ)) (xA X) (xS X) (xk X) (xs X) (Aw w)) {N : Nat} {a0 : Nat} {a1 : Int32} (h_a0 : lay a0 = (5, 12)) : ∀ (n : Nat) (M7 : Mm), Cov w X Q ρ some 3 36 [(0, .ref (wB w + pz (a0))), (1, .int a1)] [] M7 (L_X12_seeks_36 N a0 a1 n M7) := by
  intro n
  induction n with
  | zero => intro M7; exact c_none
  | succ n ih =>
    intro M7
    rw [L_X12_seeks_36]
    refine c_aload_n G dX12_seeks_36 rfl 0 rfl ?_
    refine c_callV_V (d := 9) (rest := []) G [] yv_X12_round ml_X12_441 (by omega) (by decide) rfl rfl (Nat.le_of_ble_eq_true rfl) h_a0 (fun q hq => con_X12_round h_a0 hq) dX12_seeks_37 (fun M8 _ => ?_)
    refine c_aload_n G dX12_seeks_40 rfl 0 rfl ?_
    refine c_getI G fl_X12_420 h_a0 rfl dX12_seeks_41 ?_
    refine c_if_eq (tgt := 65) G dX12_seeks_44 (by decide) (fun _ => ?_) (fun _ => ?_)
    · skip
      exact c_vret G hQ dX12_seeks_65
    · skip
      refine c_aload_n G dX12_seeks_47 rfl 0 rfl ?_
      refine c_getI G fl_X12_423 h_a0 rfl dX12_seeks_48 ?_
      refine c_if_ne (tgt := 65) G dX12_seeks_51 (by decide) (fun _ => ?_) (fun _ => ?_)
      · skip
        refine c_iload_n G dX12_seeks_54 rfl 1 rfl ?_
        refine c_if_eq (tgt := 36) G dX12_seeks_55 (by decide) (fun _ => ?_) (fun _ => ?_)
        · skip
          exact c_weak _ [0, 1] rfl (ih M8)
        · skip
          refine c_aload_n G dX12_seeks_58 rfl 0 rfl ?_
          refine c_getI G fl_X12_426 h_a0 rfl dX12_seeks_59 ?_
          refine c_if_le (tgt := 36) G dX12_seeks_62 (by decide) (fun _ => ?_) (fun _ => ?_)
          · skip
            exact c_weak _ [0, 1] rfl (ih M8)
          · skip
            exact c_vret G hQ dX12_seeks_65
      · skip
        exact c_vret G hQ dX12_seeks_65
set_option maxHeartbeats 4000000 in
set_option maxRecDepth 100000 in
theorem con_X12_seeks {w : Wp} {N : Nat} {a0 : Nat} {a1 : Int32} {M : Mm} {q : Mm} (h_a0 : lay a0 = (5, 12)) (hq : D_X12_seeks N a0 a1 M = some q) : Con w 10 yX12_seeks cX12_seeks 3 none [.ref (wB w + pz (a0)), .int a1] M (encV q) := by
  refine Con.of encV q _ hq (by decide) (Nat.le_of_ble_eq_true rfl) ?_
  intro X G Q hQ
  have G : Good w X cX12_seeks 3 RX12 none 10 := G
  refine c_weak [(0, .ref (wB w + pz (a0))), (1, .int a1)] [0, 1] rfl ?_
  rw [D_X12_seeks]
  refine c_iconst G (nI 0) dX12_seeks_0 kI_0 ?_
  refine c_istore_n G [(2, .int (nI 0)), (0, .ref (wB w + pz (a0))), (1, .int a1)] dX12_seeks_1 rfl (by decide) rfl ?_
  refine c_weak _ [1, 2, 0] rfl (cl_X12_seeks_2 G hQ _ h_a0 ?_ N (nI 0) M)
  · intro M3
    refine c_aload_n G dX12_seeks_21 rfl 0 rfl ?_
    refine c_iconst G (nI 0) dX12_seeks_22 kI_0 ?_
    refine c_putI G fp_X12_429 h_a0 rfl dX12_seeks_23 (fun M4 _ => ?_)
    refine c_aload_n G dX12_seeks_26 rfl 0 rfl ?_
    refine c_iconst G (nI 0) dX12_seeks_27 kI_0 ?_
    refine c_putI G fp_X12_426 h_a0 rfl dX12_seeks_28 (fun M5 _ => ?_)
    refine c_aload_n G dX12_seeks_31 rfl 0 rfl ?_
    refine c_iconst G (nI 0) dX12_seeks_32 kI_0 ?_
    refine c_putZ G fp_X12_423 h_a0 rfl dX12_seeks_33 (fun M6 _ => ?_)
    refine c_weak _ [0, 1] rfl (cl_X12_seeks_36 G hQ  h_a0 N M6)
set_option maxHeartbeats 4000000 in
set_option maxRecDepth 100000 in
theorem cl_X12_knots_4 {w : Wp} {M : Mm} {X : Cx} {Q : State → Prop} {ρ : Int32} (G : Good w X cX12_knots 3 RX12 (some .int) 0) (hQ : Q = MQ (xL X) (Qd w ((encPI M) ρ)) (xA X) (xS X) (xk X) (xs X) (Aw w)) {a0 : Nat} (h_a0 : lay a0 = (5, 12)) : ∀ (n : Nat) (l1_1 : Int32) (l2_1 : Int32), Cov w X Q ρ some 3 4 [(0, .ref (wB w + pz (a0))), (1, .int l1_1), (2, .int l2_1)] [] M (L_X12_knots_4 a0 M n l1_1 l2_1) := by
  intro n
  induction n with
  | zero => intro l1_1 l2_1; exact c_none
  | succ n ih =>
    intro l1_1 l2_1
    rw [L_X12_knots_4]
    refine c_iload_n G dX12_knots_4 rfl 2 rfl ?_
    refine c_sipush G (nI 320) dX12_knots_5 kS_320 ?_
    refine c_icmp_ge (tgt := 44) G dX12_knots_8 (by decide) (fun _ => ?_) (fun _ => ?_)
    · skip
      refine c_iload_n G dX12_knots_44 rfl 1 rfl ?_
      exact c_iretP G hQ dX12_knots_45
    · skip
      refine c_iload_n G dX12_knots_11 rfl 1 rfl ?_
      refine c_aload_n G dX12_knots_12 rfl 0 rfl ?_
      refine c_getF G fl_X12_126 h_a0 rfl dX12_knots_13 ?_
      refine c_iload_n G dX12_knots_16 rfl 2 rfl ?_
      refine c_zald G (lf h_a0 66 rfl) dX12_knots_17 (fun v1 _ => ?_)
      refine c_jn (ej := fun (p35 : Unit) => [(0, .ref (wB w + pz (a0))), (2, .int l2_1)]) (sj := fun p35 => [.int l1_1]) (mj := fun p35 => M) (pj := 35) (fun p35 => ?_) (fun J1 hJ35 => ?_)
      · skip
        refine c_iconst G (nI 0) dX12_knots_35 kI_0 ?_
        refine c_iadd G dX12_knots_36 ?_
        refine c_let (fun l1_2 _ => ?_)
        refine c_istore_n G [(1, .int l1_2), (0, .ref (wB w + pz (a0))), (2, .int l2_1)] dX12_knots_37 rfl (by decide) rfl ?_
        refine c_iinc G (fun y__ => [(2, .int y__), (1, .int l1_2), (0, .ref (wB w + pz (a0)))]) dX12_knots_38 2 rfl kI_1 (by decide) (fun _ => rfl) (fun l2_2 _ => ?_)
        refine c_goto (tgt := 4) G dX12_knots_41 (by decide) ?_
        exact c_weak _ [2, 1, 0] rfl (ih l1_2 l2_2)
      · skip
        refine c_if_eq (tgt := 35) G dX12_knots_18 (by decide) (fun _ => ?_) (fun _ => ?_)
        · skip
          exact c_weak _ [0, 2] rfl (hJ35 ())
        · skip
          refine c_aload_n G dX12_knots_21 rfl 0 rfl ?_
          refine c_getF G fl_X12_105 h_a0 rfl dX12_knots_22 ?_
          refine c_iload_n G dX12_knots_25 rfl 2 rfl ?_
          refine c_iald G (lf h_a0 59 rfl) dX12_knots_26 (fun v2 _ => ?_)
          refine c_iload_n G dX12_knots_27 rfl 2 rfl ?_
          refine c_icmp_ne (tgt := 35) G dX12_knots_28 (by decide) (fun _ => ?_) (fun _ => ?_)
          · skip
            refine c_iconst G (nI 1) dX12_knots_31 kI_1 ?_
            refine c_goto (tgt := 36) G dX12_knots_32 (by decide) ?_
            refine c_iadd G dX12_knots_36 ?_
            refine c_let (fun l1_3 _ => ?_)
            refine c_istore_n G [(1, .int l1_3), (0, .ref (wB w + pz (a0))), (2, .int l2_1)] dX12_knots_37 rfl (by decide) rfl ?_
            refine c_iinc G (fun y__ => [(2, .int y__), (1, .int l1_3), (0, .ref (wB w + pz (a0)))]) dX12_knots_38 2 rfl kI_1 (by decide) (fun _ => rfl) (fun l2_3 _ => ?_)
            refine c_goto (tgt := 4) G dX12_knots_41 (by decide) ?_
            exact c_weak _ [2, 1, 0] rfl (ih l1_3 l2_3)
          · skip
            exact c_weak _ [0, 2] rfl (hJ35 ())
set_option maxHeartbeats 4000000 in
set_option maxRecDepth 100000 in
theorem con_X12_knots {w : Wp} {N : Nat} {a0 : Nat} {M : Mm} {q : Int32} (h_a0 : lay a0 = (5, 12)) (hq : D_X12_knots N a0 M = some q) : Con w 0 yX12_knots cX12_knots 3 (some .int) [.ref (wB w + pz (a0))] M ((encPI M) q) := by
  refine Con.of (encPI M) q _ hq (by decide) (Nat.le_of_ble_eq_true rfl) ?_
  intro X G Q hQ
  have G : Good w X cX12_knots 3 RX12 (some .int) 0 := G
  refine c_weak [(0, .ref (wB w + pz (a0)))] [0] rfl ?_
  rw [D_X12_knots]
  refine c_iconst G (nI 0) dX12_knots_0 kI_0 ?_
  refine c_istore_n G [(1, .int (nI 0)), (0, .ref (wB w + pz (a0)))] dX12_knots_1 rfl (by decide) rfl ?_
  refine c_iconst G (nI 0) dX12_knots_2 kI_0 ?_
  refine c_istore_n G [(2, .int (nI 0)), (1, .int (nI 0)), (0, .ref (wB w + pz (a0)))] dX12_knots_3 rfl (by decide) rfl ?_
  refine c_weak _ [2, 1, 0] rfl (cl_X12_knots_4 G hQ  h_a0 N (nI 0) (nI 0))
set_option maxHeartbeats 4000000 in
set_option maxRecDepth 100000 in
theorem con_X12_many {w : Wp} {N : Nat} {a0 : Nat} {a1 : Int32} {M : Mm} {q : Int32 × Mm} (h_a0 : lay a0 = (5, 12)) (hq : D_X12_many N a0 a1 M = some q) : Con w 1 yX12_many cX12_many 2 (some .int) [.ref (wB w + pz (a0)), .int a1] M (encI q) := by
  refine Con.of encI q _ hq (by decide) (Nat.le_of_ble_eq_true rfl) ?_
  intro X G Q hQ
  have G : Good w X cX12_many 2 RX12 (some .int) 1 := G
  refine c_weak [(0, .ref (wB w + pz (a0))), (1, .int a1)] [0, 1] rfl ?_
  rw [D_X12_many]
  refine c_iload_n G dX12_many_0 rfl 1 rfl ?_
  refine c_iconst G (nI 0) dX12_many_1 kI_0 ?_
  refine c_iconst G (nI 4) dX12_many_2 kI_4 ?_
  refine c_callS_PI (d := 0) (rest := []) G [.int a1, .int (nI 0), .int (nI 4)] ys_X12_isFrom ml_X12_246 (by omega) (by decide) rfl rfl (Nat.le_of_ble_eq_true rfl) (fun q hq => con_X12_isFrom hq) dX12_many_3 (fun q1 _ => ?_)
  refine c_if_ne (tgt := 15) G dX12_many_6 (by decide) (fun _ => ?_) (fun _ => ?_)
  · skip
    refine c_aload_n G dX12_many_9 rfl 0 rfl ?_
    refine c_iconst G (nI 1) dX12_many_10 kI_1 ?_
    refine c_callV_I (d := 0) (rest := []) G [.int (nI 1)] yv_X12_refuse ml_X12_305 (by omega) (by decide) rfl rfl (Nat.le_of_ble_eq_true rfl) h_a0 (fun q hq => con_X12_refuse h_a0 hq) dX12_many_11 (fun q2 _ => ?_)
    exact c_iret G hQ dX12_many_14
  · skip
    refine c_iload_n G dX12_many_15 rfl 1 rfl ?_
    refine c_iconst G (nI 4) dX12_many_16 kI_4 ?_
    refine c_icmp_ne (tgt := 44) G dX12_many_17 (by decide) (fun _ => ?_) (fun _ => ?_)
    · skip
      refine c_aload_n G dX12_many_20 rfl 0 rfl ?_
      refine c_getI G fl_X12_322 h_a0 rfl dX12_many_21 ?_
      refine c_if_ne (tgt := 35) G dX12_many_24 (by decide) (fun _ => ?_) (fun _ => ?_)
      · skip
        refine c_aload_n G dX12_many_27 rfl 0 rfl ?_
        refine c_iconst G (nI 3) dX12_many_28 kI_3 ?_
        refine c_callV_I (d := 0) (rest := []) G [.int (nI 3)] yv_X12_refuse ml_X12_305 (by omega) (by decide) rfl rfl (Nat.le_of_ble_eq_true rfl) h_a0 (fun q hq => con_X12_refuse h_a0 hq) dX12_many_29 (fun q3 _ => ?_)
        refine c_goto (tgt := 43) G dX12_many_32 (by decide) ?_
        exact c_iret G hQ dX12_many_43
      · skip
        refine c_aload_n G dX12_many_35 rfl 0 rfl ?_
        refine c_aload_n G dX12_many_36 rfl 0 rfl ?_
        refine c_callV_PI (d := 0) (rest := [.ref (wB w + pz (a0))]) G [] yv_X12_knots ml_X12_444 (by omega) (by decide) rfl rfl (Nat.le_of_ble_eq_true rfl) h_a0 (fun q hq => con_X12_knots h_a0 hq) dX12_many_37 (fun q4 _ => ?_)
        refine c_callV_I (d := 0) (rest := []) G [.int q4] yv_X12_gives ml_X12_328 (by omega) (by decide) rfl rfl (Nat.le_of_ble_eq_true rfl) h_a0 (fun q hq => con_X12_gives h_a0 hq) dX12_many_40 (fun q5 _ => ?_)
        exact c_iret G hQ dX12_many_43
    · skip
      refine c_iload_n G dX12_many_44 rfl 1 rfl ?_
      refine c_iconst G (nI 3) dX12_many_45 kI_3 ?_
      refine c_icmp_ne (tgt := 58) G dX12_many_46 (by decide) (fun _ => ?_) (fun _ => ?_)
      · skip
        refine c_aload_n G dX12_many_49 rfl 0 rfl ?_
        refine c_aload_n G dX12_many_50 rfl 0 rfl ?_
        refine c_getI G fl_X12_322 h_a0 rfl dX12_many_51 ?_
        refine c_callV_I (d := 0) (rest := []) G [.int (M.1 a0 50)] yv_X12_gives ml_X12_328 (by omega) (by decide) rfl rfl (Nat.le_of_ble_eq_true rfl) h_a0 (fun q hq => con_X12_gives h_a0 hq) dX12_many_54 (fun q6 _ => ?_)
        exact c_iret G hQ dX12_many_57
      · skip
        refine c_aload_n G dX12_many_58 rfl 0 rfl ?_
        refine c_aload_n G dX12_many_59 rfl 0 rfl ?_
        refine c_getI G fl_X12_318 h_a0 rfl dX12_many_60 ?_
        refine c_if_eq (tgt := 75) G dX12_many_63 (by decide) (fun _ => ?_) (fun _ => ?_)
        · skip
          refine c_iconst G (nI 0) dX12_many_75 kI_0 ?_
          refine c_callV_I (d := 0) (rest := []) G [.int (nI 0)] yv_X12_gives ml_X12_328 (by omega) (by decide) rfl rfl (Nat.le_of_ble_eq_true rfl) h_a0 (fun q hq => con_X12_gives h_a0 hq) dX12_many_76 (fun q7 _ => ?_)
          exact c_iret G hQ dX12_many_79
        · skip
          refine c_aload_n G dX12_many_66 rfl 0 rfl ?_
          refine c_getF G fl_X12_13 h_a0 rfl dX12_many_67 ?_
          refine c_iload_n G dX12_many_70 rfl 1 rfl ?_
          refine c_iald G (lf h_a0 1 rfl) dX12_many_71 (fun v1 _ => ?_)
          refine c_goto (tgt := 76) G dX12_many_72 (by decide) ?_
          refine c_callV_I (d := 0) (rest := []) G [.int v1] yv_X12_gives ml_X12_328 (by omega) (by decide) rfl rfl (Nat.le_of_ble_eq_true rfl) h_a0 (fun q hq => con_X12_gives h_a0 hq) dX12_many_76 (fun q8 _ => ?_)
          exact c_iret G hQ dX12_many_79
set_option maxHeartbeats 4000000 in
set_option maxRecDepth 100000 in
theorem cl_X12_symbol_66 {w : Wp} {X : Cx} {Q : State → Prop} {ρ : Int32 × Mm} (G : Good w X cX12_symbol 5 RX12 (some .int) 5) (hQ : Q = MQ (xL X) (Qd w (encI ρ)) (xA X) (xS X) (xk X) (xs X) (Aw w)) {a0 : Nat} {M : Mm} {N : Nat} {a1 : Int32} (h_a0 : lay a0 = (5, 12)) : ∀ (n : Nat) (l3_1 : Int32) (l4_1 : Int32), Cov w X Q ρ some 5 66 [(0, .ref (wB w + pz (a0))), (1, .int a1), (3, .int l3_1), (4, .int l4_1)] [] M (L_X12_symbol_66 a0 M N a1 n l3_1 l4_1) := by
  intro n
  induction n with
  | zero => intro l3_1 l4_1; exact c_none
  | succ n ih =>
    intro l3_1 l4_1
    rw [L_X12_symbol_66]
    refine c_iload G dX12_symbol_66 3 rfl ?_
    refine c_aload_n G dX12_symbol_68 rfl 0 rfl ?_
    refine c_getF G fl_X12_13 h_a0 rfl dX12_symbol_69 ?_
    refine c_iconst G (nI 1) dX12_symbol_72 kI_1 ?_
    refine c_iald G (lf h_a0 1 rfl) dX12_symbol_73 (fun v1 _ => ?_)
    refine c_icmp_ge (tgt := 105) G dX12_symbol_74 (by decide) (fun _ => ?_) (fun _ => ?_)
    · skip
      refine c_aload_n G dX12_symbol_105 rfl 0 rfl ?_
      refine c_iload_n G dX12_symbol_106 rfl 2 rfl ?_
      refine c_callV_I (d := 0) (rest := []) G [.int l3_1] yv_X12_gives ml_X12_328 (by omega) (by decide) rfl rfl (Nat.le_of_ble_eq_true rfl) h_a0 (fun q hq => con_X12_gives h_a0 hq) dX12_symbol_107 (fun q5 _ => ?_)
      exact c_iret G hQ dX12_symbol_110
    · skip
      refine c_iload_n G dX12_symbol_77 rfl 2 rfl ?_
      refine c_aload_n G dX12_symbol_78 rfl 0 rfl ?_
      refine c_getF G fl_X12_13 h_a0 rfl dX12_symbol_79 ?_
      refine c_bipush G (nI 20) dX12_symbol_82 kB_20 ?_
      refine c_iload G dX12_symbol_84 3 rfl ?_
      refine c_iadd G dX12_symbol_86 ?_
      refine c_iald G (lf h_a0 1 rfl) dX12_symbol_87 (fun v2 _ => ?_)
      refine c_iload_n G dX12_symbol_88 rfl 1 rfl ?_
      refine c_icmp_ne (tgt := 96) G dX12_symbol_89 (by decide) (fun _ => ?_) (fun _ => ?_)
      · skip
        refine c_iconst G (nI 1) dX12_symbol_92 kI_1 ?_
        refine c_goto (tgt := 97) G dX12_symbol_93 (by decide) ?_
        refine c_iadd G dX12_symbol_97 ?_
        refine c_let (fun l3_2 _ => ?_)
        refine c_istore_n G [(3, .int l3_2), (0, .ref (wB w + pz (a0))), (1, .int a1), (4, .int l4_1)] dX12_symbol_98 rfl (by decide) rfl ?_
        refine c_iinc G (fun y__ => [(4, .int y__), (3, .int l3_2), (0, .ref (wB w + pz (a0))), (1, .int a1)]) dX12_symbol_99 3 rfl kI_1 (by decide) (fun _ => rfl) (fun l4_2 _ => ?_)
        refine c_goto (tgt := 66) G dX12_symbol_102 (by decide) ?_
        exact c_weak _ [2, 3, 1, 0] rfl (ih l3_2 l4_2)
      · skip
        refine c_iconst G (nI 0) dX12_symbol_96 kI_0 ?_
        refine c_iadd G dX12_symbol_97 ?_
        refine c_let (fun l3_3 _ => ?_)
        refine c_istore_n G [(3, .int l3_3), (0, .ref (wB w + pz (a0))), (1, .int a1), (4, .int l4_1)] dX12_symbol_98 rfl (by decide) rfl ?_
        refine c_iinc G (fun y__ => [(4, .int y__), (3, .int l3_3), (0, .ref (wB w + pz (a0))), (1, .int a1)]) dX12_symbol_99 3 rfl kI_1 (by decide) (fun _ => rfl) (fun l4_3 _ => ?_)
        refine c_goto (tgt := 66) G dX12_symbol_102 (by decide) ?_
        exact c_weak _ [2, 3, 1, 0] rfl (ih l3_3 l4_3)
set_option maxHeartbeats 4000000 in
set_option maxRecDepth 100000 in
theorem con_X12_symbol {w : Wp} {N : Nat} {a0 : Nat} {a1 : Int32} {a2 : Int32} {M : Mm} {q : Int32 × Mm} (h_a0 : lay a0 = (5, 12)) (hq : D_X12_symbol N a0 a1 a2 M = some q) : Con w 5 yX12_symbol cX12_symbol 5 (some .int) [.ref (wB w + pz (a0)), .int a1, .int a2] M (encI q) := by
  refine Con.of encI q _ hq (by decide) (Nat.le_of_ble_eq_true rfl) ?_
  intro X G Q hQ
  have G : Good w X cX12_symbol 5 RX12 (some .int) 5 := G
  refine c_weak [(0, .ref (wB w + pz (a0))), (1, .int a1), (2, .int a2)] [0, 1, 2] rfl ?_
  rw [D_X12_symbol]
  refine c_iload_n G dX12_symbol_0 rfl 2 rfl ?_
  refine c_iconst G (nI 0) dX12_symbol_1 kI_0 ?_
  refine c_iconst G (nI 3) dX12_symbol_2 kI_3 ?_
  refine c_callS_PI (d := 0) (rest := []) G [.int a2, .int (nI 0), .int (nI 3)] ys_X12_isFrom ml_X12_246 (by omega) (by decide) rfl rfl (Nat.le_of_ble_eq_true rfl) (fun q hq => con_X12_isFrom hq) dX12_symbol_3 (fun q1 _ => ?_)
  refine c_if_ne (tgt := 15) G dX12_symbol_6 (by decide) (fun _ => ?_) (fun _ => ?_)
  · skip
    refine c_aload_n G dX12_symbol_9 rfl 0 rfl ?_
    refine c_iconst G (nI 1) dX12_symbol_10 kI_1 ?_
    refine c_callV_I (d := 0) (rest := []) G [.int (nI 1)] yv_X12_refuse ml_X12_305 (by omega) (by decide) rfl rfl (Nat.le_of_ble_eq_true rfl) h_a0 (fun q hq => con_X12_refuse h_a0 hq) dX12_symbol_11 (fun q2 _ => ?_)
    exact c_iret G hQ dX12_symbol_14
  · skip
    refine c_aload_n G dX12_symbol_15 rfl 0 rfl ?_
    refine c_iload_n G dX12_symbol_16 rfl 1 rfl ?_
    refine c_callV_PI (d := 1) (rest := []) G [.int a1] yv_X12_isSymbol ml_X12_331 (by omega) (by decide) rfl rfl (Nat.le_of_ble_eq_true rfl) h_a0 (fun q hq => con_X12_isSymbol h_a0 hq) dX12_symbol_17 (fun q3 _ => ?_)
    refine c_if_ne (tgt := 29) G dX12_symbol_20 (by decide) (fun _ => ?_) (fun _ => ?_)
    · skip
      refine c_aload_n G dX12_symbol_23 rfl 0 rfl ?_
      refine c_iconst G (nI 4) dX12_symbol_24 kI_4 ?_
      refine c_callV_I (d := 0) (rest := []) G [.int (nI 4)] yv_X12_refuse ml_X12_305 (by omega) (by decide) rfl rfl (Nat.le_of_ble_eq_true rfl) h_a0 (fun q hq => con_X12_refuse h_a0 hq) dX12_symbol_25 (fun q4 _ => ?_)
      exact c_iret G hQ dX12_symbol_28
    · skip
      refine c_iload_n G dX12_symbol_29 rfl 2 rfl ?_
      refine c_iconst G (nI 2) dX12_symbol_30 kI_2 ?_
      refine c_icmp_ge (tgt := 56) G dX12_symbol_31 (by decide) (fun _ => ?_) (fun _ => ?_)
      · skip
        refine c_iload_n G dX12_symbol_56 rfl 2 rfl ?_
        refine c_iconst G (nI 2) dX12_symbol_57 kI_2 ?_
        refine c_icmp_ne (tgt := 111) G dX12_symbol_58 (by decide) (fun _ => ?_) (fun _ => ?_)
        · skip
          refine c_iconst G (nI 0) dX12_symbol_61 kI_0 ?_
          refine c_istore_n G [(3, .int (nI 0)), (0, .ref (wB w + pz (a0))), (1, .int a1), (2, .int a2)] dX12_symbol_62 rfl (by decide) rfl ?_
          refine c_iconst G (nI 0) dX12_symbol_63 kI_0 ?_
          refine c_istore G [(4, .int (nI 0)), (3, .int (nI 0)), (0, .ref (wB w + pz (a0))), (1, .int a1), (2, .int a2)] dX12_symbol_64 (by decide) rfl ?_
          refine c_weak _ [2, 3, 1, 0] rfl (cl_X12_symbol_66 G hQ  h_a0 N (nI 0) (nI 0))
        · skip
          refine c_aload_n G dX12_symbol_111 rfl 0 rfl ?_
          refine c_iload_n G dX12_symbol_112 rfl 1 rfl ?_
          refine c_callV_PI (d := 2) (rest := []) G [.int a1] yv_X12_isSelf ml_X12_359 (by omega) (by decide) rfl rfl (Nat.le_of_ble_eq_true rfl) h_a0 (fun q hq => con_X12_isSelf h_a0 hq) dX12_symbol_113 (fun q6 _ => ?_)
          refine c_if_eq (tgt := 126) G dX12_symbol_116 (by decide) (fun _ => ?_) (fun _ => ?_)
          · skip
            refine c_aload_n G dX12_symbol_126 rfl 0 rfl ?_
            refine c_iload_n G dX12_symbol_127 rfl 1 rfl ?_
            refine c_callV_V (d := 4) (rest := []) G [.int a1] yv_X12_laysVisits ml_X12_386 (by omega) (by decide) rfl rfl (Nat.le_of_ble_eq_true rfl) h_a0 (fun q hq => con_X12_laysVisits h_a0 hq) dX12_symbol_128 (fun M1 _ => ?_)
            refine c_aload_n G dX12_symbol_131 rfl 0 rfl ?_
            refine c_aload_n G dX12_symbol_132 rfl 0 rfl ?_
            refine c_getF G fl_X12_54 h_a0 rfl dX12_symbol_133 ?_
            refine c_iload_n G dX12_symbol_136 rfl 1 rfl ?_
            refine c_iald G (lf h_a0 30 rfl) dX12_symbol_137 (fun v3 _ => ?_)
            refine c_callV_I (d := 0) (rest := []) G [.int v3] yv_X12_gives ml_X12_328 (by omega) (by decide) rfl rfl (Nat.le_of_ble_eq_true rfl) h_a0 (fun q hq => con_X12_gives h_a0 hq) dX12_symbol_138 (fun q7 _ => ?_)
            exact c_iret G hQ dX12_symbol_141
          · skip
            refine c_aload_n G dX12_symbol_119 rfl 0 rfl ?_
            refine c_bipush G (nI 7) dX12_symbol_120 kB_7 ?_
            refine c_callV_I (d := 0) (rest := []) G [.int (nI 7)] yv_X12_refuse ml_X12_305 (by omega) (by decide) rfl rfl (Nat.le_of_ble_eq_true rfl) h_a0 (fun q hq => con_X12_refuse h_a0 hq) dX12_symbol_122 (fun q8 _ => ?_)
            exact c_iret G hQ dX12_symbol_125
      · skip
        refine c_aload_n G dX12_symbol_34 rfl 0 rfl ?_
        refine c_aload_n G dX12_symbol_35 rfl 0 rfl ?_
        refine c_getF G fl_X12_13 h_a0 rfl dX12_symbol_36 ?_
        refine c_iload_n G dX12_symbol_39 rfl 2 rfl ?_
        refine c_if_ne (tgt := 47) G dX12_symbol_40 (by decide) (fun _ => ?_) (fun _ => ?_)
        · skip
          refine c_iconst G (nI 4) dX12_symbol_43 kI_4 ?_
          refine c_goto (tgt := 49) G dX12_symbol_44 (by decide) ?_
          refine c_iload_n G dX12_symbol_49 rfl 1 rfl ?_
          refine c_iadd G dX12_symbol_50 ?_
          refine c_iald G (lf h_a0 1 rfl) dX12_symbol_51 (fun v4 _ => ?_)
          refine c_callV_I (d := 0) (rest := []) G [.int v4] yv_X12_gives ml_X12_328 (by omega) (by decide) rfl rfl (Nat.le_of_ble_eq_true rfl) h_a0 (fun q hq => con_X12_gives h_a0 hq) dX12_symbol_52 (fun q9 _ => ?_)
          exact c_iret G hQ dX12_symbol_55
        · skip
          refine c_bipush G (nI 12) dX12_symbol_47 kB_12 ?_
          refine c_iload_n G dX12_symbol_49 rfl 1 rfl ?_
          refine c_iadd G dX12_symbol_50 ?_
          refine c_iald G (lf h_a0 1 rfl) dX12_symbol_51 (fun v5 _ => ?_)
          refine c_callV_I (d := 0) (rest := []) G [.int v5] yv_X12_gives ml_X12_328 (by omega) (by decide) rfl rfl (Nat.le_of_ble_eq_true rfl) h_a0 (fun q hq => con_X12_gives h_a0 hq) dX12_symbol_52 (fun q10 _ => ?_)
          exact c_iret G hQ dX12_symbol_55
set_option maxHeartbeats 4000000 in
set_option maxRecDepth 100000 in
theorem cl_X12_production_120 {w : Wp} {X : Cx} {Q : State → Prop} {ρ : Int32 × Mm} (G : Good w X cX12_production 5 RX12 (some .int) 2) (hQ : Q = MQ (xL X) (Qd w (encI ρ)) (xA X) (xS X) (xk X) (xs X) (Aw w)) {N : Nat} {a0 : Nat} {M : Mm} {a1 : Int32} (h_a0 : lay a0 = (5, 12)) : ∀ (n : Nat) (l3_1 : Int32) (l4_1 : Int32), Cov w X Q ρ some 5 120 [(0, .ref (wB w + pz (a0))), (1, .int a1), (3, .int l3_1), (4, .int l4_1)] [] M (L_X12_production_120 N a0 M a1 n l3_1 l4_1) := by
  intro n
  induction n with
  | zero => intro l3_1 l4_1; exact c_none
  | succ n ih =>
    intro l3_1 l4_1
    rw [L_X12_production_120]
    refine c_iload G dX12_production_120 3 rfl ?_
    refine c_bipush G (nI 32) dX12_production_122 kB_32 ?_
    refine c_icmp_ge (tgt := 152) G dX12_production_124 (by decide) (fun _ => ?_) (fun _ => ?_)
    · skip
      refine c_aload_n G dX12_production_152 rfl 0 rfl ?_
      refine c_iload_n G dX12_production_153 rfl 2 rfl ?_
      refine c_callV_I (d := 0) (rest := []) G [.int l3_1] yv_X12_gives ml_X12_328 (by omega) (by decide) rfl rfl (Nat.le_of_ble_eq_true rfl) h_a0 (fun q hq => con_X12_gives h_a0 hq) dX12_production_154 (fun q7 _ => ?_)
      exact c_iret G hQ dX12_production_157
    · skip
      refine c_iload_n G dX12_production_127 rfl 2 rfl ?_
      refine c_aload_n G dX12_production_128 rfl 0 rfl ?_
      refine c_getF G fl_X12_13 h_a0 rfl dX12_production_129 ?_
      refine c_sipush G (nI 1232) dX12_production_132 kS_1232 ?_
      refine c_bipush G (nI 32) dX12_production_135 kB_32 ?_
      refine c_iload_n G dX12_production_137 rfl 1 rfl ?_
      refine c_imul G dX12_production_138 ?_
      refine c_iadd G dX12_production_139 ?_
      refine c_iload G dX12_production_140 3 rfl ?_
      refine c_iadd G dX12_production_142 ?_
      refine c_iald G (lf h_a0 1 rfl) dX12_production_143 (fun v3 _ => ?_)
      refine c_iadd G dX12_production_144 ?_
      refine c_let (fun l3_2 _ => ?_)
      refine c_istore_n G [(3, .int l3_2), (0, .ref (wB w + pz (a0))), (1, .int a1), (4, .int l4_1)] dX12_production_145 rfl (by decide) rfl ?_
      refine c_iinc G (fun y__ => [(4, .int y__), (3, .int l3_2), (0, .ref (wB w + pz (a0))), (1, .int a1)]) dX12_production_146 3 rfl kI_1 (by decide) (fun _ => rfl) (fun l4_2 _ => ?_)
      refine c_goto (tgt := 120) G dX12_production_149 (by decide) ?_
      exact c_weak _ [2, 3, 1, 0] rfl (ih l3_2 l4_2)
set_option maxHeartbeats 4000000 in
set_option maxRecDepth 100000 in
theorem con_X12_production {w : Wp} {N : Nat} {a0 : Nat} {a1 : Int32} {a2 : Int32} {M : Mm} {q : Int32 × Mm} (h_a0 : lay a0 = (5, 12)) (hq : D_X12_production N a0 a1 a2 M = some q) : Con w 2 yX12_production cX12_production 5 (some .int) [.ref (wB w + pz (a0)), .int a1, .int a2] M (encI q) := by
  refine Con.of encI q _ hq (by decide) (Nat.le_of_ble_eq_true rfl) ?_
  intro X G Q hQ
  have G : Good w X cX12_production 5 RX12 (some .int) 2 := G
  refine c_weak [(0, .ref (wB w + pz (a0))), (1, .int a1), (2, .int a2)] [0, 1, 2] rfl ?_
  rw [D_X12_production]
  refine c_iload_n G dX12_production_0 rfl 2 rfl ?_
  refine c_iconst G (nI 0) dX12_production_1 kI_0 ?_
  refine c_iconst G (nI 5) dX12_production_2 kI_5 ?_
  refine c_callS_PI (d := 0) (rest := []) G [.int a2, .int (nI 0), .int (nI 5)] ys_X12_isFrom ml_X12_246 (by omega) (by decide) rfl rfl (Nat.le_of_ble_eq_true rfl) (fun q hq => con_X12_isFrom hq) dX12_production_3 (fun q1 _ => ?_)
  refine c_if_ne (tgt := 15) G dX12_production_6 (by decide) (fun _ => ?_) (fun _ => ?_)
  · skip
    refine c_aload_n G dX12_production_9 rfl 0 rfl ?_
    refine c_iconst G (nI 1) dX12_production_10 kI_1 ?_
    refine c_callV_I (d := 0) (rest := []) G [.int (nI 1)] yv_X12_refuse ml_X12_305 (by omega) (by decide) rfl rfl (Nat.le_of_ble_eq_true rfl) h_a0 (fun q hq => con_X12_refuse h_a0 hq) dX12_production_11 (fun q2 _ => ?_)
    exact c_iret G hQ dX12_production_14
  · skip
    refine c_aload_n G dX12_production_15 rfl 0 rfl ?_
    refine c_iload_n G dX12_production_16 rfl 1 rfl ?_
    refine c_callV_PI (d := 1) (rest := []) G [.int a1] yv_X12_isProduction ml_X12_337 (by omega) (by decide) rfl rfl (Nat.le_of_ble_eq_true rfl) h_a0 (fun q hq => con_X12_isProduction h_a0 hq) dX12_production_17 (fun q3 _ => ?_)
    refine c_if_ne (tgt := 29) G dX12_production_20 (by decide) (fun _ => ?_) (fun _ => ?_)
    · skip
      refine c_aload_n G dX12_production_23 rfl 0 rfl ?_
      refine c_iconst G (nI 4) dX12_production_24 kI_4 ?_
      refine c_callV_I (d := 0) (rest := []) G [.int (nI 4)] yv_X12_refuse ml_X12_305 (by omega) (by decide) rfl rfl (Nat.le_of_ble_eq_true rfl) h_a0 (fun q hq => con_X12_refuse h_a0 hq) dX12_production_25 (fun q4 _ => ?_)
      exact c_iret G hQ dX12_production_28
    · skip
      refine c_iload_n G dX12_production_29 rfl 2 rfl ?_
      refine c_if_ne (tgt := 47) G dX12_production_30 (by decide) (fun _ => ?_) (fun _ => ?_)
      · skip
        refine c_aload_n G dX12_production_33 rfl 0 rfl ?_
        refine c_aload_n G dX12_production_34 rfl 0 rfl ?_
        refine c_getF G fl_X12_13 h_a0 rfl dX12_production_35 ?_
        refine c_bipush G (nI 20) dX12_production_38 kB_20 ?_
        refine c_iload_n G dX12_production_40 rfl 1 rfl ?_
        refine c_iadd G dX12_production_41 ?_
        refine c_iald G (lf h_a0 1 rfl) dX12_production_42 (fun v1 _ => ?_)
        refine c_callV_I (d := 0) (rest := []) G [.int v1] yv_X12_gives ml_X12_328 (by omega) (by decide) rfl rfl (Nat.le_of_ble_eq_true rfl) h_a0 (fun q hq => con_X12_gives h_a0 hq) dX12_production_43 (fun q5 _ => ?_)
        exact c_iret G hQ dX12_production_46
      · skip
        refine c_iload_n G dX12_production_47 rfl 2 rfl ?_
        refine c_iconst G (nI 1) dX12_production_48 kI_1 ?_
        refine c_icmp_ne (tgt := 66) G dX12_production_49 (by decide) (fun _ => ?_) (fun _ => ?_)
        · skip
          refine c_aload_n G dX12_production_52 rfl 0 rfl ?_
          refine c_aload_n G dX12_production_53 rfl 0 rfl ?_
          refine c_getF G fl_X12_13 h_a0 rfl dX12_production_54 ?_
          refine c_bipush G (nI 32) dX12_production_57 kB_32 ?_
          refine c_iload_n G dX12_production_59 rfl 1 rfl ?_
          refine c_iadd G dX12_production_60 ?_
          refine c_iald G (lf h_a0 1 rfl) dX12_production_61 (fun v2 _ => ?_)
          refine c_callV_I (d := 0) (rest := []) G [.int v2] yv_X12_gives ml_X12_328 (by omega) (by decide) rfl rfl (Nat.le_of_ble_eq_true rfl) h_a0 (fun q hq => con_X12_gives h_a0 hq) dX12_production_62 (fun q6 _ => ?_)
          exact c_iret G hQ dX12_production_65
        · skip
          refine c_iload_n G dX12_production_66 rfl 2 rfl ?_
          refine c_iconst G (nI 5) dX12_production_67 kI_5 ?_
          refine c_icmp_ge (tgt := 115) G dX12_production_68 (by decide) (fun _ => ?_) (fun _ => ?_)
          · skip
            refine c_iconst G (nI 0) dX12_production_115 kI_0 ?_
            refine c_istore_n G [(3, .int (nI 0)), (0, .ref (wB w + pz (a0))), (1, .int a1), (2, .int a2)] dX12_production_116 rfl (by decide) rfl ?_
            refine c_iconst G (nI 0) dX12_production_117 kI_0 ?_
            refine c_istore G [(4, .int (nI 0)), (3, .int (nI 0)), (0, .ref (wB w + pz (a0))), (1, .int a1), (2, .int a2)] dX12_production_118 (by decide) rfl ?_
            refine c_weak _ [2, 3, 1, 0] rfl (cl_X12_production_120 G hQ  h_a0 N (nI 0) (nI 0))
          · skip
            refine c_iload_n G dX12_production_71 rfl 2 rfl ?_
            refine c_iconst G (nI 2) dX12_production_72 kI_2 ?_
            refine c_isub G dX12_production_73 ?_
            refine c_aload_n G dX12_production_74 rfl 0 rfl ?_
            refine c_getF G fl_X12_13 h_a0 rfl dX12_production_75 ?_
            refine c_bipush G (nI 32) dX12_production_78 kB_32 ?_
            refine c_iload_n G dX12_production_80 rfl 1 rfl ?_
            refine c_iadd G dX12_production_81 ?_
            refine c_iald G (lf h_a0 1 rfl) dX12_production_82 (fun v4 _ => ?_)
            refine c_icmp_ge (tgt := 108) G dX12_production_83 (by decide) (fun _ => ?_) (fun _ => ?_)
            · skip
              refine c_aload_n G dX12_production_108 rfl 0 rfl ?_
              refine c_bipush G (nI 7) dX12_production_109 kB_7 ?_
              refine c_callV_I (d := 0) (rest := []) G [.int (nI 7)] yv_X12_refuse ml_X12_305 (by omega) (by decide) rfl rfl (Nat.le_of_ble_eq_true rfl) h_a0 (fun q hq => con_X12_refuse h_a0 hq) dX12_production_111 (fun q8 _ => ?_)
              exact c_iret G hQ dX12_production_114
            · skip
              refine c_aload_n G dX12_production_86 rfl 0 rfl ?_
              refine c_aload_n G dX12_production_87 rfl 0 rfl ?_
              refine c_getF G fl_X12_13 h_a0 rfl dX12_production_88 ?_
              refine c_bipush G (nI 44) dX12_production_91 kB_44 ?_
              refine c_iconst G (nI 3) dX12_production_93 kI_3 ?_
              refine c_iload_n G dX12_production_94 rfl 1 rfl ?_
              refine c_imul G dX12_production_95 ?_
              refine c_iadd G dX12_production_96 ?_
              refine c_iload_n G dX12_production_97 rfl 2 rfl ?_
              refine c_iadd G dX12_production_98 ?_
              refine c_iconst G (nI 2) dX12_production_99 kI_2 ?_
              refine c_isub G dX12_production_100 ?_
              refine c_iald G (lf h_a0 1 rfl) dX12_production_101 (fun v5 _ => ?_)
              refine c_callV_I (d := 0) (rest := []) G [.int v5] yv_X12_gives ml_X12_328 (by omega) (by decide) rfl rfl (Nat.le_of_ble_eq_true rfl) h_a0 (fun q hq => con_X12_gives h_a0 hq) dX12_production_102 (fun q9 _ => ?_)
              refine c_goto (tgt := 114) G dX12_production_105 (by decide) ?_
              exact c_iret G hQ dX12_production_114
