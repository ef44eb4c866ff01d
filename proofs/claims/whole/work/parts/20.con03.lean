set_option maxHeartbeats 4000000 in
set_option maxRecDepth 100000 in
theorem con_X0_count {w : Wp} {N : Nat} {a0 : Nat} {a1 : Int32} {a2 : Nat} {a3 : Nat} {M : Mm} {q : Mm} (h_a0 : lay a0 = (5, 0)) (h_a2 : lay a2 = (5, 10)) (h_a3 : lay a3 = (5, 10)) (hq : D_X0_count N a0 a1 a2 a3 M = some q) : Con w 1 yX0_count cX0_count 6 none [.ref (wB w + pz (a0)), .int a1, .ref (wB w + pz (a2)), .ref (wB w + pz (a3))] M (encV q) := by
  refine Con.of encV q _ hq (by decide) (Nat.le_of_ble_eq_true rfl) ?_
  intro X G Q hQ
  have G : Good w X cX0_count 6 RX0 none 1 := G
  refine c_weak [(0, .ref (wB w + pz (a0))), (1, .int a1), (2, .ref (wB w + pz (a2))), (3, .ref (wB w + pz (a3)))] [0, 1, 2, 3] rfl ?_
  rw [D_X0_count]
  refine c_iconst G (nI 0) dX0_count_0 kI_0 ?_
  refine c_istore G [(4, .int (nI 0)), (0, .ref (wB w + pz (a0))), (1, .int a1), (2, .ref (wB w + pz (a2))), (3, .ref (wB w + pz (a3)))] dX0_count_1 (by decide) rfl ?_
  refine c_weak _ [1, 2, 3, 4, 0] rfl (cl_X0_count_3 G hQ  h_a2 h_a0 h_a3 N (nI 0) M)
set_option maxHeartbeats 4000000 in
set_option maxRecDepth 100000 in
theorem cl_X0_keep_3 {w : Wp} {X : Cx} {Q : State → Prop} {ρ : Mm} (G : Good w X cX0_keep 6 RX0 none 1) (hQ : Q = MQ (xL X) (Qd w (encV ρ)) (xA X) (xS X) (xk X) (xs X) (Aw w)) (kE52 : Mm → Option (Mm)) {N : Nat} {a2 : Nat} {a1 : Int32} {a0 : Nat} {a3 : Nat} (h_a2 : lay a2 = (5, 10)) (h_a0 : lay a0 = (5, 0)) (h_a3 : lay a3 = (5, 10)) (hE52 : ∀ (Mz : Mm), Cov w X Q ρ some 6 52 [(0, .ref (wB w + pz (a0))), (1, .int a1), (2, .ref (wB w + pz (a2))), (3, .ref (wB w + pz (a3)))] [] Mz (kE52 Mz)) : ∀ (n : Nat) (l4_1 : Int32) (M1 : Mm), Cov w X Q ρ some 6 3 [(0, .ref (wB w + pz (a0))), (1, .int a1), (2, .ref (wB w + pz (a2))), (3, .ref (wB w + pz (a3))), (4, .int l4_1)] [] M1 (L_X0_keep_3 kE52 N a2 a1 a0 a3 n l4_1 M1) := by
  intro n
  induction n with
  | zero => intro l4_1 M1; exact c_none
  | succ n ih =>
    intro l4_1 M1
    rw [L_X0_keep_3]
    refine c_iload G dX0_keep_3 4 rfl ?_
    refine c_aload_n G dX0_keep_5 rfl 2 rfl ?_
    refine c_getF G fl_X0_89 h_a2 rfl dX0_keep_6 ?_
    refine c_iload_n G dX0_keep_9 rfl 1 rfl ?_
    refine c_callV_PI (d := 0) (rest := [.int l4_1]) G [.int a1] yv_X4_size ml_X0_111 (by omega) (by decide) rfl rfl (Nat.le_of_ble_eq_true rfl) (lf h_a2 0 rfl) (fun q hq => con_X4_size (lf h_a2 0 rfl) hq) dX0_keep_10 (fun q1 _ => ?_)
    refine c_icmp_ge (tgt := 52) G dX0_keep_13 (by decide) (fun _ => ?_) (fun _ => ?_)
    · skip
      exact c_weak _ [0, 1, 2, 3] rfl (hE52 M1)
    · skip
      refine c_aload_n G dX0_keep_16 rfl 2 rfl ?_
      refine c_getF G fl_X0_89 h_a2 rfl dX0_keep_17 ?_
      refine c_iload_n G dX0_keep_20 rfl 1 rfl ?_
      refine c_iload G dX0_keep_21 4 rfl ?_
      refine c_callV_PI (d := 0) (rest := []) G [.int a1, .int l4_1] yv_X4_member ml_X0_115 (by omega) (by decide) rfl rfl (Nat.le_of_ble_eq_true rfl) (lf h_a2 0 rfl) (fun q hq => con_X4_member (lf h_a2 0 rfl) hq) dX0_keep_23 (fun q2 _ => ?_)
      refine c_istore G [(5, .int q2), (0, .ref (wB w + pz (a0))), (1, .int a1), (2, .ref (wB w + pz (a2))), (3, .ref (wB w + pz (a3))), (4, .int l4_1)] dX0_keep_26 (by decide) rfl ?_
      refine c_aload_n G dX0_keep_28 rfl 3 rfl ?_
      refine c_getF G fl_X0_128 h_a2 rfl dX0_keep_29 ?_
      refine c_iload G dX0_keep_32 0 rfl ?_
      refine c_aload_n G dX0_keep_34 rfl 4 rfl ?_
      refine c_getF G fl_X0_128 h_a3 rfl dX0_keep_35 ?_
      refine c_aload_n G dX0_keep_38 rfl 1 rfl ?_
      refine c_iload G dX0_keep_39 0 rfl ?_
      refine c_callV_PI (d := 0) (rest := [.ref (wB w + pz ((a3 + 12))), .int q2, .ref (wB w + pz ((a2 + 12)))]) G [.int q2] yv_X0_stoodFor ml_X0_131 (by omega) (by decide) rfl rfl (Nat.le_of_ble_eq_true rfl) h_a0 (fun q hq => con_X0_stoodFor h_a0 hq) dX0_keep_41 (fun q3 _ => ?_)
      refine c_iald G (lf h_a3 1 rfl) dX0_keep_44 (fun v1 _ => ?_)
      refine c_iast G (lf h_a2 1 rfl) dX0_keep_45 (fun M2 _ => ?_)
      refine c_iinc G (fun y__ => [(4, .int y__), (5, .int q2), (0, .ref (wB w + pz (a0))), (1, .int a1), (2, .ref (wB w + pz (a2))), (3, .ref (wB w + pz (a3)))]) dX0_keep_46 5 rfl kI_1 (by decide) (fun _ => rfl) (fun l4_2 _ => ?_)
      refine c_goto (tgt := 3) G dX0_keep_49 (by decide) ?_
      exact c_weak _ [2, 3, 4, 5, 0] rfl (ih l4_2 M2)
set_option maxHeartbeats 4000000 in
set_option maxRecDepth 100000 in
theorem con_X0_keep {w : Wp} {N : Nat} {a0 : Nat} {a1 : Int32} {a2 : Nat} {a3 : Nat} {M : Mm} {q : Mm} (h_a0 : lay a0 = (5, 0)) (h_a2 : lay a2 = (5, 10)) (h_a3 : lay a3 = (5, 10)) (hq : D_X0_keep N a0 a1 a2 a3 M = some q) : Con w 1 yX0_keep cX0_keep 6 none [.ref (wB w + pz (a0)), .int a1, .ref (wB w + pz (a2)), .ref (wB w + pz (a3))] M (encV q) := by
  refine Con.of encV q _ hq (by decide) (Nat.le_of_ble_eq_true rfl) ?_
  intro X G Q hQ
  have G : Good w X cX0_keep 6 RX0 none 1 := G
  refine c_weak [(0, .ref (wB w + pz (a0))), (1, .int a1), (2, .ref (wB w + pz (a2))), (3, .ref (wB w + pz (a3)))] [0, 1, 2, 3] rfl ?_
  rw [D_X0_keep]
  refine c_iconst G (nI 0) dX0_keep_0 kI_0 ?_
  refine c_istore G [(4, .int (nI 0)), (0, .ref (wB w + pz (a0))), (1, .int a1), (2, .ref (wB w + pz (a2))), (3, .ref (wB w + pz (a3)))] dX0_keep_1 (by decide) rfl ?_
  refine c_weak _ [1, 2, 3, 4, 0] rfl (cl_X0_keep_3 G hQ _ h_a2 h_a0 h_a3 ?_ N (nI 0) M)
  · intro M3
    refine c_aload_n G dX0_keep_52 rfl 3 rfl ?_
    refine c_getF G fl_X0_89 h_a3 rfl dX0_keep_53 ?_
    refine c_getF G fl_X0_75 (lf h_a3 0 rfl) rfl dX0_keep_56 ?_
    refine c_aload_n G dX0_keep_59 rfl 0 rfl ?_
    refine c_aload_n G dX0_keep_60 rfl 2 rfl ?_
    refine c_getF G fl_X0_89 h_a2 rfl dX0_keep_61 ?_
    refine c_iload_n G dX0_keep_64 rfl 1 rfl ?_
    refine c_callV_PI (d := 0) (rest := [.ref (wB w + pz (a0)), .ref (wB w + pz (((a3 + 1) + 3)))]) G [.int a1] yv_X4_first ml_X0_134 (by omega) (by decide) rfl rfl (Nat.le_of_ble_eq_true rfl) (lf h_a2 0 rfl) (fun q hq => con_X4_first (lf h_a2 0 rfl) hq) dX0_keep_65 (fun q4 _ => ?_)
    refine c_callV_PI (d := 0) (rest := [.ref (wB w + pz (((a3 + 1) + 3)))]) G [.int q4] yv_X0_stoodFor ml_X0_131 (by omega) (by decide) rfl rfl (Nat.le_of_ble_eq_true rfl) h_a0 (fun q hq => con_X0_stoodFor h_a0 hq) dX0_keep_68 (fun q5 _ => ?_)
    refine c_iald G (lf (lf h_a3 0 rfl) 2 rfl) dX0_keep_71 (fun v2 _ => ?_)
    refine c_istore G [(4, .int v2), (0, .ref (wB w + pz (a0))), (1, .int a1), (2, .ref (wB w + pz (a2))), (3, .ref (wB w + pz (a3)))] dX0_keep_72 (by decide) rfl ?_
    refine c_aload_n G dX0_keep_74 rfl 3 rfl ?_
    refine c_getF G fl_X0_136 h_a2 rfl dX0_keep_75 ?_
    refine c_iload_n G dX0_keep_78 rfl 2 rfl ?_
    refine c_aload_n G dX0_keep_79 rfl 4 rfl ?_
    refine c_getF G fl_X0_136 h_a3 rfl dX0_keep_80 ?_
    refine c_iload G dX0_keep_83 0 rfl ?_
    refine c_iald G (lf h_a3 2 rfl) dX0_keep_85 (fun v3 _ => ?_)
    refine c_iast G (lf h_a2 2 rfl) dX0_keep_86 (fun M4 _ => ?_)
    refine c_aload_n G dX0_keep_87 rfl 3 rfl ?_
    refine c_getF G fl_X0_139 h_a2 rfl dX0_keep_88 ?_
    refine c_iload_n G dX0_keep_91 rfl 2 rfl ?_
    refine c_aload_n G dX0_keep_92 rfl 4 rfl ?_
    refine c_getF G fl_X0_139 h_a3 rfl dX0_keep_93 ?_
    refine c_iload G dX0_keep_96 0 rfl ?_
    refine c_zald G (lf h_a3 3 rfl) dX0_keep_98 (fun v4 _ => ?_)
    refine c_yast G (lf h_a2 3 rfl) dX0_keep_99 (fun M5 _ => ?_)
    exact c_vret G hQ dX0_keep_100
set_option maxHeartbeats 4000000 in
set_option maxRecDepth 100000 in
theorem cl_X0_reckon_20 {w : Wp} {X : Cx} {Q : State → Prop} {ρ : Mm} (G : Good w X cX0_reckon 5 RX0 none 4) (hQ : Q = MQ (xL X) (Qd w (encV ρ)) (xA X) (xS X) (xk X) (xs X) (Aw w)) {a2 : Nat} {N : Nat} {a0 : Nat} {a1 : Nat} {a3 : Nat} (h_a2 : lay a2 = (5, 10)) (h_a0 : lay a0 = (5, 0)) (h_a1 : lay a1 = (5, 8)) (h_a3 : lay a3 = (5, 10)) : ∀ (n : Nat) (l4_1 : Int32) (M4 : Mm), Cov w X Q ρ some 5 20 [(0, .ref (wB w + pz (a0))), (1, .ref (wB w + pz (a1))), (2, .ref (wB w + pz (a2))), (3, .ref (wB w + pz (a3))), (4, .int l4_1)] [] M4 (L_X0_reckon_20 a2 N a0 a1 a3 n l4_1 M4) := by
  intro n
  induction n with
  | zero => intro l4_1 M4; exact c_none
  | succ n ih =>
    intro l4_1 M4
    rw [L_X0_reckon_20]
    refine c_iload G dX0_reckon_20 4 rfl ?_
    refine c_aload_n G dX0_reckon_22 rfl 2 rfl ?_
    refine c_getF G fl_X0_89 h_a2 rfl dX0_reckon_23 ?_
    refine c_getI G fl_X0_95 (lf h_a2 0 rfl) rfl dX0_reckon_26 ?_
    refine c_icmp_ge (tgt := 77) G dX0_reckon_29 (by decide) (fun _ => ?_) (fun _ => ?_)
    · skip
      exact c_vret G hQ dX0_reckon_77
    · skip
      refine c_aload_n G dX0_reckon_32 rfl 0 rfl ?_
      refine c_aload_n G dX0_reckon_33 rfl 1 rfl ?_
      refine c_aload_n G dX0_reckon_34 rfl 2 rfl ?_
      refine c_getF G fl_X0_89 h_a2 rfl dX0_reckon_35 ?_
      refine c_iload G dX0_reckon_38 4 rfl ?_
      refine c_callV_PI (d := 2) (rest := []) G [.ref (wB w + pz (a1)), .ref (wB w + pz ((a2 + 1))), .int l4_1] yv_X0_isAnew ml_X0_98 (by omega) (by decide) rfl rfl (Nat.le_of_ble_eq_true rfl) h_a0 (fun q hq => con_X0_isAnew h_a0 h_a1 (lf h_a2 0 rfl) hq) dX0_reckon_40 (fun q1 _ => ?_)
      refine c_if_eq (tgt := 63) G dX0_reckon_43 (by decide) (fun _ => ?_) (fun _ => ?_)
      · skip
        refine c_aload_n G dX0_reckon_63 rfl 0 rfl ?_
        refine c_iload G dX0_reckon_64 4 rfl ?_
        refine c_aload_n G dX0_reckon_66 rfl 2 rfl ?_
        refine c_aload_n G dX0_reckon_67 rfl 3 rfl ?_
        refine c_callV_V (d := 1) (rest := []) G [.int l4_1, .ref (wB w + pz (a2)), .ref (wB w + pz (a3))] yv_X0_keep ml_X0_108 (by omega) (by decide) rfl rfl (Nat.le_of_ble_eq_true rfl) h_a0 (fun q hq => con_X0_keep h_a0 h_a2 h_a3 hq) dX0_reckon_68 (fun M5 _ => ?_)
        refine c_iinc G (fun y__ => [(4, .int y__), (0, .ref (wB w + pz (a0))), (1, .ref (wB w + pz (a1))), (2, .ref (wB w + pz (a2))), (3, .ref (wB w + pz (a3)))]) dX0_reckon_71 4 rfl kI_1 (by decide) (fun _ => rfl) (fun l4_2 _ => ?_)
        refine c_goto (tgt := 20) G dX0_reckon_74 (by decide) ?_
        exact c_weak _ [1, 2, 3, 4, 0] rfl (ih l4_2 M5)
      · skip
        refine c_aload_n G dX0_reckon_46 rfl 2 rfl ?_
        refine c_iload G dX0_reckon_47 4 rfl ?_
        refine c_callV_V (d := 3) (rest := []) G [.int l4_1] yv_X10_reckonGroup ml_X0_102 (by omega) (by decide) rfl rfl (Nat.le_of_ble_eq_true rfl) h_a2 (fun q hq => con_X10_reckonGroup h_a2 hq) dX0_reckon_49 (fun M6 _ => ?_)
        refine c_aload_n G dX0_reckon_52 rfl 0 rfl ?_
        refine c_iload G dX0_reckon_53 4 rfl ?_
        refine c_aload_n G dX0_reckon_55 rfl 2 rfl ?_
        refine c_aload_n G dX0_reckon_56 rfl 3 rfl ?_
        refine c_callV_V (d := 1) (rest := []) G [.int l4_1, .ref (wB w + pz (a2)), .ref (wB w + pz (a3))] yv_X0_count ml_X0_105 (by omega) (by decide) rfl rfl (Nat.le_of_ble_eq_true rfl) h_a0 (fun q hq => con_X0_count h_a0 h_a2 h_a3 hq) dX0_reckon_57 (fun M7 _ => ?_)
        refine c_goto (tgt := 71) G dX0_reckon_60 (by decide) ?_
        refine c_iinc G (fun y__ => [(4, .int y__), (0, .ref (wB w + pz (a0))), (1, .ref (wB w + pz (a1))), (2, .ref (wB w + pz (a2))), (3, .ref (wB w + pz (a3)))]) dX0_reckon_71 4 rfl kI_1 (by decide) (fun _ => rfl) (fun l4_3 _ => ?_)
        refine c_goto (tgt := 20) G dX0_reckon_74 (by decide) ?_
        exact c_weak _ [1, 2, 3, 4, 0] rfl (ih l4_3 M7)
set_option maxHeartbeats 4000000 in
set_option maxRecDepth 100000 in
theorem con_X0_reckon {w : Wp} {N : Nat} {a0 : Nat} {a1 : Nat} {a2 : Nat} {a3 : Nat} {M : Mm} {q : Mm} (h_a0 : lay a0 = (5, 0)) (h_a1 : lay a1 = (5, 8)) (h_a2 : lay a2 = (5, 10)) (h_a3 : lay a3 = (5, 10)) (hq : D_X0_reckon N a0 a1 a2 a3 M = some q) : Con w 4 yX0_reckon cX0_reckon 5 none [.ref (wB w + pz (a0)), .ref (wB w + pz (a1)), .ref (wB w + pz (a2)), .ref (wB w + pz (a3))] M (encV q) := by
  refine Con.of encV q _ hq (by decide) (Nat.le_of_ble_eq_true rfl) ?_
  intro X G Q hQ
  have G : Good w X cX0_reckon 5 RX0 none 4 := G
  refine c_weak [(0, .ref (wB w + pz (a0))), (1, .ref (wB w + pz (a1))), (2, .ref (wB w + pz (a2))), (3, .ref (wB w + pz (a3)))] [0, 1, 2, 3] rfl ?_
  rw [D_X0_reckon]
  refine c_aload_n G dX0_reckon_0 rfl 0 rfl ?_
  refine c_getF G fl_X0_15 h_a0 rfl dX0_reckon_1 ?_
  refine c_callN_V (d := 0) (rest := []) G [.ref (wB w + pz ((a0 + 2)))] ys_X11_clearFlags (nw_X0_25 (Good.nw G)) (by omega) (by decide) rfl rfl (Nat.le_of_ble_eq_true rfl) (fun q hq => con_X11_clearFlags (ll (lf h_a0 1 rfl)) hq) dX0_reckon_4 (fun M1 _ => ?_)
  refine c_aload_n G dX0_reckon_7 rfl 0 rfl ?_
  refine c_iconst G (nI 0) dX0_reckon_8 kI_0 ?_
  refine c_putI G fp_X0_83 h_a0 rfl dX0_reckon_9 (fun M2 _ => ?_)
  refine c_aload_n G dX0_reckon_12 rfl 0 rfl ?_
  refine c_iconst G (nI 0) dX0_reckon_13 kI_0 ?_
  refine c_putI G fp_X0_86 h_a0 rfl dX0_reckon_14 (fun M3 _ => ?_)
  refine c_iconst G (nI 0) dX0_reckon_17 kI_0 ?_
  refine c_istore G [(4, .int (nI 0)), (0, .ref (wB w + pz (a0))), (1, .ref (wB w + pz (a1))), (2, .ref (wB w + pz (a2))), (3, .ref (wB w + pz (a3)))] dX0_reckon_18 (by decide) rfl ?_
  refine c_weak _ [1, 2, 3, 4, 0] rfl (cl_X0_reckon_20 G hQ  h_a2 h_a0 h_a1 h_a3 N (nI 0) M3)
set_option maxHeartbeats 4000000 in
set_option maxRecDepth 100000 in
theorem con_X11_reckonAnew {w : Wp} {N : Nat} {a0 : Nat} {M : Mm} {q : Mm} (h_a0 : lay a0 = (5, 11)) (hq : D_X11_reckonAnew N a0 M = some q) : Con w 5 yX11_reckonAnew cX11_reckonAnew 2 none [.ref (wB w + pz (a0))] M (encV q) := by
  refine Con.of encV q _ hq (by decide) (Nat.le_of_ble_eq_true rfl) ?_
  intro X G Q hQ
  have G : Good w X cX11_reckonAnew 2 RX11 none 5 := G
  refine c_weak [(0, .ref (wB w + pz (a0)))] [0] rfl ?_
  rw [D_X11_reckonAnew]
  refine c_aload_n G dX11_reckonAnew_0 rfl 0 rfl ?_
  refine c_getR (c' := 10) G fl_X11_95 h_a0 rfl dX11_reckonAnew_1 (fun r1 _ h_r1 => ?_)
  refine c_astore_n G [(1, .ref (wB w + pz (r1))), (0, .ref (wB w + pz (a0)))] dX11_reckonAnew_4 rfl (by decide) rfl ?_
  refine c_aload_n G dX11_reckonAnew_5 rfl 1 rfl ?_
  refine c_aload_n G dX11_reckonAnew_6 rfl 1 rfl ?_
  refine c_getR (c' := 10) G fl_X11_99 h_a0 rfl dX11_reckonAnew_7 (fun r2 _ h_r2 => ?_)
  refine c_putN G fp_X11_95 (Or.inl ⟨_, rfl⟩) h_a0 h_r2 (by decide) rfl dX11_reckonAnew_10 (fun M1 _ => ?_)
  refine c_aload_n G dX11_reckonAnew_13 rfl 1 rfl ?_
  refine c_aload_n G dX11_reckonAnew_14 rfl 0 rfl ?_
  refine c_putN G fp_X11_99 (Or.inl ⟨_, rfl⟩) h_a0 h_r1 (by decide) rfl dX11_reckonAnew_15 (fun M2 _ => ?_)
  refine c_aload_n G dX11_reckonAnew_18 rfl 1 rfl ?_
  refine c_getR (c' := 10) G fl_X11_95 h_a0 rfl dX11_reckonAnew_19 (fun r3 _ h_r3 => ?_)
  refine c_aload_n G dX11_reckonAnew_22 rfl 1 rfl ?_
  refine c_getR (c' := 1) G fl_X11_75 h_a0 rfl dX11_reckonAnew_23 (fun r4 _ h_r4 => ?_)
  refine c_aload_n G dX11_reckonAnew_26 rfl 1 rfl ?_
  refine c_getR (c' := 8) G fl_X11_85 h_a0 rfl dX11_reckonAnew_27 (fun r5 _ h_r5 => ?_)
  refine c_callV_V (d := 0) (rest := []) G [.ref (wB w + pz (r4)), .ref (wB w + pz (r5))] yv_X10_begin ml_X11_274 (by omega) (by decide) rfl rfl (Nat.le_of_ble_eq_true rfl) h_r3 (fun q hq => con_X10_begin h_r3 h_r4 h_r5 hq) dX11_reckonAnew_30 (fun M3 _ => ?_)
  refine c_aload_n G dX11_reckonAnew_33 rfl 1 rfl ?_
  refine c_getR (c' := 10) G fl_X11_95 h_a0 rfl dX11_reckonAnew_34 (fun r6 _ h_r6 => ?_)
  refine c_getF G fl_X11_160 h_r6 rfl dX11_reckonAnew_37 ?_
  refine c_aload_n G dX11_reckonAnew_40 rfl 1 rfl ?_
  refine c_getR (c' := 8) G fl_X11_85 h_a0 rfl dX11_reckonAnew_41 (fun r7 _ h_r7 => ?_)
  refine c_callV_V (d := 4) (rest := []) G [.ref (wB w + pz (r7))] yv_X4_find ml_X11_277 (by omega) (by decide) rfl rfl (Nat.le_of_ble_eq_true rfl) (lf h_r6 0 rfl) (fun q hq => con_X4_find (lf h_r6 0 rfl) h_r7 hq) dX11_reckonAnew_44 (fun M4 _ => ?_)
  refine c_aload_n G dX11_reckonAnew_47 rfl 1 rfl ?_
  refine c_getF G fl_X11_68 h_a0 rfl dX11_reckonAnew_48 ?_
  refine c_aload_n G dX11_reckonAnew_51 rfl 1 rfl ?_
  refine c_getR (c' := 8) G fl_X11_85 h_a0 rfl dX11_reckonAnew_52 (fun r8 _ h_r8 => ?_)
  refine c_aload_n G dX11_reckonAnew_55 rfl 1 rfl ?_
  refine c_getR (c' := 10) G fl_X11_95 h_a0 rfl dX11_reckonAnew_56 (fun r9 _ h_r9 => ?_)
  refine c_aload_n G dX11_reckonAnew_59 rfl 0 rfl ?_
  refine c_callV_V (d := 4) (rest := []) G [.ref (wB w + pz (r8)), .ref (wB w + pz (r9)), .ref (wB w + pz (r1))] yv_X0_reckon ml_X11_396 (by omega) (by decide) rfl rfl (Nat.le_of_ble_eq_true rfl) (lf h_a0 10 rfl) (fun q hq => con_X0_reckon (lf h_a0 10 rfl) h_r8 h_r9 h_r1 hq) dX11_reckonAnew_60 (fun M5 _ => ?_)
  refine c_aload_n G dX11_reckonAnew_63 rfl 1 rfl ?_
  refine c_iconst G (nI 1) dX11_reckonAnew_64 kI_1 ?_
  refine c_putZ G fp_X11_19 h_a0 rfl dX11_reckonAnew_65 (fun M6 _ => ?_)
  exact c_vret G hQ dX11_reckonAnew_68
set_option maxHeartbeats 4000000 in
set_option maxRecDepth 100000 in
theorem con_X11_put {w : Wp} {N : Nat} {a0 : Nat} {a1 : Int32} {a2 : Int32} {M : Mm} {q : Int32 × Mm} (h_a0 : lay a0 = (5, 11)) (hq : D_X11_put N a0 a1 a2 M = some q) : Con w 6 yX11_put cX11_put 4 (some .int) [.ref (wB w + pz (a0)), .int a1, .int a2] M (encI q) := by
  refine Con.of encI q _ hq (by decide) (Nat.le_of_ble_eq_true rfl) ?_
  intro X G Q hQ
  have G : Good w X cX11_put 4 RX11 (some .int) 6 := G
  refine c_weak [(0, .ref (wB w + pz (a0))), (1, .int a1), (2, .int a2)] [0, 1, 2] rfl ?_
  rw [D_X11_put]
  refine c_iload_n G dX11_put_0 rfl 2 rfl ?_
  refine c_if_lt (tgt := 11) G dX11_put_1 (by decide) (fun _ => ?_) (fun _ => ?_)
  · skip
    refine c_aload_n G dX11_put_11 rfl 0 rfl ?_
    refine c_iconst G (nI 1) dX11_put_12 kI_1 ?_
    refine c_callV_I (d := 0) (rest := []) G [.int (nI 1)] yv_X11_refuse ml_X11_113 (by omega) (by decide) rfl rfl (Nat.le_of_ble_eq_true rfl) h_a0 (fun q hq => con_X11_refuse h_a0 hq) dX11_put_13 (fun q1 _ => ?_)
    exact c_iret G hQ dX11_put_16
  · skip
    refine c_iload_n G dX11_put_4 rfl 2 rfl ?_
    refine c_sipush G (nI 9999) dX11_put_5 kS_9999 ?_
    refine c_icmp_le (tgt := 17) G dX11_put_8 (by decide) (fun _ => ?_) (fun _ => ?_)
    · skip
      refine c_aload_n G dX11_put_17 rfl 0 rfl ?_
      refine c_getR (c' := 8) G fl_X11_85 h_a0 rfl dX11_put_18 (fun r1 _ h_r1 => ?_)
      refine c_getI G fl_X11_150 h_r1 rfl dX11_put_21 ?_
      refine c_if_ne (tgt := 33) G dX11_put_24 (by decide) (fun _ => ?_) (fun _ => ?_)
      · skip
        refine c_aload_n G dX11_put_27 rfl 0 rfl ?_
        refine c_iconst G (nI 3) dX11_put_28 kI_3 ?_
        refine c_callV_I (d := 0) (rest := []) G [.int (nI 3)] yv_X11_refuse ml_X11_113 (by omega) (by decide) rfl rfl (Nat.le_of_ble_eq_true rfl) h_a0 (fun q hq => con_X11_refuse h_a0 hq) dX11_put_29 (fun q2 _ => ?_)
        exact c_iret G hQ dX11_put_32
      · skip
        refine c_aload_n G dX11_put_33 rfl 0 rfl ?_
        refine c_getR (c' := 8) G fl_X11_85 h_a0 rfl dX11_put_34 (fun r2 _ h_r2 => ?_)
        refine c_iload_n G dX11_put_37 rfl 1 rfl ?_
        refine c_callV_PI (d := 0) (rest := []) G [.int a1] yv_X8_hasNode ml_X11_283 (by omega) (by decide) rfl rfl (Nat.le_of_ble_eq_true rfl) h_r2 (fun q hq => con_X8_hasNode h_r2 hq) dX11_put_38 (fun q3 _ => ?_)
        refine c_if_ne (tgt := 50) G dX11_put_41 (by decide) (fun _ => ?_) (fun _ => ?_)
        · skip
          refine c_aload_n G dX11_put_44 rfl 0 rfl ?_
          refine c_iconst G (nI 4) dX11_put_45 kI_4 ?_
          refine c_callV_I (d := 0) (rest := []) G [.int (nI 4)] yv_X11_refuse ml_X11_113 (by omega) (by decide) rfl rfl (Nat.le_of_ble_eq_true rfl) h_a0 (fun q hq => con_X11_refuse h_a0 hq) dX11_put_46 (fun q4 _ => ?_)
          exact c_iret G hQ dX11_put_49
        · skip
          refine c_aload_n G dX11_put_50 rfl 0 rfl ?_
          refine c_getR (c' := 8) G fl_X11_85 h_a0 rfl dX11_put_51 (fun r3 _ h_r3 => ?_)
          refine c_getF G fl_X11_289 h_r3 rfl dX11_put_54 ?_
          refine c_iload_n G dX11_put_57 rfl 1 rfl ?_
          refine c_iald G (lf h_r3 2 rfl) dX11_put_58 (fun v1 _ => ?_)
          refine c_istore_n G [(3, .int v1), (0, .ref (wB w + pz (a0))), (1, .int a1), (2, .int a2)] dX11_put_59 rfl (by decide) rfl ?_
          refine c_aload_n G dX11_put_60 rfl 1 rfl ?_
          refine c_getR (c' := 8) G fl_X11_85 h_a0 rfl dX11_put_61 (fun r4 _ h_r4 => ?_)
          refine c_getF G fl_X11_289 h_r4 rfl dX11_put_64 ?_
          refine c_iload_n G dX11_put_67 rfl 2 rfl ?_
          refine c_iload_n G dX11_put_68 rfl 3 rfl ?_
          refine c_iast G (lf h_r4 2 rfl) dX11_put_69 (fun M1 _ => ?_)
          refine c_aload_n G dX11_put_70 rfl 1 rfl ?_
          refine c_getF G fl_X11_68 h_a0 rfl dX11_put_71 ?_
          refine c_aload_n G dX11_put_74 rfl 1 rfl ?_
          refine c_getR (c' := 8) G fl_X11_85 h_a0 rfl dX11_put_75 (fun r5 _ h_r5 => ?_)
          refine c_getI G fl_X11_150 h_r5 rfl dX11_put_78 ?_
          refine c_callV_V (d := 1) (rest := []) G [.int (M1.1 r5 0)] yv_X0_begin ml_X11_349 (by omega) (by decide) rfl rfl (Nat.le_of_ble_eq_true rfl) (lf h_a0 10 rfl) (fun q hq => con_X0_begin (lf h_a0 10 rfl) hq) dX11_put_81 (fun M2 _ => ?_)
          refine c_iload_n G dX11_put_84 rfl 0 rfl ?_
          refine c_iload_n G dX11_put_85 rfl 3 rfl ?_
          refine c_icmp_eq (tgt := 105) G dX11_put_86 (by decide) (fun _ => ?_) (fun _ => ?_)
          · skip
            refine c_aload_n G dX11_put_105 rfl 1 rfl ?_
            refine c_callV_V (d := 5) (rest := []) G [] yv_X11_reckonAnew ml_X11_354 (by omega) (by decide) rfl rfl (Nat.le_of_ble_eq_true rfl) h_a0 (fun q hq => con_X11_reckonAnew h_a0 hq) dX11_put_106 (fun M3 _ => ?_)
            refine c_aload_n G dX11_put_109 rfl 1 rfl ?_
            refine c_iload_n G dX11_put_110 rfl 0 rfl ?_
            refine c_callV_I (d := 0) (rest := []) G [.int v1] yv_X11_answer ml_X11_147 (by omega) (by decide) rfl rfl (Nat.le_of_ble_eq_true rfl) h_a0 (fun q hq => con_X11_answer h_a0 hq) dX11_put_111 (fun q5 _ => ?_)
            exact c_iret G hQ dX11_put_114
          · skip
            refine c_aload_n G dX11_put_89 rfl 1 rfl ?_
            refine c_getF G fl_X11_68 h_a0 rfl dX11_put_90 ?_
            refine c_aload_n G dX11_put_93 rfl 1 rfl ?_
            refine c_getR (c' := 1) G fl_X11_75 h_a0 rfl dX11_put_94 (fun r6 _ h_r6 => ?_)
            refine c_aload_n G dX11_put_97 rfl 1 rfl ?_
            refine c_getR (c' := 8) G fl_X11_85 h_a0 rfl dX11_put_98 (fun r7 _ h_r7 => ?_)
            refine c_iload_n G dX11_put_101 rfl 2 rfl ?_
            refine c_callV_V (d := 1) (rest := []) G [.ref (wB w + pz (r6)), .ref (wB w + pz (r7)), .int a1] yv_X0_markAskingOwn ml_X11_350 (by omega) (by decide) rfl rfl (Nat.le_of_ble_eq_true rfl) (lf h_a0 10 rfl) (fun q hq => con_X0_markAskingOwn (lf h_a0 10 rfl) h_r6 h_r7 hq) dX11_put_102 (fun M4 _ => ?_)
            refine c_aload_n G dX11_put_105 rfl 1 rfl ?_
            refine c_callV_V (d := 5) (rest := []) G [] yv_X11_reckonAnew ml_X11_354 (by omega) (by decide) rfl rfl (Nat.le_of_ble_eq_true rfl) h_a0 (fun q hq => con_X11_reckonAnew h_a0 hq) dX11_put_106 (fun M5 _ => ?_)
            refine c_aload_n G dX11_put_109 rfl 1 rfl ?_
            refine c_iload_n G dX11_put_110 rfl 0 rfl ?_
            refine c_callV_I (d := 0) (rest := []) G [.int v1] yv_X11_answer ml_X11_147 (by omega) (by decide) rfl rfl (Nat.le_of_ble_eq_true rfl) h_a0 (fun q hq => con_X11_answer h_a0 hq) dX11_put_111 (fun q6 _ => ?_)
            exact c_iret G hQ dX11_put_114
    · skip
      refine c_aload_n G dX11_put_11 rfl 0 rfl ?_
      refine c_iconst G (nI 1) dX11_put_12 kI_1 ?_
      refine c_callV_I (d := 0) (rest := []) G [.int (nI 1)] yv_X11_refuse ml_X11_113 (by omega) (by decide) rfl rfl (Nat.le_of_ble_eq_true rfl) h_a0 (fun q hq => con_X11_refuse h_a0 hq) dX11_put_13 (fun q7 _ => ?_)
      exact c_iret G hQ dX11_put_16
set_option maxHeartbeats 4000000 in
set_option maxRecDepth 100000 in
theorem con_X11_give {w : Wp} {N : Nat} {a0 : Nat} {a1 : Int32} {a2 : Int32} {M : Mm} {q : Int32 × Mm} (h_a0 : lay a0 = (5, 11)) (hq : D_X11_give N a0 a1 a2 M = some q) : Con w 6 yX11_give cX11_give 4 (some .int) [.ref (wB w + pz (a0)), .int a1, .int a2] M (encI q) := by
  refine Con.of encI q _ hq (by decide) (Nat.le_of_ble_eq_true rfl) ?_
  intro X G Q hQ
  have G : Good w X cX11_give 4 RX11 (some .int) 6 := G
  refine c_weak [(0, .ref (wB w + pz (a0))), (1, .int a1), (2, .int a2)] [0, 1, 2] rfl ?_
  rw [D_X11_give]
  refine c_aload_n G dX11_give_0 rfl 0 rfl ?_
  refine c_getR (c' := 8) G fl_X11_85 h_a0 rfl dX11_give_1 (fun r1 _ h_r1 => ?_)
  refine c_getI G fl_X11_150 h_r1 rfl dX11_give_4 ?_
  refine c_if_ne (tgt := 16) G dX11_give_7 (by decide) (fun _ => ?_) (fun _ => ?_)
  · skip
    refine c_aload_n G dX11_give_10 rfl 0 rfl ?_
    refine c_iconst G (nI 3) dX11_give_11 kI_3 ?_
    refine c_callV_I (d := 0) (rest := []) G [.int (nI 3)] yv_X11_refuse ml_X11_113 (by omega) (by decide) rfl rfl (Nat.le_of_ble_eq_true rfl) h_a0 (fun q hq => con_X11_refuse h_a0 hq) dX11_give_12 (fun q1 _ => ?_)
    exact c_iret G hQ dX11_give_15
  · skip
    refine c_iload_n G dX11_give_16 rfl 1 rfl ?_
    refine c_if_lt (tgt := 33) G dX11_give_17 (by decide) (fun _ => ?_) (fun _ => ?_)
    · skip
      refine c_aload_n G dX11_give_33 rfl 0 rfl ?_
      refine c_iconst G (nI 4) dX11_give_34 kI_4 ?_
      refine c_callV_I (d := 0) (rest := []) G [.int (nI 4)] yv_X11_refuse ml_X11_113 (by omega) (by decide) rfl rfl (Nat.le_of_ble_eq_true rfl) h_a0 (fun q hq => con_X11_refuse h_a0 hq) dX11_give_35 (fun q2 _ => ?_)
      exact c_iret G hQ dX11_give_38
    · skip
      refine c_iload_n G dX11_give_20 rfl 1 rfl ?_
      refine c_aload_n G dX11_give_21 rfl 0 rfl ?_
      refine c_getR (c' := 8) G fl_X11_85 h_a0 rfl dX11_give_22 (fun r2 _ h_r2 => ?_)
      refine c_getF G fl_X11_357 h_r2 rfl dX11_give_25 ?_
      refine c_iconst G (nI 0) dX11_give_28 kI_0 ?_
      refine c_iald G (lf h_r2 8 rfl) dX11_give_29 (fun v1 _ => ?_)
      refine c_icmp_lt (tgt := 39) G dX11_give_30 (by decide) (fun _ => ?_) (fun _ => ?_)
      · skip
        refine c_aload_n G dX11_give_39 rfl 0 rfl ?_
        refine c_getR (c' := 8) G fl_X11_85 h_a0 rfl dX11_give_40 (fun r3 _ h_r3 => ?_)
        refine c_getF G fl_X11_358 h_r3 rfl dX11_give_43 ?_
        refine c_iload_n G dX11_give_46 rfl 1 rfl ?_
        refine c_iald G (lf h_r3 12 rfl) dX11_give_47 (fun v2 _ => ?_)
        refine c_istore_n G [(3, .int v2), (0, .ref (wB w + pz (a0))), (1, .int a1), (2, .int a2)] dX11_give_48 rfl (by decide) rfl ?_
        refine c_aload_n G dX11_give_49 rfl 1 rfl ?_
        refine c_getR (c' := 8) G fl_X11_85 h_a0 rfl dX11_give_50 (fun r4 _ h_r4 => ?_)
        refine c_getF G fl_X11_358 h_r4 rfl dX11_give_53 ?_
        refine c_iload_n G dX11_give_56 rfl 2 rfl ?_
        refine c_iload_n G dX11_give_57 rfl 3 rfl ?_
        refine c_iast G (lf h_r4 12 rfl) dX11_give_58 (fun M1 _ => ?_)
        refine c_aload_n G dX11_give_59 rfl 1 rfl ?_
        refine c_getF G fl_X11_68 h_a0 rfl dX11_give_60 ?_
        refine c_aload_n G dX11_give_63 rfl 1 rfl ?_
        refine c_getR (c' := 8) G fl_X11_85 h_a0 rfl dX11_give_64 (fun r5 _ h_r5 => ?_)
        refine c_getI G fl_X11_150 h_r5 rfl dX11_give_67 ?_
        refine c_callV_V (d := 1) (rest := []) G [.int (M1.1 r5 0)] yv_X0_begin ml_X11_349 (by omega) (by decide) rfl rfl (Nat.le_of_ble_eq_true rfl) (lf h_a0 10 rfl) (fun q hq => con_X0_begin (lf h_a0 10 rfl) hq) dX11_give_70 (fun M2 _ => ?_)
        refine c_iload_n G dX11_give_73 rfl 0 rfl ?_
        refine c_iload_n G dX11_give_74 rfl 3 rfl ?_
        refine c_icmp_eq (tgt := 86) G dX11_give_75 (by decide) (fun _ => ?_) (fun _ => ?_)
        · skip
          refine c_aload_n G dX11_give_86 rfl 1 rfl ?_
          refine c_callV_V (d := 5) (rest := []) G [] yv_X11_reckonAnew ml_X11_354 (by omega) (by decide) rfl rfl (Nat.le_of_ble_eq_true rfl) h_a0 (fun q hq => con_X11_reckonAnew h_a0 hq) dX11_give_87 (fun M3 _ => ?_)
          refine c_aload_n G dX11_give_90 rfl 1 rfl ?_
          refine c_iload_n G dX11_give_91 rfl 0 rfl ?_
          refine c_callV_I (d := 0) (rest := []) G [.int v2] yv_X11_answer ml_X11_147 (by omega) (by decide) rfl rfl (Nat.le_of_ble_eq_true rfl) h_a0 (fun q hq => con_X11_answer h_a0 hq) dX11_give_92 (fun q3 _ => ?_)
          exact c_iret G hQ dX11_give_95
        · skip
          refine c_aload_n G dX11_give_78 rfl 1 rfl ?_
          refine c_getF G fl_X11_68 h_a0 rfl dX11_give_79 ?_
          refine c_iload_n G dX11_give_82 rfl 2 rfl ?_
          refine c_callV_V (d := 0) (rest := []) G [.int a1] yv_X0_mark ml_X11_361 (by omega) (by decide) rfl rfl (Nat.le_of_ble_eq_true rfl) (lf h_a0 10 rfl) (fun q hq => con_X0_mark (lf h_a0 10 rfl) hq) dX11_give_83 (fun M4 _ => ?_)
          refine c_aload_n G dX11_give_86 rfl 1 rfl ?_
          refine c_callV_V (d := 5) (rest := []) G [] yv_X11_reckonAnew ml_X11_354 (by omega) (by decide) rfl rfl (Nat.le_of_ble_eq_true rfl) h_a0 (fun q hq => con_X11_reckonAnew h_a0 hq) dX11_give_87 (fun M5 _ => ?_)
          refine c_aload_n G dX11_give_90 rfl 1 rfl ?_
          refine c_iload_n G dX11_give_91 rfl 0 rfl ?_
          refine c_callV_I (d := 0) (rest := []) G [.int v2] yv_X11_answer ml_X11_147 (by omega) (by decide) rfl rfl (Nat.le_of_ble_eq_true rfl) h_a0 (fun q hq => con_X11_answer h_a0 hq) dX11_give_92 (fun q4 _ => ?_)
          exact c_iret G hQ dX11_give_95
      · skip
        refine c_aload_n G dX11_give_33 rfl 0 rfl ?_
        refine c_iconst G (nI 4) dX11_give_34 kI_4 ?_
        refine c_callV_I (d := 0) (rest := []) G [.int (nI 4)] yv_X11_refuse ml_X11_113 (by omega) (by decide) rfl rfl (Nat.le_of_ble_eq_true rfl) h_a0 (fun q hq => con_X11_refuse h_a0 hq) dX11_give_35 (fun q5 _ => ?_)
        exact c_iret G hQ dX11_give_38
set_option maxHeartbeats 4000000 in
set_option maxRecDepth 100000 in
theorem cl_X8_copyAhead_22 {w : Wp} {X : Cx} {Q : State → Prop} {ρ : Mm} (G : Good w X cX8_copyAhead 5 RX8 none 2) (hQ : Q = MQ (xL X) (Qd w (encV ρ)) (xA X) (xS X) (xk X) (xs X) (Aw w)) {a3 : Int32} {a2 : Nat} {N : Nat} {a0 : Nat} {a1 : Nat} (h_a2 : lay a2 = (5, 8)) (h_a0 : lay a0 = (5, 8)) (h_a1 : lay a1 = (5, 1)) : ∀ (n : Nat) (l4_1 : Int32) (M3 : Mm), Cov w X Q ρ some 5 22 [(0, .ref (wB w + pz (a0))), (1, .ref (wB w + pz (a1))), (2, .ref (wB w + pz (a2))), (3, .int a3), (4, .int l4_1)] [] M3 (L_X8_copyAhead_22 a3 a2 N a0 a1 n l4_1 M3) := by
  intro n
  induction n with
  | zero => intro l4_1 M3; exact c_none
  | succ n ih =>
    intro l4_1 M3
    rw [L_X8_copyAhead_22]
    refine c_iload G dX8_copyAhead_22 4 rfl ?_
    refine c_iload_n G dX8_copyAhead_24 rfl 3 rfl ?_
    refine c_icmp_ge (tgt := 67) G dX8_copyAhead_25 (by decide) (fun _ => ?_) (fun _ => ?_)
    · skip
      exact c_vret G hQ dX8_copyAhead_67
    · skip
      refine c_aload_n G dX8_copyAhead_28 rfl 0 rfl ?_
      refine c_aload_n G dX8_copyAhead_29 rfl 1 rfl ?_
      refine c_aload_n G dX8_copyAhead_30 rfl 2 rfl ?_
      refine c_getF G fl_X8_9 h_a2 rfl dX8_copyAhead_31 ?_
      refine c_iload G dX8_copyAhead_34 4 rfl ?_
      refine c_iald G (lf h_a2 1 rfl) dX8_copyAhead_36 (fun v1 _ => ?_)
      refine c_aload_n G dX8_copyAhead_37 rfl 2 rfl ?_
      refine c_getF G fl_X8_15 h_a2 rfl dX8_copyAhead_38 ?_
      refine c_iload G dX8_copyAhead_41 4 rfl ?_
      refine c_iald G (lf h_a2 2 rfl) dX8_copyAhead_43 (fun v2 _ => ?_)
      refine c_aload_n G dX8_copyAhead_44 rfl 2 rfl ?_
      refine c_getF G fl_X8_18 h_a2 rfl dX8_copyAhead_45 ?_
      refine c_iload G dX8_copyAhead_48 4 rfl ?_
      refine c_iald G (lf h_a2 3 rfl) dX8_copyAhead_50 (fun v3 _ => ?_)
      refine c_aload_n G dX8_copyAhead_51 rfl 2 rfl ?_
      refine c_getF G fl_X8_21 h_a2 rfl dX8_copyAhead_52 ?_
      refine c_iload G dX8_copyAhead_55 4 rfl ?_
      refine c_iald G (lf h_a2 4 rfl) dX8_copyAhead_57 (fun v4 _ => ?_)
      refine c_callV_V (d := 1) (rest := []) G [.ref (wB w + pz (a1)), .int v1, .int v2, .int v3, .int v4] yv_X8_add ml_X8_93 (by omega) (by decide) rfl rfl (Nat.le_of_ble_eq_true rfl) h_a0 (fun q hq => con_X8_add h_a0 h_a1 hq) dX8_copyAhead_58 (fun M4 _ => ?_)
      refine c_iinc G (fun y__ => [(4, .int y__), (0, .ref (wB w + pz (a0))), (1, .ref (wB w + pz (a1))), (2, .ref (wB w + pz (a2))), (3, .int a3)]) dX8_copyAhead_61 4 rfl kI_1 (by decide) (fun _ => rfl) (fun l4_2 _ => ?_)
      refine c_goto (tgt := 22) G dX8_copyAhead_64 (by decide) ?_
      exact c_weak _ [1, 2, 3, 4, 0] rfl (ih l4_2 M4)
set_option maxHeartbeats 4000000 in
set_option maxRecDepth 100000 in
theorem con_X8_copyAhead {w : Wp} {N : Nat} {a0 : Nat} {a1 : Nat} {a2 : Nat} {a3 : Int32} {M : Mm} {q : Mm} (h_a0 : lay a0 = (5, 8)) (h_a1 : lay a1 = (5, 1)) (h_a2 : lay a2 = (5, 8)) (hq : D_X8_copyAhead N a0 a1 a2 a3 M = some q) : Con w 2 yX8_copyAhead cX8_copyAhead 5 none [.ref (wB w + pz (a0)), .ref (wB w + pz (a1)), .ref (wB w + pz (a2)), .int a3] M (encV q) := by
  refine Con.of encV q _ hq (by decide) (Nat.le_of_ble_eq_true rfl) ?_
  intro X G Q hQ
  have G : Good w X cX8_copyAhead 5 RX8 none 2 := G
  refine c_weak [(0, .ref (wB w + pz (a0))), (1, .ref (wB w + pz (a1))), (2, .ref (wB w + pz (a2))), (3, .int a3)] [0, 1, 2, 3] rfl ?_
  rw [D_X8_copyAhead]
  refine c_aload_n G dX8_copyAhead_0 rfl 0 rfl ?_
  refine c_iconst G (nI 0) dX8_copyAhead_1 kI_0 ?_
  refine c_putI G fp_X8_64 h_a0 rfl dX8_copyAhead_2 (fun M1 _ => ?_)
  refine c_aload_n G dX8_copyAhead_5 rfl 2 rfl ?_
  refine c_getF G fl_X8_45 h_a2 rfl dX8_copyAhead_6 ?_
  refine c_iconst G (nI 0) dX8_copyAhead_9 kI_0 ?_
  refine c_aload_n G dX8_copyAhead_10 rfl 0 rfl ?_
  refine c_getF G fl_X8_45 h_a0 rfl dX8_copyAhead_11 ?_
  refine c_iconst G (nI 0) dX8_copyAhead_14 kI_0 ?_
  refine c_iconst G (nI 4) dX8_copyAhead_15 kI_4 ?_
  refine c_copy G ml_X8_87 ac_nat ac_sta ac_ini (by omega) (Nat.le_of_ble_eq_true rfl) (lf h_a2 12 rfl) (lf h_a0 12 rfl) dX8_copyAhead_16 (fun M2 _ => ?_)
  refine c_iconst G (nI 0) dX8_copyAhead_19 kI_0 ?_
  refine c_istore G [(4, .int (nI 0)), (0, .ref (wB w + pz (a0))), (1, .ref (wB w + pz (a1))), (2, .ref (wB w + pz (a2))), (3, .int a3)] dX8_copyAhead_20 (by decide) rfl ?_
  refine c_weak _ [1, 2, 3, 4, 0] rfl (cl_X8_copyAhead_22 G hQ  h_a2 h_a0 h_a1 N (nI 0) M2)
set_option maxHeartbeats 4000000 in
set_option maxRecDepth 100000 in
theorem cl_X8_copyBehind_14 {w : Wp} {X : Cx} {Q : State → Prop} {ρ : Mm} (G : Good w X cX8_copyBehind 8 RX8 none 2) (hQ : Q = MQ (xL X) (Qd w (encV ρ)) (xA X) (xS X) (xk X) (xs X) (Aw w)) {a2 : Nat} {a3 : Int32} {v1 : Int32} {a4 : Int32} {N : Nat} {a0 : Nat} {a1 : Nat} (h_a2 : lay a2 = (5, 8)) (h_a0 : lay a0 = (5, 8)) (h_a1 : lay a1 = (5, 1)) : ∀ (n : Nat) (l6_2 : Int32) (M1 : Mm), Cov w X Q ρ some 8 14 [(0, .ref (wB w + pz (a0))), (1, .ref (wB w + pz (a1))), (2, .ref (wB w + pz (a2))), (3, .int a3), (4, .int a4), (5, .int v1), (6, .int l6_2)] [] M1 (L_X8_copyBehind_14 a2 a3 v1 a4 N a0 a1 n l6_2 M1) := by
  intro n
  induction n with
  | zero => intro l6_2 M1; exact c_none
  | succ n ih =>
    intro l6_2 M1
    rw [L_X8_copyBehind_14]
    refine c_iload G dX8_copyBehind_14 6 rfl ?_
    refine c_aload_n G dX8_copyBehind_16 rfl 2 rfl ?_
    refine c_getI G fl_X8_64 h_a2 rfl dX8_copyBehind_17 ?_
    refine c_icmp_ge (tgt := 83) G dX8_copyBehind_20 (by decide) (fun _ => ?_) (fun _ => ?_)
    · skip
      exact c_vret G hQ dX8_copyBehind_83
    · skip
      refine c_aload_n G dX8_copyBehind_23 rfl 2 rfl ?_
      refine c_getF G fl_X8_18 h_a2 rfl dX8_copyBehind_24 ?_
      refine c_iload G dX8_copyBehind_27 6 rfl ?_
      refine c_iald G (lf h_a2 3 rfl) dX8_copyBehind_29 (fun v2 _ => ?_)
      refine c_istore G [(7, .int v2), (0, .ref (wB w + pz (a0))), (1, .ref (wB w + pz (a1))), (2, .ref (wB w + pz (a2))), (3, .int a3), (4, .int a4), (5, .int v1), (6, .int l6_2)] dX8_copyBehind_30 (by decide) rfl ?_
      refine c_aload_n G dX8_copyBehind_32 rfl 1 rfl ?_
      refine c_aload_n G dX8_copyBehind_33 rfl 2 rfl ?_
      refine c_aload_n G dX8_copyBehind_34 rfl 3 rfl ?_
      refine c_getF G fl_X8_9 h_a2 rfl dX8_copyBehind_35 ?_
      refine c_iload G dX8_copyBehind_38 7 rfl ?_
      refine c_iald G (lf h_a2 1 rfl) dX8_copyBehind_40 (fun v3 _ => ?_)
      refine c_aload_n G dX8_copyBehind_41 rfl 3 rfl ?_
      refine c_getF G fl_X8_15 h_a2 rfl dX8_copyBehind_42 ?_
      refine c_iload G dX8_copyBehind_45 7 rfl ?_
      refine c_iald G (lf h_a2 2 rfl) dX8_copyBehind_47 (fun v4 _ => ?_)
      refine c_iload G dX8_copyBehind_48 0 rfl ?_
      refine c_iload_n G dX8_copyBehind_50 rfl 4 rfl ?_
      refine c_bj (ej := fun (p67 : Int32) => [(0, .ref (wB w + pz (a0))), (1, .ref (wB w + pz (a1))), (2, .ref (wB w + pz (a2))), (3, .int a3), (4, .int a4), (5, .int v1), (6, .int l6_2)]) (sj := fun p67 => [.int p67, .int v4, .int v3, .ref (wB w + pz (a1)), .ref (wB w + pz (a0))]) (mj := fun p67 => M1) (pj := 67) (fun p67 => ?_) (fun F hJ67 => ?_)
      · skip
        refine c_aload_n G dX8_copyBehind_67 rfl 2 rfl ?_
        refine c_getF G fl_X8_21 h_a2 rfl dX8_copyBehind_68 ?_
        refine c_iload G dX8_copyBehind_71 6 rfl ?_
        refine c_iald G (lf h_a2 4 rfl) dX8_copyBehind_73 (fun v5 _ => ?_)
        refine c_callV_V (d := 1) (rest := []) G [.ref (wB w + pz (a1)), .int v3, .int v4, .int p67, .int v5] yv_X8_add ml_X8_93 (by omega) (by decide) rfl rfl (Nat.le_of_ble_eq_true rfl) h_a0 (fun q hq => con_X8_add h_a0 h_a1 hq) dX8_copyBehind_74 (fun M2 _ => ?_)
        refine c_iinc G (fun y__ => [(6, .int y__), (0, .ref (wB w + pz (a0))), (1, .ref (wB w + pz (a1))), (2, .ref (wB w + pz (a2))), (3, .int a3), (4, .int a4), (5, .int v1)]) dX8_copyBehind_77 6 rfl kI_1 (by decide) (fun _ => rfl) (fun l6_3 _ => ?_)
        refine c_goto (tgt := 14) G dX8_copyBehind_80 (by decide) ?_
        exact c_weak _ [1, 2, 3, 4, 5, 6, 0] rfl (ih l6_3 M2)
      · skip
        refine c_icmp_ge (tgt := 59) G dX8_copyBehind_51 (by decide) (fun _ => ?_) (fun _ => ?_)
        · skip
          refine c_iload G dX8_copyBehind_59 0 rfl ?_
          refine c_iload G dX8_copyBehind_61 6 rfl ?_
          refine c_isub G dX8_copyBehind_63 ?_
          refine c_iload G dX8_copyBehind_64 5 rfl ?_
          refine c_iadd G dX8_copyBehind_66 ?_
          exact c_weak _ [1, 2, 3, 4, 5, 6, 7] rfl (hJ67 ((v2 - v1) + a4))
        · skip
          refine c_iload G dX8_copyBehind_54 0 rfl ?_
          refine c_goto (tgt := 67) G dX8_copyBehind_56 (by decide) ?_
          exact c_weak _ [1, 2, 3, 4, 5, 6, 7] rfl (hJ67 v2)
set_option maxHeartbeats 4000000 in
set_option maxRecDepth 100000 in
theorem con_X8_copyBehind {w : Wp} {N : Nat} {a0 : Nat} {a1 : Nat} {a2 : Nat} {a3 : Int32} {a4 : Int32} {M : Mm} {q : Mm} (h_a0 : lay a0 = (5, 8)) (h_a1 : lay a1 = (5, 1)) (h_a2 : lay a2 = (5, 8)) (hq : D_X8_copyBehind N a0 a1 a2 a3 a4 M = some q) : Con w 2 yX8_copyBehind cX8_copyBehind 8 none [.ref (wB w + pz (a0)), .ref (wB w + pz (a1)), .ref (wB w + pz (a2)), .int a3, .int a4] M (encV q) := by
  refine Con.of encV q _ hq (by decide) (Nat.le_of_ble_eq_true rfl) ?_
  intro X G Q hQ
  have G : Good w X cX8_copyBehind 8 RX8 none 2 := G
  refine c_weak [(0, .ref (wB w + pz (a0))), (1, .ref (wB w + pz (a1))), (2, .ref (wB w + pz (a2))), (3, .int a3), (4, .int a4)] [0, 1, 2, 3, 4] rfl ?_
  rw [D_X8_copyBehind]
  refine c_aload_n G dX8_copyBehind_0 rfl 2 rfl ?_
  refine c_getF G fl_X8_27 h_a2 rfl dX8_copyBehind_1 ?_
  refine c_iload_n G dX8_copyBehind_4 rfl 3 rfl ?_
  refine c_iald G (lf h_a2 6 rfl) dX8_copyBehind_5 (fun v1 _ => ?_)
  refine c_istore G [(5, .int v1), (0, .ref (wB w + pz (a0))), (1, .ref (wB w + pz (a1))), (2, .ref (wB w + pz (a2))), (3, .int a3), (4, .int a4)] dX8_copyBehind_6 (by decide) rfl ?_
  refine c_iload_n G dX8_copyBehind_8 rfl 4 rfl ?_
  refine c_iload G dX8_copyBehind_9 0 rfl ?_
  refine c_iadd G dX8_copyBehind_11 ?_
  refine c_let (fun l6_1 _ => ?_)
  refine c_istore G [(6, .int l6_1), (5, .int v1), (0, .ref (wB w + pz (a0))), (1, .ref (wB w + pz (a1))), (2, .ref (wB w + pz (a2))), (3, .int a3), (4, .int a4)] dX8_copyBehind_12 (by decide) rfl ?_
  refine c_weak _ [2, 3, 4, 5, 6, 1, 0] rfl (cl_X8_copyBehind_14 G hQ  h_a2 h_a0 h_a1 N l6_1 M)
set_option maxHeartbeats 4000000 in
set_option maxRecDepth 100000 in
theorem cl_X0_beginGraft_22 {w : Wp} {X : Cx} {Q : State → Prop} {ρ : Mm} (G : Good w X cX0_beginGraft 6 RX0 none 2) (hQ : Q = MQ (xL X) (Qd w (encV ρ)) (xA X) (xS X) (xk X) (xs X) (Aw w)) (kE52 : Mm → Option (Mm)) {a2 : Int32} {a4 : Int32} {a0 : Nat} {a1 : Int32} {a3 : Int32} (h_a0 : lay a0 = (5, 0)) (hE52 : ∀ (Mz : Mm), Cov w X Q ρ some 6 52 [(0, .ref (wB w + pz (a0))), (1, .int a1), (2, .int a2), (3, .int a3), (4, .int a4)] [] Mz (kE52 Mz)) : ∀ (n : Nat) (l5_2 : Int32) (M4 : Mm), Cov w X Q ρ some 6 22 [(0, .ref (wB w + pz (a0))), (1, .int a1), (2, .int a2), (3, .int a3), (4, .int a4), (5, .int l5_2)] [] M4 (L_X0_beginGraft_22 kE52 a2 a4 a0 n l5_2 M4) := by
  intro n
  induction n with
  | zero => intro l5_2 M4; exact c_none
  | succ n ih =>
    intro l5_2 M4
    rw [L_X0_beginGraft_22]
    refine c_iload G dX0_beginGraft_22 5 rfl ?_
    refine c_iload_n G dX0_beginGraft_24 rfl 2 rfl ?_
    refine c_iload G dX0_beginGraft_25 4 rfl ?_
    refine c_iadd G dX0_beginGraft_27 ?_
    refine c_icmp_ge (tgt := 52) G dX0_beginGraft_28 (by decide) (fun _ => ?_) (fun _ => ?_)
    · skip
      exact c_weak _ [0, 1, 2, 3, 4] rfl (hE52 M4)
    · skip
      refine c_iload G dX0_beginGraft_31 5 rfl ?_
      refine c_bipush G (nI 40) dX0_beginGraft_33 kB_40 ?_
      refine c_icmp_ge (tgt := 52) G dX0_beginGraft_35 (by decide) (fun _ => ?_) (fun _ => ?_)
      · skip
        exact c_weak _ [0, 1, 2, 3, 4] rfl (hE52 M4)
      · skip
        refine c_aload_n G dX0_beginGraft_38 rfl 0 rfl ?_
        refine c_getF G fl_X0_21 h_a0 rfl dX0_beginGraft_39 ?_
        refine c_iload G dX0_beginGraft_42 5 rfl ?_
        refine c_iconst G m1 dX0_beginGraft_44 kI_m1 ?_
        refine c_iast G (lf h_a0 3 rfl) dX0_beginGraft_45 (fun M5 _ => ?_)
        refine c_iinc G (fun y__ => [(5, .int y__), (0, .ref (wB w + pz (a0))), (1, .int a1), (2, .int a2), (3, .int a3), (4, .int a4)]) dX0_beginGraft_46 5 rfl kI_1 (by decide) (fun _ => rfl) (fun l5_3 _ => ?_)
        refine c_goto (tgt := 22) G dX0_beginGraft_49 (by decide) ?_
        exact c_weak _ [1, 2, 3, 4, 5, 0] rfl (ih l5_3 M5)
set_option maxHeartbeats 4000000 in
set_option maxRecDepth 100000 in
theorem cl_X0_beginGraft_57 {w : Wp} {X : Cx} {Q : State → Prop} {ρ : Mm} (G : Good w X cX0_beginGraft 6 RX0 none 2) (hQ : Q = MQ (xL X) (Qd w (encV ρ)) (xA X) (xS X) (xk X) (xs X) (Aw w)) {a1 : Int32} {a3 : Int32} {a4 : Int32} {a0 : Nat} (h_a0 : lay a0 = (5, 0)) : ∀ (n : Nat) (l5_5 : Int32) (M7 : Mm), Cov w X Q ρ some 6 57 [(0, .ref (wB w + pz (a0))), (1, .int a1), (3, .int a3), (4, .int a4), (5, .int l5_5)] [] M7 (L_X0_beginGraft_57 a1 a3 a4 a0 n l5_5 M7) := by
  intro n
  induction n with
  | zero => intro l5_5 M7; exact c_none
  | succ n ih =>
    intro l5_5 M7
    rw [L_X0_beginGraft_57]
    refine c_iload G dX0_beginGraft_57 4 rfl ?_
    refine c_iload_n G dX0_beginGraft_59 rfl 1 rfl ?_
    refine c_icmp_ge (tgt := 95) G dX0_beginGraft_60 (by decide) (fun _ => ?_) (fun _ => ?_)
    · skip
      exact c_vret G hQ dX0_beginGraft_95
    · skip
      refine c_iload G dX0_beginGraft_63 4 rfl ?_
      refine c_iload_n G dX0_beginGraft_65 rfl 2 rfl ?_
      refine c_isub G dX0_beginGraft_66 ?_
      refine c_iload G dX0_beginGraft_67 3 rfl ?_
      refine c_iadd G dX0_beginGraft_69 ?_
      refine c_bipush G (nI 40) dX0_beginGraft_70 kB_40 ?_
      refine c_icmp_ge (tgt := 95) G dX0_beginGraft_72 (by decide) (fun _ => ?_) (fun _ => ?_)
      · skip
        exact c_vret G hQ dX0_beginGraft_95
      · skip
        refine c_aload_n G dX0_beginGraft_75 rfl 0 rfl ?_
        refine c_getF G fl_X0_21 h_a0 rfl dX0_beginGraft_76 ?_
        refine c_iload G dX0_beginGraft_79 4 rfl ?_
        refine c_iload_n G dX0_beginGraft_81 rfl 2 rfl ?_
        refine c_isub G dX0_beginGraft_82 ?_
        refine c_iload G dX0_beginGraft_83 3 rfl ?_
        refine c_iadd G dX0_beginGraft_85 ?_
        refine c_iload G dX0_beginGraft_86 4 rfl ?_
        refine c_iast G (lf h_a0 3 rfl) dX0_beginGraft_88 (fun M8 _ => ?_)
        refine c_iinc G (fun y__ => [(5, .int y__), (0, .ref (wB w + pz (a0))), (1, .int a1), (3, .int a3), (4, .int a4)]) dX0_beginGraft_89 4 rfl kI_1 (by decide) (fun _ => rfl) (fun l5_6 _ => ?_)
        refine c_goto (tgt := 57) G dX0_beginGraft_92 (by decide) ?_
        exact c_weak _ [1, 2, 3, 4, 0] rfl (ih l5_6 M8)
set_option maxHeartbeats 4000000 in
set_option maxRecDepth 100000 in
theorem con_X0_beginGraft {w : Wp} {N : Nat} {a0 : Nat} {a1 : Int32} {a2 : Int32} {a3 : Int32} {a4 : Int32} {M : Mm} {q : Mm} (h_a0 : lay a0 = (5, 0)) (hq : D_X0_beginGraft N a0 a1 a2 a3 a4 M = some q) : Con w 2 yX0_beginGraft cX0_beginGraft 6 none [.ref (wB w + pz (a0)), .int a1, .int a2, .int a3, .int a4] M (encV q) := by
  refine Con.of encV q _ hq (by decide) (Nat.le_of_ble_eq_true rfl) ?_
  intro X G Q hQ
  have G : Good w X cX0_beginGraft 6 RX0 none 2 := G
  refine c_weak [(0, .ref (wB w + pz (a0))), (1, .int a1), (2, .int a2), (3, .int a3), (4, .int a4)] [0, 1, 2, 3, 4] rfl ?_
  rw [D_X0_beginGraft]
  refine c_aload_n G dX0_beginGraft_0 rfl 0 rfl ?_
  refine c_iload_n G dX0_beginGraft_1 rfl 2 rfl ?_
  refine c_iconst G (nI 1) dX0_beginGraft_2 kI_1 ?_
  refine c_iadd G dX0_beginGraft_3 ?_
  refine c_callV_V (d := 1) (rest := []) G [.int (a2 + (nI 1))] yv_X0_begin ml_X0_29 (by omega) (by decide) rfl rfl (Nat.le_of_ble_eq_true rfl) h_a0 (fun q hq => con_X0_begin h_a0 hq) dX0_beginGraft_4 (fun M1 _ => ?_)
  refine c_aload_n G dX0_beginGraft_7 rfl 0 rfl ?_
  refine c_iload_n G dX0_beginGraft_8 rfl 2 rfl ?_
  refine c_putI G fp_X0_33 h_a0 rfl dX0_beginGraft_9 (fun M2 _ => ?_)
  refine c_aload_n G dX0_beginGraft_12 rfl 0 rfl ?_
  refine c_iload_n G dX0_beginGraft_13 rfl 3 rfl ?_
  refine c_putI G fp_X0_37 h_a0 rfl dX0_beginGraft_14 (fun M3 _ => ?_)
  refine c_iload_n G dX0_beginGraft_17 rfl 2 rfl ?_
  refine c_iconst G (nI 1) dX0_beginGraft_18 kI_1 ?_
  refine c_iadd G dX0_beginGraft_19 ?_
  refine c_let (fun l5_1 _ => ?_)
  refine c_istore G [(5, .int l5_1), (0, .ref (wB w + pz (a0))), (1, .int a1), (2, .int a2), (3, .int a3), (4, .int a4)] dX0_beginGraft_20 (by decide) rfl ?_
  refine c_weak _ [1, 2, 3, 4, 5, 0] rfl (cl_X0_beginGraft_22 G hQ _ h_a0 ?_ N l5_1 M3)
  · intro M6
    refine c_iload_n G dX0_beginGraft_52 rfl 2 rfl ?_
    refine c_iload_n G dX0_beginGraft_53 rfl 3 rfl ?_
    refine c_iadd G dX0_beginGraft_54 ?_
    refine c_let (fun l5_4 _ => ?_)
    refine c_istore G [(5, .int l5_4), (0, .ref (wB w + pz (a0))), (1, .int a1), (2, .int a2), (3, .int a3), (4, .int a4)] dX0_beginGraft_55 (by decide) rfl ?_
    refine c_weak _ [1, 2, 4, 5, 0] rfl (cl_X0_beginGraft_57 G hQ  h_a0 N l5_4 M6)
set_option maxHeartbeats 4000000 in
set_option maxRecDepth 100000 in
theorem cl_X0_findGone_15 {w : Wp} {X : Cx} {Q : State → Prop} {ρ : Mm} (G : Good w X cX0_findGone 5 RX0 none 1) (hQ : Q = MQ (xL X) (Qd w (encV ρ)) (xA X) (xS X) (xk X) (xs X) (Aw w)) {a0 : Nat} {N : Nat} {a1 : Nat} {a2 : Nat} (h_a0 : lay a0 = (5, 0)) (h_a1 : lay a1 = (5, 8)) (h_a2 : lay a2 = (5, 4)) : ∀ (n : Nat) (l3_2 : Int32) (M2 : Mm), Cov w X Q ρ some 5 15 [(0, .ref (wB w + pz (a0))), (1, .ref (wB w + pz (a1))), (2, .ref (wB w + pz (a2))), (3, .int l3_2)] [] M2 (L_X0_findGone_15 a0 N a1 a2 n l3_2 M2) := by
  intro n
  induction n with
  | zero => intro l3_2 M2; exact c_none
  | succ n ih =>
    intro l3_2 M2
    rw [L_X0_findGone_15]
    refine c_iload_n G dX0_findGone_15 rfl 3 rfl ?_
    refine c_bipush G (nI 8) dX0_findGone_16 kB_8 ?_
    refine c_aload_n G dX0_findGone_18 rfl 0 rfl ?_
    refine c_getI G fl_X0_33 h_a0 rfl dX0_findGone_19 ?_
    refine c_aload_n G dX0_findGone_22 rfl 0 rfl ?_
    refine c_getI G fl_X0_37 h_a0 rfl dX0_findGone_23 ?_
    refine c_iadd G dX0_findGone_26 ?_
    refine c_imul G dX0_findGone_27 ?_
    refine c_icmp_ge (tgt := 74) G dX0_findGone_28 (by decide) (fun _ => ?_) (fun _ => ?_)
    · skip
      exact c_vret G hQ dX0_findGone_74
    · skip
      refine c_aload_n G dX0_findGone_31 rfl 1 rfl ?_
      refine c_iload_n G dX0_findGone_32 rfl 3 rfl ?_
      refine c_bipush G (nI 8) dX0_findGone_33 kB_8 ?_
      refine c_idiv G dX0_findGone_35 (fun v1 _ => ?_)
      refine c_iload_n G dX0_findGone_36 rfl 3 rfl ?_
      refine c_bipush G (nI 8) dX0_findGone_37 kB_8 ?_
      refine c_irem G dX0_findGone_39 (fun v2 _ => ?_)
      refine c_callV_PI (d := 0) (rest := []) G [.int v1, .int v2] yv_X8_hasInstance ml_X0_64 (by omega) (by decide) rfl rfl (Nat.le_of_ble_eq_true rfl) h_a1 (fun q hq => con_X8_hasInstance h_a1 hq) dX0_findGone_40 (fun q1 _ => ?_)
      refine c_if_eq (tgt := 68) G dX0_findGone_43 (by decide) (fun _ => ?_) (fun _ => ?_)
      · skip
        refine c_iinc G (fun y__ => [(3, .int y__), (0, .ref (wB w + pz (a0))), (1, .ref (wB w + pz (a1))), (2, .ref (wB w + pz (a2)))]) dX0_findGone_68 3 rfl kI_1 (by decide) (fun _ => rfl) (fun l3_3 _ => ?_)
        refine c_goto (tgt := 15) G dX0_findGone_71 (by decide) ?_
        exact c_weak _ [1, 2, 3, 0] rfl (ih l3_3 M2)
      · skip
        refine c_aload_n G dX0_findGone_46 rfl 2 rfl ?_
        refine c_getF G fl_X0_75 h_a2 rfl dX0_findGone_47 ?_
        refine c_iload_n G dX0_findGone_50 rfl 3 rfl ?_
        refine c_iald G (lf h_a2 2 rfl) dX0_findGone_51 (fun v3 _ => ?_)
        refine c_istore G [(4, .int v3), (0, .ref (wB w + pz (a0))), (1, .ref (wB w + pz (a1))), (2, .ref (wB w + pz (a2))), (3, .int l3_2)] dX0_findGone_52 (by decide) rfl ?_
        refine c_aload_n G dX0_findGone_54 rfl 1 rfl ?_
        refine c_getF G fl_X0_18 h_a0 rfl dX0_findGone_55 ?_
        refine c_iload G dX0_findGone_58 0 rfl ?_
        refine c_aload_n G dX0_findGone_60 rfl 3 rfl ?_
        refine c_getF G fl_X0_80 h_a2 rfl dX0_findGone_61 ?_
        refine c_iload G dX0_findGone_64 0 rfl ?_
        refine c_zald G (lf h_a2 3 rfl) dX0_findGone_66 (fun v4 _ => ?_)
        refine c_zast G (lf h_a0 2 rfl) dX0_findGone_67 (fun M3 _ => ?_)
        refine c_iinc G (fun y__ => [(3, .int y__), (4, .int v3), (0, .ref (wB w + pz (a0))), (1, .ref (wB w + pz (a1))), (2, .ref (wB w + pz (a2)))]) dX0_findGone_68 4 rfl kI_1 (by decide) (fun _ => rfl) (fun l3_4 _ => ?_)
        refine c_goto (tgt := 15) G dX0_findGone_71 (by decide) ?_
        exact c_weak _ [2, 3, 4, 0] rfl (ih l3_4 M3)
set_option maxHeartbeats 4000000 in
set_option maxRecDepth 100000 in
theorem con_X0_findGone {w : Wp} {N : Nat} {a0 : Nat} {a1 : Nat} {a2 : Nat} {M : Mm} {q : Mm} (h_a0 : lay a0 = (5, 0)) (h_a1 : lay a1 = (5, 8)) (h_a2 : lay a2 = (5, 4)) (hq : D_X0_findGone N a0 a1 a2 M = some q) : Con w 1 yX0_findGone cX0_findGone 5 none [.ref (wB w + pz (a0)), .ref (wB w + pz (a1)), .ref (wB w + pz (a2))] M (encV q) := by
  refine Con.of encV q _ hq (by decide) (Nat.le_of_ble_eq_true rfl) ?_
  intro X G Q hQ
  have G : Good w X cX0_findGone 5 RX0 none 1 := G
  refine c_weak [(0, .ref (wB w + pz (a0))), (1, .ref (wB w + pz (a1))), (2, .ref (wB w + pz (a2)))] [0, 1, 2] rfl ?_
  rw [D_X0_findGone]
  refine c_aload_n G dX0_findGone_0 rfl 0 rfl ?_
  refine c_getF G fl_X0_18 h_a0 rfl dX0_findGone_1 ?_
  refine c_callN_V (d := 0) (rest := []) G [.ref (wB w + pz ((a0 + 3)))] ys_X11_clearFlags (nw_X0_25 (Good.nw G)) (by omega) (by decide) rfl rfl (Nat.le_of_ble_eq_true rfl) (fun q hq => con_X11_clearFlags (ll (lf h_a0 2 rfl)) hq) dX0_findGone_4 (fun M1 _ => ?_)
  refine c_bipush G (nI 8) dX0_findGone_7 kB_8 ?_
  refine c_aload_n G dX0_findGone_9 rfl 0 rfl ?_
  refine c_getI G fl_X0_33 h_a0 rfl dX0_findGone_10 ?_
  refine c_imul G dX0_findGone_13 ?_
  refine c_let (fun l3_1 _ => ?_)
  refine c_istore_n G [(3, .int l3_1), (0, .ref (wB w + pz (a0))), (1, .ref (wB w + pz (a1))), (2, .ref (wB w + pz (a2)))] dX0_findGone_14 rfl (by decide) rfl ?_
  refine c_weak _ [1, 2, 3, 0] rfl (cl_X0_findGone_15 G hQ  h_a0 h_a1 h_a2 N l3_1 M1)
set_option maxHeartbeats 4000000 in
set_option maxRecDepth 100000 in
theorem cl_X0_markGraft_21 {w : Wp} {X : Cx} {Q : State → Prop} {ρ : Mm} (G : Good w X cX0_markGraft 7 RX0 none 2) (hQ : Q = MQ (xL X) (Qd w (encV ρ)) (xA X) (xS X) (xk X) (xs X) (Aw w)) (kE131 : Mm → Option (Mm)) {N : Nat} {a2 : Nat} {l4_1 : Int32} {a0 : Nat} {a3 : Nat} (h_a2 : lay a2 = (5, 8)) (h_a0 : lay a0 = (5, 0)) (h_a3 : lay a3 = (5, 4)) (hE131 : ∀ (Mz : Mm), Cov w X Q ρ some 7 131 [(0, .ref (wB w + pz (a0))), (2, .ref (wB w + pz (a2))), (3, .ref (wB w + pz (a3))), (4, .int l4_1)] [] Mz (kE131 Mz)) : ∀ (n : Nat) (l5_1 : Int32) (M3 : Mm), Cov w X Q ρ some 7 21 [(0, .ref (wB w + pz (a0))), (2, .ref (wB w + pz (a2))), (3, .ref (wB w + pz (a3))), (4, .int l4_1), (5, .int l5_1)] [] M3 (L_X0_markGraft_21 kE131 N a2 l4_1 a0 a3 n l5_1 M3) := by
  intro n
  induction n with
  | zero => intro l5_1 M3; exact c_none
  | succ n ih =>
    intro l5_1 M3
    rw [L_X0_markGraft_21]
    refine c_iload G dX0_markGraft_21 4 rfl ?_
    refine c_bipush G (nI 8) dX0_markGraft_23 kB_8 ?_
    refine c_icmp_ge (tgt := 131) G dX0_markGraft_25 (by decide) (fun _ => ?_) (fun _ => ?_)
    · skip
      exact c_weak _ [0, 1, 2, 3] rfl (hE131 M3)
    · skip
      refine c_aload_n G dX0_markGraft_28 rfl 1 rfl ?_
      refine c_iload G dX0_markGraft_29 3 rfl ?_
      refine c_iload G dX0_markGraft_31 4 rfl ?_
      refine c_callV_PI (d := 0) (rest := []) G [.int l4_1, .int l5_1] yv_X8_hasInstance ml_X0_64 (by omega) (by decide) rfl rfl (Nat.le_of_ble_eq_true rfl) h_a2 (fun q hq => con_X8_hasInstance h_a2 hq) dX0_markGraft_33 (fun q1 _ => ?_)
      refine c_if_eq (tgt := 125) G dX0_markGraft_36 (by decide) (fun _ => ?_) (fun _ => ?_)
      · skip
        refine c_iinc G (fun y__ => [(5, .int y__), (0, .ref (wB w + pz (a0))), (2, .ref (wB w + pz (a2))), (3, .ref (wB w + pz (a3))), (4, .int l4_1)]) dX0_markGraft_125 4 rfl kI_1 (by decide) (fun _ => rfl) (fun l5_2 _ => ?_)
        refine c_goto (tgt := 21) G dX0_markGraft_128 (by decide) ?_
        exact c_weak _ [1, 2, 3, 4, 0] rfl (ih l5_2 M3)
      · skip
        refine c_aload_n G dX0_markGraft_39 rfl 0 rfl ?_
        refine c_iload G dX0_markGraft_40 3 rfl ?_
        refine c_callV_PI (d := 0) (rest := []) G [.int l4_1] yv_X0_isNew ml_X0_68 (by omega) (by decide) rfl rfl (Nat.le_of_ble_eq_true rfl) h_a0 (fun q hq => con_X0_isNew h_a0 hq) dX0_markGraft_42 (fun q2 _ => ?_)
        refine c_if_ne (tgt := 125) G dX0_markGraft_45 (by decide) (fun _ => ?_) (fun _ => ?_)
        · skip
          refine c_iload G dX0_markGraft_48 3 rfl ?_
          refine c_aload_n G dX0_markGraft_50 rfl 0 rfl ?_
          refine c_getI G fl_X0_33 h_a0 rfl dX0_markGraft_51 ?_
          refine c_bj (ej := fun (p74 : Int32) => [(0, .ref (wB w + pz (a0))), (2, .ref (wB w + pz (a2))), (3, .ref (wB w + pz (a3))), (4, .int l4_1), (5, .int l5_1)]) (sj := fun p74 => [.int p74]) (mj := fun p74 => M3) (pj := 74) (fun p74 => ?_) (fun F hJ74 => ?_)
          · skip
            refine c_istore G [(6, .int p74), (0, .ref (wB w + pz (a0))), (2, .ref (wB w + pz (a2))), (3, .ref (wB w + pz (a3))), (4, .int l4_1), (5, .int l5_1)] dX0_markGraft_74 (by decide) rfl ?_
            refine c_aload_n G dX0_markGraft_76 rfl 1 rfl ?_
            refine c_getF G fl_X0_9 h_a0 rfl dX0_markGraft_77 ?_
            refine c_bipush G (nI 8) dX0_markGraft_80 kB_8 ?_
            refine c_iload G dX0_markGraft_82 4 rfl ?_
            refine c_imul G dX0_markGraft_84 ?_
            refine c_iload G dX0_markGraft_85 5 rfl ?_
            refine c_iadd G dX0_markGraft_87 ?_
            refine c_iload G dX0_markGraft_88 0 rfl ?_
            refine c_bj (ej := fun (p124 : Int32) => [(0, .ref (wB w + pz (a0))), (2, .ref (wB w + pz (a2))), (3, .ref (wB w + pz (a3))), (4, .int l4_1), (5, .int l5_1)]) (sj := fun p124 => [.int p124, .int (((nI 8) * l4_1) + l5_1), .ref (wB w + pz ((a0 + 1)))]) (mj := fun p124 => M3) (pj := 124) (fun p124 => ?_) (fun F hJ124 => ?_)
            · skip
              refine c_zast G (lf h_a0 0 rfl) dX0_markGraft_124 (fun M4 _ => ?_)
              refine c_iinc G (fun y__ => [(5, .int y__), (0, .ref (wB w + pz (a0))), (2, .ref (wB w + pz (a2))), (3, .ref (wB w + pz (a3))), (4, .int l4_1)]) dX0_markGraft_125 4 rfl kI_1 (by decide) (fun _ => rfl) (fun l5_3 _ => ?_)
              refine c_goto (tgt := 21) G dX0_markGraft_128 (by decide) ?_
              exact c_weak _ [1, 2, 3, 4, 0] rfl (ih l5_3 M4)
            · skip
              refine c_jn (ej := fun (p119 : Unit) => [(0, .ref (wB w + pz (a0))), (2, .ref (wB w + pz (a2))), (3, .ref (wB w + pz (a3))), (4, .int l4_1), (5, .int l5_1)]) (sj := fun p119 => [.int (((nI 8) * l4_1) + l5_1), .ref (wB w + pz ((a0 + 1)))]) (mj := fun p119 => M3) (pj := 119) (fun p119 => ?_) (fun J1 hJ119 => ?_)
              · skip
                refine c_iconst G (nI 1) dX0_markGraft_119 kI_1 ?_
                refine c_goto (tgt := 124) G dX0_markGraft_120 (by decide) ?_
                exact c_weak _ [0, 1, 2, 3, 4] rfl (hJ124 (nI 1))
              · skip
                refine c_if_ne (tgt := 119) G dX0_markGraft_90 (by decide) (fun _ => ?_) (fun _ => ?_)
                · skip
                  refine c_aload_n G dX0_markGraft_93 rfl 1 rfl ?_
                  refine c_getF G fl_X0_18 h_a0 rfl dX0_markGraft_94 ?_
                  refine c_aload_n G dX0_markGraft_97 rfl 3 rfl ?_
                  refine c_getF G fl_X0_75 h_a3 rfl dX0_markGraft_98 ?_
                  refine c_bipush G (nI 8) dX0_markGraft_101 kB_8 ?_
                  refine c_aload_n G dX0_markGraft_103 rfl 1 rfl ?_
                  refine c_getF G fl_X0_21 h_a0 rfl dX0_markGraft_104 ?_
                  refine c_iload G dX0_markGraft_107 4 rfl ?_
                  refine c_iald G (lf h_a0 3 rfl) dX0_markGraft_109 (fun v1 _ => ?_)
                  refine c_imul G dX0_markGraft_110 ?_
                  refine c_iload G dX0_markGraft_111 5 rfl ?_
                  refine c_iadd G dX0_markGraft_113 ?_
                  refine c_iald G (lf h_a3 2 rfl) dX0_markGraft_114 (fun v2 _ => ?_)
                  refine c_zald G (lf h_a0 2 rfl) dX0_markGraft_115 (fun v3 _ => ?_)
                  refine c_if_eq (tgt := 123) G dX0_markGraft_116 (by decide) (fun _ => ?_) (fun _ => ?_)
                  · skip
                    refine c_iconst G (nI 0) dX0_markGraft_123 kI_0 ?_
                    exact c_weak _ [1, 2, 3, 4, 5] rfl (hJ124 (nI 0))
                  · skip
                    exact c_weak _ [1, 2, 3, 4, 5] rfl (hJ119 ())
                · skip
                  exact c_weak _ [1, 2, 3, 4, 5] rfl (hJ119 ())
          · skip
            refine c_jn (ej := fun (p73 : Unit) => [(0, .ref (wB w + pz (a0))), (2, .ref (wB w + pz (a2))), (3, .ref (wB w + pz (a3))), (4, .int l4_1), (5, .int l5_1)]) (sj := fun p73 => []) (mj := fun p73 => M3) (pj := 73) (fun p73 => ?_) (fun J2 hJ73 => ?_)
            · skip
              refine c_iconst G (nI 0) dX0_markGraft_73 kI_0 ?_
              exact c_weak _ [0, 1, 2, 3, 4] rfl (hJ74 (nI 0))
            · skip
              refine c_icmp_ne (tgt := 73) G dX0_markGraft_54 (by decide) (fun _ => ?_) (fun _ => ?_)
              · skip
                refine c_iload G dX0_markGraft_57 4 rfl ?_
                refine c_aload_n G dX0_markGraft_59 rfl 1 rfl ?_
                refine c_getF G fl_X0_72 h_a2 rfl dX0_markGraft_60 ?_
                refine c_iload G dX0_markGraft_63 3 rfl ?_
                refine c_iald G (lf h_a2 8 rfl) dX0_markGraft_65 (fun v4 _ => ?_)
                refine c_icmp_lt (tgt := 73) G dX0_markGraft_66 (by decide) (fun _ => ?_) (fun _ => ?_)
                · skip
                  exact c_weak _ [0, 1, 2, 3, 4] rfl (hJ73 ())
                · skip
                  refine c_iconst G (nI 1) dX0_markGraft_69 kI_1 ?_
                  refine c_goto (tgt := 74) G dX0_markGraft_70 (by decide) ?_
                  exact c_weak _ [0, 1, 2, 3, 4] rfl (hJ74 (nI 1))
              · skip
                exact c_weak _ [0, 1, 2, 3, 4] rfl (hJ73 ())
        · skip
          refine c_iinc G (fun y__ => [(5, .int y__), (0, .ref (wB w + pz (a0))), (2, .ref (wB w + pz (a2))), (3, .ref (wB w + pz (a3))), (4, .int l4_1)]) dX0_markGraft_125 4 rfl kI_1 (by decide) (fun _ => rfl) (fun l5_4 _ => ?_)
          refine c_goto (tgt := 21) G dX0_markGraft_128 (by decide) ?_
          exact c_weak _ [1, 2, 3, 4, 0] rfl (ih l5_4 M3)
set_option maxHeartbeats 4000000 in
set_option maxRecDepth 100000 in
theorem cl_X0_markGraft_9 {w : Wp} {X : Cx} {Q : State → Prop} {ρ : Mm} (G : Good w X cX0_markGraft 7 RX0 none 2) (hQ : Q = MQ (xL X) (Qd w (encV ρ)) (xA X) (xS X) (xk X) (xs X) (Aw w)) {a2 : Nat} {N : Nat} {a0 : Nat} {a3 : Nat} (h_a2 : lay a2 = (5, 8)) (h_a0 : lay a0 = (5, 0)) (h_a3 : lay a3 = (5, 4)) : ∀ (n : Nat) (l4_1 : Int32) (M2 : Mm), Cov w X Q ρ some 7 9 [(0, .ref (wB w + pz (a0))), (2, .ref (wB w + pz (a2))), (3, .ref (wB w + pz (a3))), (4, .int l4_1)] [] M2 (L_X0_markGraft_9 a2 N a0 a3 n l4_1 M2) := by
  intro n
  induction n with
  | zero => intro l4_1 M2; exact c_none
  | succ n ih =>
    intro l4_1 M2
    rw [L_X0_markGraft_9]
    refine c_iload G dX0_markGraft_9 3 rfl ?_
    refine c_aload_n G dX0_markGraft_11 rfl 1 rfl ?_
    refine c_getI G fl_X0_61 h_a2 rfl dX0_markGraft_12 ?_
    refine c_icmp_ge (tgt := 137) G dX0_markGraft_15 (by decide) (fun _ => ?_) (fun _ => ?_)
    · skip
      exact c_vret G hQ dX0_markGraft_137
    · skip
      refine c_iconst G (nI 0) dX0_markGraft_18 kI_0 ?_
      refine c_istore G [(5, .int (nI 0)), (0, .ref (wB w + pz (a0))), (2, .ref (wB w + pz (a2))), (3, .ref (wB w + pz (a3))), (4, .int l4_1)] dX0_markGraft_19 (by decide) rfl ?_
      refine c_weak _ [1, 2, 3, 4, 0] rfl (cl_X0_markGraft_21 G hQ _ h_a2 h_a0 h_a3 ?_ N (nI 0) M2)
      · intro M5
        refine c_iinc G (fun y__ => [(4, .int y__), (0, .ref (wB w + pz (a0))), (2, .ref (wB w + pz (a2))), (3, .ref (wB w + pz (a3)))]) dX0_markGraft_131 3 rfl kI_1 (by decide) (fun _ => rfl) (fun l4_2 _ => ?_)
        refine c_goto (tgt := 9) G dX0_markGraft_134 (by decide) ?_
        exact c_weak _ [1, 2, 3, 0] rfl (ih l4_2 M5)
set_option maxHeartbeats 4000000 in
set_option maxRecDepth 100000 in
theorem con_X0_markGraft {w : Wp} {N : Nat} {a0 : Nat} {a1 : Nat} {a2 : Nat} {a3 : Nat} {M : Mm} {q : Mm} (h_a0 : lay a0 = (5, 0)) (h_a1 : lay a1 = (5, 8)) (h_a2 : lay a2 = (5, 8)) (h_a3 : lay a3 = (5, 4)) (hq : D_X0_markGraft N a0 a1 a2 a3 M = some q) : Con w 2 yX0_markGraft cX0_markGraft 7 none [.ref (wB w + pz (a0)), .ref (wB w + pz (a1)), .ref (wB w + pz (a2)), .ref (wB w + pz (a3))] M (encV q) := by
  refine Con.of encV q _ hq (by decide) (Nat.le_of_ble_eq_true rfl) ?_
  intro X G Q hQ
  have G : Good w X cX0_markGraft 7 RX0 none 2 := G
  refine c_weak [(0, .ref (wB w + pz (a0))), (1, .ref (wB w + pz (a1))), (2, .ref (wB w + pz (a2))), (3, .ref (wB w + pz (a3)))] [0, 1, 2, 3] rfl ?_
  rw [D_X0_markGraft]
  refine c_aload_n G dX0_markGraft_0 rfl 0 rfl ?_
  refine c_aload_n G dX0_markGraft_1 rfl 1 rfl ?_
  refine c_aload_n G dX0_markGraft_2 rfl 3 rfl ?_
  refine c_callV_V (d := 1) (rest := []) G [.ref (wB w + pz (a1)), .ref (wB w + pz (a3))] yv_X0_findGone ml_X0_57 (by omega) (by decide) rfl rfl (Nat.le_of_ble_eq_true rfl) h_a0 (fun q hq => con_X0_findGone h_a0 h_a1 h_a3 hq) dX0_markGraft_3 (fun M1 _ => ?_)
  refine c_iconst G (nI 0) dX0_markGraft_6 kI_0 ?_
  refine c_istore G [(4, .int (nI 0)), (0, .ref (wB w + pz (a0))), (1, .ref (wB w + pz (a1))), (2, .ref (wB w + pz (a2))), (3, .ref (wB w + pz (a3)))] dX0_markGraft_7 (by decide) rfl ?_
  refine c_weak _ [1, 3, 4, 0] rfl (cl_X0_markGraft_9 G hQ  h_a2 h_a0 h_a3 N (nI 0) M1)
set_option maxHeartbeats 4000000 in
set_option maxRecDepth 100000 in
theorem con_X11_graft {w : Wp} {N : Nat} {a0 : Nat} {a1 : Int32} {a2 : Int32} {M : Mm} {q : Int32 × Mm} (h_a0 : lay a0 = (5, 11)) (hq : D_X11_graft N a0 a1 a2 M = some q) : Con w 6 yX11_graft cX11_graft 7 (some .int) [.ref (wB w + pz (a0)), .int a1, .int a2] M (encI q) := by
  refine Con.of encI q _ hq (by decide) (Nat.le_of_ble_eq_true rfl) ?_
  intro X G Q hQ
  have G : Good w X cX11_graft 7 RX11 (some .int) 6 := G
  refine c_weak [(0, .ref (wB w + pz (a0))), (1, .int a1), (2, .int a2)] [0, 1, 2] rfl ?_
  rw [D_X11_graft]
  refine c_aload_n G dX11_graft_0 rfl 0 rfl ?_
  refine c_getF G fl_X11_26 h_a0 rfl dX11_graft_1 ?_
  refine c_iload_n G dX11_graft_4 rfl 2 rfl ?_
  refine c_callV_PI (d := 0) (rest := []) G [.int a2] yv_X7_holds ml_X11_109 (by omega) (by decide) rfl rfl (Nat.le_of_ble_eq_true rfl) (lf h_a0 4 rfl) (fun q hq => con_X7_holds (lf h_a0 4 rfl) hq) dX11_graft_5 (fun q1 _ => ?_)
  refine c_if_ne (tgt := 17) G dX11_graft_8 (by decide) (fun _ => ?_) (fun _ => ?_)
  · skip
    refine c_aload_n G dX11_graft_11 rfl 0 rfl ?_
    refine c_iconst G (nI 1) dX11_graft_12 kI_1 ?_
    refine c_callV_I (d := 0) (rest := []) G [.int (nI 1)] yv_X11_refuse ml_X11_113 (by omega) (by decide) rfl rfl (Nat.le_of_ble_eq_true rfl) h_a0 (fun q hq => con_X11_refuse h_a0 hq) dX11_graft_13 (fun q2 _ => ?_)
    exact c_iret G hQ dX11_graft_16
  · skip
    refine c_aload_n G dX11_graft_17 rfl 0 rfl ?_
    refine c_getR (c' := 8) G fl_X11_85 h_a0 rfl dX11_graft_18 (fun r1 _ h_r1 => ?_)
    refine c_getI G fl_X11_150 h_r1 rfl dX11_graft_21 ?_
    refine c_if_ne (tgt := 33) G dX11_graft_24 (by decide) (fun _ => ?_) (fun _ => ?_)
    · skip
      refine c_aload_n G dX11_graft_27 rfl 0 rfl ?_
      refine c_iconst G (nI 3) dX11_graft_28 kI_3 ?_
      refine c_callV_I (d := 0) (rest := []) G [.int (nI 3)] yv_X11_refuse ml_X11_113 (by omega) (by decide) rfl rfl (Nat.le_of_ble_eq_true rfl) h_a0 (fun q hq => con_X11_refuse h_a0 hq) dX11_graft_29 (fun q3 _ => ?_)
      exact c_iret G hQ dX11_graft_32
    · skip
      refine c_aload_n G dX11_graft_33 rfl 0 rfl ?_
      refine c_getR (c' := 8) G fl_X11_85 h_a0 rfl dX11_graft_34 (fun r2 _ h_r2 => ?_)
      refine c_iload_n G dX11_graft_37 rfl 1 rfl ?_
      refine c_callV_PI (d := 0) (rest := []) G [.int a1] yv_X8_hasNode ml_X11_283 (by omega) (by decide) rfl rfl (Nat.le_of_ble_eq_true rfl) h_r2 (fun q hq => con_X8_hasNode h_r2 hq) dX11_graft_38 (fun q4 _ => ?_)
      refine c_if_ne (tgt := 50) G dX11_graft_41 (by decide) (fun _ => ?_) (fun _ => ?_)
      · skip
        refine c_aload_n G dX11_graft_44 rfl 0 rfl ?_
        refine c_iconst G (nI 4) dX11_graft_45 kI_4 ?_
        refine c_callV_I (d := 0) (rest := []) G [.int (nI 4)] yv_X11_refuse ml_X11_113 (by omega) (by decide) rfl rfl (Nat.le_of_ble_eq_true rfl) h_a0 (fun q hq => con_X11_refuse h_a0 hq) dX11_graft_46 (fun q5 _ => ?_)
        exact c_iret G hQ dX11_graft_49
      · skip
        refine c_aload_n G dX11_graft_50 rfl 0 rfl ?_
        refine c_getF G fl_X11_26 h_a0 rfl dX11_graft_51 ?_
        refine c_iload_n G dX11_graft_54 rfl 2 rfl ?_
        refine c_callV_V (d := 3) (rest := []) G [.int a2] yv_X7_begin ml_X11_117 (by omega) (by decide) rfl rfl (Nat.le_of_ble_eq_true rfl) (lf h_a0 4 rfl) (fun q hq => con_X7_begin (lf h_a0 4 rfl) hq) dX11_graft_55 (fun M1 _ => ?_)
        refine c_aload_n G dX11_graft_58 rfl 0 rfl ?_
        refine c_getR (c' := 8) G fl_X11_89 h_a0 rfl dX11_graft_59 (fun r3 _ h_r3 => ?_)
        refine c_aload_n G dX11_graft_62 rfl 0 rfl ?_
        refine c_getR (c' := 1) G fl_X11_75 h_a0 rfl dX11_graft_63 (fun r4 _ h_r4 => ?_)
        refine c_aload_n G dX11_graft_66 rfl 0 rfl ?_
        refine c_getR (c' := 8) G fl_X11_85 h_a0 rfl dX11_graft_67 (fun r5 _ h_r5 => ?_)
        refine c_iload_n G dX11_graft_70 rfl 1 rfl ?_
        refine c_callV_V (d := 2) (rest := []) G [.ref (wB w + pz (r4)), .ref (wB w + pz (r5)), .int a1] yv_X8_copyAhead ml_X11_364 (by omega) (by decide) rfl rfl (Nat.le_of_ble_eq_true rfl) h_r3 (fun q hq => con_X8_copyAhead h_r3 h_r4 h_r5 hq) dX11_graft_71 (fun M2 _ => ?_)
        refine c_aload_n G dX11_graft_74 rfl 0 rfl ?_
        refine c_getR (c' := 8) G fl_X11_85 h_a0 rfl dX11_graft_75 (fun r6 _ h_r6 => ?_)
        refine c_getI G fl_X11_150 h_r6 rfl dX11_graft_78 ?_
        refine c_iload_n G dX11_graft_81 rfl 1 rfl ?_
        refine c_isub G dX11_graft_82 ?_
        refine c_aload_n G dX11_graft_83 rfl 0 rfl ?_
        refine c_getR (c' := 8) G fl_X11_85 h_a0 rfl dX11_graft_84 (fun r7 _ h_r7 => ?_)
        refine c_getF G fl_X11_297 h_r7 rfl dX11_graft_87 ?_
        refine c_iload_n G dX11_graft_90 rfl 1 rfl ?_
        refine c_iald G (lf h_r7 6 rfl) dX11_graft_91 (fun v1 _ => ?_)
        refine c_isub G dX11_graft_92 ?_
        refine c_let (fun l3_1 _ => ?_)
        refine c_istore_n G [(3, .int l3_1), (0, .ref (wB w + pz (a0))), (1, .int a1), (2, .int a2)] dX11_graft_93 rfl (by decide) rfl ?_
        refine c_aload_n G dX11_graft_94 rfl 1 rfl ?_
        refine c_getR (c' := 8) G fl_X11_85 h_a0 rfl dX11_graft_95 (fun r8 _ h_r8 => ?_)
        refine c_getF G fl_X11_337 h_r8 rfl dX11_graft_98 ?_
        refine c_iload_n G dX11_graft_101 rfl 2 rfl ?_
        refine c_iald G (lf h_r8 7 rfl) dX11_graft_102 (fun v2 _ => ?_)
        refine c_istore G [(4, .int v2), (3, .int l3_1), (0, .ref (wB w + pz (a0))), (1, .int a1), (2, .int a2)] dX11_graft_103 (by decide) rfl ?_
        refine c_aload_n G dX11_graft_105 rfl 2 rfl ?_
        refine c_getF G fl_X11_40 h_a0 rfl dX11_graft_106 ?_
        refine c_aload_n G dX11_graft_109 rfl 2 rfl ?_
        refine c_getF G fl_X11_26 h_a0 rfl dX11_graft_110 ?_
        refine c_aload_n G dX11_graft_113 rfl 2 rfl ?_
        refine c_getR (c' := 1) G fl_X11_75 h_a0 rfl dX11_graft_114 (fun r9 _ h_r9 => ?_)
        refine c_aload_n G dX11_graft_117 rfl 2 rfl ?_
        refine c_getR (c' := 8) G fl_X11_89 h_a0 rfl dX11_graft_118 (fun r10 _ h_r10 => ?_)
        refine c_aload_n G dX11_graft_121 rfl 2 rfl ?_
        refine c_getR (c' := 8) G fl_X11_85 h_a0 rfl dX11_graft_122 (fun r11 _ h_r11 => ?_)
        refine c_getF G fl_X11_292 h_r11 rfl dX11_graft_125 ?_
        refine c_iload_n G dX11_graft_128 rfl 3 rfl ?_
        refine c_iald G (lf h_r11 3 rfl) dX11_graft_129 (fun v3 _ => ?_)
        refine c_aload_n G dX11_graft_130 rfl 2 rfl ?_
        refine c_getR (c' := 8) G fl_X11_85 h_a0 rfl dX11_graft_131 (fun r12 _ h_r12 => ?_)
        refine c_getF G fl_X11_367 h_r12 rfl dX11_graft_134 ?_
        refine c_iload_n G dX11_graft_137 rfl 3 rfl ?_
        refine c_iald G (lf h_r12 4 rfl) dX11_graft_138 (fun v4 _ => ?_)
        refine c_iload G dX11_graft_139 0 rfl ?_
        refine c_iload_n G dX11_graft_141 rfl 1 rfl ?_
        refine c_callV_I (d := 5) (rest := []) G [.ref (wB w + pz ((a0 + 1))), .ref (wB w + pz (r9)), .ref (wB w + pz (r10)), .int v3, .int v4, .int v2, .int l3_1] yv_X9_read ml_X11_265 (by omega) (by decide) rfl rfl (Nat.le_of_ble_eq_true rfl) (lf h_a0 6 rfl) (fun q hq => con_X9_read (lf h_a0 6 rfl) (lf h_a0 4 rfl) h_r9 h_r10 hq) dX11_graft_142 (fun q6 _ => ?_)
        refine c_istore G [(5, .int q6.1), (4, .int v2), (3, .int l3_1), (0, .ref (wB w + pz (a0))), (1, .int a1), (2, .int a2)] dX11_graft_145 (by decide) rfl ?_
        refine c_aload_n G dX11_graft_147 rfl 3 rfl ?_
        refine c_iload G dX11_graft_148 0 rfl ?_
        refine c_callV_V (d := 0) (rest := []) G [.int q6.1] yv_X11_keepFault ml_X11_124 (by omega) (by decide) rfl rfl (Nat.le_of_ble_eq_true rfl) h_a0 (fun q hq => con_X11_keepFault h_a0 hq) dX11_graft_150 (fun M3 _ => ?_)
        refine c_iload G dX11_graft_153 0 rfl ?_
        refine c_if_ne (tgt := 165) G dX11_graft_155 (by decide) (fun _ => ?_) (fun _ => ?_)
        · skip
          refine c_aload_n G dX11_graft_158 rfl 3 rfl ?_
          refine c_bipush G (nI 9) dX11_graft_159 kB_9 ?_
          refine c_callV_I (d := 0) (rest := []) G [.int (nI 9)] yv_X11_refuse ml_X11_113 (by omega) (by decide) rfl rfl (Nat.le_of_ble_eq_true rfl) h_a0 (fun q hq => con_X11_refuse h_a0 hq) dX11_graft_161 (fun q7 _ => ?_)
          exact c_iret G hQ dX11_graft_164
        · skip
          refine c_aload_n G dX11_graft_165 rfl 3 rfl ?_
          refine c_getR (c' := 8) G fl_X11_89 h_a0 rfl dX11_graft_166 (fun r13 _ h_r13 => ?_)
          refine c_getI G fl_X11_150 h_r13 rfl dX11_graft_169 ?_
          refine c_iload_n G dX11_graft_172 rfl 4 rfl ?_
          refine c_isub G dX11_graft_173 ?_
          refine c_let (fun l6_1 _ => ?_)
          refine c_istore G [(6, .int l6_1), (5, .int q6.1), (4, .int v2), (3, .int l3_1), (0, .ref (wB w + pz (a0))), (1, .int a1), (2, .int a2)] dX11_graft_174 (by decide) rfl ?_
          refine c_aload_n G dX11_graft_176 rfl 4 rfl ?_
          refine c_getR (c' := 8) G fl_X11_89 h_a0 rfl dX11_graft_177 (fun r14 _ h_r14 => ?_)
          refine c_aload_n G dX11_graft_180 rfl 4 rfl ?_
          refine c_getR (c' := 1) G fl_X11_75 h_a0 rfl dX11_graft_181 (fun r15 _ h_r15 => ?_)
          refine c_aload_n G dX11_graft_184 rfl 4 rfl ?_
          refine c_getR (c' := 8) G fl_X11_85 h_a0 rfl dX11_graft_185 (fun r16 _ h_r16 => ?_)
          refine c_iload_n G dX11_graft_188 rfl 5 rfl ?_
          refine c_iload G dX11_graft_189 0 rfl ?_
          refine c_callV_V (d := 2) (rest := []) G [.ref (wB w + pz (r15)), .ref (wB w + pz (r16)), .int a1, .int l6_1] yv_X8_copyBehind ml_X11_370 (by omega) (by decide) rfl rfl (Nat.le_of_ble_eq_true rfl) h_r14 (fun q hq => con_X8_copyBehind h_r14 h_r15 h_r16 hq) dX11_graft_191 (fun M4 _ => ?_)
          refine c_aload_n G dX11_graft_194 rfl 4 rfl ?_
          refine c_getR (c' := 8) G fl_X11_89 h_a0 rfl dX11_graft_195 (fun r17 _ h_r17 => ?_)
          refine c_aload_n G dX11_graft_198 rfl 4 rfl ?_
          refine c_getR (c' := 1) G fl_X11_75 h_a0 rfl dX11_graft_199 (fun r18 _ h_r18 => ?_)
          refine c_callV_V (d := 1) (rest := []) G [.ref (wB w + pz (r18))] yv_X8_link ml_X11_268 (by omega) (by decide) rfl rfl (Nat.le_of_ble_eq_true rfl) h_r17 (fun q hq => con_X8_link h_r17 h_r18 hq) dX11_graft_202 (fun M5 _ => ?_)
          refine c_aload_n G dX11_graft_205 rfl 4 rfl ?_
          refine c_getF G fl_X11_68 h_a0 rfl dX11_graft_206 ?_
          refine c_aload_n G dX11_graft_209 rfl 4 rfl ?_
          refine c_getR (c' := 8) G fl_X11_85 h_a0 rfl dX11_graft_210 (fun r19 _ h_r19 => ?_)
          refine c_getI G fl_X11_150 h_r19 rfl dX11_graft_213 ?_
          refine c_iload_n G dX11_graft_216 rfl 5 rfl ?_
          refine c_aload_n G dX11_graft_217 rfl 4 rfl ?_
          refine c_getR (c' := 8) G fl_X11_85 h_a0 rfl dX11_graft_218 (fun r20 _ h_r20 => ?_)
          refine c_getF G fl_X11_297 h_r20 rfl dX11_graft_221 ?_
          refine c_iload_n G dX11_graft_224 rfl 5 rfl ?_
          refine c_iald G (lf h_r20 6 rfl) dX11_graft_225 (fun v5 _ => ?_)
          refine c_iload G dX11_graft_226 0 rfl ?_
          refine c_callV_V (d := 2) (rest := []) G [.int (M5.1 r19 0), .int a1, .int v5, .int l6_1] yv_X0_beginGraft ml_X11_374 (by omega) (by decide) rfl rfl (Nat.le_of_ble_eq_true rfl) (lf h_a0 10 rfl) (fun q hq => con_X0_beginGraft (lf h_a0 10 rfl) hq) dX11_graft_228 (fun M6 _ => ?_)
          refine c_aload_n G dX11_graft_231 rfl 4 rfl ?_
          refine c_getF G fl_X11_68 h_a0 rfl dX11_graft_232 ?_
          refine c_aload_n G dX11_graft_235 rfl 4 rfl ?_
          refine c_getR (c' := 8) G fl_X11_85 h_a0 rfl dX11_graft_236 (fun r21 _ h_r21 => ?_)
          refine c_aload_n G dX11_graft_239 rfl 4 rfl ?_
          refine c_getR (c' := 8) G fl_X11_89 h_a0 rfl dX11_graft_240 (fun r22 _ h_r22 => ?_)
          refine c_aload_n G dX11_graft_243 rfl 4 rfl ?_
          refine c_getR (c' := 10) G fl_X11_95 h_a0 rfl dX11_graft_244 (fun r23 _ h_r23 => ?_)
          refine c_getF G fl_X11_160 h_r23 rfl dX11_graft_247 ?_
          refine c_callV_V (d := 2) (rest := []) G [.ref (wB w + pz (r21)), .ref (wB w + pz (r22)), .ref (wB w + pz ((r23 + 1)))] yv_X0_markGraft ml_X11_378 (by omega) (by decide) rfl rfl (Nat.le_of_ble_eq_true rfl) (lf h_a0 10 rfl) (fun q hq => con_X0_markGraft (lf h_a0 10 rfl) h_r21 h_r22 (lf h_r23 0 rfl) hq) dX11_graft_250 (fun M7 _ => ?_)
          refine c_aload_n G dX11_graft_253 rfl 4 rfl ?_
          refine c_callV_V (d := 0) (rest := []) G [] yv_X11_swapWood ml_X11_271 (by omega) (by decide) rfl rfl (Nat.le_of_ble_eq_true rfl) h_a0 (fun q hq => con_X11_swapWood h_a0 hq) dX11_graft_254 (fun M8 _ => ?_)
          refine c_aload_n G dX11_graft_257 rfl 4 rfl ?_
          refine c_callV_V (d := 5) (rest := []) G [] yv_X11_reckonAnew ml_X11_354 (by omega) (by decide) rfl rfl (Nat.le_of_ble_eq_true rfl) h_a0 (fun q hq => con_X11_reckonAnew h_a0 hq) dX11_graft_258 (fun M9 _ => ?_)
          refine c_aload_n G dX11_graft_261 rfl 4 rfl ?_
          refine c_aload_n G dX11_graft_262 rfl 4 rfl ?_
          refine c_getR (c' := 8) G fl_X11_85 h_a0 rfl dX11_graft_263 (fun r24 _ h_r24 => ?_)
          refine c_getI G fl_X11_150 h_r24 rfl dX11_graft_266 ?_
          refine c_callV_I (d := 0) (rest := []) G [.int (M9.1 r24 0)] yv_X11_answer ml_X11_147 (by omega) (by decide) rfl rfl (Nat.le_of_ble_eq_true rfl) h_a0 (fun q hq => con_X11_answer h_a0 hq) dX11_graft_269 (fun q8 _ => ?_)
          exact c_iret G hQ dX11_graft_272
set_option maxHeartbeats 4000000 in
set_option maxRecDepth 100000 in
theorem con_X11_anew {w : Wp} {N : Nat} {a0 : Nat} {a1 : Int32} {M : Mm} {q : Int32 × Mm} (h_a0 : lay a0 = (5, 11)) (hq : D_X11_anew N a0 a1 M = some q) : Con w 1 yX11_anew cX11_anew 2 (some .int) [.ref (wB w + pz (a0)), .int a1] M (encI q) := by
  refine Con.of encI q _ hq (by decide) (Nat.le_of_ble_eq_true rfl) ?_
  intro X G Q hQ
  have G : Good w X cX11_anew 2 RX11 (some .int) 1 := G
  refine c_weak [(0, .ref (wB w + pz (a0))), (1, .int a1)] [0, 1] rfl ?_
  rw [D_X11_anew]
  refine c_iload_n G dX11_anew_0 rfl 1 rfl ?_
  refine c_if_lt (tgt := 9) G dX11_anew_1 (by decide) (fun _ => ?_) (fun _ => ?_)
  · skip
    refine c_aload_n G dX11_anew_9 rfl 0 rfl ?_
    refine c_iconst G (nI 1) dX11_anew_10 kI_1 ?_
    refine c_callV_I (d := 0) (rest := []) G [.int (nI 1)] yv_X11_refuse ml_X11_113 (by omega) (by decide) rfl rfl (Nat.le_of_ble_eq_true rfl) h_a0 (fun q hq => con_X11_refuse h_a0 hq) dX11_anew_11 (fun q1 _ => ?_)
    exact c_iret G hQ dX11_anew_14
  · skip
    refine c_iload_n G dX11_anew_4 rfl 1 rfl ?_
    refine c_iconst G (nI 1) dX11_anew_5 kI_1 ?_
    refine c_icmp_le (tgt := 15) G dX11_anew_6 (by decide) (fun _ => ?_) (fun _ => ?_)
    · skip
      refine c_aload_n G dX11_anew_15 rfl 0 rfl ?_
      refine c_getR (c' := 8) G fl_X11_85 h_a0 rfl dX11_anew_16 (fun r1 _ h_r1 => ?_)
      refine c_getI G fl_X11_150 h_r1 rfl dX11_anew_19 ?_
      refine c_if_ne (tgt := 31) G dX11_anew_22 (by decide) (fun _ => ?_) (fun _ => ?_)
      · skip
        refine c_aload_n G dX11_anew_25 rfl 0 rfl ?_
        refine c_iconst G (nI 3) dX11_anew_26 kI_3 ?_
        refine c_callV_I (d := 0) (rest := []) G [.int (nI 3)] yv_X11_refuse ml_X11_113 (by omega) (by decide) rfl rfl (Nat.le_of_ble_eq_true rfl) h_a0 (fun q hq => con_X11_refuse h_a0 hq) dX11_anew_27 (fun q2 _ => ?_)
        exact c_iret G hQ dX11_anew_30
      · skip
        refine c_aload_n G dX11_anew_31 rfl 0 rfl ?_
        refine c_getI G fl_X11_19 h_a0 rfl dX11_anew_32 ?_
        refine c_if_ne (tgt := 45) G dX11_anew_35 (by decide) (fun _ => ?_) (fun _ => ?_)
        · skip
          refine c_aload_n G dX11_anew_38 rfl 0 rfl ?_
          refine c_bipush G (nI 7) dX11_anew_39 kB_7 ?_
          refine c_callV_I (d := 0) (rest := []) G [.int (nI 7)] yv_X11_refuse ml_X11_113 (by omega) (by decide) rfl rfl (Nat.le_of_ble_eq_true rfl) h_a0 (fun q hq => con_X11_refuse h_a0 hq) dX11_anew_41 (fun q3 _ => ?_)
          exact c_iret G hQ dX11_anew_44
        · skip
          refine c_aload_n G dX11_anew_45 rfl 0 rfl ?_
          refine c_iload_n G dX11_anew_46 rfl 1 rfl ?_
          refine c_if_ne (tgt := 60) G dX11_anew_47 (by decide) (fun _ => ?_) (fun _ => ?_)
          · skip
            refine c_aload_n G dX11_anew_50 rfl 0 rfl ?_
            refine c_getF G fl_X11_68 h_a0 rfl dX11_anew_51 ?_
            refine c_getI G fl_X11_382 (lf h_a0 10 rfl) rfl dX11_anew_54 ?_
            refine c_goto (tgt := 67) G dX11_anew_57 (by decide) ?_
            refine c_callV_I (d := 0) (rest := []) G [.int (M.1 (a0 + 29) 6)] yv_X11_answer ml_X11_147 (by omega) (by decide) rfl rfl (Nat.le_of_ble_eq_true rfl) h_a0 (fun q hq => con_X11_answer h_a0 hq) dX11_anew_67 (fun q4 _ => ?_)
            exact c_iret G hQ dX11_anew_70
          · skip
            refine c_aload_n G dX11_anew_60 rfl 0 rfl ?_
            refine c_getF G fl_X11_68 h_a0 rfl dX11_anew_61 ?_
            refine c_getI G fl_X11_385 (lf h_a0 10 rfl) rfl dX11_anew_64 ?_
            refine c_callV_I (d := 0) (rest := []) G [.int (M.1 (a0 + 29) 7)] yv_X11_answer ml_X11_147 (by omega) (by decide) rfl rfl (Nat.le_of_ble_eq_true rfl) h_a0 (fun q hq => con_X11_answer h_a0 hq) dX11_anew_67 (fun q5 _ => ?_)
            exact c_iret G hQ dX11_anew_70
    · skip
      refine c_aload_n G dX11_anew_9 rfl 0 rfl ?_
      refine c_iconst G (nI 1) dX11_anew_10 kI_1 ?_
      refine c_callV_I (d := 0) (rest := []) G [.int (nI 1)] yv_X11_refuse ml_X11_113 (by omega) (by decide) rfl rfl (Nat.le_of_ble_eq_true rfl) h_a0 (fun q hq => con_X11_refuse h_a0 hq) dX11_anew_11 (fun q6 _ => ?_)
      exact c_iret G hQ dX11_anew_14
set_option maxHeartbeats 4000000 in
set_option maxRecDepth 100000 in
theorem cl_X11_digest_21 {w : Wp} {X : Cx} {Q : State → Prop} {ρ : Int32 × Mm} (G : Good w X cX11_digest 3 RX11 (some .int) 1) (hQ : Q = MQ (xL X) (Qd w (encI ρ)) (xA X) (xS X) (xk X) (xs X) (Aw w)) {M : Mm} {a0 : Nat} {N : Nat} (h_a0 : lay a0 = (5, 11)) : ∀ (n : Nat) (l1_1 : Int32) (l2_1 : Int32), Cov w X Q ρ some 3 21 [(0, .ref (wB w + pz (a0))), (1, .int l1_1), (2, .int l2_1)] [] M (L_X11_digest_21 M a0 N n l1_1 l2_1) := by
  intro n
  induction n with
  | zero => intro l1_1 l2_1; exact c_none
  | succ n ih =>
    intro l1_1 l2_1
    rw [L_X11_digest_21]
    refine c_iload_n G dX11_digest_21 rfl 2 rfl ?_
    refine c_bipush G (nI 8) dX11_digest_22 kB_8 ?_
    refine c_aload_n G dX11_digest_24 rfl 0 rfl ?_
    refine c_getR (c' := 8) G fl_X11_85 h_a0 rfl dX11_digest_25 (fun r2 _ h_r2 => ?_)
    refine c_getI G fl_X11_150 h_r2 rfl dX11_digest_28 ?_
    refine c_imul G dX11_digest_31 ?_
    refine c_icmp_ge (tgt := 74) G dX11_digest_32 (by decide) (fun _ => ?_) (fun _ => ?_)
    · skip
      refine c_aload_n G dX11_digest_74 rfl 0 rfl ?_
      refine c_iload_n G dX11_digest_75 rfl 1 rfl ?_
      refine c_callV_I (d := 0) (rest := []) G [.int l1_1] yv_X11_answer ml_X11_147 (by omega) (by decide) rfl rfl (Nat.le_of_ble_eq_true rfl) h_a0 (fun q hq => con_X11_answer h_a0 hq) dX11_digest_76 (fun q2 _ => ?_)
      exact c_iret G hQ dX11_digest_79
    · skip
      refine c_aload_n G dX11_digest_35 rfl 0 rfl ?_
      refine c_getR (c' := 8) G fl_X11_85 h_a0 rfl dX11_digest_36 (fun r3 _ h_r3 => ?_)
      refine c_iload_n G dX11_digest_39 rfl 2 rfl ?_
      refine c_bipush G (nI 8) dX11_digest_40 kB_8 ?_
      refine c_idiv G dX11_digest_42 (fun v1 _ => ?_)
      refine c_iload_n G dX11_digest_43 rfl 2 rfl ?_
      refine c_bipush G (nI 8) dX11_digest_44 kB_8 ?_
      refine c_irem G dX11_digest_46 (fun v2 _ => ?_)
      refine c_callV_PI (d := 0) (rest := []) G [.int v1, .int v2] yv_X8_hasInstance ml_X11_388 (by omega) (by decide) rfl rfl (Nat.le_of_ble_eq_true rfl) h_r3 (fun q hq => con_X8_hasInstance h_r3 hq) dX11_digest_47 (fun q3 _ => ?_)
      refine c_if_eq (tgt := 68) G dX11_digest_50 (by decide) (fun _ => ?_) (fun _ => ?_)
      · skip
        refine c_iinc G (fun y__ => [(2, .int y__), (0, .ref (wB w + pz (a0))), (1, .int l1_1)]) dX11_digest_68 2 rfl kI_1 (by decide) (fun _ => rfl) (fun l2_2 _ => ?_)
        refine c_goto (tgt := 21) G dX11_digest_71 (by decide) ?_
        exact c_weak _ [1, 2, 0] rfl (ih l1_1 l2_2)
      · skip
        refine c_bipush G (nI 31) dX11_digest_53 kB_31 ?_
        refine c_iload_n G dX11_digest_55 rfl 1 rfl ?_
        refine c_imul G dX11_digest_56 ?_
        refine c_aload_n G dX11_digest_57 rfl 0 rfl ?_
        refine c_getR (c' := 10) G fl_X11_95 h_a0 rfl dX11_digest_58 (fun r4 _ h_r4 => ?_)
        refine c_getF G fl_X11_309 h_r4 rfl dX11_digest_61 ?_
        refine c_iload_n G dX11_digest_64 rfl 2 rfl ?_
        refine c_iald G (lf h_r4 1 rfl) dX11_digest_65 (fun v3 _ => ?_)
        refine c_iadd G dX11_digest_66 ?_
        refine c_let (fun l1_2 _ => ?_)
        refine c_istore_n G [(1, .int l1_2), (0, .ref (wB w + pz (a0))), (2, .int l2_1)] dX11_digest_67 rfl (by decide) rfl ?_
        refine c_iinc G (fun y__ => [(2, .int y__), (1, .int l1_2), (0, .ref (wB w + pz (a0)))]) dX11_digest_68 2 rfl kI_1 (by decide) (fun _ => rfl) (fun l2_3 _ => ?_)
        refine c_goto (tgt := 21) G dX11_digest_71 (by decide) ?_
        exact c_weak _ [2, 1, 0] rfl (ih l1_2 l2_3)
set_option maxHeartbeats 4000000 in
set_option maxRecDepth 100000 in
theorem con_X11_digest {w : Wp} {N : Nat} {a0 : Nat} {M : Mm} {q : Int32 × Mm} (h_a0 : lay a0 = (5, 11)) (hq : D_X11_digest N a0 M = some q) : Con w 1 yX11_digest cX11_digest 3 (some .int) [.ref (wB w + pz (a0))] M (encI q) := by
  refine Con.of encI q _ hq (by decide) (Nat.le_of_ble_eq_true rfl) ?_
  intro X G Q hQ
  have G : Good w X cX11_digest 3 RX11 (some .int) 1 := G
  refine c_weak [(0, .ref (wB w + pz (a0)))] [0] rfl ?_
  rw [D_X11_digest]
  refine c_aload_n G dX11_digest_0 rfl 0 rfl ?_
  refine c_getR (c' := 8) G fl_X11_85 h_a0 rfl dX11_digest_1 (fun r1 _ h_r1 => ?_)
  refine c_getI G fl_X11_150 h_r1 rfl dX11_digest_4 ?_
  refine c_if_ne (tgt := 16) G dX11_digest_7 (by decide) (fun _ => ?_) (fun _ => ?_)
  · skip
    refine c_aload_n G dX11_digest_10 rfl 0 rfl ?_
    refine c_iconst G (nI 3) dX11_digest_11 kI_3 ?_
    refine c_callV_I (d := 0) (rest := []) G [.int (nI 3)] yv_X11_refuse ml_X11_113 (by omega) (by decide) rfl rfl (Nat.le_of_ble_eq_true rfl) h_a0 (fun q hq => con_X11_refuse h_a0 hq) dX11_digest_12 (fun q1 _ => ?_)
    exact c_iret G hQ dX11_digest_15
  · skip
    refine c_bipush G (nI 17) dX11_digest_16 kB_17 ?_
    refine c_istore_n G [(1, .int (nI 17)), (0, .ref (wB w + pz (a0)))] dX11_digest_18 rfl (by decide) rfl ?_
    refine c_iconst G (nI 0) dX11_digest_19 kI_0 ?_
    refine c_istore_n G [(2, .int (nI 0)), (1, .int (nI 17)), (0, .ref (wB w + pz (a0)))] dX11_digest_20 rfl (by decide) rfl ?_
    refine c_weak _ [2, 1, 0] rfl (cl_X11_digest_21 G hQ  h_a0 N (nI 17) (nI 0))
set_option maxHeartbeats 4000000 in
set_option maxRecDepth 100000 in
theorem con_X12_status {w : Wp} {N : Nat} {a0 : Nat} {M : Mm} {q : Int32} (h_a0 : lay a0 = (5, 12)) (hq : D_X12_status N a0 M = some q) : Con w 0 yX12_status cX12_status 1 (some .int) [.ref (wB w + pz (a0))] M ((encPI M) q) := by
  refine Con.of (encPI M) q _ hq (by decide) (Nat.le_of_ble_eq_true rfl) ?_
  intro X G Q hQ
  have G : Good w X cX12_status 1 RX12 (some .int) 0 := G
  refine c_weak [(0, .ref (wB w + pz (a0)))] [0] rfl ?_
  rw [D_X12_status]
  refine c_aload_n G dX12_status_0 rfl 0 rfl ?_
  refine c_getI G fl_X12_151 h_a0 rfl dX12_status_1 ?_
  exact c_iretP G hQ dX12_status_4
set_option maxHeartbeats 4000000 in
set_option maxRecDepth 100000 in
theorem con_X12_refuse {w : Wp} {N : Nat} {a0 : Nat} {a1 : Int32} {M : Mm} {q : Int32 × Mm} (h_a0 : lay a0 = (5, 12)) (hq : D_X12_refuse N a0 a1 M = some q) : Con w 0 yX12_refuse cX12_refuse 2 (some .int) [.ref (wB w + pz (a0)), .int a1] M (encI q) := by
  refine Con.of encI q _ hq (by decide) (Nat.le_of_ble_eq_true rfl) ?_
  intro X G Q hQ
  have G : Good w X cX12_refuse 2 RX12 (some .int) 0 := G
  refine c_weak [(0, .ref (wB w + pz (a0))), (1, .int a1)] [0, 1] rfl ?_
  rw [D_X12_refuse]
  refine c_aload_n G dX12_refuse_0 rfl 0 rfl ?_
  refine c_iload_n G dX12_refuse_1 rfl 1 rfl ?_
  refine c_putI G fp_X12_151 h_a0 rfl dX12_refuse_2 (fun M1 _ => ?_)
  refine c_iconst G m1 dX12_refuse_5 kI_m1 ?_
  exact c_iret G hQ dX12_refuse_6
set_option maxHeartbeats 4000000 in
set_option maxRecDepth 100000 in
theorem con_X12_gives {w : Wp} {N : Nat} {a0 : Nat} {a1 : Int32} {M : Mm} {q : Int32 × Mm} (h_a0 : lay a0 = (5, 12)) (hq : D_X12_gives N a0 a1 M = some q) : Con w 0 yX12_gives cX12_gives 2 (some .int) [.ref (wB w + pz (a0)), .int a1] M (encI q) := by
  refine Con.of encI q _ hq (by decide) (Nat.le_of_ble_eq_true rfl) ?_
  intro X G Q hQ
  have G : Good w X cX12_gives 2 RX12 (some .int) 0 := G
  refine c_weak [(0, .ref (wB w + pz (a0))), (1, .int a1)] [0, 1] rfl ?_
  rw [D_X12_gives]
  refine c_aload_n G dX12_gives_0 rfl 0 rfl ?_
  refine c_iconst G (nI 0) dX12_gives_1 kI_0 ?_
  refine c_putI G fp_X12_151 h_a0 rfl dX12_gives_2 (fun M1 _ => ?_)
  refine c_iload_n G dX12_gives_5 rfl 1 rfl ?_
  exact c_iret G hQ dX12_gives_6
set_option maxHeartbeats 4000000 in
set_option maxRecDepth 100000 in
theorem con_X12_isFrom {w : Wp} {N : Nat} {a0 : Int32} {a1 : Int32} {a2 : Int32} {M : Mm} {q : Int32} (hq : D_X12_isFrom N a0 a1 a2 M = some q) : Con w 0 yX12_isFrom cX12_isFrom 3 (some .boolean) [.int a0, .int a1, .int a2] M ((encPI M) q) := by
  refine Con.of (encPI M) q _ hq (by decide) (Nat.le_of_ble_eq_true rfl) ?_
  intro X G Q hQ
  have G : Good w X cX12_isFrom 3 RX12 (some .boolean) 0 := G
  refine c_weak [(0, .int a0), (1, .int a1), (2, .int a2)] [0, 1, 2] rfl ?_
  rw [D_X12_isFrom]
  refine c_iload_n G dX12_isFrom_0 rfl 0 rfl ?_
  refine c_iload_n G dX12_isFrom_1 rfl 1 rfl ?_
  refine c_jn (ej := fun (p14 : Unit) => []) (sj := fun p14 => []) (mj := fun p14 => M) (pj := 14) (fun p14 => ?_) (fun J1 hJ14 => ?_)
  · skip
    refine c_iconst G (nI 0) dX12_isFrom_14 kI_0 ?_
    exact c_zretP G hQ dX12_isFrom_15
  · skip
    refine c_icmp_lt (tgt := 14) G dX12_isFrom_2 (by decide) (fun _ => ?_) (fun _ => ?_)
    · skip
      exact c_weak _ [] rfl (hJ14 ())
    · skip
      refine c_iload_n G dX12_isFrom_5 rfl 0 rfl ?_
      refine c_iload_n G dX12_isFrom_6 rfl 2 rfl ?_
      refine c_icmp_gt (tgt := 14) G dX12_isFrom_7 (by decide) (fun _ => ?_) (fun _ => ?_)
      · skip
        exact c_weak _ [] rfl (hJ14 ())
      · skip
        refine c_iconst G (nI 1) dX12_isFrom_10 kI_1 ?_
        refine c_goto (tgt := 15) G dX12_isFrom_11 (by decide) ?_
        exact c_zretP G hQ dX12_isFrom_15
set_option maxHeartbeats 4000000 in
set_option maxRecDepth 100000 in
theorem con_X12_has {w : Wp} {N : Nat} {a0 : Int32} {a1 : Int32} {M : Mm} {q : Int32} (hq : D_X12_has N a0 a1 M = some q) : Con w 0 yX12_has cX12_has 2 (some .boolean) [.int a0, .int a1] M ((encPI M) q) := by
  refine Con.of (encPI M) q _ hq (by decide) (Nat.le_of_ble_eq_true rfl) ?_
  intro X G Q hQ
  have G : Good w X cX12_has 2 RX12 (some .boolean) 0 := G
  refine c_weak [(0, .int a0), (1, .int a1)] [0, 1] rfl ?_
  rw [D_X12_has]
  refine c_iload_n G dX12_has_0 rfl 0 rfl ?_
  refine c_iload_n G dX12_has_1 rfl 1 rfl ?_
  refine c_ishr G dX12_has_2 ?_
  refine c_iconst G (nI 1) dX12_has_3 kI_1 ?_
  refine c_iand G dX12_has_4 ?_
  refine c_iconst G (nI 1) dX12_has_5 kI_1 ?_
  refine c_icmp_ne (tgt := 13) G dX12_has_6 (by decide) (fun _ => ?_) (fun _ => ?_)
  · skip
    refine c_iconst G (nI 1) dX12_has_9 kI_1 ?_
    refine c_goto (tgt := 14) G dX12_has_10 (by decide) ?_
    exact c_zretP G hQ dX12_has_14
  · skip
    refine c_iconst G (nI 0) dX12_has_13 kI_0 ?_
    exact c_zretP G hQ dX12_has_14
set_option maxHeartbeats 4000000 in
set_option maxRecDepth 100000 in
theorem cl_X12_come_3 {w : Wp} {X : Cx} {Q : State → Prop} {ρ : Mm} (G : Good w X cX12_come 3 RX12 none 0) (hQ : Q = MQ (xL X) (Qd w (encV ρ)) (xA X) (xS X) (xk X) (xs X) (Aw w)) {a0 : Nat} {a1 : Int32} (h_a0 : lay a0 = (5, 12)) : ∀ (n : Nat) (l2_1 : Int32) (M1 : Mm), Cov w X Q ρ some 3 3 [(0, .ref (wB w + pz (a0))), (1, .int a1), (2, .int l2_1)] [] M1 (L_X12_come_3 a0 a1 n l2_1 M1) := by
  intro n
  induction n with
  | zero => intro l2_1 M1; exact c_none
  | succ n ih =>
    intro l2_1 M1
    rw [L_X12_come_3]
    refine c_iload_n G dX12_come_3 rfl 2 rfl ?_
    refine c_if_lt (tgt := 39) G dX12_come_4 (by decide) (fun _ => ?_) (fun _ => ?_)
    · skip
      exact c_vret G hQ dX12_come_39
    · skip
      refine c_aload_n G dX12_come_7 rfl 0 rfl ?_
      refine c_getF G fl_X12_7 h_a0 rfl dX12_come_8 ?_
      refine c_aload_n G dX12_come_11 rfl 0 rfl ?_
      refine c_getI G fl_X12_154 h_a0 rfl dX12_come_12 ?_
      refine c_iload_n G dX12_come_15 rfl 1 rfl ?_
      refine c_iload_n G dX12_come_16 rfl 2 rfl ?_
      refine c_iushr G dX12_come_17 ?_
      refine c_sipush G (nI 255) dX12_come_18 kS_255 ?_
      refine c_iand G dX12_come_21 ?_
      refine c_iast G (lf h_a0 0 rfl) dX12_come_22 (fun M2 _ => ?_)
      refine c_aload_n G dX12_come_23 rfl 0 rfl ?_
      refine c_dup G dX12_come_24 rfl ?_
      refine c_getI G fl_X12_154 h_a0 rfl dX12_come_25 ?_
      refine c_iconst G (nI 1) dX12_come_28 kI_1 ?_
      refine c_iadd G dX12_come_29 ?_
      refine c_putI G fp_X12_154 h_a0 rfl dX12_come_30 (fun M3 _ => ?_)
      refine c_iinc G (fun y__ => [(2, .int y__), (0, .ref (wB w + pz (a0))), (1, .int a1)]) dX12_come_33 2 rfl kI_m8 (by decide) (fun _ => rfl) (fun l2_2 _ => ?_)
      refine c_goto (tgt := 3) G dX12_come_36 (by decide) ?_
      exact c_weak _ [1, 2, 0] rfl (ih l2_2 M3)
set_option maxHeartbeats 4000000 in
set_option maxRecDepth 100000 in
theorem con_X12_come {w : Wp} {N : Nat} {a0 : Nat} {a1 : Int32} {M : Mm} {q : Mm} (h_a0 : lay a0 = (5, 12)) (hq : D_X12_come N a0 a1 M = some q) : Con w 0 yX12_come cX12_come 3 none [.ref (wB w + pz (a0)), .int a1] M (encV q) := by
  refine Con.of encV q _ hq (by decide) (Nat.le_of_ble_eq_true rfl) ?_
  intro X G Q hQ
  have G : Good w X cX12_come 3 RX12 none 0 := G
  refine c_weak [(0, .ref (wB w + pz (a0))), (1, .int a1)] [0, 1] rfl ?_
  rw [D_X12_come]
  refine c_bipush G (nI 24) dX12_come_0 kB_24 ?_
  refine c_istore_n G [(2, .int (nI 24)), (0, .ref (wB w + pz (a0))), (1, .int a1)] dX12_come_2 rfl (by decide) rfl ?_
  refine c_weak _ [1, 2, 0] rfl (cl_X12_come_3 G hQ  h_a0 N (nI 24) M)
set_option maxHeartbeats 4000000 in
set_option maxRecDepth 100000 in
theorem con_X12_feed {w : Wp} {N : Nat} {a0 : Nat} {a1 : Int32} {a2 : Int32} {a3 : Int32} {a4 : Int32} {a5 : Int32} {M : Mm} {q : Int32 × Mm} (h_a0 : lay a0 = (5, 12)) (hq : D_X12_feed N a0 a1 a2 a3 a4 a5 M = some q) : Con w 1 yX12_feed cX12_feed 6 (some .int) [.ref (wB w + pz (a0)), .int a1, .int a2, .int a3, .int a4, .int a5] M (encI q) := by
  refine Con.of encI q _ hq (by decide) (Nat.le_of_ble_eq_true rfl) ?_
  intro X G Q hQ
  have G : Good w X cX12_feed 6 RX12 (some .int) 1 := G
  refine c_weak [(0, .ref (wB w + pz (a0))), (1, .int a1), (2, .int a2), (3, .int a3), (4, .int a4), (5, .int a5)] [0, 1, 2, 3, 4, 5] rfl ?_
  rw [D_X12_feed]
  refine c_aload_n G dX12_feed_0 rfl 0 rfl ?_
  refine c_getI G fl_X12_154 h_a0 rfl dX12_feed_1 ?_
  refine c_bipush G (nI 20) dX12_feed_4 kB_20 ?_
  refine c_iadd G dX12_feed_6 ?_
  refine c_sipush G (nI 1000) dX12_feed_7 kS_1000 ?_
  refine c_icmp_le (tgt := 15) G dX12_feed_10 (by decide) (fun _ => ?_) (fun _ => ?_)
  · skip
    refine c_aload_n G dX12_feed_15 rfl 0 rfl ?_
    refine c_iload_n G dX12_feed_16 rfl 1 rfl ?_
    refine c_callV_V (d := 0) (rest := []) G [.int a1] yv_X12_come ml_X12_157 (by omega) (by decide) rfl rfl (Nat.le_of_ble_eq_true rfl) h_a0 (fun q hq => con_X12_come h_a0 hq) dX12_feed_17 (fun M1 _ => ?_)
    refine c_aload_n G dX12_feed_20 rfl 0 rfl ?_
    refine c_iload_n G dX12_feed_21 rfl 2 rfl ?_
    refine c_callV_V (d := 0) (rest := []) G [.int a2] yv_X12_come ml_X12_157 (by omega) (by decide) rfl rfl (Nat.le_of_ble_eq_true rfl) h_a0 (fun q hq => con_X12_come h_a0 hq) dX12_feed_22 (fun M2 _ => ?_)
    refine c_aload_n G dX12_feed_25 rfl 0 rfl ?_
    refine c_iload_n G dX12_feed_26 rfl 3 rfl ?_
    refine c_callV_V (d := 0) (rest := []) G [.int a3] yv_X12_come ml_X12_157 (by omega) (by decide) rfl rfl (Nat.le_of_ble_eq_true rfl) h_a0 (fun q hq => con_X12_come h_a0 hq) dX12_feed_27 (fun M3 _ => ?_)
    refine c_aload_n G dX12_feed_30 rfl 0 rfl ?_
    refine c_iload G dX12_feed_31 4 rfl ?_
    refine c_callV_V (d := 0) (rest := []) G [.int a4] yv_X12_come ml_X12_157 (by omega) (by decide) rfl rfl (Nat.le_of_ble_eq_true rfl) h_a0 (fun q hq => con_X12_come h_a0 hq) dX12_feed_33 (fun M4 _ => ?_)
    refine c_aload_n G dX12_feed_36 rfl 0 rfl ?_
    refine c_iload G dX12_feed_37 5 rfl ?_
    refine c_callV_V (d := 0) (rest := []) G [.int a5] yv_X12_come ml_X12_157 (by omega) (by decide) rfl rfl (Nat.le_of_ble_eq_true rfl) h_a0 (fun q hq => con_X12_come h_a0 hq) dX12_feed_39 (fun M5 _ => ?_)
    refine c_aload_n G dX12_feed_42 rfl 0 rfl ?_
    refine c_getI G fl_X12_154 h_a0 rfl dX12_feed_43 ?_
    exact c_iret G hQ dX12_feed_46
  · skip
    refine c_iconst G m1 dX12_feed_13 kI_m1 ?_
    exact c_iret G hQ dX12_feed_14
set_option maxHeartbeats 4000000 in
set_option maxRecDepth 100000 in
theorem con_X12_byteAt {w : Wp} {N : Nat} {a0 : Nat} {a1 : Int32} {M : Mm} {q : Int32} (h_a0 : lay a0 = (5, 12)) (hq : D_X12_byteAt N a0 a1 M = some q) : Con w 0 yX12_byteAt cX12_byteAt 2 (some .int) [.ref (wB w + pz (a0)), .int a1] M ((encPI M) q) := by
  refine Con.of (encPI M) q _ hq (by decide) (Nat.le_of_ble_eq_true rfl) ?_
  intro X G Q hQ
  have G : Good w X cX12_byteAt 2 RX12 (some .int) 0 := G
  refine c_weak [(0, .ref (wB w + pz (a0))), (1, .int a1)] [0, 1] rfl ?_
  rw [D_X12_byteAt]
  refine c_iload_n G dX12_byteAt_0 rfl 1 rfl ?_
  refine c_aload_n G dX12_byteAt_1 rfl 0 rfl ?_
  refine c_getI G fl_X12_161 h_a0 rfl dX12_byteAt_2 ?_
  refine c_icmp_ge (tgt := 17) G dX12_byteAt_5 (by decide) (fun _ => ?_) (fun _ => ?_)
  · skip
    refine c_iconst G m1 dX12_byteAt_17 kI_m1 ?_
    exact c_iretP G hQ dX12_byteAt_18
  · skip
    refine c_aload_n G dX12_byteAt_8 rfl 0 rfl ?_
    refine c_getF G fl_X12_7 h_a0 rfl dX12_byteAt_9 ?_
    refine c_iload_n G dX12_byteAt_12 rfl 1 rfl ?_
    refine c_iald G (lf h_a0 0 rfl) dX12_byteAt_13 (fun v1 _ => ?_)
    refine c_goto (tgt := 18) G dX12_byteAt_14 (by decide) ?_
    exact c_iretP G hQ dX12_byteAt_18
set_option maxHeartbeats 4000000 in
set_option maxRecDepth 100000 in
theorem con_X12_isLetter {w : Wp} {N : Nat} {a0 : Int32} {M : Mm} {q : Int32} (hq : D_X12_isLetter N a0 M = some q) : Con w 0 yX12_isLetter cX12_isLetter 1 (some .boolean) [.int a0] M ((encPI M) q) := by
  refine Con.of (encPI M) q _ hq (by decide) (Nat.le_of_ble_eq_true rfl) ?_
  intro X G Q hQ
  have G : Good w X cX12_isLetter 1 RX12 (some .boolean) 0 := G
  refine c_weak [(0, .int a0)] [0] rfl ?_
  rw [D_X12_isLetter]
  refine c_iload_n G dX12_isLetter_0 rfl 0 rfl ?_
  refine c_bipush G (nI 97) dX12_isLetter_1 kB_97 ?_
  refine c_jn (ej := fun (p16 : Unit) => []) (sj := fun p16 => []) (mj := fun p16 => M) (pj := 16) (fun p16 => ?_) (fun J1 hJ16 => ?_)
  · skip
    refine c_iconst G (nI 0) dX12_isLetter_16 kI_0 ?_
    exact c_zretP G hQ dX12_isLetter_17
  · skip
    refine c_icmp_lt (tgt := 16) G dX12_isLetter_3 (by decide) (fun _ => ?_) (fun _ => ?_)
    · skip
      exact c_weak _ [] rfl (hJ16 ())
    · skip
      refine c_iload_n G dX12_isLetter_6 rfl 0 rfl ?_
      refine c_bipush G (nI 122) dX12_isLetter_7 kB_122 ?_
      refine c_icmp_gt (tgt := 16) G dX12_isLetter_9 (by decide) (fun _ => ?_) (fun _ => ?_)
      · skip
        exact c_weak _ [] rfl (hJ16 ())
      · skip
        refine c_iconst G (nI 1) dX12_isLetter_12 kI_1 ?_
        refine c_goto (tgt := 17) G dX12_isLetter_13 (by decide) ?_
        exact c_zretP G hQ dX12_isLetter_17
set_option maxHeartbeats 4000000 in
set_option maxRecDepth 100000 in
theorem con_X12_isDigit {w : Wp} {N : Nat} {a0 : Int32} {M : Mm} {q : Int32} (hq : D_X12_isDigit N a0 M = some q) : Con w 0 yX12_isDigit cX12_isDigit 1 (some .boolean) [.int a0] M ((encPI M) q) := by
  refine Con.of (encPI M) q _ hq (by decide) (Nat.le_of_ble_eq_true rfl) ?_
  intro X G Q hQ
  have G : Good w X cX12_isDigit 1 RX12 (some .boolean) 0 := G
  refine c_weak [(0, .int a0)] [0] rfl ?_
  rw [D_X12_isDigit]
  refine c_iload_n G dX12_isDigit_0 rfl 0 rfl ?_
  refine c_bipush G (nI 48) dX12_isDigit_1 kB_48 ?_
  refine c_jn (ej := fun (p16 : Unit) => []) (sj := fun p16 => []) (mj := fun p16 => M) (pj := 16) (fun p16 => ?_) (fun J1 hJ16 => ?_)
  · skip
    refine c_iconst G (nI 0) dX12_isDigit_16 kI_0 ?_
    exact c_zretP G hQ dX12_isDigit_17
  · skip
    refine c_icmp_lt (tgt := 16) G dX12_isDigit_3 (by decide) (fun _ => ?_) (fun _ => ?_)
    · skip
      exact c_weak _ [] rfl (hJ16 ())
    · skip
      refine c_iload_n G dX12_isDigit_6 rfl 0 rfl ?_
      refine c_bipush G (nI 57) dX12_isDigit_7 kB_57 ?_
      refine c_icmp_gt (tgt := 16) G dX12_isDigit_9 (by decide) (fun _ => ?_) (fun _ => ?_)
      · skip
        exact c_weak _ [] rfl (hJ16 ())
      · skip
        refine c_iconst G (nI 1) dX12_isDigit_12 kI_1 ?_
        refine c_goto (tgt := 17) G dX12_isDigit_13 (by decide) ?_
        exact c_zretP G hQ dX12_isDigit_17
set_option maxHeartbeats 4000000 in
set_option maxRecDepth 100000 in
theorem con_X12_isKnownSign {w : Wp} {N : Nat} {a0 : Int32} {M : Mm} {q : Int32} (hq : D_X12_isKnownSign N a0 M = some q) : Con w 0 yX12_isKnownSign cX12_isKnownSign 1 (some .boolean) [.int a0] M ((encPI M) q) := by
  refine Con.of (encPI M) q _ hq (by decide) (Nat.le_of_ble_eq_true rfl) ?_
  intro X G Q hQ
  have G : Good w X cX12_isKnownSign 1 RX12 (some .boolean) 0 := G
  refine c_weak [(0, .int a0)] [0] rfl ?_
  rw [D_X12_isKnownSign]
  refine c_iload_n G dX12_isKnownSign_0 rfl 0 rfl ?_
  refine c_bipush G (nI 59) dX12_isKnownSign_1 kB_59 ?_
  refine c_jn (ej := fun (p78 : Unit) => []) (sj := fun p78 => []) (mj := fun p78 => M) (pj := 78) (fun p78 => ?_) (fun J1 hJ78 => ?_)
  · skip
    refine c_iconst G (nI 1) dX12_isKnownSign_78 kI_1 ?_
    refine c_goto (tgt := 83) G dX12_isKnownSign_79 (by decide) ?_
    exact c_zretP G hQ dX12_isKnownSign_83
  · skip
    refine c_icmp_eq (tgt := 78) G dX12_isKnownSign_3 (by decide) (fun _ => ?_) (fun _ => ?_)
    · skip
      exact c_weak _ [] rfl (hJ78 ())
    · skip
      refine c_iload_n G dX12_isKnownSign_6 rfl 0 rfl ?_
      refine c_bipush G (nI 58) dX12_isKnownSign_7 kB_58 ?_
      refine c_icmp_eq (tgt := 78) G dX12_isKnownSign_9 (by decide) (fun _ => ?_) (fun _ => ?_)
      · skip
        exact c_weak _ [] rfl (hJ78 ())
      · skip
        refine c_iload_n G dX12_isKnownSign_12 rfl 0 rfl ?_
        refine c_bipush G (nI 44) dX12_isKnownSign_13 kB_44 ?_
        refine c_icmp_eq (tgt := 78) G dX12_isKnownSign_15 (by decide) (fun _ => ?_) (fun _ => ?_)
        · skip
          exact c_weak _ [] rfl (hJ78 ())
        · skip
          refine c_iload_n G dX12_isKnownSign_18 rfl 0 rfl ?_
          refine c_bipush G (nI 46) dX12_isKnownSign_19 kB_46 ?_
          refine c_icmp_eq (tgt := 78) G dX12_isKnownSign_21 (by decide) (fun _ => ?_) (fun _ => ?_)
          · skip
            exact c_weak _ [] rfl (hJ78 ())
          · skip
            refine c_iload_n G dX12_isKnownSign_24 rfl 0 rfl ?_
            refine c_bipush G (nI 61) dX12_isKnownSign_25 kB_61 ?_
            refine c_icmp_eq (tgt := 78) G dX12_isKnownSign_27 (by decide) (fun _ => ?_) (fun _ => ?_)
            · skip
              exact c_weak _ [] rfl (hJ78 ())
            · skip
              refine c_iload_n G dX12_isKnownSign_30 rfl 0 rfl ?_
              refine c_bipush G (nI 43) dX12_isKnownSign_31 kB_43 ?_
              refine c_icmp_eq (tgt := 78) G dX12_isKnownSign_33 (by decide) (fun _ => ?_) (fun _ => ?_)
              · skip
                exact c_weak _ [] rfl (hJ78 ())
              · skip
                refine c_iload_n G dX12_isKnownSign_36 rfl 0 rfl ?_
                refine c_bipush G (nI 45) dX12_isKnownSign_37 kB_45 ?_
                refine c_icmp_eq (tgt := 78) G dX12_isKnownSign_39 (by decide) (fun _ => ?_) (fun _ => ?_)
                · skip
                  exact c_weak _ [] rfl (hJ78 ())
                · skip
                  refine c_iload_n G dX12_isKnownSign_42 rfl 0 rfl ?_
                  refine c_bipush G (nI 42) dX12_isKnownSign_43 kB_42 ?_
                  refine c_icmp_eq (tgt := 78) G dX12_isKnownSign_45 (by decide) (fun _ => ?_) (fun _ => ?_)
                  · skip
                    exact c_weak _ [] rfl (hJ78 ())
                  · skip
                    refine c_iload_n G dX12_isKnownSign_48 rfl 0 rfl ?_
                    refine c_bipush G (nI 124) dX12_isKnownSign_49 kB_124 ?_
                    refine c_icmp_eq (tgt := 78) G dX12_isKnownSign_51 (by decide) (fun _ => ?_) (fun _ => ?_)
                    · skip
                      exact c_weak _ [] rfl (hJ78 ())
                    · skip
                      refine c_iload_n G dX12_isKnownSign_54 rfl 0 rfl ?_
                      refine c_bipush G (nI 38) dX12_isKnownSign_55 kB_38 ?_
                      refine c_icmp_eq (tgt := 78) G dX12_isKnownSign_57 (by decide) (fun _ => ?_) (fun _ => ?_)
                      · skip
                        exact c_weak _ [] rfl (hJ78 ())
                      · skip
                        refine c_iload_n G dX12_isKnownSign_60 rfl 0 rfl ?_
                        refine c_bipush G (nI 60) dX12_isKnownSign_61 kB_60 ?_
                        refine c_icmp_eq (tgt := 78) G dX12_isKnownSign_63 (by decide) (fun _ => ?_) (fun _ => ?_)
                        · skip
                          exact c_weak _ [] rfl (hJ78 ())
                        · skip
                          refine c_iload_n G dX12_isKnownSign_66 rfl 0 rfl ?_
                          refine c_bipush G (nI 40) dX12_isKnownSign_67 kB_40 ?_
                          refine c_icmp_eq (tgt := 78) G dX12_isKnownSign_69 (by decide) (fun _ => ?_) (fun _ => ?_)
                          · skip
                            exact c_weak _ [] rfl (hJ78 ())
                          · skip
                            refine c_iload_n G dX12_isKnownSign_72 rfl 0 rfl ?_
                            refine c_bipush G (nI 41) dX12_isKnownSign_73 kB_41 ?_
                            refine c_icmp_ne (tgt := 82) G dX12_isKnownSign_75 (by decide) (fun _ => ?_) (fun _ => ?_)
                            · skip
                              exact c_weak _ [] rfl (hJ78 ())
                            · skip
                              refine c_iconst G (nI 0) dX12_isKnownSign_82 kI_0 ?_
                              exact c_zretP G hQ dX12_isKnownSign_83
set_option maxHeartbeats 4000000 in
set_option maxRecDepth 100000 in
theorem cl_X12_go_0 {w : Wp} {X : Cx} {Q : State → Prop} {ρ : Mm} (G : Good w X cX12_go 2 RX12 none 1) (hQ : Q = MQ (xL X) (Qd w (encV ρ)) (xA X) (xS X) (xk X) (xs X) (Aw w)) (kE39 : Mm → Option (Mm)) {N : Nat} {a0 : Nat} (h_a0 : lay a0 = (5, 12)) (hE39 : ∀ (Mz : Mm), Cov w X Q ρ some 2 39 [(0, .ref (wB w + pz (a0)))] [] Mz (kE39 Mz)) : ∀ (n : Nat) (M1 : Mm), Cov w X Q ρ some 2 0 [(0, .ref (wB w + pz (a0)))] [] M1 (L_X12_go_0 kE39 N a0 n M1) := by
  intro n
  induction n with
  | zero => intro M1; exact c_none
  | succ n ih =>
    intro M1
    rw [L_X12_go_0]
    refine c_aload_n G dX12_go_0 rfl 0 rfl ?_
    refine c_aload_n G dX12_go_1 rfl 0 rfl ?_
    refine c_getI G fl_X12_164 h_a0 rfl dX12_go_2 ?_
    refine c_callV_PI (d := 0) (rest := []) G [.int (M1.1 a0 12)] yv_X12_byteAt ml_X12_167 (by omega) (by decide) rfl rfl (Nat.le_of_ble_eq_true rfl) h_a0 (fun q hq => con_X12_byteAt h_a0 hq) dX12_go_5 (fun q1 _ => ?_)
    refine c_bipush G (nI 32) dX12_go_8 kB_32 ?_
    refine c_jn (ej := fun (p26 : Unit) => [(0, .ref (wB w + pz (a0)))]) (sj := fun p26 => []) (mj := fun p26 => M1) (pj := 26) (fun p26 => ?_) (fun J1 hJ26 => ?_)
    · skip
      refine c_aload_n G dX12_go_26 rfl 0 rfl ?_
      refine c_dup G dX12_go_27 rfl ?_
      refine c_getI G fl_X12_164 h_a0 rfl dX12_go_28 ?_
      refine c_iconst G (nI 1) dX12_go_31 kI_1 ?_
      refine c_iadd G dX12_go_32 ?_
      refine c_putI G fp_X12_164 h_a0 rfl dX12_go_33 (fun M2 _ => ?_)
      refine c_goto (tgt := 0) G dX12_go_36 (by decide) ?_
      exact c_weak _ [0] rfl (ih M2)
    · skip
      refine c_icmp_eq (tgt := 26) G dX12_go_10 (by decide) (fun _ => ?_) (fun _ => ?_)
      · skip
        exact c_weak _ [0] rfl (hJ26 ())
      · skip
        refine c_aload_n G dX12_go_13 rfl 0 rfl ?_
        refine c_aload_n G dX12_go_14 rfl 0 rfl ?_
        refine c_getI G fl_X12_164 h_a0 rfl dX12_go_15 ?_
        refine c_callV_PI (d := 0) (rest := []) G [.int (M1.1 a0 12)] yv_X12_byteAt ml_X12_167 (by omega) (by decide) rfl rfl (Nat.le_of_ble_eq_true rfl) h_a0 (fun q hq => con_X12_byteAt h_a0 hq) dX12_go_18 (fun q2 _ => ?_)
        refine c_bipush G (nI 10) dX12_go_21 kB_10 ?_
        refine c_icmp_ne (tgt := 39) G dX12_go_23 (by decide) (fun _ => ?_) (fun _ => ?_)
        · skip
          exact c_weak _ [0] rfl (hJ26 ())
        · skip
          exact c_weak _ [0] rfl (hE39 M1)
set_option maxHeartbeats 4000000 in
set_option maxRecDepth 100000 in
theorem cl_X12_go_186 {w : Wp} {X : Cx} {Q : State → Prop} {ρ : Mm} (G : Good w X cX12_go 2 RX12 none 1) (hQ : Q = MQ (xL X) (Qd w (encV ρ)) (xA X) (xS X) (xk X) (xs X) (Aw w)) (kE249 : Mm → Option (Mm)) {N : Nat} {a0 : Nat} (h_a0 : lay a0 = (5, 12)) (hE249 : ∀ (Mz : Mm), Cov w X Q ρ some 2 249 [(0, .ref (wB w + pz (a0)))] [] Mz (kE249 Mz)) : ∀ (n : Nat) (M10 : Mm), Cov w X Q ρ some 2 186 [(0, .ref (wB w + pz (a0)))] [] M10 (L_X12_go_186 kE249 N a0 n M10) := by
  intro n
  induction n with
  | zero => intro M10; exact c_none
  | succ n ih =>
    intro M10
    rw [L_X12_go_186]
    refine c_aload_n G dX12_go_186 rfl 0 rfl ?_
    refine c_aload_n G dX12_go_187 rfl 0 rfl ?_
    refine c_getI G fl_X12_164 h_a0 rfl dX12_go_188 ?_
    refine c_callV_PI (d := 0) (rest := []) G [.int (M10.1 a0 12)] yv_X12_byteAt ml_X12_167 (by omega) (by decide) rfl rfl (Nat.le_of_ble_eq_true rfl) h_a0 (fun q hq => con_X12_byteAt h_a0 hq) dX12_go_191 (fun q7 _ => ?_)
    refine c_callS_PI (d := 0) (rest := []) G [.int q7] ys_X12_isDigit ml_X12_189 (by omega) (by decide) rfl rfl (Nat.le_of_ble_eq_true rfl) (fun q hq => con_X12_isDigit hq) dX12_go_194 (fun q8 _ => ?_)
    refine c_if_eq (tgt := 249) G dX12_go_197 (by decide) (fun _ => ?_) (fun _ => ?_)
    · skip
      exact c_weak _ [0] rfl (hE249 M10)
    · skip
      refine c_aload_n G dX12_go_200 rfl 0 rfl ?_
      refine c_getI G fl_X12_164 h_a0 rfl dX12_go_201 ?_
      refine c_aload_n G dX12_go_204 rfl 0 rfl ?_
      refine c_getI G fl_X12_171 h_a0 rfl dX12_go_205 ?_
      refine c_isub G dX12_go_208 ?_
      refine c_iconst G (nI 4) dX12_go_209 kI_4 ?_
      refine c_bj (ej := fun (p236 : Mm) => [(0, .ref (wB w + pz (a0)))]) (sj := fun p236 => []) (mj := fun p236 => p236) (pj := 236) (fun p236 => ?_) (fun F hJ236 => ?_)
      · skip
        refine c_aload_n G dX12_go_236 rfl 0 rfl ?_
        refine c_dup G dX12_go_237 rfl ?_
        refine c_getI G fl_X12_164 h_a0 rfl dX12_go_238 ?_
        refine c_iconst G (nI 1) dX12_go_241 kI_1 ?_
        refine c_iadd G dX12_go_242 ?_
        refine c_putI G fp_X12_164 h_a0 rfl dX12_go_243 (fun M12 _ => ?_)
        refine c_goto (tgt := 186) G dX12_go_246 (by decide) ?_
        exact c_weak _ [0] rfl (ih M12)
      · skip
        refine c_icmp_ge (tgt := 236) G dX12_go_210 (by decide) (fun _ => ?_) (fun _ => ?_)
        · skip
          exact c_weak _ [0] rfl (hJ236 M10)
        · skip
          refine c_aload_n G dX12_go_213 rfl 0 rfl ?_
          refine c_bipush G (nI 10) dX12_go_214 kB_10 ?_
          refine c_aload_n G dX12_go_216 rfl 0 rfl ?_
          refine c_getI G fl_X12_192 h_a0 rfl dX12_go_217 ?_
          refine c_imul G dX12_go_220 ?_
          refine c_aload_n G dX12_go_221 rfl 0 rfl ?_
          refine c_aload_n G dX12_go_222 rfl 0 rfl ?_
          refine c_getI G fl_X12_164 h_a0 rfl dX12_go_223 ?_
          refine c_callV_PI (d := 0) (rest := [.int ((nI 10) * (M10.1 a0 14)), .ref (wB w + pz (a0))]) G [.int (M10.1 a0 12)] yv_X12_byteAt ml_X12_167 (by omega) (by decide) rfl rfl (Nat.le_of_ble_eq_true rfl) h_a0 (fun q hq => con_X12_byteAt h_a0 hq) dX12_go_226 (fun q9 _ => ?_)
          refine c_iadd G dX12_go_229 ?_
          refine c_bipush G (nI 48) dX12_go_230 kB_48 ?_
          refine c_isub G dX12_go_232 ?_
          refine c_putI G fp_X12_192 h_a0 rfl dX12_go_233 (fun M13 _ => ?_)
          exact c_weak _ [0] rfl (hJ236 M13)
set_option maxHeartbeats 4000000 in
set_option maxRecDepth 100000 in
theorem cl_X12_go_81 {w : Wp} {X : Cx} {Q : State → Prop} {ρ : Mm} (G : Good w X cX12_go 2 RX12 none 1) (hQ : Q = MQ (xL X) (Qd w (encV ρ)) (xA X) (xS X) (xk X) (xs X) (Aw w)) (kE148 : Mm → Option (Mm)) {N : Nat} {a0 : Nat} (h_a0 : lay a0 = (5, 12)) (hE148 : ∀ (Mz : Mm), Cov w X Q ρ some 2 148 [(0, .ref (wB w + pz (a0)))] [] Mz (kE148 Mz)) : ∀ (n : Nat) (M17 : Mm), Cov w X Q ρ some 2 81 [(0, .ref (wB w + pz (a0)))] [] M17 (L_X12_go_81 kE148 N a0 n M17) := by
  intro n
  induction n with
  | zero => intro M17; exact c_none
  | succ n ih =>
    intro M17
    rw [L_X12_go_81]
    refine c_aload_n G dX12_go_81 rfl 0 rfl ?_
    refine c_aload_n G dX12_go_82 rfl 0 rfl ?_
    refine c_getI G fl_X12_164 h_a0 rfl dX12_go_83 ?_
    refine c_callV_PI (d := 0) (rest := []) G [.int (M17.1 a0 12)] yv_X12_byteAt ml_X12_167 (by omega) (by decide) rfl rfl (Nat.le_of_ble_eq_true rfl) h_a0 (fun q hq => con_X12_byteAt h_a0 hq) dX12_go_86 (fun q10 _ => ?_)
    refine c_callS_PI (d := 0) (rest := []) G [.int q10] ys_X12_isLetter ml_X12_177 (by omega) (by decide) rfl rfl (Nat.le_of_ble_eq_true rfl) (fun q hq => con_X12_isLetter hq) dX12_go_89 (fun q11 _ => ?_)
    refine c_if_eq (tgt := 148) G dX12_go_92 (by decide) (fun _ => ?_) (fun _ => ?_)
    · skip
      exact c_weak _ [0] rfl (hE148 M17)
    · skip
      refine c_aload_n G dX12_go_95 rfl 0 rfl ?_
      refine c_getI G fl_X12_164 h_a0 rfl dX12_go_96 ?_
      refine c_aload_n G dX12_go_99 rfl 0 rfl ?_
      refine c_getI G fl_X12_171 h_a0 rfl dX12_go_100 ?_
      refine c_isub G dX12_go_103 ?_
      refine c_bipush G (nI 8) dX12_go_104 kB_8 ?_
      refine c_bj (ej := fun (p135 : Mm) => [(0, .ref (wB w + pz (a0)))]) (sj := fun p135 => []) (mj := fun p135 => p135) (pj := 135) (fun p135 => ?_) (fun F hJ135 => ?_)
      · skip
        refine c_aload_n G dX12_go_135 rfl 0 rfl ?_
        refine c_dup G dX12_go_136 rfl ?_
        refine c_getI G fl_X12_164 h_a0 rfl dX12_go_137 ?_
        refine c_iconst G (nI 1) dX12_go_140 kI_1 ?_
        refine c_iadd G dX12_go_141 ?_
        refine c_putI G fp_X12_164 h_a0 rfl dX12_go_142 (fun M19 _ => ?_)
        refine c_goto (tgt := 81) G dX12_go_145 (by decide) ?_
        exact c_weak _ [0] rfl (ih M19)
      · skip
        refine c_icmp_ge (tgt := 135) G dX12_go_106 (by decide) (fun _ => ?_) (fun _ => ?_)
        · skip
          exact c_weak _ [0] rfl (hJ135 M17)
        · skip
          refine c_aload_n G dX12_go_109 rfl 0 rfl ?_
          refine c_ldc2 G (lN 27) kC_X12_185 kW_27 dX12_go_110 ?_
          refine c_aload_n G dX12_go_113 rfl 0 rfl ?_
          refine c_getJ G fl_X12_181 h_a0 rfl dX12_go_114 ?_
          refine c_lmul G dX12_go_117 ?_
          refine c_aload_n G dX12_go_118 rfl 0 rfl ?_
          refine c_aload_n G dX12_go_119 rfl 0 rfl ?_
          refine c_getI G fl_X12_164 h_a0 rfl dX12_go_120 ?_
          refine c_callV_PI (d := 0) (rest := [.long ((lN 27) * (M17.2.1 a0 18)), .ref (wB w + pz (a0))]) G [.int (M17.1 a0 12)] yv_X12_byteAt ml_X12_167 (by omega) (by decide) rfl rfl (Nat.le_of_ble_eq_true rfl) h_a0 (fun q hq => con_X12_byteAt h_a0 hq) dX12_go_123 (fun q12 _ => ?_)
          refine c_i2l G dX12_go_126 ?_
          refine c_ladd G dX12_go_127 ?_
          refine c_ldc2 G (lN 96) kC_X12_187 kW_96 dX12_go_128 ?_
          refine c_lsub G dX12_go_131 ?_
          refine c_putJ G fp_X12_181 h_a0 rfl dX12_go_132 (fun M20 _ => ?_)
          exact c_weak _ [0] rfl (hJ135 M20)
set_option maxHeartbeats 4000000 in
set_option maxRecDepth 100000 in
theorem con_X12_go {w : Wp} {N : Nat} {a0 : Nat} {M : Mm} {q : Mm} (h_a0 : lay a0 = (5, 12)) (hq : D_X12_go N a0 M = some q) : Con w 1 yX12_go cX12_go 2 none [.ref (wB w + pz (a0))] M (encV q) := by
  refine Con.of encV q _ hq (by decide) (Nat.le_of_ble_eq_true rfl) ?_
  intro X G Q hQ
  have G : Good w X cX12_go 2 RX12 none 1 := G
  refine c_weak [(0, .ref (wB w + pz (a0)))] [0] rfl ?_
  rw [D_X12_go]
  refine c_weak _ [0] rfl (cl_X12_go_0 G hQ _ h_a0 ?_ N M)
  · intro M3
    refine c_aload_n G dX12_go_39 rfl 0 rfl ?_
    refine c_aload_n G dX12_go_40 rfl 0 rfl ?_
    refine c_getI G fl_X12_164 h_a0 rfl dX12_go_41 ?_
    refine c_putI G fp_X12_171 h_a0 rfl dX12_go_44 (fun M4 _ => ?_)
    refine c_aload_n G dX12_go_47 rfl 0 rfl ?_
    refine c_aload_n G dX12_go_48 rfl 0 rfl ?_
    refine c_getI G fl_X12_164 h_a0 rfl dX12_go_49 ?_
    refine c_callV_PI (d := 0) (rest := []) G [.int (M4.1 a0 12)] yv_X12_byteAt ml_X12_167 (by omega) (by decide) rfl rfl (Nat.le_of_ble_eq_true rfl) h_a0 (fun q hq => con_X12_byteAt h_a0 hq) dX12_go_52 (fun q3 _ => ?_)
    refine c_istore_n G [(1, .int q3), (0, .ref (wB w + pz (a0)))] dX12_go_55 rfl (by decide) rfl ?_
    refine c_iload_n G dX12_go_56 rfl 0 rfl ?_
    refine c_iconst G m1 dX12_go_57 kI_m1 ?_
    refine c_icmp_ne (tgt := 69) G dX12_go_58 (by decide) (fun _ => ?_) (fun _ => ?_)
    · skip
      refine c_aload_n G dX12_go_61 rfl 1 rfl ?_
      refine c_iconst G (nI 0) dX12_go_62 kI_0 ?_
      refine c_putI G fp_X12_174 h_a0 rfl dX12_go_63 (fun M5 _ => ?_)
      refine c_goto (tgt := 305) G dX12_go_66 (by decide) ?_
      exact c_vret G hQ dX12_go_305
    · skip
      refine c_iload_n G dX12_go_69 rfl 0 rfl ?_
      refine c_callS_PI (d := 0) (rest := []) G [.int q3] ys_X12_isLetter ml_X12_177 (by omega) (by decide) rfl rfl (Nat.le_of_ble_eq_true rfl) (fun q hq => con_X12_isLetter hq) dX12_go_70 (fun q4 _ => ?_)
      refine c_if_eq (tgt := 174) G dX12_go_73 (by decide) (fun _ => ?_) (fun _ => ?_)
      · skip
        refine c_iload_n G dX12_go_174 rfl 0 rfl ?_
        refine c_callS_PI (d := 0) (rest := []) G [.int q3] ys_X12_isDigit ml_X12_189 (by omega) (by decide) rfl rfl (Nat.le_of_ble_eq_true rfl) (fun q hq => con_X12_isDigit hq) dX12_go_175 (fun q5 _ => ?_)
        refine c_if_eq (tgt := 274) G dX12_go_178 (by decide) (fun _ => ?_) (fun _ => ?_)
        · skip
          refine c_aload_n G dX12_go_274 rfl 1 rfl ?_
          refine c_dup G dX12_go_275 rfl ?_
          refine c_getI G fl_X12_164 h_a0 rfl dX12_go_276 ?_
          refine c_iconst G (nI 1) dX12_go_279 kI_1 ?_
          refine c_iadd G dX12_go_280 ?_
          refine c_putI G fp_X12_164 h_a0 rfl dX12_go_281 (fun M6 _ => ?_)
          refine c_aload_n G dX12_go_284 rfl 1 rfl ?_
          refine c_iload_n G dX12_go_285 rfl 0 rfl ?_
          refine c_callS_PI (d := 0) (rest := [.ref (wB w + pz (a0))]) G [.int q3] ys_X12_isKnownSign ml_X12_195 (by omega) (by decide) rfl rfl (Nat.le_of_ble_eq_true rfl) (fun q hq => con_X12_isKnownSign hq) dX12_go_286 (fun q6 _ => ?_)
          refine c_bj (ej := fun (p297 : Int32) => [(0, .ref (wB w + pz (a0))), (1, .int q3)]) (sj := fun p297 => [.int p297, .ref (wB w + pz (a0))]) (mj := fun p297 => M6) (pj := 297) (fun p297 => ?_) (fun F hJ297 => ?_)
          · skip
            refine c_putI G fp_X12_174 h_a0 rfl dX12_go_297 (fun M7 _ => ?_)
            refine c_aload_n G dX12_go_300 rfl 0 rfl ?_
            refine c_iload_n G dX12_go_301 rfl 1 rfl ?_
            refine c_putI G fp_X12_198 h_a0 rfl dX12_go_302 (fun M8 _ => ?_)
            exact c_vret G hQ dX12_go_305
          · skip
            refine c_if_eq (tgt := 296) G dX12_go_289 (by decide) (fun _ => ?_) (fun _ => ?_)
            · skip
              refine c_iconst G (nI 1) dX12_go_296 kI_1 ?_
              exact c_weak _ [1, 0] rfl (hJ297 (nI 1))
            · skip
              refine c_iconst G (nI 4) dX12_go_292 kI_4 ?_
              refine c_goto (tgt := 297) G dX12_go_293 (by decide) ?_
              exact c_weak _ [1, 0] rfl (hJ297 (nI 4))
        · skip
          refine c_aload_n G dX12_go_181 rfl 1 rfl ?_
          refine c_iconst G (nI 0) dX12_go_182 kI_0 ?_
          refine c_putI G fp_X12_192 h_a0 rfl dX12_go_183 (fun M9 _ => ?_)
          refine c_weak _ [1] rfl (cl_X12_go_186 G hQ _ h_a0 ?_ N M9)
          · intro M14
            refine c_aload_n G dX12_go_249 rfl 0 rfl ?_
            refine c_aload_n G dX12_go_250 rfl 0 rfl ?_
            refine c_getI G fl_X12_164 h_a0 rfl dX12_go_251 ?_
            refine c_aload_n G dX12_go_254 rfl 0 rfl ?_
            refine c_getI G fl_X12_171 h_a0 rfl dX12_go_255 ?_
            refine c_isub G dX12_go_258 ?_
            refine c_iconst G (nI 4) dX12_go_259 kI_4 ?_
            refine c_bj (ej := fun (p268 : Int32) => []) (sj := fun p268 => [.int p268, .ref (wB w + pz (a0))]) (mj := fun p268 => M14) (pj := 268) (fun p268 => ?_) (fun F hJ268 => ?_)
            · skip
              refine c_putI G fp_X12_174 h_a0 rfl dX12_go_268 (fun M15 _ => ?_)
              refine c_goto (tgt := 305) G dX12_go_271 (by decide) ?_
              exact c_vret G hQ dX12_go_305
            · skip
              refine c_icmp_le (tgt := 267) G dX12_go_260 (by decide) (fun _ => ?_) (fun _ => ?_)
              · skip
                refine c_iconst G (nI 3) dX12_go_267 kI_3 ?_
                exact c_weak _ [] rfl (hJ268 (nI 3))
              · skip
                refine c_iconst G (nI 1) dX12_go_263 kI_1 ?_
                refine c_goto (tgt := 268) G dX12_go_264 (by decide) ?_
                exact c_weak _ [] rfl (hJ268 (nI 1))
      · skip
        refine c_aload_n G dX12_go_76 rfl 1 rfl ?_
        refine c_lconst G (lN 0) dX12_go_77 kL_0 ?_
        refine c_putJ G fp_X12_181 h_a0 rfl dX12_go_78 (fun M16 _ => ?_)
        refine c_weak _ [1] rfl (cl_X12_go_81 G hQ _ h_a0 ?_ N M16)
        · intro M21
          refine c_aload_n G dX12_go_148 rfl 0 rfl ?_
          refine c_aload_n G dX12_go_149 rfl 0 rfl ?_
          refine c_getI G fl_X12_164 h_a0 rfl dX12_go_150 ?_
          refine c_aload_n G dX12_go_153 rfl 0 rfl ?_
          refine c_getI G fl_X12_171 h_a0 rfl dX12_go_154 ?_
          refine c_isub G dX12_go_157 ?_
          refine c_bipush G (nI 8) dX12_go_158 kB_8 ?_
          refine c_bj (ej := fun (p168 : Int32) => []) (sj := fun p168 => [.int p168, .ref (wB w + pz (a0))]) (mj := fun p168 => M21) (pj := 168) (fun p168 => ?_) (fun F hJ168 => ?_)
          · skip
            refine c_putI G fp_X12_174 h_a0 rfl dX12_go_168 (fun M22 _ => ?_)
            refine c_goto (tgt := 305) G dX12_go_171 (by decide) ?_
            exact c_vret G hQ dX12_go_305
          · skip
            refine c_icmp_le (tgt := 167) G dX12_go_160 (by decide) (fun _ => ?_) (fun _ => ?_)
            · skip
              refine c_iconst G (nI 2) dX12_go_167 kI_2 ?_
              exact c_weak _ [] rfl (hJ168 (nI 2))
            · skip
              refine c_iconst G (nI 1) dX12_go_163 kI_1 ?_
              refine c_goto (tgt := 168) G dX12_go_164 (by decide) ?_
              exact c_weak _ [] rfl (hJ168 (nI 1))
set_option maxHeartbeats 4000000 in
set_option maxRecDepth 100000 in
theorem con_X12_spelt {w : Wp} {N : Nat} {a0 : Int32} {a1 : Int32} {a2 : Int32} {a3 : Int32} {a4 : Int32} {a5 : Int32} {M : Mm} {q : Int64} (hq : D_X12_spelt N a0 a1 a2 a3 a4 a5 M = some q) : Con w 0 yX12_spelt cX12_spelt 8 (some .long) [.int a0, .int a1, .int a2, .int a3, .int a4, .int a5] M ((encPJ M) q) := by
  refine Con.of (encPJ M) q _ hq (by decide) (Nat.le_of_ble_eq_true rfl) ?_
  intro X G Q hQ
  have G : Good w X cX12_spelt 8 RX12 (some .long) 0 := G
  refine c_weak [(0, .int a0), (1, .int a1), (2, .int a2), (3, .int a3), (4, .int a4), (5, .int a5)] [0, 1, 2, 3, 4, 5] rfl ?_
  rw [D_X12_spelt]
  refine c_ldc2 G (lN 27) kC_X12_185 kW_27 dX12_spelt_0 ?_
  refine c_iload_n G dX12_spelt_3 rfl 0 rfl ?_
  refine c_i2l G dX12_spelt_4 ?_
  refine c_ldc2 G (lN 96) kC_X12_187 kW_96 dX12_spelt_5 ?_
  refine c_lsub G dX12_spelt_8 ?_
  refine c_lmul G dX12_spelt_9 ?_
  refine c_iload_n G dX12_spelt_10 rfl 1 rfl ?_
  refine c_i2l G dX12_spelt_11 ?_
  refine c_ladd G dX12_spelt_12 ?_
  refine c_ldc2 G (lN 96) kC_X12_187 kW_96 dX12_spelt_13 ?_
  refine c_lsub G dX12_spelt_16 ?_
  refine c_letl (fun l6_1 _ => ?_)
  refine c_lstore G [(6, .long l6_1), (0, .int a0), (1, .int a1), (2, .int a2), (3, .int a3), (4, .int a4), (5, .int a5)] dX12_spelt_17 (by decide) rfl ?_
  refine c_iload_n G dX12_spelt_19 rfl 3 rfl ?_
  refine c_bj (ej := fun (p38 : Int64) => [(3, .int a3), (4, .int a4), (5, .int a5), (6, .long p38)]) (sj := fun p38 => []) (mj := fun p38 => M) (pj := 38) (fun p38 => ?_) (fun F hJ38 => ?_)
  · skip
    refine c_iload_n G dX12_spelt_38 rfl 0 rfl ?_
    refine c_bj (ej := fun (p57 : Int64) => [(4, .int a4), (5, .int a5), (6, .long p57)]) (sj := fun p57 => []) (mj := fun p57 => M) (pj := 57) (fun p57 => ?_) (fun F hJ57 => ?_)
    · skip
      refine c_iload G dX12_spelt_57 0 rfl ?_
      refine c_bj (ej := fun (p78 : Int64) => [(5, .int a5), (6, .long p78)]) (sj := fun p78 => []) (mj := fun p78 => M) (pj := 78) (fun p78 => ?_) (fun F hJ78 => ?_)
      · skip
        refine c_iload G dX12_spelt_78 0 rfl ?_
        refine c_if_le (tgt := 99) G dX12_spelt_80 (by decide) (fun _ => ?_) (fun _ => ?_)
        · skip
          refine c_lload G dX12_spelt_99 1 rfl ?_
          exact c_lretP G hQ dX12_spelt_101
        · skip
          refine c_ldc2 G (lN 27) kC_X12_185 kW_27 dX12_spelt_83 ?_
          refine c_lload G dX12_spelt_86 1 rfl ?_
          refine c_lmul G dX12_spelt_88 ?_
          refine c_iload G dX12_spelt_89 0 rfl ?_
          refine c_i2l G dX12_spelt_91 ?_
          refine c_ladd G dX12_spelt_92 ?_
          refine c_ldc2 G (lN 96) kC_X12_187 kW_96 dX12_spelt_93 ?_
          refine c_lsub G dX12_spelt_96 ?_
          refine c_letl (fun l6_5 _ => ?_)
          refine c_lstore G [(6, .long l6_5), (5, .int a5)] dX12_spelt_97 (by decide) rfl ?_
          refine c_lload G dX12_spelt_99 0 rfl ?_
          exact c_lretP G hQ dX12_spelt_101
      · skip
        refine c_if_le (tgt := 78) G dX12_spelt_59 (by decide) (fun _ => ?_) (fun _ => ?_)
        · skip
          exact c_weak _ [1, 2] rfl (hJ78 p57)
        · skip
          refine c_ldc2 G (lN 27) kC_X12_185 kW_27 dX12_spelt_62 ?_
          refine c_lload G dX12_spelt_65 2 rfl ?_
          refine c_lmul G dX12_spelt_67 ?_
          refine c_iload G dX12_spelt_68 0 rfl ?_
          refine c_i2l G dX12_spelt_70 ?_
          refine c_ladd G dX12_spelt_71 ?_
          refine c_ldc2 G (lN 96) kC_X12_187 kW_96 dX12_spelt_72 ?_
          refine c_lsub G dX12_spelt_75 ?_
          refine c_letl (fun l6_6 _ => ?_)
          refine c_lstore G [(6, .long l6_6), (4, .int a4), (5, .int a5)] dX12_spelt_76 (by decide) rfl ?_
          exact c_weak _ [2, 0] rfl (hJ78 l6_6)
    · skip
      refine c_if_le (tgt := 57) G dX12_spelt_39 (by decide) (fun _ => ?_) (fun _ => ?_)
      · skip
        exact c_weak _ [1, 2, 3] rfl (hJ57 p38)
      · skip
        refine c_ldc2 G (lN 27) kC_X12_185 kW_27 dX12_spelt_42 ?_
        refine c_lload G dX12_spelt_45 3 rfl ?_
        refine c_lmul G dX12_spelt_47 ?_
        refine c_iload_n G dX12_spelt_48 rfl 0 rfl ?_
        refine c_i2l G dX12_spelt_49 ?_
        refine c_ladd G dX12_spelt_50 ?_
        refine c_ldc2 G (lN 96) kC_X12_187 kW_96 dX12_spelt_51 ?_
        refine c_lsub G dX12_spelt_54 ?_
        refine c_letl (fun l6_7 _ => ?_)
        refine c_lstore G [(6, .long l6_7), (3, .int a3), (4, .int a4), (5, .int a5)] dX12_spelt_55 (by decide) rfl ?_
        exact c_weak _ [2, 3, 0] rfl (hJ57 l6_7)
  · skip
    refine c_if_le (tgt := 38) G dX12_spelt_20 (by decide) (fun _ => ?_) (fun _ => ?_)
    · skip
      exact c_weak _ [4, 5, 6, 0] rfl (hJ38 l6_1)
    · skip
      refine c_ldc2 G (lN 27) kC_X12_185 kW_27 dX12_spelt_23 ?_
      refine c_lload G dX12_spelt_26 0 rfl ?_
      refine c_lmul G dX12_spelt_28 ?_
      refine c_iload_n G dX12_spelt_29 rfl 3 rfl ?_
      refine c_i2l G dX12_spelt_30 ?_
      refine c_ladd G dX12_spelt_31 ?_
      refine c_ldc2 G (lN 96) kC_X12_187 kW_96 dX12_spelt_32 ?_
      refine c_lsub G dX12_spelt_35 ?_
      refine c_letl (fun l6_8 _ => ?_)
      refine c_lstore G [(6, .long l6_8), (0, .int a0), (1, .int a1), (2, .int a2), (3, .int a3), (4, .int a4), (5, .int a5)] dX12_spelt_36 (by decide) rfl ?_
      exact c_weak _ [4, 5, 6, 0] rfl (hJ38 l6_8)
set_option maxHeartbeats 4000000 in
set_option maxRecDepth 100000 in
theorem con_X12_wordOf {w : Wp} {N : Nat} {a0 : Int32} {M : Mm} {q : Int64} (hq : D_X12_wordOf N a0 M = some q) : Con w 1 yX12_wordOf cX12_wordOf 1 (some .long) [.int a0] M ((encPJ M) q) := by
  refine Con.of (encPJ M) q _ hq (by decide) (Nat.le_of_ble_eq_true rfl) ?_
  intro X G Q hQ
  have G : Good w X cX12_wordOf 1 RX12 (some .long) 1 := G
  refine c_weak [(0, .int a0)] [0] rfl ?_
  rw [D_X12_wordOf]
  refine c_iload_n G dX12_wordOf_0 rfl 0 rfl ?_
  refine c_tsw (tgt := 48) G (nI 0) 0 dX12_wordOf_1 (by decide +kernel) (by decide +kernel) rfl (by decide) (fun _ => ?_) (fun hn0 => ?_)
  · skip
    refine c_bipush G (nI 115) dX12_wordOf_48 kB_115 ?_
    refine c_bipush G (nI 121) dX12_wordOf_50 kB_121 ?_
    refine c_bipush G (nI 109) dX12_wordOf_52 kB_109 ?_
    refine c_bipush G (nI 98) dX12_wordOf_54 kB_98 ?_
    refine c_bipush G (nI 111) dX12_wordOf_56 kB_111 ?_
    refine c_bipush G (nI 108) dX12_wordOf_58 kB_108 ?_
    refine c_callS_PJ (d := 0) (rest := []) G [.int (nI 115), .int (nI 121), .int (nI 109), .int (nI 98), .int (nI 111), .int (nI 108)] ys_X12_spelt ml_X12_201 (by omega) (by decide) rfl rfl (Nat.le_of_ble_eq_true rfl) (fun q hq => con_X12_spelt hq) dX12_wordOf_60 (fun q1 _ => ?_)
    exact c_lretP G hQ dX12_wordOf_63
  · skip
    refine c_tsw (tgt := 64) G (nI 1) 1 dX12_wordOf_1 (by decide +kernel) (by decide +kernel) rfl (by decide) (fun _ => ?_) (fun hn1 => ?_)
    · skip
      refine c_bipush G (nI 112) dX12_wordOf_64 kB_112 ?_
      refine c_bipush G (nI 114) dX12_wordOf_66 kB_114 ?_
      refine c_bipush G (nI 111) dX12_wordOf_68 kB_111 ?_
      refine c_bipush G (nI 100) dX12_wordOf_70 kB_100 ?_
      refine c_iconst G (nI 0) dX12_wordOf_72 kI_0 ?_
      refine c_iconst G (nI 0) dX12_wordOf_73 kI_0 ?_
      refine c_callS_PJ (d := 0) (rest := []) G [.int (nI 112), .int (nI 114), .int (nI 111), .int (nI 100), .int (nI 0), .int (nI 0)] ys_X12_spelt ml_X12_201 (by omega) (by decide) rfl rfl (Nat.le_of_ble_eq_true rfl) (fun q hq => con_X12_spelt hq) dX12_wordOf_74 (fun q2 _ => ?_)
      exact c_lretP G hQ dX12_wordOf_77
    · skip
      refine c_tsw (tgt := 78) G (nI 2) 2 dX12_wordOf_1 (by decide +kernel) (by decide +kernel) rfl (by decide) (fun _ => ?_) (fun hn2 => ?_)
      · skip
        refine c_bipush G (nI 114) dX12_wordOf_78 kB_114 ?_
        refine c_bipush G (nI 117) dX12_wordOf_80 kB_117 ?_
        refine c_bipush G (nI 108) dX12_wordOf_82 kB_108 ?_
        refine c_bipush G (nI 101) dX12_wordOf_84 kB_101 ?_
        refine c_iconst G (nI 0) dX12_wordOf_86 kI_0 ?_
        refine c_iconst G (nI 0) dX12_wordOf_87 kI_0 ?_
        refine c_callS_PJ (d := 0) (rest := []) G [.int (nI 114), .int (nI 117), .int (nI 108), .int (nI 101), .int (nI 0), .int (nI 0)] ys_X12_spelt ml_X12_201 (by omega) (by decide) rfl rfl (Nat.le_of_ble_eq_true rfl) (fun q hq => con_X12_spelt hq) dX12_wordOf_88 (fun q3 _ => ?_)
        exact c_lretP G hQ dX12_wordOf_91
      · skip
        refine c_tsw (tgt := 92) G (nI 3) 3 dX12_wordOf_1 (by decide +kernel) (by decide +kernel) rfl (by decide) (fun _ => ?_) (fun hn3 => ?_)
        · skip
          refine c_bipush G (nI 105) dX12_wordOf_92 kB_105 ?_
          refine c_bipush G (nI 110) dX12_wordOf_94 kB_110 ?_
          refine c_iconst G (nI 0) dX12_wordOf_96 kI_0 ?_
          refine c_iconst G (nI 0) dX12_wordOf_97 kI_0 ?_
          refine c_iconst G (nI 0) dX12_wordOf_98 kI_0 ?_
          refine c_iconst G (nI 0) dX12_wordOf_99 kI_0 ?_
          refine c_callS_PJ (d := 0) (rest := []) G [.int (nI 105), .int (nI 110), .int (nI 0), .int (nI 0), .int (nI 0), .int (nI 0)] ys_X12_spelt ml_X12_201 (by omega) (by decide) rfl rfl (Nat.le_of_ble_eq_true rfl) (fun q hq => con_X12_spelt hq) dX12_wordOf_100 (fun q4 _ => ?_)
          exact c_lretP G hQ dX12_wordOf_103
        · skip
          refine c_tsw (tgt := 104) G (nI 4) 4 dX12_wordOf_1 (by decide +kernel) (by decide +kernel) rfl (by decide) (fun _ => ?_) (fun hn4 => ?_)
          · skip
            refine c_bipush G (nI 111) dX12_wordOf_104 kB_111 ?_
            refine c_bipush G (nI 117) dX12_wordOf_106 kB_117 ?_
            refine c_bipush G (nI 116) dX12_wordOf_108 kB_116 ?_
            refine c_iconst G (nI 0) dX12_wordOf_110 kI_0 ?_
            refine c_iconst G (nI 0) dX12_wordOf_111 kI_0 ?_
            refine c_iconst G (nI 0) dX12_wordOf_112 kI_0 ?_
            refine c_callS_PJ (d := 0) (rest := []) G [.int (nI 111), .int (nI 117), .int (nI 116), .int (nI 0), .int (nI 0), .int (nI 0)] ys_X12_spelt ml_X12_201 (by omega) (by decide) rfl rfl (Nat.le_of_ble_eq_true rfl) (fun q hq => con_X12_spelt hq) dX12_wordOf_113 (fun q5 _ => ?_)
            exact c_lretP G hQ dX12_wordOf_116
          · skip
            refine c_tsw (tgt := 117) G (nI 5) 5 dX12_wordOf_1 (by decide +kernel) (by decide +kernel) rfl (by decide) (fun _ => ?_) (fun hn5 => ?_)
            · skip
              refine c_bipush G (nI 110) dX12_wordOf_117 kB_110 ?_
              refine c_bipush G (nI 117) dX12_wordOf_119 kB_117 ?_
              refine c_bipush G (nI 109) dX12_wordOf_121 kB_109 ?_
              refine c_iconst G (nI 0) dX12_wordOf_123 kI_0 ?_
              refine c_iconst G (nI 0) dX12_wordOf_124 kI_0 ?_
              refine c_iconst G (nI 0) dX12_wordOf_125 kI_0 ?_
              refine c_callS_PJ (d := 0) (rest := []) G [.int (nI 110), .int (nI 117), .int (nI 109), .int (nI 0), .int (nI 0), .int (nI 0)] ys_X12_spelt ml_X12_201 (by omega) (by decide) rfl rfl (Nat.le_of_ble_eq_true rfl) (fun q hq => con_X12_spelt hq) dX12_wordOf_126 (fun q6 _ => ?_)
              exact c_lretP G hQ dX12_wordOf_129
            · skip
              refine c_tsw (tgt := 130) G (nI 6) 6 dX12_wordOf_1 (by decide +kernel) (by decide +kernel) rfl (by decide) (fun _ => ?_) (fun hn6 => ?_)
              · skip
                refine c_bipush G (nI 109) dX12_wordOf_130 kB_109 ?_
                refine c_bipush G (nI 97) dX12_wordOf_132 kB_97 ?_
                refine c_bipush G (nI 120) dX12_wordOf_134 kB_120 ?_
                refine c_iconst G (nI 0) dX12_wordOf_136 kI_0 ?_
                refine c_iconst G (nI 0) dX12_wordOf_137 kI_0 ?_
                refine c_iconst G (nI 0) dX12_wordOf_138 kI_0 ?_
                refine c_callS_PJ (d := 0) (rest := []) G [.int (nI 109), .int (nI 97), .int (nI 120), .int (nI 0), .int (nI 0), .int (nI 0)] ys_X12_spelt ml_X12_201 (by omega) (by decide) rfl rfl (Nat.le_of_ble_eq_true rfl) (fun q hq => con_X12_spelt hq) dX12_wordOf_139 (fun q7 _ => ?_)
                exact c_lretP G hQ dX12_wordOf_142
              · skip
                refine c_tsw (tgt := 143) G (nI 7) 7 dX12_wordOf_1 (by decide +kernel) (by decide +kernel) rfl (by decide) (fun _ => ?_) (fun hn7 => ?_)
                · skip
                  refine c_bipush G (nI 109) dX12_wordOf_143 kB_109 ?_
                  refine c_bipush G (nI 105) dX12_wordOf_145 kB_105 ?_
                  refine c_bipush G (nI 110) dX12_wordOf_147 kB_110 ?_
                  refine c_iconst G (nI 0) dX12_wordOf_149 kI_0 ?_
                  refine c_iconst G (nI 0) dX12_wordOf_150 kI_0 ?_
                  refine c_iconst G (nI 0) dX12_wordOf_151 kI_0 ?_
                  refine c_callS_PJ (d := 0) (rest := []) G [.int (nI 109), .int (nI 105), .int (nI 110), .int (nI 0), .int (nI 0), .int (nI 0)] ys_X12_spelt ml_X12_201 (by omega) (by decide) rfl rfl (Nat.le_of_ble_eq_true rfl) (fun q hq => con_X12_spelt hq) dX12_wordOf_152 (fun q8 _ => ?_)
                  exact c_lretP G hQ dX12_wordOf_155
                · skip
                  have hm0 := lv_neT hn0 (show (nI 0).toInt = 0 by decide +kernel)
                  have hm1 := lv_neT hn1 (show (nI 1).toInt = 1 by decide +kernel)
                  have hm2 := lv_neT hn2 (show (nI 2).toInt = 2 by decide +kernel)
                  have hm3 := lv_neT hn3 (show (nI 3).toInt = 3 by decide +kernel)
                  have hm4 := lv_neT hn4 (show (nI 4).toInt = 4 by decide +kernel)
                  have hm5 := lv_neT hn5 (show (nI 5).toInt = 5 by decide +kernel)
                  have hm6 := lv_neT hn6 (show (nI 6).toInt = 6 by decide +kernel)
                  have hm7 := lv_neT hn7 (show (nI 7).toInt = 7 by decide +kernel)
                  refine c_tswD (tgt := 156) G dX12_wordOf_1 (by omega) (by decide) ?_
                  refine c_bipush G (nI 105) dX12_wordOf_156 kB_105 ?_
                  refine c_bipush G (nI 102) dX12_wordOf_158 kB_102 ?_
                  refine c_iconst G (nI 0) dX12_wordOf_160 kI_0 ?_
                  refine c_iconst G (nI 0) dX12_wordOf_161 kI_0 ?_
                  refine c_iconst G (nI 0) dX12_wordOf_162 kI_0 ?_
                  refine c_iconst G (nI 0) dX12_wordOf_163 kI_0 ?_
                  refine c_callS_PJ (d := 0) (rest := []) G [.int (nI 105), .int (nI 102), .int (nI 0), .int (nI 0), .int (nI 0), .int (nI 0)] ys_X12_spelt ml_X12_201 (by omega) (by decide) rfl rfl (Nat.le_of_ble_eq_true rfl) (fun q hq => con_X12_spelt hq) dX12_wordOf_164 (fun q9 _ => ?_)
                  exact c_lretP G hQ dX12_wordOf_167
set_option maxHeartbeats 4000000 in
set_option maxRecDepth 100000 in
theorem con_X12_isWord {w : Wp} {N : Nat} {a0 : Nat} {a1 : Int32} {M : Mm} {q : Int32} (h_a0 : lay a0 = (5, 12)) (hq : D_X12_isWord N a0 a1 M = some q) : Con w 2 yX12_isWord cX12_isWord 2 (some .boolean) [.ref (wB w + pz (a0)), .int a1] M ((encPI M) q) := by
  refine Con.of (encPI M) q _ hq (by decide) (Nat.le_of_ble_eq_true rfl) ?_
  intro X G Q hQ
  have G : Good w X cX12_isWord 2 RX12 (some .boolean) 2 := G
  refine c_weak [(0, .ref (wB w + pz (a0))), (1, .int a1)] [0, 1] rfl ?_
  rw [D_X12_isWord]
  refine c_aload_n G dX12_isWord_0 rfl 0 rfl ?_
  refine c_getI G fl_X12_174 h_a0 rfl dX12_isWord_1 ?_
  refine c_iconst G (nI 2) dX12_isWord_4 kI_2 ?_
  refine c_jn (ej := fun (p24 : Unit) => []) (sj := fun p24 => []) (mj := fun p24 => M) (pj := 24) (fun p24 => ?_) (fun J1 hJ24 => ?_)
  · skip
    refine c_iconst G (nI 0) dX12_isWord_24 kI_0 ?_
    exact c_zretP G hQ dX12_isWord_25
  · skip
    refine c_icmp_ne (tgt := 24) G dX12_isWord_5 (by decide) (fun _ => ?_) (fun _ => ?_)
    · skip
      refine c_aload_n G dX12_isWord_8 rfl 0 rfl ?_
      refine c_getJ G fl_X12_181 h_a0 rfl dX12_isWord_9 ?_
      refine c_iload_n G dX12_isWord_12 rfl 1 rfl ?_
      refine c_callS_PJ (d := 1) (rest := [.long (M.2.1 a0 18)]) G [.int a1] ys_X12_wordOf ml_X12_205 (by omega) (by decide) rfl rfl (Nat.le_of_ble_eq_true rfl) (fun q hq => con_X12_wordOf hq) dX12_isWord_13 (fun q1 _ => ?_)
      refine c_lcmp G dX12_isWord_16 ?_
      refine c_if_ne (tgt := 24) G dX12_isWord_17 (by decide) (fun _ => ?_) (fun _ => ?_)
      · skip
        refine c_iconst G (nI 1) dX12_isWord_20 kI_1 ?_
        refine c_goto (tgt := 25) G dX12_isWord_21 (by decide) ?_
        exact c_zretP G hQ dX12_isWord_25
      · skip
        exact c_weak _ [] rfl (hJ24 ())
    · skip
      exact c_weak _ [] rfl (hJ24 ())
set_option maxHeartbeats 4000000 in
set_option maxRecDepth 100000 in
theorem cl_X12_isName_12 {w : Wp} {M : Mm} {X : Cx} {Q : State → Prop} {ρ : Int32} (G : Good w X cX12_isName 2 RX12 (some .boolean) 2) (hQ : Q = MQ (xL X) (Qd w ((encPI M) ρ)) (xA X) (xS X) (xk X) (xs X) (Aw w)) {N : Nat} {a0 : Nat} (h_a0 : lay a0 = (5, 12)) : ∀ (n : Nat) (l1_1 : Int32), Cov w X Q ρ some 2 12 [(0, .ref (wB w + pz (a0))), (1, .int l1_1)] [] M (L_X12_isName_12 N M a0 n l1_1) := by
  intro n
  induction n with
  | zero => intro l1_1; exact c_none
  | succ n ih =>
    intro l1_1
    rw [L_X12_isName_12]
    refine c_iload_n G dX12_isName_12 rfl 1 rfl ?_
    refine c_bipush G (nI 8) dX12_isName_13 kB_8 ?_
    refine c_icmp_gt (tgt := 38) G dX12_isName_15 (by decide) (fun _ => ?_) (fun _ => ?_)
    · skip
      refine c_iconst G (nI 1) dX12_isName_38 kI_1 ?_
      exact c_zretP G hQ dX12_isName_39
    · skip
      refine c_aload_n G dX12_isName_18 rfl 0 rfl ?_
      refine c_getJ G fl_X12_181 h_a0 rfl dX12_isName_19 ?_
      refine c_iload_n G dX12_isName_22 rfl 1 rfl ?_
      refine c_callS_PJ (d := 1) (rest := [.long (M.2.1 a0 18)]) G [.int l1_1] ys_X12_wordOf ml_X12_205 (by omega) (by decide) rfl rfl (Nat.le_of_ble_eq_true rfl) (fun q hq => con_X12_wordOf hq) dX12_isName_23 (fun q1 _ => ?_)
      refine c_lcmp G dX12_isName_26 ?_
      refine c_if_ne (tgt := 32) G dX12_isName_27 (by decide) (fun _ => ?_) (fun _ => ?_)
      · skip
        refine c_iconst G (nI 0) dX12_isName_30 kI_0 ?_
        exact c_zretP G hQ dX12_isName_31
      · skip
        refine c_iinc G (fun y__ => [(1, .int y__), (0, .ref (wB w + pz (a0)))]) dX12_isName_32 1 rfl kI_1 (by decide) (fun _ => rfl) (fun l1_2 _ => ?_)
        refine c_goto (tgt := 12) G dX12_isName_35 (by decide) ?_
        exact c_weak _ [1, 0] rfl (ih l1_2)
set_option maxHeartbeats 4000000 in
set_option maxRecDepth 100000 in
theorem con_X12_isName {w : Wp} {N : Nat} {a0 : Nat} {M : Mm} {q : Int32} (h_a0 : lay a0 = (5, 12)) (hq : D_X12_isName N a0 M = some q) : Con w 2 yX12_isName cX12_isName 2 (some .boolean) [.ref (wB w + pz (a0))] M ((encPI M) q) := by
  refine Con.of (encPI M) q _ hq (by decide) (Nat.le_of_ble_eq_true rfl) ?_
  intro X G Q hQ
  have G : Good w X cX12_isName 2 RX12 (some .boolean) 2 := G
  refine c_weak [(0, .ref (wB w + pz (a0)))] [0] rfl ?_
  rw [D_X12_isName]
  refine c_aload_n G dX12_isName_0 rfl 0 rfl ?_
  refine c_getI G fl_X12_174 h_a0 rfl dX12_isName_1 ?_
  refine c_iconst G (nI 2) dX12_isName_4 kI_2 ?_
  refine c_icmp_eq (tgt := 10) G dX12_isName_5 (by decide) (fun _ => ?_) (fun _ => ?_)
  · skip
    refine c_iconst G (nI 0) dX12_isName_10 kI_0 ?_
    refine c_istore_n G [(1, .int (nI 0)), (0, .ref (wB w + pz (a0)))] dX12_isName_11 rfl (by decide) rfl ?_
    refine c_weak _ [1, 0] rfl (cl_X12_isName_12 G hQ  h_a0 N (nI 0))
  · skip
    refine c_iconst G (nI 0) dX12_isName_8 kI_0 ?_
    exact c_zretP G hQ dX12_isName_9
set_option maxHeartbeats 4000000 in
set_option maxRecDepth 100000 in
theorem con_X12_isSign {w : Wp} {N : Nat} {a0 : Nat} {a1 : Int32} {M : Mm} {q : Int32} (h_a0 : lay a0 = (5, 12)) (hq : D_X12_isSign N a0 a1 M = some q) : Con w 0 yX12_isSign cX12_isSign 2 (some .boolean) [.ref (wB w + pz (a0)), .int a1] M ((encPI M) q) := by
  refine Con.of (encPI M) q _ hq (by decide) (Nat.le_of_ble_eq_true rfl) ?_
  intro X G Q hQ
  have G : Good w X cX12_isSign 2 RX12 (some .boolean) 0 := G
  refine c_weak [(0, .ref (wB w + pz (a0))), (1, .int a1)] [0, 1] rfl ?_
  rw [D_X12_isSign]
  refine c_aload_n G dX12_isSign_0 rfl 0 rfl ?_
  refine c_getI G fl_X12_174 h_a0 rfl dX12_isSign_1 ?_
  refine c_iconst G (nI 4) dX12_isSign_4 kI_4 ?_
  refine c_jn (ej := fun (p20 : Unit) => []) (sj := fun p20 => []) (mj := fun p20 => M) (pj := 20) (fun p20 => ?_) (fun J1 hJ20 => ?_)
  · skip
    refine c_iconst G (nI 0) dX12_isSign_20 kI_0 ?_
    exact c_zretP G hQ dX12_isSign_21
  · skip
    refine c_icmp_ne (tgt := 20) G dX12_isSign_5 (by decide) (fun _ => ?_) (fun _ => ?_)
    · skip
      refine c_aload_n G dX12_isSign_8 rfl 0 rfl ?_
      refine c_getI G fl_X12_198 h_a0 rfl dX12_isSign_9 ?_
      refine c_iload_n G dX12_isSign_12 rfl 1 rfl ?_
      refine c_icmp_ne (tgt := 20) G dX12_isSign_13 (by decide) (fun _ => ?_) (fun _ => ?_)
      · skip
        refine c_iconst G (nI 1) dX12_isSign_16 kI_1 ?_
        refine c_goto (tgt := 21) G dX12_isSign_17 (by decide) ?_
        exact c_zretP G hQ dX12_isSign_21
      · skip
        exact c_weak _ [] rfl (hJ20 ())
    · skip
      exact c_weak _ [] rfl (hJ20 ())
set_option maxHeartbeats 4000000 in
set_option maxRecDepth 100000 in
theorem con_X12_bad {w : Wp} {N : Nat} {a0 : Nat} {a1 : Int32} {M : Mm} {q : Int32 × Mm} (h_a0 : lay a0 = (5, 12)) (hq : D_X12_bad N a0 a1 M = some q) : Con w 0 yX12_bad cX12_bad 2 (some .boolean) [.ref (wB w + pz (a0)), .int a1] M (encI q) := by
  refine Con.of encI q _ hq (by decide) (Nat.le_of_ble_eq_true rfl) ?_
  intro X G Q hQ
  have G : Good w X cX12_bad 2 RX12 (some .boolean) 0 := G
  refine c_weak [(0, .ref (wB w + pz (a0))), (1, .int a1)] [0, 1] rfl ?_
  rw [D_X12_bad]
  refine c_aload_n G dX12_bad_0 rfl 0 rfl ?_
  refine c_aload_n G dX12_bad_1 rfl 0 rfl ?_
  refine c_getI G fl_X12_174 h_a0 rfl dX12_bad_2 ?_
  refine c_iconst G (nI 1) dX12_bad_5 kI_1 ?_
  refine c_bj (ej := fun (p14 : Int32) => [(0, .ref (wB w + pz (a0)))]) (sj := fun p14 => [.int p14, .ref (wB w + pz (a0))]) (mj := fun p14 => M) (pj := 14) (fun p14 => ?_) (fun F hJ14 => ?_)
  · skip
    refine c_putI G fp_X12_209 h_a0 rfl dX12_bad_14 (fun M1 _ => ?_)
    refine c_aload_n G dX12_bad_17 rfl 0 rfl ?_
    refine c_aload_n G dX12_bad_18 rfl 0 rfl ?_
    refine c_getI G fl_X12_171 h_a0 rfl dX12_bad_19 ?_
    refine c_putI G fp_X12_212 h_a0 rfl dX12_bad_22 (fun M2 _ => ?_)
    refine c_iconst G (nI 0) dX12_bad_25 kI_0 ?_
    exact c_zret G hQ dX12_bad_26
  · skip
    refine c_icmp_ne (tgt := 13) G dX12_bad_6 (by decide) (fun _ => ?_) (fun _ => ?_)
    · skip
      refine c_iconst G (nI 1) dX12_bad_9 kI_1 ?_
      refine c_goto (tgt := 14) G dX12_bad_10 (by decide) ?_
      exact c_weak _ [0] rfl (hJ14 (nI 1))
    · skip
      refine c_iload_n G dX12_bad_13 rfl 1 rfl ?_
      exact c_weak _ [0] rfl (hJ14 a1)
set_option maxHeartbeats 4000000 in
set_option maxRecDepth 100000 in
theorem con_X12_badAt {w : Wp} {N : Nat} {a0 : Nat} {a1 : Int32} {a2 : Int32} {M : Mm} {q : Int32 × Mm} (h_a0 : lay a0 = (5, 12)) (hq : D_X12_badAt N a0 a1 a2 M = some q) : Con w 0 yX12_badAt cX12_badAt 3 (some .boolean) [.ref (wB w + pz (a0)), .int a1, .int a2] M (encI q) := by
  refine Con.of encI q _ hq (by decide) (Nat.le_of_ble_eq_true rfl) ?_
  intro X G Q hQ
  have G : Good w X cX12_badAt 3 RX12 (some .boolean) 0 := G
  refine c_weak [(0, .ref (wB w + pz (a0))), (1, .int a1), (2, .int a2)] [0, 1, 2] rfl ?_
  rw [D_X12_badAt]
  refine c_aload_n G dX12_badAt_0 rfl 0 rfl ?_
  refine c_iload_n G dX12_badAt_1 rfl 1 rfl ?_
  refine c_putI G fp_X12_209 h_a0 rfl dX12_badAt_2 (fun M1 _ => ?_)
  refine c_aload_n G dX12_badAt_5 rfl 0 rfl ?_
  refine c_iload_n G dX12_badAt_6 rfl 2 rfl ?_
  refine c_putI G fp_X12_212 h_a0 rfl dX12_badAt_7 (fun M2 _ => ?_)
  refine c_iconst G (nI 0) dX12_badAt_10 kI_0 ?_
  exact c_zret G hQ dX12_badAt_11
set_option maxHeartbeats 4000000 in
set_option maxRecDepth 100000 in
theorem con_X12_eats {w : Wp} {N : Nat} {a0 : Nat} {a1 : Int32} {M : Mm} {q : Int32 × Mm} (h_a0 : lay a0 = (5, 12)) (hq : D_X12_eats N a0 a1 M = some q) : Con w 2 yX12_eats cX12_eats 2 (some .boolean) [.ref (wB w + pz (a0)), .int a1] M (encI q) := by
  refine Con.of encI q _ hq (by decide) (Nat.le_of_ble_eq_true rfl) ?_
  intro X G Q hQ
  have G : Good w X cX12_eats 2 RX12 (some .boolean) 2 := G
  refine c_weak [(0, .ref (wB w + pz (a0))), (1, .int a1)] [0, 1] rfl ?_
  rw [D_X12_eats]
  refine c_aload_n G dX12_eats_0 rfl 0 rfl ?_
  refine c_iload_n G dX12_eats_1 rfl 1 rfl ?_
  refine c_callV_PI (d := 0) (rest := []) G [.int a1] yv_X12_isSign ml_X12_215 (by omega) (by decide) rfl rfl (Nat.le_of_ble_eq_true rfl) h_a0 (fun q hq => con_X12_isSign h_a0 hq) dX12_eats_2 (fun q1 _ => ?_)
  refine c_if_ne (tgt := 14) G dX12_eats_5 (by decide) (fun _ => ?_) (fun _ => ?_)
  · skip
    refine c_aload_n G dX12_eats_8 rfl 0 rfl ?_
    refine c_iconst G (nI 2) dX12_eats_9 kI_2 ?_
    refine c_callV_I (d := 0) (rest := []) G [.int (nI 2)] yv_X12_bad ml_X12_218 (by omega) (by decide) rfl rfl (Nat.le_of_ble_eq_true rfl) h_a0 (fun q hq => con_X12_bad h_a0 hq) dX12_eats_10 (fun q2 _ => ?_)
    exact c_zret G hQ dX12_eats_13
  · skip
    refine c_aload_n G dX12_eats_14 rfl 0 rfl ?_
    refine c_callV_V (d := 1) (rest := []) G [] yv_X12_go ml_X12_221 (by omega) (by decide) rfl rfl (Nat.le_of_ble_eq_true rfl) h_a0 (fun q hq => con_X12_go h_a0 hq) dX12_eats_15 (fun M1 _ => ?_)
    refine c_iconst G (nI 1) dX12_eats_18 kI_1 ?_
    exact c_zret G hQ dX12_eats_19
set_option maxHeartbeats 4000000 in
set_option maxRecDepth 100000 in
theorem cl_X12_findIn_3 {w : Wp} {M : Mm} {X : Cx} {Q : State → Prop} {ρ : Int32} (G : Good w X cX12_findIn 6 RX12 (some .int) 0) (hQ : Q = MQ (xL X) (Qd w ((encPI M) ρ)) (xA X) (xS X) (xk X) (xs X) (Aw w)) {a2 : Int32} {a0 : Nat} {a1 : Int32} {a3 : Int64} (h_a0 : lay a0 = (2, len a0)) : ∀ (n : Nat) (l5_1 : Int32), Cov w X Q ρ some 6 3 [(0, .ref (wB w + pz (a0))), (1, .int a1), (2, .int a2), (3, .long a3), (5, .int l5_1)] [] M (L_X12_findIn_3 a2 a0 a1 M a3 n l5_1) := by
  intro n
  induction n with
  | zero => intro l5_1; exact c_none
  | succ n ih =>
    intro l5_1
    rw [L_X12_findIn_3]
    refine c_iload G dX12_findIn_3 4 rfl ?_
    refine c_iload_n G dX12_findIn_5 rfl 2 rfl ?_
    refine c_icmp_ge (tgt := 29) G dX12_findIn_6 (by decide) (fun _ => ?_) (fun _ => ?_)
    · skip
      refine c_iconst G m1 dX12_findIn_29 kI_m1 ?_
      exact c_iretP G hQ dX12_findIn_30
    · skip
      refine c_aload_n G dX12_findIn_9 rfl 0 rfl ?_
      refine c_iload_n G dX12_findIn_10 rfl 1 rfl ?_
      refine c_iload G dX12_findIn_11 4 rfl ?_
      refine c_iadd G dX12_findIn_13 ?_
      refine c_lald G h_a0 dX12_findIn_14 (fun v1 _ => ?_)
      refine c_lload_n G dX12_findIn_15 rfl 3 rfl ?_
      refine c_lcmp G dX12_findIn_16 ?_
      refine c_if_ne (tgt := 23) G dX12_findIn_17 (by decide) (fun _ => ?_) (fun _ => ?_)
      · skip
        refine c_iload G dX12_findIn_20 4 rfl ?_
        exact c_iretP G hQ dX12_findIn_22
      · skip
        refine c_iinc G (fun y__ => [(5, .int y__), (0, .ref (wB w + pz (a0))), (1, .int a1), (2, .int a2), (3, .long a3)]) dX12_findIn_23 4 rfl kI_1 (by decide) (fun _ => rfl) (fun l5_2 _ => ?_)
        refine c_goto (tgt := 3) G dX12_findIn_26 (by decide) ?_
        exact c_weak _ [1, 2, 3, 4, 0] rfl (ih l5_2)
set_option maxHeartbeats 4000000 in
set_option maxRecDepth 100000 in
theorem con_X12_findIn {w : Wp} {N : Nat} {a0 : Nat} {a1 : Int32} {a2 : Int32} {a3 : Int64} {M : Mm} {q : Int32} (h_a0 : lay a0 = (2, len a0)) (hq : D_X12_findIn N a0 a1 a2 a3 M = some q) : Con w 0 yX12_findIn cX12_findIn 6 (some .int) [.ref (wB w + pz (a0)), .int a1, .int a2, .long a3] M ((encPI M) q) := by
  refine Con.of (encPI M) q _ hq (by decide) (Nat.le_of_ble_eq_true rfl) ?_
  intro X G Q hQ
  have G : Good w X cX12_findIn 6 RX12 (some .int) 0 := G
  refine c_weak [(0, .ref (wB w + pz (a0))), (1, .int a1), (2, .int a2), (3, .long a3)] [0, 1, 2, 3] rfl ?_
  rw [D_X12_findIn]
  refine c_iconst G (nI 0) dX12_findIn_0 kI_0 ?_
  refine c_istore G [(5, .int (nI 0)), (0, .ref (wB w + pz (a0))), (1, .int a1), (2, .int a2), (3, .long a3)] dX12_findIn_1 (by decide) rfl ?_
  refine c_weak _ [1, 2, 3, 4, 0] rfl (cl_X12_findIn_3 G hQ  h_a0 N (nI 0))
set_option maxHeartbeats 4000000 in
set_option maxRecDepth 100000 in
theorem con_X12_attributesIn {w : Wp} {N : Nat} {a0 : Nat} {a1 : Int32} {M : Mm} {q : Int32} (h_a0 : lay a0 = (1, len a0)) (hq : D_X12_attributesIn N a0 a1 M = some q) : Con w 0 yX12_attributesIn cX12_attributesIn 2 (some .int) [.ref (wB w + pz (a0)), .int a1] M ((encPI M) q) := by
  refine Con.of (encPI M) q _ hq (by decide) (Nat.le_of_ble_eq_true rfl) ?_
  intro X G Q hQ
  have G : Good w X cX12_attributesIn 2 RX12 (some .int) 0 := G
  refine c_weak [(0, .ref (wB w + pz (a0))), (1, .int a1)] [0, 1] rfl ?_
  rw [D_X12_attributesIn]
  refine c_aload_n G dX12_attributesIn_0 rfl 0 rfl ?_
  refine c_iconst G (nI 4) dX12_attributesIn_1 kI_4 ?_
  refine c_iload_n G dX12_attributesIn_2 rfl 1 rfl ?_
  refine c_iadd G dX12_attributesIn_3 ?_
  refine c_iald G h_a0 dX12_attributesIn_4 (fun v1 _ => ?_)
  refine c_aload_n G dX12_attributesIn_5 rfl 0 rfl ?_
  refine c_bipush G (nI 12) dX12_attributesIn_6 kB_12 ?_
  refine c_iload_n G dX12_attributesIn_8 rfl 1 rfl ?_
  refine c_iadd G dX12_attributesIn_9 ?_
  refine c_iald G h_a0 dX12_attributesIn_10 (fun v2 _ => ?_)
  refine c_iadd G dX12_attributesIn_11 ?_
  exact c_iretP G hQ dX12_attributesIn_12
set_option maxHeartbeats 4000000 in
set_option maxRecDepth 100000 in
theorem cl_X12_readAttributes_0 {w : Wp} {X : Cx} {Q : State → Prop} {ρ : Int32 × Mm} (G : Good w X cX12_readAttributes 3 RX12 (some .boolean) 3) (hQ : Q = MQ (xL X) (Qd w (encI ρ)) (xA X) (xS X) (xk X) (xs X) (Aw w)) {N : Nat} {a0 : Nat} {a1 : Int32} {a2 : Int32} (h_a0 : lay a0 = (5, 12)) : ∀ (n : Nat) (M1 : Mm), Cov w X Q ρ some 3 0 [(0, .ref (wB w + pz (a0))), (1, .int a1), (2, .int a2)] [] M1 (L_X12_readAttributes_0 N a0 a1 a2 n M1) := by
  intro n
  induction n with
  | zero => intro M1; exact c_none
  | succ n ih =>
    intro M1
    rw [L_X12_readAttributes_0]
    refine c_aload_n G dX12_readAttributes_0 rfl 0 rfl ?_
    refine c_callV_PI (d := 2) (rest := []) G [] yv_X12_isName ml_X12_224 (by omega) (by decide) rfl rfl (Nat.le_of_ble_eq_true rfl) h_a0 (fun q hq => con_X12_isName h_a0 hq) dX12_readAttributes_1 (fun q1 _ => ?_)
    refine c_if_ne (tgt := 13) G dX12_readAttributes_4 (by decide) (fun _ => ?_) (fun _ => ?_)
    · skip
      refine c_aload_n G dX12_readAttributes_7 rfl 0 rfl ?_
      refine c_iconst G (nI 2) dX12_readAttributes_8 kI_2 ?_
      refine c_callV_I (d := 0) (rest := []) G [.int (nI 2)] yv_X12_bad ml_X12_218 (by omega) (by decide) rfl rfl (Nat.le_of_ble_eq_true rfl) h_a0 (fun q hq => con_X12_bad h_a0 hq) dX12_readAttributes_9 (fun q2 _ => ?_)
      exact c_zret G hQ dX12_readAttributes_12
    · skip
      refine c_aload_n G dX12_readAttributes_13 rfl 0 rfl ?_
      refine c_getF G fl_X12_23 h_a0 rfl dX12_readAttributes_14 ?_
      refine c_bipush G (nI 20) dX12_readAttributes_17 kB_20 ?_
      refine c_bipush G (nI 8) dX12_readAttributes_19 kB_8 ?_
      refine c_iload_n G dX12_readAttributes_21 rfl 1 rfl ?_
      refine c_imul G dX12_readAttributes_22 ?_
      refine c_iadd G dX12_readAttributes_23 ?_
      refine c_aload_n G dX12_readAttributes_24 rfl 0 rfl ?_
      refine c_getF G fl_X12_16 h_a0 rfl dX12_readAttributes_25 ?_
      refine c_iload_n G dX12_readAttributes_28 rfl 1 rfl ?_
      refine c_callS_PI (d := 0) (rest := [.int ((nI 20) + ((nI 8) * a1)), .ref (wB w + pz ((a0 + 5)))]) G [.ref (wB w + pz ((a0 + 3))), .int a1] ys_X12_attributesIn ml_X12_228 (by omega) (by decide) rfl rfl (Nat.le_of_ble_eq_true rfl) (fun q hq => con_X12_attributesIn (ll (lf h_a0 2 rfl)) hq) dX12_readAttributes_29 (fun q3 _ => ?_)
      refine c_aload_n G dX12_readAttributes_32 rfl 0 rfl ?_
      refine c_getJ G fl_X12_181 h_a0 rfl dX12_readAttributes_33 ?_
      refine c_callS_PI (d := 0) (rest := []) G [.ref (wB w + pz ((a0 + 5))), .int ((nI 20) + ((nI 8) * a1)), .int q3, .long (M1.2.1 a0 18)] ys_X12_findIn ml_X12_232 (by omega) (by decide) rfl rfl (Nat.le_of_ble_eq_true rfl) (fun q hq => con_X12_findIn (ll (lf h_a0 4 rfl)) hq) dX12_readAttributes_36 (fun q4 _ => ?_)
      refine c_iconst G m1 dX12_readAttributes_39 kI_m1 ?_
      refine c_icmp_eq (tgt := 49) G dX12_readAttributes_40 (by decide) (fun _ => ?_) (fun _ => ?_)
      · skip
        refine c_aload_n G dX12_readAttributes_49 rfl 0 rfl ?_
        refine c_getF G fl_X12_16 h_a0 rfl dX12_readAttributes_50 ?_
        refine c_iload_n G dX12_readAttributes_53 rfl 2 rfl ?_
        refine c_iload_n G dX12_readAttributes_54 rfl 1 rfl ?_
        refine c_iadd G dX12_readAttributes_55 ?_
        refine c_iald G (lf h_a0 2 rfl) dX12_readAttributes_56 (fun v1 _ => ?_)
        refine c_iconst G (nI 4) dX12_readAttributes_57 kI_4 ?_
        refine c_icmp_ne (tgt := 68) G dX12_readAttributes_58 (by decide) (fun _ => ?_) (fun _ => ?_)
        · skip
          refine c_aload_n G dX12_readAttributes_61 rfl 0 rfl ?_
          refine c_bipush G (nI 6) dX12_readAttributes_62 kB_6 ?_
          refine c_callV_I (d := 0) (rest := []) G [.int (nI 6)] yv_X12_bad ml_X12_218 (by omega) (by decide) rfl rfl (Nat.le_of_ble_eq_true rfl) h_a0 (fun q hq => con_X12_bad h_a0 hq) dX12_readAttributes_64 (fun q5 _ => ?_)
          exact c_zret G hQ dX12_readAttributes_67
        · skip
          refine c_aload_n G dX12_readAttributes_68 rfl 0 rfl ?_
          refine c_getF G fl_X12_23 h_a0 rfl dX12_readAttributes_69 ?_
          refine c_bipush G (nI 20) dX12_readAttributes_72 kB_20 ?_
          refine c_bipush G (nI 8) dX12_readAttributes_74 kB_8 ?_
          refine c_iload_n G dX12_readAttributes_76 rfl 1 rfl ?_
          refine c_imul G dX12_readAttributes_77 ?_
          refine c_iadd G dX12_readAttributes_78 ?_
          refine c_aload_n G dX12_readAttributes_79 rfl 0 rfl ?_
          refine c_getF G fl_X12_16 h_a0 rfl dX12_readAttributes_80 ?_
          refine c_iload_n G dX12_readAttributes_83 rfl 1 rfl ?_
          refine c_callS_PI (d := 0) (rest := [.int ((nI 20) + ((nI 8) * a1)), .ref (wB w + pz ((a0 + 5)))]) G [.ref (wB w + pz ((a0 + 3))), .int a1] ys_X12_attributesIn ml_X12_228 (by omega) (by decide) rfl rfl (Nat.le_of_ble_eq_true rfl) (fun q hq => con_X12_attributesIn (ll (lf h_a0 2 rfl)) hq) dX12_readAttributes_84 (fun q6 _ => ?_)
          refine c_iadd G dX12_readAttributes_87 ?_
          refine c_aload_n G dX12_readAttributes_88 rfl 0 rfl ?_
          refine c_getJ G fl_X12_181 h_a0 rfl dX12_readAttributes_89 ?_
          refine c_last G (lf h_a0 4 rfl) dX12_readAttributes_92 (fun M2 _ => ?_)
          refine c_aload_n G dX12_readAttributes_93 rfl 0 rfl ?_
          refine c_getF G fl_X12_16 h_a0 rfl dX12_readAttributes_94 ?_
          refine c_iload_n G dX12_readAttributes_97 rfl 2 rfl ?_
          refine c_iload_n G dX12_readAttributes_98 rfl 1 rfl ?_
          refine c_iadd G dX12_readAttributes_99 ?_
          refine c_dup2 G dX12_readAttributes_100 rfl rfl ?_
          refine c_iald G (lf h_a0 2 rfl) dX12_readAttributes_101 (fun v2 _ => ?_)
          refine c_iconst G (nI 1) dX12_readAttributes_102 kI_1 ?_
          refine c_iadd G dX12_readAttributes_103 ?_
          refine c_iast G (lf h_a0 2 rfl) dX12_readAttributes_104 (fun M3 _ => ?_)
          refine c_aload_n G dX12_readAttributes_105 rfl 0 rfl ?_
          refine c_callV_V (d := 1) (rest := []) G [] yv_X12_go ml_X12_221 (by omega) (by decide) rfl rfl (Nat.le_of_ble_eq_true rfl) h_a0 (fun q hq => con_X12_go h_a0 hq) dX12_readAttributes_106 (fun M4 _ => ?_)
          refine c_aload_n G dX12_readAttributes_109 rfl 0 rfl ?_
          refine c_callV_PI (d := 2) (rest := []) G [] yv_X12_isName ml_X12_224 (by omega) (by decide) rfl rfl (Nat.le_of_ble_eq_true rfl) h_a0 (fun q hq => con_X12_isName h_a0 hq) dX12_readAttributes_110 (fun q7 _ => ?_)
          refine c_if_ne (tgt := 0) G dX12_readAttributes_113 (by decide) (fun _ => ?_) (fun _ => ?_)
          · skip
            refine c_iconst G (nI 1) dX12_readAttributes_116 kI_1 ?_
            exact c_zret G hQ dX12_readAttributes_117
          · skip
            exact c_weak _ [0, 1, 2] rfl (ih M4)
      · skip
        refine c_aload_n G dX12_readAttributes_43 rfl 0 rfl ?_
        refine c_iconst G (nI 4) dX12_readAttributes_44 kI_4 ?_
        refine c_callV_I (d := 0) (rest := []) G [.int (nI 4)] yv_X12_bad ml_X12_218 (by omega) (by decide) rfl rfl (Nat.le_of_ble_eq_true rfl) h_a0 (fun q hq => con_X12_bad h_a0 hq) dX12_readAttributes_45 (fun q8 _ => ?_)
        exact c_zret G hQ dX12_readAttributes_48
set_option maxHeartbeats 4000000 in
set_option maxRecDepth 100000 in
theorem con_X12_readAttributes {w : Wp} {N : Nat} {a0 : Nat} {a1 : Int32} {a2 : Int32} {M : Mm} {q : Int32 × Mm} (h_a0 : lay a0 = (5, 12)) (hq : D_X12_readAttributes N a0 a1 a2 M = some q) : Con w 3 yX12_readAttributes cX12_readAttributes 3 (some .boolean) [.ref (wB w + pz (a0)), .int a1, .int a2] M (encI q) := by
  refine Con.of encI q _ hq (by decide) (Nat.le_of_ble_eq_true rfl) ?_
  intro X G Q hQ
  have G : Good w X cX12_readAttributes 3 RX12 (some .boolean) 3 := G
  refine c_weak [(0, .ref (wB w + pz (a0))), (1, .int a1), (2, .int a2)] [0, 1, 2] rfl ?_
  rw [D_X12_readAttributes]
  refine c_weak _ [0, 1, 2] rfl (cl_X12_readAttributes_0 G hQ  h_a0 N M)
set_option maxHeartbeats 4000000 in
set_option maxRecDepth 100000 in
theorem con_X12_readSymbol {w : Wp} {N : Nat} {a0 : Nat} {M : Mm} {q : Int32 × Mm} (h_a0 : lay a0 = (5, 12)) (hq : D_X12_readSymbol N a0 M = some q) : Con w 4 yX12_readSymbol cX12_readSymbol 2 (some .boolean) [.ref (wB w + pz (a0))] M (encI q) := by
  refine Con.of encI q _ hq (by decide) (Nat.le_of_ble_eq_true rfl) ?_
  intro X G Q hQ
  have G : Good w X cX12_readSymbol 2 RX12 (some .boolean) 4 := G
  refine c_weak [(0, .ref (wB w + pz (a0)))] [0] rfl ?_
  rw [D_X12_readSymbol]
  refine c_aload_n G dX12_readSymbol_0 rfl 0 rfl ?_
  refine c_getF G fl_X12_16 h_a0 rfl dX12_readSymbol_1 ?_
  refine c_iconst G (nI 0) dX12_readSymbol_4 kI_0 ?_
  refine c_iald G (lf h_a0 2 rfl) dX12_readSymbol_5 (fun v1 _ => ?_)
  refine c_istore_n G [(1, .int v1), (0, .ref (wB w + pz (a0)))] dX12_readSymbol_6 rfl (by decide) rfl ?_
  refine c_iload_n G dX12_readSymbol_7 rfl 0 rfl ?_
  refine c_bipush G (nI 8) dX12_readSymbol_8 kB_8 ?_
  refine c_icmp_ne (tgt := 20) G dX12_readSymbol_10 (by decide) (fun _ => ?_) (fun _ => ?_)
  · skip
    refine c_aload_n G dX12_readSymbol_13 rfl 1 rfl ?_
    refine c_bipush G (nI 6) dX12_readSymbol_14 kB_6 ?_
    refine c_callV_I (d := 0) (rest := []) G [.int (nI 6)] yv_X12_bad ml_X12_218 (by omega) (by decide) rfl rfl (Nat.le_of_ble_eq_true rfl) h_a0 (fun q hq => con_X12_bad h_a0 hq) dX12_readSymbol_16 (fun q1 _ => ?_)
    exact c_zret G hQ dX12_readSymbol_19
  · skip
    refine c_aload_n G dX12_readSymbol_20 rfl 1 rfl ?_
    refine c_callV_V (d := 1) (rest := []) G [] yv_X12_go ml_X12_221 (by omega) (by decide) rfl rfl (Nat.le_of_ble_eq_true rfl) h_a0 (fun q hq => con_X12_go h_a0 hq) dX12_readSymbol_21 (fun M1 _ => ?_)
    refine c_aload_n G dX12_readSymbol_24 rfl 1 rfl ?_
    refine c_callV_PI (d := 2) (rest := []) G [] yv_X12_isName ml_X12_224 (by omega) (by decide) rfl rfl (Nat.le_of_ble_eq_true rfl) h_a0 (fun q hq => con_X12_isName h_a0 hq) dX12_readSymbol_25 (fun q2 _ => ?_)
    refine c_if_ne (tgt := 37) G dX12_readSymbol_28 (by decide) (fun _ => ?_) (fun _ => ?_)
    · skip
      refine c_aload_n G dX12_readSymbol_31 rfl 1 rfl ?_
      refine c_iconst G (nI 2) dX12_readSymbol_32 kI_2 ?_
      refine c_callV_I (d := 0) (rest := []) G [.int (nI 2)] yv_X12_bad ml_X12_218 (by omega) (by decide) rfl rfl (Nat.le_of_ble_eq_true rfl) h_a0 (fun q hq => con_X12_bad h_a0 hq) dX12_readSymbol_33 (fun q3 _ => ?_)
      exact c_zret G hQ dX12_readSymbol_36
    · skip
      refine c_aload_n G dX12_readSymbol_37 rfl 1 rfl ?_
      refine c_getF G fl_X12_23 h_a0 rfl dX12_readSymbol_38 ?_
      refine c_iconst G (nI 0) dX12_readSymbol_41 kI_0 ?_
      refine c_iload_n G dX12_readSymbol_42 rfl 0 rfl ?_
      refine c_aload_n G dX12_readSymbol_43 rfl 1 rfl ?_
      refine c_getJ G fl_X12_181 h_a0 rfl dX12_readSymbol_44 ?_
      refine c_callS_PI (d := 0) (rest := []) G [.ref (wB w + pz ((a0 + 5))), .int (nI 0), .int v1, .long (M1.2.1 a0 18)] ys_X12_findIn ml_X12_232 (by omega) (by decide) rfl rfl (Nat.le_of_ble_eq_true rfl) (fun q hq => con_X12_findIn (ll (lf h_a0 4 rfl)) hq) dX12_readSymbol_47 (fun q4 _ => ?_)
      refine c_iconst G m1 dX12_readSymbol_50 kI_m1 ?_
      refine c_icmp_eq (tgt := 60) G dX12_readSymbol_51 (by decide) (fun _ => ?_) (fun _ => ?_)
      · skip
        refine c_aload_n G dX12_readSymbol_60 rfl 1 rfl ?_
        refine c_getF G fl_X12_23 h_a0 rfl dX12_readSymbol_61 ?_
        refine c_iconst G (nI 0) dX12_readSymbol_64 kI_0 ?_
        refine c_iload_n G dX12_readSymbol_65 rfl 0 rfl ?_
        refine c_iadd G dX12_readSymbol_66 ?_
        refine c_aload_n G dX12_readSymbol_67 rfl 1 rfl ?_
        refine c_getJ G fl_X12_181 h_a0 rfl dX12_readSymbol_68 ?_
        refine c_last G (lf h_a0 4 rfl) dX12_readSymbol_71 (fun M2 _ => ?_)
        refine c_aload_n G dX12_readSymbol_72 rfl 1 rfl ?_
        refine c_getF G fl_X12_16 h_a0 rfl dX12_readSymbol_73 ?_
        refine c_iconst G (nI 4) dX12_readSymbol_76 kI_4 ?_
        refine c_iload_n G dX12_readSymbol_77 rfl 0 rfl ?_
        refine c_iadd G dX12_readSymbol_78 ?_
        refine c_iconst G (nI 0) dX12_readSymbol_79 kI_0 ?_
        refine c_iast G (lf h_a0 2 rfl) dX12_readSymbol_80 (fun M3 _ => ?_)
        refine c_aload_n G dX12_readSymbol_81 rfl 1 rfl ?_
        refine c_getF G fl_X12_16 h_a0 rfl dX12_readSymbol_82 ?_
        refine c_bipush G (nI 12) dX12_readSymbol_85 kB_12 ?_
        refine c_iload_n G dX12_readSymbol_87 rfl 0 rfl ?_
        refine c_iadd G dX12_readSymbol_88 ?_
        refine c_iconst G (nI 0) dX12_readSymbol_89 kI_0 ?_
        refine c_iast G (lf h_a0 2 rfl) dX12_readSymbol_90 (fun M4 _ => ?_)
        refine c_aload_n G dX12_readSymbol_91 rfl 1 rfl ?_
        refine c_callV_V (d := 1) (rest := []) G [] yv_X12_go ml_X12_221 (by omega) (by decide) rfl rfl (Nat.le_of_ble_eq_true rfl) h_a0 (fun q hq => con_X12_go h_a0 hq) dX12_readSymbol_92 (fun M5 _ => ?_)
        refine c_aload_n G dX12_readSymbol_95 rfl 1 rfl ?_
        refine c_iconst G (nI 3) dX12_readSymbol_96 kI_3 ?_
        refine c_callV_PI (d := 2) (rest := []) G [.int (nI 3)] yv_X12_isWord ml_X12_236 (by omega) (by decide) rfl rfl (Nat.le_of_ble_eq_true rfl) h_a0 (fun q hq => con_X12_isWord h_a0 hq) dX12_readSymbol_97 (fun q5 _ => ?_)
        refine c_jn (ej := fun (p118 : Mm) => [(0, .ref (wB w + pz (a0))), (1, .int v1)]) (sj := fun p118 => []) (mj := fun p118 => p118) (pj := 118) (fun p118 => ?_) (fun J2 hJ118 => ?_)
        · skip
          refine c_aload_n G dX12_readSymbol_118 rfl 0 rfl ?_
          refine c_iconst G (nI 4) dX12_readSymbol_119 kI_4 ?_
          refine c_callV_PI (d := 2) (rest := []) G [.int (nI 4)] yv_X12_isWord ml_X12_236 (by omega) (by decide) rfl rfl (Nat.le_of_ble_eq_true rfl) h_a0 (fun q hq => con_X12_isWord h_a0 hq) dX12_readSymbol_120 (fun q6 _ => ?_)
          refine c_jn (ej := fun (p142 : Mm) => [(0, .ref (wB w + pz (a0)))]) (sj := fun p142 => []) (mj := fun p142 => p142) (pj := 142) (fun p142 => ?_) (fun J1 hJ142 => ?_)
          · skip
            refine c_aload_n G dX12_readSymbol_142 rfl 0 rfl ?_
            refine c_getF G fl_X12_16 h_a0 rfl dX12_readSymbol_143 ?_
            refine c_iconst G (nI 0) dX12_readSymbol_146 kI_0 ?_
            refine c_dup2 G dX12_readSymbol_147 rfl rfl ?_
            refine c_iald G (lf h_a0 2 rfl) dX12_readSymbol_148 (fun v2 _ => ?_)
            refine c_iconst G (nI 1) dX12_readSymbol_149 kI_1 ?_
            refine c_iadd G dX12_readSymbol_150 ?_
            refine c_iast G (lf h_a0 2 rfl) dX12_readSymbol_151 (fun M8 _ => ?_)
            refine c_iconst G (nI 1) dX12_readSymbol_152 kI_1 ?_
            exact c_zret G hQ dX12_readSymbol_153
          · skip
            refine c_if_eq (tgt := 142) G dX12_readSymbol_123 (by decide) (fun _ => ?_) (fun _ => ?_)
            · skip
              exact c_weak _ [0] rfl (hJ142 p118)
            · skip
              refine c_aload_n G dX12_readSymbol_126 rfl 0 rfl ?_
              refine c_callV_V (d := 1) (rest := []) G [] yv_X12_go ml_X12_221 (by omega) (by decide) rfl rfl (Nat.le_of_ble_eq_true rfl) h_a0 (fun q hq => con_X12_go h_a0 hq) dX12_readSymbol_127 (fun M9 _ => ?_)
              refine c_aload_n G dX12_readSymbol_130 rfl 0 rfl ?_
              refine c_iload_n G dX12_readSymbol_131 rfl 1 rfl ?_
              refine c_bipush G (nI 12) dX12_readSymbol_132 kB_12 ?_
              refine c_callV_I (d := 3) (rest := []) G [.int v1, .int (nI 12)] yv_X12_readAttributes ml_X12_239 (by omega) (by decide) rfl rfl (Nat.le_of_ble_eq_true rfl) h_a0 (fun q hq => con_X12_readAttributes h_a0 hq) dX12_readSymbol_134 (fun q7 _ => ?_)
              refine c_if_ne (tgt := 142) G dX12_readSymbol_137 (by decide) (fun _ => ?_) (fun _ => ?_)
              · skip
                refine c_iconst G (nI 0) dX12_readSymbol_140 kI_0 ?_
                exact c_zret G hQ dX12_readSymbol_141
              · skip
                exact c_weak _ [0] rfl (hJ142 q7.2)
        · skip
          refine c_if_eq (tgt := 118) G dX12_readSymbol_100 (by decide) (fun _ => ?_) (fun _ => ?_)
          · skip
            exact c_weak _ [1, 0] rfl (hJ118 M5)
          · skip
            refine c_aload_n G dX12_readSymbol_103 rfl 1 rfl ?_
            refine c_callV_V (d := 1) (rest := []) G [] yv_X12_go ml_X12_221 (by omega) (by decide) rfl rfl (Nat.le_of_ble_eq_true rfl) h_a0 (fun q hq => con_X12_go h_a0 hq) dX12_readSymbol_104 (fun M10 _ => ?_)
            refine c_aload_n G dX12_readSymbol_107 rfl 1 rfl ?_
            refine c_iload_n G dX12_readSymbol_108 rfl 0 rfl ?_
            refine c_iconst G (nI 4) dX12_readSymbol_109 kI_4 ?_
            refine c_callV_I (d := 3) (rest := []) G [.int v1, .int (nI 4)] yv_X12_readAttributes ml_X12_239 (by omega) (by decide) rfl rfl (Nat.le_of_ble_eq_true rfl) h_a0 (fun q hq => con_X12_readAttributes h_a0 hq) dX12_readSymbol_110 (fun q8 _ => ?_)
            refine c_if_ne (tgt := 118) G dX12_readSymbol_113 (by decide) (fun _ => ?_) (fun _ => ?_)
            · skip
              refine c_iconst G (nI 0) dX12_readSymbol_116 kI_0 ?_
              exact c_zret G hQ dX12_readSymbol_117
            · skip
              exact c_weak _ [1, 0] rfl (hJ118 q8.2)
      · skip
        refine c_aload_n G dX12_readSymbol_54 rfl 1 rfl ?_
        refine c_iconst G (nI 4) dX12_readSymbol_55 kI_4 ?_
        refine c_callV_I (d := 0) (rest := []) G [.int (nI 4)] yv_X12_bad ml_X12_218 (by omega) (by decide) rfl rfl (Nat.le_of_ble_eq_true rfl) h_a0 (fun q hq => con_X12_bad h_a0 hq) dX12_readSymbol_56 (fun q9 _ => ?_)
        exact c_zret G hQ dX12_readSymbol_59
set_option maxHeartbeats 4000000 in
set_option maxRecDepth 100000 in
theorem cl_X12_readProduction_156 {w : Wp} {X : Cx} {Q : State → Prop} {ρ : Int32 × Mm} (G : Good w X cX12_readProduction 4 RX12 (some .boolean) 3) (hQ : Q = MQ (xL X) (Qd w (encI ρ)) (xA X) (xS X) (xk X) (xs X) (Aw w)) (kE255 : Mm → Option (Int32 × Mm)) {N : Nat} {a0 : Nat} {v1 : Int32} (h_a0 : lay a0 = (5, 12)) (hE255 : ∀ (Mz : Mm), Cov w X Q ρ some 4 255 [(0, .ref (wB w + pz (a0))), (1, .int v1)] [] Mz (kE255 Mz)) : ∀ (n : Nat) (M7 : Mm), Cov w X Q ρ some 4 156 [(0, .ref (wB w + pz (a0))), (1, .int v1)] [] M7 (L_X12_readProduction_156 kE255 N a0 v1 n M7) := by
  intro n
  induction n with
  | zero => intro M7; exact c_none
  | succ n ih =>
    intro M7
    rw [L_X12_readProduction_156]
    refine c_aload_n G dX12_readProduction_156 rfl 0 rfl ?_
    refine c_callV_PI (d := 2) (rest := []) G [] yv_X12_isName ml_X12_224 (by omega) (by decide) rfl rfl (Nat.le_of_ble_eq_true rfl) h_a0 (fun q hq => con_X12_isName h_a0 hq) dX12_readProduction_157 (fun q10 _ => ?_)
    refine c_if_eq (tgt := 255) G dX12_readProduction_160 (by decide) (fun _ => ?_) (fun _ => ?_)
    · skip
      exact c_weak _ [0, 1] rfl (hE255 M7)
    · skip
      refine c_aload_n G dX12_readProduction_163 rfl 0 rfl ?_
      refine c_getF G fl_X12_23 h_a0 rfl dX12_readProduction_164 ?_
      refine c_iconst G (nI 0) dX12_readProduction_167 kI_0 ?_
      refine c_aload_n G dX12_readProduction_168 rfl 0 rfl ?_
      refine c_getF G fl_X12_16 h_a0 rfl dX12_readProduction_169 ?_
      refine c_iconst G (nI 0) dX12_readProduction_172 kI_0 ?_
      refine c_iald G (lf h_a0 2 rfl) dX12_readProduction_173 (fun v3 _ => ?_)
      refine c_aload_n G dX12_readProduction_174 rfl 0 rfl ?_
      refine c_getJ G fl_X12_181 h_a0 rfl dX12_readProduction_175 ?_
      refine c_callS_PI (d := 0) (rest := []) G [.ref (wB w + pz ((a0 + 5))), .int (nI 0), .int v3, .long (M7.2.1 a0 18)] ys_X12_findIn ml_X12_232 (by omega) (by decide) rfl rfl (Nat.le_of_ble_eq_true rfl) (fun q hq => con_X12_findIn (ll (lf h_a0 4 rfl)) hq) dX12_readProduction_178 (fun q11 _ => ?_)
      refine c_istore_n G [(2, .int q11), (0, .ref (wB w + pz (a0))), (1, .int v1)] dX12_readProduction_181 rfl (by decide) rfl ?_
      refine c_iload_n G dX12_readProduction_182 rfl 0 rfl ?_
      refine c_iconst G m1 dX12_readProduction_183 kI_m1 ?_
      refine c_icmp_ne (tgt := 193) G dX12_readProduction_184 (by decide) (fun _ => ?_) (fun _ => ?_)
      · skip
        refine c_aload_n G dX12_readProduction_187 rfl 1 rfl ?_
        refine c_iconst G (nI 3) dX12_readProduction_188 kI_3 ?_
        refine c_callV_I (d := 0) (rest := []) G [.int (nI 3)] yv_X12_bad ml_X12_218 (by omega) (by decide) rfl rfl (Nat.le_of_ble_eq_true rfl) h_a0 (fun q hq => con_X12_bad h_a0 hq) dX12_readProduction_189 (fun q12 _ => ?_)
        exact c_zret G hQ dX12_readProduction_192
      · skip
        refine c_aload_n G dX12_readProduction_193 rfl 1 rfl ?_
        refine c_getF G fl_X12_16 h_a0 rfl dX12_readProduction_194 ?_
        refine c_bipush G (nI 32) dX12_readProduction_197 kB_32 ?_
        refine c_iload_n G dX12_readProduction_199 rfl 2 rfl ?_
        refine c_iadd G dX12_readProduction_200 ?_
        refine c_iald G (lf h_a0 2 rfl) dX12_readProduction_201 (fun v4 _ => ?_)
        refine c_iconst G (nI 3) dX12_readProduction_202 kI_3 ?_
        refine c_icmp_ne (tgt := 213) G dX12_readProduction_203 (by decide) (fun _ => ?_) (fun _ => ?_)
        · skip
          refine c_aload_n G dX12_readProduction_206 rfl 1 rfl ?_
          refine c_bipush G (nI 6) dX12_readProduction_207 kB_6 ?_
          refine c_callV_I (d := 0) (rest := []) G [.int (nI 6)] yv_X12_bad ml_X12_218 (by omega) (by decide) rfl rfl (Nat.le_of_ble_eq_true rfl) h_a0 (fun q hq => con_X12_bad h_a0 hq) dX12_readProduction_209 (fun q13 _ => ?_)
          exact c_zret G hQ dX12_readProduction_212
        · skip
          refine c_aload_n G dX12_readProduction_213 rfl 1 rfl ?_
          refine c_getF G fl_X12_16 h_a0 rfl dX12_readProduction_214 ?_
          refine c_bipush G (nI 44) dX12_readProduction_217 kB_44 ?_
          refine c_iconst G (nI 3) dX12_readProduction_219 kI_3 ?_
          refine c_iload_n G dX12_readProduction_220 rfl 2 rfl ?_
          refine c_imul G dX12_readProduction_221 ?_
          refine c_iadd G dX12_readProduction_222 ?_
          refine c_aload_n G dX12_readProduction_223 rfl 1 rfl ?_
          refine c_getF G fl_X12_16 h_a0 rfl dX12_readProduction_224 ?_
          refine c_bipush G (nI 32) dX12_readProduction_227 kB_32 ?_
          refine c_iload_n G dX12_readProduction_229 rfl 2 rfl ?_
          refine c_iadd G dX12_readProduction_230 ?_
          refine c_iald G (lf h_a0 2 rfl) dX12_readProduction_231 (fun v5 _ => ?_)
          refine c_iadd G dX12_readProduction_232 ?_
          refine c_iload_n G dX12_readProduction_233 rfl 0 rfl ?_
          refine c_iast G (lf h_a0 2 rfl) dX12_readProduction_234 (fun M8 _ => ?_)
          refine c_aload_n G dX12_readProduction_235 rfl 1 rfl ?_
          refine c_getF G fl_X12_16 h_a0 rfl dX12_readProduction_236 ?_
          refine c_bipush G (nI 32) dX12_readProduction_239 kB_32 ?_
          refine c_iload_n G dX12_readProduction_241 rfl 2 rfl ?_
          refine c_iadd G dX12_readProduction_242 ?_
          refine c_dup2 G dX12_readProduction_243 rfl rfl ?_
          refine c_iald G (lf h_a0 2 rfl) dX12_readProduction_244 (fun v6 _ => ?_)
          refine c_iconst G (nI 1) dX12_readProduction_245 kI_1 ?_
          refine c_iadd G dX12_readProduction_246 ?_
          refine c_iast G (lf h_a0 2 rfl) dX12_readProduction_247 (fun M9 _ => ?_)
          refine c_aload_n G dX12_readProduction_248 rfl 1 rfl ?_
          refine c_callV_V (d := 1) (rest := []) G [] yv_X12_go ml_X12_221 (by omega) (by decide) rfl rfl (Nat.le_of_ble_eq_true rfl) h_a0 (fun q hq => con_X12_go h_a0 hq) dX12_readProduction_249 (fun M10 _ => ?_)
          refine c_goto (tgt := 156) G dX12_readProduction_252 (by decide) ?_
          exact c_weak _ [1, 2] rfl (ih M10)
set_option maxHeartbeats 4000000 in
set_option maxRecDepth 100000 in
theorem cl_X12_readProduction_257 {w : Wp} {X : Cx} {Q : State → Prop} {ρ : Int32 × Mm} (G : Good w X cX12_readProduction 4 RX12 (some .boolean) 3) (hQ : Q = MQ (xL X) (Qd w (encI ρ)) (xA X) (xS X) (xk X) (xs X) (Aw w)) (kE332 : Mm → Option (Int32 × Mm)) {a0 : Nat} {v1 : Int32} (h_a0 : lay a0 = (5, 12)) (hE332 : ∀ (Mz : Mm), Cov w X Q ρ some 4 332 [(0, .ref (wB w + pz (a0)))] [] Mz (kE332 Mz)) : ∀ (n : Nat) (l3_1 : Int32) (M12 : Mm), Cov w X Q ρ some 4 257 [(0, .ref (wB w + pz (a0))), (1, .int v1), (3, .int l3_1)] [] M12 (L_X12_readProduction_257 kE332 a0 v1 n l3_1 M12) := by
  intro n
  induction n with
  | zero => intro l3_1 M12; exact c_none
  | succ n ih =>
    intro l3_1 M12
    rw [L_X12_readProduction_257]
    refine c_iload_n G dX12_readProduction_257 rfl 2 rfl ?_
    refine c_bipush G (nI 32) dX12_readProduction_258 kB_32 ?_
    refine c_icmp_ge (tgt := 332) G dX12_readProduction_260 (by decide) (fun _ => ?_) (fun _ => ?_)
    · skip
      exact c_weak _ [0] rfl (hE332 M12)
    · skip
      refine c_aload_n G dX12_readProduction_263 rfl 0 rfl ?_
      refine c_getF G fl_X12_16 h_a0 rfl dX12_readProduction_264 ?_
      refine c_sipush G (nI 1232) dX12_readProduction_267 kS_1232 ?_
      refine c_bipush G (nI 32) dX12_readProduction_270 kB_32 ?_
      refine c_iload_n G dX12_readProduction_272 rfl 1 rfl ?_
      refine c_imul G dX12_readProduction_273 ?_
      refine c_iadd G dX12_readProduction_274 ?_
      refine c_iload_n G dX12_readProduction_275 rfl 2 rfl ?_
      refine c_iadd G dX12_readProduction_276 ?_
      refine c_iconst G (nI 0) dX12_readProduction_277 kI_0 ?_
      refine c_iast G (lf h_a0 2 rfl) dX12_readProduction_278 (fun M13 _ => ?_)
      refine c_aload_n G dX12_readProduction_279 rfl 0 rfl ?_
      refine c_getF G fl_X12_16 h_a0 rfl dX12_readProduction_280 ?_
      refine c_sipush G (nI 848) dX12_readProduction_283 kS_848 ?_
      refine c_bipush G (nI 32) dX12_readProduction_286 kB_32 ?_
      refine c_iload_n G dX12_readProduction_288 rfl 1 rfl ?_
      refine c_imul G dX12_readProduction_289 ?_
      refine c_iadd G dX12_readProduction_290 ?_
      refine c_iload_n G dX12_readProduction_291 rfl 2 rfl ?_
      refine c_iadd G dX12_readProduction_292 ?_
      refine c_iconst G (nI 0) dX12_readProduction_293 kI_0 ?_
      refine c_iast G (lf h_a0 2 rfl) dX12_readProduction_294 (fun M14 _ => ?_)
      refine c_aload_n G dX12_readProduction_295 rfl 0 rfl ?_
      refine c_getF G fl_X12_16 h_a0 rfl dX12_readProduction_296 ?_
      refine c_bipush G (nI 80) dX12_readProduction_299 kB_80 ?_
      refine c_bipush G (nI 32) dX12_readProduction_301 kB_32 ?_
      refine c_iload_n G dX12_readProduction_303 rfl 1 rfl ?_
      refine c_imul G dX12_readProduction_304 ?_
      refine c_iadd G dX12_readProduction_305 ?_
      refine c_iload_n G dX12_readProduction_306 rfl 2 rfl ?_
      refine c_iadd G dX12_readProduction_307 ?_
      refine c_iconst G (nI 0) dX12_readProduction_308 kI_0 ?_
      refine c_iast G (lf h_a0 2 rfl) dX12_readProduction_309 (fun M15 _ => ?_)
      refine c_aload_n G dX12_readProduction_310 rfl 0 rfl ?_
      refine c_getF G fl_X12_16 h_a0 rfl dX12_readProduction_311 ?_
      refine c_sipush G (nI 464) dX12_readProduction_314 kS_464 ?_
      refine c_bipush G (nI 32) dX12_readProduction_317 kB_32 ?_
      refine c_iload_n G dX12_readProduction_319 rfl 1 rfl ?_
      refine c_imul G dX12_readProduction_320 ?_
      refine c_iadd G dX12_readProduction_321 ?_
      refine c_iload_n G dX12_readProduction_322 rfl 2 rfl ?_
      refine c_iadd G dX12_readProduction_323 ?_
      refine c_iconst G (nI 0) dX12_readProduction_324 kI_0 ?_
      refine c_iast G (lf h_a0 2 rfl) dX12_readProduction_325 (fun M16 _ => ?_)
      refine c_iinc G (fun y__ => [(3, .int y__), (0, .ref (wB w + pz (a0))), (1, .int v1)]) dX12_readProduction_326 2 rfl kI_1 (by decide) (fun _ => rfl) (fun l3_2 _ => ?_)
      refine c_goto (tgt := 257) G dX12_readProduction_329 (by decide) ?_
      exact c_weak _ [1, 2, 0] rfl (ih l3_2 M16)
set_option maxHeartbeats 4000000 in
set_option maxRecDepth 100000 in
theorem con_X12_readProduction {w : Wp} {N : Nat} {a0 : Nat} {M : Mm} {q : Int32 × Mm} (h_a0 : lay a0 = (5, 12)) (hq : D_X12_readProduction N a0 M = some q) : Con w 3 yX12_readProduction cX12_readProduction 4 (some .boolean) [.ref (wB w + pz (a0))] M (encI q) := by
  refine Con.of encI q _ hq (by decide) (Nat.le_of_ble_eq_true rfl) ?_
  intro X G Q hQ
  have G : Good w X cX12_readProduction 4 RX12 (some .boolean) 3 := G
  refine c_weak [(0, .ref (wB w + pz (a0)))] [0] rfl ?_
  rw [D_X12_readProduction]
  refine c_aload_n G dX12_readProduction_0 rfl 0 rfl ?_
  refine c_getF G fl_X12_16 h_a0 rfl dX12_readProduction_1 ?_
  refine c_iconst G (nI 1) dX12_readProduction_4 kI_1 ?_
  refine c_iald G (lf h_a0 2 rfl) dX12_readProduction_5 (fun v1 _ => ?_)
  refine c_istore_n G [(1, .int v1), (0, .ref (wB w + pz (a0)))] dX12_readProduction_6 rfl (by decide) rfl ?_
  refine c_iload_n G dX12_readProduction_7 rfl 0 rfl ?_
  refine c_bipush G (nI 12) dX12_readProduction_8 kB_12 ?_
  refine c_icmp_ne (tgt := 20) G dX12_readProduction_10 (by decide) (fun _ => ?_) (fun _ => ?_)
  · skip
    refine c_aload_n G dX12_readProduction_13 rfl 1 rfl ?_
    refine c_bipush G (nI 6) dX12_readProduction_14 kB_6 ?_
    refine c_callV_I (d := 0) (rest := []) G [.int (nI 6)] yv_X12_bad ml_X12_218 (by omega) (by decide) rfl rfl (Nat.le_of_ble_eq_true rfl) h_a0 (fun q hq => con_X12_bad h_a0 hq) dX12_readProduction_16 (fun q1 _ => ?_)
    exact c_zret G hQ dX12_readProduction_19
  · skip
    refine c_aload_n G dX12_readProduction_20 rfl 1 rfl ?_
    refine c_callV_V (d := 1) (rest := []) G [] yv_X12_go ml_X12_221 (by omega) (by decide) rfl rfl (Nat.le_of_ble_eq_true rfl) h_a0 (fun q hq => con_X12_go h_a0 hq) dX12_readProduction_21 (fun M1 _ => ?_)
    refine c_aload_n G dX12_readProduction_24 rfl 1 rfl ?_
    refine c_callV_PI (d := 2) (rest := []) G [] yv_X12_isName ml_X12_224 (by omega) (by decide) rfl rfl (Nat.le_of_ble_eq_true rfl) h_a0 (fun q hq => con_X12_isName h_a0 hq) dX12_readProduction_25 (fun q2 _ => ?_)
    refine c_if_ne (tgt := 37) G dX12_readProduction_28 (by decide) (fun _ => ?_) (fun _ => ?_)
    · skip
      refine c_aload_n G dX12_readProduction_31 rfl 1 rfl ?_
      refine c_iconst G (nI 2) dX12_readProduction_32 kI_2 ?_
      refine c_callV_I (d := 0) (rest := []) G [.int (nI 2)] yv_X12_bad ml_X12_218 (by omega) (by decide) rfl rfl (Nat.le_of_ble_eq_true rfl) h_a0 (fun q hq => con_X12_bad h_a0 hq) dX12_readProduction_33 (fun q3 _ => ?_)
      exact c_zret G hQ dX12_readProduction_36
    · skip
      refine c_aload_n G dX12_readProduction_37 rfl 1 rfl ?_
      refine c_getF G fl_X12_23 h_a0 rfl dX12_readProduction_38 ?_
      refine c_bipush G (nI 8) dX12_readProduction_41 kB_8 ?_
      refine c_iload_n G dX12_readProduction_43 rfl 0 rfl ?_
      refine c_aload_n G dX12_readProduction_44 rfl 1 rfl ?_
      refine c_getJ G fl_X12_181 h_a0 rfl dX12_readProduction_45 ?_
      refine c_callS_PI (d := 0) (rest := []) G [.ref (wB w + pz ((a0 + 5))), .int (nI 8), .int v1, .long (M1.2.1 a0 18)] ys_X12_findIn ml_X12_232 (by omega) (by decide) rfl rfl (Nat.le_of_ble_eq_true rfl) (fun q hq => con_X12_findIn (ll (lf h_a0 4 rfl)) hq) dX12_readProduction_48 (fun q4 _ => ?_)
      refine c_iconst G m1 dX12_readProduction_51 kI_m1 ?_
      refine c_icmp_eq (tgt := 61) G dX12_readProduction_52 (by decide) (fun _ => ?_) (fun _ => ?_)
      · skip
        refine c_aload_n G dX12_readProduction_61 rfl 1 rfl ?_
        refine c_getF G fl_X12_23 h_a0 rfl dX12_readProduction_62 ?_
        refine c_bipush G (nI 8) dX12_readProduction_65 kB_8 ?_
        refine c_iload_n G dX12_readProduction_67 rfl 0 rfl ?_
        refine c_iadd G dX12_readProduction_68 ?_
        refine c_aload_n G dX12_readProduction_69 rfl 1 rfl ?_
        refine c_getJ G fl_X12_181 h_a0 rfl dX12_readProduction_70 ?_
        refine c_last G (lf h_a0 4 rfl) dX12_readProduction_73 (fun M2 _ => ?_)
        refine c_aload_n G dX12_readProduction_74 rfl 1 rfl ?_
        refine c_callV_V (d := 1) (rest := []) G [] yv_X12_go ml_X12_221 (by omega) (by decide) rfl rfl (Nat.le_of_ble_eq_true rfl) h_a0 (fun q hq => con_X12_go h_a0 hq) dX12_readProduction_75 (fun M3 _ => ?_)
        refine c_aload_n G dX12_readProduction_78 rfl 1 rfl ?_
        refine c_bipush G (nI 58) dX12_readProduction_79 kB_58 ?_
        refine c_callV_I (d := 2) (rest := []) G [.int (nI 58)] yv_X12_eats ml_X12_243 (by omega) (by decide) rfl rfl (Nat.le_of_ble_eq_true rfl) h_a0 (fun q hq => con_X12_eats h_a0 hq) dX12_readProduction_81 (fun q5 _ => ?_)
        refine c_if_ne (tgt := 89) G dX12_readProduction_84 (by decide) (fun _ => ?_) (fun _ => ?_)
        · skip
          refine c_iconst G (nI 0) dX12_readProduction_87 kI_0 ?_
          exact c_zret G hQ dX12_readProduction_88
        · skip
          refine c_aload_n G dX12_readProduction_89 rfl 1 rfl ?_
          refine c_callV_PI (d := 2) (rest := []) G [] yv_X12_isName ml_X12_224 (by omega) (by decide) rfl rfl (Nat.le_of_ble_eq_true rfl) h_a0 (fun q hq => con_X12_isName h_a0 hq) dX12_readProduction_90 (fun q6 _ => ?_)
          refine c_if_ne (tgt := 102) G dX12_readProduction_93 (by decide) (fun _ => ?_) (fun _ => ?_)
          · skip
            refine c_aload_n G dX12_readProduction_96 rfl 1 rfl ?_
            refine c_iconst G (nI 2) dX12_readProduction_97 kI_2 ?_
            refine c_callV_I (d := 0) (rest := []) G [.int (nI 2)] yv_X12_bad ml_X12_218 (by omega) (by decide) rfl rfl (Nat.le_of_ble_eq_true rfl) h_a0 (fun q hq => con_X12_bad h_a0 hq) dX12_readProduction_98 (fun q7 _ => ?_)
            exact c_zret G hQ dX12_readProduction_101
          · skip
            refine c_aload_n G dX12_readProduction_102 rfl 1 rfl ?_
            refine c_getF G fl_X12_23 h_a0 rfl dX12_readProduction_103 ?_
            refine c_iconst G (nI 0) dX12_readProduction_106 kI_0 ?_
            refine c_aload_n G dX12_readProduction_107 rfl 1 rfl ?_
            refine c_getF G fl_X12_16 h_a0 rfl dX12_readProduction_108 ?_
            refine c_iconst G (nI 0) dX12_readProduction_111 kI_0 ?_
            refine c_iald G (lf h_a0 2 rfl) dX12_readProduction_112 (fun v2 _ => ?_)
            refine c_aload_n G dX12_readProduction_113 rfl 1 rfl ?_
            refine c_getJ G fl_X12_181 h_a0 rfl dX12_readProduction_114 ?_
            refine c_callS_PI (d := 0) (rest := []) G [.ref (wB w + pz ((a0 + 5))), .int (nI 0), .int v2, .long (q5.2.2.1 a0 18)] ys_X12_findIn ml_X12_232 (by omega) (by decide) rfl rfl (Nat.le_of_ble_eq_true rfl) (fun q hq => con_X12_findIn (ll (lf h_a0 4 rfl)) hq) dX12_readProduction_117 (fun q8 _ => ?_)
            refine c_istore_n G [(2, .int q8), (1, .int v1), (0, .ref (wB w + pz (a0)))] dX12_readProduction_120 rfl (by decide) rfl ?_
            refine c_iload_n G dX12_readProduction_121 rfl 0 rfl ?_
            refine c_iconst G m1 dX12_readProduction_122 kI_m1 ?_
            refine c_icmp_ne (tgt := 132) G dX12_readProduction_123 (by decide) (fun _ => ?_) (fun _ => ?_)
            · skip
              refine c_aload_n G dX12_readProduction_126 rfl 2 rfl ?_
              refine c_iconst G (nI 3) dX12_readProduction_127 kI_3 ?_
              refine c_callV_I (d := 0) (rest := []) G [.int (nI 3)] yv_X12_bad ml_X12_218 (by omega) (by decide) rfl rfl (Nat.le_of_ble_eq_true rfl) h_a0 (fun q hq => con_X12_bad h_a0 hq) dX12_readProduction_128 (fun q9 _ => ?_)
              exact c_zret G hQ dX12_readProduction_131
            · skip
              refine c_aload_n G dX12_readProduction_132 rfl 2 rfl ?_
              refine c_getF G fl_X12_16 h_a0 rfl dX12_readProduction_133 ?_
              refine c_bipush G (nI 20) dX12_readProduction_136 kB_20 ?_
              refine c_iload_n G dX12_readProduction_138 rfl 1 rfl ?_
              refine c_iadd G dX12_readProduction_139 ?_
              refine c_iload_n G dX12_readProduction_140 rfl 0 rfl ?_
              refine c_iast G (lf h_a0 2 rfl) dX12_readProduction_141 (fun M4 _ => ?_)
              refine c_aload_n G dX12_readProduction_142 rfl 2 rfl ?_
              refine c_getF G fl_X12_16 h_a0 rfl dX12_readProduction_143 ?_
              refine c_bipush G (nI 32) dX12_readProduction_146 kB_32 ?_
              refine c_iload_n G dX12_readProduction_148 rfl 1 rfl ?_
              refine c_iadd G dX12_readProduction_149 ?_
              refine c_iconst G (nI 0) dX12_readProduction_150 kI_0 ?_
              refine c_iast G (lf h_a0 2 rfl) dX12_readProduction_151 (fun M5 _ => ?_)
              refine c_aload_n G dX12_readProduction_152 rfl 2 rfl ?_
              refine c_callV_V (d := 1) (rest := []) G [] yv_X12_go ml_X12_221 (by omega) (by decide) rfl rfl (Nat.le_of_ble_eq_true rfl) h_a0 (fun q hq => con_X12_go h_a0 hq) dX12_readProduction_153 (fun M6 _ => ?_)
              refine c_weak _ [2, 1] rfl (cl_X12_readProduction_156 G hQ _ h_a0 ?_ N M6)
              · intro M11
                refine c_iconst G (nI 0) dX12_readProduction_255 kI_0 ?_
                refine c_istore_n G [(3, .int (nI 0)), (0, .ref (wB w + pz (a0))), (1, .int v1)] dX12_readProduction_256 rfl (by decide) rfl ?_
                refine c_weak _ [1, 2, 0] rfl (cl_X12_readProduction_257 G hQ _ h_a0 ?_ N (nI 0) M11)
                · intro M17
                  refine c_aload_n G dX12_readProduction_332 rfl 0 rfl ?_
                  refine c_getF G fl_X12_16 h_a0 rfl dX12_readProduction_333 ?_
                  refine c_iconst G (nI 1) dX12_readProduction_336 kI_1 ?_
                  refine c_dup2 G dX12_readProduction_337 rfl rfl ?_
                  refine c_iald G (lf h_a0 2 rfl) dX12_readProduction_338 (fun v7 _ => ?_)
                  refine c_iconst G (nI 1) dX12_readProduction_339 kI_1 ?_
                  refine c_iadd G dX12_readProduction_340 ?_
                  refine c_iast G (lf h_a0 2 rfl) dX12_readProduction_341 (fun M18 _ => ?_)
                  refine c_iconst G (nI 1) dX12_readProduction_342 kI_1 ?_
                  exact c_zret G hQ dX12_readProduction_343
      · skip
        refine c_aload_n G dX12_readProduction_55 rfl 1 rfl ?_
        refine c_iconst G (nI 4) dX12_readProduction_56 kI_4 ?_
        refine c_callV_I (d := 0) (rest := []) G [.int (nI 4)] yv_X12_bad ml_X12_218 (by omega) (by decide) rfl rfl (Nat.le_of_ble_eq_true rfl) h_a0 (fun q hq => con_X12_bad h_a0 hq) dX12_readProduction_57 (fun q14 _ => ?_)
        exact c_zret G hQ dX12_readProduction_60
set_option maxHeartbeats 4000000 in
set_option maxRecDepth 100000 in
theorem con_X12_symbolAt {w : Wp} {N : Nat} {a0 : Nat} {a1 : Int32} {a2 : Int32} {M : Mm} {q : Int32} (h_a0 : lay a0 = (1, len a0)) (hq : D_X12_symbolAt N a0 a1 a2 M = some q) : Con w 0 yX12_symbolAt cX12_symbolAt 3 (some .int) [.ref (wB w + pz (a0)), .int a1, .int a2] M ((encPI M) q) := by
  refine Con.of (encPI M) q _ hq (by decide) (Nat.le_of_ble_eq_true rfl) ?_
  intro X G Q hQ
  have G : Good w X cX12_symbolAt 3 RX12 (some .int) 0 := G
  refine c_weak [(0, .ref (wB w + pz (a0))), (1, .int a1), (2, .int a2)] [0, 1, 2] rfl ?_
  rw [D_X12_symbolAt]
  refine c_iload_n G dX12_symbolAt_0 rfl 2 rfl ?_
  refine c_if_ne (tgt := 13) G dX12_symbolAt_1 (by decide) (fun _ => ?_) (fun _ => ?_)
  · skip
    refine c_aload_n G dX12_symbolAt_4 rfl 0 rfl ?_
    refine c_bipush G (nI 20) dX12_symbolAt_5 kB_20 ?_
    refine c_iload_n G dX12_symbolAt_7 rfl 1 rfl ?_
    refine c_iadd G dX12_symbolAt_8 ?_
    refine c_iald G h_a0 dX12_symbolAt_9 (fun v1 _ => ?_)
    refine c_goto (tgt := 25) G dX12_symbolAt_10 (by decide) ?_
    exact c_iretP G hQ dX12_symbolAt_25
  · skip
    refine c_aload_n G dX12_symbolAt_13 rfl 0 rfl ?_
    refine c_bipush G (nI 44) dX12_symbolAt_14 kB_44 ?_
    refine c_iconst G (nI 3) dX12_symbolAt_16 kI_3 ?_
    refine c_iload_n G dX12_symbolAt_17 rfl 1 rfl ?_
    refine c_imul G dX12_symbolAt_18 ?_
    refine c_iadd G dX12_symbolAt_19 ?_
    refine c_iload_n G dX12_symbolAt_20 rfl 2 rfl ?_
    refine c_iadd G dX12_symbolAt_21 ?_
    refine c_iconst G (nI 1) dX12_symbolAt_22 kI_1 ?_
    refine c_isub G dX12_symbolAt_23 ?_
    refine c_iald G h_a0 dX12_symbolAt_24 (fun v2 _ => ?_)
    exact c_iretP G hQ dX12_symbolAt_25
set_option maxHeartbeats 4000000 in
set_option maxRecDepth 100000 in
theorem con_X12_isPosition {w : Wp} {N : Nat} {a0 : Nat} {a1 : Int32} {a2 : Int32} {M : Mm} {q : Int32} (h_a0 : lay a0 = (1, len a0)) (hq : D_X12_isPosition N a0 a1 a2 M = some q) : Con w 1 yX12_isPosition cX12_isPosition 3 (some .boolean) [.ref (wB w + pz (a0)), .int a1, .int a2] M ((encPI M) q) := by
  refine Con.of (encPI M) q _ hq (by decide) (Nat.le_of_ble_eq_true rfl) ?_
  intro X G Q hQ
  have G : Good w X cX12_isPosition 3 RX12 (some .boolean) 1 := G
  refine c_weak [(0, .ref (wB w + pz (a0))), (1, .int a1), (2, .int a2)] [0, 1, 2] rfl ?_
  rw [D_X12_isPosition]
  refine c_iload_n G dX12_isPosition_0 rfl 2 rfl ?_
  refine c_iconst G (nI 0) dX12_isPosition_1 kI_0 ?_
  refine c_aload_n G dX12_isPosition_2 rfl 0 rfl ?_
  refine c_bipush G (nI 32) dX12_isPosition_3 kB_32 ?_
  refine c_iload_n G dX12_isPosition_5 rfl 1 rfl ?_
  refine c_iadd G dX12_isPosition_6 ?_
  refine c_iald G h_a0 dX12_isPosition_7 (fun v1 _ => ?_)
  refine c_callS_PI (d := 0) (rest := []) G [.int a2, .int (nI 0), .int v1] ys_X12_isFrom ml_X12_246 (by omega) (by decide) rfl rfl (Nat.le_of_ble_eq_true rfl) (fun q hq => con_X12_isFrom hq) dX12_isPosition_8 (fun q1 _ => ?_)
  exact c_zretP G hQ dX12_isPosition_11
set_option maxHeartbeats 4000000 in
set_option maxRecDepth 100000 in
theorem con_X12_canTell {w : Wp} {N : Nat} {a0 : Nat} {a1 : Int32} {a2 : Int32} {M : Mm} {q : Int32} (h_a0 : lay a0 = (1, len a0)) (hq : D_X12_canTell N a0 a1 a2 M = some q) : Con w 1 yX12_canTell cX12_canTell 5 (some .boolean) [.ref (wB w + pz (a0)), .int a1, .int a2] M ((encPI M) q) := by
  refine Con.of (encPI M) q _ hq (by decide) (Nat.le_of_ble_eq_true rfl) ?_
  intro X G Q hQ
  have G : Good w X cX12_canTell 5 RX12 (some .boolean) 1 := G
  refine c_weak [(0, .ref (wB w + pz (a0))), (1, .int a1), (2, .int a2)] [0, 1, 2] rfl ?_
  rw [D_X12_canTell]
  refine c_iload_n G dX12_canTell_0 rfl 2 rfl ?_
  refine c_bipush G (nI 8) dX12_canTell_1 kB_8 ?_
  refine c_idiv G dX12_canTell_3 (fun v1 _ => ?_)
  refine c_istore_n G [(3, .int v1), (0, .ref (wB w + pz (a0))), (1, .int a1), (2, .int a2)] dX12_canTell_4 rfl (by decide) rfl ?_
  refine c_iload_n G dX12_canTell_5 rfl 3 rfl ?_
  refine c_bipush G (nI 8) dX12_canTell_6 kB_8 ?_
  refine c_irem G dX12_canTell_8 (fun v2 _ => ?_)
  refine c_aload_n G dX12_canTell_9 rfl 1 rfl ?_
  refine c_iconst G (nI 4) dX12_canTell_10 kI_4 ?_
  refine c_aload_n G dX12_canTell_11 rfl 1 rfl ?_
  refine c_iload_n G dX12_canTell_12 rfl 2 rfl ?_
  refine c_iload_n G dX12_canTell_13 rfl 0 rfl ?_
  refine c_callS_PI (d := 0) (rest := [.int (nI 4), .ref (wB w + pz (a0)), .int v2]) G [.ref (wB w + pz (a0)), .int a1, .int v1] ys_X12_symbolAt ml_X12_250 (by omega) (by decide) rfl rfl (Nat.le_of_ble_eq_true rfl) (fun q hq => con_X12_symbolAt (ll h_a0) hq) dX12_canTell_14 (fun q1 _ => ?_)
  refine c_iadd G dX12_canTell_17 ?_
  refine c_iald G h_a0 dX12_canTell_18 (fun v3 _ => ?_)
  refine c_bj (ej := fun (p27 : Int32) => [(3, .int v1)]) (sj := fun p27 => [.int p27]) (mj := fun p27 => M) (pj := 27) (fun p27 => ?_) (fun F hJ27 => ?_)
  · skip
    refine c_istore G [(4, .int p27), (3, .int v1)] dX12_canTell_27 (by decide) rfl ?_
    refine c_iload_n G dX12_canTell_29 rfl 1 rfl ?_
    refine c_if_ne (tgt := 38) G dX12_canTell_30 (by decide) (fun _ => ?_) (fun _ => ?_)
    · skip
      refine c_iload G dX12_canTell_33 0 rfl ?_
      refine c_goto (tgt := 48) G dX12_canTell_35 (by decide) ?_
      exact c_zretP G hQ dX12_canTell_48
    · skip
      refine c_iload G dX12_canTell_38 0 rfl ?_
      refine c_if_ne (tgt := 47) G dX12_canTell_40 (by decide) (fun _ => ?_) (fun _ => ?_)
      · skip
        refine c_iconst G (nI 1) dX12_canTell_43 kI_1 ?_
        refine c_goto (tgt := 48) G dX12_canTell_44 (by decide) ?_
        exact c_zretP G hQ dX12_canTell_48
      · skip
        refine c_iconst G (nI 0) dX12_canTell_47 kI_0 ?_
        exact c_zretP G hQ dX12_canTell_48
  · skip
    refine c_icmp_lt (tgt := 26) G dX12_canTell_19 (by decide) (fun _ => ?_) (fun _ => ?_)
    · skip
      refine c_iconst G (nI 0) dX12_canTell_26 kI_0 ?_
      exact c_weak _ [0] rfl (hJ27 (nI 0))
    · skip
      refine c_iconst G (nI 1) dX12_canTell_22 kI_1 ?_
      refine c_goto (tgt := 27) G dX12_canTell_23 (by decide) ?_
      exact c_weak _ [0] rfl (hJ27 (nI 1))
set_option maxHeartbeats 4000000 in
set_option maxRecDepth 100000 in
theorem con_X12_readOccName {w : Wp} {N : Nat} {a0 : Nat} {a1 : Int32} {a2 : Int32} {M : Mm} {q : Int32 × Mm} (h_a0 : lay a0 = (5, 12)) (hq : D_X12_readOccName N a0 a1 a2 M = some q) : Con w 3 yX12_readOccName cX12_readOccName 5 (some .boolean) [.ref (wB w + pz (a0)), .int a1, .int a2] M (encI q) := by
  refine Con.of encI q _ hq (by decide) (Nat.le_of_ble_eq_true rfl) ?_
  intro X G Q hQ
  have G : Good w X cX12_readOccName 5 RX12 (some .boolean) 3 := G
  refine c_weak [(0, .ref (wB w + pz (a0))), (1, .int a1), (2, .int a2)] [0, 1, 2] rfl ?_
  rw [D_X12_readOccName]
  refine c_aload_n G dX12_readOccName_0 rfl 0 rfl ?_
  refine c_bipush G (nI 46) dX12_readOccName_1 kB_46 ?_
  refine c_callV_I (d := 2) (rest := []) G [.int (nI 46)] yv_X12_eats ml_X12_243 (by omega) (by decide) rfl rfl (Nat.le_of_ble_eq_true rfl) h_a0 (fun q hq => con_X12_eats h_a0 hq) dX12_readOccName_3 (fun q1 _ => ?_)
  refine c_if_ne (tgt := 11) G dX12_readOccName_6 (by decide) (fun _ => ?_) (fun _ => ?_)
  · skip
    refine c_iconst G (nI 0) dX12_readOccName_9 kI_0 ?_
    exact c_zret G hQ dX12_readOccName_10
  · skip
    refine c_aload_n G dX12_readOccName_11 rfl 0 rfl ?_
    refine c_callV_PI (d := 2) (rest := []) G [] yv_X12_isName ml_X12_224 (by omega) (by decide) rfl rfl (Nat.le_of_ble_eq_true rfl) h_a0 (fun q hq => con_X12_isName h_a0 hq) dX12_readOccName_12 (fun q2 _ => ?_)
    refine c_if_ne (tgt := 24) G dX12_readOccName_15 (by decide) (fun _ => ?_) (fun _ => ?_)
    · skip
      refine c_aload_n G dX12_readOccName_18 rfl 0 rfl ?_
      refine c_iconst G (nI 2) dX12_readOccName_19 kI_2 ?_
      refine c_callV_I (d := 0) (rest := []) G [.int (nI 2)] yv_X12_bad ml_X12_218 (by omega) (by decide) rfl rfl (Nat.le_of_ble_eq_true rfl) h_a0 (fun q hq => con_X12_bad h_a0 hq) dX12_readOccName_20 (fun q3 _ => ?_)
      exact c_zret G hQ dX12_readOccName_23
    · skip
      refine c_aload_n G dX12_readOccName_24 rfl 0 rfl ?_
      refine c_getF G fl_X12_16 h_a0 rfl dX12_readOccName_25 ?_
      refine c_iload_n G dX12_readOccName_28 rfl 1 rfl ?_
      refine c_iload_n G dX12_readOccName_29 rfl 2 rfl ?_
      refine c_callS_PI (d := 0) (rest := []) G [.ref (wB w + pz ((a0 + 3))), .int a1, .int a2] ys_X12_symbolAt ml_X12_250 (by omega) (by decide) rfl rfl (Nat.le_of_ble_eq_true rfl) (fun q hq => con_X12_symbolAt (ll (lf h_a0 2 rfl)) hq) dX12_readOccName_30 (fun q4 _ => ?_)
      refine c_istore_n G [(3, .int q4), (0, .ref (wB w + pz (a0))), (1, .int a1), (2, .int a2)] dX12_readOccName_33 rfl (by decide) rfl ?_
      refine c_aload_n G dX12_readOccName_34 rfl 1 rfl ?_
      refine c_getF G fl_X12_23 h_a0 rfl dX12_readOccName_35 ?_
      refine c_bipush G (nI 20) dX12_readOccName_38 kB_20 ?_
      refine c_bipush G (nI 8) dX12_readOccName_40 kB_8 ?_
      refine c_iload_n G dX12_readOccName_42 rfl 0 rfl ?_
      refine c_imul G dX12_readOccName_43 ?_
      refine c_iadd G dX12_readOccName_44 ?_
      refine c_aload_n G dX12_readOccName_45 rfl 1 rfl ?_
      refine c_getF G fl_X12_16 h_a0 rfl dX12_readOccName_46 ?_
      refine c_iload_n G dX12_readOccName_49 rfl 0 rfl ?_
      refine c_callS_PI (d := 0) (rest := [.int ((nI 20) + ((nI 8) * q4)), .ref (wB w + pz ((a0 + 5)))]) G [.ref (wB w + pz ((a0 + 3))), .int q4] ys_X12_attributesIn ml_X12_228 (by omega) (by decide) rfl rfl (Nat.le_of_ble_eq_true rfl) (fun q hq => con_X12_attributesIn (ll (lf h_a0 2 rfl)) hq) dX12_readOccName_50 (fun q5 _ => ?_)
      refine c_aload_n G dX12_readOccName_53 rfl 1 rfl ?_
      refine c_getJ G fl_X12_181 h_a0 rfl dX12_readOccName_54 ?_
      refine c_callS_PI (d := 0) (rest := []) G [.ref (wB w + pz ((a0 + 5))), .int ((nI 20) + ((nI 8) * q4)), .int q5, .long (q1.2.2.1 a0 18)] ys_X12_findIn ml_X12_232 (by omega) (by decide) rfl rfl (Nat.le_of_ble_eq_true rfl) (fun q hq => con_X12_findIn (ll (lf h_a0 4 rfl)) hq) dX12_readOccName_57 (fun q6 _ => ?_)
      refine c_istore G [(4, .int q6), (3, .int q4), (0, .ref (wB w + pz (a0))), (1, .int a1), (2, .int a2)] dX12_readOccName_60 (by decide) rfl ?_
      refine c_iload G dX12_readOccName_62 0 rfl ?_
      refine c_iconst G m1 dX12_readOccName_64 kI_m1 ?_
      refine c_icmp_ne (tgt := 74) G dX12_readOccName_65 (by decide) (fun _ => ?_) (fun _ => ?_)
      · skip
        refine c_aload_n G dX12_readOccName_68 rfl 2 rfl ?_
        refine c_iconst G (nI 3) dX12_readOccName_69 kI_3 ?_
        refine c_callV_I (d := 0) (rest := []) G [.int (nI 3)] yv_X12_bad ml_X12_218 (by omega) (by decide) rfl rfl (Nat.le_of_ble_eq_true rfl) h_a0 (fun q hq => con_X12_bad h_a0 hq) dX12_readOccName_70 (fun q7 _ => ?_)
        exact c_zret G hQ dX12_readOccName_73
      · skip
        refine c_aload_n G dX12_readOccName_74 rfl 2 rfl ?_
        refine c_bipush G (nI 8) dX12_readOccName_75 kB_8 ?_
        refine c_iload_n G dX12_readOccName_77 rfl 4 rfl ?_
        refine c_imul G dX12_readOccName_78 ?_
        refine c_iload G dX12_readOccName_79 0 rfl ?_
        refine c_iadd G dX12_readOccName_81 ?_
        refine c_putI G fp_X12_254 h_a0 rfl dX12_readOccName_82 (fun M1 _ => ?_)
        refine c_iconst G (nI 1) dX12_readOccName_85 kI_1 ?_
        exact c_zret G hQ dX12_readOccName_86
set_option maxHeartbeats 4000000 in
set_option maxRecDepth 100000 in
theorem con_X12_codes {w : Wp} {N : Nat} {a0 : Nat} {a1 : Int32} {a2 : Int32} {M : Mm} {q : Mm} (h_a0 : lay a0 = (5, 12)) (hq : D_X12_codes N a0 a1 a2 M = some q) : Con w 0 yX12_codes cX12_codes 3 none [.ref (wB w + pz (a0)), .int a1, .int a2] M (encV q) := by
  refine Con.of encV q _ hq (by decide) (Nat.le_of_ble_eq_true rfl) ?_
  intro X G Q hQ
  have G : Good w X cX12_codes 3 RX12 none 0 := G
  refine c_weak [(0, .ref (wB w + pz (a0))), (1, .int a1), (2, .int a2)] [0, 1, 2] rfl ?_
  rw [D_X12_codes]
  refine c_aload_n G dX12_codes_0 rfl 0 rfl ?_
  refine c_getF G fl_X12_16 h_a0 rfl dX12_codes_1 ?_
  refine c_sipush G (nI 1616) dX12_codes_4 kS_1616 ?_
  refine c_aload_n G dX12_codes_7 rfl 0 rfl ?_
  refine c_getF G fl_X12_16 h_a0 rfl dX12_codes_8 ?_
  refine c_iconst G (nI 3) dX12_codes_11 kI_3 ?_
  refine c_iald G (lf h_a0 2 rfl) dX12_codes_12 (fun v1 _ => ?_)
  refine c_iadd G dX12_codes_13 ?_
  refine c_iload_n G dX12_codes_14 rfl 1 rfl ?_
  refine c_iast G (lf h_a0 2 rfl) dX12_codes_15 (fun M1 _ => ?_)
  refine c_aload_n G dX12_codes_16 rfl 0 rfl ?_
  refine c_getF G fl_X12_16 h_a0 rfl dX12_codes_17 ?_
  refine c_sipush G (nI 2716) dX12_codes_20 kS_2716 ?_
  refine c_aload_n G dX12_codes_23 rfl 0 rfl ?_
  refine c_getF G fl_X12_16 h_a0 rfl dX12_codes_24 ?_
  refine c_iconst G (nI 3) dX12_codes_27 kI_3 ?_
  refine c_iald G (lf h_a0 2 rfl) dX12_codes_28 (fun v2 _ => ?_)
  refine c_iadd G dX12_codes_29 ?_
  refine c_iload_n G dX12_codes_30 rfl 2 rfl ?_
  refine c_iast G (lf h_a0 2 rfl) dX12_codes_31 (fun M2 _ => ?_)
  refine c_aload_n G dX12_codes_32 rfl 0 rfl ?_
  refine c_getF G fl_X12_16 h_a0 rfl dX12_codes_33 ?_
  refine c_iconst G (nI 3) dX12_codes_36 kI_3 ?_
  refine c_dup2 G dX12_codes_37 rfl rfl ?_
  refine c_iald G (lf h_a0 2 rfl) dX12_codes_38 (fun v3 _ => ?_)
  refine c_iconst G (nI 1) dX12_codes_39 kI_1 ?_
  refine c_iadd G dX12_codes_40 ?_
  refine c_iast G (lf h_a0 2 rfl) dX12_codes_41 (fun M3 _ => ?_)
  exact c_vret G hQ dX12_codes_42
set_option maxHeartbeats 4000000 in
set_option maxRecDepth 100000 in
theorem con_X12_readNumber {w : Wp} {N : Nat} {a0 : Nat} {a1 : Int32} {M : Mm} {q : Int32 × Mm} (h_a0 : lay a0 = (5, 12)) (hq : D_X12_readNumber N a0 a1 M = some q) : Con w 4 yX12_readNumber cX12_readNumber 4 (some .boolean) [.ref (wB w + pz (a0)), .int a1] M (encI q) := by
  refine Con.of encI q _ hq (by decide) (Nat.le_of_ble_eq_true rfl) ?_
  intro X G Q hQ
  have G : Good w X cX12_readNumber 4 RX12 (some .boolean) 4 := G
  refine c_weak [(0, .ref (wB w + pz (a0))), (1, .int a1)] [0, 1] rfl ?_
  rw [D_X12_readNumber]
  refine c_aload_n G dX12_readNumber_0 rfl 0 rfl ?_
  refine c_getI G fl_X12_192 h_a0 rfl dX12_readNumber_1 ?_
  refine c_let (fun l2_1 _ => ?_)
  refine c_istore_n G [(2, .int l2_1), (0, .ref (wB w + pz (a0))), (1, .int a1)] dX12_readNumber_4 rfl (by decide) rfl ?_
  refine c_aload_n G dX12_readNumber_5 rfl 1 rfl ?_
  refine c_getI G fl_X12_171 h_a0 rfl dX12_readNumber_6 ?_
  refine c_let (fun l3_1 _ => ?_)
  refine c_istore_n G [(3, .int l3_1), (2, .int l2_1), (0, .ref (wB w + pz (a0))), (1, .int a1)] dX12_readNumber_9 rfl (by decide) rfl ?_
  refine c_aload_n G dX12_readNumber_10 rfl 2 rfl ?_
  refine c_callV_V (d := 1) (rest := []) G [] yv_X12_go ml_X12_221 (by omega) (by decide) rfl rfl (Nat.le_of_ble_eq_true rfl) h_a0 (fun q hq => con_X12_go h_a0 hq) dX12_readNumber_11 (fun M1 _ => ?_)
  refine c_aload_n G dX12_readNumber_14 rfl 2 rfl ?_
  refine c_bipush G (nI 46) dX12_readNumber_15 kB_46 ?_
  refine c_callV_PI (d := 0) (rest := []) G [.int (nI 46)] yv_X12_isSign ml_X12_215 (by omega) (by decide) rfl rfl (Nat.le_of_ble_eq_true rfl) h_a0 (fun q hq => con_X12_isSign h_a0 hq) dX12_readNumber_17 (fun q1 _ => ?_)
  refine c_if_ne (tgt := 58) G dX12_readNumber_20 (by decide) (fun _ => ?_) (fun _ => ?_)
  · skip
    refine c_aload_n G dX12_readNumber_23 rfl 2 rfl ?_
    refine c_getI G fl_X12_267 h_a0 rfl dX12_readNumber_24 ?_
    refine c_bipush G (nI 24) dX12_readNumber_27 kB_24 ?_
    refine c_icmp_ne (tgt := 40) G dX12_readNumber_29 (by decide) (fun _ => ?_) (fun _ => ?_)
    · skip
      refine c_aload_n G dX12_readNumber_32 rfl 2 rfl ?_
      refine c_bipush G (nI 6) dX12_readNumber_33 kB_6 ?_
      refine c_iload_n G dX12_readNumber_35 rfl 0 rfl ?_
      refine c_callV_I (d := 0) (rest := []) G [.int (nI 6), .int l3_1] yv_X12_badAt ml_X12_293 (by omega) (by decide) rfl rfl (Nat.le_of_ble_eq_true rfl) h_a0 (fun q hq => con_X12_badAt h_a0 hq) dX12_readNumber_36 (fun q2 _ => ?_)
      exact c_zret G hQ dX12_readNumber_39
    · skip
      refine c_aload_n G dX12_readNumber_40 rfl 2 rfl ?_
      refine c_dup G dX12_readNumber_41 rfl ?_
      refine c_getI G fl_X12_267 h_a0 rfl dX12_readNumber_42 ?_
      refine c_iconst G (nI 1) dX12_readNumber_45 kI_1 ?_
      refine c_iadd G dX12_readNumber_46 ?_
      refine c_putI G fp_X12_267 h_a0 rfl dX12_readNumber_47 (fun M2 _ => ?_)
      refine c_aload_n G dX12_readNumber_50 rfl 2 rfl ?_
      refine c_iconst G (nI 0) dX12_readNumber_51 kI_0 ?_
      refine c_iload_n G dX12_readNumber_52 rfl 1 rfl ?_
      refine c_callV_V (d := 0) (rest := []) G [.int (nI 0), .int l2_1] yv_X12_codes ml_X12_283 (by omega) (by decide) rfl rfl (Nat.le_of_ble_eq_true rfl) h_a0 (fun q hq => con_X12_codes h_a0 hq) dX12_readNumber_53 (fun M3 _ => ?_)
      refine c_iconst G (nI 1) dX12_readNumber_56 kI_1 ?_
      exact c_zret G hQ dX12_readNumber_57
  · skip
    refine c_aload_n G dX12_readNumber_58 rfl 2 rfl ?_
    refine c_getF G fl_X12_16 h_a0 rfl dX12_readNumber_59 ?_
    refine c_iload_n G dX12_readNumber_62 rfl 3 rfl ?_
    refine c_iload_n G dX12_readNumber_63 rfl 1 rfl ?_
    refine c_callS_PI (d := 1) (rest := []) G [.ref (wB w + pz ((a0 + 3))), .int a1, .int l2_1] ys_X12_isPosition ml_X12_257 (by omega) (by decide) rfl rfl (Nat.le_of_ble_eq_true rfl) (fun q hq => con_X12_isPosition (ll (lf h_a0 2 rfl)) hq) dX12_readNumber_64 (fun q3 _ => ?_)
    refine c_if_ne (tgt := 77) G dX12_readNumber_67 (by decide) (fun _ => ?_) (fun _ => ?_)
    · skip
      refine c_aload_n G dX12_readNumber_70 rfl 2 rfl ?_
      refine c_iconst G (nI 3) dX12_readNumber_71 kI_3 ?_
      refine c_iload_n G dX12_readNumber_72 rfl 0 rfl ?_
      refine c_callV_I (d := 0) (rest := []) G [.int (nI 3), .int l3_1] yv_X12_badAt ml_X12_293 (by omega) (by decide) rfl rfl (Nat.le_of_ble_eq_true rfl) h_a0 (fun q hq => con_X12_badAt h_a0 hq) dX12_readNumber_73 (fun q4 _ => ?_)
      exact c_zret G hQ dX12_readNumber_76
    · skip
      refine c_aload_n G dX12_readNumber_77 rfl 2 rfl ?_
      refine c_getI G fl_X12_267 h_a0 rfl dX12_readNumber_78 ?_
      refine c_bipush G (nI 24) dX12_readNumber_81 kB_24 ?_
      refine c_icmp_ne (tgt := 94) G dX12_readNumber_83 (by decide) (fun _ => ?_) (fun _ => ?_)
      · skip
        refine c_aload_n G dX12_readNumber_86 rfl 2 rfl ?_
        refine c_bipush G (nI 6) dX12_readNumber_87 kB_6 ?_
        refine c_iload_n G dX12_readNumber_89 rfl 0 rfl ?_
        refine c_callV_I (d := 0) (rest := []) G [.int (nI 6), .int l3_1] yv_X12_badAt ml_X12_293 (by omega) (by decide) rfl rfl (Nat.le_of_ble_eq_true rfl) h_a0 (fun q hq => con_X12_badAt h_a0 hq) dX12_readNumber_90 (fun q5 _ => ?_)
        exact c_zret G hQ dX12_readNumber_93
      · skip
        refine c_aload_n G dX12_readNumber_94 rfl 2 rfl ?_
        refine c_iload_n G dX12_readNumber_95 rfl 3 rfl ?_
        refine c_iload_n G dX12_readNumber_96 rfl 1 rfl ?_
        refine c_callV_I (d := 3) (rest := []) G [.int a1, .int l2_1] yv_X12_readOccName ml_X12_261 (by omega) (by decide) rfl rfl (Nat.le_of_ble_eq_true rfl) h_a0 (fun q hq => con_X12_readOccName h_a0 hq) dX12_readNumber_97 (fun q6 _ => ?_)
        refine c_if_ne (tgt := 105) G dX12_readNumber_100 (by decide) (fun _ => ?_) (fun _ => ?_)
        · skip
          refine c_iconst G (nI 0) dX12_readNumber_103 kI_0 ?_
          exact c_zret G hQ dX12_readNumber_104
        · skip
          refine c_aload_n G dX12_readNumber_105 rfl 2 rfl ?_
          refine c_dup G dX12_readNumber_106 rfl ?_
          refine c_getI G fl_X12_267 h_a0 rfl dX12_readNumber_107 ?_
          refine c_iconst G (nI 1) dX12_readNumber_110 kI_1 ?_
          refine c_iadd G dX12_readNumber_111 ?_
          refine c_putI G fp_X12_267 h_a0 rfl dX12_readNumber_112 (fun M4 _ => ?_)
          refine c_aload_n G dX12_readNumber_115 rfl 2 rfl ?_
          refine c_dup G dX12_readNumber_116 rfl ?_
          refine c_getI G fl_X12_270 h_a0 rfl dX12_readNumber_117 ?_
          refine c_iconst G (nI 1) dX12_readNumber_120 kI_1 ?_
          refine c_aload_n G dX12_readNumber_121 rfl 2 rfl ?_
          refine c_getI G fl_X12_254 h_a0 rfl dX12_readNumber_122 ?_
          refine c_ishl G dX12_readNumber_125 ?_
          refine c_ior G dX12_readNumber_126 ?_
          refine c_putI G fp_X12_270 h_a0 rfl dX12_readNumber_127 (fun M5 _ => ?_)
          refine c_aload_n G dX12_readNumber_130 rfl 2 rfl ?_
          refine c_iconst G (nI 2) dX12_readNumber_131 kI_2 ?_
          refine c_aload_n G dX12_readNumber_132 rfl 2 rfl ?_
          refine c_getI G fl_X12_254 h_a0 rfl dX12_readNumber_133 ?_
          refine c_callV_V (d := 0) (rest := []) G [.int (nI 2), .int (M5.1 a0 19)] yv_X12_codes ml_X12_283 (by omega) (by decide) rfl rfl (Nat.le_of_ble_eq_true rfl) h_a0 (fun q hq => con_X12_codes h_a0 hq) dX12_readNumber_136 (fun M6 _ => ?_)
          refine c_aload_n G dX12_readNumber_139 rfl 2 rfl ?_
          refine c_callV_V (d := 1) (rest := []) G [] yv_X12_go ml_X12_221 (by omega) (by decide) rfl rfl (Nat.le_of_ble_eq_true rfl) h_a0 (fun q hq => con_X12_go h_a0 hq) dX12_readNumber_140 (fun M7 _ => ?_)
          refine c_iconst G (nI 1) dX12_readNumber_143 kI_1 ?_
          exact c_zret G hQ dX12_readNumber_144
set_option maxHeartbeats 4000000 in
set_option maxRecDepth 100000 in
theorem con_X12_opens {w : Wp} {N : Nat} {a0 : Nat} {a1 : Int32} {M : Mm} {q : Int32 × Mm} (h_a0 : lay a0 = (5, 12)) (hq : D_X12_opens N a0 a1 M = some q) : Con w 2 yX12_opens cX12_opens 2 (some .boolean) [.ref (wB w + pz (a0)), .int a1] M (encI q) := by
  refine Con.of encI q _ hq (by decide) (Nat.le_of_ble_eq_true rfl) ?_
  intro X G Q hQ
  have G : Good w X cX12_opens 2 RX12 (some .boolean) 2 := G
  refine c_weak [(0, .ref (wB w + pz (a0))), (1, .int a1)] [0, 1] rfl ?_
  rw [D_X12_opens]
  refine c_aload_n G dX12_opens_0 rfl 0 rfl ?_
  refine c_bipush G (nI 40) dX12_opens_1 kB_40 ?_
  refine c_callV_PI (d := 0) (rest := []) G [.int (nI 40)] yv_X12_isSign ml_X12_215 (by omega) (by decide) rfl rfl (Nat.le_of_ble_eq_true rfl) h_a0 (fun q hq => con_X12_isSign h_a0 hq) dX12_opens_3 (fun q1 _ => ?_)
  refine c_if_ne (tgt := 15) G dX12_opens_6 (by decide) (fun _ => ?_) (fun _ => ?_)
  · skip
    refine c_aload_n G dX12_opens_9 rfl 0 rfl ?_
    refine c_iconst G (nI 2) dX12_opens_10 kI_2 ?_
    refine c_callV_I (d := 0) (rest := []) G [.int (nI 2)] yv_X12_bad ml_X12_218 (by omega) (by decide) rfl rfl (Nat.le_of_ble_eq_true rfl) h_a0 (fun q hq => con_X12_bad h_a0 hq) dX12_opens_11 (fun q2 _ => ?_)
    exact c_zret G hQ dX12_opens_14
  · skip
    refine c_iload_n G dX12_opens_15 rfl 1 rfl ?_
    refine c_bipush G (nI 6) dX12_opens_16 kB_6 ?_
    refine c_icmp_ne (tgt := 28) G dX12_opens_18 (by decide) (fun _ => ?_) (fun _ => ?_)
    · skip
      refine c_aload_n G dX12_opens_21 rfl 0 rfl ?_
      refine c_bipush G (nI 6) dX12_opens_22 kB_6 ?_
      refine c_callV_I (d := 0) (rest := []) G [.int (nI 6)] yv_X12_bad ml_X12_218 (by omega) (by decide) rfl rfl (Nat.le_of_ble_eq_true rfl) h_a0 (fun q hq => con_X12_bad h_a0 hq) dX12_opens_24 (fun q3 _ => ?_)
      exact c_zret G hQ dX12_opens_27
    · skip
      refine c_aload_n G dX12_opens_28 rfl 0 rfl ?_
      refine c_callV_V (d := 1) (rest := []) G [] yv_X12_go ml_X12_221 (by omega) (by decide) rfl rfl (Nat.le_of_ble_eq_true rfl) h_a0 (fun q hq => con_X12_go h_a0 hq) dX12_opens_29 (fun M1 _ => ?_)
      refine c_iconst G (nI 1) dX12_opens_32 kI_1 ?_
      exact c_zret G hQ dX12_opens_33
set_option maxHeartbeats 4000000 in
set_option maxRecDepth 100000 in
theorem con_X12_readPart {w : Wp} {N : Nat} {dd : Nat} {rc : Nat → Int32 → Int32 → Mm → Option (Int32 × Mm)} {a0 : Nat} {a1 : Int32} {a2 : Int32} {M : Mm} {q : Int32 × Mm} (hdd : 5 ≤ dd) (hrc : ∀ (b0 : Nat) (b1 : Int32) (b2 : Int32) (M : Mm) (q : Int32 × Mm), lay b0 = (5, 12) → rc b0 b1 b2 M = some q → Con w dd yX12_readSum cX12_readSum 4 (some .boolean) [.ref (wB w + pz (b0)), .int b1, .int b2] M (encI q)) (h_a0 : lay a0 = (5, 12)) (hq : D_X12_readPart N rc a0 a1 a2 M = some q) : Con w (dd + 1) yX12_readPart cX12_readPart 4 (some .boolean) [.ref (wB w + pz (a0)), .int a1, .int a2] M (encI q) := by
  refine Con.of encI q _ hq (by decide) (Nat.le_of_ble_eq_true rfl) ?_
  intro X G Q hQ
  have G : Good w X cX12_readPart 4 RX12 (some .boolean) (dd + 1) := G
  refine c_weak [(0, .ref (wB w + pz (a0))), (1, .int a1), (2, .int a2)] [0, 1, 2] rfl ?_
  rw [D_X12_readPart]
  refine c_aload_n G dX12_readPart_0 rfl 0 rfl ?_
  refine c_getI G fl_X12_174 h_a0 rfl dX12_readPart_1 ?_
  refine c_iconst G (nI 3) dX12_readPart_4 kI_3 ?_
  refine c_icmp_ne (tgt := 14) G dX12_readPart_5 (by decide) (fun _ => ?_) (fun _ => ?_)
  · skip
    refine c_aload_n G dX12_readPart_8 rfl 0 rfl ?_
    refine c_iload_n G dX12_readPart_9 rfl 1 rfl ?_
    refine c_callV_I (d := 4) (rest := []) G [.int a1] yv_X12_readNumber ml_X12_287 (by omega) (by decide) rfl rfl (Nat.le_of_ble_eq_true rfl) h_a0 (fun q hq => con_X12_readNumber h_a0 hq) dX12_readPart_10 (fun q1 _ => ?_)
    exact c_zret G hQ dX12_readPart_13
  · skip
    refine c_aload_n G dX12_readPart_14 rfl 0 rfl ?_
    refine c_iconst G (nI 5) dX12_readPart_15 kI_5 ?_
    refine c_callV_PI (d := 2) (rest := []) G [.int (nI 5)] yv_X12_isWord ml_X12_236 (by omega) (by decide) rfl rfl (Nat.le_of_ble_eq_true rfl) h_a0 (fun q hq => con_X12_isWord h_a0 hq) dX12_readPart_16 (fun q2 _ => ?_)
    refine c_if_eq (tgt := 60) G dX12_readPart_19 (by decide) (fun _ => ?_) (fun _ => ?_)
    · skip
      refine c_aload_n G dX12_readPart_60 rfl 0 rfl ?_
      refine c_bipush G (nI 8) dX12_readPart_61 kB_8 ?_
      refine c_callV_PI (d := 2) (rest := []) G [.int (nI 8)] yv_X12_isWord ml_X12_236 (by omega) (by decide) rfl rfl (Nat.le_of_ble_eq_true rfl) h_a0 (fun q hq => con_X12_isWord h_a0 hq) dX12_readPart_63 (fun q3 _ => ?_)
      refine c_if_eq (tgt := 161) G dX12_readPart_66 (by decide) (fun _ => ?_) (fun _ => ?_)
      · skip
        refine c_aload_n G dX12_readPart_161 rfl 0 rfl ?_
        refine c_iload_n G dX12_readPart_162 rfl 2 rfl ?_
        refine c_callV_I (d := 2) (rest := []) G [.int a2] yv_X12_opens ml_X12_290 (by omega) (by decide) rfl rfl (Nat.le_of_ble_eq_true rfl) h_a0 (fun q hq => con_X12_opens h_a0 hq) dX12_readPart_163 (fun q4 _ => ?_)
        refine c_jn (ej := fun (p193 : Mm) => []) (sj := fun p193 => []) (mj := fun p193 => p193) (pj := 193) (fun p193 => ?_) (fun J1 hJ193 => ?_)
        · skip
          refine c_iconst G (nI 0) dX12_readPart_193 kI_0 ?_
          exact c_zret G hQ dX12_readPart_194
        · skip
          refine c_if_eq (tgt := 193) G dX12_readPart_166 (by decide) (fun _ => ?_) (fun _ => ?_)
          · skip
            exact c_weak _ [] rfl (hJ193 q4.2)
          · skip
            refine c_aload_n G dX12_readPart_169 rfl 0 rfl ?_
            refine c_iload_n G dX12_readPart_170 rfl 1 rfl ?_
            refine c_iload_n G dX12_readPart_171 rfl 2 rfl ?_
            refine c_iconst G (nI 1) dX12_readPart_172 kI_1 ?_
            refine c_iadd G dX12_readPart_173 ?_
            refine c_callV_I (d := dd) (rest := []) G [.int a1, .int (a2 + (nI 1))] yv_X12_readSum ml_X12_273 (by omega) (by decide) rfl rfl (Nat.le_of_ble_eq_true rfl) h_a0 (fun q hq => hrc a0 a1 (a2 + (nI 1)) q4.2 q h_a0 hq) dX12_readPart_174 (fun q5 _ => ?_)
            refine c_if_eq (tgt := 193) G dX12_readPart_177 (by decide) (fun _ => ?_) (fun _ => ?_)
            · skip
              exact c_weak _ [] rfl (hJ193 q5.2)
            · skip
              refine c_aload_n G dX12_readPart_180 rfl 0 rfl ?_
              refine c_bipush G (nI 41) dX12_readPart_181 kB_41 ?_
              refine c_callV_I (d := 2) (rest := []) G [.int (nI 41)] yv_X12_eats ml_X12_243 (by omega) (by decide) rfl rfl (Nat.le_of_ble_eq_true rfl) h_a0 (fun q hq => con_X12_eats h_a0 hq) dX12_readPart_183 (fun q6 _ => ?_)
              refine c_if_eq (tgt := 193) G dX12_readPart_186 (by decide) (fun _ => ?_) (fun _ => ?_)
              · skip
                exact c_weak _ [] rfl (hJ193 q6.2)
              · skip
                refine c_iconst G (nI 1) dX12_readPart_189 kI_1 ?_
                refine c_goto (tgt := 194) G dX12_readPart_190 (by decide) ?_
                exact c_zret G hQ dX12_readPart_194
      · skip
        refine c_aload_n G dX12_readPart_69 rfl 0 rfl ?_
        refine c_callV_V (d := 1) (rest := []) G [] yv_X12_go ml_X12_221 (by omega) (by decide) rfl rfl (Nat.le_of_ble_eq_true rfl) h_a0 (fun q hq => con_X12_go h_a0 hq) dX12_readPart_70 (fun M2 _ => ?_)
        refine c_aload_n G dX12_readPart_73 rfl 0 rfl ?_
        refine c_iload_n G dX12_readPart_74 rfl 2 rfl ?_
        refine c_callV_I (d := 2) (rest := []) G [.int a2] yv_X12_opens ml_X12_290 (by omega) (by decide) rfl rfl (Nat.le_of_ble_eq_true rfl) h_a0 (fun q hq => con_X12_opens h_a0 hq) dX12_readPart_75 (fun q7 _ => ?_)
        refine c_if_ne (tgt := 83) G dX12_readPart_78 (by decide) (fun _ => ?_) (fun _ => ?_)
        · skip
          refine c_iconst G (nI 0) dX12_readPart_81 kI_0 ?_
          exact c_zret G hQ dX12_readPart_82
        · skip
          refine c_aload_n G dX12_readPart_83 rfl 0 rfl ?_
          refine c_iload_n G dX12_readPart_84 rfl 1 rfl ?_
          refine c_iload_n G dX12_readPart_85 rfl 2 rfl ?_
          refine c_iconst G (nI 1) dX12_readPart_86 kI_1 ?_
          refine c_iadd G dX12_readPart_87 ?_
          refine c_callV_I (d := dd) (rest := []) G [.int a1, .int (a2 + (nI 1))] yv_X12_readSum ml_X12_273 (by omega) (by decide) rfl rfl (Nat.le_of_ble_eq_true rfl) h_a0 (fun q hq => hrc a0 a1 (a2 + (nI 1)) q7.2 q h_a0 hq) dX12_readPart_88 (fun q8 _ => ?_)
          refine c_bj (ej := fun (p148 : Int32 × Mm) => [(0, .ref (wB w + pz (a0)))]) (sj := fun p148 => [.int p148.1]) (mj := fun p148 => p148.2) (pj := 148) (fun p148 => ?_) (fun F hJ148 => ?_)
          · skip
            refine c_istore_n G [(3, .int p148.1), (0, .ref (wB w + pz (a0)))] dX12_readPart_148 rfl (by decide) rfl ?_
            refine c_iload_n G dX12_readPart_149 rfl 0 rfl ?_
            refine c_if_eq (tgt := 159) G dX12_readPart_150 (by decide) (fun _ => ?_) (fun _ => ?_)
            · skip
              refine c_iload_n G dX12_readPart_159 rfl 0 rfl ?_
              exact c_zret G hQ dX12_readPart_160
            · skip
              refine c_aload_n G dX12_readPart_153 rfl 1 rfl ?_
              refine c_iconst G (nI 3) dX12_readPart_154 kI_3 ?_
              refine c_iconst G (nI 0) dX12_readPart_155 kI_0 ?_
              refine c_callV_V (d := 0) (rest := []) G [.int (nI 3), .int (nI 0)] yv_X12_codes ml_X12_283 (by omega) (by decide) rfl rfl (Nat.le_of_ble_eq_true rfl) h_a0 (fun q hq => con_X12_codes h_a0 hq) dX12_readPart_156 (fun M4 _ => ?_)
              refine c_iload_n G dX12_readPart_159 rfl 0 rfl ?_
              exact c_zret G hQ dX12_readPart_160
          · skip
            refine c_jn (ej := fun (p147 : Mm) => [(0, .ref (wB w + pz (a0)))]) (sj := fun p147 => []) (mj := fun p147 => p147) (pj := 147) (fun p147 => ?_) (fun J2 hJ147 => ?_)
            · skip
              refine c_iconst G (nI 0) dX12_readPart_147 kI_0 ?_
              exact c_weak _ [0] rfl (hJ148 ((nI 0), p147))
            · skip
              refine c_if_eq (tgt := 147) G dX12_readPart_91 (by decide) (fun _ => ?_) (fun _ => ?_)
              · skip
                exact c_weak _ [0] rfl (hJ147 q8.2)
              · skip
                refine c_aload_n G dX12_readPart_94 rfl 0 rfl ?_
                refine c_bipush G (nI 44) dX12_readPart_95 kB_44 ?_
                refine c_callV_I (d := 2) (rest := []) G [.int (nI 44)] yv_X12_eats ml_X12_243 (by omega) (by decide) rfl rfl (Nat.le_of_ble_eq_true rfl) h_a0 (fun q hq => con_X12_eats h_a0 hq) dX12_readPart_97 (fun q9 _ => ?_)
                refine c_if_eq (tgt := 147) G dX12_readPart_100 (by decide) (fun _ => ?_) (fun _ => ?_)
                · skip
                  exact c_weak _ [0] rfl (hJ147 q9.2)
                · skip
                  refine c_aload_n G dX12_readPart_103 rfl 0 rfl ?_
                  refine c_iload_n G dX12_readPart_104 rfl 1 rfl ?_
                  refine c_iload_n G dX12_readPart_105 rfl 2 rfl ?_
                  refine c_iconst G (nI 1) dX12_readPart_106 kI_1 ?_
                  refine c_iadd G dX12_readPart_107 ?_
                  refine c_callV_I (d := dd) (rest := []) G [.int a1, .int (a2 + (nI 1))] yv_X12_readSum ml_X12_273 (by omega) (by decide) rfl rfl (Nat.le_of_ble_eq_true rfl) h_a0 (fun q hq => hrc a0 a1 (a2 + (nI 1)) q9.2 q h_a0 hq) dX12_readPart_108 (fun q10 _ => ?_)
                  refine c_if_eq (tgt := 147) G dX12_readPart_111 (by decide) (fun _ => ?_) (fun _ => ?_)
                  · skip
                    exact c_weak _ [0] rfl (hJ147 q10.2)
                  · skip
                    refine c_aload_n G dX12_readPart_114 rfl 0 rfl ?_
                    refine c_bipush G (nI 44) dX12_readPart_115 kB_44 ?_
                    refine c_callV_I (d := 2) (rest := []) G [.int (nI 44)] yv_X12_eats ml_X12_243 (by omega) (by decide) rfl rfl (Nat.le_of_ble_eq_true rfl) h_a0 (fun q hq => con_X12_eats h_a0 hq) dX12_readPart_117 (fun q11 _ => ?_)
                    refine c_if_eq (tgt := 147) G dX12_readPart_120 (by decide) (fun _ => ?_) (fun _ => ?_)
                    · skip
                      exact c_weak _ [0] rfl (hJ147 q11.2)
                    · skip
                      refine c_aload_n G dX12_readPart_123 rfl 0 rfl ?_
                      refine c_iload_n G dX12_readPart_124 rfl 1 rfl ?_
                      refine c_iload_n G dX12_readPart_125 rfl 2 rfl ?_
                      refine c_iconst G (nI 1) dX12_readPart_126 kI_1 ?_
                      refine c_iadd G dX12_readPart_127 ?_
                      refine c_callV_I (d := dd) (rest := []) G [.int a1, .int (a2 + (nI 1))] yv_X12_readSum ml_X12_273 (by omega) (by decide) rfl rfl (Nat.le_of_ble_eq_true rfl) h_a0 (fun q hq => hrc a0 a1 (a2 + (nI 1)) q11.2 q h_a0 hq) dX12_readPart_128 (fun q12 _ => ?_)
                      refine c_if_eq (tgt := 147) G dX12_readPart_131 (by decide) (fun _ => ?_) (fun _ => ?_)
                      · skip
                        exact c_weak _ [0] rfl (hJ147 q12.2)
                      · skip
                        refine c_aload_n G dX12_readPart_134 rfl 0 rfl ?_
                        refine c_bipush G (nI 41) dX12_readPart_135 kB_41 ?_
                        refine c_callV_I (d := 2) (rest := []) G [.int (nI 41)] yv_X12_eats ml_X12_243 (by omega) (by decide) rfl rfl (Nat.le_of_ble_eq_true rfl) h_a0 (fun q hq => con_X12_eats h_a0 hq) dX12_readPart_137 (fun q13 _ => ?_)
                        refine c_if_eq (tgt := 147) G dX12_readPart_140 (by decide) (fun _ => ?_) (fun _ => ?_)
                        · skip
                          exact c_weak _ [0] rfl (hJ147 q13.2)
                        · skip
                          refine c_iconst G (nI 1) dX12_readPart_143 kI_1 ?_
                          refine c_goto (tgt := 148) G dX12_readPart_144 (by decide) ?_
                          exact c_weak _ [0] rfl (hJ148 ((nI 1), q13.2))
    · skip
      refine c_aload_n G dX12_readPart_22 rfl 0 rfl ?_
      refine c_getI G fl_X12_267 h_a0 rfl dX12_readPart_23 ?_
      refine c_bipush G (nI 24) dX12_readPart_26 kB_24 ?_
      refine c_icmp_ne (tgt := 38) G dX12_readPart_28 (by decide) (fun _ => ?_) (fun _ => ?_)
      · skip
        refine c_aload_n G dX12_readPart_31 rfl 0 rfl ?_
        refine c_bipush G (nI 6) dX12_readPart_32 kB_6 ?_
        refine c_callV_I (d := 0) (rest := []) G [.int (nI 6)] yv_X12_bad ml_X12_218 (by omega) (by decide) rfl rfl (Nat.le_of_ble_eq_true rfl) h_a0 (fun q hq => con_X12_bad h_a0 hq) dX12_readPart_34 (fun q14 _ => ?_)
        exact c_zret G hQ dX12_readPart_37
      · skip
        refine c_aload_n G dX12_readPart_38 rfl 0 rfl ?_
        refine c_dup G dX12_readPart_39 rfl ?_
        refine c_getI G fl_X12_267 h_a0 rfl dX12_readPart_40 ?_
        refine c_iconst G (nI 1) dX12_readPart_43 kI_1 ?_
        refine c_iadd G dX12_readPart_44 ?_
        refine c_putI G fp_X12_267 h_a0 rfl dX12_readPart_45 (fun M6 _ => ?_)
        refine c_aload_n G dX12_readPart_48 rfl 0 rfl ?_
        refine c_iconst G (nI 1) dX12_readPart_49 kI_1 ?_
        refine c_iconst G (nI 0) dX12_readPart_50 kI_0 ?_
        refine c_callV_V (d := 0) (rest := []) G [.int (nI 1), .int (nI 0)] yv_X12_codes ml_X12_283 (by omega) (by decide) rfl rfl (Nat.le_of_ble_eq_true rfl) h_a0 (fun q hq => con_X12_codes h_a0 hq) dX12_readPart_51 (fun M7 _ => ?_)
        refine c_aload_n G dX12_readPart_54 rfl 0 rfl ?_
        refine c_callV_V (d := 1) (rest := []) G [] yv_X12_go ml_X12_221 (by omega) (by decide) rfl rfl (Nat.le_of_ble_eq_true rfl) h_a0 (fun q hq => con_X12_go h_a0 hq) dX12_readPart_55 (fun M8 _ => ?_)
        refine c_iconst G (nI 1) dX12_readPart_58 kI_1 ?_
        exact c_zret G hQ dX12_readPart_59
set_option maxHeartbeats 4000000 in
set_option maxRecDepth 100000 in
theorem con_X12_joint {w : Wp} {N : Nat} {a0 : Nat} {M : Mm} {q : Int32} (h_a0 : lay a0 = (5, 12)) (hq : D_X12_joint N a0 M = some q) : Con w 3 yX12_joint cX12_joint 1 (some .int) [.ref (wB w + pz (a0))] M ((encPI M) q) := by
  refine Con.of (encPI M) q _ hq (by decide) (Nat.le_of_ble_eq_true rfl) ?_
  intro X G Q hQ
  have G : Good w X cX12_joint 1 RX12 (some .int) 3 := G
  refine c_weak [(0, .ref (wB w + pz (a0)))] [0] rfl ?_
  rw [D_X12_joint]
  refine c_aload_n G dX12_joint_0 rfl 0 rfl ?_
  refine c_bipush G (nI 6) dX12_joint_1 kB_6 ?_
  refine c_callV_PI (d := 2) (rest := []) G [.int (nI 6)] yv_X12_isWord ml_X12_236 (by omega) (by decide) rfl rfl (Nat.le_of_ble_eq_true rfl) h_a0 (fun q hq => con_X12_isWord h_a0 hq) dX12_joint_3 (fun q1 _ => ?_)
  refine c_if_eq (tgt := 11) G dX12_joint_6 (by decide) (fun _ => ?_) (fun _ => ?_)
  · skip
    refine c_aload_n G dX12_joint_11 rfl 0 rfl ?_
    refine c_bipush G (nI 7) dX12_joint_12 kB_7 ?_
    refine c_callV_PI (d := 2) (rest := []) G [.int (nI 7)] yv_X12_isWord ml_X12_236 (by omega) (by decide) rfl rfl (Nat.le_of_ble_eq_true rfl) h_a0 (fun q hq => con_X12_isWord h_a0 hq) dX12_joint_14 (fun q2 _ => ?_)
    refine c_if_eq (tgt := 22) G dX12_joint_17 (by decide) (fun _ => ?_) (fun _ => ?_)
    · skip
      refine c_aload_n G dX12_joint_22 rfl 0 rfl ?_
      refine c_bipush G (nI 43) dX12_joint_23 kB_43 ?_
      refine c_callV_PI (d := 0) (rest := []) G [.int (nI 43)] yv_X12_isSign ml_X12_215 (by omega) (by decide) rfl rfl (Nat.le_of_ble_eq_true rfl) h_a0 (fun q hq => con_X12_isSign h_a0 hq) dX12_joint_25 (fun q3 _ => ?_)
      refine c_jn (ej := fun (p76 : Unit) => [(0, .ref (wB w + pz (a0)))]) (sj := fun p76 => []) (mj := fun p76 => M) (pj := 76) (fun p76 => ?_) (fun J1 hJ76 => ?_)
      · skip
        refine c_aload_n G dX12_joint_76 rfl 0 rfl ?_
        refine c_getI G fl_X12_198 h_a0 rfl dX12_joint_77 ?_
        refine c_goto (tgt := 84) G dX12_joint_80 (by decide) ?_
        exact c_iretP G hQ dX12_joint_84
      · skip
        refine c_if_ne (tgt := 76) G dX12_joint_28 (by decide) (fun _ => ?_) (fun _ => ?_)
        · skip
          refine c_aload_n G dX12_joint_31 rfl 0 rfl ?_
          refine c_bipush G (nI 45) dX12_joint_32 kB_45 ?_
          refine c_callV_PI (d := 0) (rest := []) G [.int (nI 45)] yv_X12_isSign ml_X12_215 (by omega) (by decide) rfl rfl (Nat.le_of_ble_eq_true rfl) h_a0 (fun q hq => con_X12_isSign h_a0 hq) dX12_joint_34 (fun q4 _ => ?_)
          refine c_if_ne (tgt := 76) G dX12_joint_37 (by decide) (fun _ => ?_) (fun _ => ?_)
          · skip
            refine c_aload_n G dX12_joint_40 rfl 0 rfl ?_
            refine c_bipush G (nI 42) dX12_joint_41 kB_42 ?_
            refine c_callV_PI (d := 0) (rest := []) G [.int (nI 42)] yv_X12_isSign ml_X12_215 (by omega) (by decide) rfl rfl (Nat.le_of_ble_eq_true rfl) h_a0 (fun q hq => con_X12_isSign h_a0 hq) dX12_joint_43 (fun q5 _ => ?_)
            refine c_if_ne (tgt := 76) G dX12_joint_46 (by decide) (fun _ => ?_) (fun _ => ?_)
            · skip
              refine c_aload_n G dX12_joint_49 rfl 0 rfl ?_
              refine c_bipush G (nI 124) dX12_joint_50 kB_124 ?_
              refine c_callV_PI (d := 0) (rest := []) G [.int (nI 124)] yv_X12_isSign ml_X12_215 (by omega) (by decide) rfl rfl (Nat.le_of_ble_eq_true rfl) h_a0 (fun q hq => con_X12_isSign h_a0 hq) dX12_joint_52 (fun q6 _ => ?_)
              refine c_if_ne (tgt := 76) G dX12_joint_55 (by decide) (fun _ => ?_) (fun _ => ?_)
              · skip
                refine c_aload_n G dX12_joint_58 rfl 0 rfl ?_
                refine c_bipush G (nI 38) dX12_joint_59 kB_38 ?_
                refine c_callV_PI (d := 0) (rest := []) G [.int (nI 38)] yv_X12_isSign ml_X12_215 (by omega) (by decide) rfl rfl (Nat.le_of_ble_eq_true rfl) h_a0 (fun q hq => con_X12_isSign h_a0 hq) dX12_joint_61 (fun q7 _ => ?_)
                refine c_if_ne (tgt := 76) G dX12_joint_64 (by decide) (fun _ => ?_) (fun _ => ?_)
                · skip
                  refine c_aload_n G dX12_joint_67 rfl 0 rfl ?_
                  refine c_bipush G (nI 60) dX12_joint_68 kB_60 ?_
                  refine c_callV_PI (d := 0) (rest := []) G [.int (nI 60)] yv_X12_isSign ml_X12_215 (by omega) (by decide) rfl rfl (Nat.le_of_ble_eq_true rfl) h_a0 (fun q hq => con_X12_isSign h_a0 hq) dX12_joint_70 (fun q8 _ => ?_)
                  refine c_if_eq (tgt := 83) G dX12_joint_73 (by decide) (fun _ => ?_) (fun _ => ?_)
                  · skip
                    refine c_iconst G m1 dX12_joint_83 kI_m1 ?_
                    exact c_iretP G hQ dX12_joint_84
                  · skip
                    exact c_weak _ [0] rfl (hJ76 ())
                · skip
                  exact c_weak _ [0] rfl (hJ76 ())
              · skip
                exact c_weak _ [0] rfl (hJ76 ())
            · skip
              exact c_weak _ [0] rfl (hJ76 ())
          · skip
            exact c_weak _ [0] rfl (hJ76 ())
        · skip
          exact c_weak _ [0] rfl (hJ76 ())
    · skip
      refine c_iconst G (nI 5) dX12_joint_20 kI_5 ?_
      exact c_iretP G hQ dX12_joint_21
  · skip
    refine c_iconst G (nI 4) dX12_joint_9 kI_4 ?_
    exact c_iretP G hQ dX12_joint_10
set_option maxHeartbeats 4000000 in
set_option maxRecDepth 100000 in
theorem cl_X12_readSum_16 {w : Wp} {rc : Nat → Int32 → Int32 → Mm → Option (Int32 × Mm)} {X : Cx} {Q : State → Prop} {ρ : Int32 × Mm} {dd : Nat} (G : Good w X cX12_readSum 4 RX12 (some .boolean) (dd + 2)) (hQ : Q = MQ (xL X) (Qd w (encI ρ)) (xA X) (xS X) (xk X) (xs X) (Aw w)) (hdd : 5 ≤ dd) (hrc : ∀ (b0 : Nat) (b1 : Int32) (b2 : Int32) (M : Mm) (q : Int32 × Mm), lay b0 = (5, 12) → rc b0 b1 b2 M = some q → Con w dd yX12_readSum cX12_readSum 4 (some .boolean) [.ref (wB w + pz (b0)), .int b1, .int b2] M (encI q)) {N : Nat} {a0 : Nat} {a1 : Int32} {a2 : Int32} (h_a0 : lay a0 = (5, 12)) : ∀ (n : Nat) (l3_1 : Int32) (M1 : Mm), Cov w X Q ρ some 4 16 [(0, .ref (wB w + pz (a0))), (1, .int a1), (2, .int a2), (3, .int l3_1)] [] M1 (L_X12_readSum_16 N a0 rc a1 a2 n l3_1 M1) := by
  intro n
  induction n with
  | zero => intro l3_1 M1; exact c_none
  | succ n ih =>
    intro l3_1 M1
    rw [L_X12_readSum_16]
    refine c_iload_n G dX12_readSum_16 rfl 3 rfl ?_
    refine c_iconst G m1 dX12_readSum_17 kI_m1 ?_
    refine c_icmp_eq (tgt := 50) G dX12_readSum_18 (by decide) (fun _ => ?_) (fun _ => ?_)
    · skip
      refine c_iconst G (nI 1) dX12_readSum_50 kI_1 ?_
      exact c_zret G hQ dX12_readSum_51
    · skip
      refine c_aload_n G dX12_readSum_21 rfl 0 rfl ?_
      refine c_callV_V (d := 1) (rest := []) G [] yv_X12_go ml_X12_221 (by omega) (by decide) rfl rfl (Nat.le_of_ble_eq_true rfl) h_a0 (fun q hq => con_X12_go h_a0 hq) dX12_readSum_22 (fun M2 _ => ?_)
      refine c_aload_n G dX12_readSum_25 rfl 0 rfl ?_
      refine c_iload_n G dX12_readSum_26 rfl 1 rfl ?_
      refine c_iload_n G dX12_readSum_27 rfl 2 rfl ?_
      refine c_callV_I (d := (dd + 1)) (rest := []) G [.int a1, .int a2] yv_X12_readPart ml_X12_276 (by omega) (by decide) rfl rfl (Nat.le_of_ble_eq_true rfl) h_a0 (fun q hq => con_X12_readPart hdd hrc h_a0 hq) dX12_readSum_28 (fun q3 _ => ?_)
      refine c_if_ne (tgt := 36) G dX12_readSum_31 (by decide) (fun _ => ?_) (fun _ => ?_)
      · skip
        refine c_iconst G (nI 0) dX12_readSum_34 kI_0 ?_
        exact c_zret G hQ dX12_readSum_35
      · skip
        refine c_aload_n G dX12_readSum_36 rfl 0 rfl ?_
        refine c_iload_n G dX12_readSum_37 rfl 3 rfl ?_
        refine c_iconst G (nI 0) dX12_readSum_38 kI_0 ?_
        refine c_callV_V (d := 0) (rest := []) G [.int l3_1, .int (nI 0)] yv_X12_codes ml_X12_283 (by omega) (by decide) rfl rfl (Nat.le_of_ble_eq_true rfl) h_a0 (fun q hq => con_X12_codes h_a0 hq) dX12_readSum_39 (fun M3 _ => ?_)
        refine c_aload_n G dX12_readSum_42 rfl 0 rfl ?_
        refine c_callV_PI (d := 3) (rest := []) G [] yv_X12_joint ml_X12_279 (by omega) (by decide) rfl rfl (Nat.le_of_ble_eq_true rfl) h_a0 (fun q hq => con_X12_joint h_a0 hq) dX12_readSum_43 (fun q4 _ => ?_)
        refine c_istore_n G [(3, .int q4), (0, .ref (wB w + pz (a0))), (1, .int a1), (2, .int a2)] dX12_readSum_46 rfl (by decide) rfl ?_
        refine c_goto (tgt := 16) G dX12_readSum_47 (by decide) ?_
        exact c_weak _ [1, 2, 3, 0] rfl (ih q4 M3)
set_option maxHeartbeats 4000000 in
set_option maxRecDepth 100000 in
theorem conB_X12_readSum {w : Wp} {N : Nat} {dd : Nat} {rc : Nat → Int32 → Int32 → Mm → Option (Int32 × Mm)} {a0 : Nat} {a1 : Int32} {a2 : Int32} {M : Mm} {q : Int32 × Mm} (hdd : 5 ≤ dd) (hrc : ∀ (b0 : Nat) (b1 : Int32) (b2 : Int32) (M : Mm) (q : Int32 × Mm), lay b0 = (5, 12) → rc b0 b1 b2 M = some q → Con w dd yX12_readSum cX12_readSum 4 (some .boolean) [.ref (wB w + pz (b0)), .int b1, .int b2] M (encI q)) (h_a0 : lay a0 = (5, 12)) (hq : DB_X12_readSum N rc a0 a1 a2 M = some q) : Con w (dd + 2) yX12_readSum cX12_readSum 4 (some .boolean) [.ref (wB w + pz (a0)), .int a1, .int a2] M (encI q) := by
  refine Con.of encI q _ hq (by decide) (Nat.le_of_ble_eq_true rfl) ?_
  intro X G Q hQ
  have G : Good w X cX12_readSum 4 RX12 (some .boolean) (dd + 2) := G
  refine c_weak [(0, .ref (wB w + pz (a0))), (1, .int a1), (2, .int a2)] [0, 1, 2] rfl ?_
  rw [DB_X12_readSum]
  refine c_aload_n G dX12_readSum_0 rfl 0 rfl ?_
  refine c_iload_n G dX12_readSum_1 rfl 1 rfl ?_
  refine c_iload_n G dX12_readSum_2 rfl 2 rfl ?_
  refine c_callV_I (d := (dd + 1)) (rest := []) G [.int a1, .int a2] yv_X12_readPart ml_X12_276 (by omega) (by decide) rfl rfl (Nat.le_of_ble_eq_true rfl) h_a0 (fun q hq => con_X12_readPart hdd hrc h_a0 hq) dX12_readSum_3 (fun q1 _ => ?_)
  refine c_if_ne (tgt := 11) G dX12_readSum_6 (by decide) (fun _ => ?_) (fun _ => ?_)
  · skip
    refine c_iconst G (nI 0) dX12_readSum_9 kI_0 ?_
    exact c_zret G hQ dX12_readSum_10
  · skip
    refine c_aload_n G dX12_readSum_11 rfl 0 rfl ?_
    refine c_callV_PI (d := 3) (rest := []) G [] yv_X12_joint ml_X12_279 (by omega) (by decide) rfl rfl (Nat.le_of_ble_eq_true rfl) h_a0 (fun q hq => con_X12_joint h_a0 hq) dX12_readSum_12 (fun q2 _ => ?_)
    refine c_istore_n G [(3, .int q2), (0, .ref (wB w + pz (a0))), (1, .int a1), (2, .int a2)] dX12_readSum_15 rfl (by decide) rfl ?_
    refine c_weak _ [1, 2, 3, 0] rfl (cl_X12_readSum_16 G hQ hdd hrc  h_a0 N q2 q1.2)
theorem con_X12_readSum_f {w : Wp} {N : Nat} : ∀ (fu : Nat) (a0 : Nat) (a1 : Int32) (a2 : Int32) (M : Mm) (q : Int32 × Mm), lay a0 = (5, 12) → D_X12_readSum N fu a0 a1 a2 M = some q → Con w (5 + 2 * fu) yX12_readSum cX12_readSum 4 (some .boolean) [.ref (wB w + pz (a0)), .int a1, .int a2] M (encI q) := by
  intro fu
  induction fu with
  | zero => intro a0 a1 a2 M q h_a0 h; cases h
  | succ fu ih =>
    intro a0 a1 a2 M q h_a0 h
    exact conB_X12_readSum (dd := 5 + 2 * fu) (by omega) (fun a0 a1 a2 M q h_a0 h => ih a0 a1 a2 M q h_a0 h) h_a0 h
theorem con_X12_readSum {w : Wp} {N : Nat} {a0 : Nat} {a1 : Int32} {a2 : Int32} {M : Mm} {q : Int32 × Mm} (h_a0 : lay a0 = (5, 12)) (hq : D_X12_readSum N 8 a0 a1 a2 M = some q) : Con w 21 yX12_readSum cX12_readSum 4 (some .boolean) [.ref (wB w + pz (a0)), .int a1, .int a2] M (encI q) := con_X12_readSum_f 8 a0 a1 a2 M q h_a0 hq
set_option maxHeartbeats 4000000 in
set_option maxRecDepth 100000 in
theorem con_X12_readRule {w : Wp} {N : Nat} {a0 : Nat} {M : Mm} {q : Int32 × Mm} (h_a0 : lay a0 = (5, 12)) (hq : D_X12_readRule N a0 M = some q) : Con w 22 yX12_readRule cX12_readRule 4 (some .boolean) [.ref (wB w + pz (a0))] M (encI q) := by
  refine Con.of encI q _ hq (by decide) (Nat.le_of_ble_eq_true rfl) ?_
  intro X G Q hQ
  have G : Good w X cX12_readRule 4 RX12 (some .boolean) 22 := G
  refine c_weak [(0, .ref (wB w + pz (a0)))] [0] rfl ?_
  rw [D_X12_readRule]
  refine c_aload_n G dX12_readRule_0 rfl 0 rfl ?_
  refine c_callV_V (d := 1) (rest := []) G [] yv_X12_go ml_X12_221 (by omega) (by decide) rfl rfl (Nat.le_of_ble_eq_true rfl) h_a0 (fun q hq => con_X12_go h_a0 hq) dX12_readRule_1 (fun M1 _ => ?_)
  refine c_aload_n G dX12_readRule_4 rfl 0 rfl ?_
  refine c_callV_PI (d := 2) (rest := []) G [] yv_X12_isName ml_X12_224 (by omega) (by decide) rfl rfl (Nat.le_of_ble_eq_true rfl) h_a0 (fun q hq => con_X12_isName h_a0 hq) dX12_readRule_5 (fun q1 _ => ?_)
  refine c_if_ne (tgt := 17) G dX12_readRule_8 (by decide) (fun _ => ?_) (fun _ => ?_)
  · skip
    refine c_aload_n G dX12_readRule_11 rfl 0 rfl ?_
    refine c_iconst G (nI 2) dX12_readRule_12 kI_2 ?_
    refine c_callV_I (d := 0) (rest := []) G [.int (nI 2)] yv_X12_bad ml_X12_218 (by omega) (by decide) rfl rfl (Nat.le_of_ble_eq_true rfl) h_a0 (fun q hq => con_X12_bad h_a0 hq) dX12_readRule_13 (fun q2 _ => ?_)
    exact c_zret G hQ dX12_readRule_16
  · skip
    refine c_aload_n G dX12_readRule_17 rfl 0 rfl ?_
    refine c_getF G fl_X12_23 h_a0 rfl dX12_readRule_18 ?_
    refine c_bipush G (nI 8) dX12_readRule_21 kB_8 ?_
    refine c_aload_n G dX12_readRule_23 rfl 0 rfl ?_
    refine c_getF G fl_X12_16 h_a0 rfl dX12_readRule_24 ?_
    refine c_iconst G (nI 1) dX12_readRule_27 kI_1 ?_
    refine c_iald G (lf h_a0 2 rfl) dX12_readRule_28 (fun v1 _ => ?_)
    refine c_aload_n G dX12_readRule_29 rfl 0 rfl ?_
    refine c_getJ G fl_X12_181 h_a0 rfl dX12_readRule_30 ?_
    refine c_callS_PI (d := 0) (rest := []) G [.ref (wB w + pz ((a0 + 5))), .int (nI 8), .int v1, .long (M1.2.1 a0 18)] ys_X12_findIn ml_X12_232 (by omega) (by decide) rfl rfl (Nat.le_of_ble_eq_true rfl) (fun q hq => con_X12_findIn (ll (lf h_a0 4 rfl)) hq) dX12_readRule_33 (fun q3 _ => ?_)
    refine c_istore_n G [(1, .int q3), (0, .ref (wB w + pz (a0)))] dX12_readRule_36 rfl (by decide) rfl ?_
    refine c_iload_n G dX12_readRule_37 rfl 0 rfl ?_
    refine c_iconst G m1 dX12_readRule_38 kI_m1 ?_
    refine c_icmp_ne (tgt := 48) G dX12_readRule_39 (by decide) (fun _ => ?_) (fun _ => ?_)
    · skip
      refine c_aload_n G dX12_readRule_42 rfl 1 rfl ?_
      refine c_iconst G (nI 3) dX12_readRule_43 kI_3 ?_
      refine c_callV_I (d := 0) (rest := []) G [.int (nI 3)] yv_X12_bad ml_X12_218 (by omega) (by decide) rfl rfl (Nat.le_of_ble_eq_true rfl) h_a0 (fun q hq => con_X12_bad h_a0 hq) dX12_readRule_44 (fun q4 _ => ?_)
      exact c_zret G hQ dX12_readRule_47
    · skip
      refine c_aload_n G dX12_readRule_48 rfl 1 rfl ?_
      refine c_callV_V (d := 1) (rest := []) G [] yv_X12_go ml_X12_221 (by omega) (by decide) rfl rfl (Nat.le_of_ble_eq_true rfl) h_a0 (fun q hq => con_X12_go h_a0 hq) dX12_readRule_49 (fun M2 _ => ?_)
      refine c_aload_n G dX12_readRule_52 rfl 1 rfl ?_
      refine c_getI G fl_X12_174 h_a0 rfl dX12_readRule_53 ?_
      refine c_iconst G (nI 3) dX12_readRule_56 kI_3 ?_
      refine c_icmp_eq (tgt := 66) G dX12_readRule_57 (by decide) (fun _ => ?_) (fun _ => ?_)
      · skip
        refine c_aload_n G dX12_readRule_66 rfl 1 rfl ?_
        refine c_getF G fl_X12_16 h_a0 rfl dX12_readRule_67 ?_
        refine c_iload_n G dX12_readRule_70 rfl 0 rfl ?_
        refine c_aload_n G dX12_readRule_71 rfl 1 rfl ?_
        refine c_getI G fl_X12_192 h_a0 rfl dX12_readRule_72 ?_
        refine c_callS_PI (d := 1) (rest := []) G [.ref (wB w + pz ((a0 + 3))), .int q3, .int (M2.1 a0 14)] ys_X12_isPosition ml_X12_257 (by omega) (by decide) rfl rfl (Nat.le_of_ble_eq_true rfl) (fun q hq => con_X12_isPosition (ll (lf h_a0 2 rfl)) hq) dX12_readRule_75 (fun q5 _ => ?_)
        refine c_if_ne (tgt := 87) G dX12_readRule_78 (by decide) (fun _ => ?_) (fun _ => ?_)
        · skip
          refine c_aload_n G dX12_readRule_81 rfl 1 rfl ?_
          refine c_iconst G (nI 3) dX12_readRule_82 kI_3 ?_
          refine c_callV_I (d := 0) (rest := []) G [.int (nI 3)] yv_X12_bad ml_X12_218 (by omega) (by decide) rfl rfl (Nat.le_of_ble_eq_true rfl) h_a0 (fun q hq => con_X12_bad h_a0 hq) dX12_readRule_83 (fun q6 _ => ?_)
          exact c_zret G hQ dX12_readRule_86
        · skip
          refine c_aload_n G dX12_readRule_87 rfl 1 rfl ?_
          refine c_getI G fl_X12_192 h_a0 rfl dX12_readRule_88 ?_
          refine c_let (fun l2_1 _ => ?_)
          refine c_istore_n G [(2, .int l2_1), (1, .int q3), (0, .ref (wB w + pz (a0)))] dX12_readRule_91 rfl (by decide) rfl ?_
          refine c_aload_n G dX12_readRule_92 rfl 2 rfl ?_
          refine c_callV_V (d := 1) (rest := []) G [] yv_X12_go ml_X12_221 (by omega) (by decide) rfl rfl (Nat.le_of_ble_eq_true rfl) h_a0 (fun q hq => con_X12_go h_a0 hq) dX12_readRule_93 (fun M3 _ => ?_)
          refine c_aload_n G dX12_readRule_96 rfl 2 rfl ?_
          refine c_iload_n G dX12_readRule_97 rfl 1 rfl ?_
          refine c_iload_n G dX12_readRule_98 rfl 0 rfl ?_
          refine c_callV_I (d := 3) (rest := []) G [.int q3, .int l2_1] yv_X12_readOccName ml_X12_261 (by omega) (by decide) rfl rfl (Nat.le_of_ble_eq_true rfl) h_a0 (fun q hq => con_X12_readOccName h_a0 hq) dX12_readRule_99 (fun q7 _ => ?_)
          refine c_if_ne (tgt := 107) G dX12_readRule_102 (by decide) (fun _ => ?_) (fun _ => ?_)
          · skip
            refine c_iconst G (nI 0) dX12_readRule_105 kI_0 ?_
            exact c_zret G hQ dX12_readRule_106
          · skip
            refine c_bipush G (nI 32) dX12_readRule_107 kB_32 ?_
            refine c_iload_n G dX12_readRule_109 rfl 1 rfl ?_
            refine c_imul G dX12_readRule_110 ?_
            refine c_aload_n G dX12_readRule_111 rfl 2 rfl ?_
            refine c_getI G fl_X12_254 h_a0 rfl dX12_readRule_112 ?_
            refine c_iadd G dX12_readRule_115 ?_
            refine c_let (fun l3_1 _ => ?_)
            refine c_istore_n G [(3, .int l3_1), (2, .int l2_1), (1, .int q3), (0, .ref (wB w + pz (a0)))] dX12_readRule_116 rfl (by decide) rfl ?_
            refine c_aload_n G dX12_readRule_117 rfl 3 rfl ?_
            refine c_getF G fl_X12_16 h_a0 rfl dX12_readRule_118 ?_
            refine c_iload_n G dX12_readRule_121 rfl 2 rfl ?_
            refine c_aload_n G dX12_readRule_122 rfl 3 rfl ?_
            refine c_getI G fl_X12_254 h_a0 rfl dX12_readRule_123 ?_
            refine c_callS_PI (d := 1) (rest := []) G [.ref (wB w + pz ((a0 + 3))), .int q3, .int (q7.2.1 a0 19)] ys_X12_canTell ml_X12_264 (by omega) (by decide) rfl rfl (Nat.le_of_ble_eq_true rfl) (fun q hq => con_X12_canTell (ll (lf h_a0 2 rfl)) hq) dX12_readRule_126 (fun q8 _ => ?_)
            refine c_if_eq (tgt := 146) G dX12_readRule_129 (by decide) (fun _ => ?_) (fun _ => ?_)
            · skip
              refine c_aload_n G dX12_readRule_146 rfl 3 rfl ?_
              refine c_iconst G (nI 5) dX12_readRule_147 kI_5 ?_
              refine c_callV_I (d := 0) (rest := []) G [.int (nI 5)] yv_X12_bad ml_X12_218 (by omega) (by decide) rfl rfl (Nat.le_of_ble_eq_true rfl) h_a0 (fun q hq => con_X12_bad h_a0 hq) dX12_readRule_148 (fun q9 _ => ?_)
              exact c_zret G hQ dX12_readRule_151
            · skip
              refine c_aload_n G dX12_readRule_132 rfl 3 rfl ?_
              refine c_getF G fl_X12_16 h_a0 rfl dX12_readRule_133 ?_
              refine c_sipush G (nI 1232) dX12_readRule_136 kS_1232 ?_
              refine c_iload_n G dX12_readRule_139 rfl 0 rfl ?_
              refine c_iadd G dX12_readRule_140 ?_
              refine c_iald G (lf h_a0 2 rfl) dX12_readRule_141 (fun v2 _ => ?_)
              refine c_iconst G (nI 1) dX12_readRule_142 kI_1 ?_
              refine c_icmp_ne (tgt := 152) G dX12_readRule_143 (by decide) (fun _ => ?_) (fun _ => ?_)
              · skip
                refine c_aload_n G dX12_readRule_146 rfl 3 rfl ?_
                refine c_iconst G (nI 5) dX12_readRule_147 kI_5 ?_
                refine c_callV_I (d := 0) (rest := []) G [.int (nI 5)] yv_X12_bad ml_X12_218 (by omega) (by decide) rfl rfl (Nat.le_of_ble_eq_true rfl) h_a0 (fun q hq => con_X12_bad h_a0 hq) dX12_readRule_148 (fun q10 _ => ?_)
                exact c_zret G hQ dX12_readRule_151
              · skip
                refine c_aload_n G dX12_readRule_152 rfl 3 rfl ?_
                refine c_callV_V (d := 1) (rest := []) G [] yv_X12_go ml_X12_221 (by omega) (by decide) rfl rfl (Nat.le_of_ble_eq_true rfl) h_a0 (fun q hq => con_X12_go h_a0 hq) dX12_readRule_153 (fun M4 _ => ?_)
                refine c_aload_n G dX12_readRule_156 rfl 3 rfl ?_
                refine c_bipush G (nI 61) dX12_readRule_157 kB_61 ?_
                refine c_callV_I (d := 2) (rest := []) G [.int (nI 61)] yv_X12_eats ml_X12_243 (by omega) (by decide) rfl rfl (Nat.le_of_ble_eq_true rfl) h_a0 (fun q hq => con_X12_eats h_a0 hq) dX12_readRule_159 (fun q11 _ => ?_)
                refine c_if_ne (tgt := 167) G dX12_readRule_162 (by decide) (fun _ => ?_) (fun _ => ?_)
                · skip
                  refine c_iconst G (nI 0) dX12_readRule_165 kI_0 ?_
                  exact c_zret G hQ dX12_readRule_166
                · skip
                  refine c_aload_n G dX12_readRule_167 rfl 3 rfl ?_
                  refine c_iconst G (nI 0) dX12_readRule_168 kI_0 ?_
                  refine c_putI G fp_X12_267 h_a0 rfl dX12_readRule_169 (fun M5 _ => ?_)
                  refine c_aload_n G dX12_readRule_172 rfl 3 rfl ?_
                  refine c_iconst G (nI 0) dX12_readRule_173 kI_0 ?_
                  refine c_putI G fp_X12_270 h_a0 rfl dX12_readRule_174 (fun M6 _ => ?_)
                  refine c_aload_n G dX12_readRule_177 rfl 3 rfl ?_
                  refine c_getF G fl_X12_16 h_a0 rfl dX12_readRule_178 ?_
                  refine c_bipush G (nI 80) dX12_readRule_181 kB_80 ?_
                  refine c_iload_n G dX12_readRule_183 rfl 0 rfl ?_
                  refine c_iadd G dX12_readRule_184 ?_
                  refine c_aload_n G dX12_readRule_185 rfl 3 rfl ?_
                  refine c_getF G fl_X12_16 h_a0 rfl dX12_readRule_186 ?_
                  refine c_iconst G (nI 3) dX12_readRule_189 kI_3 ?_
                  refine c_iald G (lf h_a0 2 rfl) dX12_readRule_190 (fun v3 _ => ?_)
                  refine c_iast G (lf h_a0 2 rfl) dX12_readRule_191 (fun M7 _ => ?_)
                  refine c_aload_n G dX12_readRule_192 rfl 3 rfl ?_
                  refine c_iload_n G dX12_readRule_193 rfl 2 rfl ?_
                  refine c_iconst G (nI 0) dX12_readRule_194 kI_0 ?_
                  refine c_callV_I (d := 21) (rest := []) G [.int q3, .int (nI 0)] yv_X12_readSum ml_X12_273 (by omega) (by decide) rfl rfl (Nat.le_of_ble_eq_true rfl) h_a0 (fun q hq => con_X12_readSum h_a0 hq) dX12_readRule_195 (fun q12 _ => ?_)
                  refine c_if_ne (tgt := 203) G dX12_readRule_198 (by decide) (fun _ => ?_) (fun _ => ?_)
                  · skip
                    refine c_iconst G (nI 0) dX12_readRule_201 kI_0 ?_
                    exact c_zret G hQ dX12_readRule_202
                  · skip
                    refine c_aload_n G dX12_readRule_203 rfl 3 rfl ?_
                    refine c_getF G fl_X12_16 h_a0 rfl dX12_readRule_204 ?_
                    refine c_sipush G (nI 464) dX12_readRule_207 kS_464 ?_
                    refine c_iload_n G dX12_readRule_210 rfl 0 rfl ?_
                    refine c_iadd G dX12_readRule_211 ?_
                    refine c_aload_n G dX12_readRule_212 rfl 3 rfl ?_
                    refine c_getF G fl_X12_16 h_a0 rfl dX12_readRule_213 ?_
                    refine c_iconst G (nI 3) dX12_readRule_216 kI_3 ?_
                    refine c_iald G (lf h_a0 2 rfl) dX12_readRule_217 (fun v4 _ => ?_)
                    refine c_iast G (lf h_a0 2 rfl) dX12_readRule_218 (fun M8 _ => ?_)
                    refine c_aload_n G dX12_readRule_219 rfl 3 rfl ?_
                    refine c_getF G fl_X12_16 h_a0 rfl dX12_readRule_220 ?_
                    refine c_sipush G (nI 848) dX12_readRule_223 kS_848 ?_
                    refine c_iload_n G dX12_readRule_226 rfl 0 rfl ?_
                    refine c_iadd G dX12_readRule_227 ?_
                    refine c_aload_n G dX12_readRule_228 rfl 3 rfl ?_
                    refine c_getI G fl_X12_270 h_a0 rfl dX12_readRule_229 ?_
                    refine c_iast G (lf h_a0 2 rfl) dX12_readRule_232 (fun M9 _ => ?_)
                    refine c_aload_n G dX12_readRule_233 rfl 3 rfl ?_
                    refine c_getF G fl_X12_16 h_a0 rfl dX12_readRule_234 ?_
                    refine c_sipush G (nI 1232) dX12_readRule_237 kS_1232 ?_
                    refine c_iload_n G dX12_readRule_240 rfl 0 rfl ?_
                    refine c_iadd G dX12_readRule_241 ?_
                    refine c_iconst G (nI 1) dX12_readRule_242 kI_1 ?_
                    refine c_iast G (lf h_a0 2 rfl) dX12_readRule_243 (fun M10 _ => ?_)
                    refine c_aload_n G dX12_readRule_244 rfl 3 rfl ?_
                    refine c_getF G fl_X12_16 h_a0 rfl dX12_readRule_245 ?_
                    refine c_iconst G (nI 2) dX12_readRule_248 kI_2 ?_
                    refine c_dup2 G dX12_readRule_249 rfl rfl ?_
                    refine c_iald G (lf h_a0 2 rfl) dX12_readRule_250 (fun v5 _ => ?_)
                    refine c_iconst G (nI 1) dX12_readRule_251 kI_1 ?_
                    refine c_iadd G dX12_readRule_252 ?_
                    refine c_iast G (lf h_a0 2 rfl) dX12_readRule_253 (fun M11 _ => ?_)
                    refine c_iconst G (nI 1) dX12_readRule_254 kI_1 ?_
                    exact c_zret G hQ dX12_readRule_255
      · skip
        refine c_aload_n G dX12_readRule_60 rfl 1 rfl ?_
        refine c_iconst G (nI 2) dX12_readRule_61 kI_2 ?_
        refine c_callV_I (d := 0) (rest := []) G [.int (nI 2)] yv_X12_bad ml_X12_218 (by omega) (by decide) rfl rfl (Nat.le_of_ble_eq_true rfl) h_a0 (fun q hq => con_X12_bad h_a0 hq) dX12_readRule_62 (fun q13 _ => ?_)
        exact c_zret G hQ dX12_readRule_65
