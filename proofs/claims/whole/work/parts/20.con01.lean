set_option maxHeartbeats 4000000 in
set_option maxRecDepth 100000 in
theorem cl_X5_fill_9 {w : Wp} {X : Cx} {Q : State → Prop} {ρ : Int32 × Mm} (G : Good w X cX5_fill 10 RX5 (some .int) 1) (hQ : Q = MQ (xL X) (Qd w (encI ρ)) (xA X) (xS X) (xk X) (xs X) (Aw w)) {a4 : Int32} {N : Nat} {a0 : Nat} {a1 : Nat} {a2 : Int32} {a5 : Int32} (h_a0 : lay a0 = (5, 5)) (h_a1 : lay a1 = (5, 3)) : ∀ (n : Nat) (l6_1 : Int32) (l7_1 : Int32) (l8_1 : Int32) (M1 : Mm), Cov w X Q ρ some 10 9 [(0, .ref (wB w + pz (a0))), (1, .ref (wB w + pz (a1))), (2, .int a2), (4, .int a4), (5, .int a5), (6, .int l6_1), (7, .int l7_1), (8, .int l8_1)] [] M1 (L_X5_fill_9 a4 N a0 a1 a2 a5 n l6_1 l7_1 l8_1 M1) := by
  intro n
  induction n with
  | zero => intro l6_1 l7_1 l8_1 M1; exact c_none
  | succ n ih =>
    intro l6_1 l7_1 l8_1 M1
    rw [L_X5_fill_9]
    refine c_iload G dX5_fill_9 7 rfl ?_
    refine c_bipush G (nI 8) dX5_fill_11 kB_8 ?_
    refine c_icmp_gt (tgt := 100) G dX5_fill_13 (by decide) (fun _ => ?_) (fun _ => ?_)
    · skip
      refine c_iload G dX5_fill_100 5 rfl ?_
      exact c_iret G hQ dX5_fill_102
    · skip
      refine c_iload G dX5_fill_16 6 rfl ?_
      refine c_if_eq (tgt := 100) G dX5_fill_18 (by decide) (fun _ => ?_) (fun _ => ?_)
      · skip
        refine c_iload G dX5_fill_100 5 rfl ?_
        exact c_iret G hQ dX5_fill_102
      · skip
        refine c_iconst G (nI 0) dX5_fill_21 kI_0 ?_
        refine c_istore G [(7, .int (nI 0)), (0, .ref (wB w + pz (a0))), (1, .ref (wB w + pz (a1))), (2, .int a2), (4, .int a4), (5, .int a5), (6, .int l6_1), (8, .int l8_1)] dX5_fill_22 (by decide) rfl ?_
        refine c_iconst G (nI 0) dX5_fill_24 kI_0 ?_
        refine c_istore G [(9, .int (nI 0)), (7, .int (nI 0)), (0, .ref (wB w + pz (a0))), (1, .ref (wB w + pz (a1))), (2, .int a2), (4, .int a4), (5, .int a5), (6, .int l6_1), (8, .int l8_1)] dX5_fill_25 (by decide) rfl ?_
        refine c_weak _ [2, 3, 4, 5, 6, 7, 1, 8, 0] rfl (cl_X5_fill_27 G hQ _ h_a0 h_a1 ?_ N l6_1 (nI 0) (nI 0) M1)
        · intro l6_4 l7_3 M4
          refine c_iinc G (fun y__ => [(8, .int y__), (0, .ref (wB w + pz (a0))), (1, .ref (wB w + pz (a1))), (2, .int a2), (4, .int a4), (5, .int a5), (6, .int l6_4), (7, .int l7_3)]) dX5_fill_94 7 rfl kI_1 (by decide) (fun _ => rfl) (fun l8_2 _ => ?_)
          refine c_goto (tgt := 9) G dX5_fill_97 (by decide) ?_
          exact c_weak _ [1, 2, 3, 4, 5, 6, 7, 0] rfl (ih l6_4 l7_3 l8_2 M4)
set_option maxHeartbeats 4000000 in
set_option maxRecDepth 100000 in
theorem con_X5_fill {w : Wp} {N : Nat} {a0 : Nat} {a1 : Nat} {a2 : Int32} {a3 : Int32} {a4 : Int32} {a5 : Int32} {M : Mm} {q : Int32 × Mm} (h_a0 : lay a0 = (5, 5)) (h_a1 : lay a1 = (5, 3)) (hq : D_X5_fill N a0 a1 a2 a3 a4 a5 M = some q) : Con w 1 yX5_fill cX5_fill 10 (some .int) [.ref (wB w + pz (a0)), .ref (wB w + pz (a1)), .int a2, .int a3, .int a4, .int a5] M (encI q) := by
  refine Con.of encI q _ hq (by decide) (Nat.le_of_ble_eq_true rfl) ?_
  intro X G Q hQ
  have G : Good w X cX5_fill 10 RX5 (some .int) 1 := G
  refine c_weak [(0, .ref (wB w + pz (a0))), (1, .ref (wB w + pz (a1))), (2, .int a2), (3, .int a3), (4, .int a4), (5, .int a5)] [0, 1, 2, 3, 4, 5] rfl ?_
  rw [D_X5_fill]
  refine c_iload_n G dX5_fill_0 rfl 3 rfl ?_
  refine c_istore G [(6, .int a3), (0, .ref (wB w + pz (a0))), (1, .ref (wB w + pz (a1))), (2, .int a2), (3, .int a3), (4, .int a4), (5, .int a5)] dX5_fill_1 (by decide) rfl ?_
  refine c_iconst G (nI 1) dX5_fill_3 kI_1 ?_
  refine c_istore G [(7, .int (nI 1)), (6, .int a3), (0, .ref (wB w + pz (a0))), (1, .ref (wB w + pz (a1))), (2, .int a2), (3, .int a3), (4, .int a4), (5, .int a5)] dX5_fill_4 (by decide) rfl ?_
  refine c_iconst G (nI 0) dX5_fill_6 kI_0 ?_
  refine c_istore G [(8, .int (nI 0)), (7, .int (nI 1)), (6, .int a3), (0, .ref (wB w + pz (a0))), (1, .ref (wB w + pz (a1))), (2, .int a2), (3, .int a3), (4, .int a4), (5, .int a5)] dX5_fill_7 (by decide) rfl ?_
  refine c_weak _ [3, 4, 5, 7, 8, 2, 1, 0] rfl (cl_X5_fill_9 G hQ  h_a0 h_a1 N a3 (nI 1) (nI 0) M)
set_option maxHeartbeats 4000000 in
set_option maxRecDepth 100000 in
theorem cl_X5_orderOf_19 {w : Wp} {X : Cx} {Q : State → Prop} {ρ : Int32 × Mm} (G : Good w X cX5_orderOf 8 RX5 (some .int) 2) (hQ : Q = MQ (xL X) (Qd w (encI ρ)) (xA X) (xS X) (xk X) (xs X) (Aw w)) (kE76 : Int32 → Mm → Option (Int32 × Mm)) {N : Nat} {a1 : Nat} {a3 : Int32} {a0 : Nat} {a2 : Nat} (h_a1 : lay a1 = (5, 1)) (h_a0 : lay a0 = (5, 5)) (h_a2 : lay a2 = (5, 3)) (hE76 : ∀ (z5 : Int32), ∀ (Mz : Mm), Cov w X Q ρ some 8 76 [(0, .ref (wB w + pz (a0))), (1, .ref (wB w + pz (a1))), (3, .int a3), (5, .int z5)] [] Mz (kE76 z5 Mz)) : ∀ (n : Nat) (l4_2 : Int32) (l5_1 : Int32) (l6_1 : Int32) (M1 : Mm), Cov w X Q ρ some 8 19 [(0, .ref (wB w + pz (a0))), (1, .ref (wB w + pz (a1))), (2, .ref (wB w + pz (a2))), (3, .int a3), (4, .int l4_2), (5, .int l5_1), (6, .int l6_1)] [] M1 (L_X5_orderOf_19 kE76 N a1 a3 a0 a2 n l4_2 l5_1 l6_1 M1) := by
  intro n
  induction n with
  | zero => intro l4_2 l5_1 l6_1 M1; exact c_none
  | succ n ih =>
    intro l4_2 l5_1 l6_1 M1
    rw [L_X5_orderOf_19]
    refine c_iload G dX5_orderOf_19 6 rfl ?_
    refine c_bipush G (nI 16) dX5_orderOf_21 kB_16 ?_
    refine c_icmp_gt (tgt := 76) G dX5_orderOf_23 (by decide) (fun _ => ?_) (fun _ => ?_)
    · skip
      exact c_weak _ [0, 1, 3, 5] rfl (hE76 l5_1 M1)
    · skip
      refine c_iload G dX5_orderOf_26 4 rfl ?_
      refine c_if_eq (tgt := 76) G dX5_orderOf_28 (by decide) (fun _ => ?_) (fun _ => ?_)
      · skip
        exact c_weak _ [0, 1, 3, 5] rfl (hE76 l5_1 M1)
      · skip
        refine c_iload G dX5_orderOf_31 6 rfl ?_
        refine c_iconst G (nI 2) dX5_orderOf_33 kI_2 ?_
        refine c_irem G dX5_orderOf_34 (fun v1 _ => ?_)
        refine c_bj (ej := fun (p51 : Int32) => [(0, .ref (wB w + pz (a0))), (1, .ref (wB w + pz (a1))), (2, .ref (wB w + pz (a2))), (3, .int a3), (4, .int l4_2), (5, .int l5_1), (6, .int l6_1)]) (sj := fun p51 => [.int p51]) (mj := fun p51 => M1) (pj := 51) (fun p51 => ?_) (fun F hJ51 => ?_)
        · skip
          refine c_istore G [(7, .int p51), (0, .ref (wB w + pz (a0))), (1, .ref (wB w + pz (a1))), (2, .ref (wB w + pz (a2))), (3, .int a3), (4, .int l4_2), (5, .int l5_1), (6, .int l6_1)] dX5_orderOf_51 (by decide) rfl ?_
          refine c_aload_n G dX5_orderOf_53 rfl 1 rfl ?_
          refine c_aload_n G dX5_orderOf_54 rfl 3 rfl ?_
          refine c_iload_n G dX5_orderOf_55 rfl 4 rfl ?_
          refine c_iload G dX5_orderOf_56 5 rfl ?_
          refine c_iload G dX5_orderOf_58 0 rfl ?_
          refine c_iload G dX5_orderOf_60 7 rfl ?_
          refine c_callV_I (d := 1) (rest := []) G [.ref (wB w + pz (a2)), .int a3, .int l4_2, .int p51, .int l6_1] yv_X5_fill ml_X5_89 (by omega) (by decide) rfl rfl (Nat.le_of_ble_eq_true rfl) h_a0 (fun q hq => con_X5_fill h_a0 h_a2 hq) dX5_orderOf_62 (fun q3 _ => ?_)
          refine c_istore G [(4, .int q3.1), (7, .int p51), (0, .ref (wB w + pz (a0))), (1, .ref (wB w + pz (a1))), (2, .ref (wB w + pz (a2))), (3, .int a3), (5, .int l5_1), (6, .int l6_1)] dX5_orderOf_65 (by decide) rfl ?_
          refine c_iinc G (fun y__ => [(5, .int y__), (4, .int q3.1), (7, .int p51), (0, .ref (wB w + pz (a0))), (1, .ref (wB w + pz (a1))), (2, .ref (wB w + pz (a2))), (3, .int a3), (6, .int l6_1)]) dX5_orderOf_67 6 rfl kI_1 (by decide) (fun _ => rfl) (fun l5_2 _ => ?_)
          refine c_iinc G (fun y__ => [(6, .int y__), (5, .int l5_2), (4, .int q3.1), (7, .int p51), (0, .ref (wB w + pz (a0))), (1, .ref (wB w + pz (a1))), (2, .ref (wB w + pz (a2))), (3, .int a3)]) dX5_orderOf_70 7 rfl kI_1 (by decide) (fun _ => rfl) (fun l6_2 _ => ?_)
          refine c_goto (tgt := 19) G dX5_orderOf_73 (by decide) ?_
          exact c_weak _ [4, 5, 6, 7, 2, 1, 0] rfl (ih q3.1 l5_2 l6_2 q3.2)
        · skip
          refine c_if_ne (tgt := 46) G dX5_orderOf_35 (by decide) (fun _ => ?_) (fun _ => ?_)
          · skip
            refine c_aload_n G dX5_orderOf_38 rfl 1 rfl ?_
            refine c_iload_n G dX5_orderOf_39 rfl 3 rfl ?_
            refine c_callV_PI (d := 0) (rest := []) G [.int a3] yv_X1_outsOf ml_X5_86 (by omega) (by decide) rfl rfl (Nat.le_of_ble_eq_true rfl) h_a1 (fun q hq => con_X1_outsOf h_a1 hq) dX5_orderOf_40 (fun q4 _ => ?_)
            refine c_goto (tgt := 51) G dX5_orderOf_43 (by decide) ?_
            exact c_weak _ [0, 1, 2, 3, 4, 5, 6] rfl (hJ51 q4)
          · skip
            refine c_aload_n G dX5_orderOf_46 rfl 1 rfl ?_
            refine c_iload_n G dX5_orderOf_47 rfl 3 rfl ?_
            refine c_callV_PI (d := 0) (rest := []) G [.int a3] yv_X1_insOf ml_X5_82 (by omega) (by decide) rfl rfl (Nat.le_of_ble_eq_true rfl) h_a1 (fun q hq => con_X1_insOf h_a1 hq) dX5_orderOf_48 (fun q5 _ => ?_)
            exact c_weak _ [0, 1, 2, 3, 4, 5, 6] rfl (hJ51 q5)
set_option maxHeartbeats 4000000 in
set_option maxRecDepth 100000 in
theorem cl_X5_orderOf_91 {w : Wp} {X : Cx} {Q : State → Prop} {ρ : Int32 × Mm} (G : Good w X cX5_orderOf 8 RX5 (some .int) 2) (hQ : Q = MQ (xL X) (Qd w (encI ρ)) (xA X) (xS X) (xk X) (xs X) (Aw w)) {a1 : Nat} {a3 : Int32} {l6_3 : Int32} {a0 : Nat} (h_a1 : lay a1 = (5, 1)) (h_a0 : lay a0 = (5, 5)) : ∀ (n : Nat) (l7_1 : Int32) (M3 : Mm), Cov w X Q ρ some 8 91 [(0, .ref (wB w + pz (a0))), (1, .ref (wB w + pz (a1))), (3, .int a3), (6, .int l6_3), (7, .int l7_1)] [] M3 (L_X5_orderOf_91 a1 a3 l6_3 a0 n l7_1 M3) := by
  intro n
  induction n with
  | zero => intro l7_1 M3; exact c_none
  | succ n ih =>
    intro l7_1 M3
    rw [L_X5_orderOf_91]
    refine c_iload G dX5_orderOf_91 4 rfl ?_
    refine c_aload_n G dX5_orderOf_93 rfl 1 rfl ?_
    refine c_getF G fl_X5_76 h_a1 rfl dX5_orderOf_94 ?_
    refine c_iload_n G dX5_orderOf_97 rfl 2 rfl ?_
    refine c_iald G (lf h_a1 6 rfl) dX5_orderOf_98 (fun v3 _ => ?_)
    refine c_aload_n G dX5_orderOf_99 rfl 1 rfl ?_
    refine c_getF G fl_X5_79 h_a1 rfl dX5_orderOf_100 ?_
    refine c_iload_n G dX5_orderOf_103 rfl 2 rfl ?_
    refine c_iald G (lf h_a1 7 rfl) dX5_orderOf_104 (fun v4 _ => ?_)
    refine c_iadd G dX5_orderOf_105 ?_
    refine c_icmp_ge (tgt := 144) G dX5_orderOf_106 (by decide) (fun _ => ?_) (fun _ => ?_)
    · skip
      refine c_iload G dX5_orderOf_144 3 rfl ?_
      exact c_iret G hQ dX5_orderOf_146
    · skip
      refine c_aload_n G dX5_orderOf_109 rfl 0 rfl ?_
      refine c_getF G fl_X5_15 h_a0 rfl dX5_orderOf_110 ?_
      refine c_bipush G (nI 8) dX5_orderOf_113 kB_8 ?_
      refine c_iload_n G dX5_orderOf_115 rfl 2 rfl ?_
      refine c_imul G dX5_orderOf_116 ?_
      refine c_iload G dX5_orderOf_117 4 rfl ?_
      refine c_iadd G dX5_orderOf_119 ?_
      refine c_iload G dX5_orderOf_120 3 rfl ?_
      refine c_aload_n G dX5_orderOf_122 rfl 0 rfl ?_
      refine c_getF G fl_X5_15 h_a0 rfl dX5_orderOf_123 ?_
      refine c_bipush G (nI 8) dX5_orderOf_126 kB_8 ?_
      refine c_iload_n G dX5_orderOf_128 rfl 2 rfl ?_
      refine c_imul G dX5_orderOf_129 ?_
      refine c_iload G dX5_orderOf_130 4 rfl ?_
      refine c_iadd G dX5_orderOf_132 ?_
      refine c_iald G (lf h_a0 1 rfl) dX5_orderOf_133 (fun v5 _ => ?_)
      refine c_iconst G (nI 2) dX5_orderOf_134 kI_2 ?_
      refine c_idiv G dX5_orderOf_135 (fun v6 _ => ?_)
      refine c_isub G dX5_orderOf_136 ?_
      refine c_iast G (lf h_a0 1 rfl) dX5_orderOf_137 (fun M4 _ => ?_)
      refine c_iinc G (fun y__ => [(7, .int y__), (0, .ref (wB w + pz (a0))), (1, .ref (wB w + pz (a1))), (3, .int a3), (6, .int l6_3)]) dX5_orderOf_138 4 rfl kI_1 (by decide) (fun _ => rfl) (fun l7_2 _ => ?_)
      refine c_goto (tgt := 91) G dX5_orderOf_141 (by decide) ?_
      exact c_weak _ [1, 2, 3, 4, 0] rfl (ih l7_2 M4)
set_option maxHeartbeats 4000000 in
set_option maxRecDepth 100000 in
theorem con_X5_orderOf {w : Wp} {N : Nat} {a0 : Nat} {a1 : Nat} {a2 : Nat} {a3 : Int32} {M : Mm} {q : Int32 × Mm} (h_a0 : lay a0 = (5, 5)) (h_a1 : lay a1 = (5, 1)) (h_a2 : lay a2 = (5, 3)) (hq : D_X5_orderOf N a0 a1 a2 a3 M = some q) : Con w 2 yX5_orderOf cX5_orderOf 8 (some .int) [.ref (wB w + pz (a0)), .ref (wB w + pz (a1)), .ref (wB w + pz (a2)), .int a3] M (encI q) := by
  refine Con.of encI q _ hq (by decide) (Nat.le_of_ble_eq_true rfl) ?_
  intro X G Q hQ
  have G : Good w X cX5_orderOf 8 RX5 (some .int) 2 := G
  refine c_weak [(0, .ref (wB w + pz (a0))), (1, .ref (wB w + pz (a1))), (2, .ref (wB w + pz (a2))), (3, .int a3)] [0, 1, 2, 3] rfl ?_
  rw [D_X5_orderOf]
  refine c_aload_n G dX5_orderOf_0 rfl 1 rfl ?_
  refine c_iload_n G dX5_orderOf_1 rfl 3 rfl ?_
  refine c_callV_PI (d := 0) (rest := []) G [.int a3] yv_X1_insOf ml_X5_82 (by omega) (by decide) rfl rfl (Nat.le_of_ble_eq_true rfl) h_a1 (fun q hq => con_X1_insOf h_a1 hq) dX5_orderOf_2 (fun q1 _ => ?_)
  refine c_aload_n G dX5_orderOf_5 rfl 1 rfl ?_
  refine c_iload_n G dX5_orderOf_6 rfl 3 rfl ?_
  refine c_callV_PI (d := 0) (rest := [.int q1]) G [.int a3] yv_X1_outsOf ml_X5_86 (by omega) (by decide) rfl rfl (Nat.le_of_ble_eq_true rfl) h_a1 (fun q hq => con_X1_outsOf h_a1 hq) dX5_orderOf_7 (fun q2 _ => ?_)
  refine c_ior G dX5_orderOf_10 ?_
  refine c_let (fun l4_1 _ => ?_)
  refine c_istore G [(4, .int l4_1), (0, .ref (wB w + pz (a0))), (1, .ref (wB w + pz (a1))), (2, .ref (wB w + pz (a2))), (3, .int a3)] dX5_orderOf_11 (by decide) rfl ?_
  refine c_iconst G (nI 0) dX5_orderOf_13 kI_0 ?_
  refine c_istore G [(5, .int (nI 0)), (4, .int l4_1), (0, .ref (wB w + pz (a0))), (1, .ref (wB w + pz (a1))), (2, .ref (wB w + pz (a2))), (3, .int a3)] dX5_orderOf_14 (by decide) rfl ?_
  refine c_iconst G (nI 0) dX5_orderOf_16 kI_0 ?_
  refine c_istore G [(6, .int (nI 0)), (5, .int (nI 0)), (4, .int l4_1), (0, .ref (wB w + pz (a0))), (1, .ref (wB w + pz (a1))), (2, .ref (wB w + pz (a2))), (3, .int a3)] dX5_orderOf_17 (by decide) rfl ?_
  refine c_weak _ [3, 4, 5, 6, 2, 1, 0] rfl (cl_X5_orderOf_19 G hQ _ h_a1 h_a0 h_a2 ?_ N l4_1 (nI 0) (nI 0) M)
  · intro l5_3 M2
    refine c_iconst G (nI 1) dX5_orderOf_76 kI_1 ?_
    refine c_iload G dX5_orderOf_77 3 rfl ?_
    refine c_iconst G (nI 1) dX5_orderOf_79 kI_1 ?_
    refine c_iadd G dX5_orderOf_80 ?_
    refine c_iconst G (nI 2) dX5_orderOf_81 kI_2 ?_
    refine c_idiv G dX5_orderOf_82 (fun v2 _ => ?_)
    refine c_mmax G ml_X5_93 ys_J9_max_7cf53 (by omega) (Nat.le_of_ble_eq_true rfl) dX5_orderOf_83 ?_
    refine c_let (fun l6_3 _ => ?_)
    refine c_istore G [(6, .int l6_3), (0, .ref (wB w + pz (a0))), (1, .ref (wB w + pz (a1))), (3, .int a3), (5, .int l5_3)] dX5_orderOf_86 (by decide) rfl ?_
    refine c_iconst G (nI 0) dX5_orderOf_88 kI_0 ?_
    refine c_istore G [(7, .int (nI 0)), (6, .int l6_3), (0, .ref (wB w + pz (a0))), (1, .ref (wB w + pz (a1))), (3, .int a3), (5, .int l5_3)] dX5_orderOf_89 (by decide) rfl ?_
    refine c_weak _ [2, 3, 4, 1, 0] rfl (cl_X5_orderOf_91 G hQ  h_a1 h_a0 N (nI 0) M2)
set_option maxHeartbeats 4000000 in
set_option maxRecDepth 100000 in
theorem cl_X5_aheadOf_19 {w : Wp} {M : Mm} {X : Cx} {Q : State → Prop} {ρ : Int32} (G : Good w X cX5_aheadOf 8 RX5 (some .int) 0) (hQ : Q = MQ (xL X) (Qd w ((encPI M) ρ)) (xA X) (xS X) (xk X) (xs X) (Aw w)) {a1 : Nat} {a2 : Int32} {a0 : Nat} {v1 : Int32} {a3 : Int32} (h_a1 : lay a1 = (5, 1)) (h_a0 : lay a0 = (5, 5)) : ∀ (n : Nat) (l4_1 : Int32) (l6_1 : Int32), Cov w X Q ρ some 8 19 [(0, .ref (wB w + pz (a0))), (1, .ref (wB w + pz (a1))), (2, .int a2), (3, .int a3), (4, .int l4_1), (5, .int v1), (6, .int l6_1)] [] M (L_X5_aheadOf_19 a1 a2 M a0 v1 a3 n l4_1 l6_1) := by
  intro n
  induction n with
  | zero => intro l4_1 l6_1; exact c_none
  | succ n ih =>
    intro l4_1 l6_1
    rw [L_X5_aheadOf_19]
    refine c_iload G dX5_aheadOf_19 6 rfl ?_
    refine c_aload_n G dX5_aheadOf_21 rfl 1 rfl ?_
    refine c_getF G fl_X5_76 h_a1 rfl dX5_aheadOf_22 ?_
    refine c_iload_n G dX5_aheadOf_25 rfl 2 rfl ?_
    refine c_iald G (lf h_a1 6 rfl) dX5_aheadOf_26 (fun v2 _ => ?_)
    refine c_aload_n G dX5_aheadOf_27 rfl 1 rfl ?_
    refine c_getF G fl_X5_79 h_a1 rfl dX5_aheadOf_28 ?_
    refine c_iload_n G dX5_aheadOf_31 rfl 2 rfl ?_
    refine c_iald G (lf h_a1 7 rfl) dX5_aheadOf_32 (fun v3 _ => ?_)
    refine c_iadd G dX5_aheadOf_33 ?_
    refine c_icmp_ge (tgt := 101) G dX5_aheadOf_34 (by decide) (fun _ => ?_) (fun _ => ?_)
    · skip
      refine c_iload G dX5_aheadOf_101 4 rfl ?_
      exact c_iretP G hQ dX5_aheadOf_103
    · skip
      refine c_aload_n G dX5_aheadOf_37 rfl 0 rfl ?_
      refine c_getF G fl_X5_15 h_a0 rfl dX5_aheadOf_38 ?_
      refine c_bipush G (nI 8) dX5_aheadOf_41 kB_8 ?_
      refine c_iload_n G dX5_aheadOf_43 rfl 2 rfl ?_
      refine c_imul G dX5_aheadOf_44 ?_
      refine c_iload G dX5_aheadOf_45 6 rfl ?_
      refine c_iadd G dX5_aheadOf_47 ?_
      refine c_iald G (lf h_a0 1 rfl) dX5_aheadOf_48 (fun v4 _ => ?_)
      refine c_istore G [(7, .int v4), (0, .ref (wB w + pz (a0))), (1, .ref (wB w + pz (a1))), (2, .int a2), (3, .int a3), (4, .int l4_1), (5, .int v1), (6, .int l6_1)] dX5_aheadOf_49 (by decide) rfl ?_
      refine c_iload G dX5_aheadOf_51 0 rfl ?_
      refine c_iload G dX5_aheadOf_53 6 rfl ?_
      refine c_jn (ej := fun (p86 : Unit) => [(0, .ref (wB w + pz (a0))), (1, .ref (wB w + pz (a1))), (2, .int a2), (3, .int a3), (4, .int l4_1), (5, .int v1), (6, .int l6_1)]) (sj := fun p86 => []) (mj := fun p86 => M) (pj := 86) (fun p86 => ?_) (fun J1 hJ86 => ?_)
      · skip
        refine c_iload G dX5_aheadOf_86 4 rfl ?_
        refine c_iconst G (nI 1) dX5_aheadOf_88 kI_1 ?_
        refine c_iload G dX5_aheadOf_89 6 rfl ?_
        refine c_ishl G dX5_aheadOf_91 ?_
        refine c_ior G dX5_aheadOf_92 ?_
        refine c_let (fun l4_2 _ => ?_)
        refine c_istore G [(4, .int l4_2), (0, .ref (wB w + pz (a0))), (1, .ref (wB w + pz (a1))), (2, .int a2), (3, .int a3), (5, .int v1), (6, .int l6_1)] dX5_aheadOf_93 (by decide) rfl ?_
        refine c_iinc G (fun y__ => [(6, .int y__), (4, .int l4_2), (0, .ref (wB w + pz (a0))), (1, .ref (wB w + pz (a1))), (2, .int a2), (3, .int a3), (5, .int v1)]) dX5_aheadOf_95 6 rfl kI_1 (by decide) (fun _ => rfl) (fun l6_2 _ => ?_)
        refine c_goto (tgt := 19) G dX5_aheadOf_98 (by decide) ?_
        exact c_weak _ [2, 3, 4, 5, 1, 6, 0] rfl (ih l4_2 l6_2)
      · skip
        refine c_icmp_lt (tgt := 86) G dX5_aheadOf_55 (by decide) (fun _ => ?_) (fun _ => ?_)
        · skip
          exact c_weak _ [1, 2, 3, 4, 5, 6, 7] rfl (hJ86 ())
        · skip
          refine c_iload G dX5_aheadOf_58 0 rfl ?_
          refine c_iload G dX5_aheadOf_60 6 rfl ?_
          refine c_icmp_ne (tgt := 95) G dX5_aheadOf_62 (by decide) (fun _ => ?_) (fun _ => ?_)
          · skip
            refine c_iload_n G dX5_aheadOf_65 rfl 4 rfl ?_
            refine c_aload_n G dX5_aheadOf_66 rfl 2 rfl ?_
            refine c_getF G fl_X5_76 h_a1 rfl dX5_aheadOf_67 ?_
            refine c_iload_n G dX5_aheadOf_70 rfl 3 rfl ?_
            refine c_iald G (lf h_a1 6 rfl) dX5_aheadOf_71 (fun v5 _ => ?_)
            refine c_icmp_lt (tgt := 95) G dX5_aheadOf_72 (by decide) (fun _ => ?_) (fun _ => ?_)
            · skip
              refine c_iinc G (fun y__ => [(6, .int y__), (7, .int v4), (0, .ref (wB w + pz (a0))), (1, .ref (wB w + pz (a1))), (2, .int a2), (3, .int a3), (4, .int l4_1), (5, .int v1)]) dX5_aheadOf_95 7 rfl kI_1 (by decide) (fun _ => rfl) (fun l6_3 _ => ?_)
              refine c_goto (tgt := 19) G dX5_aheadOf_98 (by decide) ?_
              exact c_weak _ [2, 3, 4, 5, 6, 7, 0] rfl (ih l4_1 l6_3)
            · skip
              refine c_iload G dX5_aheadOf_75 7 rfl ?_
              refine c_aload_n G dX5_aheadOf_77 rfl 2 rfl ?_
              refine c_getF G fl_X5_76 h_a1 rfl dX5_aheadOf_78 ?_
              refine c_iload_n G dX5_aheadOf_81 rfl 3 rfl ?_
              refine c_iald G (lf h_a1 6 rfl) dX5_aheadOf_82 (fun v6 _ => ?_)
              refine c_icmp_ge (tgt := 95) G dX5_aheadOf_83 (by decide) (fun _ => ?_) (fun _ => ?_)
              · skip
                refine c_iinc G (fun y__ => [(6, .int y__), (7, .int v4), (0, .ref (wB w + pz (a0))), (1, .ref (wB w + pz (a1))), (2, .int a2), (3, .int a3), (4, .int l4_1), (5, .int v1)]) dX5_aheadOf_95 7 rfl kI_1 (by decide) (fun _ => rfl) (fun l6_4 _ => ?_)
                refine c_goto (tgt := 19) G dX5_aheadOf_98 (by decide) ?_
                exact c_weak _ [2, 3, 4, 5, 6, 7, 0] rfl (ih l4_1 l6_4)
              · skip
                exact c_weak _ [1, 2, 3, 4, 5, 6, 7] rfl (hJ86 ())
          · skip
            refine c_iinc G (fun y__ => [(6, .int y__), (7, .int v4), (0, .ref (wB w + pz (a0))), (1, .ref (wB w + pz (a1))), (2, .int a2), (3, .int a3), (4, .int l4_1), (5, .int v1)]) dX5_aheadOf_95 7 rfl kI_1 (by decide) (fun _ => rfl) (fun l6_5 _ => ?_)
            refine c_goto (tgt := 19) G dX5_aheadOf_98 (by decide) ?_
            exact c_weak _ [2, 3, 4, 5, 6, 7, 0] rfl (ih l4_1 l6_5)
set_option maxHeartbeats 4000000 in
set_option maxRecDepth 100000 in
theorem con_X5_aheadOf {w : Wp} {N : Nat} {a0 : Nat} {a1 : Nat} {a2 : Int32} {a3 : Int32} {M : Mm} {q : Int32} (h_a0 : lay a0 = (5, 5)) (h_a1 : lay a1 = (5, 1)) (hq : D_X5_aheadOf N a0 a1 a2 a3 M = some q) : Con w 0 yX5_aheadOf cX5_aheadOf 8 (some .int) [.ref (wB w + pz (a0)), .ref (wB w + pz (a1)), .int a2, .int a3] M ((encPI M) q) := by
  refine Con.of (encPI M) q _ hq (by decide) (Nat.le_of_ble_eq_true rfl) ?_
  intro X G Q hQ
  have G : Good w X cX5_aheadOf 8 RX5 (some .int) 0 := G
  refine c_weak [(0, .ref (wB w + pz (a0))), (1, .ref (wB w + pz (a1))), (2, .int a2), (3, .int a3)] [0, 1, 2, 3] rfl ?_
  rw [D_X5_aheadOf]
  refine c_iconst G (nI 0) dX5_aheadOf_0 kI_0 ?_
  refine c_istore G [(4, .int (nI 0)), (0, .ref (wB w + pz (a0))), (1, .ref (wB w + pz (a1))), (2, .int a2), (3, .int a3)] dX5_aheadOf_1 (by decide) rfl ?_
  refine c_aload_n G dX5_aheadOf_3 rfl 1 rfl ?_
  refine c_getF G fl_X5_15 h_a0 rfl dX5_aheadOf_4 ?_
  refine c_bipush G (nI 8) dX5_aheadOf_7 kB_8 ?_
  refine c_iload_n G dX5_aheadOf_9 rfl 3 rfl ?_
  refine c_imul G dX5_aheadOf_10 ?_
  refine c_iload_n G dX5_aheadOf_11 rfl 4 rfl ?_
  refine c_iadd G dX5_aheadOf_12 ?_
  refine c_iald G (lf h_a0 1 rfl) dX5_aheadOf_13 (fun v1 _ => ?_)
  refine c_istore G [(5, .int v1), (4, .int (nI 0)), (0, .ref (wB w + pz (a0))), (1, .ref (wB w + pz (a1))), (2, .int a2), (3, .int a3)] dX5_aheadOf_14 (by decide) rfl ?_
  refine c_iconst G (nI 0) dX5_aheadOf_16 kI_0 ?_
  refine c_istore G [(6, .int (nI 0)), (5, .int v1), (4, .int (nI 0)), (0, .ref (wB w + pz (a0))), (1, .ref (wB w + pz (a1))), (2, .int a2), (3, .int a3)] dX5_aheadOf_17 (by decide) rfl ?_
  refine c_weak _ [3, 4, 5, 6, 2, 1, 0] rfl (cl_X5_aheadOf_19 G hQ  h_a1 h_a0 N (nI 0) (nI 0))
set_option maxHeartbeats 4000000 in
set_option maxRecDepth 100000 in
theorem cl_X5_widen_3 {w : Wp} {X : Cx} {Q : State → Prop} {ρ : Mm} (G : Good w X cX5_widen 9 RX5 none 1) (hQ : Q = MQ (xL X) (Qd w (encV ρ)) (xA X) (xS X) (xk X) (xs X) (Aw w)) (kE135 : Mm → Option (Mm)) {a1 : Nat} {a3 : Int32} {N : Nat} {a0 : Nat} {a2 : Nat} (h_a1 : lay a1 = (5, 1)) (h_a0 : lay a0 = (5, 5)) (h_a2 : lay a2 = (5, 3)) (hE135 : ∀ (Mz : Mm), Cov w X Q ρ some 9 135 [(0, .ref (wB w + pz (a0))), (1, .ref (wB w + pz (a1))), (3, .int a3)] [] Mz (kE135 Mz)) : ∀ (n : Nat) (l4_1 : Int32) (M1 : Mm), Cov w X Q ρ some 9 3 [(0, .ref (wB w + pz (a0))), (1, .ref (wB w + pz (a1))), (2, .ref (wB w + pz (a2))), (3, .int a3), (4, .int l4_1)] [] M1 (L_X5_widen_3 kE135 a1 a3 N a0 a2 n l4_1 M1) := by
  intro n
  induction n with
  | zero => intro l4_1 M1; exact c_none
  | succ n ih =>
    intro l4_1 M1
    rw [L_X5_widen_3]
    refine c_iload G dX5_widen_3 4 rfl ?_
    refine c_bipush G (nI 8) dX5_widen_5 kB_8 ?_
    refine c_aload_n G dX5_widen_7 rfl 1 rfl ?_
    refine c_getF G fl_X5_65 h_a1 rfl dX5_widen_8 ?_
    refine c_iload_n G dX5_widen_11 rfl 3 rfl ?_
    refine c_iald G (lf h_a1 8 rfl) dX5_widen_12 (fun v1 _ => ?_)
    refine c_imul G dX5_widen_13 ?_
    refine c_icmp_ge (tgt := 135) G dX5_widen_14 (by decide) (fun _ => ?_) (fun _ => ?_)
    · skip
      exact c_weak _ [0, 1, 3] rfl (hE135 M1)
    · skip
      refine c_iload G dX5_widen_17 4 rfl ?_
      refine c_bipush G (nI 8) dX5_widen_19 kB_8 ?_
      refine c_idiv G dX5_widen_21 (fun v2 _ => ?_)
      refine c_istore G [(5, .int v2), (0, .ref (wB w + pz (a0))), (1, .ref (wB w + pz (a1))), (2, .ref (wB w + pz (a2))), (3, .int a3), (4, .int l4_1)] dX5_widen_22 (by decide) rfl ?_
      refine c_aload_n G dX5_widen_24 rfl 2 rfl ?_
      refine c_iload_n G dX5_widen_25 rfl 4 rfl ?_
      refine c_iload G dX5_widen_26 0 rfl ?_
      refine c_callV_PI (d := 0) (rest := []) G [.int a3, .int v2] yv_X1_side ml_X5_72 (by omega) (by decide) rfl rfl (Nat.le_of_ble_eq_true rfl) h_a1 (fun q hq => con_X1_side h_a1 hq) dX5_widen_28 (fun q1 _ => ?_)
      refine c_istore G [(6, .int q1), (5, .int v2), (0, .ref (wB w + pz (a0))), (1, .ref (wB w + pz (a1))), (2, .ref (wB w + pz (a2))), (3, .int a3), (4, .int l4_1)] dX5_widen_31 (by decide) rfl ?_
      refine c_aload_n G dX5_widen_33 rfl 2 rfl ?_
      refine c_getF G fl_X5_9 h_a0 rfl dX5_widen_34 ?_
      refine c_iload G dX5_widen_37 0 rfl ?_
      refine c_iald G (lf h_a0 0 rfl) dX5_widen_39 (fun v3 _ => ?_)
      refine c_bj (ej := fun (p71 : Int32) => [(0, .ref (wB w + pz (a0))), (1, .ref (wB w + pz (a1))), (2, .ref (wB w + pz (a2))), (3, .int a3), (4, .int l4_1), (5, .int v2), (6, .int q1)]) (sj := fun p71 => [.int p71]) (mj := fun p71 => M1) (pj := 71) (fun p71 => ?_) (fun F hJ71 => ?_)
      · skip
        refine c_istore G [(7, .int p71), (0, .ref (wB w + pz (a0))), (1, .ref (wB w + pz (a1))), (2, .ref (wB w + pz (a2))), (3, .int a3), (4, .int l4_1), (5, .int v2), (6, .int q1)] dX5_widen_71 (by decide) rfl ?_
        refine c_iload G dX5_widen_73 0 rfl ?_
        refine c_bj (ej := fun (p94 : Int32) => [(0, .ref (wB w + pz (a0))), (1, .ref (wB w + pz (a1))), (2, .ref (wB w + pz (a2))), (3, .int a3), (4, .int l4_1), (5, .int v2)]) (sj := fun p94 => [.int p94]) (mj := fun p94 => M1) (pj := 94) (fun p94 => ?_) (fun F hJ94 => ?_)
        · skip
          refine c_istore G [(8, .int p94), (0, .ref (wB w + pz (a0))), (1, .ref (wB w + pz (a1))), (2, .ref (wB w + pz (a2))), (3, .int a3), (4, .int l4_1), (5, .int v2)] dX5_widen_94 (by decide) rfl ?_
          refine c_aload_n G dX5_widen_96 rfl 1 rfl ?_
          refine c_getF G fl_X5_18 h_a0 rfl dX5_widen_97 ?_
          refine c_bipush G (nI 32) dX5_widen_100 kB_32 ?_
          refine c_iload_n G dX5_widen_102 rfl 4 rfl ?_
          refine c_imul G dX5_widen_103 ?_
          refine c_iload G dX5_widen_104 5 rfl ?_
          refine c_iadd G dX5_widen_106 ?_
          refine c_aload_n G dX5_widen_107 rfl 3 rfl ?_
          refine c_getF G fl_X5_106 h_a2 rfl dX5_widen_108 ?_
          refine c_bipush G (nI 32) dX5_widen_111 kB_32 ?_
          refine c_iload_n G dX5_widen_113 rfl 4 rfl ?_
          refine c_imul G dX5_widen_114 ?_
          refine c_iload G dX5_widen_115 5 rfl ?_
          refine c_iadd G dX5_widen_117 ?_
          refine c_iald G (lf h_a2 1 rfl) dX5_widen_118 (fun v4 _ => ?_)
          refine c_iload G dX5_widen_119 0 rfl ?_
          refine c_bipush G (nI 8) dX5_widen_121 kB_8 ?_
          refine c_iload G dX5_widen_123 6 rfl ?_
          refine c_imul G dX5_widen_125 ?_
          refine c_ishl G dX5_widen_126 ?_
          refine c_ior G dX5_widen_127 ?_
          refine c_iast G (lf h_a0 2 rfl) dX5_widen_128 (fun M2 _ => ?_)
          refine c_iinc G (fun y__ => [(4, .int y__), (8, .int p94), (0, .ref (wB w + pz (a0))), (1, .ref (wB w + pz (a1))), (2, .ref (wB w + pz (a2))), (3, .int a3), (5, .int v2)]) dX5_widen_129 5 rfl kI_1 (by decide) (fun _ => rfl) (fun l4_2 _ => ?_)
          refine c_goto (tgt := 3) G dX5_widen_132 (by decide) ?_
          exact c_weak _ [2, 3, 4, 5, 0] rfl (ih l4_2 M2)
        · skip
          refine c_if_eq (tgt := 93) G dX5_widen_75 (by decide) (fun _ => ?_) (fun _ => ?_)
          · skip
            refine c_iconst G (nI 0) dX5_widen_93 kI_0 ?_
            exact c_weak _ [1, 2, 3, 4, 5, 6] rfl (hJ94 (nI 0))
          · skip
            refine c_aload_n G dX5_widen_78 rfl 1 rfl ?_
            refine c_aload_n G dX5_widen_79 rfl 2 rfl ?_
            refine c_iload G dX5_widen_80 7 rfl ?_
            refine c_iload G dX5_widen_82 5 rfl ?_
            refine c_bipush G (nI 8) dX5_widen_84 kB_8 ?_
            refine c_irem G dX5_widen_86 (fun v5 _ => ?_)
            refine c_callV_PI (d := 0) (rest := []) G [.ref (wB w + pz (a1)), .int q1, .int v5] yv_X5_aheadOf ml_X5_102 (by omega) (by decide) rfl rfl (Nat.le_of_ble_eq_true rfl) h_a0 (fun q hq => con_X5_aheadOf h_a0 h_a1 hq) dX5_widen_87 (fun q2 _ => ?_)
            refine c_goto (tgt := 94) G dX5_widen_90 (by decide) ?_
            exact c_weak _ [1, 2, 3, 4, 5, 6] rfl (hJ94 q2)
      · skip
        refine c_jn (ej := fun (p70 : Unit) => [(0, .ref (wB w + pz (a0))), (1, .ref (wB w + pz (a1))), (2, .ref (wB w + pz (a2))), (3, .int a3), (4, .int l4_1), (5, .int v2), (6, .int q1)]) (sj := fun p70 => []) (mj := fun p70 => M1) (pj := 70) (fun p70 => ?_) (fun J1 hJ70 => ?_)
        · skip
          refine c_iconst G (nI 0) dX5_widen_70 kI_0 ?_
          exact c_weak _ [0, 1, 2, 3, 4, 5, 6] rfl (hJ71 (nI 0))
        · skip
          refine c_if_le (tgt := 70) G dX5_widen_40 (by decide) (fun _ => ?_) (fun _ => ?_)
          · skip
            exact c_weak _ [2, 3, 4, 5, 6, 1, 0] rfl (hJ70 ())
          · skip
            refine c_iload G dX5_widen_43 6 rfl ?_
            refine c_bipush G (nI 8) dX5_widen_45 kB_8 ?_
            refine c_irem G dX5_widen_47 (fun v6 _ => ?_)
            refine c_aload_n G dX5_widen_48 rfl 3 rfl ?_
            refine c_getF G fl_X5_76 h_a1 rfl dX5_widen_49 ?_
            refine c_iload G dX5_widen_52 0 rfl ?_
            refine c_iald G (lf h_a1 6 rfl) dX5_widen_54 (fun v7 _ => ?_)
            refine c_aload_n G dX5_widen_55 rfl 3 rfl ?_
            refine c_getF G fl_X5_79 h_a1 rfl dX5_widen_56 ?_
            refine c_iload G dX5_widen_59 0 rfl ?_
            refine c_iald G (lf h_a1 7 rfl) dX5_widen_61 (fun v8 _ => ?_)
            refine c_iadd G dX5_widen_62 ?_
            refine c_icmp_ge (tgt := 70) G dX5_widen_63 (by decide) (fun _ => ?_) (fun _ => ?_)
            · skip
              exact c_weak _ [2, 3, 4, 5, 6, 1, 0] rfl (hJ70 ())
            · skip
              refine c_iconst G (nI 1) dX5_widen_66 kI_1 ?_
              refine c_goto (tgt := 71) G dX5_widen_67 (by decide) ?_
              exact c_weak _ [2, 3, 4, 5, 6, 1, 0] rfl (hJ71 (nI 1))
set_option maxHeartbeats 4000000 in
set_option maxRecDepth 100000 in
theorem con_X5_widen {w : Wp} {N : Nat} {a0 : Nat} {a1 : Nat} {a2 : Nat} {a3 : Int32} {M : Mm} {q : Mm} (h_a0 : lay a0 = (5, 5)) (h_a1 : lay a1 = (5, 1)) (h_a2 : lay a2 = (5, 3)) (hq : D_X5_widen N a0 a1 a2 a3 M = some q) : Con w 1 yX5_widen cX5_widen 9 none [.ref (wB w + pz (a0)), .ref (wB w + pz (a1)), .ref (wB w + pz (a2)), .int a3] M (encV q) := by
  refine Con.of encV q _ hq (by decide) (Nat.le_of_ble_eq_true rfl) ?_
  intro X G Q hQ
  have G : Good w X cX5_widen 9 RX5 none 1 := G
  refine c_weak [(0, .ref (wB w + pz (a0))), (1, .ref (wB w + pz (a1))), (2, .ref (wB w + pz (a2))), (3, .int a3)] [0, 1, 2, 3] rfl ?_
  rw [D_X5_widen]
  refine c_iconst G (nI 0) dX5_widen_0 kI_0 ?_
  refine c_istore G [(4, .int (nI 0)), (0, .ref (wB w + pz (a0))), (1, .ref (wB w + pz (a1))), (2, .ref (wB w + pz (a2))), (3, .int a3)] dX5_widen_1 (by decide) rfl ?_
  refine c_weak _ [1, 2, 3, 4, 0] rfl (cl_X5_widen_3 G hQ _ h_a1 h_a0 h_a2 ?_ N (nI 0) M)
  · intro M3
    refine c_aload_n G dX5_widen_135 rfl 0 rfl ?_
    refine c_getF G fl_X5_18 h_a0 rfl dX5_widen_136 ?_
    refine c_bipush G (nI 32) dX5_widen_139 kB_32 ?_
    refine c_iload_n G dX5_widen_141 rfl 2 rfl ?_
    refine c_imul G dX5_widen_142 ?_
    refine c_bipush G (nI 8) dX5_widen_143 kB_8 ?_
    refine c_aload_n G dX5_widen_145 rfl 1 rfl ?_
    refine c_getF G fl_X5_65 h_a1 rfl dX5_widen_146 ?_
    refine c_iload_n G dX5_widen_149 rfl 2 rfl ?_
    refine c_iald G (lf h_a1 8 rfl) dX5_widen_150 (fun v9 _ => ?_)
    refine c_imul G dX5_widen_151 ?_
    refine c_callS_V (d := 0) (rest := []) G [.ref (wB w + pz ((a0 + 3))), .int ((nI 32) * a3), .int ((nI 8) * v9)] ys_X3_close ml_X5_109 (by omega) (by decide) rfl rfl (Nat.le_of_ble_eq_true rfl) (fun q hq => con_X3_close (ll (lf h_a0 2 rfl)) hq) dX5_widen_152 (fun M4 _ => ?_)
    exact c_vret G hQ dX5_widen_155
set_option maxHeartbeats 4000000 in
set_option maxRecDepth 100000 in
theorem cl_X5_during_6 {w : Wp} {M : Mm} {X : Cx} {Q : State → Prop} {ρ : Int32} (G : Good w X cX5_during 6 RX5 (some .int) 0) (hQ : Q = MQ (xL X) (Qd w ((encPI M) ρ)) (xA X) (xS X) (xk X) (xs X) (Aw w)) {a1 : Nat} {a2 : Int32} {a0 : Nat} {a3 : Int32} (h_a1 : lay a1 = (5, 1)) (h_a0 : lay a0 = (5, 5)) : ∀ (n : Nat) (l4_1 : Int32) (l5_1 : Int32), Cov w X Q ρ some 6 6 [(0, .ref (wB w + pz (a0))), (1, .ref (wB w + pz (a1))), (2, .int a2), (3, .int a3), (4, .int l4_1), (5, .int l5_1)] [] M (L_X5_during_6 a1 a2 M a0 a3 n l4_1 l5_1) := by
  intro n
  induction n with
  | zero => intro l4_1 l5_1; exact c_none
  | succ n ih =>
    intro l4_1 l5_1
    rw [L_X5_during_6]
    refine c_iload G dX5_during_6 5 rfl ?_
    refine c_aload_n G dX5_during_8 rfl 1 rfl ?_
    refine c_getF G fl_X5_76 h_a1 rfl dX5_during_9 ?_
    refine c_iload_n G dX5_during_12 rfl 2 rfl ?_
    refine c_iald G (lf h_a1 6 rfl) dX5_during_13 (fun v1 _ => ?_)
    refine c_aload_n G dX5_during_14 rfl 1 rfl ?_
    refine c_getF G fl_X5_79 h_a1 rfl dX5_during_15 ?_
    refine c_iload_n G dX5_during_18 rfl 2 rfl ?_
    refine c_iald G (lf h_a1 7 rfl) dX5_during_19 (fun v2 _ => ?_)
    refine c_iadd G dX5_during_20 ?_
    refine c_icmp_ge (tgt := 55) G dX5_during_21 (by decide) (fun _ => ?_) (fun _ => ?_)
    · skip
      refine c_iload G dX5_during_55 4 rfl ?_
      exact c_iretP G hQ dX5_during_57
    · skip
      refine c_aload_n G dX5_during_24 rfl 0 rfl ?_
      refine c_getF G fl_X5_15 h_a0 rfl dX5_during_25 ?_
      refine c_bipush G (nI 8) dX5_during_28 kB_8 ?_
      refine c_iload_n G dX5_during_30 rfl 2 rfl ?_
      refine c_imul G dX5_during_31 ?_
      refine c_iload G dX5_during_32 5 rfl ?_
      refine c_iadd G dX5_during_34 ?_
      refine c_iald G (lf h_a0 1 rfl) dX5_during_35 (fun v3 _ => ?_)
      refine c_iload_n G dX5_during_36 rfl 3 rfl ?_
      refine c_icmp_ne (tgt := 49) G dX5_during_37 (by decide) (fun _ => ?_) (fun _ => ?_)
      · skip
        refine c_iload G dX5_during_40 4 rfl ?_
        refine c_iconst G (nI 1) dX5_during_42 kI_1 ?_
        refine c_iload G dX5_during_43 5 rfl ?_
        refine c_ishl G dX5_during_45 ?_
        refine c_ior G dX5_during_46 ?_
        refine c_let (fun l4_2 _ => ?_)
        refine c_istore G [(4, .int l4_2), (0, .ref (wB w + pz (a0))), (1, .ref (wB w + pz (a1))), (2, .int a2), (3, .int a3), (5, .int l5_1)] dX5_during_47 (by decide) rfl ?_
        refine c_iinc G (fun y__ => [(5, .int y__), (4, .int l4_2), (0, .ref (wB w + pz (a0))), (1, .ref (wB w + pz (a1))), (2, .int a2), (3, .int a3)]) dX5_during_49 5 rfl kI_1 (by decide) (fun _ => rfl) (fun l5_2 _ => ?_)
        refine c_goto (tgt := 6) G dX5_during_52 (by decide) ?_
        exact c_weak _ [2, 3, 4, 5, 1, 0] rfl (ih l4_2 l5_2)
      · skip
        refine c_iinc G (fun y__ => [(5, .int y__), (0, .ref (wB w + pz (a0))), (1, .ref (wB w + pz (a1))), (2, .int a2), (3, .int a3), (4, .int l4_1)]) dX5_during_49 5 rfl kI_1 (by decide) (fun _ => rfl) (fun l5_3 _ => ?_)
        refine c_goto (tgt := 6) G dX5_during_52 (by decide) ?_
        exact c_weak _ [1, 2, 3, 4, 5, 0] rfl (ih l4_1 l5_3)
set_option maxHeartbeats 4000000 in
set_option maxRecDepth 100000 in
theorem con_X5_during {w : Wp} {N : Nat} {a0 : Nat} {a1 : Nat} {a2 : Int32} {a3 : Int32} {M : Mm} {q : Int32} (h_a0 : lay a0 = (5, 5)) (h_a1 : lay a1 = (5, 1)) (hq : D_X5_during N a0 a1 a2 a3 M = some q) : Con w 0 yX5_during cX5_during 6 (some .int) [.ref (wB w + pz (a0)), .ref (wB w + pz (a1)), .int a2, .int a3] M ((encPI M) q) := by
  refine Con.of (encPI M) q _ hq (by decide) (Nat.le_of_ble_eq_true rfl) ?_
  intro X G Q hQ
  have G : Good w X cX5_during 6 RX5 (some .int) 0 := G
  refine c_weak [(0, .ref (wB w + pz (a0))), (1, .ref (wB w + pz (a1))), (2, .int a2), (3, .int a3)] [0, 1, 2, 3] rfl ?_
  rw [D_X5_during]
  refine c_iconst G (nI 0) dX5_during_0 kI_0 ?_
  refine c_istore G [(4, .int (nI 0)), (0, .ref (wB w + pz (a0))), (1, .ref (wB w + pz (a1))), (2, .int a2), (3, .int a3)] dX5_during_1 (by decide) rfl ?_
  refine c_iconst G (nI 0) dX5_during_3 kI_0 ?_
  refine c_istore G [(5, .int (nI 0)), (4, .int (nI 0)), (0, .ref (wB w + pz (a0))), (1, .ref (wB w + pz (a1))), (2, .int a2), (3, .int a3)] dX5_during_4 (by decide) rfl ?_
  refine c_weak _ [2, 3, 4, 5, 1, 0] rfl (cl_X5_during_6 G hQ  h_a1 h_a0 N (nI 0) (nI 0))
set_option maxHeartbeats 4000000 in
set_option maxRecDepth 100000 in
theorem con_X5_add {w : Wp} {N : Nat} {a0 : Nat} {a1 : Int32} {a2 : Int32} {M : Mm} {q : Mm} (h_a0 : lay a0 = (5, 5)) (hq : D_X5_add N a0 a1 a2 M = some q) : Con w 0 yX5_add cX5_add 3 none [.ref (wB w + pz (a0)), .int a1, .int a2] M (encV q) := by
  refine Con.of encV q _ hq (by decide) (Nat.le_of_ble_eq_true rfl) ?_
  intro X G Q hQ
  have G : Good w X cX5_add 3 RX5 none 0 := G
  refine c_weak [(0, .ref (wB w + pz (a0))), (1, .int a1), (2, .int a2)] [0, 1, 2] rfl ?_
  rw [D_X5_add]
  refine c_aload_n G dX5_add_0 rfl 0 rfl ?_
  refine c_getF G fl_X5_27 h_a0 rfl dX5_add_1 ?_
  refine c_iload_n G dX5_add_4 rfl 1 rfl ?_
  refine c_iald G (lf h_a0 7 rfl) dX5_add_5 (fun v1 _ => ?_)
  refine c_bipush G (nI 36) dX5_add_6 kB_36 ?_
  refine c_icmp_ge (tgt := 38) G dX5_add_8 (by decide) (fun _ => ?_) (fun _ => ?_)
  · skip
    exact c_vret G hQ dX5_add_38
  · skip
    refine c_aload_n G dX5_add_11 rfl 0 rfl ?_
    refine c_getF G fl_X5_21 h_a0 rfl dX5_add_12 ?_
    refine c_bipush G (nI 36) dX5_add_15 kB_36 ?_
    refine c_iload_n G dX5_add_17 rfl 1 rfl ?_
    refine c_imul G dX5_add_18 ?_
    refine c_aload_n G dX5_add_19 rfl 0 rfl ?_
    refine c_getF G fl_X5_27 h_a0 rfl dX5_add_20 ?_
    refine c_iload_n G dX5_add_23 rfl 1 rfl ?_
    refine c_iald G (lf h_a0 7 rfl) dX5_add_24 (fun v2 _ => ?_)
    refine c_iadd G dX5_add_25 ?_
    refine c_iload_n G dX5_add_26 rfl 2 rfl ?_
    refine c_iast G (lf h_a0 4 rfl) dX5_add_27 (fun M1 _ => ?_)
    refine c_aload_n G dX5_add_28 rfl 0 rfl ?_
    refine c_getF G fl_X5_27 h_a0 rfl dX5_add_29 ?_
    refine c_iload_n G dX5_add_32 rfl 1 rfl ?_
    refine c_dup2 G dX5_add_33 rfl rfl ?_
    refine c_iald G (lf h_a0 7 rfl) dX5_add_34 (fun v3 _ => ?_)
    refine c_iconst G (nI 1) dX5_add_35 kI_1 ?_
    refine c_iadd G dX5_add_36 ?_
    refine c_iast G (lf h_a0 7 rfl) dX5_add_37 (fun M2 _ => ?_)
    exact c_vret G hQ dX5_add_38
set_option maxHeartbeats 4000000 in
set_option maxRecDepth 100000 in
theorem cl_X5_addRule_17 {w : Wp} {X : Cx} {Q : State → Prop} {ρ : Int32 × Mm} (G : Good w X cX5_addRule 5 RX5 (some .boolean) 1) (hQ : Q = MQ (xL X) (Qd w (encI ρ)) (xA X) (xS X) (xk X) (xs X) (Aw w)) (kE55 : Int32 → Option (Int32 × Mm)) {M : Mm} {l3_1 : Int32} {a1 : Nat} {a2 : Int32} {a0 : Nat} (h_a1 : lay a1 = (5, 1)) (h_a0 : lay a0 = (5, 5)) (hE55 : ∀ (z4 : Int32), Cov w X Q ρ some 5 55 [(0, .ref (wB w + pz (a0))), (2, .int a2), (4, .int z4)] [] M (kE55 z4)) : ∀ (n : Nat) (l4_1 : Int32), Cov w X Q ρ some 5 17 [(0, .ref (wB w + pz (a0))), (1, .ref (wB w + pz (a1))), (2, .int a2), (3, .int l3_1), (4, .int l4_1)] [] M (L_X5_addRule_17 kE55 M l3_1 a1 a2 a0 n l4_1) := by
  intro n
  induction n with
  | zero => intro l4_1; exact c_none
  | succ n ih =>
    intro l4_1
    rw [L_X5_addRule_17]
    refine c_iload G dX5_addRule_17 4 rfl ?_
    refine c_bipush G (nI 32) dX5_addRule_19 kB_32 ?_
    refine c_icmp_ge (tgt := 96) G dX5_addRule_21 (by decide) (fun _ => ?_) (fun _ => ?_)
    · skip
      refine c_iconst G (nI 0) dX5_addRule_96 kI_0 ?_
      exact c_zret G hQ dX5_addRule_97
    · skip
      refine c_iload_n G dX5_addRule_24 rfl 3 rfl ?_
      refine c_iload G dX5_addRule_25 4 rfl ?_
      refine c_iushr G dX5_addRule_27 ?_
      refine c_iconst G (nI 1) dX5_addRule_28 kI_1 ?_
      refine c_iand G dX5_addRule_29 ?_
      refine c_if_eq (tgt := 90) G dX5_addRule_30 (by decide) (fun _ => ?_) (fun _ => ?_)
      · skip
        refine c_iinc G (fun y__ => [(4, .int y__), (0, .ref (wB w + pz (a0))), (1, .ref (wB w + pz (a1))), (2, .int a2), (3, .int l3_1)]) dX5_addRule_90 4 rfl kI_1 (by decide) (fun _ => rfl) (fun l4_2 _ => ?_)
        refine c_goto (tgt := 17) G dX5_addRule_93 (by decide) ?_
        exact c_weak _ [1, 2, 3, 4, 0] rfl (ih l4_2)
      · skip
        refine c_aload_n G dX5_addRule_33 rfl 1 rfl ?_
        refine c_getF G fl_X5_138 h_a1 rfl dX5_addRule_34 ?_
        refine c_bipush G (nI 32) dX5_addRule_37 kB_32 ?_
        refine c_iload_n G dX5_addRule_39 rfl 2 rfl ?_
        refine c_imul G dX5_addRule_40 ?_
        refine c_iload G dX5_addRule_41 4 rfl ?_
        refine c_iadd G dX5_addRule_43 ?_
        refine c_iald G (lf h_a1 14 rfl) dX5_addRule_44 (fun v2 _ => ?_)
        refine c_aload_n G dX5_addRule_45 rfl 0 rfl ?_
        refine c_getI G fl_X5_116 h_a0 rfl dX5_addRule_46 ?_
        refine c_iconst G m1 dX5_addRule_49 kI_m1 ?_
        refine c_ixor G dX5_addRule_50 ?_
        refine c_iand G dX5_addRule_51 ?_
        refine c_if_ne (tgt := 90) G dX5_addRule_52 (by decide) (fun _ => ?_) (fun _ => ?_)
        · skip
          exact c_weak _ [0, 2, 4] rfl (hE55 l4_1)
        · skip
          refine c_iinc G (fun y__ => [(4, .int y__), (0, .ref (wB w + pz (a0))), (1, .ref (wB w + pz (a1))), (2, .int a2), (3, .int l3_1)]) dX5_addRule_90 4 rfl kI_1 (by decide) (fun _ => rfl) (fun l4_3 _ => ?_)
          refine c_goto (tgt := 17) G dX5_addRule_93 (by decide) ?_
          exact c_weak _ [1, 2, 3, 4, 0] rfl (ih l4_3)
set_option maxHeartbeats 4000000 in
set_option maxRecDepth 100000 in
theorem con_X5_addRule {w : Wp} {N : Nat} {a0 : Nat} {a1 : Nat} {a2 : Int32} {M : Mm} {q : Int32 × Mm} (h_a0 : lay a0 = (5, 5)) (h_a1 : lay a1 = (5, 1)) (hq : D_X5_addRule N a0 a1 a2 M = some q) : Con w 1 yX5_addRule cX5_addRule 5 (some .boolean) [.ref (wB w + pz (a0)), .ref (wB w + pz (a1)), .int a2] M (encI q) := by
  refine Con.of encI q _ hq (by decide) (Nat.le_of_ble_eq_true rfl) ?_
  intro X G Q hQ
  have G : Good w X cX5_addRule 5 RX5 (some .boolean) 1 := G
  refine c_weak [(0, .ref (wB w + pz (a0))), (1, .ref (wB w + pz (a1))), (2, .int a2)] [0, 1, 2] rfl ?_
  rw [D_X5_addRule]
  refine c_aload_n G dX5_addRule_0 rfl 1 rfl ?_
  refine c_getF G fl_X5_135 h_a1 rfl dX5_addRule_1 ?_
  refine c_iload_n G dX5_addRule_4 rfl 2 rfl ?_
  refine c_iald G (lf h_a1 11 rfl) dX5_addRule_5 (fun v1 _ => ?_)
  refine c_aload_n G dX5_addRule_6 rfl 0 rfl ?_
  refine c_getI G fl_X5_116 h_a0 rfl dX5_addRule_7 ?_
  refine c_iconst G m1 dX5_addRule_10 kI_m1 ?_
  refine c_ixor G dX5_addRule_11 ?_
  refine c_iand G dX5_addRule_12 ?_
  refine c_let (fun l3_1 _ => ?_)
  refine c_istore_n G [(3, .int l3_1), (0, .ref (wB w + pz (a0))), (1, .ref (wB w + pz (a1))), (2, .int a2)] dX5_addRule_13 rfl (by decide) rfl ?_
  refine c_iconst G (nI 0) dX5_addRule_14 kI_0 ?_
  refine c_istore G [(4, .int (nI 0)), (3, .int l3_1), (0, .ref (wB w + pz (a0))), (1, .ref (wB w + pz (a1))), (2, .int a2)] dX5_addRule_15 (by decide) rfl ?_
  refine c_weak _ [2, 3, 4, 1, 0] rfl (cl_X5_addRule_17 G hQ _ h_a1 h_a0 ?_ N (nI 0))
  · intro l4_4
    refine c_aload_n G dX5_addRule_55 rfl 0 rfl ?_
    refine c_iload_n G dX5_addRule_56 rfl 1 rfl ?_
    refine c_bipush G (nI 100) dX5_addRule_57 kB_100 ?_
    refine c_iload G dX5_addRule_59 2 rfl ?_
    refine c_iadd G dX5_addRule_61 ?_
    refine c_callV_V (d := 0) (rest := []) G [.int a2, .int ((nI 100) + l4_4)] yv_X5_add ml_X5_124 (by omega) (by decide) rfl rfl (Nat.le_of_ble_eq_true rfl) h_a0 (fun q hq => con_X5_add h_a0 hq) dX5_addRule_62 (fun M1 _ => ?_)
    refine c_aload_n G dX5_addRule_65 rfl 0 rfl ?_
    refine c_getF G fl_X5_33 h_a0 rfl dX5_addRule_66 ?_
    refine c_iload_n G dX5_addRule_69 rfl 1 rfl ?_
    refine c_dup2 G dX5_addRule_70 rfl rfl ?_
    refine c_iald G (lf h_a0 9 rfl) dX5_addRule_71 (fun v3 _ => ?_)
    refine c_iconst G (nI 1) dX5_addRule_72 kI_1 ?_
    refine c_iadd G dX5_addRule_73 ?_
    refine c_iast G (lf h_a0 9 rfl) dX5_addRule_74 (fun M2 _ => ?_)
    refine c_aload_n G dX5_addRule_75 rfl 0 rfl ?_
    refine c_dup G dX5_addRule_76 rfl ?_
    refine c_getI G fl_X5_116 h_a0 rfl dX5_addRule_77 ?_
    refine c_iconst G (nI 1) dX5_addRule_80 kI_1 ?_
    refine c_iload G dX5_addRule_81 2 rfl ?_
    refine c_ishl G dX5_addRule_83 ?_
    refine c_ior G dX5_addRule_84 ?_
    refine c_putI G fp_X5_116 h_a0 rfl dX5_addRule_85 (fun M3 _ => ?_)
    refine c_iconst G (nI 1) dX5_addRule_88 kI_1 ?_
    exact c_zret G hQ dX5_addRule_89
set_option maxHeartbeats 4000000 in
set_option maxRecDepth 100000 in
theorem cl_X5_addVisit_2 {w : Wp} {X : Cx} {Q : State → Prop} {ρ : Int32 × Mm} (G : Good w X cX5_addVisit 7 RX5 (some .boolean) 1) (hQ : Q = MQ (xL X) (Qd w (encI ρ)) (xA X) (xS X) (xk X) (xs X) (Aw w)) (kE81 : Int32 → Int32 → Option (Int32 × Mm)) {a1 : Nat} {a2 : Int32} {M : Mm} {N : Nat} {a0 : Nat} (h_a1 : lay a1 = (5, 1)) (h_a0 : lay a0 = (5, 5)) (hE81 : ∀ (z3 : Int32), ∀ (z5 : Int32), Cov w X Q ρ some 7 81 [(0, .ref (wB w + pz (a0))), (2, .int a2), (3, .int z3), (5, .int z5)] [] M (kE81 z3 z5)) : ∀ (n : Nat) (l3_1 : Int32), Cov w X Q ρ some 7 2 [(0, .ref (wB w + pz (a0))), (1, .ref (wB w + pz (a1))), (2, .int a2), (3, .int l3_1)] [] M (L_X5_addVisit_2 kE81 a1 a2 M N a0 n l3_1) := by
  intro n
  induction n with
  | zero => intro l3_1; exact c_none
  | succ n ih =>
    intro l3_1
    rw [L_X5_addVisit_2]
    refine c_iload_n G dX5_addVisit_2 rfl 3 rfl ?_
    refine c_aload_n G dX5_addVisit_3 rfl 1 rfl ?_
    refine c_getF G fl_X5_65 h_a1 rfl dX5_addVisit_4 ?_
    refine c_iload_n G dX5_addVisit_7 rfl 2 rfl ?_
    refine c_iald G (lf h_a1 8 rfl) dX5_addVisit_8 (fun v1 _ => ?_)
    refine c_icmp_ge (tgt := 141) G dX5_addVisit_9 (by decide) (fun _ => ?_) (fun _ => ?_)
    · skip
      refine c_iconst G (nI 0) dX5_addVisit_141 kI_0 ?_
      exact c_zret G hQ dX5_addVisit_142
    · skip
      refine c_aload_n G dX5_addVisit_12 rfl 1 rfl ?_
      refine c_iload_n G dX5_addVisit_13 rfl 2 rfl ?_
      refine c_iload_n G dX5_addVisit_14 rfl 3 rfl ?_
      refine c_callV_PI (d := 0) (rest := []) G [.int a2, .int l3_1] yv_X1_side ml_X5_72 (by omega) (by decide) rfl rfl (Nat.le_of_ble_eq_true rfl) h_a1 (fun q hq => con_X1_side h_a1 hq) dX5_addVisit_15 (fun q1 _ => ?_)
      refine c_istore G [(4, .int q1), (0, .ref (wB w + pz (a0))), (1, .ref (wB w + pz (a1))), (2, .int a2), (3, .int l3_1)] dX5_addVisit_18 (by decide) rfl ?_
      refine c_aload_n G dX5_addVisit_20 rfl 1 rfl ?_
      refine c_aload_n G dX5_addVisit_21 rfl 2 rfl ?_
      refine c_iload G dX5_addVisit_22 0 rfl ?_
      refine c_aload_n G dX5_addVisit_24 rfl 1 rfl ?_
      refine c_getF G fl_X5_24 h_a0 rfl dX5_addVisit_25 ?_
      refine c_iload_n G dX5_addVisit_28 rfl 4 rfl ?_
      refine c_iald G (lf h_a0 5 rfl) dX5_addVisit_29 (fun v2 _ => ?_)
      refine c_iconst G (nI 1) dX5_addVisit_30 kI_1 ?_
      refine c_iadd G dX5_addVisit_31 ?_
      refine c_callV_PI (d := 0) (rest := []) G [.ref (wB w + pz (a1)), .int q1, .int (v2 + (nI 1))] yv_X5_during ml_X5_113 (by omega) (by decide) rfl rfl (Nat.le_of_ble_eq_true rfl) h_a0 (fun q hq => con_X5_during h_a0 h_a1 hq) dX5_addVisit_32 (fun q2 _ => ?_)
      refine c_istore G [(5, .int q2), (4, .int q1), (0, .ref (wB w + pz (a0))), (1, .ref (wB w + pz (a1))), (2, .int a2), (3, .int l3_1)] dX5_addVisit_35 (by decide) rfl ?_
      refine c_iload G dX5_addVisit_37 0 rfl ?_
      refine c_aload_n G dX5_addVisit_39 rfl 3 rfl ?_
      refine c_iload G dX5_addVisit_40 1 rfl ?_
      refine c_callV_PI (d := 0) (rest := [.int q2]) G [.int q1] yv_X1_insOf ml_X5_82 (by omega) (by decide) rfl rfl (Nat.le_of_ble_eq_true rfl) h_a1 (fun q hq => con_X1_insOf h_a1 hq) dX5_addVisit_42 (fun q3 _ => ?_)
      refine c_iand G dX5_addVisit_45 ?_
      refine c_bipush G (nI 8) dX5_addVisit_46 kB_8 ?_
      refine c_iload_n G dX5_addVisit_48 rfl 5 rfl ?_
      refine c_imul G dX5_addVisit_49 ?_
      refine c_ishl G dX5_addVisit_50 ?_
      refine c_let (fun l6_1 _ => ?_)
      refine c_istore G [(6, .int l6_1), (5, .int q2), (4, .int q1), (0, .ref (wB w + pz (a0))), (1, .ref (wB w + pz (a1))), (2, .int a2), (3, .int l3_1)] dX5_addVisit_51 (by decide) rfl ?_
      refine c_aload_n G dX5_addVisit_53 rfl 3 rfl ?_
      refine c_getF G fl_X5_24 h_a0 rfl dX5_addVisit_54 ?_
      refine c_iload_n G dX5_addVisit_57 rfl 6 rfl ?_
      refine c_iald G (lf h_a0 5 rfl) dX5_addVisit_58 (fun v3 _ => ?_)
      refine c_aload_n G dX5_addVisit_59 rfl 3 rfl ?_
      refine c_getF G fl_X5_9 h_a0 rfl dX5_addVisit_60 ?_
      refine c_iload G dX5_addVisit_63 2 rfl ?_
      refine c_iald G (lf h_a0 0 rfl) dX5_addVisit_65 (fun v4 _ => ?_)
      refine c_icmp_ge (tgt := 135) G dX5_addVisit_66 (by decide) (fun _ => ?_) (fun _ => ?_)
      · skip
        refine c_iinc G (fun y__ => [(3, .int y__), (6, .int l6_1), (5, .int q2), (4, .int q1), (0, .ref (wB w + pz (a0))), (1, .ref (wB w + pz (a1))), (2, .int a2)]) dX5_addVisit_135 6 rfl kI_1 (by decide) (fun _ => rfl) (fun l3_2 _ => ?_)
        refine c_goto (tgt := 2) G dX5_addVisit_138 (by decide) ?_
        exact c_weak _ [4, 5, 6, 0] rfl (ih l3_2)
      · skip
        refine c_iload G dX5_addVisit_69 0 rfl ?_
        refine c_aload_n G dX5_addVisit_71 rfl 3 rfl ?_
        refine c_getI G fl_X5_116 h_a0 rfl dX5_addVisit_72 ?_
        refine c_iconst G m1 dX5_addVisit_75 kI_m1 ?_
        refine c_ixor G dX5_addVisit_76 ?_
        refine c_iand G dX5_addVisit_77 ?_
        refine c_if_ne (tgt := 135) G dX5_addVisit_78 (by decide) (fun _ => ?_) (fun _ => ?_)
        · skip
          exact c_weak _ [3, 5, 6, 1] rfl (hE81 l3_1 q2)
        · skip
          refine c_iinc G (fun y__ => [(3, .int y__), (6, .int l6_1), (5, .int q2), (4, .int q1), (0, .ref (wB w + pz (a0))), (1, .ref (wB w + pz (a1))), (2, .int a2)]) dX5_addVisit_135 6 rfl kI_1 (by decide) (fun _ => rfl) (fun l3_3 _ => ?_)
          refine c_goto (tgt := 2) G dX5_addVisit_138 (by decide) ?_
          exact c_weak _ [4, 5, 6, 0] rfl (ih l3_3)
set_option maxHeartbeats 4000000 in
set_option maxRecDepth 100000 in
theorem con_X5_addVisit {w : Wp} {N : Nat} {a0 : Nat} {a1 : Nat} {a2 : Int32} {M : Mm} {q : Int32 × Mm} (h_a0 : lay a0 = (5, 5)) (h_a1 : lay a1 = (5, 1)) (hq : D_X5_addVisit N a0 a1 a2 M = some q) : Con w 1 yX5_addVisit cX5_addVisit 7 (some .boolean) [.ref (wB w + pz (a0)), .ref (wB w + pz (a1)), .int a2] M (encI q) := by
  refine Con.of encI q _ hq (by decide) (Nat.le_of_ble_eq_true rfl) ?_
  intro X G Q hQ
  have G : Good w X cX5_addVisit 7 RX5 (some .boolean) 1 := G
  refine c_weak [(0, .ref (wB w + pz (a0))), (1, .ref (wB w + pz (a1))), (2, .int a2)] [0, 1, 2] rfl ?_
  rw [D_X5_addVisit]
  refine c_iconst G (nI 1) dX5_addVisit_0 kI_1 ?_
  refine c_istore_n G [(3, .int (nI 1)), (0, .ref (wB w + pz (a0))), (1, .ref (wB w + pz (a1))), (2, .int a2)] dX5_addVisit_1 rfl (by decide) rfl ?_
  refine c_weak _ [1, 2, 3, 0] rfl (cl_X5_addVisit_2 G hQ _ h_a1 h_a0 ?_ N (nI 1))
  · intro l3_4 l5_1
    refine c_aload_n G dX5_addVisit_81 rfl 0 rfl ?_
    refine c_getF G fl_X5_24 h_a0 rfl dX5_addVisit_82 ?_
    refine c_iload_n G dX5_addVisit_85 rfl 2 rfl ?_
    refine c_dup2 G dX5_addVisit_86 rfl rfl ?_
    refine c_iald G (lf h_a0 5 rfl) dX5_addVisit_87 (fun v5 _ => ?_)
    refine c_iconst G (nI 1) dX5_addVisit_88 kI_1 ?_
    refine c_iadd G dX5_addVisit_89 ?_
    refine c_iast G (lf h_a0 5 rfl) dX5_addVisit_90 (fun M1 _ => ?_)
    refine c_aload_n G dX5_addVisit_91 rfl 0 rfl ?_
    refine c_iload_n G dX5_addVisit_92 rfl 1 rfl ?_
    refine c_bipush G (nI 10) dX5_addVisit_93 kB_10 ?_
    refine c_iload_n G dX5_addVisit_95 rfl 2 rfl ?_
    refine c_imul G dX5_addVisit_96 ?_
    refine c_aload_n G dX5_addVisit_97 rfl 0 rfl ?_
    refine c_getF G fl_X5_24 h_a0 rfl dX5_addVisit_98 ?_
    refine c_iload_n G dX5_addVisit_101 rfl 2 rfl ?_
    refine c_iald G (lf h_a0 5 rfl) dX5_addVisit_102 (fun v6 _ => ?_)
    refine c_iadd G dX5_addVisit_103 ?_
    refine c_callV_V (d := 0) (rest := []) G [.int a2, .int (((nI 10) * l3_4) + v6)] yv_X5_add ml_X5_124 (by omega) (by decide) rfl rfl (Nat.le_of_ble_eq_true rfl) h_a0 (fun q hq => con_X5_add h_a0 hq) dX5_addVisit_104 (fun M2 _ => ?_)
    refine c_aload_n G dX5_addVisit_107 rfl 0 rfl ?_
    refine c_getF G fl_X5_30 h_a0 rfl dX5_addVisit_108 ?_
    refine c_iload_n G dX5_addVisit_111 rfl 1 rfl ?_
    refine c_dup2 G dX5_addVisit_112 rfl rfl ?_
    refine c_iald G (lf h_a0 8 rfl) dX5_addVisit_113 (fun v7 _ => ?_)
    refine c_iconst G (nI 1) dX5_addVisit_114 kI_1 ?_
    refine c_iadd G dX5_addVisit_115 ?_
    refine c_iast G (lf h_a0 8 rfl) dX5_addVisit_116 (fun M3 _ => ?_)
    refine c_aload_n G dX5_addVisit_117 rfl 0 rfl ?_
    refine c_dup G dX5_addVisit_118 rfl ?_
    refine c_getI G fl_X5_116 h_a0 rfl dX5_addVisit_119 ?_
    refine c_iload G dX5_addVisit_122 3 rfl ?_
    refine c_bipush G (nI 8) dX5_addVisit_124 kB_8 ?_
    refine c_iload_n G dX5_addVisit_126 rfl 2 rfl ?_
    refine c_imul G dX5_addVisit_127 ?_
    refine c_ishl G dX5_addVisit_128 ?_
    refine c_ior G dX5_addVisit_129 ?_
    refine c_putI G fp_X5_116 h_a0 rfl dX5_addVisit_130 (fun M4 _ => ?_)
    refine c_iconst G (nI 1) dX5_addVisit_133 kI_1 ?_
    exact c_zret G hQ dX5_addVisit_134
set_option maxHeartbeats 4000000 in
set_option maxRecDepth 100000 in
theorem cl_X5_lay_67 {w : Wp} {X : Cx} {Q : State → Prop} {ρ : Mm} (G : Good w X cX5_lay 8 RX5 none 2) (hQ : Q = MQ (xL X) (Qd w (encV ρ)) (xA X) (xS X) (xk X) (xs X) (Aw w)) (kE176 : Mm → Option (Mm)) (kE167 : Mm → Option (Mm)) {N : Nat} {a0 : Nat} {a1 : Nat} {q1 : Int32} {a2 : Int32} {v1 : Int32} (h_a0 : lay a0 = (5, 5)) (h_a1 : lay a1 = (5, 1)) (hE176 : ∀ (Mz : Mm), Cov w X Q ρ some 8 176 [(0, .ref (wB w + pz (a0))), (2, .int a2), (4, .int v1)] [] Mz (kE176 Mz)) (hE167 : ∀ (Mz : Mm), Cov w X Q ρ some 8 167 [(0, .ref (wB w + pz (a0))), (2, .int a2), (4, .int v1)] [] Mz (kE167 Mz)) : ∀ (n : Nat) (l5_1 : Int32) (l6_1 : Int32) (M6 : Mm), Cov w X Q ρ some 8 67 [(0, .ref (wB w + pz (a0))), (1, .ref (wB w + pz (a1))), (2, .int a2), (3, .int q1), (4, .int v1), (5, .int l5_1), (6, .int l6_1)] [] M6 (L_X5_lay_67 kE176 kE167 N a0 a1 q1 a2 v1 n l5_1 l6_1 M6) := by
  intro n
  induction n with
  | zero => intro l5_1 l6_1 M6; exact c_none
  | succ n ih =>
    intro l5_1 l6_1 M6
    rw [L_X5_lay_67]
    refine c_iload G dX5_lay_67 6 rfl ?_
    refine c_bipush G (nI 36) dX5_lay_69 kB_36 ?_
    refine c_icmp_ge (tgt := 176) G dX5_lay_71 (by decide) (fun _ => ?_) (fun _ => ?_)
    · skip
      exact c_weak _ [0, 2, 4] rfl (hE176 M6)
    · skip
      refine c_aload_n G dX5_lay_74 rfl 0 rfl ?_
      refine c_aload_n G dX5_lay_75 rfl 1 rfl ?_
      refine c_iload_n G dX5_lay_76 rfl 3 rfl ?_
      refine c_iload G dX5_lay_77 5 rfl ?_
      refine c_callV_PI (d := 0) (rest := []) G [.ref (wB w + pz (a1)), .int q1, .int l5_1] yv_X5_during ml_X5_113 (by omega) (by decide) rfl rfl (Nat.le_of_ble_eq_true rfl) h_a0 (fun q hq => con_X5_during h_a0 h_a1 hq) dX5_lay_79 (fun q4 _ => ?_)
      refine c_aload_n G dX5_lay_82 rfl 1 rfl ?_
      refine c_iload_n G dX5_lay_83 rfl 3 rfl ?_
      refine c_callV_PI (d := 0) (rest := [.int q4]) G [.int q1] yv_X1_outsOf ml_X5_86 (by omega) (by decide) rfl rfl (Nat.le_of_ble_eq_true rfl) h_a1 (fun q hq => con_X1_outsOf h_a1 hq) dX5_lay_84 (fun q5 _ => ?_)
      refine c_iand G dX5_lay_87 ?_
      refine c_let (fun l7_1 _ => ?_)
      refine c_istore G [(7, .int l7_1), (0, .ref (wB w + pz (a0))), (1, .ref (wB w + pz (a1))), (2, .int a2), (3, .int q1), (4, .int v1), (5, .int l5_1), (6, .int l6_1)] dX5_lay_88 (by decide) rfl ?_
      refine c_iload G dX5_lay_90 6 rfl ?_
      refine c_iload G dX5_lay_92 5 rfl ?_
      refine c_jn (ej := fun (p149 : Unit) => [(0, .ref (wB w + pz (a0))), (1, .ref (wB w + pz (a1))), (2, .int a2), (3, .int q1), (4, .int v1), (5, .int l5_1), (6, .int l6_1)]) (sj := fun p149 => []) (mj := fun p149 => M6) (pj := 149) (fun p149 => ?_) (fun J1 hJ149 => ?_)
      · skip
        refine c_aload_n G dX5_lay_149 rfl 0 rfl ?_
        refine c_aload_n G dX5_lay_150 rfl 1 rfl ?_
        refine c_iload_n G dX5_lay_151 rfl 2 rfl ?_
        refine c_callV_I (d := 1) (rest := []) G [.ref (wB w + pz (a1)), .int a2] yv_X5_addRule ml_X5_128 (by omega) (by decide) rfl rfl (Nat.le_of_ble_eq_true rfl) h_a0 (fun q hq => con_X5_addRule h_a0 h_a1 hq) dX5_lay_152 (fun q6 _ => ?_)
        refine c_if_ne (tgt := 170) G dX5_lay_155 (by decide) (fun _ => ?_) (fun _ => ?_)
        · skip
          refine c_aload_n G dX5_lay_158 rfl 0 rfl ?_
          refine c_aload_n G dX5_lay_159 rfl 1 rfl ?_
          refine c_iload_n G dX5_lay_160 rfl 2 rfl ?_
          refine c_callV_I (d := 1) (rest := []) G [.ref (wB w + pz (a1)), .int a2] yv_X5_addVisit ml_X5_132 (by omega) (by decide) rfl rfl (Nat.le_of_ble_eq_true rfl) h_a0 (fun q hq => con_X5_addVisit h_a0 h_a1 hq) dX5_lay_161 (fun q7 _ => ?_)
          refine c_if_ne (tgt := 170) G dX5_lay_164 (by decide) (fun _ => ?_) (fun _ => ?_)
          · skip
            exact c_weak _ [0, 2, 4] rfl (hE167 q7.2)
          · skip
            refine c_iinc G (fun y__ => [(6, .int y__), (0, .ref (wB w + pz (a0))), (1, .ref (wB w + pz (a1))), (2, .int a2), (3, .int q1), (4, .int v1), (5, .int l5_1)]) dX5_lay_170 6 rfl kI_1 (by decide) (fun _ => rfl) (fun l6_2 _ => ?_)
            refine c_goto (tgt := 67) G dX5_lay_173 (by decide) ?_
            exact c_weak _ [1, 2, 3, 4, 5, 6, 0] rfl (ih l5_1 l6_2 q7.2)
        · skip
          refine c_iinc G (fun y__ => [(6, .int y__), (0, .ref (wB w + pz (a0))), (1, .ref (wB w + pz (a1))), (2, .int a2), (3, .int q1), (4, .int v1), (5, .int l5_1)]) dX5_lay_170 6 rfl kI_1 (by decide) (fun _ => rfl) (fun l6_3 _ => ?_)
          refine c_goto (tgt := 67) G dX5_lay_173 (by decide) ?_
          exact c_weak _ [1, 2, 3, 4, 5, 6, 0] rfl (ih l5_1 l6_3 q6.2)
      · skip
        refine c_icmp_ge (tgt := 149) G dX5_lay_94 (by decide) (fun _ => ?_) (fun _ => ?_)
        · skip
          exact c_weak _ [1, 2, 3, 4, 5, 6, 7] rfl (hJ149 ())
        · skip
          refine c_iload G dX5_lay_97 0 rfl ?_
          refine c_aload_n G dX5_lay_99 rfl 1 rfl ?_
          refine c_getI G fl_X5_116 h_a0 rfl dX5_lay_100 ?_
          refine c_iconst G m1 dX5_lay_103 kI_m1 ?_
          refine c_ixor G dX5_lay_104 ?_
          refine c_iand G dX5_lay_105 ?_
          refine c_if_ne (tgt := 149) G dX5_lay_106 (by decide) (fun _ => ?_) (fun _ => ?_)
          · skip
            refine c_aload_n G dX5_lay_109 rfl 1 rfl ?_
            refine c_iload_n G dX5_lay_110 rfl 3 rfl ?_
            refine c_sipush G (nI 1000) dX5_lay_111 kS_1000 ?_
            refine c_iload G dX5_lay_114 6 rfl ?_
            refine c_iadd G dX5_lay_116 ?_
            refine c_callV_V (d := 0) (rest := []) G [.int a2, .int ((nI 1000) + l5_1)] yv_X5_add ml_X5_124 (by omega) (by decide) rfl rfl (Nat.le_of_ble_eq_true rfl) h_a0 (fun q hq => con_X5_add h_a0 hq) dX5_lay_117 (fun M7 _ => ?_)
            refine c_iinc G (fun y__ => [(5, .int y__), (7, .int l7_1), (0, .ref (wB w + pz (a0))), (1, .ref (wB w + pz (a1))), (2, .int a2), (3, .int q1), (4, .int v1), (6, .int l6_1)]) dX5_lay_120 6 rfl kI_1 (by decide) (fun _ => rfl) (fun l5_2 _ => ?_)
            refine c_aload_n G dX5_lay_123 rfl 2 rfl ?_
            refine c_dup G dX5_lay_124 rfl ?_
            refine c_getI G fl_X5_116 h_a0 rfl dX5_lay_125 ?_
            refine c_aload_n G dX5_lay_128 rfl 2 rfl ?_
            refine c_aload_n G dX5_lay_129 rfl 3 rfl ?_
            refine c_iload_n G dX5_lay_130 rfl 5 rfl ?_
            refine c_iload G dX5_lay_131 0 rfl ?_
            refine c_callV_PI (d := 0) (rest := [.int (M7.1 a0 6), .ref (wB w + pz (a0))]) G [.ref (wB w + pz (a1)), .int q1, .int l5_2] yv_X5_during ml_X5_113 (by omega) (by decide) rfl rfl (Nat.le_of_ble_eq_true rfl) h_a0 (fun q hq => con_X5_during h_a0 h_a1 hq) dX5_lay_133 (fun q8 _ => ?_)
            refine c_aload_n G dX5_lay_136 rfl 3 rfl ?_
            refine c_iload_n G dX5_lay_137 rfl 5 rfl ?_
            refine c_callV_PI (d := 0) (rest := [.int q8, .int (M7.1 a0 6), .ref (wB w + pz (a0))]) G [.int q1] yv_X1_insOf ml_X5_82 (by omega) (by decide) rfl rfl (Nat.le_of_ble_eq_true rfl) h_a1 (fun q hq => con_X1_insOf h_a1 hq) dX5_lay_138 (fun q9 _ => ?_)
            refine c_iand G dX5_lay_141 ?_
            refine c_ior G dX5_lay_142 ?_
            refine c_putI G fp_X5_116 h_a0 rfl dX5_lay_143 (fun M8 _ => ?_)
            refine c_goto (tgt := 170) G dX5_lay_146 (by decide) ?_
            refine c_iinc G (fun y__ => [(6, .int y__), (5, .int l5_2), (7, .int l7_1), (0, .ref (wB w + pz (a0))), (1, .ref (wB w + pz (a1))), (2, .int a2), (3, .int q1), (4, .int v1)]) dX5_lay_170 7 rfl kI_1 (by decide) (fun _ => rfl) (fun l6_4 _ => ?_)
            refine c_goto (tgt := 67) G dX5_lay_173 (by decide) ?_
            exact c_weak _ [3, 4, 5, 6, 7, 1, 0] rfl (ih l5_2 l6_4 M8)
          · skip
            exact c_weak _ [1, 2, 3, 4, 5, 6, 7] rfl (hJ149 ())
set_option maxHeartbeats 4000000 in
set_option maxRecDepth 100000 in
theorem con_X5_lay {w : Wp} {N : Nat} {a0 : Nat} {a1 : Nat} {a2 : Int32} {M : Mm} {q : Mm} (h_a0 : lay a0 = (5, 5)) (h_a1 : lay a1 = (5, 1)) (hq : D_X5_lay N a0 a1 a2 M = some q) : Con w 2 yX5_lay cX5_lay 8 none [.ref (wB w + pz (a0)), .ref (wB w + pz (a1)), .int a2] M (encV q) := by
  refine Con.of encV q _ hq (by decide) (Nat.le_of_ble_eq_true rfl) ?_
  intro X G Q hQ
  have G : Good w X cX5_lay 8 RX5 none 2 := G
  refine c_weak [(0, .ref (wB w + pz (a0))), (1, .ref (wB w + pz (a1))), (2, .int a2)] [0, 1, 2] rfl ?_
  rw [D_X5_lay]
  refine c_aload_n G dX5_lay_0 rfl 0 rfl ?_
  refine c_getF G fl_X5_27 h_a0 rfl dX5_lay_1 ?_
  refine c_iload_n G dX5_lay_4 rfl 2 rfl ?_
  refine c_iconst G (nI 0) dX5_lay_5 kI_0 ?_
  refine c_iast G (lf h_a0 7 rfl) dX5_lay_6 (fun M1 _ => ?_)
  refine c_aload_n G dX5_lay_7 rfl 0 rfl ?_
  refine c_getF G fl_X5_30 h_a0 rfl dX5_lay_8 ?_
  refine c_iload_n G dX5_lay_11 rfl 2 rfl ?_
  refine c_iconst G (nI 0) dX5_lay_12 kI_0 ?_
  refine c_iast G (lf h_a0 8 rfl) dX5_lay_13 (fun M2 _ => ?_)
  refine c_aload_n G dX5_lay_14 rfl 0 rfl ?_
  refine c_getF G fl_X5_33 h_a0 rfl dX5_lay_15 ?_
  refine c_iload_n G dX5_lay_18 rfl 2 rfl ?_
  refine c_iconst G (nI 0) dX5_lay_19 kI_0 ?_
  refine c_iast G (lf h_a0 9 rfl) dX5_lay_20 (fun M3 _ => ?_)
  refine c_aload_n G dX5_lay_21 rfl 1 rfl ?_
  refine c_iload_n G dX5_lay_22 rfl 2 rfl ?_
  refine c_iconst G (nI 0) dX5_lay_23 kI_0 ?_
  refine c_callV_PI (d := 0) (rest := []) G [.int a2, .int (nI 0)] yv_X1_side ml_X5_72 (by omega) (by decide) rfl rfl (Nat.le_of_ble_eq_true rfl) h_a1 (fun q hq => con_X1_side h_a1 hq) dX5_lay_24 (fun q1 _ => ?_)
  refine c_istore_n G [(3, .int q1), (0, .ref (wB w + pz (a0))), (1, .ref (wB w + pz (a1))), (2, .int a2)] dX5_lay_27 rfl (by decide) rfl ?_
  refine c_aload_n G dX5_lay_28 rfl 1 rfl ?_
  refine c_getF G fl_X5_9 h_a0 rfl dX5_lay_29 ?_
  refine c_iload_n G dX5_lay_32 rfl 0 rfl ?_
  refine c_iald G (lf h_a0 0 rfl) dX5_lay_33 (fun v1 _ => ?_)
  refine c_istore G [(4, .int v1), (3, .int q1), (0, .ref (wB w + pz (a0))), (1, .ref (wB w + pz (a1))), (2, .int a2)] dX5_lay_34 (by decide) rfl ?_
  refine c_iconst G (nI 1) dX5_lay_36 kI_1 ?_
  refine c_istore G [(5, .int (nI 1)), (4, .int v1), (3, .int q1), (0, .ref (wB w + pz (a0))), (1, .ref (wB w + pz (a1))), (2, .int a2)] dX5_lay_37 (by decide) rfl ?_
  refine c_aload_n G dX5_lay_39 rfl 3 rfl ?_
  refine c_aload_n G dX5_lay_40 rfl 3 rfl ?_
  refine c_aload_n G dX5_lay_41 rfl 4 rfl ?_
  refine c_iload_n G dX5_lay_42 rfl 2 rfl ?_
  refine c_iconst G (nI 1) dX5_lay_43 kI_1 ?_
  refine c_callV_PI (d := 0) (rest := [.ref (wB w + pz (a0))]) G [.ref (wB w + pz (a1)), .int q1, .int (nI 1)] yv_X5_during ml_X5_113 (by omega) (by decide) rfl rfl (Nat.le_of_ble_eq_true rfl) h_a0 (fun q hq => con_X5_during h_a0 h_a1 hq) dX5_lay_44 (fun q2 _ => ?_)
  refine c_aload_n G dX5_lay_47 rfl 4 rfl ?_
  refine c_iload_n G dX5_lay_48 rfl 2 rfl ?_
  refine c_callV_PI (d := 0) (rest := [.int q2, .ref (wB w + pz (a0))]) G [.int q1] yv_X1_insOf ml_X5_82 (by omega) (by decide) rfl rfl (Nat.le_of_ble_eq_true rfl) h_a1 (fun q hq => con_X1_insOf h_a1 hq) dX5_lay_49 (fun q3 _ => ?_)
  refine c_iand G dX5_lay_52 ?_
  refine c_putI G fp_X5_116 h_a0 rfl dX5_lay_53 (fun M4 _ => ?_)
  refine c_aload_n G dX5_lay_56 rfl 3 rfl ?_
  refine c_getF G fl_X5_24 h_a0 rfl dX5_lay_57 ?_
  refine c_iconst G (nI 0) dX5_lay_60 kI_0 ?_
  refine c_callS_V (d := 0) (rest := []) G [.ref (wB w + pz ((a0 + 5))), .int (nI 0)] ys_J7_fill_53178 ml_X5_119 (by omega) (by decide) rfl rfl (Nat.le_of_ble_eq_true rfl) (fun q hq => con_J7_fill_53178 (ll (lf h_a0 5 rfl)) hq) dX5_lay_61 (fun M5 _ => ?_)
  refine c_iconst G (nI 0) dX5_lay_64 kI_0 ?_
  refine c_istore G [(6, .int (nI 0)), (5, .int (nI 1)), (4, .int v1), (3, .int q1), (0, .ref (wB w + pz (a0))), (1, .ref (wB w + pz (a1))), (2, .int a2)] dX5_lay_65 (by decide) rfl ?_
  refine c_weak _ [4, 5, 6, 3, 2, 1, 0] rfl (cl_X5_lay_67 G hQ _ _ h_a0 h_a1 ?_ ?_ N (nI 1) (nI 0) M5)
  · intro M9
    refine c_aload_n G dX5_lay_176 rfl 0 rfl ?_
    refine c_iload_n G dX5_lay_177 rfl 1 rfl ?_
    refine c_sipush G (nI 1000) dX5_lay_178 kS_1000 ?_
    refine c_iload G dX5_lay_181 2 rfl ?_
    refine c_iadd G dX5_lay_183 ?_
    refine c_callV_V (d := 0) (rest := []) G [.int a2, .int ((nI 1000) + v1)] yv_X5_add ml_X5_124 (by omega) (by decide) rfl rfl (Nat.le_of_ble_eq_true rfl) h_a0 (fun q hq => con_X5_add h_a0 hq) dX5_lay_184 (fun M10 _ => ?_)
    exact c_vret G hQ dX5_lay_187
  · intro M11
    refine c_goto (tgt := 176) G dX5_lay_167 (by decide) ?_
    refine c_aload_n G dX5_lay_176 rfl 0 rfl ?_
    refine c_iload_n G dX5_lay_177 rfl 1 rfl ?_
    refine c_sipush G (nI 1000) dX5_lay_178 kS_1000 ?_
    refine c_iload G dX5_lay_181 2 rfl ?_
    refine c_iadd G dX5_lay_183 ?_
    refine c_callV_V (d := 0) (rest := []) G [.int a2, .int ((nI 1000) + v1)] yv_X5_add ml_X5_124 (by omega) (by decide) rfl rfl (Nat.le_of_ble_eq_true rfl) h_a0 (fun q hq => con_X5_add h_a0 hq) dX5_lay_184 (fun M12 _ => ?_)
    exact c_vret G hQ dX5_lay_187
set_option maxHeartbeats 4000000 in
set_option maxRecDepth 100000 in
theorem cl_X5_find_2 {w : Wp} {X : Cx} {Q : State → Prop} {ρ : Mm} (G : Good w X cX5_find 5 RX5 none 3) (hQ : Q = MQ (xL X) (Qd w (encV ρ)) (xA X) (xS X) (xk X) (xs X) (Aw w)) (kE62 : Mm → Option (Mm)) {a1 : Nat} {N : Nat} {a2 : Nat} {a0 : Nat} (h_a1 : lay a1 = (5, 1)) (h_a2 : lay a2 = (5, 3)) (h_a0 : lay a0 = (5, 5)) (hE62 : ∀ (Mz : Mm), Cov w X Q ρ some 5 62 [(0, .ref (wB w + pz (a0))), (1, .ref (wB w + pz (a1))), (2, .ref (wB w + pz (a2)))] [] Mz (kE62 Mz)) : ∀ (n : Nat) (l3_1 : Int32) (M1 : Mm), Cov w X Q ρ some 5 2 [(0, .ref (wB w + pz (a0))), (1, .ref (wB w + pz (a1))), (2, .ref (wB w + pz (a2))), (3, .int l3_1)] [] M1 (L_X5_find_2 kE62 a1 N a2 a0 n l3_1 M1) := by
  intro n
  induction n with
  | zero => intro l3_1 M1; exact c_none
  | succ n ih =>
    intro l3_1 M1
    rw [L_X5_find_2]
    refine c_iload_n G dX5_find_2 rfl 3 rfl ?_
    refine c_aload_n G dX5_find_3 rfl 1 rfl ?_
    refine c_getI G fl_X5_36 h_a1 rfl dX5_find_4 ?_
    refine c_icmp_ge (tgt := 62) G dX5_find_7 (by decide) (fun _ => ?_) (fun _ => ?_)
    · skip
      exact c_weak _ [0, 1, 2] rfl (hE62 M1)
    · skip
      refine c_aload_n G dX5_find_10 rfl 2 rfl ?_
      refine c_getF G fl_X5_42 h_a2 rfl dX5_find_11 ?_
      refine c_bipush G (nI 8) dX5_find_14 kB_8 ?_
      refine c_iload_n G dX5_find_16 rfl 3 rfl ?_
      refine c_imul G dX5_find_17 ?_
      refine c_bipush G (nI 8) dX5_find_18 kB_8 ?_
      refine c_callS_PI (d := 0) (rest := []) G [.ref (wB w + pz ((a2 + 1))), .int ((nI 8) * l3_1), .int (nI 8)] ys_X3_firstRound ml_X5_47 (by omega) (by decide) rfl rfl (Nat.le_of_ble_eq_true rfl) (fun q hq => con_X3_firstRound (ll (lf h_a2 0 rfl)) hq) dX5_find_20 (fun q1 _ => ?_)
      refine c_iconst G m1 dX5_find_23 kI_m1 ?_
      refine c_bj (ej := fun (p32 : Int32) => [(0, .ref (wB w + pz (a0))), (1, .ref (wB w + pz (a1))), (2, .ref (wB w + pz (a2))), (3, .int l3_1)]) (sj := fun p32 => [.int p32]) (mj := fun p32 => M1) (pj := 32) (fun p32 => ?_) (fun F hJ32 => ?_)
      · skip
        refine c_istore G [(4, .int p32), (0, .ref (wB w + pz (a0))), (1, .ref (wB w + pz (a1))), (2, .ref (wB w + pz (a2))), (3, .int l3_1)] dX5_find_32 (by decide) rfl ?_
        refine c_aload_n G dX5_find_34 rfl 1 rfl ?_
        refine c_getF G fl_X5_9 h_a0 rfl dX5_find_35 ?_
        refine c_iload_n G dX5_find_38 rfl 4 rfl ?_
        refine c_iload G dX5_find_39 0 rfl ?_
        refine c_if_eq (tgt := 48) G dX5_find_41 (by decide) (fun _ => ?_) (fun _ => ?_)
        · skip
          refine c_aload_n G dX5_find_48 rfl 1 rfl ?_
          refine c_aload_n G dX5_find_49 rfl 2 rfl ?_
          refine c_aload_n G dX5_find_50 rfl 3 rfl ?_
          refine c_iload_n G dX5_find_51 rfl 4 rfl ?_
          refine c_callV_I (d := 2) (rest := [.int l3_1, .ref (wB w + pz ((a0 + 1)))]) G [.ref (wB w + pz (a1)), .ref (wB w + pz (a2)), .int l3_1] yv_X5_orderOf ml_X5_51 (by omega) (by decide) rfl rfl (Nat.le_of_ble_eq_true rfl) h_a0 (fun q hq => con_X5_orderOf h_a0 h_a1 h_a2 hq) dX5_find_52 (fun q2 _ => ?_)
          refine c_iast G (lf h_a0 0 rfl) dX5_find_55 (fun M2 _ => ?_)
          refine c_iinc G (fun y__ => [(3, .int y__), (4, .int p32), (0, .ref (wB w + pz (a0))), (1, .ref (wB w + pz (a1))), (2, .ref (wB w + pz (a2)))]) dX5_find_56 4 rfl kI_1 (by decide) (fun _ => rfl) (fun l3_2 _ => ?_)
          refine c_goto (tgt := 2) G dX5_find_59 (by decide) ?_
          exact c_weak _ [2, 3, 4, 0] rfl (ih l3_2 M2)
        · skip
          refine c_iconst G (nI 0) dX5_find_44 kI_0 ?_
          refine c_goto (tgt := 55) G dX5_find_45 (by decide) ?_
          refine c_iast G (lf h_a0 0 rfl) dX5_find_55 (fun M3 _ => ?_)
          refine c_iinc G (fun y__ => [(3, .int y__), (4, .int p32), (0, .ref (wB w + pz (a0))), (1, .ref (wB w + pz (a1))), (2, .ref (wB w + pz (a2)))]) dX5_find_56 4 rfl kI_1 (by decide) (fun _ => rfl) (fun l3_3 _ => ?_)
          refine c_goto (tgt := 2) G dX5_find_59 (by decide) ?_
          exact c_weak _ [2, 3, 4, 0] rfl (ih l3_3 M3)
      · skip
        refine c_icmp_eq (tgt := 31) G dX5_find_24 (by decide) (fun _ => ?_) (fun _ => ?_)
        · skip
          refine c_iconst G (nI 0) dX5_find_31 kI_0 ?_
          exact c_weak _ [0, 1, 2, 3] rfl (hJ32 (nI 0))
        · skip
          refine c_iconst G (nI 1) dX5_find_27 kI_1 ?_
          refine c_goto (tgt := 32) G dX5_find_28 (by decide) ?_
          exact c_weak _ [0, 1, 2, 3] rfl (hJ32 (nI 1))
set_option maxHeartbeats 4000000 in
set_option maxRecDepth 100000 in
theorem cl_X5_find_74 {w : Wp} {X : Cx} {Q : State → Prop} {ρ : Mm} (G : Good w X cX5_find 5 RX5 none 3) (hQ : Q = MQ (xL X) (Qd w (encV ρ)) (xA X) (xS X) (xk X) (xs X) (Aw w)) (kE120 : Mm → Option (Mm)) {N : Nat} {a0 : Nat} {a1 : Nat} {a2 : Nat} (h_a0 : lay a0 = (5, 5)) (h_a1 : lay a1 = (5, 1)) (h_a2 : lay a2 = (5, 3)) (hE120 : ∀ (Mz : Mm), Cov w X Q ρ some 5 120 [(0, .ref (wB w + pz (a0))), (1, .ref (wB w + pz (a1)))] [] Mz (kE120 Mz)) : ∀ (n : Nat) (l3_5 : Int32) (M6 : Mm), Cov w X Q ρ some 5 74 [(0, .ref (wB w + pz (a0))), (1, .ref (wB w + pz (a1))), (2, .ref (wB w + pz (a2))), (3, .int l3_5)] [] M6 (L_X5_find_74 kE120 N a0 a1 a2 n l3_5 M6) := by
  intro n
  induction n with
  | zero => intro l3_5 M6; exact c_none
  | succ n ih =>
    intro l3_5 M6
    rw [L_X5_find_74]
    refine c_iload_n G dX5_find_74 rfl 3 rfl ?_
    refine c_if_lt (tgt := 120) G dX5_find_75 (by decide) (fun _ => ?_) (fun _ => ?_)
    · skip
      exact c_weak _ [0, 1] rfl (hE120 M6)
    · skip
      refine c_aload_n G dX5_find_78 rfl 0 rfl ?_
      refine c_aload_n G dX5_find_79 rfl 1 rfl ?_
      refine c_aload_n G dX5_find_80 rfl 2 rfl ?_
      refine c_iload_n G dX5_find_81 rfl 3 rfl ?_
      refine c_callV_V (d := 1) (rest := []) G [.ref (wB w + pz (a1)), .ref (wB w + pz (a2)), .int l3_5] yv_X5_widen ml_X5_61 (by omega) (by decide) rfl rfl (Nat.le_of_ble_eq_true rfl) h_a0 (fun q hq => con_X5_widen h_a0 h_a1 h_a2 hq) dX5_find_82 (fun M7 _ => ?_)
      refine c_aload_n G dX5_find_85 rfl 0 rfl ?_
      refine c_getF G fl_X5_18 h_a0 rfl dX5_find_86 ?_
      refine c_bipush G (nI 32) dX5_find_89 kB_32 ?_
      refine c_iload_n G dX5_find_91 rfl 3 rfl ?_
      refine c_imul G dX5_find_92 ?_
      refine c_bipush G (nI 8) dX5_find_93 kB_8 ?_
      refine c_aload_n G dX5_find_95 rfl 1 rfl ?_
      refine c_getF G fl_X5_65 h_a1 rfl dX5_find_96 ?_
      refine c_iload_n G dX5_find_99 rfl 3 rfl ?_
      refine c_iald G (lf h_a1 8 rfl) dX5_find_100 (fun v1 _ => ?_)
      refine c_imul G dX5_find_101 ?_
      refine c_callS_PI (d := 0) (rest := []) G [.ref (wB w + pz ((a0 + 3))), .int ((nI 32) * l3_5), .int ((nI 8) * v1)] ys_X3_firstRound ml_X5_47 (by omega) (by decide) rfl rfl (Nat.le_of_ble_eq_true rfl) (fun q hq => con_X3_firstRound (ll (lf h_a0 2 rfl)) hq) dX5_find_102 (fun q3 _ => ?_)
      refine c_iconst G m1 dX5_find_105 kI_m1 ?_
      refine c_icmp_eq (tgt := 114) G dX5_find_106 (by decide) (fun _ => ?_) (fun _ => ?_)
      · skip
        refine c_iinc G (fun y__ => [(3, .int y__), (0, .ref (wB w + pz (a0))), (1, .ref (wB w + pz (a1))), (2, .ref (wB w + pz (a2)))]) dX5_find_114 3 rfl kI_m1 (by decide) (fun _ => rfl) (fun l3_6 _ => ?_)
        refine c_goto (tgt := 74) G dX5_find_117 (by decide) ?_
        exact c_weak _ [1, 2, 3, 0] rfl (ih l3_6 M7)
      · skip
        refine c_aload_n G dX5_find_109 rfl 0 rfl ?_
        refine c_iload_n G dX5_find_110 rfl 3 rfl ?_
        refine c_putI G fp_X5_55 h_a0 rfl dX5_find_111 (fun M8 _ => ?_)
        refine c_iinc G (fun y__ => [(3, .int y__), (0, .ref (wB w + pz (a0))), (1, .ref (wB w + pz (a1))), (2, .ref (wB w + pz (a2)))]) dX5_find_114 3 rfl kI_m1 (by decide) (fun _ => rfl) (fun l3_7 _ => ?_)
        refine c_goto (tgt := 74) G dX5_find_117 (by decide) ?_
        exact c_weak _ [1, 2, 3, 0] rfl (ih l3_7 M8)
set_option maxHeartbeats 4000000 in
set_option maxRecDepth 100000 in
theorem cl_X5_find_122 {w : Wp} {X : Cx} {Q : State → Prop} {ρ : Mm} (G : Good w X cX5_find 5 RX5 none 3) (hQ : Q = MQ (xL X) (Qd w (encV ρ)) (xA X) (xS X) (xk X) (xs X) (Aw w)) {a1 : Nat} {a0 : Nat} {N : Nat} (h_a1 : lay a1 = (5, 1)) (h_a0 : lay a0 = (5, 5)) : ∀ (n : Nat) (l3_8 : Int32) (M10 : Mm), Cov w X Q ρ some 5 122 [(0, .ref (wB w + pz (a0))), (1, .ref (wB w + pz (a1))), (3, .int l3_8)] [] M10 (L_X5_find_122 a1 a0 N n l3_8 M10) := by
  intro n
  induction n with
  | zero => intro l3_8 M10; exact c_none
  | succ n ih =>
    intro l3_8 M10
    rw [L_X5_find_122]
    refine c_iload_n G dX5_find_122 rfl 2 rfl ?_
    refine c_aload_n G dX5_find_123 rfl 1 rfl ?_
    refine c_getI G fl_X5_58 h_a1 rfl dX5_find_124 ?_
    refine c_icmp_ge (tgt := 150) G dX5_find_127 (by decide) (fun _ => ?_) (fun _ => ?_)
    · skip
      exact c_vret G hQ dX5_find_150
    · skip
      refine c_aload_n G dX5_find_130 rfl 0 rfl ?_
      refine c_getI G fl_X5_55 h_a0 rfl dX5_find_131 ?_
      refine c_iconst G m1 dX5_find_134 kI_m1 ?_
      refine c_icmp_ne (tgt := 150) G dX5_find_135 (by decide) (fun _ => ?_) (fun _ => ?_)
      · skip
        refine c_aload_n G dX5_find_138 rfl 0 rfl ?_
        refine c_aload_n G dX5_find_139 rfl 1 rfl ?_
        refine c_iload_n G dX5_find_140 rfl 2 rfl ?_
        refine c_callV_V (d := 2) (rest := []) G [.ref (wB w + pz (a1)), .int l3_8] yv_X5_lay ml_X5_68 (by omega) (by decide) rfl rfl (Nat.le_of_ble_eq_true rfl) h_a0 (fun q hq => con_X5_lay h_a0 h_a1 hq) dX5_find_141 (fun M11 _ => ?_)
        refine c_iinc G (fun y__ => [(3, .int y__), (0, .ref (wB w + pz (a0))), (1, .ref (wB w + pz (a1)))]) dX5_find_144 2 rfl kI_1 (by decide) (fun _ => rfl) (fun l3_9 _ => ?_)
        refine c_goto (tgt := 122) G dX5_find_147 (by decide) ?_
        exact c_weak _ [1, 2, 0] rfl (ih l3_9 M11)
      · skip
        exact c_vret G hQ dX5_find_150
set_option maxHeartbeats 4000000 in
set_option maxRecDepth 100000 in
theorem con_X5_find {w : Wp} {N : Nat} {a0 : Nat} {a1 : Nat} {a2 : Nat} {M : Mm} {q : Mm} (h_a0 : lay a0 = (5, 5)) (h_a1 : lay a1 = (5, 1)) (h_a2 : lay a2 = (5, 3)) (hq : D_X5_find N a0 a1 a2 M = some q) : Con w 3 yX5_find cX5_find 5 none [.ref (wB w + pz (a0)), .ref (wB w + pz (a1)), .ref (wB w + pz (a2))] M (encV q) := by
  refine Con.of encV q _ hq (by decide) (Nat.le_of_ble_eq_true rfl) ?_
  intro X G Q hQ
  have G : Good w X cX5_find 5 RX5 none 3 := G
  refine c_weak [(0, .ref (wB w + pz (a0))), (1, .ref (wB w + pz (a1))), (2, .ref (wB w + pz (a2)))] [0, 1, 2] rfl ?_
  rw [D_X5_find]
  refine c_iconst G (nI 0) dX5_find_0 kI_0 ?_
  refine c_istore_n G [(3, .int (nI 0)), (0, .ref (wB w + pz (a0))), (1, .ref (wB w + pz (a1))), (2, .ref (wB w + pz (a2)))] dX5_find_1 rfl (by decide) rfl ?_
  refine c_weak _ [1, 2, 3, 0] rfl (cl_X5_find_2 G hQ _ h_a1 h_a2 h_a0 ?_ N (nI 0) M)
  · intro M4
    refine c_aload_n G dX5_find_62 rfl 0 rfl ?_
    refine c_iconst G m1 dX5_find_63 kI_m1 ?_
    refine c_putI G fp_X5_55 h_a0 rfl dX5_find_64 (fun M5 _ => ?_)
    refine c_aload_n G dX5_find_67 rfl 1 rfl ?_
    refine c_getI G fl_X5_58 h_a1 rfl dX5_find_68 ?_
    refine c_iconst G (nI 1) dX5_find_71 kI_1 ?_
    refine c_isub G dX5_find_72 ?_
    refine c_let (fun l3_4 _ => ?_)
    refine c_istore_n G [(3, .int l3_4), (0, .ref (wB w + pz (a0))), (1, .ref (wB w + pz (a1))), (2, .ref (wB w + pz (a2)))] dX5_find_73 rfl (by decide) rfl ?_
    refine c_weak _ [1, 2, 3, 0] rfl (cl_X5_find_74 G hQ _ h_a0 h_a1 h_a2 ?_ N l3_4 M5)
    · intro M9
      refine c_iconst G (nI 0) dX5_find_120 kI_0 ?_
      refine c_istore_n G [(3, .int (nI 0)), (0, .ref (wB w + pz (a0))), (1, .ref (wB w + pz (a1)))] dX5_find_121 rfl (by decide) rfl ?_
      refine c_weak _ [1, 2, 0] rfl (cl_X5_find_122 G hQ  h_a1 h_a0 N (nI 0) M9)
set_option maxHeartbeats 4000000 in
set_option maxRecDepth 100000 in
theorem con_X6_forget {w : Wp} {N : Nat} {a0 : Nat} {M : Mm} {q : Mm} (h_a0 : lay a0 = (5, 6)) (hq : D_X6_forget N a0 M = some q) : Con w 0 yX6_forget cX6_forget 1 none [.ref (wB w + pz (a0))] M (encV q) := by
  refine Con.of encV q _ hq (by decide) (Nat.le_of_ble_eq_true rfl) ?_
  intro X G Q hQ
  have G : Good w X cX6_forget 1 RX6 none 0 := G
  refine c_weak [(0, .ref (wB w + pz (a0)))] [0] rfl ?_
  rw [D_X6_forget]
  refine c_aload_n G dX6_forget_0 rfl 0 rfl ?_
  refine c_iconst G (nI 0) dX6_forget_1 kI_0 ?_
  refine c_putZ G fp_X6_27 h_a0 rfl dX6_forget_2 (fun M1 _ => ?_)
  exact c_vret G hQ dX6_forget_5
set_option maxHeartbeats 4000000 in
set_option maxRecDepth 100000 in
theorem con_X11_answer {w : Wp} {N : Nat} {a0 : Nat} {a1 : Int32} {M : Mm} {q : Int32 × Mm} (h_a0 : lay a0 = (5, 11)) (hq : D_X11_answer N a0 a1 M = some q) : Con w 0 yX11_answer cX11_answer 2 (some .int) [.ref (wB w + pz (a0)), .int a1] M (encI q) := by
  refine Con.of encI q _ hq (by decide) (Nat.le_of_ble_eq_true rfl) ?_
  intro X G Q hQ
  have G : Good w X cX11_answer 2 RX11 (some .int) 0 := G
  refine c_weak [(0, .ref (wB w + pz (a0))), (1, .int a1)] [0, 1] rfl ?_
  rw [D_X11_answer]
  refine c_aload_n G dX11_answer_0 rfl 0 rfl ?_
  refine c_iconst G (nI 0) dX11_answer_1 kI_0 ?_
  refine c_putI G fp_X11_9 h_a0 rfl dX11_answer_2 (fun M1 _ => ?_)
  refine c_iload_n G dX11_answer_5 rfl 1 rfl ?_
  exact c_iret G hQ dX11_answer_6
set_option maxHeartbeats 4000000 in
set_option maxRecDepth 100000 in
theorem con_X11_grammar {w : Wp} {N : Nat} {a0 : Nat} {a1 : Int32} {M : Mm} {q : Int32 × Mm} (h_a0 : lay a0 = (5, 11)) (hq : D_X11_grammar N a0 a1 M = some q) : Con w 30 yX11_grammar cX11_grammar 3 (some .int) [.ref (wB w + pz (a0)), .int a1] M (encI q) := by
  refine Con.of encI q _ hq (by decide) (Nat.le_of_ble_eq_true rfl) ?_
  intro X G Q hQ
  have G : Good w X cX11_grammar 3 RX11 (some .int) 30 := G
  refine c_weak [(0, .ref (wB w + pz (a0))), (1, .int a1)] [0, 1] rfl ?_
  rw [D_X11_grammar]
  refine c_aload_n G dX11_grammar_0 rfl 0 rfl ?_
  refine c_getF G fl_X11_26 h_a0 rfl dX11_grammar_1 ?_
  refine c_iload_n G dX11_grammar_4 rfl 1 rfl ?_
  refine c_callV_PI (d := 0) (rest := []) G [.int a1] yv_X7_holds ml_X11_109 (by omega) (by decide) rfl rfl (Nat.le_of_ble_eq_true rfl) (lf h_a0 4 rfl) (fun q hq => con_X7_holds (lf h_a0 4 rfl) hq) dX11_grammar_5 (fun q1 _ => ?_)
  refine c_if_ne (tgt := 17) G dX11_grammar_8 (by decide) (fun _ => ?_) (fun _ => ?_)
  · skip
    refine c_aload_n G dX11_grammar_11 rfl 0 rfl ?_
    refine c_iconst G (nI 1) dX11_grammar_12 kI_1 ?_
    refine c_callV_I (d := 0) (rest := []) G [.int (nI 1)] yv_X11_refuse ml_X11_113 (by omega) (by decide) rfl rfl (Nat.le_of_ble_eq_true rfl) h_a0 (fun q hq => con_X11_refuse h_a0 hq) dX11_grammar_13 (fun q2 _ => ?_)
    exact c_iret G hQ dX11_grammar_16
  · skip
    refine c_aload_n G dX11_grammar_17 rfl 0 rfl ?_
    refine c_getF G fl_X11_26 h_a0 rfl dX11_grammar_18 ?_
    refine c_iload_n G dX11_grammar_21 rfl 1 rfl ?_
    refine c_callV_V (d := 3) (rest := []) G [.int a1] yv_X7_begin ml_X11_117 (by omega) (by decide) rfl rfl (Nat.le_of_ble_eq_true rfl) (lf h_a0 4 rfl) (fun q hq => con_X7_begin (lf h_a0 4 rfl) hq) dX11_grammar_22 (fun M1 _ => ?_)
    refine c_aload_n G dX11_grammar_25 rfl 0 rfl ?_
    refine c_getF G fl_X11_33 h_a0 rfl dX11_grammar_26 ?_
    refine c_aload_n G dX11_grammar_29 rfl 0 rfl ?_
    refine c_getF G fl_X11_26 h_a0 rfl dX11_grammar_30 ?_
    refine c_aload_n G dX11_grammar_33 rfl 0 rfl ?_
    refine c_getR (c' := 1) G fl_X11_79 h_a0 rfl dX11_grammar_34 (fun r1 _ h_r1 => ?_)
    refine c_callV_I (d := 29) (rest := []) G [.ref (wB w + pz ((a0 + 1))), .ref (wB w + pz (r1))] yv_X2_read ml_X11_120 (by omega) (by decide) rfl rfl (Nat.le_of_ble_eq_true rfl) (lf h_a0 5 rfl) (fun q hq => con_X2_read (lf h_a0 5 rfl) (lf h_a0 4 rfl) h_r1 hq) dX11_grammar_37 (fun q3 _ => ?_)
    refine c_istore_n G [(2, .int q3.1), (0, .ref (wB w + pz (a0))), (1, .int a1)] dX11_grammar_40 rfl (by decide) rfl ?_
    refine c_aload_n G dX11_grammar_41 rfl 1 rfl ?_
    refine c_iload_n G dX11_grammar_42 rfl 0 rfl ?_
    refine c_callV_V (d := 0) (rest := []) G [.int q3.1] yv_X11_keepFault ml_X11_124 (by omega) (by decide) rfl rfl (Nat.le_of_ble_eq_true rfl) h_a0 (fun q hq => con_X11_keepFault h_a0 hq) dX11_grammar_43 (fun M2 _ => ?_)
    refine c_iload_n G dX11_grammar_46 rfl 0 rfl ?_
    refine c_if_ne (tgt := 57) G dX11_grammar_47 (by decide) (fun _ => ?_) (fun _ => ?_)
    · skip
      refine c_aload_n G dX11_grammar_50 rfl 1 rfl ?_
      refine c_bipush G (nI 9) dX11_grammar_51 kB_9 ?_
      refine c_callV_I (d := 0) (rest := []) G [.int (nI 9)] yv_X11_refuse ml_X11_113 (by omega) (by decide) rfl rfl (Nat.le_of_ble_eq_true rfl) h_a0 (fun q hq => con_X11_refuse h_a0 hq) dX11_grammar_53 (fun q4 _ => ?_)
      exact c_iret G hQ dX11_grammar_56
    · skip
      refine c_aload_n G dX11_grammar_57 rfl 1 rfl ?_
      refine c_callV_V (d := 0) (rest := []) G [] yv_X11_swapRules ml_X11_128 (by omega) (by decide) rfl rfl (Nat.le_of_ble_eq_true rfl) h_a0 (fun q hq => con_X11_swapRules h_a0 hq) dX11_grammar_58 (fun M3 _ => ?_)
      refine c_aload_n G dX11_grammar_61 rfl 1 rfl ?_
      refine c_getR (c' := 8) G fl_X11_85 h_a0 rfl dX11_grammar_62 (fun r2 _ h_r2 => ?_)
      refine c_callV_V (d := 1) (rest := []) G [] yv_X8_clear ml_X11_131 (by omega) (by decide) rfl rfl (Nat.le_of_ble_eq_true rfl) h_r2 (fun q hq => con_X8_clear h_r2 hq) dX11_grammar_65 (fun M4 _ => ?_)
      refine c_aload_n G dX11_grammar_68 rfl 1 rfl ?_
      refine c_getF G fl_X11_47 h_a0 rfl dX11_grammar_69 ?_
      refine c_aload_n G dX11_grammar_72 rfl 1 rfl ?_
      refine c_getR (c' := 1) G fl_X11_75 h_a0 rfl dX11_grammar_73 (fun r3 _ h_r3 => ?_)
      refine c_callV_V (d := 2) (rest := []) G [.ref (wB w + pz (r3))] yv_X3_find ml_X11_134 (by omega) (by decide) rfl rfl (Nat.le_of_ble_eq_true rfl) (lf h_a0 7 rfl) (fun q hq => con_X3_find (lf h_a0 7 rfl) h_r3 hq) dX11_grammar_76 (fun M5 _ => ?_)
      refine c_aload_n G dX11_grammar_79 rfl 1 rfl ?_
      refine c_getF G fl_X11_54 h_a0 rfl dX11_grammar_80 ?_
      refine c_aload_n G dX11_grammar_83 rfl 1 rfl ?_
      refine c_getR (c' := 1) G fl_X11_75 h_a0 rfl dX11_grammar_84 (fun r4 _ h_r4 => ?_)
      refine c_aload_n G dX11_grammar_87 rfl 1 rfl ?_
      refine c_getF G fl_X11_47 h_a0 rfl dX11_grammar_88 ?_
      refine c_callV_V (d := 3) (rest := []) G [.ref (wB w + pz (r4)), .ref (wB w + pz ((a0 + 8)))] yv_X5_find ml_X11_138 (by omega) (by decide) rfl rfl (Nat.le_of_ble_eq_true rfl) (lf h_a0 8 rfl) (fun q hq => con_X5_find (lf h_a0 8 rfl) h_r4 (lf h_a0 7 rfl) hq) dX11_grammar_91 (fun M6 _ => ?_)
      refine c_aload_n G dX11_grammar_94 rfl 1 rfl ?_
      refine c_getF G fl_X11_61 h_a0 rfl dX11_grammar_95 ?_
      refine c_callV_V (d := 0) (rest := []) G [] yv_X6_forget ml_X11_141 (by omega) (by decide) rfl rfl (Nat.le_of_ble_eq_true rfl) (lf h_a0 9 rfl) (fun q hq => con_X6_forget (lf h_a0 9 rfl) hq) dX11_grammar_98 (fun M7 _ => ?_)
      refine c_aload_n G dX11_grammar_101 rfl 1 rfl ?_
      refine c_aload_n G dX11_grammar_102 rfl 1 rfl ?_
      refine c_getR (c' := 1) G fl_X11_75 h_a0 rfl dX11_grammar_103 (fun r5 _ h_r5 => ?_)
      refine c_getI G fl_X11_144 h_r5 rfl dX11_grammar_106 ?_
      refine c_callV_I (d := 0) (rest := []) G [.int (M7.1 r5 1)] yv_X11_answer ml_X11_147 (by omega) (by decide) rfl rfl (Nat.le_of_ble_eq_true rfl) h_a0 (fun q hq => con_X11_answer h_a0 hq) dX11_grammar_109 (fun q5 _ => ?_)
      exact c_iret G hQ dX11_grammar_112
set_option maxHeartbeats 4000000 in
set_option maxRecDepth 100000 in
theorem con_X11_fault {w : Wp} {N : Nat} {a0 : Nat} {a1 : Int32} {M : Mm} {q : Int32} (h_a0 : lay a0 = (5, 11)) (hq : D_X11_fault N a0 a1 M = some q) : Con w 0 yX11_fault cX11_fault 2 (some .int) [.ref (wB w + pz (a0)), .int a1] M ((encPI M) q) := by
  refine Con.of (encPI M) q _ hq (by decide) (Nat.le_of_ble_eq_true rfl) ?_
  intro X G Q hQ
  have G : Good w X cX11_fault 2 RX11 (some .int) 0 := G
  refine c_weak [(0, .ref (wB w + pz (a0))), (1, .int a1)] [0, 1] rfl ?_
  rw [D_X11_fault]
  refine c_iload_n G dX11_fault_0 rfl 1 rfl ?_
  refine c_if_ne (tgt := 11) G dX11_fault_1 (by decide) (fun _ => ?_) (fun _ => ?_)
  · skip
    refine c_aload_n G dX11_fault_4 rfl 0 rfl ?_
    refine c_getI G fl_X11_13 h_a0 rfl dX11_fault_5 ?_
    refine c_goto (tgt := 24) G dX11_fault_8 (by decide) ?_
    exact c_iretP G hQ dX11_fault_24
  · skip
    refine c_iload_n G dX11_fault_11 rfl 1 rfl ?_
    refine c_iconst G (nI 1) dX11_fault_12 kI_1 ?_
    refine c_icmp_ne (tgt := 23) G dX11_fault_13 (by decide) (fun _ => ?_) (fun _ => ?_)
    · skip
      refine c_aload_n G dX11_fault_16 rfl 0 rfl ?_
      refine c_getI G fl_X11_16 h_a0 rfl dX11_fault_17 ?_
      refine c_goto (tgt := 24) G dX11_fault_20 (by decide) ?_
      exact c_iretP G hQ dX11_fault_24
    · skip
      refine c_iconst G m1 dX11_fault_23 kI_m1 ?_
      exact c_iretP G hQ dX11_fault_24
set_option maxHeartbeats 4000000 in
set_option maxRecDepth 100000 in
theorem con_J6_bitCount_0f7a4 {w : Wp} {N : Nat} {a0 : Int32} {M : Mm} {q : Int32} (hq : D_J6_bitCount_0f7a4 N a0 M = some q) : Con w 0 yJ6_bitCount_0f7a4 cJ6_bitCount_0f7a4 1 (some .int) [.int a0] M ((encPI M) q) := by
  refine Con.of (encPI M) q _ hq (by decide) (Nat.le_of_ble_eq_true rfl) ?_
  intro X G Q hQ
  have G : Good w X cJ6_bitCount_0f7a4 1 RJ6 (some .int) 0 := G
  refine c_weak [(0, .int a0)] [0] rfl ?_
  rw [D_J6_bitCount_0f7a4]
  refine c_iload_n G dJ6_bitCount_0f7a4_0 rfl 0 rfl ?_
  refine c_iload_n G dJ6_bitCount_0f7a4_1 rfl 0 rfl ?_
  refine c_iconst G (nI 1) dJ6_bitCount_0f7a4_2 kI_1 ?_
  refine c_iushr G dJ6_bitCount_0f7a4_3 ?_
  refine c_ldcw G (nI 1431655765) kC_J6_265 kV_1431655765 dJ6_bitCount_0f7a4_4 ?_
  refine c_iand G dJ6_bitCount_0f7a4_7 ?_
  refine c_isub G dJ6_bitCount_0f7a4_8 ?_
  refine c_let (fun l0_1 _ => ?_)
  refine c_istore_n G [(0, .int l0_1)] dJ6_bitCount_0f7a4_9 rfl (by decide) rfl ?_
  refine c_iload_n G dJ6_bitCount_0f7a4_10 rfl 0 rfl ?_
  refine c_ldcw G (nI 858993459) kC_J6_266 kV_858993459 dJ6_bitCount_0f7a4_11 ?_
  refine c_iand G dJ6_bitCount_0f7a4_14 ?_
  refine c_iload_n G dJ6_bitCount_0f7a4_15 rfl 0 rfl ?_
  refine c_iconst G (nI 2) dJ6_bitCount_0f7a4_16 kI_2 ?_
  refine c_iushr G dJ6_bitCount_0f7a4_17 ?_
  refine c_ldcw G (nI 858993459) kC_J6_266 kV_858993459 dJ6_bitCount_0f7a4_18 ?_
  refine c_iand G dJ6_bitCount_0f7a4_21 ?_
  refine c_iadd G dJ6_bitCount_0f7a4_22 ?_
  refine c_let (fun l0_2 _ => ?_)
  refine c_istore_n G [(0, .int l0_2)] dJ6_bitCount_0f7a4_23 rfl (by decide) rfl ?_
  refine c_iload_n G dJ6_bitCount_0f7a4_24 rfl 0 rfl ?_
  refine c_iload_n G dJ6_bitCount_0f7a4_25 rfl 0 rfl ?_
  refine c_iconst G (nI 4) dJ6_bitCount_0f7a4_26 kI_4 ?_
  refine c_iushr G dJ6_bitCount_0f7a4_27 ?_
  refine c_iadd G dJ6_bitCount_0f7a4_28 ?_
  refine c_ldcw G (nI 252645135) kC_J6_267 kV_252645135 dJ6_bitCount_0f7a4_29 ?_
  refine c_iand G dJ6_bitCount_0f7a4_32 ?_
  refine c_let (fun l0_3 _ => ?_)
  refine c_istore_n G [(0, .int l0_3)] dJ6_bitCount_0f7a4_33 rfl (by decide) rfl ?_
  refine c_iload_n G dJ6_bitCount_0f7a4_34 rfl 0 rfl ?_
  refine c_iload_n G dJ6_bitCount_0f7a4_35 rfl 0 rfl ?_
  refine c_bipush G (nI 8) dJ6_bitCount_0f7a4_36 kB_8 ?_
  refine c_iushr G dJ6_bitCount_0f7a4_38 ?_
  refine c_iadd G dJ6_bitCount_0f7a4_39 ?_
  refine c_let (fun l0_4 _ => ?_)
  refine c_istore_n G [(0, .int l0_4)] dJ6_bitCount_0f7a4_40 rfl (by decide) rfl ?_
  refine c_iload_n G dJ6_bitCount_0f7a4_41 rfl 0 rfl ?_
  refine c_iload_n G dJ6_bitCount_0f7a4_42 rfl 0 rfl ?_
  refine c_bipush G (nI 16) dJ6_bitCount_0f7a4_43 kB_16 ?_
  refine c_iushr G dJ6_bitCount_0f7a4_45 ?_
  refine c_iadd G dJ6_bitCount_0f7a4_46 ?_
  refine c_let (fun l0_5 _ => ?_)
  refine c_istore_n G [(0, .int l0_5)] dJ6_bitCount_0f7a4_47 rfl (by decide) rfl ?_
  refine c_iload_n G dJ6_bitCount_0f7a4_48 rfl 0 rfl ?_
  refine c_bipush G (nI 63) dJ6_bitCount_0f7a4_49 kB_63 ?_
  refine c_iand G dJ6_bitCount_0f7a4_51 ?_
  exact c_iretP G hQ dJ6_bitCount_0f7a4_52
set_option maxHeartbeats 4000000 in
set_option maxRecDepth 100000 in
theorem cl_X1_allTold_4 {w : Wp} {M : Mm} {X : Cx} {Q : State → Prop} {ρ : Int32} (G : Good w X cX1_allTold 3 RX1 (some .int) 1) (hQ : Q = MQ (xL X) (Qd w ((encPI M) ρ)) (xA X) (xS X) (xk X) (xs X) (Aw w)) {a0 : Nat} {N : Nat} (h_a0 : lay a0 = (5, 1)) : ∀ (n : Nat) (l1_1 : Int32) (l2_1 : Int32), Cov w X Q ρ some 3 4 [(0, .ref (wB w + pz (a0))), (1, .int l1_1), (2, .int l2_1)] [] M (L_X1_allTold_4 M a0 N n l1_1 l2_1) := by
  intro n
  induction n with
  | zero => intro l1_1 l2_1; exact c_none
  | succ n ih =>
    intro l1_1 l2_1
    rw [L_X1_allTold_4]
    refine c_iload_n G dX1_allTold_4 rfl 2 rfl ?_
    refine c_aload_n G dX1_allTold_5 rfl 0 rfl ?_
    refine c_getI G fl_X1_65 h_a0 rfl dX1_allTold_6 ?_
    refine c_icmp_ge (tgt := 30) G dX1_allTold_9 (by decide) (fun _ => ?_) (fun _ => ?_)
    · skip
      refine c_iload_n G dX1_allTold_30 rfl 1 rfl ?_
      exact c_iretP G hQ dX1_allTold_31
    · skip
      refine c_iload_n G dX1_allTold_12 rfl 1 rfl ?_
      refine c_aload_n G dX1_allTold_13 rfl 0 rfl ?_
      refine c_getF G fl_X1_40 h_a0 rfl dX1_allTold_14 ?_
      refine c_iload_n G dX1_allTold_17 rfl 2 rfl ?_
      refine c_iald G (lf h_a0 12 rfl) dX1_allTold_18 (fun v1 _ => ?_)
      refine c_callS_PI (d := 0) (rest := [.int l1_1]) G [.int v1] ys_J6_bitCount_0f7a4 ml_X1_85 (by omega) (by decide) rfl rfl (Nat.le_of_ble_eq_true rfl) (fun q hq => con_J6_bitCount_0f7a4 hq) dX1_allTold_19 (fun q1 _ => ?_)
      refine c_iadd G dX1_allTold_22 ?_
      refine c_let (fun l1_2 _ => ?_)
      refine c_istore_n G [(1, .int l1_2), (0, .ref (wB w + pz (a0))), (2, .int l2_1)] dX1_allTold_23 rfl (by decide) rfl ?_
      refine c_iinc G (fun y__ => [(2, .int y__), (1, .int l1_2), (0, .ref (wB w + pz (a0)))]) dX1_allTold_24 2 rfl kI_1 (by decide) (fun _ => rfl) (fun l2_2 _ => ?_)
      refine c_goto (tgt := 4) G dX1_allTold_27 (by decide) ?_
      exact c_weak _ [2, 1, 0] rfl (ih l1_2 l2_2)
set_option maxHeartbeats 4000000 in
set_option maxRecDepth 100000 in
theorem con_X1_allTold {w : Wp} {N : Nat} {a0 : Nat} {M : Mm} {q : Int32} (h_a0 : lay a0 = (5, 1)) (hq : D_X1_allTold N a0 M = some q) : Con w 1 yX1_allTold cX1_allTold 3 (some .int) [.ref (wB w + pz (a0))] M ((encPI M) q) := by
  refine Con.of (encPI M) q _ hq (by decide) (Nat.le_of_ble_eq_true rfl) ?_
  intro X G Q hQ
  have G : Good w X cX1_allTold 3 RX1 (some .int) 1 := G
  refine c_weak [(0, .ref (wB w + pz (a0)))] [0] rfl ?_
  rw [D_X1_allTold]
  refine c_iconst G (nI 0) dX1_allTold_0 kI_0 ?_
  refine c_istore_n G [(1, .int (nI 0)), (0, .ref (wB w + pz (a0)))] dX1_allTold_1 rfl (by decide) rfl ?_
  refine c_iconst G (nI 0) dX1_allTold_2 kI_0 ?_
  refine c_istore_n G [(2, .int (nI 0)), (1, .int (nI 0)), (0, .ref (wB w + pz (a0)))] dX1_allTold_3 rfl (by decide) rfl ?_
  refine c_weak _ [2, 1, 0] rfl (cl_X1_allTold_4 G hQ  h_a0 N (nI 0) (nI 0))
set_option maxHeartbeats 4000000 in
set_option maxRecDepth 100000 in
theorem con_X11_many {w : Wp} {N : Nat} {a0 : Nat} {a1 : Int32} {M : Mm} {q : Int32 × Mm} (h_a0 : lay a0 = (5, 11)) (hq : D_X11_many N a0 a1 M = some q) : Con w 2 yX11_many cX11_many 2 (some .int) [.ref (wB w + pz (a0)), .int a1] M (encI q) := by
  refine Con.of encI q _ hq (by decide) (Nat.le_of_ble_eq_true rfl) ?_
  intro X G Q hQ
  have G : Good w X cX11_many 2 RX11 (some .int) 2 := G
  refine c_weak [(0, .ref (wB w + pz (a0))), (1, .int a1)] [0, 1] rfl ?_
  rw [D_X11_many]
  refine c_iload_n G dX11_many_0 rfl 1 rfl ?_
  refine c_if_lt (tgt := 9) G dX11_many_1 (by decide) (fun _ => ?_) (fun _ => ?_)
  · skip
    refine c_aload_n G dX11_many_9 rfl 0 rfl ?_
    refine c_iconst G (nI 1) dX11_many_10 kI_1 ?_
    refine c_callV_I (d := 0) (rest := []) G [.int (nI 1)] yv_X11_refuse ml_X11_113 (by omega) (by decide) rfl rfl (Nat.le_of_ble_eq_true rfl) h_a0 (fun q hq => con_X11_refuse h_a0 hq) dX11_many_11 (fun q1 _ => ?_)
    exact c_iret G hQ dX11_many_14
  · skip
    refine c_iload_n G dX11_many_4 rfl 1 rfl ?_
    refine c_iconst G (nI 4) dX11_many_5 kI_4 ?_
    refine c_icmp_le (tgt := 15) G dX11_many_6 (by decide) (fun _ => ?_) (fun _ => ?_)
    · skip
      refine c_iload_n G dX11_many_15 rfl 1 rfl ?_
      refine c_iconst G (nI 4) dX11_many_16 kI_4 ?_
      refine c_jn (ej := fun (p36 : Unit) => [(0, .ref (wB w + pz (a0))), (1, .int a1)]) (sj := fun p36 => []) (mj := fun p36 => M) (pj := 36) (fun p36 => ?_) (fun J1 hJ36 => ?_)
      · skip
        refine c_iload_n G dX11_many_36 rfl 1 rfl ?_
        refine c_tsw (tgt := 68) G (nI 0) 0 dX11_many_37 (by decide +kernel) (by decide +kernel) rfl (by decide) (fun _ => ?_) (fun hn0 => ?_)
        · skip
          refine c_aload_n G dX11_many_68 rfl 0 rfl ?_
          refine c_aload_n G dX11_many_69 rfl 0 rfl ?_
          refine c_getR (c' := 1) G fl_X11_75 h_a0 rfl dX11_many_70 (fun r1 _ h_r1 => ?_)
          refine c_getI G fl_X11_153 h_r1 rfl dX11_many_73 ?_
          refine c_callV_I (d := 0) (rest := []) G [.int (M.1 r1 0)] yv_X11_answer ml_X11_147 (by omega) (by decide) rfl rfl (Nat.le_of_ble_eq_true rfl) h_a0 (fun q hq => con_X11_answer h_a0 hq) dX11_many_76 (fun q2 _ => ?_)
          exact c_iret G hQ dX11_many_79
        · skip
          refine c_tsw (tgt := 80) G (nI 1) 1 dX11_many_37 (by decide +kernel) (by decide +kernel) rfl (by decide) (fun _ => ?_) (fun hn1 => ?_)
          · skip
            refine c_aload_n G dX11_many_80 rfl 0 rfl ?_
            refine c_aload_n G dX11_many_81 rfl 0 rfl ?_
            refine c_getR (c' := 1) G fl_X11_75 h_a0 rfl dX11_many_82 (fun r2 _ h_r2 => ?_)
            refine c_getI G fl_X11_144 h_r2 rfl dX11_many_85 ?_
            refine c_callV_I (d := 0) (rest := []) G [.int (M.1 r2 1)] yv_X11_answer ml_X11_147 (by omega) (by decide) rfl rfl (Nat.le_of_ble_eq_true rfl) h_a0 (fun q hq => con_X11_answer h_a0 hq) dX11_many_88 (fun q3 _ => ?_)
            exact c_iret G hQ dX11_many_91
          · skip
            refine c_tsw (tgt := 92) G (nI 2) 2 dX11_many_37 (by decide +kernel) (by decide +kernel) rfl (by decide) (fun _ => ?_) (fun hn2 => ?_)
            · skip
              refine c_aload_n G dX11_many_92 rfl 0 rfl ?_
              refine c_aload_n G dX11_many_93 rfl 0 rfl ?_
              refine c_getR (c' := 1) G fl_X11_75 h_a0 rfl dX11_many_94 (fun r3 _ h_r3 => ?_)
              refine c_callV_PI (d := 1) (rest := [.ref (wB w + pz (a0))]) G [] yv_X1_allTold ml_X11_156 (by omega) (by decide) rfl rfl (Nat.le_of_ble_eq_true rfl) h_r3 (fun q hq => con_X1_allTold h_r3 hq) dX11_many_97 (fun q4 _ => ?_)
              refine c_callV_I (d := 0) (rest := []) G [.int q4] yv_X11_answer ml_X11_147 (by omega) (by decide) rfl rfl (Nat.le_of_ble_eq_true rfl) h_a0 (fun q hq => con_X11_answer h_a0 hq) dX11_many_100 (fun q5 _ => ?_)
              exact c_iret G hQ dX11_many_103
            · skip
              refine c_tsw (tgt := 104) G (nI 3) 3 dX11_many_37 (by decide +kernel) (by decide +kernel) rfl (by decide) (fun _ => ?_) (fun hn3 => ?_)
              · skip
                refine c_aload_n G dX11_many_104 rfl 0 rfl ?_
                refine c_aload_n G dX11_many_105 rfl 0 rfl ?_
                refine c_getR (c' := 8) G fl_X11_85 h_a0 rfl dX11_many_106 (fun r4 _ h_r4 => ?_)
                refine c_getI G fl_X11_150 h_r4 rfl dX11_many_109 ?_
                refine c_callV_I (d := 0) (rest := []) G [.int (M.1 r4 0)] yv_X11_answer ml_X11_147 (by omega) (by decide) rfl rfl (Nat.le_of_ble_eq_true rfl) h_a0 (fun q hq => con_X11_answer h_a0 hq) dX11_many_112 (fun q6 _ => ?_)
                exact c_iret G hQ dX11_many_115
              · skip
                have hm0 := lv_neT hn0 (show (nI 0).toInt = 0 by decide +kernel)
                have hm1 := lv_neT hn1 (show (nI 1).toInt = 1 by decide +kernel)
                have hm2 := lv_neT hn2 (show (nI 2).toInt = 2 by decide +kernel)
                have hm3 := lv_neT hn3 (show (nI 3).toInt = 3 by decide +kernel)
                refine c_tswD (tgt := 116) G dX11_many_37 (by omega) (by decide) ?_
                refine c_aload_n G dX11_many_116 rfl 0 rfl ?_
                refine c_aload_n G dX11_many_117 rfl 0 rfl ?_
                refine c_getR (c' := 10) G fl_X11_95 h_a0 rfl dX11_many_118 (fun r5 _ h_r5 => ?_)
                refine c_getF G fl_X11_160 h_r5 rfl dX11_many_121 ?_
                refine c_getI G fl_X11_164 (lf h_r5 0 rfl) rfl dX11_many_124 ?_
                refine c_callV_I (d := 0) (rest := []) G [.int (M.1 (r5 + 1) 5)] yv_X11_answer ml_X11_147 (by omega) (by decide) rfl rfl (Nat.le_of_ble_eq_true rfl) h_a0 (fun q hq => con_X11_answer h_a0 hq) dX11_many_127 (fun q7 _ => ?_)
                exact c_iret G hQ dX11_many_130
      · skip
        refine c_icmp_ne (tgt := 36) G dX11_many_17 (by decide) (fun _ => ?_) (fun _ => ?_)
        · skip
          refine c_aload_n G dX11_many_20 rfl 0 rfl ?_
          refine c_getR (c' := 8) G fl_X11_85 h_a0 rfl dX11_many_21 (fun r6 _ h_r6 => ?_)
          refine c_getI G fl_X11_150 h_r6 rfl dX11_many_24 ?_
          refine c_if_ne (tgt := 36) G dX11_many_27 (by decide) (fun _ => ?_) (fun _ => ?_)
          · skip
            refine c_aload_n G dX11_many_30 rfl 0 rfl ?_
            refine c_iconst G (nI 3) dX11_many_31 kI_3 ?_
            refine c_callV_I (d := 0) (rest := []) G [.int (nI 3)] yv_X11_refuse ml_X11_113 (by omega) (by decide) rfl rfl (Nat.le_of_ble_eq_true rfl) h_a0 (fun q hq => con_X11_refuse h_a0 hq) dX11_many_32 (fun q8 _ => ?_)
            exact c_iret G hQ dX11_many_35
          · skip
            exact c_weak _ [0, 1] rfl (hJ36 ())
        · skip
          exact c_weak _ [0, 1] rfl (hJ36 ())
    · skip
      refine c_aload_n G dX11_many_9 rfl 0 rfl ?_
      refine c_iconst G (nI 1) dX11_many_10 kI_1 ?_
      refine c_callV_I (d := 0) (rest := []) G [.int (nI 1)] yv_X11_refuse ml_X11_113 (by omega) (by decide) rfl rfl (Nat.le_of_ble_eq_true rfl) h_a0 (fun q hq => con_X11_refuse h_a0 hq) dX11_many_11 (fun q9 _ => ?_)
      exact c_iret G hQ dX11_many_14
set_option maxHeartbeats 4000000 in
set_option maxRecDepth 100000 in
theorem con_X1_hasSymbol {w : Wp} {N : Nat} {a0 : Nat} {a1 : Int32} {M : Mm} {q : Int32} (h_a0 : lay a0 = (5, 1)) (hq : D_X1_hasSymbol N a0 a1 M = some q) : Con w 0 yX1_hasSymbol cX1_hasSymbol 2 (some .boolean) [.ref (wB w + pz (a0)), .int a1] M ((encPI M) q) := by
  refine Con.of (encPI M) q _ hq (by decide) (Nat.le_of_ble_eq_true rfl) ?_
  intro X G Q hQ
  have G : Good w X cX1_hasSymbol 2 RX1 (some .boolean) 0 := G
  refine c_weak [(0, .ref (wB w + pz (a0))), (1, .int a1)] [0, 1] rfl ?_
  rw [D_X1_hasSymbol]
  refine c_iload_n G dX1_hasSymbol_0 rfl 1 rfl ?_
  refine c_jn (ej := fun (p16 : Unit) => []) (sj := fun p16 => []) (mj := fun p16 => M) (pj := 16) (fun p16 => ?_) (fun J1 hJ16 => ?_)
  · skip
    refine c_iconst G (nI 0) dX1_hasSymbol_16 kI_0 ?_
    exact c_zretP G hQ dX1_hasSymbol_17
  · skip
    refine c_if_lt (tgt := 16) G dX1_hasSymbol_1 (by decide) (fun _ => ?_) (fun _ => ?_)
    · skip
      exact c_weak _ [] rfl (hJ16 ())
    · skip
      refine c_iload_n G dX1_hasSymbol_4 rfl 1 rfl ?_
      refine c_aload_n G dX1_hasSymbol_5 rfl 0 rfl ?_
      refine c_getI G fl_X1_61 h_a0 rfl dX1_hasSymbol_6 ?_
      refine c_icmp_ge (tgt := 16) G dX1_hasSymbol_9 (by decide) (fun _ => ?_) (fun _ => ?_)
      · skip
        exact c_weak _ [] rfl (hJ16 ())
      · skip
        refine c_iconst G (nI 1) dX1_hasSymbol_12 kI_1 ?_
        refine c_goto (tgt := 17) G dX1_hasSymbol_13 (by decide) ?_
        exact c_zretP G hQ dX1_hasSymbol_17
set_option maxHeartbeats 4000000 in
set_option maxRecDepth 100000 in
theorem cl_X1_leftSides_4 {w : Wp} {M : Mm} {X : Cx} {Q : State → Prop} {ρ : Int32} (G : Good w X cX1_leftSides 4 RX1 (some .int) 1) (hQ : Q = MQ (xL X) (Qd w ((encPI M) ρ)) (xA X) (xS X) (xk X) (xs X) (Aw w)) {a0 : Nat} {N : Nat} {a1 : Int32} (h_a0 : lay a0 = (5, 1)) : ∀ (n : Nat) (l2_1 : Int32) (l3_1 : Int32), Cov w X Q ρ some 4 4 [(0, .ref (wB w + pz (a0))), (1, .int a1), (2, .int l2_1), (3, .int l3_1)] [] M (L_X1_leftSides_4 M a0 N a1 n l2_1 l3_1) := by
  intro n
  induction n with
  | zero => intro l2_1 l3_1; exact c_none
  | succ n ih =>
    intro l2_1 l3_1
    rw [L_X1_leftSides_4]
    refine c_iload_n G dX1_leftSides_4 rfl 3 rfl ?_
    refine c_aload_n G dX1_leftSides_5 rfl 0 rfl ?_
    refine c_getI G fl_X1_65 h_a0 rfl dX1_leftSides_6 ?_
    refine c_icmp_ge (tgt := 31) G dX1_leftSides_9 (by decide) (fun _ => ?_) (fun _ => ?_)
    · skip
      refine c_iload_n G dX1_leftSides_31 rfl 2 rfl ?_
      exact c_iretP G hQ dX1_leftSides_32
    · skip
      refine c_aload_n G dX1_leftSides_12 rfl 0 rfl ?_
      refine c_iload_n G dX1_leftSides_13 rfl 3 rfl ?_
      refine c_iconst G (nI 0) dX1_leftSides_14 kI_0 ?_
      refine c_callV_PI (d := 0) (rest := []) G [.int l3_1, .int (nI 0)] yv_X1_side ml_X1_81 (by omega) (by decide) rfl rfl (Nat.le_of_ble_eq_true rfl) h_a0 (fun q hq => con_X1_side h_a0 hq) dX1_leftSides_15 (fun q1 _ => ?_)
      refine c_iload_n G dX1_leftSides_18 rfl 1 rfl ?_
      refine c_icmp_ne (tgt := 25) G dX1_leftSides_19 (by decide) (fun _ => ?_) (fun _ => ?_)
      · skip
        refine c_iinc G (fun y__ => [(2, .int y__), (0, .ref (wB w + pz (a0))), (1, .int a1), (3, .int l3_1)]) dX1_leftSides_22 2 rfl kI_1 (by decide) (fun _ => rfl) (fun l2_2 _ => ?_)
        refine c_iinc G (fun y__ => [(3, .int y__), (2, .int l2_2), (0, .ref (wB w + pz (a0))), (1, .int a1)]) dX1_leftSides_25 3 rfl kI_1 (by decide) (fun _ => rfl) (fun l3_2 _ => ?_)
        refine c_goto (tgt := 4) G dX1_leftSides_28 (by decide) ?_
        exact c_weak _ [2, 3, 1, 0] rfl (ih l2_2 l3_2)
      · skip
        refine c_iinc G (fun y__ => [(3, .int y__), (0, .ref (wB w + pz (a0))), (1, .int a1), (2, .int l2_1)]) dX1_leftSides_25 3 rfl kI_1 (by decide) (fun _ => rfl) (fun l3_3 _ => ?_)
        refine c_goto (tgt := 4) G dX1_leftSides_28 (by decide) ?_
        exact c_weak _ [1, 2, 3, 0] rfl (ih l2_1 l3_3)
set_option maxHeartbeats 4000000 in
set_option maxRecDepth 100000 in
theorem con_X1_leftSides {w : Wp} {N : Nat} {a0 : Nat} {a1 : Int32} {M : Mm} {q : Int32} (h_a0 : lay a0 = (5, 1)) (hq : D_X1_leftSides N a0 a1 M = some q) : Con w 1 yX1_leftSides cX1_leftSides 4 (some .int) [.ref (wB w + pz (a0)), .int a1] M ((encPI M) q) := by
  refine Con.of (encPI M) q _ hq (by decide) (Nat.le_of_ble_eq_true rfl) ?_
  intro X G Q hQ
  have G : Good w X cX1_leftSides 4 RX1 (some .int) 1 := G
  refine c_weak [(0, .ref (wB w + pz (a0))), (1, .int a1)] [0, 1] rfl ?_
  rw [D_X1_leftSides]
  refine c_iconst G (nI 0) dX1_leftSides_0 kI_0 ?_
  refine c_istore_n G [(2, .int (nI 0)), (0, .ref (wB w + pz (a0))), (1, .int a1)] dX1_leftSides_1 rfl (by decide) rfl ?_
  refine c_iconst G (nI 0) dX1_leftSides_2 kI_0 ?_
  refine c_istore_n G [(3, .int (nI 0)), (2, .int (nI 0)), (0, .ref (wB w + pz (a0))), (1, .int a1)] dX1_leftSides_3 rfl (by decide) rfl ?_
  refine c_weak _ [2, 3, 1, 0] rfl (cl_X1_leftSides_4 G hQ  h_a0 N (nI 0) (nI 0))
set_option maxHeartbeats 4000000 in
set_option maxRecDepth 100000 in
theorem con_X11_symbol {w : Wp} {N : Nat} {a0 : Nat} {a1 : Int32} {a2 : Int32} {M : Mm} {q : Int32 × Mm} (h_a0 : lay a0 = (5, 11)) (hq : D_X11_symbol N a0 a1 a2 M = some q) : Con w 2 yX11_symbol cX11_symbol 3 (some .int) [.ref (wB w + pz (a0)), .int a1, .int a2] M (encI q) := by
  refine Con.of encI q _ hq (by decide) (Nat.le_of_ble_eq_true rfl) ?_
  intro X G Q hQ
  have G : Good w X cX11_symbol 3 RX11 (some .int) 2 := G
  refine c_weak [(0, .ref (wB w + pz (a0))), (1, .int a1), (2, .int a2)] [0, 1, 2] rfl ?_
  rw [D_X11_symbol]
  refine c_iload_n G dX11_symbol_0 rfl 2 rfl ?_
  refine c_if_lt (tgt := 9) G dX11_symbol_1 (by decide) (fun _ => ?_) (fun _ => ?_)
  · skip
    refine c_aload_n G dX11_symbol_9 rfl 0 rfl ?_
    refine c_iconst G (nI 1) dX11_symbol_10 kI_1 ?_
    refine c_callV_I (d := 0) (rest := []) G [.int (nI 1)] yv_X11_refuse ml_X11_113 (by omega) (by decide) rfl rfl (Nat.le_of_ble_eq_true rfl) h_a0 (fun q hq => con_X11_refuse h_a0 hq) dX11_symbol_11 (fun q1 _ => ?_)
    exact c_iret G hQ dX11_symbol_14
  · skip
    refine c_iload_n G dX11_symbol_4 rfl 2 rfl ?_
    refine c_iconst G (nI 3) dX11_symbol_5 kI_3 ?_
    refine c_icmp_le (tgt := 15) G dX11_symbol_6 (by decide) (fun _ => ?_) (fun _ => ?_)
    · skip
      refine c_aload_n G dX11_symbol_15 rfl 0 rfl ?_
      refine c_getR (c' := 1) G fl_X11_75 h_a0 rfl dX11_symbol_16 (fun r1 _ h_r1 => ?_)
      refine c_iload_n G dX11_symbol_19 rfl 1 rfl ?_
      refine c_callV_PI (d := 0) (rest := []) G [.int a1] yv_X1_hasSymbol ml_X11_169 (by omega) (by decide) rfl rfl (Nat.le_of_ble_eq_true rfl) h_r1 (fun q hq => con_X1_hasSymbol h_r1 hq) dX11_symbol_20 (fun q2 _ => ?_)
      refine c_if_ne (tgt := 32) G dX11_symbol_23 (by decide) (fun _ => ?_) (fun _ => ?_)
      · skip
        refine c_aload_n G dX11_symbol_26 rfl 0 rfl ?_
        refine c_iconst G (nI 4) dX11_symbol_27 kI_4 ?_
        refine c_callV_I (d := 0) (rest := []) G [.int (nI 4)] yv_X11_refuse ml_X11_113 (by omega) (by decide) rfl rfl (Nat.le_of_ble_eq_true rfl) h_a0 (fun q hq => con_X11_refuse h_a0 hq) dX11_symbol_28 (fun q3 _ => ?_)
        exact c_iret G hQ dX11_symbol_31
      · skip
        refine c_iload_n G dX11_symbol_32 rfl 2 rfl ?_
        refine c_tsw (tgt := 60) G (nI 0) 0 dX11_symbol_33 (by decide +kernel) (by decide +kernel) rfl (by decide) (fun _ => ?_) (fun hn0 => ?_)
        · skip
          refine c_aload_n G dX11_symbol_60 rfl 0 rfl ?_
          refine c_aload_n G dX11_symbol_61 rfl 0 rfl ?_
          refine c_getR (c' := 1) G fl_X11_75 h_a0 rfl dX11_symbol_62 (fun r2 _ h_r2 => ?_)
          refine c_getF G fl_X11_172 h_r2 rfl dX11_symbol_65 ?_
          refine c_iload_n G dX11_symbol_68 rfl 1 rfl ?_
          refine c_iald G (lf h_r2 6 rfl) dX11_symbol_69 (fun v1 _ => ?_)
          refine c_callV_I (d := 0) (rest := []) G [.int v1] yv_X11_answer ml_X11_147 (by omega) (by decide) rfl rfl (Nat.le_of_ble_eq_true rfl) h_a0 (fun q hq => con_X11_answer h_a0 hq) dX11_symbol_70 (fun q4 _ => ?_)
          exact c_iret G hQ dX11_symbol_73
        · skip
          refine c_tsw (tgt := 74) G (nI 1) 1 dX11_symbol_33 (by decide +kernel) (by decide +kernel) rfl (by decide) (fun _ => ?_) (fun hn1 => ?_)
          · skip
            refine c_aload_n G dX11_symbol_74 rfl 0 rfl ?_
            refine c_aload_n G dX11_symbol_75 rfl 0 rfl ?_
            refine c_getR (c' := 1) G fl_X11_75 h_a0 rfl dX11_symbol_76 (fun r3 _ h_r3 => ?_)
            refine c_getF G fl_X11_176 h_r3 rfl dX11_symbol_79 ?_
            refine c_iload_n G dX11_symbol_82 rfl 1 rfl ?_
            refine c_iald G (lf h_r3 7 rfl) dX11_symbol_83 (fun v2 _ => ?_)
            refine c_callV_I (d := 0) (rest := []) G [.int v2] yv_X11_answer ml_X11_147 (by omega) (by decide) rfl rfl (Nat.le_of_ble_eq_true rfl) h_a0 (fun q hq => con_X11_answer h_a0 hq) dX11_symbol_84 (fun q5 _ => ?_)
            exact c_iret G hQ dX11_symbol_87
          · skip
            refine c_tsw (tgt := 88) G (nI 2) 2 dX11_symbol_33 (by decide +kernel) (by decide +kernel) rfl (by decide) (fun _ => ?_) (fun hn2 => ?_)
            · skip
              refine c_aload_n G dX11_symbol_88 rfl 0 rfl ?_
              refine c_aload_n G dX11_symbol_89 rfl 0 rfl ?_
              refine c_getR (c' := 1) G fl_X11_75 h_a0 rfl dX11_symbol_90 (fun r4 _ h_r4 => ?_)
              refine c_iload_n G dX11_symbol_93 rfl 1 rfl ?_
              refine c_callV_PI (d := 1) (rest := [.ref (wB w + pz (a0))]) G [.int a1] yv_X1_leftSides ml_X11_179 (by omega) (by decide) rfl rfl (Nat.le_of_ble_eq_true rfl) h_r4 (fun q hq => con_X1_leftSides h_r4 hq) dX11_symbol_94 (fun q6 _ => ?_)
              refine c_callV_I (d := 0) (rest := []) G [.int q6] yv_X11_answer ml_X11_147 (by omega) (by decide) rfl rfl (Nat.le_of_ble_eq_true rfl) h_a0 (fun q hq => con_X11_answer h_a0 hq) dX11_symbol_97 (fun q7 _ => ?_)
              exact c_iret G hQ dX11_symbol_100
            · skip
              have hm0 := lv_neT hn0 (show (nI 0).toInt = 0 by decide +kernel)
              have hm1 := lv_neT hn1 (show (nI 1).toInt = 1 by decide +kernel)
              have hm2 := lv_neT hn2 (show (nI 2).toInt = 2 by decide +kernel)
              refine c_tswD (tgt := 101) G dX11_symbol_33 (by omega) (by decide) ?_
              refine c_aload_n G dX11_symbol_101 rfl 0 rfl ?_
              refine c_getF G fl_X11_54 h_a0 rfl dX11_symbol_102 ?_
              refine c_getF G fl_X11_182 (lf h_a0 8 rfl) rfl dX11_symbol_105 ?_
              refine c_iload_n G dX11_symbol_108 rfl 1 rfl ?_
              refine c_iald G (lf (lf h_a0 8 rfl) 0 rfl) dX11_symbol_109 (fun v3 _ => ?_)
              refine c_if_ne (tgt := 122) G dX11_symbol_110 (by decide) (fun _ => ?_) (fun _ => ?_)
              · skip
                refine c_aload_n G dX11_symbol_113 rfl 0 rfl ?_
                refine c_bipush G (nI 7) dX11_symbol_114 kB_7 ?_
                refine c_callV_I (d := 0) (rest := []) G [.int (nI 7)] yv_X11_refuse ml_X11_113 (by omega) (by decide) rfl rfl (Nat.le_of_ble_eq_true rfl) h_a0 (fun q hq => con_X11_refuse h_a0 hq) dX11_symbol_116 (fun q8 _ => ?_)
                refine c_goto (tgt := 135) G dX11_symbol_119 (by decide) ?_
                exact c_iret G hQ dX11_symbol_135
              · skip
                refine c_aload_n G dX11_symbol_122 rfl 0 rfl ?_
                refine c_aload_n G dX11_symbol_123 rfl 0 rfl ?_
                refine c_getF G fl_X11_54 h_a0 rfl dX11_symbol_124 ?_
                refine c_getF G fl_X11_182 (lf h_a0 8 rfl) rfl dX11_symbol_127 ?_
                refine c_iload_n G dX11_symbol_130 rfl 1 rfl ?_
                refine c_iald G (lf (lf h_a0 8 rfl) 0 rfl) dX11_symbol_131 (fun v4 _ => ?_)
                refine c_callV_I (d := 0) (rest := []) G [.int v4] yv_X11_answer ml_X11_147 (by omega) (by decide) rfl rfl (Nat.le_of_ble_eq_true rfl) h_a0 (fun q hq => con_X11_answer h_a0 hq) dX11_symbol_132 (fun q9 _ => ?_)
                exact c_iret G hQ dX11_symbol_135
    · skip
      refine c_aload_n G dX11_symbol_9 rfl 0 rfl ?_
      refine c_iconst G (nI 1) dX11_symbol_10 kI_1 ?_
      refine c_callV_I (d := 0) (rest := []) G [.int (nI 1)] yv_X11_refuse ml_X11_113 (by omega) (by decide) rfl rfl (Nat.le_of_ble_eq_true rfl) h_a0 (fun q hq => con_X11_refuse h_a0 hq) dX11_symbol_11 (fun q10 _ => ?_)
      exact c_iret G hQ dX11_symbol_14
set_option maxHeartbeats 4000000 in
set_option maxRecDepth 100000 in
theorem con_X1_hasProduction {w : Wp} {N : Nat} {a0 : Nat} {a1 : Int32} {M : Mm} {q : Int32} (h_a0 : lay a0 = (5, 1)) (hq : D_X1_hasProduction N a0 a1 M = some q) : Con w 0 yX1_hasProduction cX1_hasProduction 2 (some .boolean) [.ref (wB w + pz (a0)), .int a1] M ((encPI M) q) := by
  refine Con.of (encPI M) q _ hq (by decide) (Nat.le_of_ble_eq_true rfl) ?_
  intro X G Q hQ
  have G : Good w X cX1_hasProduction 2 RX1 (some .boolean) 0 := G
  refine c_weak [(0, .ref (wB w + pz (a0))), (1, .int a1)] [0, 1] rfl ?_
  rw [D_X1_hasProduction]
  refine c_iload_n G dX1_hasProduction_0 rfl 1 rfl ?_
  refine c_jn (ej := fun (p16 : Unit) => []) (sj := fun p16 => []) (mj := fun p16 => M) (pj := 16) (fun p16 => ?_) (fun J1 hJ16 => ?_)
  · skip
    refine c_iconst G (nI 0) dX1_hasProduction_16 kI_0 ?_
    exact c_zretP G hQ dX1_hasProduction_17
  · skip
    refine c_if_lt (tgt := 16) G dX1_hasProduction_1 (by decide) (fun _ => ?_) (fun _ => ?_)
    · skip
      exact c_weak _ [] rfl (hJ16 ())
    · skip
      refine c_iload_n G dX1_hasProduction_4 rfl 1 rfl ?_
      refine c_aload_n G dX1_hasProduction_5 rfl 0 rfl ?_
      refine c_getI G fl_X1_65 h_a0 rfl dX1_hasProduction_6 ?_
      refine c_icmp_ge (tgt := 16) G dX1_hasProduction_9 (by decide) (fun _ => ?_) (fun _ => ?_)
      · skip
        exact c_weak _ [] rfl (hJ16 ())
      · skip
        refine c_iconst G (nI 1) dX1_hasProduction_12 kI_1 ?_
        refine c_goto (tgt := 17) G dX1_hasProduction_13 (by decide) ?_
        exact c_zretP G hQ dX1_hasProduction_17
set_option maxHeartbeats 4000000 in
set_option maxRecDepth 100000 in
theorem con_X1_children {w : Wp} {N : Nat} {a0 : Nat} {a1 : Int32} {M : Mm} {q : Int32} (h_a0 : lay a0 = (5, 1)) (hq : D_X1_children N a0 a1 M = some q) : Con w 0 yX1_children cX1_children 2 (some .int) [.ref (wB w + pz (a0)), .int a1] M ((encPI M) q) := by
  refine Con.of (encPI M) q _ hq (by decide) (Nat.le_of_ble_eq_true rfl) ?_
  intro X G Q hQ
  have G : Good w X cX1_children 2 RX1 (some .int) 0 := G
  refine c_weak [(0, .ref (wB w + pz (a0))), (1, .int a1)] [0, 1] rfl ?_
  rw [D_X1_children]
  refine c_aload_n G dX1_children_0 rfl 0 rfl ?_
  refine c_getF G fl_X1_28 h_a0 rfl dX1_children_1 ?_
  refine c_iload_n G dX1_children_4 rfl 1 rfl ?_
  refine c_iald G (lf h_a0 8 rfl) dX1_children_5 (fun v1 _ => ?_)
  refine c_iconst G (nI 1) dX1_children_6 kI_1 ?_
  refine c_isub G dX1_children_7 ?_
  exact c_iretP G hQ dX1_children_8
set_option maxHeartbeats 4000000 in
set_option maxRecDepth 100000 in
theorem con_X11_production {w : Wp} {N : Nat} {a0 : Nat} {a1 : Int32} {a2 : Int32} {M : Mm} {q : Int32 × Mm} (h_a0 : lay a0 = (5, 11)) (hq : D_X11_production N a0 a1 a2 M = some q) : Con w 1 yX11_production cX11_production 4 (some .int) [.ref (wB w + pz (a0)), .int a1, .int a2] M (encI q) := by
  refine Con.of encI q _ hq (by decide) (Nat.le_of_ble_eq_true rfl) ?_
  intro X G Q hQ
  have G : Good w X cX11_production 4 RX11 (some .int) 1 := G
  refine c_weak [(0, .ref (wB w + pz (a0))), (1, .int a1), (2, .int a2)] [0, 1, 2] rfl ?_
  rw [D_X11_production]
  refine c_iload_n G dX11_production_0 rfl 2 rfl ?_
  refine c_if_lt (tgt := 9) G dX11_production_1 (by decide) (fun _ => ?_) (fun _ => ?_)
  · skip
    refine c_aload_n G dX11_production_9 rfl 0 rfl ?_
    refine c_iconst G (nI 1) dX11_production_10 kI_1 ?_
    refine c_callV_I (d := 0) (rest := []) G [.int (nI 1)] yv_X11_refuse ml_X11_113 (by omega) (by decide) rfl rfl (Nat.le_of_ble_eq_true rfl) h_a0 (fun q hq => con_X11_refuse h_a0 hq) dX11_production_11 (fun q1 _ => ?_)
    exact c_iret G hQ dX11_production_14
  · skip
    refine c_iload_n G dX11_production_4 rfl 2 rfl ?_
    refine c_iconst G (nI 5) dX11_production_5 kI_5 ?_
    refine c_icmp_le (tgt := 15) G dX11_production_6 (by decide) (fun _ => ?_) (fun _ => ?_)
    · skip
      refine c_aload_n G dX11_production_15 rfl 0 rfl ?_
      refine c_getR (c' := 1) G fl_X11_75 h_a0 rfl dX11_production_16 (fun r1 _ h_r1 => ?_)
      refine c_iload_n G dX11_production_19 rfl 1 rfl ?_
      refine c_callV_PI (d := 0) (rest := []) G [.int a1] yv_X1_hasProduction ml_X11_184 (by omega) (by decide) rfl rfl (Nat.le_of_ble_eq_true rfl) h_r1 (fun q hq => con_X1_hasProduction h_r1 hq) dX11_production_20 (fun q2 _ => ?_)
      refine c_if_ne (tgt := 32) G dX11_production_23 (by decide) (fun _ => ?_) (fun _ => ?_)
      · skip
        refine c_aload_n G dX11_production_26 rfl 0 rfl ?_
        refine c_iconst G (nI 4) dX11_production_27 kI_4 ?_
        refine c_callV_I (d := 0) (rest := []) G [.int (nI 4)] yv_X11_refuse ml_X11_113 (by omega) (by decide) rfl rfl (Nat.le_of_ble_eq_true rfl) h_a0 (fun q hq => con_X11_refuse h_a0 hq) dX11_production_28 (fun q3 _ => ?_)
        exact c_iret G hQ dX11_production_31
      · skip
        refine c_iload_n G dX11_production_32 rfl 2 rfl ?_
        refine c_if_ne (tgt := 50) G dX11_production_33 (by decide) (fun _ => ?_) (fun _ => ?_)
        · skip
          refine c_aload_n G dX11_production_36 rfl 0 rfl ?_
          refine c_aload_n G dX11_production_37 rfl 0 rfl ?_
          refine c_getR (c' := 1) G fl_X11_75 h_a0 rfl dX11_production_38 (fun r2 _ h_r2 => ?_)
          refine c_iload_n G dX11_production_41 rfl 1 rfl ?_
          refine c_iconst G (nI 0) dX11_production_42 kI_0 ?_
          refine c_callV_PI (d := 0) (rest := [.ref (wB w + pz (a0))]) G [.int a1, .int (nI 0)] yv_X1_side ml_X11_187 (by omega) (by decide) rfl rfl (Nat.le_of_ble_eq_true rfl) h_r2 (fun q hq => con_X1_side h_r2 hq) dX11_production_43 (fun q4 _ => ?_)
          refine c_callV_I (d := 0) (rest := []) G [.int q4] yv_X11_answer ml_X11_147 (by omega) (by decide) rfl rfl (Nat.le_of_ble_eq_true rfl) h_a0 (fun q hq => con_X11_answer h_a0 hq) dX11_production_46 (fun q5 _ => ?_)
          exact c_iret G hQ dX11_production_49
        · skip
          refine c_iload_n G dX11_production_50 rfl 2 rfl ?_
          refine c_iconst G (nI 1) dX11_production_51 kI_1 ?_
          refine c_icmp_ne (tgt := 68) G dX11_production_52 (by decide) (fun _ => ?_) (fun _ => ?_)
          · skip
            refine c_aload_n G dX11_production_55 rfl 0 rfl ?_
            refine c_aload_n G dX11_production_56 rfl 0 rfl ?_
            refine c_getR (c' := 1) G fl_X11_75 h_a0 rfl dX11_production_57 (fun r3 _ h_r3 => ?_)
            refine c_iload_n G dX11_production_60 rfl 1 rfl ?_
            refine c_callV_PI (d := 0) (rest := [.ref (wB w + pz (a0))]) G [.int a1] yv_X1_children ml_X11_191 (by omega) (by decide) rfl rfl (Nat.le_of_ble_eq_true rfl) h_r3 (fun q hq => con_X1_children h_r3 hq) dX11_production_61 (fun q6 _ => ?_)
            refine c_callV_I (d := 0) (rest := []) G [.int q6] yv_X11_answer ml_X11_147 (by omega) (by decide) rfl rfl (Nat.le_of_ble_eq_true rfl) h_a0 (fun q hq => con_X11_answer h_a0 hq) dX11_production_64 (fun q7 _ => ?_)
            exact c_iret G hQ dX11_production_67
          · skip
            refine c_iload_n G dX11_production_68 rfl 2 rfl ?_
            refine c_iconst G (nI 5) dX11_production_69 kI_5 ?_
            refine c_icmp_ne (tgt := 90) G dX11_production_70 (by decide) (fun _ => ?_) (fun _ => ?_)
            · skip
              refine c_aload_n G dX11_production_73 rfl 0 rfl ?_
              refine c_aload_n G dX11_production_74 rfl 0 rfl ?_
              refine c_getR (c' := 1) G fl_X11_75 h_a0 rfl dX11_production_75 (fun r4 _ h_r4 => ?_)
              refine c_getF G fl_X11_194 h_r4 rfl dX11_production_78 ?_
              refine c_iload_n G dX11_production_81 rfl 1 rfl ?_
              refine c_iald G (lf h_r4 12 rfl) dX11_production_82 (fun v1 _ => ?_)
              refine c_callS_PI (d := 0) (rest := [.ref (wB w + pz (a0))]) G [.int v1] ys_J6_bitCount_0f7a4 ml_X11_197 (by omega) (by decide) rfl rfl (Nat.le_of_ble_eq_true rfl) (fun q hq => con_J6_bitCount_0f7a4 hq) dX11_production_83 (fun q8 _ => ?_)
              refine c_callV_I (d := 0) (rest := []) G [.int q8] yv_X11_answer ml_X11_147 (by omega) (by decide) rfl rfl (Nat.le_of_ble_eq_true rfl) h_a0 (fun q hq => con_X11_answer h_a0 hq) dX11_production_86 (fun q9 _ => ?_)
              exact c_iret G hQ dX11_production_89
            · skip
              refine c_iload_n G dX11_production_90 rfl 2 rfl ?_
              refine c_iconst G (nI 1) dX11_production_91 kI_1 ?_
              refine c_isub G dX11_production_92 ?_
              refine c_let (fun l3_1 _ => ?_)
              refine c_istore_n G [(3, .int l3_1), (0, .ref (wB w + pz (a0))), (1, .int a1), (2, .int a2)] dX11_production_93 rfl (by decide) rfl ?_
              refine c_iload_n G dX11_production_94 rfl 0 rfl ?_
              refine c_aload_n G dX11_production_95 rfl 1 rfl ?_
              refine c_getR (c' := 1) G fl_X11_75 h_a0 rfl dX11_production_96 (fun r5 _ h_r5 => ?_)
              refine c_iload_n G dX11_production_99 rfl 2 rfl ?_
              refine c_callV_PI (d := 0) (rest := [.int l3_1]) G [.int a1] yv_X1_children ml_X11_191 (by omega) (by decide) rfl rfl (Nat.le_of_ble_eq_true rfl) h_r5 (fun q hq => con_X1_children h_r5 hq) dX11_production_100 (fun q10 _ => ?_)
              refine c_icmp_le (tgt := 115) G dX11_production_103 (by decide) (fun _ => ?_) (fun _ => ?_)
              · skip
                refine c_aload_n G dX11_production_115 rfl 1 rfl ?_
                refine c_aload_n G dX11_production_116 rfl 1 rfl ?_
                refine c_getR (c' := 1) G fl_X11_75 h_a0 rfl dX11_production_117 (fun r6 _ h_r6 => ?_)
                refine c_iload_n G dX11_production_120 rfl 2 rfl ?_
                refine c_iload_n G dX11_production_121 rfl 0 rfl ?_
                refine c_callV_PI (d := 0) (rest := [.ref (wB w + pz (a0))]) G [.int a1, .int l3_1] yv_X1_side ml_X11_187 (by omega) (by decide) rfl rfl (Nat.le_of_ble_eq_true rfl) h_r6 (fun q hq => con_X1_side h_r6 hq) dX11_production_122 (fun q11 _ => ?_)
                refine c_callV_I (d := 0) (rest := []) G [.int q11] yv_X11_answer ml_X11_147 (by omega) (by decide) rfl rfl (Nat.le_of_ble_eq_true rfl) h_a0 (fun q hq => con_X11_answer h_a0 hq) dX11_production_125 (fun q12 _ => ?_)
                exact c_iret G hQ dX11_production_128
              · skip
                refine c_aload_n G dX11_production_106 rfl 1 rfl ?_
                refine c_bipush G (nI 7) dX11_production_107 kB_7 ?_
                refine c_callV_I (d := 0) (rest := []) G [.int (nI 7)] yv_X11_refuse ml_X11_113 (by omega) (by decide) rfl rfl (Nat.le_of_ble_eq_true rfl) h_a0 (fun q hq => con_X11_refuse h_a0 hq) dX11_production_109 (fun q13 _ => ?_)
                refine c_goto (tgt := 128) G dX11_production_112 (by decide) ?_
                exact c_iret G hQ dX11_production_128
    · skip
      refine c_aload_n G dX11_production_9 rfl 0 rfl ?_
      refine c_iconst G (nI 1) dX11_production_10 kI_1 ?_
      refine c_callV_I (d := 0) (rest := []) G [.int (nI 1)] yv_X11_refuse ml_X11_113 (by omega) (by decide) rfl rfl (Nat.le_of_ble_eq_true rfl) h_a0 (fun q hq => con_X11_refuse h_a0 hq) dX11_production_11 (fun q14 _ => ?_)
      exact c_iret G hQ dX11_production_14
set_option maxHeartbeats 4000000 in
set_option maxRecDepth 100000 in
theorem con_X1_hasOcc {w : Wp} {N : Nat} {a0 : Nat} {a1 : Int32} {a2 : Int32} {M : Mm} {q : Int32} (h_a0 : lay a0 = (5, 1)) (hq : D_X1_hasOcc N a0 a1 a2 M = some q) : Con w 0 yX1_hasOcc cX1_hasOcc 3 (some .boolean) [.ref (wB w + pz (a0)), .int a1, .int a2] M ((encPI M) q) := by
  refine Con.of (encPI M) q _ hq (by decide) (Nat.le_of_ble_eq_true rfl) ?_
  intro X G Q hQ
  have G : Good w X cX1_hasOcc 3 RX1 (some .boolean) 0 := G
  refine c_weak [(0, .ref (wB w + pz (a0))), (1, .int a1), (2, .int a2)] [0, 1, 2] rfl ?_
  rw [D_X1_hasOcc]
  refine c_iload_n G dX1_hasOcc_0 rfl 2 rfl ?_
  refine c_jn (ej := fun (p27 : Unit) => []) (sj := fun p27 => []) (mj := fun p27 => M) (pj := 27) (fun p27 => ?_) (fun J1 hJ27 => ?_)
  · skip
    refine c_iconst G (nI 0) dX1_hasOcc_27 kI_0 ?_
    exact c_zretP G hQ dX1_hasOcc_28
  · skip
    refine c_if_lt (tgt := 27) G dX1_hasOcc_1 (by decide) (fun _ => ?_) (fun _ => ?_)
    · skip
      exact c_weak _ [] rfl (hJ27 ())
    · skip
      refine c_iload_n G dX1_hasOcc_4 rfl 2 rfl ?_
      refine c_bipush G (nI 32) dX1_hasOcc_5 kB_32 ?_
      refine c_icmp_ge (tgt := 27) G dX1_hasOcc_7 (by decide) (fun _ => ?_) (fun _ => ?_)
      · skip
        exact c_weak _ [] rfl (hJ27 ())
      · skip
        refine c_aload_n G dX1_hasOcc_10 rfl 0 rfl ?_
        refine c_getF G fl_X1_34 h_a0 rfl dX1_hasOcc_11 ?_
        refine c_iload_n G dX1_hasOcc_14 rfl 1 rfl ?_
        refine c_iald G (lf h_a0 10 rfl) dX1_hasOcc_15 (fun v1 _ => ?_)
        refine c_iload_n G dX1_hasOcc_16 rfl 2 rfl ?_
        refine c_iushr G dX1_hasOcc_17 ?_
        refine c_iconst G (nI 1) dX1_hasOcc_18 kI_1 ?_
        refine c_iand G dX1_hasOcc_19 ?_
        refine c_if_eq (tgt := 27) G dX1_hasOcc_20 (by decide) (fun _ => ?_) (fun _ => ?_)
        · skip
          exact c_weak _ [] rfl (hJ27 ())
        · skip
          refine c_iconst G (nI 1) dX1_hasOcc_23 kI_1 ?_
          refine c_goto (tgt := 28) G dX1_hasOcc_24 (by decide) ?_
          exact c_zretP G hQ dX1_hasOcc_28
set_option maxHeartbeats 4000000 in
set_option maxRecDepth 100000 in
theorem cl_X5_fit_2 {w : Wp} {M : Mm} {X : Cx} {Q : State → Prop} {ρ : Int32} (G : Good w X cX5_fit 4 RX5 (some .boolean) 1) (hQ : Q = MQ (xL X) (Qd w ((encPI M) ρ)) (xA X) (xS X) (xk X) (xs X) (Aw w)) {a1 : Nat} {a2 : Int32} {N : Nat} {a0 : Nat} (h_a1 : lay a1 = (5, 1)) (h_a0 : lay a0 = (5, 5)) : ∀ (n : Nat) (l3_1 : Int32), Cov w X Q ρ some 4 2 [(0, .ref (wB w + pz (a0))), (1, .ref (wB w + pz (a1))), (2, .int a2), (3, .int l3_1)] [] M (L_X5_fit_2 a1 a2 M N a0 n l3_1) := by
  intro n
  induction n with
  | zero => intro l3_1; exact c_none
  | succ n ih =>
    intro l3_1
    rw [L_X5_fit_2]
    refine c_iload_n G dX5_fit_2 rfl 3 rfl ?_
    refine c_aload_n G dX5_fit_3 rfl 1 rfl ?_
    refine c_getF G fl_X5_65 h_a1 rfl dX5_fit_4 ?_
    refine c_iload_n G dX5_fit_7 rfl 2 rfl ?_
    refine c_iald G (lf h_a1 8 rfl) dX5_fit_8 (fun v1 _ => ?_)
    refine c_icmp_ge (tgt := 34) G dX5_fit_9 (by decide) (fun _ => ?_) (fun _ => ?_)
    · skip
      refine c_iconst G (nI 1) dX5_fit_34 kI_1 ?_
      exact c_zretP G hQ dX5_fit_35
    · skip
      refine c_aload_n G dX5_fit_12 rfl 0 rfl ?_
      refine c_getF G fl_X5_9 h_a0 rfl dX5_fit_13 ?_
      refine c_aload_n G dX5_fit_16 rfl 1 rfl ?_
      refine c_iload_n G dX5_fit_17 rfl 2 rfl ?_
      refine c_iload_n G dX5_fit_18 rfl 3 rfl ?_
      refine c_callV_PI (d := 0) (rest := [.ref (wB w + pz ((a0 + 1)))]) G [.int a2, .int l3_1] yv_X1_side ml_X5_72 (by omega) (by decide) rfl rfl (Nat.le_of_ble_eq_true rfl) h_a1 (fun q hq => con_X1_side h_a1 hq) dX5_fit_19 (fun q1 _ => ?_)
      refine c_iald G (lf h_a0 0 rfl) dX5_fit_22 (fun v2 _ => ?_)
      refine c_if_ne (tgt := 28) G dX5_fit_23 (by decide) (fun _ => ?_) (fun _ => ?_)
      · skip
        refine c_iconst G (nI 0) dX5_fit_26 kI_0 ?_
        exact c_zretP G hQ dX5_fit_27
      · skip
        refine c_iinc G (fun y__ => [(3, .int y__), (0, .ref (wB w + pz (a0))), (1, .ref (wB w + pz (a1))), (2, .int a2)]) dX5_fit_28 3 rfl kI_1 (by decide) (fun _ => rfl) (fun l3_2 _ => ?_)
        refine c_goto (tgt := 2) G dX5_fit_31 (by decide) ?_
        exact c_weak _ [1, 2, 3, 0] rfl (ih l3_2)
set_option maxHeartbeats 4000000 in
set_option maxRecDepth 100000 in
theorem con_X5_fit {w : Wp} {N : Nat} {a0 : Nat} {a1 : Nat} {a2 : Int32} {M : Mm} {q : Int32} (h_a0 : lay a0 = (5, 5)) (h_a1 : lay a1 = (5, 1)) (hq : D_X5_fit N a0 a1 a2 M = some q) : Con w 1 yX5_fit cX5_fit 4 (some .boolean) [.ref (wB w + pz (a0)), .ref (wB w + pz (a1)), .int a2] M ((encPI M) q) := by
  refine Con.of (encPI M) q _ hq (by decide) (Nat.le_of_ble_eq_true rfl) ?_
  intro X G Q hQ
  have G : Good w X cX5_fit 4 RX5 (some .boolean) 1 := G
  refine c_weak [(0, .ref (wB w + pz (a0))), (1, .ref (wB w + pz (a1))), (2, .int a2)] [0, 1, 2] rfl ?_
  rw [D_X5_fit]
  refine c_iconst G (nI 0) dX5_fit_0 kI_0 ?_
  refine c_istore_n G [(3, .int (nI 0)), (0, .ref (wB w + pz (a0))), (1, .ref (wB w + pz (a1))), (2, .int a2)] dX5_fit_1 rfl (by decide) rfl ?_
  refine c_weak _ [1, 2, 3, 0] rfl (cl_X5_fit_2 G hQ  h_a1 h_a0 N (nI 0))
set_option maxHeartbeats 4000000 in
set_option maxRecDepth 100000 in
theorem con_X11_hangs {w : Wp} {N : Nat} {a0 : Nat} {a1 : Int32} {a2 : Int32} {a3 : Int32} {a4 : Int32} {M : Mm} {q : Int32 × Mm} (h_a0 : lay a0 = (5, 11)) (hq : D_X11_hangs N a0 a1 a2 a3 a4 M = some q) : Con w 2 yX11_hangs cX11_hangs 7 (some .int) [.ref (wB w + pz (a0)), .int a1, .int a2, .int a3, .int a4] M (encI q) := by
  refine Con.of encI q _ hq (by decide) (Nat.le_of_ble_eq_true rfl) ?_
  intro X G Q hQ
  have G : Good w X cX11_hangs 7 RX11 (some .int) 2 := G
  refine c_weak [(0, .ref (wB w + pz (a0))), (1, .int a1), (2, .int a2), (3, .int a3), (4, .int a4)] [0, 1, 2, 3, 4] rfl ?_
  rw [D_X11_hangs]
  refine c_iload G dX11_hangs_0 4 rfl ?_
  refine c_if_lt (tgt := 11) G dX11_hangs_2 (by decide) (fun _ => ?_) (fun _ => ?_)
  · skip
    refine c_aload_n G dX11_hangs_11 rfl 0 rfl ?_
    refine c_iconst G (nI 1) dX11_hangs_12 kI_1 ?_
    refine c_callV_I (d := 0) (rest := []) G [.int (nI 1)] yv_X11_refuse ml_X11_113 (by omega) (by decide) rfl rfl (Nat.le_of_ble_eq_true rfl) h_a0 (fun q hq => con_X11_refuse h_a0 hq) dX11_hangs_13 (fun q1 _ => ?_)
    exact c_iret G hQ dX11_hangs_16
  · skip
    refine c_iload G dX11_hangs_5 4 rfl ?_
    refine c_iconst G (nI 2) dX11_hangs_7 kI_2 ?_
    refine c_icmp_le (tgt := 17) G dX11_hangs_8 (by decide) (fun _ => ?_) (fun _ => ?_)
    · skip
      refine c_aload_n G dX11_hangs_17 rfl 0 rfl ?_
      refine c_getR (c' := 1) G fl_X11_75 h_a0 rfl dX11_hangs_18 (fun r1 _ h_r1 => ?_)
      refine c_iload_n G dX11_hangs_21 rfl 1 rfl ?_
      refine c_callV_PI (d := 0) (rest := []) G [.int a1] yv_X1_hasProduction ml_X11_184 (by omega) (by decide) rfl rfl (Nat.le_of_ble_eq_true rfl) h_r1 (fun q hq => con_X1_hasProduction h_r1 hq) dX11_hangs_22 (fun q2 _ => ?_)
      refine c_if_eq (tgt := 52) G dX11_hangs_25 (by decide) (fun _ => ?_) (fun _ => ?_)
      · skip
        refine c_aload_n G dX11_hangs_52 rfl 0 rfl ?_
        refine c_iconst G (nI 4) dX11_hangs_53 kI_4 ?_
        refine c_callV_I (d := 0) (rest := []) G [.int (nI 4)] yv_X11_refuse ml_X11_113 (by omega) (by decide) rfl rfl (Nat.le_of_ble_eq_true rfl) h_a0 (fun q hq => con_X11_refuse h_a0 hq) dX11_hangs_54 (fun q3 _ => ?_)
        exact c_iret G hQ dX11_hangs_57
      · skip
        refine c_aload_n G dX11_hangs_28 rfl 0 rfl ?_
        refine c_getR (c' := 1) G fl_X11_75 h_a0 rfl dX11_hangs_29 (fun r2 _ h_r2 => ?_)
        refine c_iload_n G dX11_hangs_32 rfl 1 rfl ?_
        refine c_iload_n G dX11_hangs_33 rfl 2 rfl ?_
        refine c_callV_PI (d := 0) (rest := []) G [.int a1, .int a2] yv_X1_hasOcc ml_X11_202 (by omega) (by decide) rfl rfl (Nat.le_of_ble_eq_true rfl) h_r2 (fun q hq => con_X1_hasOcc h_r2 hq) dX11_hangs_34 (fun q4 _ => ?_)
        refine c_if_eq (tgt := 52) G dX11_hangs_37 (by decide) (fun _ => ?_) (fun _ => ?_)
        · skip
          refine c_aload_n G dX11_hangs_52 rfl 0 rfl ?_
          refine c_iconst G (nI 4) dX11_hangs_53 kI_4 ?_
          refine c_callV_I (d := 0) (rest := []) G [.int (nI 4)] yv_X11_refuse ml_X11_113 (by omega) (by decide) rfl rfl (Nat.le_of_ble_eq_true rfl) h_a0 (fun q hq => con_X11_refuse h_a0 hq) dX11_hangs_54 (fun q5 _ => ?_)
          exact c_iret G hQ dX11_hangs_57
        · skip
          refine c_aload_n G dX11_hangs_40 rfl 0 rfl ?_
          refine c_getR (c' := 1) G fl_X11_75 h_a0 rfl dX11_hangs_41 (fun r3 _ h_r3 => ?_)
          refine c_iload_n G dX11_hangs_44 rfl 1 rfl ?_
          refine c_iload_n G dX11_hangs_45 rfl 3 rfl ?_
          refine c_callV_PI (d := 0) (rest := []) G [.int a1, .int a3] yv_X1_hasOcc ml_X11_202 (by omega) (by decide) rfl rfl (Nat.le_of_ble_eq_true rfl) h_r3 (fun q hq => con_X1_hasOcc h_r3 hq) dX11_hangs_46 (fun q6 _ => ?_)
          refine c_if_ne (tgt := 58) G dX11_hangs_49 (by decide) (fun _ => ?_) (fun _ => ?_)
          · skip
            refine c_aload_n G dX11_hangs_52 rfl 0 rfl ?_
            refine c_iconst G (nI 4) dX11_hangs_53 kI_4 ?_
            refine c_callV_I (d := 0) (rest := []) G [.int (nI 4)] yv_X11_refuse ml_X11_113 (by omega) (by decide) rfl rfl (Nat.le_of_ble_eq_true rfl) h_a0 (fun q hq => con_X11_refuse h_a0 hq) dX11_hangs_54 (fun q7 _ => ?_)
            exact c_iret G hQ dX11_hangs_57
          · skip
            refine c_iload G dX11_hangs_58 4 rfl ?_
            refine c_iconst G (nI 2) dX11_hangs_60 kI_2 ?_
            refine c_jn (ej := fun (p86 : Unit) => [(0, .ref (wB w + pz (a0))), (1, .int a1), (2, .int a2), (3, .int a3), (4, .int a4)]) (sj := fun p86 => []) (mj := fun p86 => M) (pj := 86) (fun p86 => ?_) (fun J1 hJ86 => ?_)
            · skip
              refine c_bipush G (nI 32) dX11_hangs_86 kB_32 ?_
              refine c_iload_n G dX11_hangs_88 rfl 1 rfl ?_
              refine c_imul G dX11_hangs_89 ?_
              refine c_iload_n G dX11_hangs_90 rfl 2 rfl ?_
              refine c_iadd G dX11_hangs_91 ?_
              refine c_let (fun l5_1 _ => ?_)
              refine c_istore G [(5, .int l5_1), (0, .ref (wB w + pz (a0))), (1, .int a1), (2, .int a2), (3, .int a3), (4, .int a4)] dX11_hangs_92 (by decide) rfl ?_
              refine c_iload G dX11_hangs_94 5 rfl ?_
              refine c_bj (ej := fun (p141 : Int32) => [(0, .ref (wB w + pz (a0))), (3, .int a3)]) (sj := fun p141 => [.int p141]) (mj := fun p141 => M) (pj := 141) (fun p141 => ?_) (fun F hJ141 => ?_)
              · skip
                refine c_istore G [(6, .int p141), (0, .ref (wB w + pz (a0))), (3, .int a3)] dX11_hangs_141 (by decide) rfl ?_
                refine c_aload_n G dX11_hangs_143 rfl 1 rfl ?_
                refine c_iload G dX11_hangs_144 0 rfl ?_
                refine c_iload_n G dX11_hangs_146 rfl 2 rfl ?_
                refine c_iushr G dX11_hangs_147 ?_
                refine c_iconst G (nI 1) dX11_hangs_148 kI_1 ?_
                refine c_iand G dX11_hangs_149 ?_
                refine c_callV_I (d := 0) (rest := []) G [.int ((shr p141 a3) &&& (nI 1))] yv_X11_answer ml_X11_147 (by omega) (by decide) rfl rfl (Nat.le_of_ble_eq_true rfl) h_a0 (fun q hq => con_X11_answer h_a0 hq) dX11_hangs_150 (fun q8 _ => ?_)
                exact c_iret G hQ dX11_hangs_153
              · skip
                refine c_if_ne (tgt := 112) G dX11_hangs_96 (by decide) (fun _ => ?_) (fun _ => ?_)
                · skip
                  refine c_aload_n G dX11_hangs_99 rfl 1 rfl ?_
                  refine c_getR (c' := 1) G fl_X11_75 h_a0 rfl dX11_hangs_100 (fun r4 _ h_r4 => ?_)
                  refine c_getF G fl_X11_210 h_r4 rfl dX11_hangs_103 ?_
                  refine c_iload G dX11_hangs_106 0 rfl ?_
                  refine c_iald G (lf h_r4 14 rfl) dX11_hangs_108 (fun v1 _ => ?_)
                  refine c_goto (tgt := 141) G dX11_hangs_109 (by decide) ?_
                  exact c_weak _ [1, 4] rfl (hJ141 v1)
                · skip
                  refine c_iload G dX11_hangs_112 5 rfl ?_
                  refine c_iconst G (nI 1) dX11_hangs_114 kI_1 ?_
                  refine c_icmp_ne (tgt := 131) G dX11_hangs_115 (by decide) (fun _ => ?_) (fun _ => ?_)
                  · skip
                    refine c_aload_n G dX11_hangs_118 rfl 1 rfl ?_
                    refine c_getF G fl_X11_47 h_a0 rfl dX11_hangs_119 ?_
                    refine c_getF G fl_X11_213 (lf h_a0 7 rfl) rfl dX11_hangs_122 ?_
                    refine c_iload G dX11_hangs_125 0 rfl ?_
                    refine c_iald G (lf (lf h_a0 7 rfl) 1 rfl) dX11_hangs_127 (fun v2 _ => ?_)
                    refine c_goto (tgt := 141) G dX11_hangs_128 (by decide) ?_
                    exact c_weak _ [1, 4] rfl (hJ141 v2)
                  · skip
                    refine c_aload_n G dX11_hangs_131 rfl 1 rfl ?_
                    refine c_getF G fl_X11_54 h_a0 rfl dX11_hangs_132 ?_
                    refine c_getF G fl_X11_216 (lf h_a0 8 rfl) rfl dX11_hangs_135 ?_
                    refine c_iload G dX11_hangs_138 0 rfl ?_
                    refine c_iald G (lf (lf h_a0 8 rfl) 2 rfl) dX11_hangs_140 (fun v3 _ => ?_)
                    exact c_weak _ [1, 4] rfl (hJ141 v3)
            · skip
              refine c_icmp_ne (tgt := 86) G dX11_hangs_61 (by decide) (fun _ => ?_) (fun _ => ?_)
              · skip
                refine c_aload_n G dX11_hangs_64 rfl 0 rfl ?_
                refine c_getF G fl_X11_54 h_a0 rfl dX11_hangs_65 ?_
                refine c_aload_n G dX11_hangs_68 rfl 0 rfl ?_
                refine c_getR (c' := 1) G fl_X11_75 h_a0 rfl dX11_hangs_69 (fun r5 _ h_r5 => ?_)
                refine c_iload_n G dX11_hangs_72 rfl 1 rfl ?_
                refine c_callV_PI (d := 1) (rest := []) G [.ref (wB w + pz (r5)), .int a1] yv_X5_fit ml_X11_206 (by omega) (by decide) rfl rfl (Nat.le_of_ble_eq_true rfl) (lf h_a0 8 rfl) (fun q hq => con_X5_fit (lf h_a0 8 rfl) h_r5 hq) dX11_hangs_73 (fun q9 _ => ?_)
                refine c_if_ne (tgt := 86) G dX11_hangs_76 (by decide) (fun _ => ?_) (fun _ => ?_)
                · skip
                  refine c_aload_n G dX11_hangs_79 rfl 0 rfl ?_
                  refine c_bipush G (nI 7) dX11_hangs_80 kB_7 ?_
                  refine c_callV_I (d := 0) (rest := []) G [.int (nI 7)] yv_X11_refuse ml_X11_113 (by omega) (by decide) rfl rfl (Nat.le_of_ble_eq_true rfl) h_a0 (fun q hq => con_X11_refuse h_a0 hq) dX11_hangs_82 (fun q10 _ => ?_)
                  exact c_iret G hQ dX11_hangs_85
                · skip
                  exact c_weak _ [0, 1, 2, 3, 4] rfl (hJ86 ())
              · skip
                exact c_weak _ [0, 1, 2, 3, 4] rfl (hJ86 ())
    · skip
      refine c_aload_n G dX11_hangs_11 rfl 0 rfl ?_
      refine c_iconst G (nI 1) dX11_hangs_12 kI_1 ?_
      refine c_callV_I (d := 0) (rest := []) G [.int (nI 1)] yv_X11_refuse ml_X11_113 (by omega) (by decide) rfl rfl (Nat.le_of_ble_eq_true rfl) h_a0 (fun q hq => con_X11_refuse h_a0 hq) dX11_hangs_13 (fun q11 _ => ?_)
      exact c_iret G hQ dX11_hangs_16
set_option maxHeartbeats 4000000 in
set_option maxRecDepth 100000 in
theorem con_X1_hasAttribute {w : Wp} {N : Nat} {a0 : Nat} {a1 : Int32} {a2 : Int32} {M : Mm} {q : Int32} (h_a0 : lay a0 = (5, 1)) (hq : D_X1_hasAttribute N a0 a1 a2 M = some q) : Con w 1 yX1_hasAttribute cX1_hasAttribute 3 (some .boolean) [.ref (wB w + pz (a0)), .int a1, .int a2] M ((encPI M) q) := by
  refine Con.of (encPI M) q _ hq (by decide) (Nat.le_of_ble_eq_true rfl) ?_
  intro X G Q hQ
  have G : Good w X cX1_hasAttribute 3 RX1 (some .boolean) 1 := G
  refine c_weak [(0, .ref (wB w + pz (a0))), (1, .int a1), (2, .int a2)] [0, 1, 2] rfl ?_
  rw [D_X1_hasAttribute]
  refine c_aload_n G dX1_hasAttribute_0 rfl 0 rfl ?_
  refine c_iload_n G dX1_hasAttribute_1 rfl 1 rfl ?_
  refine c_callV_PI (d := 0) (rest := []) G [.int a1] yv_X1_hasSymbol ml_X1_77 (by omega) (by decide) rfl rfl (Nat.le_of_ble_eq_true rfl) h_a0 (fun q hq => con_X1_hasSymbol h_a0 hq) dX1_hasAttribute_2 (fun q1 _ => ?_)
  refine c_jn (ej := fun (p33 : Unit) => []) (sj := fun p33 => []) (mj := fun p33 => M) (pj := 33) (fun p33 => ?_) (fun J1 hJ33 => ?_)
  · skip
    refine c_iconst G (nI 0) dX1_hasAttribute_33 kI_0 ?_
    exact c_zretP G hQ dX1_hasAttribute_34
  · skip
    refine c_if_eq (tgt := 33) G dX1_hasAttribute_5 (by decide) (fun _ => ?_) (fun _ => ?_)
    · skip
      exact c_weak _ [] rfl (hJ33 ())
    · skip
      refine c_iload_n G dX1_hasAttribute_8 rfl 2 rfl ?_
      refine c_if_lt (tgt := 33) G dX1_hasAttribute_9 (by decide) (fun _ => ?_) (fun _ => ?_)
      · skip
        exact c_weak _ [] rfl (hJ33 ())
      · skip
        refine c_iload_n G dX1_hasAttribute_12 rfl 2 rfl ?_
        refine c_aload_n G dX1_hasAttribute_13 rfl 0 rfl ?_
        refine c_getF G fl_X1_21 h_a0 rfl dX1_hasAttribute_14 ?_
        refine c_iload_n G dX1_hasAttribute_17 rfl 1 rfl ?_
        refine c_iald G (lf h_a0 6 rfl) dX1_hasAttribute_18 (fun v1 _ => ?_)
        refine c_aload_n G dX1_hasAttribute_19 rfl 0 rfl ?_
        refine c_getF G fl_X1_25 h_a0 rfl dX1_hasAttribute_20 ?_
        refine c_iload_n G dX1_hasAttribute_23 rfl 1 rfl ?_
        refine c_iald G (lf h_a0 7 rfl) dX1_hasAttribute_24 (fun v2 _ => ?_)
        refine c_iadd G dX1_hasAttribute_25 ?_
        refine c_icmp_ge (tgt := 33) G dX1_hasAttribute_26 (by decide) (fun _ => ?_) (fun _ => ?_)
        · skip
          exact c_weak _ [] rfl (hJ33 ())
        · skip
          refine c_iconst G (nI 1) dX1_hasAttribute_29 kI_1 ?_
          refine c_goto (tgt := 34) G dX1_hasAttribute_30 (by decide) ?_
          exact c_zretP G hQ dX1_hasAttribute_34
set_option maxHeartbeats 4000000 in
set_option maxRecDepth 100000 in
theorem con_X11_induced {w : Wp} {N : Nat} {a0 : Nat} {a1 : Int32} {a2 : Int32} {a3 : Int32} {M : Mm} {q : Int32 × Mm} (h_a0 : lay a0 = (5, 11)) (hq : D_X11_induced N a0 a1 a2 a3 M = some q) : Con w 2 yX11_induced cX11_induced 4 (some .int) [.ref (wB w + pz (a0)), .int a1, .int a2, .int a3] M (encI q) := by
  refine Con.of encI q _ hq (by decide) (Nat.le_of_ble_eq_true rfl) ?_
  intro X G Q hQ
  have G : Good w X cX11_induced 4 RX11 (some .int) 2 := G
  refine c_weak [(0, .ref (wB w + pz (a0))), (1, .int a1), (2, .int a2), (3, .int a3)] [0, 1, 2, 3] rfl ?_
  rw [D_X11_induced]
  refine c_aload_n G dX11_induced_0 rfl 0 rfl ?_
  refine c_getR (c' := 1) G fl_X11_75 h_a0 rfl dX11_induced_1 (fun r1 _ h_r1 => ?_)
  refine c_iload_n G dX11_induced_4 rfl 1 rfl ?_
  refine c_iload_n G dX11_induced_5 rfl 2 rfl ?_
  refine c_callV_PI (d := 1) (rest := []) G [.int a1, .int a2] yv_X1_hasAttribute ml_X11_219 (by omega) (by decide) rfl rfl (Nat.le_of_ble_eq_true rfl) h_r1 (fun q hq => con_X1_hasAttribute h_r1 hq) dX11_induced_6 (fun q1 _ => ?_)
  refine c_if_eq (tgt := 24) G dX11_induced_9 (by decide) (fun _ => ?_) (fun _ => ?_)
  · skip
    refine c_aload_n G dX11_induced_24 rfl 0 rfl ?_
    refine c_iconst G (nI 4) dX11_induced_25 kI_4 ?_
    refine c_callV_I (d := 0) (rest := []) G [.int (nI 4)] yv_X11_refuse ml_X11_113 (by omega) (by decide) rfl rfl (Nat.le_of_ble_eq_true rfl) h_a0 (fun q hq => con_X11_refuse h_a0 hq) dX11_induced_26 (fun q2 _ => ?_)
    exact c_iret G hQ dX11_induced_29
  · skip
    refine c_aload_n G dX11_induced_12 rfl 0 rfl ?_
    refine c_getR (c' := 1) G fl_X11_75 h_a0 rfl dX11_induced_13 (fun r2 _ h_r2 => ?_)
    refine c_iload_n G dX11_induced_16 rfl 1 rfl ?_
    refine c_iload_n G dX11_induced_17 rfl 3 rfl ?_
    refine c_callV_PI (d := 1) (rest := []) G [.int a1, .int a3] yv_X1_hasAttribute ml_X11_219 (by omega) (by decide) rfl rfl (Nat.le_of_ble_eq_true rfl) h_r2 (fun q hq => con_X1_hasAttribute h_r2 hq) dX11_induced_18 (fun q3 _ => ?_)
    refine c_if_ne (tgt := 30) G dX11_induced_21 (by decide) (fun _ => ?_) (fun _ => ?_)
    · skip
      refine c_aload_n G dX11_induced_24 rfl 0 rfl ?_
      refine c_iconst G (nI 4) dX11_induced_25 kI_4 ?_
      refine c_callV_I (d := 0) (rest := []) G [.int (nI 4)] yv_X11_refuse ml_X11_113 (by omega) (by decide) rfl rfl (Nat.le_of_ble_eq_true rfl) h_a0 (fun q hq => con_X11_refuse h_a0 hq) dX11_induced_26 (fun q4 _ => ?_)
      exact c_iret G hQ dX11_induced_29
    · skip
      refine c_aload_n G dX11_induced_30 rfl 0 rfl ?_
      refine c_aload_n G dX11_induced_31 rfl 0 rfl ?_
      refine c_getF G fl_X11_47 h_a0 rfl dX11_induced_32 ?_
      refine c_getF G fl_X11_222 (lf h_a0 7 rfl) rfl dX11_induced_35 ?_
      refine c_bipush G (nI 8) dX11_induced_38 kB_8 ?_
      refine c_iload_n G dX11_induced_40 rfl 1 rfl ?_
      refine c_imul G dX11_induced_41 ?_
      refine c_iload_n G dX11_induced_42 rfl 2 rfl ?_
      refine c_iadd G dX11_induced_43 ?_
      refine c_iald G (lf (lf h_a0 7 rfl) 0 rfl) dX11_induced_44 (fun v1 _ => ?_)
      refine c_iload_n G dX11_induced_45 rfl 3 rfl ?_
      refine c_iushr G dX11_induced_46 ?_
      refine c_iconst G (nI 1) dX11_induced_47 kI_1 ?_
      refine c_iand G dX11_induced_48 ?_
      refine c_callV_I (d := 0) (rest := []) G [.int ((shr v1 a3) &&& (nI 1))] yv_X11_answer ml_X11_147 (by omega) (by decide) rfl rfl (Nat.le_of_ble_eq_true rfl) h_a0 (fun q hq => con_X11_answer h_a0 hq) dX11_induced_49 (fun q5 _ => ?_)
      exact c_iret G hQ dX11_induced_52
set_option maxHeartbeats 4000000 in
set_option maxRecDepth 100000 in
theorem con_X11_circle {w : Wp} {N : Nat} {a0 : Nat} {a1 : Int32} {M : Mm} {q : Int32 × Mm} (h_a0 : lay a0 = (5, 11)) (hq : D_X11_circle N a0 a1 M = some q) : Con w 1 yX11_circle cX11_circle 2 (some .int) [.ref (wB w + pz (a0)), .int a1] M (encI q) := by
  refine Con.of encI q _ hq (by decide) (Nat.le_of_ble_eq_true rfl) ?_
  intro X G Q hQ
  have G : Good w X cX11_circle 2 RX11 (some .int) 1 := G
  refine c_weak [(0, .ref (wB w + pz (a0))), (1, .int a1)] [0, 1] rfl ?_
  rw [D_X11_circle]
  refine c_iload_n G dX11_circle_0 rfl 1 rfl ?_
  refine c_iconst G m1 dX11_circle_1 kI_m1 ?_
  refine c_icmp_ge (tgt := 11) G dX11_circle_2 (by decide) (fun _ => ?_) (fun _ => ?_)
  · skip
    refine c_aload_n G dX11_circle_11 rfl 0 rfl ?_
    refine c_getR (c' := 1) G fl_X11_75 h_a0 rfl dX11_circle_12 (fun r1 _ h_r1 => ?_)
    refine c_getI G fl_X11_153 h_r1 rfl dX11_circle_15 ?_
    refine c_if_ne (tgt := 27) G dX11_circle_18 (by decide) (fun _ => ?_) (fun _ => ?_)
    · skip
      refine c_aload_n G dX11_circle_21 rfl 0 rfl ?_
      refine c_iconst G (nI 2) dX11_circle_22 kI_2 ?_
      refine c_callV_I (d := 0) (rest := []) G [.int (nI 2)] yv_X11_refuse ml_X11_113 (by omega) (by decide) rfl rfl (Nat.le_of_ble_eq_true rfl) h_a0 (fun q hq => con_X11_refuse h_a0 hq) dX11_circle_23 (fun q1 _ => ?_)
      exact c_iret G hQ dX11_circle_26
    · skip
      refine c_aload_n G dX11_circle_27 rfl 0 rfl ?_
      refine c_getF G fl_X11_47 h_a0 rfl dX11_circle_28 ?_
      refine c_getI G fl_X11_225 (lf h_a0 7 rfl) rfl dX11_circle_31 ?_
      refine c_iconst G m1 dX11_circle_34 kI_m1 ?_
      refine c_icmp_eq (tgt := 42) G dX11_circle_35 (by decide) (fun _ => ?_) (fun _ => ?_)
      · skip
        refine c_aload_n G dX11_circle_42 rfl 0 rfl ?_
        refine c_bipush G (nI 7) dX11_circle_43 kB_7 ?_
        refine c_callV_I (d := 0) (rest := []) G [.int (nI 7)] yv_X11_refuse ml_X11_113 (by omega) (by decide) rfl rfl (Nat.le_of_ble_eq_true rfl) h_a0 (fun q hq => con_X11_refuse h_a0 hq) dX11_circle_45 (fun q2 _ => ?_)
        exact c_iret G hQ dX11_circle_48
      · skip
        refine c_iload_n G dX11_circle_38 rfl 1 rfl ?_
        refine c_if_le (tgt := 49) G dX11_circle_39 (by decide) (fun _ => ?_) (fun _ => ?_)
        · skip
          refine c_aload_n G dX11_circle_49 rfl 0 rfl ?_
          refine c_iload_n G dX11_circle_50 rfl 1 rfl ?_
          refine c_iconst G m1 dX11_circle_51 kI_m1 ?_
          refine c_icmp_ne (tgt := 65) G dX11_circle_52 (by decide) (fun _ => ?_) (fun _ => ?_)
          · skip
            refine c_aload_n G dX11_circle_55 rfl 0 rfl ?_
            refine c_getF G fl_X11_47 h_a0 rfl dX11_circle_56 ?_
            refine c_getI G fl_X11_228 (lf h_a0 7 rfl) rfl dX11_circle_59 ?_
            refine c_goto (tgt := 72) G dX11_circle_62 (by decide) ?_
            refine c_callV_I (d := 0) (rest := []) G [.int (M.1 (a0 + 8) 2)] yv_X11_answer ml_X11_147 (by omega) (by decide) rfl rfl (Nat.le_of_ble_eq_true rfl) h_a0 (fun q hq => con_X11_answer h_a0 hq) dX11_circle_72 (fun q3 _ => ?_)
            exact c_iret G hQ dX11_circle_75
          · skip
            refine c_aload_n G dX11_circle_65 rfl 0 rfl ?_
            refine c_getF G fl_X11_47 h_a0 rfl dX11_circle_66 ?_
            refine c_getI G fl_X11_225 (lf h_a0 7 rfl) rfl dX11_circle_69 ?_
            refine c_callV_I (d := 0) (rest := []) G [.int (M.1 (a0 + 8) 3)] yv_X11_answer ml_X11_147 (by omega) (by decide) rfl rfl (Nat.le_of_ble_eq_true rfl) h_a0 (fun q hq => con_X11_answer h_a0 hq) dX11_circle_72 (fun q4 _ => ?_)
            exact c_iret G hQ dX11_circle_75
        · skip
          refine c_aload_n G dX11_circle_42 rfl 0 rfl ?_
          refine c_bipush G (nI 7) dX11_circle_43 kB_7 ?_
          refine c_callV_I (d := 0) (rest := []) G [.int (nI 7)] yv_X11_refuse ml_X11_113 (by omega) (by decide) rfl rfl (Nat.le_of_ble_eq_true rfl) h_a0 (fun q hq => con_X11_refuse h_a0 hq) dX11_circle_45 (fun q5 _ => ?_)
          exact c_iret G hQ dX11_circle_48
  · skip
    refine c_aload_n G dX11_circle_5 rfl 0 rfl ?_
    refine c_iconst G (nI 1) dX11_circle_6 kI_1 ?_
    refine c_callV_I (d := 0) (rest := []) G [.int (nI 1)] yv_X11_refuse ml_X11_113 (by omega) (by decide) rfl rfl (Nat.le_of_ble_eq_true rfl) h_a0 (fun q hq => con_X11_refuse h_a0 hq) dX11_circle_7 (fun q6 _ => ?_)
    exact c_iret G hQ dX11_circle_10
set_option maxHeartbeats 4000000 in
set_option maxRecDepth 100000 in
theorem con_X11_visit {w : Wp} {N : Nat} {a0 : Nat} {a1 : Int32} {a2 : Int32} {M : Mm} {q : Int32 × Mm} (h_a0 : lay a0 = (5, 11)) (hq : D_X11_visit N a0 a1 a2 M = some q) : Con w 2 yX11_visit cX11_visit 3 (some .int) [.ref (wB w + pz (a0)), .int a1, .int a2] M (encI q) := by
  refine Con.of encI q _ hq (by decide) (Nat.le_of_ble_eq_true rfl) ?_
  intro X G Q hQ
  have G : Good w X cX11_visit 3 RX11 (some .int) 2 := G
  refine c_weak [(0, .ref (wB w + pz (a0))), (1, .int a1), (2, .int a2)] [0, 1, 2] rfl ?_
  rw [D_X11_visit]
  refine c_aload_n G dX11_visit_0 rfl 0 rfl ?_
  refine c_getR (c' := 1) G fl_X11_75 h_a0 rfl dX11_visit_1 (fun r1 _ h_r1 => ?_)
  refine c_iload_n G dX11_visit_4 rfl 1 rfl ?_
  refine c_iload_n G dX11_visit_5 rfl 2 rfl ?_
  refine c_callV_PI (d := 1) (rest := []) G [.int a1, .int a2] yv_X1_hasAttribute ml_X11_219 (by omega) (by decide) rfl rfl (Nat.le_of_ble_eq_true rfl) h_r1 (fun q hq => con_X1_hasAttribute h_r1 hq) dX11_visit_6 (fun q1 _ => ?_)
  refine c_if_ne (tgt := 18) G dX11_visit_9 (by decide) (fun _ => ?_) (fun _ => ?_)
  · skip
    refine c_aload_n G dX11_visit_12 rfl 0 rfl ?_
    refine c_iconst G (nI 4) dX11_visit_13 kI_4 ?_
    refine c_callV_I (d := 0) (rest := []) G [.int (nI 4)] yv_X11_refuse ml_X11_113 (by omega) (by decide) rfl rfl (Nat.le_of_ble_eq_true rfl) h_a0 (fun q hq => con_X11_refuse h_a0 hq) dX11_visit_14 (fun q2 _ => ?_)
    exact c_iret G hQ dX11_visit_17
  · skip
    refine c_aload_n G dX11_visit_18 rfl 0 rfl ?_
    refine c_getF G fl_X11_54 h_a0 rfl dX11_visit_19 ?_
    refine c_getF G fl_X11_182 (lf h_a0 8 rfl) rfl dX11_visit_22 ?_
    refine c_iload_n G dX11_visit_25 rfl 1 rfl ?_
    refine c_iald G (lf (lf h_a0 8 rfl) 0 rfl) dX11_visit_26 (fun v1 _ => ?_)
    refine c_if_ne (tgt := 39) G dX11_visit_27 (by decide) (fun _ => ?_) (fun _ => ?_)
    · skip
      refine c_aload_n G dX11_visit_30 rfl 0 rfl ?_
      refine c_bipush G (nI 7) dX11_visit_31 kB_7 ?_
      refine c_callV_I (d := 0) (rest := []) G [.int (nI 7)] yv_X11_refuse ml_X11_113 (by omega) (by decide) rfl rfl (Nat.le_of_ble_eq_true rfl) h_a0 (fun q hq => con_X11_refuse h_a0 hq) dX11_visit_33 (fun q3 _ => ?_)
      refine c_goto (tgt := 57) G dX11_visit_36 (by decide) ?_
      exact c_iret G hQ dX11_visit_57
    · skip
      refine c_aload_n G dX11_visit_39 rfl 0 rfl ?_
      refine c_aload_n G dX11_visit_40 rfl 0 rfl ?_
      refine c_getF G fl_X11_54 h_a0 rfl dX11_visit_41 ?_
      refine c_getF G fl_X11_231 (lf h_a0 8 rfl) rfl dX11_visit_44 ?_
      refine c_bipush G (nI 8) dX11_visit_47 kB_8 ?_
      refine c_iload_n G dX11_visit_49 rfl 1 rfl ?_
      refine c_imul G dX11_visit_50 ?_
      refine c_iload_n G dX11_visit_51 rfl 2 rfl ?_
      refine c_iadd G dX11_visit_52 ?_
      refine c_iald G (lf (lf h_a0 8 rfl) 1 rfl) dX11_visit_53 (fun v2 _ => ?_)
      refine c_callV_I (d := 0) (rest := []) G [.int v2] yv_X11_answer ml_X11_147 (by omega) (by decide) rfl rfl (Nat.le_of_ble_eq_true rfl) h_a0 (fun q hq => con_X11_answer h_a0 hq) dX11_visit_54 (fun q4 _ => ?_)
      exact c_iret G hQ dX11_visit_57
set_option maxHeartbeats 4000000 in
set_option maxRecDepth 100000 in
theorem con_X11_ordered {w : Wp} {N : Nat} {a0 : Nat} {a1 : Int32} {M : Mm} {q : Int32 × Mm} (h_a0 : lay a0 = (5, 11)) (hq : D_X11_ordered N a0 a1 M = some q) : Con w 1 yX11_ordered cX11_ordered 3 (some .int) [.ref (wB w + pz (a0)), .int a1] M (encI q) := by
  refine Con.of encI q _ hq (by decide) (Nat.le_of_ble_eq_true rfl) ?_
  intro X G Q hQ
  have G : Good w X cX11_ordered 3 RX11 (some .int) 1 := G
  refine c_weak [(0, .ref (wB w + pz (a0))), (1, .int a1)] [0, 1] rfl ?_
  rw [D_X11_ordered]
  refine c_iload_n G dX11_ordered_0 rfl 1 rfl ?_
  refine c_if_lt (tgt := 9) G dX11_ordered_1 (by decide) (fun _ => ?_) (fun _ => ?_)
  · skip
    refine c_aload_n G dX11_ordered_9 rfl 0 rfl ?_
    refine c_iconst G (nI 1) dX11_ordered_10 kI_1 ?_
    refine c_callV_I (d := 0) (rest := []) G [.int (nI 1)] yv_X11_refuse ml_X11_113 (by omega) (by decide) rfl rfl (Nat.le_of_ble_eq_true rfl) h_a0 (fun q hq => con_X11_refuse h_a0 hq) dX11_ordered_11 (fun q1 _ => ?_)
    exact c_iret G hQ dX11_ordered_14
  · skip
    refine c_iload_n G dX11_ordered_4 rfl 1 rfl ?_
    refine c_iconst G (nI 1) dX11_ordered_5 kI_1 ?_
    refine c_icmp_le (tgt := 15) G dX11_ordered_6 (by decide) (fun _ => ?_) (fun _ => ?_)
    · skip
      refine c_aload_n G dX11_ordered_15 rfl 0 rfl ?_
      refine c_getR (c' := 1) G fl_X11_75 h_a0 rfl dX11_ordered_16 (fun r1 _ h_r1 => ?_)
      refine c_getI G fl_X11_153 h_r1 rfl dX11_ordered_19 ?_
      refine c_if_ne (tgt := 31) G dX11_ordered_22 (by decide) (fun _ => ?_) (fun _ => ?_)
      · skip
        refine c_aload_n G dX11_ordered_25 rfl 0 rfl ?_
        refine c_iconst G (nI 2) dX11_ordered_26 kI_2 ?_
        refine c_callV_I (d := 0) (rest := []) G [.int (nI 2)] yv_X11_refuse ml_X11_113 (by omega) (by decide) rfl rfl (Nat.le_of_ble_eq_true rfl) h_a0 (fun q hq => con_X11_refuse h_a0 hq) dX11_ordered_27 (fun q2 _ => ?_)
        exact c_iret G hQ dX11_ordered_30
      · skip
        refine c_aload_n G dX11_ordered_31 rfl 0 rfl ?_
        refine c_getF G fl_X11_54 h_a0 rfl dX11_ordered_32 ?_
        refine c_getI G fl_X11_234 (lf h_a0 8 rfl) rfl dX11_ordered_35 ?_
        refine c_iconst G m1 dX11_ordered_38 kI_m1 ?_
        refine c_bj (ej := fun (p47 : Int32) => [(0, .ref (wB w + pz (a0))), (1, .int a1)]) (sj := fun p47 => [.int p47]) (mj := fun p47 => M) (pj := 47) (fun p47 => ?_) (fun F hJ47 => ?_)
        · skip
          refine c_istore_n G [(2, .int p47), (0, .ref (wB w + pz (a0))), (1, .int a1)] dX11_ordered_47 rfl (by decide) rfl ?_
          refine c_iload_n G dX11_ordered_48 rfl 2 rfl ?_
          refine c_if_ne (tgt := 66) G dX11_ordered_49 (by decide) (fun _ => ?_) (fun _ => ?_)
          · skip
            refine c_aload_n G dX11_ordered_52 rfl 1 rfl ?_
            refine c_iload_n G dX11_ordered_53 rfl 0 rfl ?_
            refine c_if_eq (tgt := 61) G dX11_ordered_54 (by decide) (fun _ => ?_) (fun _ => ?_)
            · skip
              refine c_iconst G (nI 0) dX11_ordered_61 kI_0 ?_
              refine c_callV_I (d := 0) (rest := []) G [.int (nI 0)] yv_X11_answer ml_X11_147 (by omega) (by decide) rfl rfl (Nat.le_of_ble_eq_true rfl) h_a0 (fun q hq => con_X11_answer h_a0 hq) dX11_ordered_62 (fun q3 _ => ?_)
              exact c_iret G hQ dX11_ordered_65
            · skip
              refine c_iconst G (nI 1) dX11_ordered_57 kI_1 ?_
              refine c_goto (tgt := 62) G dX11_ordered_58 (by decide) ?_
              refine c_callV_I (d := 0) (rest := []) G [.int (nI 1)] yv_X11_answer ml_X11_147 (by omega) (by decide) rfl rfl (Nat.le_of_ble_eq_true rfl) h_a0 (fun q hq => con_X11_answer h_a0 hq) dX11_ordered_62 (fun q4 _ => ?_)
              exact c_iret G hQ dX11_ordered_65
          · skip
            refine c_iload_n G dX11_ordered_66 rfl 0 rfl ?_
            refine c_if_eq (tgt := 79) G dX11_ordered_67 (by decide) (fun _ => ?_) (fun _ => ?_)
            · skip
              refine c_aload_n G dX11_ordered_79 rfl 1 rfl ?_
              refine c_aload_n G dX11_ordered_80 rfl 1 rfl ?_
              refine c_getF G fl_X11_54 h_a0 rfl dX11_ordered_81 ?_
              refine c_getI G fl_X11_234 (lf h_a0 8 rfl) rfl dX11_ordered_84 ?_
              refine c_callV_I (d := 0) (rest := []) G [.int (M.1 (a0 + 14) 3)] yv_X11_answer ml_X11_147 (by omega) (by decide) rfl rfl (Nat.le_of_ble_eq_true rfl) h_a0 (fun q hq => con_X11_answer h_a0 hq) dX11_ordered_87 (fun q5 _ => ?_)
              exact c_iret G hQ dX11_ordered_90
            · skip
              refine c_aload_n G dX11_ordered_70 rfl 1 rfl ?_
              refine c_bipush G (nI 7) dX11_ordered_71 kB_7 ?_
              refine c_callV_I (d := 0) (rest := []) G [.int (nI 7)] yv_X11_refuse ml_X11_113 (by omega) (by decide) rfl rfl (Nat.le_of_ble_eq_true rfl) h_a0 (fun q hq => con_X11_refuse h_a0 hq) dX11_ordered_73 (fun q6 _ => ?_)
              refine c_goto (tgt := 90) G dX11_ordered_76 (by decide) ?_
              exact c_iret G hQ dX11_ordered_90
        · skip
          refine c_icmp_ne (tgt := 46) G dX11_ordered_39 (by decide) (fun _ => ?_) (fun _ => ?_)
          · skip
            refine c_iconst G (nI 1) dX11_ordered_42 kI_1 ?_
            refine c_goto (tgt := 47) G dX11_ordered_43 (by decide) ?_
            exact c_weak _ [0, 1] rfl (hJ47 (nI 1))
          · skip
            refine c_iconst G (nI 0) dX11_ordered_46 kI_0 ?_
            exact c_weak _ [0, 1] rfl (hJ47 (nI 0))
    · skip
      refine c_aload_n G dX11_ordered_9 rfl 0 rfl ?_
      refine c_iconst G (nI 1) dX11_ordered_10 kI_1 ?_
      refine c_callV_I (d := 0) (rest := []) G [.int (nI 1)] yv_X11_refuse ml_X11_113 (by omega) (by decide) rfl rfl (Nat.le_of_ble_eq_true rfl) h_a0 (fun q hq => con_X11_refuse h_a0 hq) dX11_ordered_11 (fun q7 _ => ?_)
      exact c_iret G hQ dX11_ordered_14
set_option maxHeartbeats 4000000 in
set_option maxRecDepth 100000 in
theorem con_X5_step {w : Wp} {N : Nat} {a0 : Nat} {a1 : Int32} {a2 : Int32} {M : Mm} {q : Int32} (h_a0 : lay a0 = (5, 5)) (hq : D_X5_step N a0 a1 a2 M = some q) : Con w 0 yX5_step cX5_step 3 (some .int) [.ref (wB w + pz (a0)), .int a1, .int a2] M ((encPI M) q) := by
  refine Con.of (encPI M) q _ hq (by decide) (Nat.le_of_ble_eq_true rfl) ?_
  intro X G Q hQ
  have G : Good w X cX5_step 3 RX5 (some .int) 0 := G
  refine c_weak [(0, .ref (wB w + pz (a0))), (1, .int a1), (2, .int a2)] [0, 1, 2] rfl ?_
  rw [D_X5_step]
  refine c_iload_n G dX5_step_0 rfl 2 rfl ?_
  refine c_jn (ej := fun (p24 : Unit) => []) (sj := fun p24 => []) (mj := fun p24 => M) (pj := 24) (fun p24 => ?_) (fun J1 hJ24 => ?_)
  · skip
    refine c_iconst G m1 dX5_step_24 kI_m1 ?_
    exact c_iretP G hQ dX5_step_25
  · skip
    refine c_if_lt (tgt := 24) G dX5_step_1 (by decide) (fun _ => ?_) (fun _ => ?_)
    · skip
      exact c_weak _ [] rfl (hJ24 ())
    · skip
      refine c_iload_n G dX5_step_4 rfl 2 rfl ?_
      refine c_bipush G (nI 36) dX5_step_5 kB_36 ?_
      refine c_icmp_ge (tgt := 24) G dX5_step_7 (by decide) (fun _ => ?_) (fun _ => ?_)
      · skip
        exact c_weak _ [] rfl (hJ24 ())
      · skip
        refine c_aload_n G dX5_step_10 rfl 0 rfl ?_
        refine c_getF G fl_X5_21 h_a0 rfl dX5_step_11 ?_
        refine c_bipush G (nI 36) dX5_step_14 kB_36 ?_
        refine c_iload_n G dX5_step_16 rfl 1 rfl ?_
        refine c_imul G dX5_step_17 ?_
        refine c_iload_n G dX5_step_18 rfl 2 rfl ?_
        refine c_iadd G dX5_step_19 ?_
        refine c_iald G (lf h_a0 4 rfl) dX5_step_20 (fun v1 _ => ?_)
        refine c_goto (tgt := 25) G dX5_step_21 (by decide) ?_
        exact c_iretP G hQ dX5_step_25
set_option maxHeartbeats 4000000 in
set_option maxRecDepth 100000 in
theorem con_X11_plan {w : Wp} {N : Nat} {a0 : Nat} {a1 : Int32} {a2 : Int32} {M : Mm} {q : Int32 × Mm} (h_a0 : lay a0 = (5, 11)) (hq : D_X11_plan N a0 a1 a2 M = some q) : Con w 1 yX11_plan cX11_plan 3 (some .int) [.ref (wB w + pz (a0)), .int a1, .int a2] M (encI q) := by
  refine Con.of encI q _ hq (by decide) (Nat.le_of_ble_eq_true rfl) ?_
  intro X G Q hQ
  have G : Good w X cX11_plan 3 RX11 (some .int) 1 := G
  refine c_weak [(0, .ref (wB w + pz (a0))), (1, .int a1), (2, .int a2)] [0, 1, 2] rfl ?_
  rw [D_X11_plan]
  refine c_iload_n G dX11_plan_0 rfl 2 rfl ?_
  refine c_iconst G m1 dX11_plan_1 kI_m1 ?_
  refine c_icmp_ge (tgt := 11) G dX11_plan_2 (by decide) (fun _ => ?_) (fun _ => ?_)
  · skip
    refine c_aload_n G dX11_plan_11 rfl 0 rfl ?_
    refine c_getR (c' := 1) G fl_X11_75 h_a0 rfl dX11_plan_12 (fun r1 _ h_r1 => ?_)
    refine c_iload_n G dX11_plan_15 rfl 1 rfl ?_
    refine c_callV_PI (d := 0) (rest := []) G [.int a1] yv_X1_hasProduction ml_X11_184 (by omega) (by decide) rfl rfl (Nat.le_of_ble_eq_true rfl) h_r1 (fun q hq => con_X1_hasProduction h_r1 hq) dX11_plan_16 (fun q1 _ => ?_)
    refine c_if_ne (tgt := 28) G dX11_plan_19 (by decide) (fun _ => ?_) (fun _ => ?_)
    · skip
      refine c_aload_n G dX11_plan_22 rfl 0 rfl ?_
      refine c_iconst G (nI 4) dX11_plan_23 kI_4 ?_
      refine c_callV_I (d := 0) (rest := []) G [.int (nI 4)] yv_X11_refuse ml_X11_113 (by omega) (by decide) rfl rfl (Nat.le_of_ble_eq_true rfl) h_a0 (fun q hq => con_X11_refuse h_a0 hq) dX11_plan_24 (fun q2 _ => ?_)
      exact c_iret G hQ dX11_plan_27
    · skip
      refine c_aload_n G dX11_plan_28 rfl 0 rfl ?_
      refine c_getF G fl_X11_54 h_a0 rfl dX11_plan_29 ?_
      refine c_getI G fl_X11_234 (lf h_a0 8 rfl) rfl dX11_plan_32 ?_
      refine c_iconst G m1 dX11_plan_35 kI_m1 ?_
      refine c_icmp_eq (tgt := 45) G dX11_plan_36 (by decide) (fun _ => ?_) (fun _ => ?_)
      · skip
        refine c_iload_n G dX11_plan_45 rfl 2 rfl ?_
        refine c_iconst G m1 dX11_plan_46 kI_m1 ?_
        refine c_icmp_ne (tgt := 64) G dX11_plan_47 (by decide) (fun _ => ?_) (fun _ => ?_)
        · skip
          refine c_aload_n G dX11_plan_50 rfl 0 rfl ?_
          refine c_aload_n G dX11_plan_51 rfl 0 rfl ?_
          refine c_getF G fl_X11_54 h_a0 rfl dX11_plan_52 ?_
          refine c_getF G fl_X11_237 (lf h_a0 8 rfl) rfl dX11_plan_55 ?_
          refine c_iload_n G dX11_plan_58 rfl 1 rfl ?_
          refine c_iald G (lf (lf h_a0 8 rfl) 7 rfl) dX11_plan_59 (fun v1 _ => ?_)
          refine c_callV_I (d := 0) (rest := []) G [.int v1] yv_X11_answer ml_X11_147 (by omega) (by decide) rfl rfl (Nat.le_of_ble_eq_true rfl) h_a0 (fun q hq => con_X11_answer h_a0 hq) dX11_plan_60 (fun q3 _ => ?_)
          exact c_iret G hQ dX11_plan_63
        · skip
          refine c_iload_n G dX11_plan_64 rfl 2 rfl ?_
          refine c_aload_n G dX11_plan_65 rfl 0 rfl ?_
          refine c_getF G fl_X11_54 h_a0 rfl dX11_plan_66 ?_
          refine c_getF G fl_X11_237 (lf h_a0 8 rfl) rfl dX11_plan_69 ?_
          refine c_iload_n G dX11_plan_72 rfl 1 rfl ?_
          refine c_iald G (lf (lf h_a0 8 rfl) 7 rfl) dX11_plan_73 (fun v2 _ => ?_)
          refine c_icmp_lt (tgt := 86) G dX11_plan_74 (by decide) (fun _ => ?_) (fun _ => ?_)
          · skip
            refine c_aload_n G dX11_plan_86 rfl 0 rfl ?_
            refine c_aload_n G dX11_plan_87 rfl 0 rfl ?_
            refine c_getF G fl_X11_54 h_a0 rfl dX11_plan_88 ?_
            refine c_iload_n G dX11_plan_91 rfl 1 rfl ?_
            refine c_iload_n G dX11_plan_92 rfl 2 rfl ?_
            refine c_callV_PI (d := 0) (rest := [.ref (wB w + pz (a0))]) G [.int a1, .int a2] yv_X5_step ml_X11_239 (by omega) (by decide) rfl rfl (Nat.le_of_ble_eq_true rfl) (lf h_a0 8 rfl) (fun q hq => con_X5_step (lf h_a0 8 rfl) hq) dX11_plan_93 (fun q4 _ => ?_)
            refine c_callV_I (d := 0) (rest := []) G [.int q4] yv_X11_answer ml_X11_147 (by omega) (by decide) rfl rfl (Nat.le_of_ble_eq_true rfl) h_a0 (fun q hq => con_X11_answer h_a0 hq) dX11_plan_96 (fun q5 _ => ?_)
            exact c_iret G hQ dX11_plan_99
          · skip
            refine c_aload_n G dX11_plan_77 rfl 0 rfl ?_
            refine c_bipush G (nI 7) dX11_plan_78 kB_7 ?_
            refine c_callV_I (d := 0) (rest := []) G [.int (nI 7)] yv_X11_refuse ml_X11_113 (by omega) (by decide) rfl rfl (Nat.le_of_ble_eq_true rfl) h_a0 (fun q hq => con_X11_refuse h_a0 hq) dX11_plan_80 (fun q6 _ => ?_)
            refine c_goto (tgt := 99) G dX11_plan_83 (by decide) ?_
            exact c_iret G hQ dX11_plan_99
      · skip
        refine c_aload_n G dX11_plan_39 rfl 0 rfl ?_
        refine c_iconst G (nI 5) dX11_plan_40 kI_5 ?_
        refine c_callV_I (d := 0) (rest := []) G [.int (nI 5)] yv_X11_refuse ml_X11_113 (by omega) (by decide) rfl rfl (Nat.le_of_ble_eq_true rfl) h_a0 (fun q hq => con_X11_refuse h_a0 hq) dX11_plan_41 (fun q7 _ => ?_)
        exact c_iret G hQ dX11_plan_44
  · skip
    refine c_aload_n G dX11_plan_5 rfl 0 rfl ?_
    refine c_iconst G (nI 1) dX11_plan_6 kI_1 ?_
    refine c_callV_I (d := 0) (rest := []) G [.int (nI 1)] yv_X11_refuse ml_X11_113 (by omega) (by decide) rfl rfl (Nat.le_of_ble_eq_true rfl) h_a0 (fun q hq => con_X11_refuse h_a0 hq) dX11_plan_7 (fun q8 _ => ?_)
    exact c_iret G hQ dX11_plan_10
set_option maxHeartbeats 4000000 in
set_option maxRecDepth 100000 in
theorem con_X6_begin {w : Wp} {N : Nat} {a0 : Nat} {M : Mm} {q : Mm} (h_a0 : lay a0 = (5, 6)) (hq : D_X6_begin N a0 M = some q) : Con w 1 yX6_begin cX6_begin 1 none [.ref (wB w + pz (a0))] M (encV q) := by
  refine Con.of encV q _ hq (by decide) (Nat.le_of_ble_eq_true rfl) ?_
  intro X G Q hQ
  have G : Good w X cX6_begin 1 RX6 none 1 := G
  refine c_weak [(0, .ref (wB w + pz (a0)))] [0] rfl ?_
  rw [D_X6_begin]
  refine c_aload_n G dX6_begin_0 rfl 0 rfl ?_
  refine c_getF G fl_X6_24 h_a0 rfl dX6_begin_1 ?_
  refine c_iconst G (nI 0) dX6_begin_4 kI_0 ?_
  refine c_callS_V (d := 0) (rest := []) G [.ref (wB w + pz ((a0 + 5))), .int (nI 0)] ys_J7_fill_53178 ml_X6_58 (by omega) (by decide) rfl rfl (Nat.le_of_ble_eq_true rfl) (fun q hq => con_J7_fill_53178 (ll (lf h_a0 4 rfl)) hq) dX6_begin_5 (fun M1 _ => ?_)
  refine c_aload_n G dX6_begin_8 rfl 0 rfl ?_
  refine c_iconst G (nI 0) dX6_begin_9 kI_0 ?_
  refine c_putZ G fp_X6_52 h_a0 rfl dX6_begin_10 (fun M2 _ => ?_)
  refine c_aload_n G dX6_begin_13 rfl 0 rfl ?_
  refine c_iconst G (nI 0) dX6_begin_14 kI_0 ?_
  refine c_putZ G fp_X6_31 h_a0 rfl dX6_begin_15 (fun M3 _ => ?_)
  refine c_aload_n G dX6_begin_18 rfl 0 rfl ?_
  refine c_iconst G (nI 0) dX6_begin_19 kI_0 ?_
  refine c_putI G fp_X6_34 h_a0 rfl dX6_begin_20 (fun M4 _ => ?_)
  exact c_vret G hQ dX6_begin_23
set_option maxHeartbeats 4000000 in
set_option maxRecDepth 100000 in
theorem cl_X6_total_4 {w : Wp} {M : Mm} {X : Cx} {Q : State → Prop} {ρ : Int32} (G : Good w X cX6_total 3 RX6 (some .int) 0) (hQ : Q = MQ (xL X) (Qd w ((encPI M) ρ)) (xA X) (xS X) (xk X) (xs X) (Aw w)) {a0 : Nat} (h_a0 : lay a0 = (5, 6)) : ∀ (n : Nat) (l1_1 : Int32) (l2_1 : Int32), Cov w X Q ρ some 3 4 [(0, .ref (wB w + pz (a0))), (1, .int l1_1), (2, .int l2_1)] [] M (L_X6_total_4 a0 M n l1_1 l2_1) := by
  intro n
  induction n with
  | zero => intro l1_1 l2_1; exact c_none
  | succ n ih =>
    intro l1_1 l2_1
    rw [L_X6_total_4]
    refine c_iload_n G dX6_total_4 rfl 2 rfl ?_
    refine c_bipush G (nI 8) dX6_total_5 kB_8 ?_
    refine c_icmp_ge (tgt := 25) G dX6_total_7 (by decide) (fun _ => ?_) (fun _ => ?_)
    · skip
      refine c_iload_n G dX6_total_25 rfl 1 rfl ?_
      exact c_iretP G hQ dX6_total_26
    · skip
      refine c_iload_n G dX6_total_10 rfl 1 rfl ?_
      refine c_aload_n G dX6_total_11 rfl 0 rfl ?_
      refine c_getF G fl_X6_24 h_a0 rfl dX6_total_12 ?_
      refine c_iload_n G dX6_total_15 rfl 2 rfl ?_
      refine c_iald G (lf h_a0 4 rfl) dX6_total_16 (fun v1 _ => ?_)
      refine c_iadd G dX6_total_17 ?_
      refine c_let (fun l1_2 _ => ?_)
      refine c_istore_n G [(1, .int l1_2), (0, .ref (wB w + pz (a0))), (2, .int l2_1)] dX6_total_18 rfl (by decide) rfl ?_
      refine c_iinc G (fun y__ => [(2, .int y__), (1, .int l1_2), (0, .ref (wB w + pz (a0)))]) dX6_total_19 2 rfl kI_1 (by decide) (fun _ => rfl) (fun l2_2 _ => ?_)
      refine c_goto (tgt := 4) G dX6_total_22 (by decide) ?_
      exact c_weak _ [2, 1, 0] rfl (ih l1_2 l2_2)
set_option maxHeartbeats 4000000 in
set_option maxRecDepth 100000 in
theorem con_X6_total {w : Wp} {N : Nat} {a0 : Nat} {M : Mm} {q : Int32} (h_a0 : lay a0 = (5, 6)) (hq : D_X6_total N a0 M = some q) : Con w 0 yX6_total cX6_total 3 (some .int) [.ref (wB w + pz (a0))] M ((encPI M) q) := by
  refine Con.of (encPI M) q _ hq (by decide) (Nat.le_of_ble_eq_true rfl) ?_
  intro X G Q hQ
  have G : Good w X cX6_total 3 RX6 (some .int) 0 := G
  refine c_weak [(0, .ref (wB w + pz (a0)))] [0] rfl ?_
  rw [D_X6_total]
  refine c_iconst G (nI 0) dX6_total_0 kI_0 ?_
  refine c_istore_n G [(1, .int (nI 0)), (0, .ref (wB w + pz (a0)))] dX6_total_1 rfl (by decide) rfl ?_
  refine c_iconst G (nI 0) dX6_total_2 kI_0 ?_
  refine c_istore_n G [(2, .int (nI 0)), (1, .int (nI 0)), (0, .ref (wB w + pz (a0)))] dX6_total_3 rfl (by decide) rfl ?_
  refine c_weak _ [2, 1, 0] rfl (cl_X6_total_4 G hQ  h_a0 N (nI 0) (nI 0))
set_option maxHeartbeats 4000000 in
set_option maxRecDepth 100000 in
theorem con_X6_choices {w : Wp} {N : Nat} {a0 : Nat} {a1 : Nat} {a2 : Int32} {a3 : Int32} {M : Mm} {q : Int32} (h_a0 : lay a0 = (5, 6)) (h_a1 : lay a1 = (5, 1)) (hq : D_X6_choices N a0 a1 a2 a3 M = some q) : Con w 1 yX6_choices cX6_choices 4 (some .int) [.ref (wB w + pz (a0)), .ref (wB w + pz (a1)), .int a2, .int a3] M ((encPI M) q) := by
  refine Con.of (encPI M) q _ hq (by decide) (Nat.le_of_ble_eq_true rfl) ?_
  intro X G Q hQ
  have G : Good w X cX6_choices 4 RX6 (some .int) 1 := G
  refine c_weak [(0, .ref (wB w + pz (a0))), (1, .ref (wB w + pz (a1))), (2, .int a2), (3, .int a3)] [0, 1, 2, 3] rfl ?_
  rw [D_X6_choices]
  refine c_iload_n G dX6_choices_0 rfl 3 rfl ?_
  refine c_aload_n G dX6_choices_1 rfl 1 rfl ?_
  refine c_getF G fl_X6_88 h_a1 rfl dX6_choices_2 ?_
  refine c_iload_n G dX6_choices_5 rfl 2 rfl ?_
  refine c_iald G (lf h_a1 8 rfl) dX6_choices_6 (fun v1 _ => ?_)
  refine c_icmp_ge (tgt := 24) G dX6_choices_7 (by decide) (fun _ => ?_) (fun _ => ?_)
  · skip
    refine c_iconst G (nI 1) dX6_choices_24 kI_1 ?_
    exact c_iretP G hQ dX6_choices_25
  · skip
    refine c_aload_n G dX6_choices_10 rfl 0 rfl ?_
    refine c_getF G fl_X6_15 h_a0 rfl dX6_choices_11 ?_
    refine c_aload_n G dX6_choices_14 rfl 1 rfl ?_
    refine c_iload_n G dX6_choices_15 rfl 2 rfl ?_
    refine c_iload_n G dX6_choices_16 rfl 3 rfl ?_
    refine c_callV_PI (d := 0) (rest := [.ref (wB w + pz ((a0 + 2)))]) G [.int a2, .int a3] yv_X1_side ml_X6_91 (by omega) (by decide) rfl rfl (Nat.le_of_ble_eq_true rfl) h_a1 (fun q hq => con_X1_side h_a1 hq) dX6_choices_17 (fun q1 _ => ?_)
    refine c_iald G (lf h_a0 1 rfl) dX6_choices_20 (fun v2 _ => ?_)
    refine c_goto (tgt := 25) G dX6_choices_21 (by decide) ?_
    exact c_iretP G hQ dX6_choices_25
set_option maxHeartbeats 4000000 in
set_option maxRecDepth 100000 in
theorem con_X6_isNew {w : Wp} {N : Nat} {a0 : Nat} {a1 : Nat} {a2 : Int32} {a3 : Int32} {a4 : Int32} {M : Mm} {q : Int32} (h_a0 : lay a0 = (5, 6)) (h_a1 : lay a1 = (5, 1)) (hq : D_X6_isNew N a0 a1 a2 a3 a4 M = some q) : Con w 1 yX6_isNew cX6_isNew 5 (some .boolean) [.ref (wB w + pz (a0)), .ref (wB w + pz (a1)), .int a2, .int a3, .int a4] M ((encPI M) q) := by
  refine Con.of (encPI M) q _ hq (by decide) (Nat.le_of_ble_eq_true rfl) ?_
  intro X G Q hQ
  have G : Good w X cX6_isNew 5 RX6 (some .boolean) 1 := G
  refine c_weak [(0, .ref (wB w + pz (a0))), (1, .ref (wB w + pz (a1))), (2, .int a2), (3, .int a3), (4, .int a4)] [0, 1, 2, 3, 4] rfl ?_
  rw [D_X6_isNew]
  refine c_iload_n G dX6_isNew_0 rfl 3 rfl ?_
  refine c_aload_n G dX6_isNew_1 rfl 1 rfl ?_
  refine c_getF G fl_X6_88 h_a1 rfl dX6_isNew_2 ?_
  refine c_iload_n G dX6_isNew_5 rfl 2 rfl ?_
  refine c_iald G (lf h_a1 8 rfl) dX6_isNew_6 (fun v1 _ => ?_)
  refine c_jn (ej := fun (p30 : Unit) => []) (sj := fun p30 => []) (mj := fun p30 => M) (pj := 30) (fun p30 => ?_) (fun J1 hJ30 => ?_)
  · skip
    refine c_iconst G (nI 0) dX6_isNew_30 kI_0 ?_
    exact c_zretP G hQ dX6_isNew_31
  · skip
    refine c_icmp_ge (tgt := 30) G dX6_isNew_7 (by decide) (fun _ => ?_) (fun _ => ?_)
    · skip
      exact c_weak _ [] rfl (hJ30 ())
    · skip
      refine c_iload G dX6_isNew_10 4 rfl ?_
      refine c_aload_n G dX6_isNew_12 rfl 0 rfl ?_
      refine c_getF G fl_X6_18 h_a0 rfl dX6_isNew_13 ?_
      refine c_aload_n G dX6_isNew_16 rfl 1 rfl ?_
      refine c_iload_n G dX6_isNew_17 rfl 2 rfl ?_
      refine c_iload_n G dX6_isNew_18 rfl 3 rfl ?_
      refine c_callV_PI (d := 0) (rest := [.ref (wB w + pz ((a0 + 3))), .int a4]) G [.int a2, .int a3] yv_X1_side ml_X6_91 (by omega) (by decide) rfl rfl (Nat.le_of_ble_eq_true rfl) h_a1 (fun q hq => con_X1_side h_a1 hq) dX6_isNew_19 (fun q1 _ => ?_)
      refine c_iald G (lf h_a0 2 rfl) dX6_isNew_22 (fun v2 _ => ?_)
      refine c_icmp_lt (tgt := 30) G dX6_isNew_23 (by decide) (fun _ => ?_) (fun _ => ?_)
      · skip
        exact c_weak _ [] rfl (hJ30 ())
      · skip
        refine c_iconst G (nI 1) dX6_isNew_26 kI_1 ?_
        refine c_goto (tgt := 31) G dX6_isNew_27 (by decide) ?_
        exact c_zretP G hQ dX6_isNew_31
set_option maxHeartbeats 4000000 in
set_option maxRecDepth 100000 in
theorem cl_X6_layShade_37 {w : Wp} {X : Cx} {Q : State → Prop} {ρ : Mm} (G : Good w X cX6_layShade 9 RX6 none 1) (hQ : Q = MQ (xL X) (Qd w (encV ρ)) (xA X) (xS X) (xk X) (xs X) (Aw w)) {a1 : Nat} {q1 : Int32} {v2 : Int32} {a0 : Nat} {a3 : Int32} (h_a1 : lay a1 = (5, 1)) (h_a0 : lay a0 = (5, 6)) : ∀ (n : Nat) (l7_1 : Int32) (M1 : Mm), Cov w X Q ρ some 9 37 [(0, .ref (wB w + pz (a0))), (1, .ref (wB w + pz (a1))), (3, .int a3), (5, .int q1), (6, .int v2), (7, .int l7_1)] [] M1 (L_X6_layShade_37 a1 q1 v2 a0 a3 n l7_1 M1) := by
  intro n
  induction n with
  | zero => intro l7_1 M1; exact c_none
  | succ n ih =>
    intro l7_1 M1
    rw [L_X6_layShade_37]
    refine c_iload G dX6_layShade_37 5 rfl ?_
    refine c_aload_n G dX6_layShade_39 rfl 1 rfl ?_
    refine c_getF G fl_X6_118 h_a1 rfl dX6_layShade_40 ?_
    refine c_iload G dX6_layShade_43 3 rfl ?_
    refine c_iald G (lf h_a1 7 rfl) dX6_layShade_45 (fun v3 _ => ?_)
    refine c_icmp_ge (tgt := 97) G dX6_layShade_46 (by decide) (fun _ => ?_) (fun _ => ?_)
    · skip
      exact c_vret G hQ dX6_layShade_97
    · skip
      refine c_iload G dX6_layShade_49 4 rfl ?_
      refine c_iconst G (nI 4) dX6_layShade_51 kI_4 ?_
      refine c_iload G dX6_layShade_52 5 rfl ?_
      refine c_imul G dX6_layShade_54 ?_
      refine c_iushr G dX6_layShade_55 ?_
      refine c_bipush G (nI 15) dX6_layShade_56 kB_15 ?_
      refine c_iand G dX6_layShade_58 ?_
      refine c_let (fun l8_1 _ => ?_)
      refine c_istore G [(8, .int l8_1), (0, .ref (wB w + pz (a0))), (1, .ref (wB w + pz (a1))), (3, .int a3), (5, .int q1), (6, .int v2), (7, .int l7_1)] dX6_layShade_59 (by decide) rfl ?_
      refine c_aload_n G dX6_layShade_61 rfl 1 rfl ?_
      refine c_getF G fl_X6_21 h_a0 rfl dX6_layShade_62 ?_
      refine c_bipush G (nI 8) dX6_layShade_65 kB_8 ?_
      refine c_iload_n G dX6_layShade_67 rfl 3 rfl ?_
      refine c_imul G dX6_layShade_68 ?_
      refine c_aload_n G dX6_layShade_69 rfl 2 rfl ?_
      refine c_getF G fl_X6_121 h_a1 rfl dX6_layShade_70 ?_
      refine c_iload G dX6_layShade_73 4 rfl ?_
      refine c_iald G (lf h_a1 6 rfl) dX6_layShade_75 (fun v4 _ => ?_)
      refine c_iadd G dX6_layShade_76 ?_
      refine c_iload G dX6_layShade_77 6 rfl ?_
      refine c_iadd G dX6_layShade_79 ?_
      refine c_dup2 G dX6_layShade_80 rfl rfl ?_
      refine c_iald G (lf h_a0 3 rfl) dX6_layShade_81 (fun v5 _ => ?_)
      refine c_iload G dX6_layShade_82 0 rfl ?_
      refine c_bipush G (nI 8) dX6_layShade_84 kB_8 ?_
      refine c_iload_n G dX6_layShade_86 rfl 3 rfl ?_
      refine c_imul G dX6_layShade_87 ?_
      refine c_ishl G dX6_layShade_88 ?_
      refine c_ior G dX6_layShade_89 ?_
      refine c_iast G (lf h_a0 3 rfl) dX6_layShade_90 (fun M2 _ => ?_)
      refine c_iinc G (fun y__ => [(7, .int y__), (8, .int l8_1), (0, .ref (wB w + pz (a0))), (1, .ref (wB w + pz (a1))), (3, .int a3), (5, .int q1), (6, .int v2)]) dX6_layShade_91 6 rfl kI_1 (by decide) (fun _ => rfl) (fun l7_2 _ => ?_)
      refine c_goto (tgt := 37) G dX6_layShade_94 (by decide) ?_
      exact c_weak _ [2, 3, 4, 5, 6, 0] rfl (ih l7_2 M2)
set_option maxHeartbeats 4000000 in
set_option maxRecDepth 100000 in
theorem con_X6_layShade {w : Wp} {N : Nat} {a0 : Nat} {a1 : Nat} {a2 : Int32} {a3 : Int32} {a4 : Int32} {M : Mm} {q : Mm} (h_a0 : lay a0 = (5, 6)) (h_a1 : lay a1 = (5, 1)) (hq : D_X6_layShade N a0 a1 a2 a3 a4 M = some q) : Con w 1 yX6_layShade cX6_layShade 9 none [.ref (wB w + pz (a0)), .ref (wB w + pz (a1)), .int a2, .int a3, .int a4] M (encV q) := by
  refine Con.of encV q _ hq (by decide) (Nat.le_of_ble_eq_true rfl) ?_
  intro X G Q hQ
  have G : Good w X cX6_layShade 9 RX6 none 1 := G
  refine c_weak [(0, .ref (wB w + pz (a0))), (1, .ref (wB w + pz (a1))), (2, .int a2), (3, .int a3), (4, .int a4)] [0, 1, 2, 3, 4] rfl ?_
  rw [D_X6_layShade]
  refine c_iload_n G dX6_layShade_0 rfl 3 rfl ?_
  refine c_aload_n G dX6_layShade_1 rfl 1 rfl ?_
  refine c_getF G fl_X6_88 h_a1 rfl dX6_layShade_2 ?_
  refine c_iload_n G dX6_layShade_5 rfl 2 rfl ?_
  refine c_iald G (lf h_a1 8 rfl) dX6_layShade_6 (fun v1 _ => ?_)
  refine c_icmp_lt (tgt := 11) G dX6_layShade_7 (by decide) (fun _ => ?_) (fun _ => ?_)
  · skip
    refine c_aload_n G dX6_layShade_11 rfl 1 rfl ?_
    refine c_iload_n G dX6_layShade_12 rfl 2 rfl ?_
    refine c_iload_n G dX6_layShade_13 rfl 3 rfl ?_
    refine c_callV_PI (d := 0) (rest := []) G [.int a2, .int a3] yv_X1_side ml_X6_91 (by omega) (by decide) rfl rfl (Nat.le_of_ble_eq_true rfl) h_a1 (fun q hq => con_X1_side h_a1 hq) dX6_layShade_14 (fun q1 _ => ?_)
    refine c_istore G [(5, .int q1), (0, .ref (wB w + pz (a0))), (1, .ref (wB w + pz (a1))), (2, .int a2), (3, .int a3), (4, .int a4)] dX6_layShade_17 (by decide) rfl ?_
    refine c_aload_n G dX6_layShade_19 rfl 1 rfl ?_
    refine c_getF G fl_X6_9 h_a0 rfl dX6_layShade_20 ?_
    refine c_bipush G (nI 12) dX6_layShade_23 kB_12 ?_
    refine c_iload G dX6_layShade_25 0 rfl ?_
    refine c_imul G dX6_layShade_27 ?_
    refine c_iload G dX6_layShade_28 5 rfl ?_
    refine c_iadd G dX6_layShade_30 ?_
    refine c_iald G (lf h_a0 0 rfl) dX6_layShade_31 (fun v2 _ => ?_)
    refine c_istore G [(6, .int v2), (5, .int q1), (0, .ref (wB w + pz (a0))), (1, .ref (wB w + pz (a1))), (2, .int a2), (3, .int a3), (4, .int a4)] dX6_layShade_32 (by decide) rfl ?_
    refine c_iconst G (nI 0) dX6_layShade_34 kI_0 ?_
    refine c_istore G [(7, .int (nI 0)), (6, .int v2), (5, .int q1), (0, .ref (wB w + pz (a0))), (1, .ref (wB w + pz (a1))), (2, .int a2), (3, .int a3), (4, .int a4)] dX6_layShade_35 (by decide) rfl ?_
    refine c_weak _ [3, 4, 6, 2, 1, 0] rfl (cl_X6_layShade_37 G hQ  h_a1 h_a0 N (nI 0) M)
  · skip
    exact c_vret G hQ dX6_layShade_10
set_option maxHeartbeats 4000000 in
set_option maxRecDepth 100000 in
theorem cl_X6_keep_2 {w : Wp} {X : Cx} {Q : State → Prop} {ρ : Mm} (G : Good w X cX6_keep 4 RX6 none 0) (hQ : Q = MQ (xL X) (Qd w (encV ρ)) (xA X) (xS X) (xk X) (xs X) (Aw w)) (kE34 : Option (Mm)) {a0 : Nat} {a1 : Int32} {M : Mm} {a2 : Int32} (h_a0 : lay a0 = (5, 6)) (hE34 : Cov w X Q ρ some 4 34 [(0, .ref (wB w + pz (a0))), (1, .int a1), (2, .int a2)] [] M (kE34)) : ∀ (n : Nat) (l3_1 : Int32), Cov w X Q ρ some 4 2 [(0, .ref (wB w + pz (a0))), (1, .int a1), (2, .int a2), (3, .int l3_1)] [] M (L_X6_keep_2 kE34 a0 a1 M a2 n l3_1) := by
  intro n
  induction n with
  | zero => intro l3_1; exact c_none
  | succ n ih =>
    intro l3_1
    rw [L_X6_keep_2]
    refine c_iload_n G dX6_keep_2 rfl 3 rfl ?_
    refine c_aload_n G dX6_keep_3 rfl 0 rfl ?_
    refine c_getF G fl_X6_24 h_a0 rfl dX6_keep_4 ?_
    refine c_iload_n G dX6_keep_7 rfl 1 rfl ?_
    refine c_iald G (lf h_a0 4 rfl) dX6_keep_8 (fun v1 _ => ?_)
    refine c_icmp_ge (tgt := 34) G dX6_keep_9 (by decide) (fun _ => ?_) (fun _ => ?_)
    · skip
      exact c_weak _ [0, 1, 2] rfl (hE34)
    · skip
      refine c_aload_n G dX6_keep_12 rfl 0 rfl ?_
      refine c_getF G fl_X6_9 h_a0 rfl dX6_keep_13 ?_
      refine c_bipush G (nI 12) dX6_keep_16 kB_12 ?_
      refine c_iload_n G dX6_keep_18 rfl 1 rfl ?_
      refine c_imul G dX6_keep_19 ?_
      refine c_iload_n G dX6_keep_20 rfl 3 rfl ?_
      refine c_iadd G dX6_keep_21 ?_
      refine c_iald G (lf h_a0 0 rfl) dX6_keep_22 (fun v2 _ => ?_)
      refine c_iload_n G dX6_keep_23 rfl 2 rfl ?_
      refine c_icmp_ne (tgt := 28) G dX6_keep_24 (by decide) (fun _ => ?_) (fun _ => ?_)
      · skip
        exact c_vret G hQ dX6_keep_27
      · skip
        refine c_iinc G (fun y__ => [(3, .int y__), (0, .ref (wB w + pz (a0))), (1, .int a1), (2, .int a2)]) dX6_keep_28 3 rfl kI_1 (by decide) (fun _ => rfl) (fun l3_2 _ => ?_)
        refine c_goto (tgt := 2) G dX6_keep_31 (by decide) ?_
        exact c_weak _ [1, 2, 3, 0] rfl (ih l3_2)
set_option maxHeartbeats 4000000 in
set_option maxRecDepth 100000 in
theorem con_X6_keep {w : Wp} {N : Nat} {a0 : Nat} {a1 : Int32} {a2 : Int32} {M : Mm} {q : Mm} (h_a0 : lay a0 = (5, 6)) (hq : D_X6_keep N a0 a1 a2 M = some q) : Con w 0 yX6_keep cX6_keep 4 none [.ref (wB w + pz (a0)), .int a1, .int a2] M (encV q) := by
  refine Con.of encV q _ hq (by decide) (Nat.le_of_ble_eq_true rfl) ?_
  intro X G Q hQ
  have G : Good w X cX6_keep 4 RX6 none 0 := G
  refine c_weak [(0, .ref (wB w + pz (a0))), (1, .int a1), (2, .int a2)] [0, 1, 2] rfl ?_
  rw [D_X6_keep]
  refine c_iconst G (nI 0) dX6_keep_0 kI_0 ?_
  refine c_istore_n G [(3, .int (nI 0)), (0, .ref (wB w + pz (a0))), (1, .int a1), (2, .int a2)] dX6_keep_1 rfl (by decide) rfl ?_
  refine c_weak _ [1, 2, 3, 0] rfl (cl_X6_keep_2 G hQ _ h_a0 ?_ N (nI 0))
  · skip
    refine c_aload_n G dX6_keep_34 rfl 0 rfl ?_
    refine c_getF G fl_X6_24 h_a0 rfl dX6_keep_35 ?_
    refine c_iload_n G dX6_keep_38 rfl 1 rfl ?_
    refine c_iald G (lf h_a0 4 rfl) dX6_keep_39 (fun v3 _ => ?_)
    refine c_bipush G (nI 12) dX6_keep_40 kB_12 ?_
    refine c_icmp_lt (tgt := 51) G dX6_keep_42 (by decide) (fun _ => ?_) (fun _ => ?_)
    · skip
      refine c_aload_n G dX6_keep_51 rfl 0 rfl ?_
      refine c_getF G fl_X6_9 h_a0 rfl dX6_keep_52 ?_
      refine c_bipush G (nI 12) dX6_keep_55 kB_12 ?_
      refine c_iload_n G dX6_keep_57 rfl 1 rfl ?_
      refine c_imul G dX6_keep_58 ?_
      refine c_aload_n G dX6_keep_59 rfl 0 rfl ?_
      refine c_getF G fl_X6_24 h_a0 rfl dX6_keep_60 ?_
      refine c_iload_n G dX6_keep_63 rfl 1 rfl ?_
      refine c_iald G (lf h_a0 4 rfl) dX6_keep_64 (fun v4 _ => ?_)
      refine c_iadd G dX6_keep_65 ?_
      refine c_iload_n G dX6_keep_66 rfl 2 rfl ?_
      refine c_iast G (lf h_a0 0 rfl) dX6_keep_67 (fun M1 _ => ?_)
      refine c_aload_n G dX6_keep_68 rfl 0 rfl ?_
      refine c_getF G fl_X6_24 h_a0 rfl dX6_keep_69 ?_
      refine c_iload_n G dX6_keep_72 rfl 1 rfl ?_
      refine c_dup2 G dX6_keep_73 rfl rfl ?_
      refine c_iald G (lf h_a0 4 rfl) dX6_keep_74 (fun v5 _ => ?_)
      refine c_iconst G (nI 1) dX6_keep_75 kI_1 ?_
      refine c_iadd G dX6_keep_76 ?_
      refine c_iast G (lf h_a0 4 rfl) dX6_keep_77 (fun M2 _ => ?_)
      exact c_vret G hQ dX6_keep_78
    · skip
      refine c_aload_n G dX6_keep_45 rfl 0 rfl ?_
      refine c_iconst G (nI 1) dX6_keep_46 kI_1 ?_
      refine c_putZ G fp_X6_31 h_a0 rfl dX6_keep_47 (fun M3 _ => ?_)
      exact c_vret G hQ dX6_keep_50
set_option maxHeartbeats 4000000 in
set_option maxRecDepth 100000 in
theorem cl_X6_cast_110 {w : Wp} {X : Cx} {Q : State → Prop} {ρ : Mm} (G : Good w X cX6_cast 9 RX6 none 2) (hQ : Q = MQ (xL X) (Qd w (encV ρ)) (xA X) (xS X) (xk X) (xs X) (Aw w)) {a1 : Nat} {q2 : Int32} {M6 : Mm} {N : Nat} {a0 : Nat} (h_a1 : lay a1 = (5, 1)) (h_a0 : lay a0 = (5, 6)) : ∀ (n : Nat) (l7_1 : Int32) (l8_1 : Int32), Cov w X Q ρ some 9 110 [(0, .ref (wB w + pz (a0))), (1, .ref (wB w + pz (a1))), (6, .int q2), (7, .int l7_1), (8, .int l8_1)] [] M6 (L_X6_cast_110 a1 q2 M6 N a0 n l7_1 l8_1) := by
  intro n
  induction n with
  | zero => intro l7_1 l8_1; exact c_none
  | succ n ih =>
    intro l7_1 l8_1
    rw [L_X6_cast_110]
    refine c_iload G dX6_cast_110 4 rfl ?_
    refine c_aload_n G dX6_cast_112 rfl 1 rfl ?_
    refine c_getF G fl_X6_118 h_a1 rfl dX6_cast_113 ?_
    refine c_iload G dX6_cast_116 2 rfl ?_
    refine c_iald G (lf h_a1 7 rfl) dX6_cast_118 (fun v3 _ => ?_)
    refine c_icmp_ge (tgt := 160) G dX6_cast_119 (by decide) (fun _ => ?_) (fun _ => ?_)
    · skip
      refine c_aload_n G dX6_cast_160 rfl 0 rfl ?_
      refine c_iload G dX6_cast_161 2 rfl ?_
      refine c_iload G dX6_cast_163 3 rfl ?_
      refine c_callV_V (d := 0) (rest := []) G [.int q2, .int l7_1] yv_X6_keep ml_X6_127 (by omega) (by decide) rfl rfl (Nat.le_of_ble_eq_true rfl) h_a0 (fun q hq => con_X6_keep h_a0 hq) dX6_cast_165 (fun M7 _ => ?_)
      exact c_vret G hQ dX6_cast_168
    · skip
      refine c_iload G dX6_cast_122 3 rfl ?_
      refine c_aload_n G dX6_cast_124 rfl 0 rfl ?_
      refine c_getF G fl_X6_21 h_a0 rfl dX6_cast_125 ?_
      refine c_aload_n G dX6_cast_128 rfl 1 rfl ?_
      refine c_getF G fl_X6_121 h_a1 rfl dX6_cast_129 ?_
      refine c_iload G dX6_cast_132 2 rfl ?_
      refine c_iald G (lf h_a1 6 rfl) dX6_cast_134 (fun v4 _ => ?_)
      refine c_iload G dX6_cast_135 4 rfl ?_
      refine c_iadd G dX6_cast_137 ?_
      refine c_iald G (lf h_a0 3 rfl) dX6_cast_138 (fun v5 _ => ?_)
      refine c_aload_n G dX6_cast_139 rfl 1 rfl ?_
      refine c_iload G dX6_cast_140 2 rfl ?_
      refine c_callV_PI (d := 0) (rest := [.int v5, .int l7_1]) G [.int q2] yv_X1_insOf ml_X6_124 (by omega) (by decide) rfl rfl (Nat.le_of_ble_eq_true rfl) h_a1 (fun q hq => con_X1_insOf h_a1 hq) dX6_cast_142 (fun q3 _ => ?_)
      refine c_iand G dX6_cast_145 ?_
      refine c_iconst G (nI 4) dX6_cast_146 kI_4 ?_
      refine c_iload G dX6_cast_147 4 rfl ?_
      refine c_imul G dX6_cast_149 ?_
      refine c_ishl G dX6_cast_150 ?_
      refine c_ior G dX6_cast_151 ?_
      refine c_let (fun l7_2 _ => ?_)
      refine c_istore G [(7, .int l7_2), (0, .ref (wB w + pz (a0))), (1, .ref (wB w + pz (a1))), (6, .int q2), (8, .int l8_1)] dX6_cast_152 (by decide) rfl ?_
      refine c_iinc G (fun y__ => [(8, .int y__), (7, .int l7_2), (0, .ref (wB w + pz (a0))), (1, .ref (wB w + pz (a1))), (6, .int q2)]) dX6_cast_154 4 rfl kI_1 (by decide) (fun _ => rfl) (fun l8_2 _ => ?_)
      refine c_goto (tgt := 110) G dX6_cast_157 (by decide) ?_
      exact c_weak _ [2, 3, 4, 1, 0] rfl (ih l7_2 l8_2)
set_option maxHeartbeats 4000000 in
set_option maxRecDepth 100000 in
theorem con_X6_cast {w : Wp} {N : Nat} {a0 : Nat} {a1 : Nat} {a2 : Int32} {a3 : Int32} {a4 : Int32} {a5 : Int32} {M : Mm} {q : Mm} (h_a0 : lay a0 = (5, 6)) (h_a1 : lay a1 = (5, 1)) (hq : D_X6_cast N a0 a1 a2 a3 a4 a5 M = some q) : Con w 2 yX6_cast cX6_cast 9 none [.ref (wB w + pz (a0)), .ref (wB w + pz (a1)), .int a2, .int a3, .int a4, .int a5] M (encV q) := by
  refine Con.of encV q _ hq (by decide) (Nat.le_of_ble_eq_true rfl) ?_
  intro X G Q hQ
  have G : Good w X cX6_cast 9 RX6 none 2 := G
  refine c_weak [(0, .ref (wB w + pz (a0))), (1, .ref (wB w + pz (a1))), (2, .int a2), (3, .int a3), (4, .int a4), (5, .int a5)] [0, 1, 2, 3, 4, 5] rfl ?_
  rw [D_X6_cast]
  refine c_aload_n G dX6_cast_0 rfl 1 rfl ?_
  refine c_getF G fl_X6_95 h_a1 rfl dX6_cast_1 ?_
  refine c_bipush G (nI 32) dX6_cast_4 kB_32 ?_
  refine c_iload_n G dX6_cast_6 rfl 2 rfl ?_
  refine c_imul G dX6_cast_7 ?_
  refine c_aload_n G dX6_cast_8 rfl 0 rfl ?_
  refine c_getF G fl_X6_21 h_a0 rfl dX6_cast_9 ?_
  refine c_iconst G (nI 0) dX6_cast_12 kI_0 ?_
  refine c_bipush G (nI 32) dX6_cast_13 kB_32 ?_
  refine c_copy G ml_X6_98 ac_nat ac_sta ac_ini (by omega) (Nat.le_of_ble_eq_true rfl) (lf h_a1 14 rfl) (lf h_a0 3 rfl) dX6_cast_15 (fun M1 _ => ?_)
  refine c_aload_n G dX6_cast_18 rfl 0 rfl ?_
  refine c_aload_n G dX6_cast_19 rfl 1 rfl ?_
  refine c_iload_n G dX6_cast_20 rfl 2 rfl ?_
  refine c_iconst G (nI 1) dX6_cast_21 kI_1 ?_
  refine c_iload_n G dX6_cast_22 rfl 3 rfl ?_
  refine c_callV_V (d := 1) (rest := []) G [.ref (wB w + pz (a1)), .int a2, .int (nI 1), .int a3] yv_X6_layShade ml_X6_104 (by omega) (by decide) rfl rfl (Nat.le_of_ble_eq_true rfl) h_a0 (fun q hq => con_X6_layShade h_a0 h_a1 hq) dX6_cast_23 (fun M2 _ => ?_)
  refine c_aload_n G dX6_cast_26 rfl 0 rfl ?_
  refine c_aload_n G dX6_cast_27 rfl 1 rfl ?_
  refine c_iload_n G dX6_cast_28 rfl 2 rfl ?_
  refine c_iconst G (nI 2) dX6_cast_29 kI_2 ?_
  refine c_iload G dX6_cast_30 4 rfl ?_
  refine c_callV_V (d := 1) (rest := []) G [.ref (wB w + pz (a1)), .int a2, .int (nI 2), .int a4] yv_X6_layShade ml_X6_104 (by omega) (by decide) rfl rfl (Nat.le_of_ble_eq_true rfl) h_a0 (fun q hq => con_X6_layShade h_a0 h_a1 hq) dX6_cast_32 (fun M3 _ => ?_)
  refine c_aload_n G dX6_cast_35 rfl 0 rfl ?_
  refine c_aload_n G dX6_cast_36 rfl 1 rfl ?_
  refine c_iload_n G dX6_cast_37 rfl 2 rfl ?_
  refine c_iconst G (nI 3) dX6_cast_38 kI_3 ?_
  refine c_iload G dX6_cast_39 5 rfl ?_
  refine c_callV_V (d := 1) (rest := []) G [.ref (wB w + pz (a1)), .int a2, .int (nI 3), .int a5] yv_X6_layShade ml_X6_104 (by omega) (by decide) rfl rfl (Nat.le_of_ble_eq_true rfl) h_a0 (fun q hq => con_X6_layShade h_a0 h_a1 hq) dX6_cast_41 (fun M4 _ => ?_)
  refine c_aload_n G dX6_cast_44 rfl 0 rfl ?_
  refine c_getF G fl_X6_21 h_a0 rfl dX6_cast_45 ?_
  refine c_iconst G (nI 0) dX6_cast_48 kI_0 ?_
  refine c_bipush G (nI 8) dX6_cast_49 kB_8 ?_
  refine c_aload_n G dX6_cast_51 rfl 1 rfl ?_
  refine c_getF G fl_X6_88 h_a1 rfl dX6_cast_52 ?_
  refine c_iload_n G dX6_cast_55 rfl 2 rfl ?_
  refine c_iald G (lf h_a1 8 rfl) dX6_cast_56 (fun v1 _ => ?_)
  refine c_imul G dX6_cast_57 ?_
  refine c_callS_V (d := 0) (rest := []) G [.ref (wB w + pz ((a0 + 4))), .int (nI 0), .int ((nI 8) * v1)] ys_X3_close ml_X6_108 (by omega) (by decide) rfl rfl (Nat.le_of_ble_eq_true rfl) (fun q hq => con_X3_close (ll (lf h_a0 3 rfl)) hq) dX6_cast_58 (fun M5 _ => ?_)
  refine c_aload_n G dX6_cast_61 rfl 0 rfl ?_
  refine c_dup G dX6_cast_62 rfl ?_
  refine c_getI G fl_X6_52 h_a0 rfl dX6_cast_63 ?_
  refine c_aload_n G dX6_cast_66 rfl 0 rfl ?_
  refine c_getF G fl_X6_21 h_a0 rfl dX6_cast_67 ?_
  refine c_iconst G (nI 0) dX6_cast_70 kI_0 ?_
  refine c_bipush G (nI 8) dX6_cast_71 kB_8 ?_
  refine c_aload_n G dX6_cast_73 rfl 1 rfl ?_
  refine c_getF G fl_X6_88 h_a1 rfl dX6_cast_74 ?_
  refine c_iload_n G dX6_cast_77 rfl 2 rfl ?_
  refine c_iald G (lf h_a1 8 rfl) dX6_cast_78 (fun v2 _ => ?_)
  refine c_imul G dX6_cast_79 ?_
  refine c_callS_PI (d := 0) (rest := [.int (M5.1 a0 6), .ref (wB w + pz (a0))]) G [.ref (wB w + pz ((a0 + 4))), .int (nI 0), .int ((nI 8) * v2)] ys_X3_firstRound ml_X6_114 (by omega) (by decide) rfl rfl (Nat.le_of_ble_eq_true rfl) (fun q hq => con_X3_firstRound (ll (lf h_a0 3 rfl)) hq) dX6_cast_80 (fun q1 _ => ?_)
  refine c_iconst G m1 dX6_cast_83 kI_m1 ?_
  refine c_bj (ej := fun (p92 : Int32) => [(0, .ref (wB w + pz (a0))), (1, .ref (wB w + pz (a1))), (2, .int a2)]) (sj := fun p92 => [.int p92, .int (M5.1 a0 6), .ref (wB w + pz (a0))]) (mj := fun p92 => M5) (pj := 92) (fun p92 => ?_) (fun F hJ92 => ?_)
  · skip
    refine c_ior G dX6_cast_92 ?_
    refine c_putZ G fp_X6_52 h_a0 rfl dX6_cast_93 (fun M6 _ => ?_)
    refine c_aload_n G dX6_cast_96 rfl 1 rfl ?_
    refine c_iload_n G dX6_cast_97 rfl 2 rfl ?_
    refine c_iconst G (nI 0) dX6_cast_98 kI_0 ?_
    refine c_callV_PI (d := 0) (rest := []) G [.int a2, .int (nI 0)] yv_X1_side ml_X6_91 (by omega) (by decide) rfl rfl (Nat.le_of_ble_eq_true rfl) h_a1 (fun q hq => con_X1_side h_a1 hq) dX6_cast_99 (fun q2 _ => ?_)
    refine c_istore G [(6, .int q2), (0, .ref (wB w + pz (a0))), (1, .ref (wB w + pz (a1))), (2, .int a2)] dX6_cast_102 (by decide) rfl ?_
    refine c_iconst G (nI 0) dX6_cast_104 kI_0 ?_
    refine c_istore G [(7, .int (nI 0)), (6, .int q2), (0, .ref (wB w + pz (a0))), (1, .ref (wB w + pz (a1))), (2, .int a2)] dX6_cast_105 (by decide) rfl ?_
    refine c_iconst G (nI 0) dX6_cast_107 kI_0 ?_
    refine c_istore G [(8, .int (nI 0)), (7, .int (nI 0)), (6, .int q2), (0, .ref (wB w + pz (a0))), (1, .ref (wB w + pz (a1))), (2, .int a2)] dX6_cast_108 (by decide) rfl ?_
    refine c_weak _ [3, 4, 2, 1, 0] rfl (cl_X6_cast_110 G hQ  h_a1 h_a0 N (nI 0) (nI 0))
  · skip
    refine c_icmp_eq (tgt := 91) G dX6_cast_84 (by decide) (fun _ => ?_) (fun _ => ?_)
    · skip
      refine c_iconst G (nI 0) dX6_cast_91 kI_0 ?_
      exact c_weak _ [0, 1, 2] rfl (hJ92 (nI 0))
    · skip
      refine c_iconst G (nI 1) dX6_cast_87 kI_1 ?_
      refine c_goto (tgt := 92) G dX6_cast_88 (by decide) ?_
      exact c_weak _ [0, 1, 2] rfl (hJ92 (nI 1))
set_option maxHeartbeats 4000000 in
set_option maxRecDepth 100000 in
theorem cl_X6_castEach_45 {w : Wp} {X : Cx} {Q : State → Prop} {ρ : Mm} (G : Good w X cX6_castEach 6 RX6 none 3) (hQ : Q = MQ (xL X) (Qd w (encV ρ)) (xA X) (xS X) (xk X) (xs X) (Aw w)) (kE116 : Mm → Option (Mm)) {N : Nat} {a0 : Nat} {a1 : Nat} {a2 : Int32} {l3_1 : Int32} {l4_1 : Int32} (h_a0 : lay a0 = (5, 6)) (h_a1 : lay a1 = (5, 1)) (hE116 : ∀ (Mz : Mm), Cov w X Q ρ some 6 116 [(0, .ref (wB w + pz (a0))), (1, .ref (wB w + pz (a1))), (2, .int a2), (3, .int l3_1), (4, .int l4_1)] [] Mz (kE116 Mz)) : ∀ (n : Nat) (l5_1 : Int32) (M3 : Mm), Cov w X Q ρ some 6 45 [(0, .ref (wB w + pz (a0))), (1, .ref (wB w + pz (a1))), (2, .int a2), (3, .int l3_1), (4, .int l4_1), (5, .int l5_1)] [] M3 (L_X6_castEach_45 kE116 N a0 a1 a2 l3_1 l4_1 n l5_1 M3) := by
  intro n
  induction n with
  | zero => intro l5_1 M3; exact c_none
  | succ n ih =>
    intro l5_1 M3
    rw [L_X6_castEach_45]
    refine c_iload G dX6_castEach_45 5 rfl ?_
    refine c_aload_n G dX6_castEach_47 rfl 0 rfl ?_
    refine c_aload_n G dX6_castEach_48 rfl 1 rfl ?_
    refine c_iload_n G dX6_castEach_49 rfl 2 rfl ?_
    refine c_iconst G (nI 3) dX6_castEach_50 kI_3 ?_
    refine c_callV_PI (d := 1) (rest := [.int l5_1]) G [.ref (wB w + pz (a1)), .int a2, .int (nI 3)] yv_X6_choices ml_X6_80 (by omega) (by decide) rfl rfl (Nat.le_of_ble_eq_true rfl) h_a0 (fun q hq => con_X6_choices h_a0 h_a1 hq) dX6_castEach_51 (fun q3 _ => ?_)
    refine c_icmp_ge (tgt := 116) G dX6_castEach_54 (by decide) (fun _ => ?_) (fun _ => ?_)
    · skip
      exact c_weak _ [0, 1, 2, 3, 4] rfl (hE116 M3)
    · skip
      refine c_aload_n G dX6_castEach_57 rfl 0 rfl ?_
      refine c_getI G fl_X6_31 h_a0 rfl dX6_castEach_58 ?_
      refine c_if_ne (tgt := 116) G dX6_castEach_61 (by decide) (fun _ => ?_) (fun _ => ?_)
      · skip
        refine c_aload_n G dX6_castEach_64 rfl 0 rfl ?_
        refine c_aload_n G dX6_castEach_65 rfl 1 rfl ?_
        refine c_iload_n G dX6_castEach_66 rfl 2 rfl ?_
        refine c_iconst G (nI 1) dX6_castEach_67 kI_1 ?_
        refine c_iload_n G dX6_castEach_68 rfl 3 rfl ?_
        refine c_callV_PI (d := 1) (rest := []) G [.ref (wB w + pz (a1)), .int a2, .int (nI 1), .int l3_1] yv_X6_isNew ml_X6_84 (by omega) (by decide) rfl rfl (Nat.le_of_ble_eq_true rfl) h_a0 (fun q hq => con_X6_isNew h_a0 h_a1 hq) dX6_castEach_69 (fun q4 _ => ?_)
        refine c_jn (ej := fun (p99 : Unit) => [(0, .ref (wB w + pz (a0))), (1, .ref (wB w + pz (a1))), (2, .int a2), (3, .int l3_1), (4, .int l4_1), (5, .int l5_1)]) (sj := fun p99 => []) (mj := fun p99 => M3) (pj := 99) (fun p99 => ?_) (fun J1 hJ99 => ?_)
        · skip
          refine c_aload_n G dX6_castEach_99 rfl 0 rfl ?_
          refine c_aload_n G dX6_castEach_100 rfl 1 rfl ?_
          refine c_iload_n G dX6_castEach_101 rfl 2 rfl ?_
          refine c_iload_n G dX6_castEach_102 rfl 3 rfl ?_
          refine c_iload G dX6_castEach_103 4 rfl ?_
          refine c_iload G dX6_castEach_105 5 rfl ?_
          refine c_callV_V (d := 2) (rest := []) G [.ref (wB w + pz (a1)), .int a2, .int l3_1, .int l4_1, .int l5_1] yv_X6_cast ml_X6_76 (by omega) (by decide) rfl rfl (Nat.le_of_ble_eq_true rfl) h_a0 (fun q hq => con_X6_cast h_a0 h_a1 hq) dX6_castEach_107 (fun M4 _ => ?_)
          refine c_iinc G (fun y__ => [(5, .int y__), (0, .ref (wB w + pz (a0))), (1, .ref (wB w + pz (a1))), (2, .int a2), (3, .int l3_1), (4, .int l4_1)]) dX6_castEach_110 5 rfl kI_1 (by decide) (fun _ => rfl) (fun l5_2 _ => ?_)
          refine c_goto (tgt := 45) G dX6_castEach_113 (by decide) ?_
          exact c_weak _ [1, 2, 3, 4, 5, 0] rfl (ih l5_2 M4)
        · skip
          refine c_if_ne (tgt := 99) G dX6_castEach_72 (by decide) (fun _ => ?_) (fun _ => ?_)
          · skip
            refine c_aload_n G dX6_castEach_75 rfl 0 rfl ?_
            refine c_aload_n G dX6_castEach_76 rfl 1 rfl ?_
            refine c_iload_n G dX6_castEach_77 rfl 2 rfl ?_
            refine c_iconst G (nI 2) dX6_castEach_78 kI_2 ?_
            refine c_iload G dX6_castEach_79 4 rfl ?_
            refine c_callV_PI (d := 1) (rest := []) G [.ref (wB w + pz (a1)), .int a2, .int (nI 2), .int l4_1] yv_X6_isNew ml_X6_84 (by omega) (by decide) rfl rfl (Nat.le_of_ble_eq_true rfl) h_a0 (fun q hq => con_X6_isNew h_a0 h_a1 hq) dX6_castEach_81 (fun q5 _ => ?_)
            refine c_if_ne (tgt := 99) G dX6_castEach_84 (by decide) (fun _ => ?_) (fun _ => ?_)
            · skip
              refine c_aload_n G dX6_castEach_87 rfl 0 rfl ?_
              refine c_aload_n G dX6_castEach_88 rfl 1 rfl ?_
              refine c_iload_n G dX6_castEach_89 rfl 2 rfl ?_
              refine c_iconst G (nI 3) dX6_castEach_90 kI_3 ?_
              refine c_iload G dX6_castEach_91 5 rfl ?_
              refine c_callV_PI (d := 1) (rest := []) G [.ref (wB w + pz (a1)), .int a2, .int (nI 3), .int l5_1] yv_X6_isNew ml_X6_84 (by omega) (by decide) rfl rfl (Nat.le_of_ble_eq_true rfl) h_a0 (fun q hq => con_X6_isNew h_a0 h_a1 hq) dX6_castEach_93 (fun q6 _ => ?_)
              refine c_if_eq (tgt := 110) G dX6_castEach_96 (by decide) (fun _ => ?_) (fun _ => ?_)
              · skip
                refine c_iinc G (fun y__ => [(5, .int y__), (0, .ref (wB w + pz (a0))), (1, .ref (wB w + pz (a1))), (2, .int a2), (3, .int l3_1), (4, .int l4_1)]) dX6_castEach_110 5 rfl kI_1 (by decide) (fun _ => rfl) (fun l5_3 _ => ?_)
                refine c_goto (tgt := 45) G dX6_castEach_113 (by decide) ?_
                exact c_weak _ [1, 2, 3, 4, 5, 0] rfl (ih l5_3 M3)
              · skip
                exact c_weak _ [0, 1, 2, 3, 4, 5] rfl (hJ99 ())
            · skip
              exact c_weak _ [0, 1, 2, 3, 4, 5] rfl (hJ99 ())
          · skip
            exact c_weak _ [0, 1, 2, 3, 4, 5] rfl (hJ99 ())
      · skip
        exact c_weak _ [0, 1, 2, 3, 4] rfl (hE116 M3)
set_option maxHeartbeats 4000000 in
set_option maxRecDepth 100000 in
theorem cl_X6_castEach_23 {w : Wp} {X : Cx} {Q : State → Prop} {ρ : Mm} (G : Good w X cX6_castEach 6 RX6 none 3) (hQ : Q = MQ (xL X) (Qd w (encV ρ)) (xA X) (xS X) (xk X) (xs X) (Aw w)) (kE122 : Mm → Option (Mm)) {N : Nat} {a0 : Nat} {a1 : Nat} {a2 : Int32} {l3_1 : Int32} (h_a0 : lay a0 = (5, 6)) (h_a1 : lay a1 = (5, 1)) (hE122 : ∀ (Mz : Mm), Cov w X Q ρ some 6 122 [(0, .ref (wB w + pz (a0))), (1, .ref (wB w + pz (a1))), (2, .int a2), (3, .int l3_1)] [] Mz (kE122 Mz)) : ∀ (n : Nat) (l4_1 : Int32) (M2 : Mm), Cov w X Q ρ some 6 23 [(0, .ref (wB w + pz (a0))), (1, .ref (wB w + pz (a1))), (2, .int a2), (3, .int l3_1), (4, .int l4_1)] [] M2 (L_X6_castEach_23 kE122 N a0 a1 a2 l3_1 n l4_1 M2) := by
  intro n
  induction n with
  | zero => intro l4_1 M2; exact c_none
  | succ n ih =>
    intro l4_1 M2
    rw [L_X6_castEach_23]
    refine c_iload G dX6_castEach_23 4 rfl ?_
    refine c_aload_n G dX6_castEach_25 rfl 0 rfl ?_
    refine c_aload_n G dX6_castEach_26 rfl 1 rfl ?_
    refine c_iload_n G dX6_castEach_27 rfl 2 rfl ?_
    refine c_iconst G (nI 2) dX6_castEach_28 kI_2 ?_
    refine c_callV_PI (d := 1) (rest := [.int l4_1]) G [.ref (wB w + pz (a1)), .int a2, .int (nI 2)] yv_X6_choices ml_X6_80 (by omega) (by decide) rfl rfl (Nat.le_of_ble_eq_true rfl) h_a0 (fun q hq => con_X6_choices h_a0 h_a1 hq) dX6_castEach_29 (fun q2 _ => ?_)
    refine c_icmp_ge (tgt := 122) G dX6_castEach_32 (by decide) (fun _ => ?_) (fun _ => ?_)
    · skip
      exact c_weak _ [0, 1, 2, 3] rfl (hE122 M2)
    · skip
      refine c_aload_n G dX6_castEach_35 rfl 0 rfl ?_
      refine c_getI G fl_X6_31 h_a0 rfl dX6_castEach_36 ?_
      refine c_if_ne (tgt := 122) G dX6_castEach_39 (by decide) (fun _ => ?_) (fun _ => ?_)
      · skip
        refine c_iconst G (nI 0) dX6_castEach_42 kI_0 ?_
        refine c_istore G [(5, .int (nI 0)), (0, .ref (wB w + pz (a0))), (1, .ref (wB w + pz (a1))), (2, .int a2), (3, .int l3_1), (4, .int l4_1)] dX6_castEach_43 (by decide) rfl ?_
        refine c_weak _ [1, 2, 3, 4, 5, 0] rfl (cl_X6_castEach_45 G hQ _ h_a0 h_a1 ?_ N (nI 0) M2)
        · intro M5
          refine c_iinc G (fun y__ => [(4, .int y__), (0, .ref (wB w + pz (a0))), (1, .ref (wB w + pz (a1))), (2, .int a2), (3, .int l3_1)]) dX6_castEach_116 4 rfl kI_1 (by decide) (fun _ => rfl) (fun l4_2 _ => ?_)
          refine c_goto (tgt := 23) G dX6_castEach_119 (by decide) ?_
          exact c_weak _ [1, 2, 3, 4, 0] rfl (ih l4_2 M5)
      · skip
        exact c_weak _ [0, 1, 2, 3] rfl (hE122 M2)
set_option maxHeartbeats 4000000 in
set_option maxRecDepth 100000 in
theorem cl_X6_castEach_2 {w : Wp} {X : Cx} {Q : State → Prop} {ρ : Mm} (G : Good w X cX6_castEach 6 RX6 none 3) (hQ : Q = MQ (xL X) (Qd w (encV ρ)) (xA X) (xS X) (xk X) (xs X) (Aw w)) {N : Nat} {a0 : Nat} {a1 : Nat} {a2 : Int32} (h_a0 : lay a0 = (5, 6)) (h_a1 : lay a1 = (5, 1)) : ∀ (n : Nat) (l3_1 : Int32) (M1 : Mm), Cov w X Q ρ some 6 2 [(0, .ref (wB w + pz (a0))), (1, .ref (wB w + pz (a1))), (2, .int a2), (3, .int l3_1)] [] M1 (L_X6_castEach_2 N a0 a1 a2 n l3_1 M1) := by
  intro n
  induction n with
  | zero => intro l3_1 M1; exact c_none
  | succ n ih =>
    intro l3_1 M1
    rw [L_X6_castEach_2]
    refine c_iload_n G dX6_castEach_2 rfl 3 rfl ?_
    refine c_aload_n G dX6_castEach_3 rfl 0 rfl ?_
    refine c_aload_n G dX6_castEach_4 rfl 1 rfl ?_
    refine c_iload_n G dX6_castEach_5 rfl 2 rfl ?_
    refine c_iconst G (nI 1) dX6_castEach_6 kI_1 ?_
    refine c_callV_PI (d := 1) (rest := [.int l3_1]) G [.ref (wB w + pz (a1)), .int a2, .int (nI 1)] yv_X6_choices ml_X6_80 (by omega) (by decide) rfl rfl (Nat.le_of_ble_eq_true rfl) h_a0 (fun q hq => con_X6_choices h_a0 h_a1 hq) dX6_castEach_7 (fun q1 _ => ?_)
    refine c_icmp_ge (tgt := 128) G dX6_castEach_10 (by decide) (fun _ => ?_) (fun _ => ?_)
    · skip
      exact c_vret G hQ dX6_castEach_128
    · skip
      refine c_aload_n G dX6_castEach_13 rfl 0 rfl ?_
      refine c_getI G fl_X6_31 h_a0 rfl dX6_castEach_14 ?_
      refine c_if_ne (tgt := 128) G dX6_castEach_17 (by decide) (fun _ => ?_) (fun _ => ?_)
      · skip
        refine c_iconst G (nI 0) dX6_castEach_20 kI_0 ?_
        refine c_istore G [(4, .int (nI 0)), (0, .ref (wB w + pz (a0))), (1, .ref (wB w + pz (a1))), (2, .int a2), (3, .int l3_1)] dX6_castEach_21 (by decide) rfl ?_
        refine c_weak _ [1, 2, 3, 4, 0] rfl (cl_X6_castEach_23 G hQ _ h_a0 h_a1 ?_ N (nI 0) M1)
        · intro M6
          refine c_iinc G (fun y__ => [(3, .int y__), (0, .ref (wB w + pz (a0))), (1, .ref (wB w + pz (a1))), (2, .int a2)]) dX6_castEach_122 3 rfl kI_1 (by decide) (fun _ => rfl) (fun l3_2 _ => ?_)
          refine c_goto (tgt := 2) G dX6_castEach_125 (by decide) ?_
          exact c_weak _ [1, 2, 3, 0] rfl (ih l3_2 M6)
      · skip
        exact c_vret G hQ dX6_castEach_128
set_option maxHeartbeats 4000000 in
set_option maxRecDepth 100000 in
theorem con_X6_castEach {w : Wp} {N : Nat} {a0 : Nat} {a1 : Nat} {a2 : Int32} {M : Mm} {q : Mm} (h_a0 : lay a0 = (5, 6)) (h_a1 : lay a1 = (5, 1)) (hq : D_X6_castEach N a0 a1 a2 M = some q) : Con w 3 yX6_castEach cX6_castEach 6 none [.ref (wB w + pz (a0)), .ref (wB w + pz (a1)), .int a2] M (encV q) := by
  refine Con.of encV q _ hq (by decide) (Nat.le_of_ble_eq_true rfl) ?_
  intro X G Q hQ
  have G : Good w X cX6_castEach 6 RX6 none 3 := G
  refine c_weak [(0, .ref (wB w + pz (a0))), (1, .ref (wB w + pz (a1))), (2, .int a2)] [0, 1, 2] rfl ?_
  rw [D_X6_castEach]
  refine c_iconst G (nI 0) dX6_castEach_0 kI_0 ?_
  refine c_istore_n G [(3, .int (nI 0)), (0, .ref (wB w + pz (a0))), (1, .ref (wB w + pz (a1))), (2, .int a2)] dX6_castEach_1 rfl (by decide) rfl ?_
  refine c_weak _ [1, 2, 3, 0] rfl (cl_X6_castEach_2 G hQ  h_a0 h_a1 N (nI 0) M)
set_option maxHeartbeats 4000000 in
set_option maxRecDepth 100000 in
theorem cl_X6_goRound_2 {w : Wp} {X : Cx} {Q : State → Prop} {ρ : Mm} (G : Good w X cX6_goRound 4 RX6 none 4) (hQ : Q = MQ (xL X) (Qd w (encV ρ)) (xA X) (xS X) (xk X) (xs X) (Aw w)) (kE38 : Mm → Option (Mm)) {a0 : Nat} {a1 : Nat} {a2 : Int32} (h_a0 : lay a0 = (5, 6)) (h_a1 : lay a1 = (5, 1)) (hE38 : ∀ (Mz : Mm), Cov w X Q ρ some 4 38 [(0, .ref (wB w + pz (a0))), (1, .ref (wB w + pz (a1))), (2, .int a2)] [] Mz (kE38 Mz)) : ∀ (n : Nat) (l3_1 : Int32) (M1 : Mm), Cov w X Q ρ some 4 2 [(0, .ref (wB w + pz (a0))), (1, .ref (wB w + pz (a1))), (2, .int a2), (3, .int l3_1)] [] M1 (L_X6_goRound_2 kE38 a0 n l3_1 M1) := by
  intro n
  induction n with
  | zero => intro l3_1 M1; exact c_none
  | succ n ih =>
    intro l3_1 M1
    rw [L_X6_goRound_2]
    refine c_iload_n G dX6_goRound_2 rfl 3 rfl ?_
    refine c_bipush G (nI 8) dX6_goRound_3 kB_8 ?_
    refine c_icmp_ge (tgt := 38) G dX6_goRound_5 (by decide) (fun _ => ?_) (fun _ => ?_)
    · skip
      exact c_weak _ [0, 1, 2] rfl (hE38 M1)
    · skip
      refine c_aload_n G dX6_goRound_8 rfl 0 rfl ?_
      refine c_getF G fl_X6_18 h_a0 rfl dX6_goRound_9 ?_
      refine c_iload_n G dX6_goRound_12 rfl 3 rfl ?_
      refine c_aload_n G dX6_goRound_13 rfl 0 rfl ?_
      refine c_getF G fl_X6_15 h_a0 rfl dX6_goRound_14 ?_
      refine c_iload_n G dX6_goRound_17 rfl 3 rfl ?_
      refine c_iald G (lf h_a0 1 rfl) dX6_goRound_18 (fun v1 _ => ?_)
      refine c_iast G (lf h_a0 2 rfl) dX6_goRound_19 (fun M2 _ => ?_)
      refine c_aload_n G dX6_goRound_20 rfl 0 rfl ?_
      refine c_getF G fl_X6_15 h_a0 rfl dX6_goRound_21 ?_
      refine c_iload_n G dX6_goRound_24 rfl 3 rfl ?_
      refine c_aload_n G dX6_goRound_25 rfl 0 rfl ?_
      refine c_getF G fl_X6_24 h_a0 rfl dX6_goRound_26 ?_
      refine c_iload_n G dX6_goRound_29 rfl 3 rfl ?_
      refine c_iald G (lf h_a0 4 rfl) dX6_goRound_30 (fun v2 _ => ?_)
      refine c_iast G (lf h_a0 1 rfl) dX6_goRound_31 (fun M3 _ => ?_)
      refine c_iinc G (fun y__ => [(3, .int y__), (0, .ref (wB w + pz (a0))), (1, .ref (wB w + pz (a1))), (2, .int a2)]) dX6_goRound_32 3 rfl kI_1 (by decide) (fun _ => rfl) (fun l3_2 _ => ?_)
      refine c_goto (tgt := 2) G dX6_goRound_35 (by decide) ?_
      exact c_weak _ [1, 2, 3, 0] rfl (ih l3_2 M3)
set_option maxHeartbeats 4000000 in
set_option maxRecDepth 100000 in
theorem cl_X6_goRound_40 {w : Wp} {X : Cx} {Q : State → Prop} {ρ : Mm} (G : Good w X cX6_goRound 4 RX6 none 4) (hQ : Q = MQ (xL X) (Qd w (encV ρ)) (xA X) (xS X) (xk X) (xs X) (Aw w)) {a1 : Nat} {N : Nat} {a2 : Int32} {a0 : Nat} (h_a1 : lay a1 = (5, 1)) (h_a0 : lay a0 = (5, 6)) : ∀ (n : Nat) (l3_3 : Int32) (M5 : Mm), Cov w X Q ρ some 4 40 [(0, .ref (wB w + pz (a0))), (1, .ref (wB w + pz (a1))), (2, .int a2), (3, .int l3_3)] [] M5 (L_X6_goRound_40 a1 N a2 a0 n l3_3 M5) := by
  intro n
  induction n with
  | zero => intro l3_3 M5; exact c_none
  | succ n ih =>
    intro l3_3 M5
    rw [L_X6_goRound_40]
    refine c_iload_n G dX6_goRound_40 rfl 3 rfl ?_
    refine c_aload_n G dX6_goRound_41 rfl 1 rfl ?_
    refine c_getI G fl_X6_64 h_a1 rfl dX6_goRound_42 ?_
    refine c_icmp_ge (tgt := 85) G dX6_goRound_45 (by decide) (fun _ => ?_) (fun _ => ?_)
    · skip
      exact c_vret G hQ dX6_goRound_85
    · skip
      refine c_aload_n G dX6_goRound_48 rfl 1 rfl ?_
      refine c_iload_n G dX6_goRound_49 rfl 3 rfl ?_
      refine c_callV_PI (d := 0) (rest := []) G [.int l3_3] yv_X1_children ml_X6_69 (by omega) (by decide) rfl rfl (Nat.le_of_ble_eq_true rfl) h_a1 (fun q hq => con_X1_children h_a1 hq) dX6_goRound_50 (fun q1 _ => ?_)
      refine c_if_le (tgt := 65) G dX6_goRound_53 (by decide) (fun _ => ?_) (fun _ => ?_)
      · skip
        refine c_iload_n G dX6_goRound_65 rfl 2 rfl ?_
        refine c_iconst G (nI 1) dX6_goRound_66 kI_1 ?_
        refine c_icmp_ne (tgt := 79) G dX6_goRound_67 (by decide) (fun _ => ?_) (fun _ => ?_)
        · skip
          refine c_aload_n G dX6_goRound_70 rfl 0 rfl ?_
          refine c_aload_n G dX6_goRound_71 rfl 1 rfl ?_
          refine c_iload_n G dX6_goRound_72 rfl 3 rfl ?_
          refine c_iconst G (nI 0) dX6_goRound_73 kI_0 ?_
          refine c_iconst G (nI 0) dX6_goRound_74 kI_0 ?_
          refine c_iconst G (nI 0) dX6_goRound_75 kI_0 ?_
          refine c_callV_V (d := 2) (rest := []) G [.ref (wB w + pz (a1)), .int l3_3, .int (nI 0), .int (nI 0), .int (nI 0)] yv_X6_cast ml_X6_76 (by omega) (by decide) rfl rfl (Nat.le_of_ble_eq_true rfl) h_a0 (fun q hq => con_X6_cast h_a0 h_a1 hq) dX6_goRound_76 (fun M6 _ => ?_)
          refine c_iinc G (fun y__ => [(3, .int y__), (0, .ref (wB w + pz (a0))), (1, .ref (wB w + pz (a1))), (2, .int a2)]) dX6_goRound_79 3 rfl kI_1 (by decide) (fun _ => rfl) (fun l3_4 _ => ?_)
          refine c_goto (tgt := 40) G dX6_goRound_82 (by decide) ?_
          exact c_weak _ [1, 2, 3, 0] rfl (ih l3_4 M6)
        · skip
          refine c_iinc G (fun y__ => [(3, .int y__), (0, .ref (wB w + pz (a0))), (1, .ref (wB w + pz (a1))), (2, .int a2)]) dX6_goRound_79 3 rfl kI_1 (by decide) (fun _ => rfl) (fun l3_5 _ => ?_)
          refine c_goto (tgt := 40) G dX6_goRound_82 (by decide) ?_
          exact c_weak _ [1, 2, 3, 0] rfl (ih l3_5 M5)
      · skip
        refine c_aload_n G dX6_goRound_56 rfl 0 rfl ?_
        refine c_aload_n G dX6_goRound_57 rfl 1 rfl ?_
        refine c_iload_n G dX6_goRound_58 rfl 3 rfl ?_
        refine c_callV_V (d := 3) (rest := []) G [.ref (wB w + pz (a1)), .int l3_3] yv_X6_castEach ml_X6_73 (by omega) (by decide) rfl rfl (Nat.le_of_ble_eq_true rfl) h_a0 (fun q hq => con_X6_castEach h_a0 h_a1 hq) dX6_goRound_59 (fun M7 _ => ?_)
        refine c_goto (tgt := 79) G dX6_goRound_62 (by decide) ?_
        refine c_iinc G (fun y__ => [(3, .int y__), (0, .ref (wB w + pz (a0))), (1, .ref (wB w + pz (a1))), (2, .int a2)]) dX6_goRound_79 3 rfl kI_1 (by decide) (fun _ => rfl) (fun l3_6 _ => ?_)
        refine c_goto (tgt := 40) G dX6_goRound_82 (by decide) ?_
        exact c_weak _ [1, 2, 3, 0] rfl (ih l3_6 M7)
set_option maxHeartbeats 4000000 in
set_option maxRecDepth 100000 in
theorem con_X6_goRound {w : Wp} {N : Nat} {a0 : Nat} {a1 : Nat} {a2 : Int32} {M : Mm} {q : Mm} (h_a0 : lay a0 = (5, 6)) (h_a1 : lay a1 = (5, 1)) (hq : D_X6_goRound N a0 a1 a2 M = some q) : Con w 4 yX6_goRound cX6_goRound 4 none [.ref (wB w + pz (a0)), .ref (wB w + pz (a1)), .int a2] M (encV q) := by
  refine Con.of encV q _ hq (by decide) (Nat.le_of_ble_eq_true rfl) ?_
  intro X G Q hQ
  have G : Good w X cX6_goRound 4 RX6 none 4 := G
  refine c_weak [(0, .ref (wB w + pz (a0))), (1, .ref (wB w + pz (a1))), (2, .int a2)] [0, 1, 2] rfl ?_
  rw [D_X6_goRound]
  refine c_iconst G (nI 0) dX6_goRound_0 kI_0 ?_
  refine c_istore_n G [(3, .int (nI 0)), (0, .ref (wB w + pz (a0))), (1, .ref (wB w + pz (a1))), (2, .int a2)] dX6_goRound_1 rfl (by decide) rfl ?_
  refine c_weak _ [1, 2, 3, 0] rfl (cl_X6_goRound_2 G hQ _ h_a0 h_a1 ?_ N (nI 0) M)
  · intro M4
    refine c_iconst G (nI 0) dX6_goRound_38 kI_0 ?_
    refine c_istore_n G [(3, .int (nI 0)), (0, .ref (wB w + pz (a0))), (1, .ref (wB w + pz (a1))), (2, .int a2)] dX6_goRound_39 rfl (by decide) rfl ?_
    refine c_weak _ [1, 2, 3, 0] rfl (cl_X6_goRound_40 G hQ  h_a1 h_a0 N (nI 0) M4)
set_option maxHeartbeats 4000000 in
set_option maxRecDepth 100000 in
theorem cl_X6_seek_21 {w : Wp} {X : Cx} {Q : State → Prop} {ρ : Mm} (G : Good w X cX6_seek 5 RX6 none 5) (hQ : Q = MQ (xL X) (Qd w (encV ρ)) (xA X) (xS X) (xk X) (xs X) (Aw w)) {a0 : Nat} {N : Nat} {a1 : Nat} (h_a0 : lay a0 = (5, 6)) (h_a1 : lay a1 = (5, 1)) : ∀ (n : Nat) (l2_1 : Int32) (l3_1 : Int32) (M3 : Mm), Cov w X Q ρ some 5 21 [(0, .ref (wB w + pz (a0))), (1, .ref (wB w + pz (a1))), (2, .int l2_1), (3, .int l3_1)] [] M3 (L_X6_seek_21 a0 N a1 n l2_1 l3_1 M3) := by
  intro n
  induction n with
  | zero => intro l2_1 l3_1 M3; exact c_none
  | succ n ih =>
    intro l2_1 l3_1 M3
    rw [L_X6_seek_21]
    refine c_iload_n G dX6_seek_21 rfl 3 rfl ?_
    refine c_bipush G (nI 97) dX6_seek_22 kB_97 ?_
    refine c_icmp_gt (tgt := 103) G dX6_seek_24 (by decide) (fun _ => ?_) (fun _ => ?_)
    · skip
      exact c_vret G hQ dX6_seek_103
    · skip
      refine c_iload_n G dX6_seek_27 rfl 2 rfl ?_
      refine c_if_eq (tgt := 103) G dX6_seek_28 (by decide) (fun _ => ?_) (fun _ => ?_)
      · skip
        exact c_vret G hQ dX6_seek_103
      · skip
        refine c_aload_n G dX6_seek_31 rfl 0 rfl ?_
        refine c_getI G fl_X6_31 h_a0 rfl dX6_seek_32 ?_
        refine c_if_ne (tgt := 103) G dX6_seek_35 (by decide) (fun _ => ?_) (fun _ => ?_)
        · skip
          refine c_aload_n G dX6_seek_38 rfl 0 rfl ?_
          refine c_callV_PI (d := 0) (rest := []) G [] yv_X6_total ml_X6_44 (by omega) (by decide) rfl rfl (Nat.le_of_ble_eq_true rfl) h_a0 (fun q hq => con_X6_total h_a0 hq) dX6_seek_39 (fun q1 _ => ?_)
          refine c_istore G [(4, .int q1), (0, .ref (wB w + pz (a0))), (1, .ref (wB w + pz (a1))), (2, .int l2_1), (3, .int l3_1)] dX6_seek_42 (by decide) rfl ?_
          refine c_aload_n G dX6_seek_44 rfl 1 rfl ?_
          refine c_aload_n G dX6_seek_45 rfl 2 rfl ?_
          refine c_iload_n G dX6_seek_46 rfl 4 rfl ?_
          refine c_callV_V (d := 4) (rest := []) G [.ref (wB w + pz (a1)), .int l3_1] yv_X6_goRound ml_X6_48 (by omega) (by decide) rfl rfl (Nat.le_of_ble_eq_true rfl) h_a0 (fun q hq => con_X6_goRound h_a0 h_a1 hq) dX6_seek_47 (fun M4 _ => ?_)
          refine c_aload_n G dX6_seek_50 rfl 1 rfl ?_
          refine c_iload_n G dX6_seek_51 rfl 4 rfl ?_
          refine c_putI G fp_X6_38 h_a0 rfl dX6_seek_52 (fun M5 _ => ?_)
          refine c_aload_n G dX6_seek_55 rfl 1 rfl ?_
          refine c_getI G fl_X6_52 h_a0 rfl dX6_seek_56 ?_
          refine c_bj (ej := fun (p82 : Mm) => [(0, .ref (wB w + pz (a0))), (1, .ref (wB w + pz (a1))), (3, .int l3_1), (4, .int q1)]) (sj := fun p82 => []) (mj := fun p82 => p82) (pj := 82) (fun p82 => ?_) (fun F hJ82 => ?_)
          · skip
            refine c_aload_n G dX6_seek_82 rfl 0 rfl ?_
            refine c_callV_PI (d := 0) (rest := []) G [] yv_X6_total ml_X6_44 (by omega) (by decide) rfl rfl (Nat.le_of_ble_eq_true rfl) h_a0 (fun q hq => con_X6_total h_a0 hq) dX6_seek_83 (fun q2 _ => ?_)
            refine c_iload G dX6_seek_86 3 rfl ?_
            refine c_icmp_le (tgt := 95) G dX6_seek_88 (by decide) (fun _ => ?_) (fun _ => ?_)
            · skip
              refine c_iconst G (nI 0) dX6_seek_95 kI_0 ?_
              refine c_istore_n G [(2, .int (nI 0)), (0, .ref (wB w + pz (a0))), (1, .ref (wB w + pz (a1))), (3, .int l3_1), (4, .int q1)] dX6_seek_96 rfl (by decide) rfl ?_
              refine c_iinc G (fun y__ => [(3, .int y__), (2, .int (nI 0)), (0, .ref (wB w + pz (a0))), (1, .ref (wB w + pz (a1))), (4, .int q1)]) dX6_seek_97 3 rfl kI_1 (by decide) (fun _ => rfl) (fun l3_2 _ => ?_)
              refine c_goto (tgt := 21) G dX6_seek_100 (by decide) ?_
              exact c_weak _ [2, 3, 1, 0] rfl (ih (nI 0) l3_2 p82)
            · skip
              refine c_iconst G (nI 1) dX6_seek_91 kI_1 ?_
              refine c_goto (tgt := 96) G dX6_seek_92 (by decide) ?_
              refine c_istore_n G [(2, .int (nI 1)), (0, .ref (wB w + pz (a0))), (1, .ref (wB w + pz (a1))), (3, .int l3_1), (4, .int q1)] dX6_seek_96 rfl (by decide) rfl ?_
              refine c_iinc G (fun y__ => [(3, .int y__), (2, .int (nI 1)), (0, .ref (wB w + pz (a0))), (1, .ref (wB w + pz (a1))), (4, .int q1)]) dX6_seek_97 3 rfl kI_1 (by decide) (fun _ => rfl) (fun l3_3 _ => ?_)
              refine c_goto (tgt := 21) G dX6_seek_100 (by decide) ?_
              exact c_weak _ [2, 3, 1, 0] rfl (ih (nI 1) l3_3 p82)
          · skip
            refine c_if_eq (tgt := 82) G dX6_seek_59 (by decide) (fun _ => ?_) (fun _ => ?_)
            · skip
              exact c_weak _ [1, 2, 4, 0] rfl (hJ82 M5)
            · skip
              refine c_aload_n G dX6_seek_62 rfl 1 rfl ?_
              refine c_getI G fl_X6_34 h_a0 rfl dX6_seek_63 ?_
              refine c_if_ne (tgt := 82) G dX6_seek_66 (by decide) (fun _ => ?_) (fun _ => ?_)
              · skip
                refine c_aload_n G dX6_seek_69 rfl 1 rfl ?_
                refine c_iload_n G dX6_seek_70 rfl 4 rfl ?_
                refine c_putI G fp_X6_34 h_a0 rfl dX6_seek_71 (fun M7 _ => ?_)
                refine c_aload_n G dX6_seek_74 rfl 1 rfl ?_
                refine c_aload_n G dX6_seek_75 rfl 1 rfl ?_
                refine c_callV_PI (d := 0) (rest := [.ref (wB w + pz (a0))]) G [] yv_X6_total ml_X6_44 (by omega) (by decide) rfl rfl (Nat.le_of_ble_eq_true rfl) h_a0 (fun q hq => con_X6_total h_a0 hq) dX6_seek_76 (fun q3 _ => ?_)
                refine c_putI G fp_X6_55 h_a0 rfl dX6_seek_79 (fun M8 _ => ?_)
                exact c_weak _ [1, 2, 4, 0] rfl (hJ82 M8)
              · skip
                exact c_weak _ [1, 2, 4, 0] rfl (hJ82 M5)
        · skip
          exact c_vret G hQ dX6_seek_103
set_option maxHeartbeats 4000000 in
set_option maxRecDepth 100000 in
theorem con_X6_seek {w : Wp} {N : Nat} {a0 : Nat} {a1 : Nat} {M : Mm} {q : Mm} (h_a0 : lay a0 = (5, 6)) (h_a1 : lay a1 = (5, 1)) (hq : D_X6_seek N a0 a1 M = some q) : Con w 5 yX6_seek cX6_seek 5 none [.ref (wB w + pz (a0)), .ref (wB w + pz (a1))] M (encV q) := by
  refine Con.of encV q _ hq (by decide) (Nat.le_of_ble_eq_true rfl) ?_
  intro X G Q hQ
  have G : Good w X cX6_seek 5 RX6 none 5 := G
  refine c_weak [(0, .ref (wB w + pz (a0))), (1, .ref (wB w + pz (a1)))] [0, 1] rfl ?_
  rw [D_X6_seek]
  refine c_aload_n G dX6_seek_0 rfl 0 rfl ?_
  refine c_getI G fl_X6_27 h_a0 rfl dX6_seek_1 ?_
  refine c_if_eq (tgt := 8) G dX6_seek_4 (by decide) (fun _ => ?_) (fun _ => ?_)
  · skip
    refine c_aload_n G dX6_seek_8 rfl 0 rfl ?_
    refine c_iconst G (nI 1) dX6_seek_9 kI_1 ?_
    refine c_putZ G fp_X6_27 h_a0 rfl dX6_seek_10 (fun M1 _ => ?_)
    refine c_aload_n G dX6_seek_13 rfl 0 rfl ?_
    refine c_callV_V (d := 1) (rest := []) G [] yv_X6_begin ml_X6_41 (by omega) (by decide) rfl rfl (Nat.le_of_ble_eq_true rfl) h_a0 (fun q hq => con_X6_begin h_a0 hq) dX6_seek_14 (fun M2 _ => ?_)
    refine c_iconst G (nI 1) dX6_seek_17 kI_1 ?_
    refine c_istore_n G [(2, .int (nI 1)), (0, .ref (wB w + pz (a0))), (1, .ref (wB w + pz (a1)))] dX6_seek_18 rfl (by decide) rfl ?_
    refine c_iconst G (nI 1) dX6_seek_19 kI_1 ?_
    refine c_istore_n G [(3, .int (nI 1)), (2, .int (nI 1)), (0, .ref (wB w + pz (a0))), (1, .ref (wB w + pz (a1)))] dX6_seek_20 rfl (by decide) rfl ?_
    refine c_weak _ [2, 3, 1, 0] rfl (cl_X6_seek_21 G hQ  h_a0 h_a1 N (nI 1) (nI 1) M2)
  · skip
    exact c_vret G hQ dX6_seek_7
set_option maxHeartbeats 4000000 in
set_option maxRecDepth 100000 in
theorem con_X6_unsure {w : Wp} {N : Nat} {a0 : Nat} {M : Mm} {q : Int32} (h_a0 : lay a0 = (5, 6)) (hq : D_X6_unsure N a0 M = some q) : Con w 0 yX6_unsure cX6_unsure 1 (some .boolean) [.ref (wB w + pz (a0))] M ((encPI M) q) := by
  refine Con.of (encPI M) q _ hq (by decide) (Nat.le_of_ble_eq_true rfl) ?_
  intro X G Q hQ
  have G : Good w X cX6_unsure 1 RX6 (some .boolean) 0 := G
  refine c_weak [(0, .ref (wB w + pz (a0)))] [0] rfl ?_
  rw [D_X6_unsure]
  refine c_aload_n G dX6_unsure_0 rfl 0 rfl ?_
  refine c_getI G fl_X6_31 h_a0 rfl dX6_unsure_1 ?_
  refine c_jn (ej := fun (p29 : Unit) => []) (sj := fun p29 => []) (mj := fun p29 => M) (pj := 29) (fun p29 => ?_) (fun J1 hJ29 => ?_)
  · skip
    refine c_iconst G (nI 0) dX6_unsure_29 kI_0 ?_
    exact c_zretP G hQ dX6_unsure_30
  · skip
    refine c_if_eq (tgt := 29) G dX6_unsure_4 (by decide) (fun _ => ?_) (fun _ => ?_)
    · skip
      exact c_weak _ [] rfl (hJ29 ())
    · skip
      refine c_aload_n G dX6_unsure_7 rfl 0 rfl ?_
      refine c_getI G fl_X6_34 h_a0 rfl dX6_unsure_8 ?_
      refine c_jn (ej := fun (p25 : Unit) => []) (sj := fun p25 => []) (mj := fun p25 => M) (pj := 25) (fun p25 => ?_) (fun J2 hJ25 => ?_)
      · skip
        refine c_iconst G (nI 1) dX6_unsure_25 kI_1 ?_
        refine c_goto (tgt := 30) G dX6_unsure_26 (by decide) ?_
        exact c_zretP G hQ dX6_unsure_30
      · skip
        refine c_if_eq (tgt := 25) G dX6_unsure_11 (by decide) (fun _ => ?_) (fun _ => ?_)
        · skip
          exact c_weak _ [] rfl (hJ25 ())
        · skip
          refine c_aload_n G dX6_unsure_14 rfl 0 rfl ?_
          refine c_getI G fl_X6_34 h_a0 rfl dX6_unsure_15 ?_
          refine c_aload_n G dX6_unsure_18 rfl 0 rfl ?_
          refine c_getI G fl_X6_38 h_a0 rfl dX6_unsure_19 ?_
          refine c_icmp_ne (tgt := 29) G dX6_unsure_22 (by decide) (fun _ => ?_) (fun _ => ?_)
          · skip
            exact c_weak _ [] rfl (hJ25 ())
          · skip
            exact c_weak _ [] rfl (hJ29 ())
set_option maxHeartbeats 4000000 in
set_option maxRecDepth 100000 in
theorem con_X11_real {w : Wp} {N : Nat} {a0 : Nat} {a1 : Int32} {M : Mm} {q : Int32 × Mm} (h_a0 : lay a0 = (5, 11)) (hq : D_X11_real N a0 a1 M = some q) : Con w 6 yX11_real cX11_real 3 (some .int) [.ref (wB w + pz (a0)), .int a1] M (encI q) := by
  refine Con.of encI q _ hq (by decide) (Nat.le_of_ble_eq_true rfl) ?_
  intro X G Q hQ
  have G : Good w X cX11_real 3 RX11 (some .int) 6 := G
  refine c_weak [(0, .ref (wB w + pz (a0))), (1, .int a1)] [0, 1] rfl ?_
  rw [D_X11_real]
  refine c_iload_n G dX11_real_0 rfl 1 rfl ?_
  refine c_if_lt (tgt := 9) G dX11_real_1 (by decide) (fun _ => ?_) (fun _ => ?_)
  · skip
    refine c_aload_n G dX11_real_9 rfl 0 rfl ?_
    refine c_iconst G (nI 1) dX11_real_10 kI_1 ?_
    refine c_callV_I (d := 0) (rest := []) G [.int (nI 1)] yv_X11_refuse ml_X11_113 (by omega) (by decide) rfl rfl (Nat.le_of_ble_eq_true rfl) h_a0 (fun q hq => con_X11_refuse h_a0 hq) dX11_real_11 (fun q1 _ => ?_)
    exact c_iret G hQ dX11_real_14
  · skip
    refine c_iload_n G dX11_real_4 rfl 1 rfl ?_
    refine c_iconst G (nI 3) dX11_real_5 kI_3 ?_
    refine c_icmp_le (tgt := 15) G dX11_real_6 (by decide) (fun _ => ?_) (fun _ => ?_)
    · skip
      refine c_aload_n G dX11_real_15 rfl 0 rfl ?_
      refine c_getR (c' := 1) G fl_X11_75 h_a0 rfl dX11_real_16 (fun r1 _ h_r1 => ?_)
      refine c_getI G fl_X11_153 h_r1 rfl dX11_real_19 ?_
      refine c_if_ne (tgt := 31) G dX11_real_22 (by decide) (fun _ => ?_) (fun _ => ?_)
      · skip
        refine c_aload_n G dX11_real_25 rfl 0 rfl ?_
        refine c_iconst G (nI 2) dX11_real_26 kI_2 ?_
        refine c_callV_I (d := 0) (rest := []) G [.int (nI 2)] yv_X11_refuse ml_X11_113 (by omega) (by decide) rfl rfl (Nat.le_of_ble_eq_true rfl) h_a0 (fun q hq => con_X11_refuse h_a0 hq) dX11_real_27 (fun q2 _ => ?_)
        exact c_iret G hQ dX11_real_30
      · skip
        refine c_aload_n G dX11_real_31 rfl 0 rfl ?_
        refine c_getF G fl_X11_61 h_a0 rfl dX11_real_32 ?_
        refine c_aload_n G dX11_real_35 rfl 0 rfl ?_
        refine c_getR (c' := 1) G fl_X11_75 h_a0 rfl dX11_real_36 (fun r2 _ h_r2 => ?_)
        refine c_callV_V (d := 5) (rest := []) G [.ref (wB w + pz (r2))] yv_X6_seek ml_X11_242 (by omega) (by decide) rfl rfl (Nat.le_of_ble_eq_true rfl) (lf h_a0 9 rfl) (fun q hq => con_X6_seek (lf h_a0 9 rfl) h_r2 hq) dX11_real_39 (fun M1 _ => ?_)
        refine c_aload_n G dX11_real_42 rfl 0 rfl ?_
        refine c_getF G fl_X11_61 h_a0 rfl dX11_real_43 ?_
        refine c_callV_PI (d := 0) (rest := []) G [] yv_X6_unsure ml_X11_245 (by omega) (by decide) rfl rfl (Nat.le_of_ble_eq_true rfl) (lf h_a0 9 rfl) (fun q hq => con_X6_unsure (lf h_a0 9 rfl) hq) dX11_real_46 (fun q3 _ => ?_)
        refine c_if_eq (tgt := 59) G dX11_real_49 (by decide) (fun _ => ?_) (fun _ => ?_)
        · skip
          refine c_aload_n G dX11_real_59 rfl 0 rfl ?_
          refine c_getF G fl_X11_61 h_a0 rfl dX11_real_60 ?_
          refine c_getI G fl_X11_249 (lf h_a0 9 rfl) rfl dX11_real_63 ?_
          refine c_bj (ej := fun (p74 : Int32) => [(0, .ref (wB w + pz (a0))), (1, .int a1)]) (sj := fun p74 => [.int p74]) (mj := fun p74 => M1) (pj := 74) (fun p74 => ?_) (fun F hJ74 => ?_)
          · skip
            refine c_istore_n G [(2, .int p74), (0, .ref (wB w + pz (a0))), (1, .int a1)] dX11_real_74 rfl (by decide) rfl ?_
            refine c_iload_n G dX11_real_75 rfl 2 rfl ?_
            refine c_tsw (tgt := 104) G (nI 0) 0 dX11_real_76 (by decide +kernel) (by decide +kernel) rfl (by decide) (fun _ => ?_) (fun hn0 => ?_)
            · skip
              refine c_aload_n G dX11_real_104 rfl 1 rfl ?_
              refine c_iload_n G dX11_real_105 rfl 0 rfl ?_
              refine c_if_eq (tgt := 113) G dX11_real_106 (by decide) (fun _ => ?_) (fun _ => ?_)
              · skip
                refine c_iconst G (nI 0) dX11_real_113 kI_0 ?_
                refine c_callV_I (d := 0) (rest := []) G [.int (nI 0)] yv_X11_answer ml_X11_147 (by omega) (by decide) rfl rfl (Nat.le_of_ble_eq_true rfl) h_a0 (fun q hq => con_X11_answer h_a0 hq) dX11_real_114 (fun q4 _ => ?_)
                exact c_iret G hQ dX11_real_117
              · skip
                refine c_iconst G (nI 1) dX11_real_109 kI_1 ?_
                refine c_goto (tgt := 114) G dX11_real_110 (by decide) ?_
                refine c_callV_I (d := 0) (rest := []) G [.int (nI 1)] yv_X11_answer ml_X11_147 (by omega) (by decide) rfl rfl (Nat.le_of_ble_eq_true rfl) h_a0 (fun q hq => con_X11_answer h_a0 hq) dX11_real_114 (fun q5 _ => ?_)
                exact c_iret G hQ dX11_real_117
            · skip
              refine c_tsw (tgt := 118) G (nI 1) 1 dX11_real_76 (by decide +kernel) (by decide +kernel) rfl (by decide) (fun _ => ?_) (fun hn1 => ?_)
              · skip
                refine c_iload_n G dX11_real_118 rfl 0 rfl ?_
                refine c_if_eq (tgt := 136) G dX11_real_119 (by decide) (fun _ => ?_) (fun _ => ?_)
                · skip
                  refine c_aload_n G dX11_real_136 rfl 1 rfl ?_
                  refine c_bipush G (nI 7) dX11_real_137 kB_7 ?_
                  refine c_callV_I (d := 0) (rest := []) G [.int (nI 7)] yv_X11_refuse ml_X11_113 (by omega) (by decide) rfl rfl (Nat.le_of_ble_eq_true rfl) h_a0 (fun q hq => con_X11_refuse h_a0 hq) dX11_real_139 (fun q6 _ => ?_)
                  exact c_iret G hQ dX11_real_142
                · skip
                  refine c_aload_n G dX11_real_122 rfl 1 rfl ?_
                  refine c_aload_n G dX11_real_123 rfl 1 rfl ?_
                  refine c_getF G fl_X11_61 h_a0 rfl dX11_real_124 ?_
                  refine c_getI G fl_X11_249 (lf h_a0 9 rfl) rfl dX11_real_127 ?_
                  refine c_callV_I (d := 0) (rest := []) G [.int (M1.1 (a0 + 23) 8)] yv_X11_answer ml_X11_147 (by omega) (by decide) rfl rfl (Nat.le_of_ble_eq_true rfl) h_a0 (fun q hq => con_X11_answer h_a0 hq) dX11_real_130 (fun q7 _ => ?_)
                  refine c_goto (tgt := 142) G dX11_real_133 (by decide) ?_
                  exact c_iret G hQ dX11_real_142
              · skip
                refine c_tsw (tgt := 143) G (nI 2) 2 dX11_real_76 (by decide +kernel) (by decide +kernel) rfl (by decide) (fun _ => ?_) (fun hn2 => ?_)
                · skip
                  refine c_aload_n G dX11_real_143 rfl 1 rfl ?_
                  refine c_iload_n G dX11_real_144 rfl 0 rfl ?_
                  refine c_if_eq (tgt := 158) G dX11_real_145 (by decide) (fun _ => ?_) (fun _ => ?_)
                  · skip
                    refine c_aload_n G dX11_real_158 rfl 1 rfl ?_
                    refine c_getF G fl_X11_61 h_a0 rfl dX11_real_159 ?_
                    refine c_getI G fl_X11_252 (lf h_a0 9 rfl) rfl dX11_real_162 ?_
                    refine c_callV_I (d := 0) (rest := []) G [.int (M1.1 (a0 + 23) 7)] yv_X11_answer ml_X11_147 (by omega) (by decide) rfl rfl (Nat.le_of_ble_eq_true rfl) h_a0 (fun q hq => con_X11_answer h_a0 hq) dX11_real_165 (fun q8 _ => ?_)
                    exact c_iret G hQ dX11_real_168
                  · skip
                    refine c_aload_n G dX11_real_148 rfl 1 rfl ?_
                    refine c_getF G fl_X11_61 h_a0 rfl dX11_real_149 ?_
                    refine c_getI G fl_X11_249 (lf h_a0 9 rfl) rfl dX11_real_152 ?_
                    refine c_goto (tgt := 165) G dX11_real_155 (by decide) ?_
                    refine c_callV_I (d := 0) (rest := []) G [.int (M1.1 (a0 + 23) 8)] yv_X11_answer ml_X11_147 (by omega) (by decide) rfl rfl (Nat.le_of_ble_eq_true rfl) h_a0 (fun q hq => con_X11_answer h_a0 hq) dX11_real_165 (fun q9 _ => ?_)
                    exact c_iret G hQ dX11_real_168
                · skip
                  have hm0 := lv_neT hn0 (show (nI 0).toInt = 0 by decide +kernel)
                  have hm1 := lv_neT hn1 (show (nI 1).toInt = 1 by decide +kernel)
                  have hm2 := lv_neT hn2 (show (nI 2).toInt = 2 by decide +kernel)
                  refine c_tswD (tgt := 169) G dX11_real_76 (by omega) (by decide) ?_
                  refine c_aload_n G dX11_real_169 rfl 1 rfl ?_
                  refine c_iload_n G dX11_real_170 rfl 0 rfl ?_
                  refine c_if_eq (tgt := 184) G dX11_real_171 (by decide) (fun _ => ?_) (fun _ => ?_)
                  · skip
                    refine c_aload_n G dX11_real_184 rfl 1 rfl ?_
                    refine c_getF G fl_X11_61 h_a0 rfl dX11_real_185 ?_
                    refine c_callV_PI (d := 0) (rest := [.ref (wB w + pz (a0))]) G [] yv_X6_total ml_X11_258 (by omega) (by decide) rfl rfl (Nat.le_of_ble_eq_true rfl) (lf h_a0 9 rfl) (fun q hq => con_X6_total (lf h_a0 9 rfl) hq) dX11_real_188 (fun q10 _ => ?_)
                    refine c_callV_I (d := 0) (rest := []) G [.int q10] yv_X11_answer ml_X11_147 (by omega) (by decide) rfl rfl (Nat.le_of_ble_eq_true rfl) h_a0 (fun q hq => con_X11_answer h_a0 hq) dX11_real_191 (fun q11 _ => ?_)
                    exact c_iret G hQ dX11_real_194
                  · skip
                    refine c_aload_n G dX11_real_174 rfl 1 rfl ?_
                    refine c_getF G fl_X11_61 h_a0 rfl dX11_real_175 ?_
                    refine c_getI G fl_X11_255 (lf h_a0 9 rfl) rfl dX11_real_178 ?_
                    refine c_goto (tgt := 191) G dX11_real_181 (by decide) ?_
                    refine c_callV_I (d := 0) (rest := []) G [.int (M1.1 (a0 + 23) 9)] yv_X11_answer ml_X11_147 (by omega) (by decide) rfl rfl (Nat.le_of_ble_eq_true rfl) h_a0 (fun q hq => con_X11_answer h_a0 hq) dX11_real_191 (fun q12 _ => ?_)
                    exact c_iret G hQ dX11_real_194
          · skip
            refine c_if_le (tgt := 73) G dX11_real_66 (by decide) (fun _ => ?_) (fun _ => ?_)
            · skip
              refine c_iconst G (nI 0) dX11_real_73 kI_0 ?_
              exact c_weak _ [0, 1] rfl (hJ74 (nI 0))
            · skip
              refine c_iconst G (nI 1) dX11_real_69 kI_1 ?_
              refine c_goto (tgt := 74) G dX11_real_70 (by decide) ?_
              exact c_weak _ [0, 1] rfl (hJ74 (nI 1))
        · skip
          refine c_aload_n G dX11_real_52 rfl 0 rfl ?_
          refine c_bipush G (nI 6) dX11_real_53 kB_6 ?_
          refine c_callV_I (d := 0) (rest := []) G [.int (nI 6)] yv_X11_refuse ml_X11_113 (by omega) (by decide) rfl rfl (Nat.le_of_ble_eq_true rfl) h_a0 (fun q hq => con_X11_refuse h_a0 hq) dX11_real_55 (fun q13 _ => ?_)
          exact c_iret G hQ dX11_real_58
    · skip
      refine c_aload_n G dX11_real_9 rfl 0 rfl ?_
      refine c_iconst G (nI 1) dX11_real_10 kI_1 ?_
      refine c_callV_I (d := 0) (rest := []) G [.int (nI 1)] yv_X11_refuse ml_X11_113 (by omega) (by decide) rfl rfl (Nat.le_of_ble_eq_true rfl) h_a0 (fun q hq => con_X11_refuse h_a0 hq) dX11_real_11 (fun q14 _ => ?_)
      exact c_iret G hQ dX11_real_14
set_option maxHeartbeats 4000000 in
set_option maxRecDepth 100000 in
theorem con_X11_shades {w : Wp} {N : Nat} {a0 : Nat} {a1 : Int32} {M : Mm} {q : Int32 × Mm} (h_a0 : lay a0 = (5, 11)) (hq : D_X11_shades N a0 a1 M = some q) : Con w 6 yX11_shades cX11_shades 2 (some .int) [.ref (wB w + pz (a0)), .int a1] M (encI q) := by
  refine Con.of encI q _ hq (by decide) (Nat.le_of_ble_eq_true rfl) ?_
  intro X G Q hQ
  have G : Good w X cX11_shades 2 RX11 (some .int) 6 := G
  refine c_weak [(0, .ref (wB w + pz (a0))), (1, .int a1)] [0, 1] rfl ?_
  rw [D_X11_shades]
  refine c_aload_n G dX11_shades_0 rfl 0 rfl ?_
  refine c_getR (c' := 1) G fl_X11_75 h_a0 rfl dX11_shades_1 (fun r1 _ h_r1 => ?_)
  refine c_iload_n G dX11_shades_4 rfl 1 rfl ?_
  refine c_callV_PI (d := 0) (rest := []) G [.int a1] yv_X1_hasSymbol ml_X11_169 (by omega) (by decide) rfl rfl (Nat.le_of_ble_eq_true rfl) h_r1 (fun q hq => con_X1_hasSymbol h_r1 hq) dX11_shades_5 (fun q1 _ => ?_)
  refine c_if_ne (tgt := 17) G dX11_shades_8 (by decide) (fun _ => ?_) (fun _ => ?_)
  · skip
    refine c_aload_n G dX11_shades_11 rfl 0 rfl ?_
    refine c_iconst G (nI 4) dX11_shades_12 kI_4 ?_
    refine c_callV_I (d := 0) (rest := []) G [.int (nI 4)] yv_X11_refuse ml_X11_113 (by omega) (by decide) rfl rfl (Nat.le_of_ble_eq_true rfl) h_a0 (fun q hq => con_X11_refuse h_a0 hq) dX11_shades_13 (fun q2 _ => ?_)
    exact c_iret G hQ dX11_shades_16
  · skip
    refine c_aload_n G dX11_shades_17 rfl 0 rfl ?_
    refine c_getF G fl_X11_61 h_a0 rfl dX11_shades_18 ?_
    refine c_aload_n G dX11_shades_21 rfl 0 rfl ?_
    refine c_getR (c' := 1) G fl_X11_75 h_a0 rfl dX11_shades_22 (fun r2 _ h_r2 => ?_)
    refine c_callV_V (d := 5) (rest := []) G [.ref (wB w + pz (r2))] yv_X6_seek ml_X11_242 (by omega) (by decide) rfl rfl (Nat.le_of_ble_eq_true rfl) (lf h_a0 9 rfl) (fun q hq => con_X6_seek (lf h_a0 9 rfl) h_r2 hq) dX11_shades_25 (fun M1 _ => ?_)
    refine c_aload_n G dX11_shades_28 rfl 0 rfl ?_
    refine c_getF G fl_X11_61 h_a0 rfl dX11_shades_29 ?_
    refine c_getI G fl_X11_261 (lf h_a0 9 rfl) rfl dX11_shades_32 ?_
    refine c_if_eq (tgt := 47) G dX11_shades_35 (by decide) (fun _ => ?_) (fun _ => ?_)
    · skip
      refine c_aload_n G dX11_shades_47 rfl 0 rfl ?_
      refine c_aload_n G dX11_shades_48 rfl 0 rfl ?_
      refine c_getF G fl_X11_61 h_a0 rfl dX11_shades_49 ?_
      refine c_getF G fl_X11_264 (lf h_a0 9 rfl) rfl dX11_shades_52 ?_
      refine c_iload_n G dX11_shades_55 rfl 1 rfl ?_
      refine c_iald G (lf (lf h_a0 9 rfl) 4 rfl) dX11_shades_56 (fun v1 _ => ?_)
      refine c_callV_I (d := 0) (rest := []) G [.int v1] yv_X11_answer ml_X11_147 (by omega) (by decide) rfl rfl (Nat.le_of_ble_eq_true rfl) h_a0 (fun q hq => con_X11_answer h_a0 hq) dX11_shades_57 (fun q3 _ => ?_)
      exact c_iret G hQ dX11_shades_60
    · skip
      refine c_aload_n G dX11_shades_38 rfl 0 rfl ?_
      refine c_bipush G (nI 6) dX11_shades_39 kB_6 ?_
      refine c_callV_I (d := 0) (rest := []) G [.int (nI 6)] yv_X11_refuse ml_X11_113 (by omega) (by decide) rfl rfl (Nat.le_of_ble_eq_true rfl) h_a0 (fun q hq => con_X11_refuse h_a0 hq) dX11_shades_41 (fun q4 _ => ?_)
      refine c_goto (tgt := 60) G dX11_shades_44 (by decide) ?_
      exact c_iret G hQ dX11_shades_60
set_option maxHeartbeats 4000000 in
set_option maxRecDepth 100000 in
theorem con_X8_add {w : Wp} {N : Nat} {a0 : Nat} {a1 : Nat} {a2 : Int32} {a3 : Int32} {a4 : Int32} {a5 : Int32} {M : Mm} {q : Mm} (h_a0 : lay a0 = (5, 8)) (h_a1 : lay a1 = (5, 1)) (hq : D_X8_add N a0 a1 a2 a3 a4 a5 M = some q) : Con w 1 yX8_add cX8_add 7 none [.ref (wB w + pz (a0)), .ref (wB w + pz (a1)), .int a2, .int a3, .int a4, .int a5] M (encV q) := by
  refine Con.of encV q _ hq (by decide) (Nat.le_of_ble_eq_true rfl) ?_
  intro X G Q hQ
  have G : Good w X cX8_add 7 RX8 none 1 := G
  refine c_weak [(0, .ref (wB w + pz (a0))), (1, .ref (wB w + pz (a1))), (2, .int a2), (3, .int a3), (4, .int a4), (5, .int a5)] [0, 1, 2, 3, 4, 5] rfl ?_
  rw [D_X8_add]
  refine c_aload_n G dX8_add_0 rfl 0 rfl ?_
  refine c_getI G fl_X8_64 h_a0 rfl dX8_add_1 ?_
  refine c_bipush G (nI 40) dX8_add_4 kB_40 ?_
  refine c_icmp_ge (tgt := 162) G dX8_add_6 (by decide) (fun _ => ?_) (fun _ => ?_)
  · skip
    exact c_vret G hQ dX8_add_162
  · skip
    refine c_aload_n G dX8_add_9 rfl 1 rfl ?_
    refine c_iload_n G dX8_add_10 rfl 2 rfl ?_
    refine c_iconst G (nI 0) dX8_add_11 kI_0 ?_
    refine c_callV_PI (d := 0) (rest := []) G [.int a2, .int (nI 0)] yv_X1_side ml_X8_74 (by omega) (by decide) rfl rfl (Nat.le_of_ble_eq_true rfl) h_a1 (fun q hq => con_X1_side h_a1 hq) dX8_add_12 (fun q1 _ => ?_)
    refine c_istore G [(6, .int q1), (0, .ref (wB w + pz (a0))), (1, .ref (wB w + pz (a1))), (2, .int a2), (3, .int a3), (4, .int a4), (5, .int a5)] dX8_add_15 (by decide) rfl ?_
    refine c_aload_n G dX8_add_17 rfl 1 rfl ?_
    refine c_getF G fl_X8_9 h_a0 rfl dX8_add_18 ?_
    refine c_aload_n G dX8_add_21 rfl 1 rfl ?_
    refine c_getI G fl_X8_64 h_a0 rfl dX8_add_22 ?_
    refine c_iload_n G dX8_add_25 rfl 3 rfl ?_
    refine c_iast G (lf h_a0 1 rfl) dX8_add_26 (fun M1 _ => ?_)
    refine c_aload_n G dX8_add_27 rfl 1 rfl ?_
    refine c_getF G fl_X8_15 h_a0 rfl dX8_add_28 ?_
    refine c_aload_n G dX8_add_31 rfl 1 rfl ?_
    refine c_getI G fl_X8_64 h_a0 rfl dX8_add_32 ?_
    refine c_iload_n G dX8_add_35 rfl 4 rfl ?_
    refine c_iast G (lf h_a0 2 rfl) dX8_add_36 (fun M2 _ => ?_)
    refine c_aload_n G dX8_add_37 rfl 1 rfl ?_
    refine c_getF G fl_X8_18 h_a0 rfl dX8_add_38 ?_
    refine c_aload_n G dX8_add_41 rfl 1 rfl ?_
    refine c_getI G fl_X8_64 h_a0 rfl dX8_add_42 ?_
    refine c_iload G dX8_add_45 5 rfl ?_
    refine c_iast G (lf h_a0 3 rfl) dX8_add_47 (fun M3 _ => ?_)
    refine c_aload_n G dX8_add_48 rfl 1 rfl ?_
    refine c_getF G fl_X8_21 h_a0 rfl dX8_add_49 ?_
    refine c_aload_n G dX8_add_52 rfl 1 rfl ?_
    refine c_getI G fl_X8_64 h_a0 rfl dX8_add_53 ?_
    refine c_iload G dX8_add_56 6 rfl ?_
    refine c_iast G (lf h_a0 4 rfl) dX8_add_58 (fun M4 _ => ?_)
    refine c_aload_n G dX8_add_59 rfl 1 rfl ?_
    refine c_getF G fl_X8_24 h_a0 rfl dX8_add_60 ?_
    refine c_aload_n G dX8_add_63 rfl 1 rfl ?_
    refine c_getI G fl_X8_64 h_a0 rfl dX8_add_64 ?_
    refine c_iload G dX8_add_67 5 rfl ?_
    refine c_iconst G m1 dX8_add_69 kI_m1 ?_
    refine c_bj (ej := fun (p86 : Int32) => [(0, .ref (wB w + pz (a0))), (1, .ref (wB w + pz (a1))), (2, .int a2), (6, .int q1)]) (sj := fun p86 => [.int p86, .int (M4.1 a0 0), .ref (wB w + pz ((a0 + 5)))]) (mj := fun p86 => M4) (pj := 86) (fun p86 => ?_) (fun F hJ86 => ?_)
    · skip
      refine c_iast G (lf h_a0 5 rfl) dX8_add_86 (fun M5 _ => ?_)
      refine c_aload_n G dX8_add_87 rfl 0 rfl ?_
      refine c_getF G fl_X8_30 h_a0 rfl dX8_add_88 ?_
      refine c_aload_n G dX8_add_91 rfl 0 rfl ?_
      refine c_getI G fl_X8_64 h_a0 rfl dX8_add_92 ?_
      refine c_iload G dX8_add_95 3 rfl ?_
      refine c_iast G (lf h_a0 7 rfl) dX8_add_97 (fun M6 _ => ?_)
      refine c_aload_n G dX8_add_98 rfl 0 rfl ?_
      refine c_getF G fl_X8_33 h_a0 rfl dX8_add_99 ?_
      refine c_aload_n G dX8_add_102 rfl 0 rfl ?_
      refine c_getI G fl_X8_64 h_a0 rfl dX8_add_103 ?_
      refine c_aload_n G dX8_add_106 rfl 1 rfl ?_
      refine c_getF G fl_X8_80 h_a1 rfl dX8_add_107 ?_
      refine c_iload G dX8_add_110 3 rfl ?_
      refine c_iald G (lf h_a1 6 rfl) dX8_add_112 (fun v1 _ => ?_)
      refine c_iast G (lf h_a0 8 rfl) dX8_add_113 (fun M7 _ => ?_)
      refine c_aload_n G dX8_add_114 rfl 0 rfl ?_
      refine c_getF G fl_X8_36 h_a0 rfl dX8_add_115 ?_
      refine c_aload_n G dX8_add_118 rfl 0 rfl ?_
      refine c_getI G fl_X8_64 h_a0 rfl dX8_add_119 ?_
      refine c_aload_n G dX8_add_122 rfl 1 rfl ?_
      refine c_getF G fl_X8_80 h_a1 rfl dX8_add_123 ?_
      refine c_iload G dX8_add_126 3 rfl ?_
      refine c_iald G (lf h_a1 6 rfl) dX8_add_128 (fun v2 _ => ?_)
      refine c_aload_n G dX8_add_129 rfl 1 rfl ?_
      refine c_getF G fl_X8_81 h_a1 rfl dX8_add_130 ?_
      refine c_iload G dX8_add_133 3 rfl ?_
      refine c_iald G (lf h_a1 7 rfl) dX8_add_135 (fun v3 _ => ?_)
      refine c_iadd G dX8_add_136 ?_
      refine c_iast G (lf h_a0 9 rfl) dX8_add_137 (fun M8 _ => ?_)
      refine c_aload_n G dX8_add_138 rfl 0 rfl ?_
      refine c_getF G fl_X8_39 h_a0 rfl dX8_add_139 ?_
      refine c_aload_n G dX8_add_142 rfl 0 rfl ?_
      refine c_getI G fl_X8_64 h_a0 rfl dX8_add_143 ?_
      refine c_aload_n G dX8_add_146 rfl 1 rfl ?_
      refine c_iload_n G dX8_add_147 rfl 2 rfl ?_
      refine c_callV_PI (d := 0) (rest := [.int (M8.1 a0 0), .ref (wB w + pz ((a0 + 10)))]) G [.int a2] yv_X1_children ml_X8_84 (by omega) (by decide) rfl rfl (Nat.le_of_ble_eq_true rfl) h_a1 (fun q hq => con_X1_children h_a1 hq) dX8_add_148 (fun q2 _ => ?_)
      refine c_iast G (lf h_a0 10 rfl) dX8_add_151 (fun M9 _ => ?_)
      refine c_aload_n G dX8_add_152 rfl 0 rfl ?_
      refine c_dup G dX8_add_153 rfl ?_
      refine c_getI G fl_X8_64 h_a0 rfl dX8_add_154 ?_
      refine c_iconst G (nI 1) dX8_add_157 kI_1 ?_
      refine c_iadd G dX8_add_158 ?_
      refine c_putI G fp_X8_64 h_a0 rfl dX8_add_159 (fun M10 _ => ?_)
      exact c_vret G hQ dX8_add_162
    · skip
      refine c_icmp_ne (tgt := 77) G dX8_add_70 (by decide) (fun _ => ?_) (fun _ => ?_)
      · skip
        refine c_iconst G (nI 0) dX8_add_73 kI_0 ?_
        refine c_goto (tgt := 86) G dX8_add_74 (by decide) ?_
        exact c_weak _ [1, 2, 3, 0] rfl (hJ86 (nI 0))
      · skip
        refine c_aload_n G dX8_add_77 rfl 1 rfl ?_
        refine c_getF G fl_X8_24 h_a0 rfl dX8_add_78 ?_
        refine c_iload G dX8_add_81 5 rfl ?_
        refine c_iald G (lf h_a0 5 rfl) dX8_add_83 (fun v4 _ => ?_)
        refine c_iconst G (nI 1) dX8_add_84 kI_1 ?_
        refine c_iadd G dX8_add_85 ?_
        exact c_weak _ [1, 2, 3, 0] rfl (hJ86 (v4 + (nI 1)))
set_option maxHeartbeats 4000000 in
set_option maxRecDepth 100000 in
theorem con_X9_readNode {w : Wp} {N : Nat} {a0 : Nat} {a1 : Int32} {a2 : Int32} {a3 : Int32} {M : Mm} {q : Int32 × Mm} (h_a0 : lay a0 = (5, 9)) (hq : D_X9_readNode N a0 a1 a2 a3 M = some q) : Con w 2 yX9_readNode cX9_readNode 7 (some .boolean) [.ref (wB w + pz (a0)), .int a1, .int a2, .int a3] M (encI q) := by
  refine Con.of encI q _ hq (by decide) (Nat.le_of_ble_eq_true rfl) ?_
  intro X G Q hQ
  have G : Good w X cX9_readNode 7 RX9 (some .boolean) 2 := G
  refine c_weak [(0, .ref (wB w + pz (a0))), (1, .int a1), (2, .int a2), (3, .int a3)] [0, 1, 2, 3] rfl ?_
  rw [D_X9_readNode]
  refine c_aload_n G dX9_readNode_0 rfl 0 rfl ?_
  refine c_getR (c' := 7) G fl_X9_9 h_a0 rfl dX9_readNode_1 (fun r1 _ h_r1 => ?_)
  refine c_callV_PI (d := 0) (rest := []) G [] yv_X7_isName ml_X9_77 (by omega) (by decide) rfl rfl (Nat.le_of_ble_eq_true rfl) h_r1 (fun q hq => con_X7_isName h_r1 hq) dX9_readNode_4 (fun q1 _ => ?_)
  refine c_if_ne (tgt := 19) G dX9_readNode_7 (by decide) (fun _ => ?_) (fun _ => ?_)
  · skip
    refine c_aload_n G dX9_readNode_10 rfl 0 rfl ?_
    refine c_getR (c' := 7) G fl_X9_9 h_a0 rfl dX9_readNode_11 (fun r2 _ h_r2 => ?_)
    refine c_iconst G (nI 2) dX9_readNode_14 kI_2 ?_
    refine c_callV_I (d := 0) (rest := []) G [.int (nI 2)] yv_X7_fail ml_X9_49 (by omega) (by decide) rfl rfl (Nat.le_of_ble_eq_true rfl) h_r2 (fun q hq => con_X7_fail h_r2 hq) dX9_readNode_15 (fun q2 _ => ?_)
    exact c_zret G hQ dX9_readNode_18
  · skip
    refine c_aload_n G dX9_readNode_19 rfl 0 rfl ?_
    refine c_getR (c' := 1) G fl_X9_15 h_a0 rfl dX9_readNode_20 (fun r3 _ h_r3 => ?_)
    refine c_aload_n G dX9_readNode_23 rfl 0 rfl ?_
    refine c_getR (c' := 7) G fl_X9_9 h_a0 rfl dX9_readNode_24 (fun r4 _ h_r4 => ?_)
    refine c_getJ G fl_X9_81 h_r4 rfl dX9_readNode_27 ?_
    refine c_callV_PI (d := 0) (rest := []) G [.long (M.2.1 r4 8)] yv_X1_findProduction ml_X9_85 (by omega) (by decide) rfl rfl (Nat.le_of_ble_eq_true rfl) h_r3 (fun q hq => con_X1_findProduction h_r3 hq) dX9_readNode_30 (fun q3 _ => ?_)
    refine c_istore G [(4, .int q3), (0, .ref (wB w + pz (a0))), (1, .int a1), (2, .int a2), (3, .int a3)] dX9_readNode_33 (by decide) rfl ?_
    refine c_iload G dX9_readNode_35 0 rfl ?_
    refine c_iconst G m1 dX9_readNode_37 kI_m1 ?_
    refine c_icmp_ne (tgt := 50) G dX9_readNode_38 (by decide) (fun _ => ?_) (fun _ => ?_)
    · skip
      refine c_aload_n G dX9_readNode_41 rfl 1 rfl ?_
      refine c_getR (c' := 7) G fl_X9_9 h_a0 rfl dX9_readNode_42 (fun r5 _ h_r5 => ?_)
      refine c_iconst G (nI 3) dX9_readNode_45 kI_3 ?_
      refine c_callV_I (d := 0) (rest := []) G [.int (nI 3)] yv_X7_fail ml_X9_49 (by omega) (by decide) rfl rfl (Nat.le_of_ble_eq_true rfl) h_r5 (fun q hq => con_X7_fail h_r5 hq) dX9_readNode_46 (fun q4 _ => ?_)
      exact c_zret G hQ dX9_readNode_49
    · skip
      refine c_iload_n G dX9_readNode_50 rfl 2 rfl ?_
      refine c_iconst G m1 dX9_readNode_51 kI_m1 ?_
      refine c_bj (ej := fun (p76 : Int32) => [(0, .ref (wB w + pz (a0))), (1, .int a1), (2, .int a2), (3, .int a3), (4, .int q3)]) (sj := fun p76 => [.int p76]) (mj := fun p76 => M) (pj := 76) (fun p76 => ?_) (fun F hJ76 => ?_)
      · skip
        refine c_istore G [(5, .int p76), (0, .ref (wB w + pz (a0))), (1, .int a1), (2, .int a2), (3, .int a3), (4, .int q3)] dX9_readNode_76 (by decide) rfl ?_
        refine c_iload G dX9_readNode_78 0 rfl ?_
        refine c_if_ne (tgt := 100) G dX9_readNode_80 (by decide) (fun _ => ?_) (fun _ => ?_)
        · skip
          refine c_aload_n G dX9_readNode_83 rfl 1 rfl ?_
          refine c_getR (c' := 8) G fl_X9_19 h_a0 rfl dX9_readNode_84 (fun r6 _ h_r6 => ?_)
          refine c_getI G fl_X9_27 h_r6 rfl dX9_readNode_87 ?_
          refine c_aload_n G dX9_readNode_90 rfl 1 rfl ?_
          refine c_getI G fl_X9_23 h_a0 rfl dX9_readNode_91 ?_
          refine c_iadd G dX9_readNode_94 ?_
          refine c_bipush G (nI 40) dX9_readNode_95 kB_40 ?_
          refine c_icmp_lt (tgt := 110) G dX9_readNode_97 (by decide) (fun _ => ?_) (fun _ => ?_)
          · skip
            refine c_iload_n G dX9_readNode_110 rfl 4 rfl ?_
            refine c_iconst G m1 dX9_readNode_111 kI_m1 ?_
            refine c_jn (ej := fun (p139 : Unit) => [(0, .ref (wB w + pz (a0))), (1, .int a1), (2, .int a2), (4, .int q3)]) (sj := fun p139 => []) (mj := fun p139 => M) (pj := 139) (fun p139 => ?_) (fun J1 hJ139 => ?_)
            · skip
              refine c_aload_n G dX9_readNode_139 rfl 0 rfl ?_
              refine c_getR (c' := 7) G fl_X9_9 h_a0 rfl dX9_readNode_140 (fun r7 _ h_r7 => ?_)
              refine c_callV_V (d := 0) (rest := []) G [] yv_X7_advance ml_X9_92 (by omega) (by decide) rfl rfl (Nat.le_of_ble_eq_true rfl) h_r7 (fun q hq => con_X7_advance h_r7 hq) dX9_readNode_143 (fun M1 _ => ?_)
              refine c_aload_n G dX9_readNode_146 rfl 0 rfl ?_
              refine c_getR (c' := 7) G fl_X9_9 h_a0 rfl dX9_readNode_147 (fun r8 _ h_r8 => ?_)
              refine c_getI G fl_X9_44 h_r8 rfl dX9_readNode_150 ?_
              refine c_iconst G (nI 2) dX9_readNode_153 kI_2 ?_
              refine c_bj (ej := fun (p162 : Int32) => [(0, .ref (wB w + pz (a0))), (1, .int a1), (2, .int a2), (4, .int q3)]) (sj := fun p162 => [.int p162]) (mj := fun p162 => M1) (pj := 162) (fun p162 => ?_) (fun F hJ162 => ?_)
              · skip
                refine c_istore G [(6, .int p162), (0, .ref (wB w + pz (a0))), (1, .int a1), (2, .int a2), (4, .int q3)] dX9_readNode_162 (by decide) rfl ?_
                refine c_aload_n G dX9_readNode_164 rfl 1 rfl ?_
                refine c_getR (c' := 8) G fl_X9_19 h_a0 rfl dX9_readNode_165 (fun r9 _ h_r9 => ?_)
                refine c_aload_n G dX9_readNode_168 rfl 1 rfl ?_
                refine c_getR (c' := 1) G fl_X9_15 h_a0 rfl dX9_readNode_169 (fun r10 _ h_r10 => ?_)
                refine c_iload G dX9_readNode_172 4 rfl ?_
                refine c_iload G dX9_readNode_174 0 rfl ?_
                refine c_bj (ej := fun (p191 : Int32) => [(0, .ref (wB w + pz (a0))), (1, .int a1), (2, .int a2), (6, .int p162)]) (sj := fun p191 => [.int p191, .int q3, .ref (wB w + pz (r10)), .ref (wB w + pz (r9))]) (mj := fun p191 => M1) (pj := 191) (fun p191 => ?_) (fun F hJ191 => ?_)
                · skip
                  refine c_iload_n G dX9_readNode_191 rfl 1 rfl ?_
                  refine c_iload_n G dX9_readNode_192 rfl 2 rfl ?_
                  refine c_callV_V (d := 1) (rest := []) G [.ref (wB w + pz (r10)), .int q3, .int p191, .int a1, .int a2] yv_X8_add ml_X9_95 (by omega) (by decide) rfl rfl (Nat.le_of_ble_eq_true rfl) h_r9 (fun q hq => con_X8_add h_r9 h_r10 hq) dX9_readNode_193 (fun M2 _ => ?_)
                  refine c_iload G dX9_readNode_196 3 rfl ?_
                  refine c_if_eq (tgt := 208) G dX9_readNode_198 (by decide) (fun _ => ?_) (fun _ => ?_)
                  · skip
                    refine c_iconst G (nI 1) dX9_readNode_208 kI_1 ?_
                    exact c_zret G hQ dX9_readNode_209
                  · skip
                    refine c_aload_n G dX9_readNode_201 rfl 0 rfl ?_
                    refine c_getR (c' := 7) G fl_X9_9 h_a0 rfl dX9_readNode_202 (fun r11 _ h_r11 => ?_)
                    refine c_callV_V (d := 0) (rest := []) G [] yv_X7_advance ml_X9_92 (by omega) (by decide) rfl rfl (Nat.le_of_ble_eq_true rfl) h_r11 (fun q hq => con_X7_advance h_r11 hq) dX9_readNode_205 (fun M3 _ => ?_)
                    refine c_iconst G (nI 1) dX9_readNode_208 kI_1 ?_
                    exact c_zret G hQ dX9_readNode_209
                · skip
                  refine c_if_eq (tgt := 190) G dX9_readNode_176 (by decide) (fun _ => ?_) (fun _ => ?_)
                  · skip
                    refine c_iconst G (nI 0) dX9_readNode_190 kI_0 ?_
                    exact c_weak _ [1, 2, 3, 0] rfl (hJ191 (nI 0))
                  · skip
                    refine c_aload_n G dX9_readNode_179 rfl 1 rfl ?_
                    refine c_getR (c' := 7) G fl_X9_9 h_a0 rfl dX9_readNode_180 (fun r12 _ h_r12 => ?_)
                    refine c_getJ G fl_X9_81 h_r12 rfl dX9_readNode_183 ?_
                    refine c_l2i G dX9_readNode_186 ?_
                    refine c_goto (tgt := 191) G dX9_readNode_187 (by decide) ?_
                    exact c_weak _ [1, 2, 3, 0] rfl (hJ191 (((M1.2.1 r12 8)).toInt32))
              · skip
                refine c_icmp_ne (tgt := 161) G dX9_readNode_154 (by decide) (fun _ => ?_) (fun _ => ?_)
                · skip
                  refine c_iconst G (nI 1) dX9_readNode_157 kI_1 ?_
                  refine c_goto (tgt := 162) G dX9_readNode_158 (by decide) ?_
                  exact c_weak _ [0, 1, 2, 3] rfl (hJ162 (nI 1))
                · skip
                  refine c_iconst G (nI 0) dX9_readNode_161 kI_0 ?_
                  exact c_weak _ [0, 1, 2, 3] rfl (hJ162 (nI 0))
            · skip
              refine c_icmp_eq (tgt := 139) G dX9_readNode_112 (by decide) (fun _ => ?_) (fun _ => ?_)
              · skip
                exact c_weak _ [1, 2, 3, 5] rfl (hJ139 ())
              · skip
                refine c_iload_n G dX9_readNode_115 rfl 4 rfl ?_
                refine c_aload_n G dX9_readNode_116 rfl 1 rfl ?_
                refine c_getR (c' := 1) G fl_X9_15 h_a0 rfl dX9_readNode_117 (fun r13 _ h_r13 => ?_)
                refine c_iload G dX9_readNode_120 5 rfl ?_
                refine c_iconst G (nI 0) dX9_readNode_122 kI_0 ?_
                refine c_callV_PI (d := 0) (rest := [.int a3]) G [.int q3, .int (nI 0)] yv_X1_side ml_X9_72 (by omega) (by decide) rfl rfl (Nat.le_of_ble_eq_true rfl) h_r13 (fun q hq => con_X1_side h_r13 hq) dX9_readNode_123 (fun q5 _ => ?_)
                refine c_icmp_eq (tgt := 139) G dX9_readNode_126 (by decide) (fun _ => ?_) (fun _ => ?_)
                · skip
                  exact c_weak _ [1, 2, 3, 5] rfl (hJ139 ())
                · skip
                  refine c_aload_n G dX9_readNode_129 rfl 1 rfl ?_
                  refine c_getR (c' := 7) G fl_X9_9 h_a0 rfl dX9_readNode_130 (fun r14 _ h_r14 => ?_)
                  refine c_bipush G (nI 7) dX9_readNode_133 kB_7 ?_
                  refine c_callV_I (d := 0) (rest := []) G [.int (nI 7)] yv_X7_fail ml_X9_49 (by omega) (by decide) rfl rfl (Nat.le_of_ble_eq_true rfl) h_r14 (fun q hq => con_X7_fail h_r14 hq) dX9_readNode_135 (fun q6 _ => ?_)
                  exact c_zret G hQ dX9_readNode_138
          · skip
            refine c_aload_n G dX9_readNode_100 rfl 1 rfl ?_
            refine c_getR (c' := 7) G fl_X9_9 h_a0 rfl dX9_readNode_101 (fun r15 _ h_r15 => ?_)
            refine c_bipush G (nI 6) dX9_readNode_104 kB_6 ?_
            refine c_callV_I (d := 0) (rest := []) G [.int (nI 6)] yv_X7_fail ml_X9_49 (by omega) (by decide) rfl rfl (Nat.le_of_ble_eq_true rfl) h_r15 (fun q hq => con_X7_fail h_r15 hq) dX9_readNode_106 (fun q7 _ => ?_)
            exact c_zret G hQ dX9_readNode_109
        · skip
          refine c_aload_n G dX9_readNode_100 rfl 1 rfl ?_
          refine c_getR (c' := 7) G fl_X9_9 h_a0 rfl dX9_readNode_101 (fun r16 _ h_r16 => ?_)
          refine c_bipush G (nI 6) dX9_readNode_104 kB_6 ?_
          refine c_callV_I (d := 0) (rest := []) G [.int (nI 6)] yv_X7_fail ml_X9_49 (by omega) (by decide) rfl rfl (Nat.le_of_ble_eq_true rfl) h_r16 (fun q hq => con_X7_fail h_r16 hq) dX9_readNode_106 (fun q8 _ => ?_)
          exact c_zret G hQ dX9_readNode_109
      · skip
        refine c_jn (ej := fun (p75 : Unit) => [(0, .ref (wB w + pz (a0))), (1, .int a1), (2, .int a2), (3, .int a3), (4, .int q3)]) (sj := fun p75 => []) (mj := fun p75 => M) (pj := 75) (fun p75 => ?_) (fun J2 hJ75 => ?_)
        · skip
          refine c_iconst G (nI 0) dX9_readNode_75 kI_0 ?_
          exact c_weak _ [0, 1, 2, 3, 4] rfl (hJ76 (nI 0))
        · skip
          refine c_icmp_eq (tgt := 75) G dX9_readNode_52 (by decide) (fun _ => ?_) (fun _ => ?_)
          · skip
            exact c_weak _ [1, 2, 3, 4, 0] rfl (hJ75 ())
          · skip
            refine c_aload_n G dX9_readNode_55 rfl 1 rfl ?_
            refine c_getR (c' := 8) G fl_X9_19 h_a0 rfl dX9_readNode_56 (fun r17 _ h_r17 => ?_)
            refine c_getF G fl_X9_89 h_r17 rfl dX9_readNode_59 ?_
            refine c_iload_n G dX9_readNode_62 rfl 2 rfl ?_
            refine c_iald G (lf h_r17 5 rfl) dX9_readNode_63 (fun v1 _ => ?_)
            refine c_iconst G (nI 2) dX9_readNode_64 kI_2 ?_
            refine c_iadd G dX9_readNode_65 ?_
            refine c_bipush G (nI 12) dX9_readNode_66 kB_12 ?_
            refine c_icmp_le (tgt := 75) G dX9_readNode_68 (by decide) (fun _ => ?_) (fun _ => ?_)
            · skip
              exact c_weak _ [1, 2, 3, 4, 0] rfl (hJ75 ())
            · skip
              refine c_iconst G (nI 1) dX9_readNode_71 kI_1 ?_
              refine c_goto (tgt := 76) G dX9_readNode_72 (by decide) ?_
              exact c_weak _ [1, 2, 3, 4, 0] rfl (hJ76 (nI 1))
