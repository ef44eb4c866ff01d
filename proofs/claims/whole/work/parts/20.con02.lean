set_option maxHeartbeats 4000000 in
set_option maxRecDepth 100000 in
theorem con_X9_isLast {w : Wp} {N : Nat} {a0 : Nat} {a1 : Int32} {M : Mm} {q : Int32} (h_a0 : lay a0 = (5, 9)) (hq : D_X9_isLast N a0 a1 M = some q) : Con w 0 yX9_isLast cX9_isLast 2 (some .boolean) [.ref (wB w + pz (a0)), .int a1] M ((encPI M) q) := by
  refine Con.of (encPI M) q _ hq (by decide) (Nat.le_of_ble_eq_true rfl) ?_
  intro X G Q hQ
  have G : Good w X cX9_isLast 2 RX9 (some .boolean) 0 := G
  refine c_weak [(0, .ref (wB w + pz (a0))), (1, .int a1)] [0, 1] rfl ?_
  rw [D_X9_isLast]
  refine c_aload_n G dX9_isLast_0 rfl 0 rfl ?_
  refine c_getR (c' := 8) G fl_X9_19 h_a0 rfl dX9_isLast_1 (fun r1 _ h_r1 => ?_)
  refine c_getF G fl_X9_66 h_r1 rfl dX9_isLast_4 ?_
  refine c_iload_n G dX9_isLast_7 rfl 1 rfl ?_
  refine c_iald G (lf h_r1 4 rfl) dX9_isLast_8 (fun v1 _ => ?_)
  refine c_aload_n G dX9_isLast_9 rfl 0 rfl ?_
  refine c_getR (c' := 8) G fl_X9_19 h_a0 rfl dX9_isLast_10 (fun r2 _ h_r2 => ?_)
  refine c_getF G fl_X9_36 h_r2 rfl dX9_isLast_13 ?_
  refine c_aload_n G dX9_isLast_16 rfl 0 rfl ?_
  refine c_getR (c' := 8) G fl_X9_19 h_a0 rfl dX9_isLast_17 (fun r3 _ h_r3 => ?_)
  refine c_getF G fl_X9_63 h_r3 rfl dX9_isLast_20 ?_
  refine c_iload_n G dX9_isLast_23 rfl 1 rfl ?_
  refine c_iald G (lf h_r3 3 rfl) dX9_isLast_24 (fun v2 _ => ?_)
  refine c_iald G (lf h_r2 10 rfl) dX9_isLast_25 (fun v3 _ => ?_)
  refine c_icmp_ne (tgt := 33) G dX9_isLast_26 (by decide) (fun _ => ?_) (fun _ => ?_)
  · skip
    refine c_iconst G (nI 1) dX9_isLast_29 kI_1 ?_
    refine c_goto (tgt := 34) G dX9_isLast_30 (by decide) ?_
    exact c_zretP G hQ dX9_isLast_34
  · skip
    refine c_iconst G (nI 0) dX9_isLast_33 kI_0 ?_
    exact c_zretP G hQ dX9_isLast_34
set_option maxHeartbeats 4000000 in
set_option maxRecDepth 100000 in
theorem cl_X9_climb_5 {w : Wp} {X : Cx} {Q : State → Prop} {ρ : Int32 × Mm} (G : Good w X cX9_climb 5 RX9 (some .int) 2) (hQ : Q = MQ (xL X) (Qd w (encI ρ)) (xA X) (xS X) (xk X) (xs X) (Aw w)) {a2 : Int32} {N : Nat} {a0 : Nat} (h_a0 : lay a0 = (5, 9)) : ∀ (n : Nat) (l3_1 : Int32) (l4_1 : Int32) (M1 : Mm), Cov w X Q ρ some 5 5 [(0, .ref (wB w + pz (a0))), (2, .int a2), (3, .int l3_1), (4, .int l4_1)] [] M1 (L_X9_climb_5 a2 N a0 n l3_1 l4_1 M1) := by
  intro n
  induction n with
  | zero => intro l3_1 l4_1 M1; exact c_none
  | succ n ih =>
    intro l3_1 l4_1 M1
    rw [L_X9_climb_5]
    refine c_iload G dX9_climb_5 3 rfl ?_
    refine c_bipush G (nI 12) dX9_climb_7 kB_12 ?_
    refine c_icmp_gt (tgt := 55) G dX9_climb_9 (by decide) (fun _ => ?_) (fun _ => ?_)
    · skip
      refine c_iload_n G dX9_climb_55 rfl 2 rfl ?_
      exact c_iret G hQ dX9_climb_56
    · skip
      refine c_iload_n G dX9_climb_12 rfl 2 rfl ?_
      refine c_iload_n G dX9_climb_13 rfl 1 rfl ?_
      refine c_icmp_eq (tgt := 55) G dX9_climb_14 (by decide) (fun _ => ?_) (fun _ => ?_)
      · skip
        refine c_iload_n G dX9_climb_55 rfl 2 rfl ?_
        exact c_iret G hQ dX9_climb_56
      · skip
        refine c_aload_n G dX9_climb_17 rfl 0 rfl ?_
        refine c_iload_n G dX9_climb_18 rfl 2 rfl ?_
        refine c_callV_PI (d := 0) (rest := []) G [.int l3_1] yv_X9_isLast ml_X9_99 (by omega) (by decide) rfl rfl (Nat.le_of_ble_eq_true rfl) h_a0 (fun q hq => con_X9_isLast h_a0 hq) dX9_climb_19 (fun q1 _ => ?_)
        refine c_if_eq (tgt := 55) G dX9_climb_22 (by decide) (fun _ => ?_) (fun _ => ?_)
        · skip
          refine c_iload_n G dX9_climb_55 rfl 2 rfl ?_
          exact c_iret G hQ dX9_climb_56
        · skip
          refine c_aload_n G dX9_climb_25 rfl 0 rfl ?_
          refine c_getR (c' := 7) G fl_X9_9 h_a0 rfl dX9_climb_26 (fun r1 _ h_r1 => ?_)
          refine c_bipush G (nI 41) dX9_climb_29 kB_41 ?_
          refine c_callV_I (d := 1) (rest := []) G [.int (nI 41)] yv_X7_takeSign ml_X9_53 (by omega) (by decide) rfl rfl (Nat.le_of_ble_eq_true rfl) h_r1 (fun q hq => con_X7_takeSign h_r1 hq) dX9_climb_31 (fun q2 _ => ?_)
          refine c_if_ne (tgt := 39) G dX9_climb_34 (by decide) (fun _ => ?_) (fun _ => ?_)
          · skip
            refine c_iconst G m1 dX9_climb_37 kI_m1 ?_
            exact c_iret G hQ dX9_climb_38
          · skip
            refine c_aload_n G dX9_climb_39 rfl 0 rfl ?_
            refine c_getR (c' := 8) G fl_X9_19 h_a0 rfl dX9_climb_40 (fun r2 _ h_r2 => ?_)
            refine c_getF G fl_X9_63 h_r2 rfl dX9_climb_43 ?_
            refine c_iload_n G dX9_climb_46 rfl 2 rfl ?_
            refine c_iald G (lf h_r2 3 rfl) dX9_climb_47 (fun v1 _ => ?_)
            refine c_istore_n G [(3, .int v1), (0, .ref (wB w + pz (a0))), (2, .int a2), (4, .int l4_1)] dX9_climb_48 rfl (by decide) rfl ?_
            refine c_iinc G (fun y__ => [(4, .int y__), (3, .int v1), (0, .ref (wB w + pz (a0))), (2, .int a2)]) dX9_climb_49 3 rfl kI_1 (by decide) (fun _ => rfl) (fun l4_2 _ => ?_)
            refine c_goto (tgt := 5) G dX9_climb_52 (by decide) ?_
            exact c_weak _ [2, 3, 1, 0] rfl (ih v1 l4_2 q2.2)
set_option maxHeartbeats 4000000 in
set_option maxRecDepth 100000 in
theorem con_X9_climb {w : Wp} {N : Nat} {a0 : Nat} {a1 : Int32} {a2 : Int32} {M : Mm} {q : Int32 × Mm} (h_a0 : lay a0 = (5, 9)) (hq : D_X9_climb N a0 a1 a2 M = some q) : Con w 2 yX9_climb cX9_climb 5 (some .int) [.ref (wB w + pz (a0)), .int a1, .int a2] M (encI q) := by
  refine Con.of encI q _ hq (by decide) (Nat.le_of_ble_eq_true rfl) ?_
  intro X G Q hQ
  have G : Good w X cX9_climb 5 RX9 (some .int) 2 := G
  refine c_weak [(0, .ref (wB w + pz (a0))), (1, .int a1), (2, .int a2)] [0, 1, 2] rfl ?_
  rw [D_X9_climb]
  refine c_iload_n G dX9_climb_0 rfl 1 rfl ?_
  refine c_istore_n G [(3, .int a1), (0, .ref (wB w + pz (a0))), (1, .int a1), (2, .int a2)] dX9_climb_1 rfl (by decide) rfl ?_
  refine c_iconst G (nI 0) dX9_climb_2 kI_0 ?_
  refine c_istore G [(4, .int (nI 0)), (3, .int a1), (0, .ref (wB w + pz (a0))), (1, .int a1), (2, .int a2)] dX9_climb_3 (by decide) rfl ?_
  refine c_weak _ [2, 4, 1, 0] rfl (cl_X9_climb_5 G hQ  h_a0 N a1 (nI 0) M)
set_option maxHeartbeats 4000000 in
set_option maxRecDepth 100000 in
theorem con_X9_readChild {w : Wp} {N : Nat} {a0 : Nat} {a1 : Int32} {a2 : Int32} {M : Mm} {q : Int32 × Mm} (h_a0 : lay a0 = (5, 9)) (hq : D_X9_readChild N a0 a1 a2 M = some q) : Con w 3 yX9_readChild cX9_readChild 3 (some .boolean) [.ref (wB w + pz (a0)), .int a1, .int a2] M (encI q) := by
  refine Con.of encI q _ hq (by decide) (Nat.le_of_ble_eq_true rfl) ?_
  intro X G Q hQ
  have G : Good w X cX9_readChild 3 RX9 (some .boolean) 3 := G
  refine c_weak [(0, .ref (wB w + pz (a0))), (1, .int a1), (2, .int a2)] [0, 1, 2] rfl ?_
  rw [D_X9_readChild]
  refine c_aload_n G dX9_readChild_0 rfl 0 rfl ?_
  refine c_iload_n G dX9_readChild_1 rfl 1 rfl ?_
  refine c_iload_n G dX9_readChild_2 rfl 2 rfl ?_
  refine c_aload_n G dX9_readChild_3 rfl 0 rfl ?_
  refine c_getR (c' := 1) G fl_X9_15 h_a0 rfl dX9_readChild_4 (fun r1 _ h_r1 => ?_)
  refine c_aload_n G dX9_readChild_7 rfl 0 rfl ?_
  refine c_getR (c' := 8) G fl_X9_19 h_a0 rfl dX9_readChild_8 (fun r2 _ h_r2 => ?_)
  refine c_getF G fl_X9_69 h_r2 rfl dX9_readChild_11 ?_
  refine c_iload_n G dX9_readChild_14 rfl 1 rfl ?_
  refine c_iald G (lf h_r2 1 rfl) dX9_readChild_15 (fun v1 _ => ?_)
  refine c_iload_n G dX9_readChild_16 rfl 2 rfl ?_
  refine c_callV_PI (d := 0) (rest := [.int a2, .int a1, .ref (wB w + pz (a0))]) G [.int v1, .int a2] yv_X1_side ml_X9_72 (by omega) (by decide) rfl rfl (Nat.le_of_ble_eq_true rfl) h_r1 (fun q hq => con_X1_side h_r1 hq) dX9_readChild_17 (fun q1 _ => ?_)
  refine c_callV_I (d := 2) (rest := []) G [.int a1, .int a2, .int q1] yv_X9_readNode ml_X9_32 (by omega) (by decide) rfl rfl (Nat.le_of_ble_eq_true rfl) h_a0 (fun q hq => con_X9_readNode h_a0 hq) dX9_readChild_20 (fun q2 _ => ?_)
  exact c_zret G hQ dX9_readChild_23
set_option maxHeartbeats 4000000 in
set_option maxRecDepth 100000 in
theorem con_X9_readNext {w : Wp} {N : Nat} {a0 : Nat} {a1 : Int32} {M : Mm} {q : Int32 × Mm} (h_a0 : lay a0 = (5, 9)) (hq : D_X9_readNext N a0 a1 M = some q) : Con w 4 yX9_readNext cX9_readNext 2 (some .boolean) [.ref (wB w + pz (a0)), .int a1] M (encI q) := by
  refine Con.of encI q _ hq (by decide) (Nat.le_of_ble_eq_true rfl) ?_
  intro X G Q hQ
  have G : Good w X cX9_readNext 2 RX9 (some .boolean) 4 := G
  refine c_weak [(0, .ref (wB w + pz (a0))), (1, .int a1)] [0, 1] rfl ?_
  rw [D_X9_readNext]
  refine c_aload_n G dX9_readNext_0 rfl 0 rfl ?_
  refine c_aload_n G dX9_readNext_1 rfl 0 rfl ?_
  refine c_getR (c' := 8) G fl_X9_19 h_a0 rfl dX9_readNext_2 (fun r1 _ h_r1 => ?_)
  refine c_getF G fl_X9_63 h_r1 rfl dX9_readNext_5 ?_
  refine c_iload_n G dX9_readNext_8 rfl 1 rfl ?_
  refine c_iald G (lf h_r1 3 rfl) dX9_readNext_9 (fun v1 _ => ?_)
  refine c_aload_n G dX9_readNext_10 rfl 0 rfl ?_
  refine c_getR (c' := 8) G fl_X9_19 h_a0 rfl dX9_readNext_11 (fun r2 _ h_r2 => ?_)
  refine c_getF G fl_X9_66 h_r2 rfl dX9_readNext_14 ?_
  refine c_iload_n G dX9_readNext_17 rfl 1 rfl ?_
  refine c_iald G (lf h_r2 4 rfl) dX9_readNext_18 (fun v2 _ => ?_)
  refine c_iconst G (nI 1) dX9_readNext_19 kI_1 ?_
  refine c_iadd G dX9_readNext_20 ?_
  refine c_callV_I (d := 3) (rest := []) G [.int v1, .int (v2 + (nI 1))] yv_X9_readChild ml_X9_56 (by omega) (by decide) rfl rfl (Nat.le_of_ble_eq_true rfl) h_a0 (fun q hq => con_X9_readChild h_a0 hq) dX9_readNext_21 (fun q1 _ => ?_)
  exact c_zret G hQ dX9_readNext_24
set_option maxHeartbeats 4000000 in
set_option maxRecDepth 100000 in
theorem cl_X9_read_49 {w : Wp} {X : Cx} {Q : State → Prop} {ρ : Int32 × Mm} (G : Good w X cX9_read 13 RX9 (some .boolean) 5) (hQ : Q = MQ (xL X) (Qd w (encI ρ)) (xA X) (xS X) (xk X) (xs X) (Aw w)) (kE113 : Mm → Option (Int32 × Mm)) {a0 : Nat} {N : Nat} {l8_1 : Int32} (h_a0 : lay a0 = (5, 9)) (hE113 : ∀ (Mz : Mm), Cov w X Q ρ some 13 113 [(0, .ref (wB w + pz (a0)))] [] Mz (kE113 Mz)) : ∀ (n : Nat) (l9_1 : Int32) (l10_1 : Int32) (l11_1 : Int32) (M5 : Mm), Cov w X Q ρ some 13 49 [(0, .ref (wB w + pz (a0))), (8, .int l8_1), (9, .int l9_1), (10, .int l10_1), (11, .int l11_1)] [] M5 (L_X9_read_49 kE113 a0 N l8_1 n l9_1 l10_1 l11_1 M5) := by
  intro n
  induction n with
  | zero => intro l9_1 l10_1 l11_1 M5; exact c_none
  | succ n ih =>
    intro l9_1 l10_1 l11_1 M5
    rw [L_X9_read_49]
    refine c_iload G dX9_read_49 4 rfl ?_
    refine c_bipush G (nI 40) dX9_read_51 kB_40 ?_
    refine c_icmp_gt (tgt := 219) G dX9_read_53 (by decide) (fun _ => ?_) (fun _ => ?_)
    · skip
      refine c_iconst G (nI 0) dX9_read_219 kI_0 ?_
      exact c_zret G hQ dX9_read_220
    · skip
      refine c_iload G dX9_read_56 2 rfl ?_
      refine c_if_eq (tgt := 219) G dX9_read_58 (by decide) (fun _ => ?_) (fun _ => ?_)
      · skip
        refine c_iconst G (nI 0) dX9_read_219 kI_0 ?_
        exact c_zret G hQ dX9_read_220
      · skip
        refine c_aload_n G dX9_read_61 rfl 0 rfl ?_
        refine c_getR (c' := 8) G fl_X9_19 h_a0 rfl dX9_read_62 (fun r2 _ h_r2 => ?_)
        refine c_getF G fl_X9_36 h_r2 rfl dX9_read_65 ?_
        refine c_iload G dX9_read_68 3 rfl ?_
        refine c_iald G (lf h_r2 10 rfl) dX9_read_70 (fun v1 _ => ?_)
        refine c_bj (ej := fun (p79 : Int32) => [(0, .ref (wB w + pz (a0))), (8, .int l8_1), (10, .int l10_1), (11, .int l11_1)]) (sj := fun p79 => [.int p79]) (mj := fun p79 => M5) (pj := 79) (fun p79 => ?_) (fun F hJ79 => ?_)
        · skip
          refine c_istore G [(12, .int p79), (0, .ref (wB w + pz (a0))), (8, .int l8_1), (10, .int l10_1), (11, .int l11_1)] dX9_read_79 (by decide) rfl ?_
          refine c_iload G dX9_read_81 0 rfl ?_
          refine c_bj (ej := fun (p99 : Int32 × Mm) => [(0, .ref (wB w + pz (a0))), (8, .int l8_1), (11, .int l11_1), (12, .int p79)]) (sj := fun p99 => [.int p99.1]) (mj := fun p99 => p99.2) (pj := 99) (fun p99 => ?_) (fun F hJ99 => ?_)
          · skip
            refine c_istore G [(10, .int p99.1), (0, .ref (wB w + pz (a0))), (8, .int l8_1), (11, .int l11_1), (12, .int p79)] dX9_read_99 (by decide) rfl ?_
            refine c_iload G dX9_read_101 0 rfl ?_
            refine c_iload G dX9_read_103 2 rfl ?_
            refine c_jn (ej := fun (p140 : Unit) => [(0, .ref (wB w + pz (a0))), (8, .int l8_1), (10, .int p99.1), (11, .int l11_1), (12, .int p79)]) (sj := fun p140 => []) (mj := fun p140 => p99.2) (pj := 140) (fun p140 => ?_) (fun J2 hJ140 => ?_)
            · skip
              refine c_iload G dX9_read_140 2 rfl ?_
              refine c_iconst G m1 dX9_read_142 kI_m1 ?_
              refine c_bj (ej := fun (p200 : Int32 × Mm) => [(0, .ref (wB w + pz (a0))), (8, .int l8_1), (11, .int l11_1)]) (sj := fun p200 => [.int p200.1]) (mj := fun p200 => p200.2) (pj := 200) (fun p200 => ?_) (fun F hJ200 => ?_)
              · skip
                refine c_istore G [(9, .int p200.1), (0, .ref (wB w + pz (a0))), (8, .int l8_1), (11, .int l11_1)] dX9_read_200 (by decide) rfl ?_
                refine c_aload_n G dX9_read_202 rfl 1 rfl ?_
                refine c_getR (c' := 8) G fl_X9_19 h_a0 rfl dX9_read_203 (fun r3 _ h_r3 => ?_)
                refine c_getI G fl_X9_27 h_r3 rfl dX9_read_206 ?_
                refine c_iconst G (nI 1) dX9_read_209 kI_1 ?_
                refine c_isub G dX9_read_210 ?_
                refine c_let (fun l10_2 _ => ?_)
                refine c_istore G [(10, .int l10_2), (9, .int p200.1), (0, .ref (wB w + pz (a0))), (8, .int l8_1), (11, .int l11_1)] dX9_read_211 (by decide) rfl ?_
                refine c_iinc G (fun y__ => [(11, .int y__), (10, .int l10_2), (9, .int p200.1), (0, .ref (wB w + pz (a0))), (8, .int l8_1)]) dX9_read_213 4 rfl kI_1 (by decide) (fun _ => rfl) (fun l11_2 _ => ?_)
                refine c_goto (tgt := 49) G dX9_read_216 (by decide) ?_
                exact c_weak _ [3, 4, 2, 1, 0] rfl (ih p200.1 l10_2 l11_2 p200.2)
              · skip
                refine c_jn (ej := fun (p199 : Mm) => [(0, .ref (wB w + pz (a0))), (8, .int l8_1), (11, .int l11_1)]) (sj := fun p199 => []) (mj := fun p199 => p199) (pj := 199) (fun p199 => ?_) (fun J1 hJ199 => ?_)
                · skip
                  refine c_iconst G (nI 0) dX9_read_199 kI_0 ?_
                  exact c_weak _ [0, 1, 2] rfl (hJ200 ((nI 0), p199))
                · skip
                  refine c_icmp_eq (tgt := 199) G dX9_read_143 (by decide) (fun _ => ?_) (fun _ => ?_)
                  · skip
                    exact c_weak _ [0, 1, 3] rfl (hJ199 p99.2)
                  · skip
                    refine c_aload_n G dX9_read_146 rfl 0 rfl ?_
                    refine c_getR (c' := 7) G fl_X9_9 h_a0 rfl dX9_read_147 (fun r4 _ h_r4 => ?_)
                    refine c_iload G dX9_read_150 4 rfl ?_
                    refine c_bj (ej := fun (p162 : Int32) => [(0, .ref (wB w + pz (a0))), (8, .int l8_1), (10, .int p99.1), (11, .int l11_1), (12, .int p79)]) (sj := fun p162 => [.int p162, .ref (wB w + pz (r4))]) (mj := fun p162 => p99.2) (pj := 162) (fun p162 => ?_) (fun F hJ162 => ?_)
                    · skip
                      refine c_callV_I (d := 1) (rest := []) G [.int p162] yv_X7_takeSign ml_X9_53 (by omega) (by decide) rfl rfl (Nat.le_of_ble_eq_true rfl) h_r4 (fun q hq => con_X7_takeSign h_r4 hq) dX9_read_162 (fun q2 _ => ?_)
                      refine c_if_eq (tgt := 199) G dX9_read_165 (by decide) (fun _ => ?_) (fun _ => ?_)
                      · skip
                        exact c_weak _ [0, 1, 3] rfl (hJ199 q2.2)
                      · skip
                        refine c_iload G dX9_read_168 4 rfl ?_
                        refine c_if_eq (tgt := 186) G dX9_read_170 (by decide) (fun _ => ?_) (fun _ => ?_)
                        · skip
                          refine c_aload_n G dX9_read_186 rfl 0 rfl ?_
                          refine c_iload G dX9_read_187 2 rfl ?_
                          refine c_callV_I (d := 4) (rest := []) G [.int p99.1] yv_X9_readNext ml_X9_60 (by omega) (by decide) rfl rfl (Nat.le_of_ble_eq_true rfl) h_a0 (fun q hq => con_X9_readNext h_a0 hq) dX9_read_189 (fun q3 _ => ?_)
                          refine c_if_eq (tgt := 199) G dX9_read_192 (by decide) (fun _ => ?_) (fun _ => ?_)
                          · skip
                            exact c_weak _ [0, 1, 3] rfl (hJ199 q3.2)
                          · skip
                            refine c_iconst G (nI 1) dX9_read_195 kI_1 ?_
                            refine c_goto (tgt := 200) G dX9_read_196 (by decide) ?_
                            exact c_weak _ [0, 1, 3] rfl (hJ200 ((nI 1), q3.2))
                        · skip
                          refine c_aload_n G dX9_read_173 rfl 0 rfl ?_
                          refine c_iload G dX9_read_174 2 rfl ?_
                          refine c_iconst G (nI 1) dX9_read_176 kI_1 ?_
                          refine c_callV_I (d := 3) (rest := []) G [.int p99.1, .int (nI 1)] yv_X9_readChild ml_X9_56 (by omega) (by decide) rfl rfl (Nat.le_of_ble_eq_true rfl) h_a0 (fun q hq => con_X9_readChild h_a0 hq) dX9_read_177 (fun q4 _ => ?_)
                          refine c_if_eq (tgt := 199) G dX9_read_180 (by decide) (fun _ => ?_) (fun _ => ?_)
                          · skip
                            exact c_weak _ [0, 1, 3] rfl (hJ199 q4.2)
                          · skip
                            refine c_goto (tgt := 195) G dX9_read_183 (by decide) ?_
                            refine c_iconst G (nI 1) dX9_read_195 kI_1 ?_
                            refine c_goto (tgt := 200) G dX9_read_196 (by decide) ?_
                            exact c_weak _ [0, 1, 3] rfl (hJ200 ((nI 1), q4.2))
                    · skip
                      refine c_if_eq (tgt := 160) G dX9_read_152 (by decide) (fun _ => ?_) (fun _ => ?_)
                      · skip
                        refine c_bipush G (nI 44) dX9_read_160 kB_44 ?_
                        exact c_weak _ [0, 1, 2, 3, 4] rfl (hJ162 (nI 44))
                      · skip
                        refine c_bipush G (nI 40) dX9_read_155 kB_40 ?_
                        refine c_goto (tgt := 162) G dX9_read_157 (by decide) ?_
                        exact c_weak _ [0, 1, 2, 3, 4] rfl (hJ162 (nI 40))
            · skip
              refine c_icmp_ne (tgt := 140) G dX9_read_105 (by decide) (fun _ => ?_) (fun _ => ?_)
              · skip
                refine c_iload G dX9_read_108 4 rfl ?_
                refine c_if_ne (tgt := 140) G dX9_read_110 (by decide) (fun _ => ?_) (fun _ => ?_)
                · skip
                  exact c_weak _ [1] rfl (hE113 p99.2)
                · skip
                  exact c_weak _ [1, 2, 0, 3, 4] rfl (hJ140 ())
              · skip
                exact c_weak _ [1, 2, 0, 3, 4] rfl (hJ140 ())
          · skip
            refine c_if_eq (tgt := 91) G dX9_read_83 (by decide) (fun _ => ?_) (fun _ => ?_)
            · skip
              refine c_aload_n G dX9_read_91 rfl 1 rfl ?_
              refine c_iload G dX9_read_92 3 rfl ?_
              refine c_iload G dX9_read_94 2 rfl ?_
              refine c_callV_I (d := 2) (rest := []) G [.int l10_1, .int l8_1] yv_X9_climb ml_X9_40 (by omega) (by decide) rfl rfl (Nat.le_of_ble_eq_true rfl) h_a0 (fun q hq => con_X9_climb h_a0 hq) dX9_read_96 (fun q5 _ => ?_)
              exact c_weak _ [1, 2, 4, 0] rfl (hJ99 (q5.1, q5.2))
            · skip
              refine c_iload G dX9_read_86 3 rfl ?_
              refine c_goto (tgt := 99) G dX9_read_88 (by decide) ?_
              exact c_weak _ [1, 2, 4, 0] rfl (hJ99 (l10_1, M5))
        · skip
          refine c_if_le (tgt := 78) G dX9_read_71 (by decide) (fun _ => ?_) (fun _ => ?_)
          · skip
            refine c_iconst G (nI 0) dX9_read_78 kI_0 ?_
            exact c_weak _ [0, 1, 3, 4] rfl (hJ79 (nI 0))
          · skip
            refine c_iconst G (nI 1) dX9_read_74 kI_1 ?_
            refine c_goto (tgt := 79) G dX9_read_75 (by decide) ?_
            exact c_weak _ [0, 1, 3, 4] rfl (hJ79 (nI 1))
set_option maxHeartbeats 4000000 in
set_option maxRecDepth 100000 in
theorem con_X9_read {w : Wp} {N : Nat} {a0 : Nat} {a1 : Nat} {a2 : Nat} {a3 : Nat} {a4 : Int32} {a5 : Int32} {a6 : Int32} {a7 : Int32} {M : Mm} {q : Int32 × Mm} (h_a0 : lay a0 = (5, 9)) (h_a1 : lay a1 = (5, 7)) (h_a2 : lay a2 = (5, 1)) (h_a3 : lay a3 = (5, 8)) (hq : D_X9_read N a0 a1 a2 a3 a4 a5 a6 a7 M = some q) : Con w 5 yX9_read cX9_read 13 (some .boolean) [.ref (wB w + pz (a0)), .ref (wB w + pz (a1)), .ref (wB w + pz (a2)), .ref (wB w + pz (a3)), .int a4, .int a5, .int a6, .int a7] M (encI q) := by
  refine Con.of encI q _ hq (by decide) (Nat.le_of_ble_eq_true rfl) ?_
  intro X G Q hQ
  have G : Good w X cX9_read 13 RX9 (some .boolean) 5 := G
  refine c_weak [(0, .ref (wB w + pz (a0))), (1, .ref (wB w + pz (a1))), (2, .ref (wB w + pz (a2))), (3, .ref (wB w + pz (a3))), (4, .int a4), (5, .int a5), (6, .int a6), (7, .int a7)] [0, 1, 2, 3, 4, 5, 6, 7] rfl ?_
  rw [D_X9_read]
  refine c_aload_n G dX9_read_0 rfl 0 rfl ?_
  refine c_aload_n G dX9_read_1 rfl 1 rfl ?_
  refine c_putN G fp_X9_9 (Or.inl ⟨_, rfl⟩) h_a0 h_a1 (by decide) rfl dX9_read_2 (fun M1 _ => ?_)
  refine c_aload_n G dX9_read_5 rfl 0 rfl ?_
  refine c_aload_n G dX9_read_6 rfl 2 rfl ?_
  refine c_putN G fp_X9_15 (Or.inl ⟨_, rfl⟩) h_a0 h_a2 (by decide) rfl dX9_read_7 (fun M2 _ => ?_)
  refine c_aload_n G dX9_read_10 rfl 0 rfl ?_
  refine c_aload_n G dX9_read_11 rfl 3 rfl ?_
  refine c_putN G fp_X9_19 (Or.inl ⟨_, rfl⟩) h_a0 h_a3 (by decide) rfl dX9_read_12 (fun M3 _ => ?_)
  refine c_aload_n G dX9_read_15 rfl 0 rfl ?_
  refine c_iload G dX9_read_16 7 rfl ?_
  refine c_putI G fp_X9_23 h_a0 rfl dX9_read_18 (fun M4 _ => ?_)
  refine c_aload_n G dX9_read_21 rfl 0 rfl ?_
  refine c_getR (c' := 8) G fl_X9_19 h_a0 rfl dX9_read_22 (fun r1 _ h_r1 => ?_)
  refine c_getI G fl_X9_27 h_r1 rfl dX9_read_25 ?_
  refine c_let (fun l8_1 _ => ?_)
  refine c_istore G [(8, .int l8_1), (0, .ref (wB w + pz (a0))), (1, .ref (wB w + pz (a1))), (2, .ref (wB w + pz (a2))), (3, .ref (wB w + pz (a3))), (4, .int a4), (5, .int a5), (6, .int a6), (7, .int a7)] dX9_read_28 (by decide) rfl ?_
  refine c_aload_n G dX9_read_30 rfl 1 rfl ?_
  refine c_iload G dX9_read_31 5 rfl ?_
  refine c_iload G dX9_read_33 6 rfl ?_
  refine c_iload G dX9_read_35 7 rfl ?_
  refine c_callV_I (d := 2) (rest := []) G [.int a4, .int a5, .int a6] yv_X9_readNode ml_X9_32 (by omega) (by decide) rfl rfl (Nat.le_of_ble_eq_true rfl) h_a0 (fun q hq => con_X9_readNode h_a0 hq) dX9_read_37 (fun q1 _ => ?_)
  refine c_istore G [(9, .int q1.1), (8, .int l8_1), (0, .ref (wB w + pz (a0))), (1, .ref (wB w + pz (a1))), (2, .ref (wB w + pz (a2))), (3, .ref (wB w + pz (a3))), (4, .int a4), (5, .int a5), (6, .int a6), (7, .int a7)] dX9_read_40 (by decide) rfl ?_
  refine c_iload G dX9_read_42 1 rfl ?_
  refine c_istore G [(10, .int l8_1), (9, .int q1.1), (8, .int l8_1), (0, .ref (wB w + pz (a0))), (1, .ref (wB w + pz (a1))), (2, .ref (wB w + pz (a2))), (3, .ref (wB w + pz (a3))), (4, .int a4), (5, .int a5), (6, .int a6), (7, .int a7)] dX9_read_44 (by decide) rfl ?_
  refine c_iconst G (nI 0) dX9_read_46 kI_0 ?_
  refine c_istore G [(11, .int (nI 0)), (10, .int l8_1), (9, .int q1.1), (8, .int l8_1), (0, .ref (wB w + pz (a0))), (1, .ref (wB w + pz (a1))), (2, .ref (wB w + pz (a2))), (3, .ref (wB w + pz (a3))), (4, .int a4), (5, .int a5), (6, .int a6), (7, .int a7)] dX9_read_47 (by decide) rfl ?_
  refine c_weak _ [4, 3, 2, 1, 0] rfl (cl_X9_read_49 G hQ _ h_a0 ?_ N q1.1 l8_1 (nI 0) q1.2)
  · intro M9
    refine c_aload_n G dX9_read_113 rfl 0 rfl ?_
    refine c_getR (c' := 7) G fl_X9_9 h_a0 rfl dX9_read_114 (fun r5 _ h_r5 => ?_)
    refine c_getI G fl_X9_44 h_r5 rfl dX9_read_117 ?_
    refine c_jn (ej := fun (p134 : Mm) => []) (sj := fun p134 => []) (mj := fun p134 => p134) (pj := 134) (fun p134 => ?_) (fun J3 hJ134 => ?_)
    · skip
      refine c_iconst G (nI 1) dX9_read_134 kI_1 ?_
      refine c_goto (tgt := 139) G dX9_read_135 (by decide) ?_
      exact c_zret G hQ dX9_read_139
    · skip
      refine c_if_eq (tgt := 134) G dX9_read_120 (by decide) (fun _ => ?_) (fun _ => ?_)
      · skip
        exact c_weak _ [] rfl (hJ134 M9)
      · skip
        refine c_aload_n G dX9_read_123 rfl 0 rfl ?_
        refine c_getR (c' := 7) G fl_X9_9 h_a0 rfl dX9_read_124 (fun r6 _ h_r6 => ?_)
        refine c_iconst G (nI 2) dX9_read_127 kI_2 ?_
        refine c_callV_I (d := 0) (rest := []) G [.int (nI 2)] yv_X7_fail ml_X9_49 (by omega) (by decide) rfl rfl (Nat.le_of_ble_eq_true rfl) h_r6 (fun q hq => con_X7_fail h_r6 hq) dX9_read_128 (fun q6 _ => ?_)
        refine c_if_eq (tgt := 138) G dX9_read_131 (by decide) (fun _ => ?_) (fun _ => ?_)
        · skip
          refine c_iconst G (nI 0) dX9_read_138 kI_0 ?_
          exact c_zret G hQ dX9_read_139
        · skip
          exact c_weak _ [] rfl (hJ134 q6.2)
set_option maxHeartbeats 4000000 in
set_option maxRecDepth 100000 in
theorem cl_X8_linkInstances_2 {w : Wp} {X : Cx} {Q : State → Prop} {ρ : Mm} (G : Good w X cX8_linkInstances 6 RX8 none 0) (hQ : Q = MQ (xL X) (Qd w (encV ρ)) (xA X) (xS X) (xk X) (xs X) (Aw w)) {a2 : Int32} {a0 : Nat} {a1 : Nat} (h_a0 : lay a0 = (5, 8)) (h_a1 : lay a1 = (5, 1)) : ∀ (n : Nat) (l3_1 : Int32) (M1 : Mm), Cov w X Q ρ some 6 2 [(0, .ref (wB w + pz (a0))), (1, .ref (wB w + pz (a1))), (2, .int a2), (3, .int l3_1)] [] M1 (L_X8_linkInstances_2 a2 a0 a1 n l3_1 M1) := by
  intro n
  induction n with
  | zero => intro l3_1 M1; exact c_none
  | succ n ih =>
    intro l3_1 M1
    rw [L_X8_linkInstances_2]
    refine c_iload_n G dX8_linkInstances_2 rfl 3 rfl ?_
    refine c_bipush G (nI 8) dX8_linkInstances_3 kB_8 ?_
    refine c_icmp_ge (tgt := 138) G dX8_linkInstances_5 (by decide) (fun _ => ?_) (fun _ => ?_)
    · skip
      exact c_vret G hQ dX8_linkInstances_138
    · skip
      refine c_bipush G (nI 8) dX8_linkInstances_8 kB_8 ?_
      refine c_iload_n G dX8_linkInstances_10 rfl 2 rfl ?_
      refine c_imul G dX8_linkInstances_11 ?_
      refine c_iload_n G dX8_linkInstances_12 rfl 3 rfl ?_
      refine c_iadd G dX8_linkInstances_13 ?_
      refine c_let (fun l4_1 _ => ?_)
      refine c_istore G [(4, .int l4_1), (0, .ref (wB w + pz (a0))), (1, .ref (wB w + pz (a1))), (2, .int a2), (3, .int l3_1)] dX8_linkInstances_14 (by decide) rfl ?_
      refine c_iload_n G dX8_linkInstances_16 rfl 4 rfl ?_
      refine c_aload_n G dX8_linkInstances_17 rfl 1 rfl ?_
      refine c_getF G fl_X8_33 h_a0 rfl dX8_linkInstances_18 ?_
      refine c_iload_n G dX8_linkInstances_21 rfl 3 rfl ?_
      refine c_iald G (lf h_a0 8 rfl) dX8_linkInstances_22 (fun v1 _ => ?_)
      refine c_bj (ej := fun (p31 : Int32) => [(0, .ref (wB w + pz (a0))), (1, .ref (wB w + pz (a1))), (2, .int a2), (3, .int l3_1), (4, .int l4_1)]) (sj := fun p31 => [.int p31]) (mj := fun p31 => M1) (pj := 31) (fun p31 => ?_) (fun F hJ31 => ?_)
      · skip
        refine c_istore G [(5, .int p31), (0, .ref (wB w + pz (a0))), (1, .ref (wB w + pz (a1))), (2, .int a2), (3, .int l3_1), (4, .int l4_1)] dX8_linkInstances_31 (by decide) rfl ?_
        refine c_aload_n G dX8_linkInstances_33 rfl 1 rfl ?_
        refine c_getF G fl_X8_48 h_a0 rfl dX8_linkInstances_34 ?_
        refine c_iload G dX8_linkInstances_37 5 rfl ?_
        refine c_iload G dX8_linkInstances_39 0 rfl ?_
        refine c_bj (ej := fun (p54 : Int32) => [(0, .ref (wB w + pz (a0))), (1, .ref (wB w + pz (a1))), (2, .int a2), (3, .int l3_1), (4, .int l4_1), (5, .int p31)]) (sj := fun p54 => [.int p54, .int l4_1, .ref (wB w + pz ((a0 + 13)))]) (mj := fun p54 => M1) (pj := 54) (fun p54 => ?_) (fun F hJ54 => ?_)
        · skip
          refine c_iast G (lf h_a0 13 rfl) dX8_linkInstances_54 (fun M2 _ => ?_)
          refine c_aload_n G dX8_linkInstances_55 rfl 0 rfl ?_
          refine c_getF G fl_X8_51 h_a0 rfl dX8_linkInstances_56 ?_
          refine c_iload G dX8_linkInstances_59 4 rfl ?_
          refine c_iload G dX8_linkInstances_61 5 rfl ?_
          refine c_bj (ej := fun (p81 : Int32) => [(0, .ref (wB w + pz (a0))), (1, .ref (wB w + pz (a1))), (2, .int a2), (3, .int l3_1), (4, .int l4_1)]) (sj := fun p81 => [.int p81, .int l4_1, .ref (wB w + pz ((a0 + 14)))]) (mj := fun p81 => M2) (pj := 81) (fun p81 => ?_) (fun F hJ81 => ?_)
          · skip
            refine c_iast G (lf h_a0 14 rfl) dX8_linkInstances_81 (fun M3 _ => ?_)
            refine c_aload_n G dX8_linkInstances_82 rfl 0 rfl ?_
            refine c_getF G fl_X8_54 h_a0 rfl dX8_linkInstances_83 ?_
            refine c_iload G dX8_linkInstances_86 4 rfl ?_
            refine c_aload_n G dX8_linkInstances_88 rfl 0 rfl ?_
            refine c_getF G fl_X8_48 h_a0 rfl dX8_linkInstances_89 ?_
            refine c_iload G dX8_linkInstances_92 4 rfl ?_
            refine c_iald G (lf h_a0 13 rfl) dX8_linkInstances_94 (fun v2 _ => ?_)
            refine c_iconst G m1 dX8_linkInstances_95 kI_m1 ?_
            refine c_icmp_ne (tgt := 103) G dX8_linkInstances_96 (by decide) (fun _ => ?_) (fun _ => ?_)
            · skip
              refine c_iconst G (nI 0) dX8_linkInstances_99 kI_0 ?_
              refine c_goto (tgt := 131) G dX8_linkInstances_100 (by decide) ?_
              refine c_iast G (lf h_a0 15 rfl) dX8_linkInstances_131 (fun M4 _ => ?_)
              refine c_iinc G (fun y__ => [(3, .int y__), (0, .ref (wB w + pz (a0))), (1, .ref (wB w + pz (a1))), (2, .int a2), (4, .int l4_1)]) dX8_linkInstances_132 3 rfl kI_1 (by decide) (fun _ => rfl) (fun l3_2 _ => ?_)
              refine c_goto (tgt := 2) G dX8_linkInstances_135 (by decide) ?_
              exact c_weak _ [1, 2, 3, 0] rfl (ih l3_2 M4)
            · skip
              refine c_aload_n G dX8_linkInstances_103 rfl 1 rfl ?_
              refine c_getF G fl_X8_101 h_a1 rfl dX8_linkInstances_104 ?_
              refine c_bipush G (nI 32) dX8_linkInstances_107 kB_32 ?_
              refine c_aload_n G dX8_linkInstances_109 rfl 0 rfl ?_
              refine c_getF G fl_X8_9 h_a0 rfl dX8_linkInstances_110 ?_
              refine c_aload_n G dX8_linkInstances_113 rfl 0 rfl ?_
              refine c_getF G fl_X8_48 h_a0 rfl dX8_linkInstances_114 ?_
              refine c_iload G dX8_linkInstances_117 4 rfl ?_
              refine c_iald G (lf h_a0 13 rfl) dX8_linkInstances_119 (fun v3 _ => ?_)
              refine c_iald G (lf h_a0 1 rfl) dX8_linkInstances_120 (fun v4 _ => ?_)
              refine c_imul G dX8_linkInstances_121 ?_
              refine c_aload_n G dX8_linkInstances_122 rfl 0 rfl ?_
              refine c_getF G fl_X8_51 h_a0 rfl dX8_linkInstances_123 ?_
              refine c_iload G dX8_linkInstances_126 4 rfl ?_
              refine c_iald G (lf h_a0 14 rfl) dX8_linkInstances_128 (fun v5 _ => ?_)
              refine c_iadd G dX8_linkInstances_129 ?_
              refine c_iald G (lf h_a1 14 rfl) dX8_linkInstances_130 (fun v6 _ => ?_)
              refine c_iast G (lf h_a0 15 rfl) dX8_linkInstances_131 (fun M5 _ => ?_)
              refine c_iinc G (fun y__ => [(3, .int y__), (0, .ref (wB w + pz (a0))), (1, .ref (wB w + pz (a1))), (2, .int a2), (4, .int l4_1)]) dX8_linkInstances_132 3 rfl kI_1 (by decide) (fun _ => rfl) (fun l3_3 _ => ?_)
              refine c_goto (tgt := 2) G dX8_linkInstances_135 (by decide) ?_
              exact c_weak _ [1, 2, 3, 0] rfl (ih l3_3 M5)
          · skip
            refine c_if_eq (tgt := 80) G dX8_linkInstances_63 (by decide) (fun _ => ?_) (fun _ => ?_)
            · skip
              refine c_iload_n G dX8_linkInstances_80 rfl 3 rfl ?_
              exact c_weak _ [0, 1, 2, 3, 4] rfl (hJ81 l3_1)
            · skip
              refine c_bipush G (nI 8) dX8_linkInstances_66 kB_8 ?_
              refine c_aload_n G dX8_linkInstances_68 rfl 0 rfl ?_
              refine c_getF G fl_X8_21 h_a0 rfl dX8_linkInstances_69 ?_
              refine c_iload_n G dX8_linkInstances_72 rfl 2 rfl ?_
              refine c_iald G (lf h_a0 4 rfl) dX8_linkInstances_73 (fun v7 _ => ?_)
              refine c_imul G dX8_linkInstances_74 ?_
              refine c_iload_n G dX8_linkInstances_75 rfl 3 rfl ?_
              refine c_iadd G dX8_linkInstances_76 ?_
              refine c_goto (tgt := 81) G dX8_linkInstances_77 (by decide) ?_
              exact c_weak _ [0, 1, 2, 3, 4] rfl (hJ81 (((nI 8) * v7) + l3_1))
        · skip
          refine c_if_eq (tgt := 53) G dX8_linkInstances_41 (by decide) (fun _ => ?_) (fun _ => ?_)
          · skip
            refine c_iload_n G dX8_linkInstances_53 rfl 3 rfl ?_
            exact c_weak _ [1, 2, 3, 4, 5, 0] rfl (hJ54 a2)
          · skip
            refine c_aload_n G dX8_linkInstances_44 rfl 1 rfl ?_
            refine c_getF G fl_X8_18 h_a0 rfl dX8_linkInstances_45 ?_
            refine c_iload_n G dX8_linkInstances_48 rfl 3 rfl ?_
            refine c_iald G (lf h_a0 3 rfl) dX8_linkInstances_49 (fun v8 _ => ?_)
            refine c_goto (tgt := 54) G dX8_linkInstances_50 (by decide) ?_
            exact c_weak _ [1, 2, 3, 4, 5, 0] rfl (hJ54 v8)
      · skip
        refine c_icmp_ge (tgt := 30) G dX8_linkInstances_23 (by decide) (fun _ => ?_) (fun _ => ?_)
        · skip
          refine c_iconst G (nI 0) dX8_linkInstances_30 kI_0 ?_
          exact c_weak _ [1, 2, 3, 4, 0] rfl (hJ31 (nI 0))
        · skip
          refine c_iconst G (nI 1) dX8_linkInstances_26 kI_1 ?_
          refine c_goto (tgt := 31) G dX8_linkInstances_27 (by decide) ?_
          exact c_weak _ [1, 2, 3, 4, 0] rfl (hJ31 (nI 1))
set_option maxHeartbeats 4000000 in
set_option maxRecDepth 100000 in
theorem con_X8_linkInstances {w : Wp} {N : Nat} {a0 : Nat} {a1 : Nat} {a2 : Int32} {M : Mm} {q : Mm} (h_a0 : lay a0 = (5, 8)) (h_a1 : lay a1 = (5, 1)) (hq : D_X8_linkInstances N a0 a1 a2 M = some q) : Con w 0 yX8_linkInstances cX8_linkInstances 6 none [.ref (wB w + pz (a0)), .ref (wB w + pz (a1)), .int a2] M (encV q) := by
  refine Con.of encV q _ hq (by decide) (Nat.le_of_ble_eq_true rfl) ?_
  intro X G Q hQ
  have G : Good w X cX8_linkInstances 6 RX8 none 0 := G
  refine c_weak [(0, .ref (wB w + pz (a0))), (1, .ref (wB w + pz (a1))), (2, .int a2)] [0, 1, 2] rfl ?_
  rw [D_X8_linkInstances]
  refine c_iconst G (nI 0) dX8_linkInstances_0 kI_0 ?_
  refine c_istore_n G [(3, .int (nI 0)), (0, .ref (wB w + pz (a0))), (1, .ref (wB w + pz (a1))), (2, .int a2)] dX8_linkInstances_1 rfl (by decide) rfl ?_
  refine c_weak _ [1, 2, 3, 0] rfl (cl_X8_linkInstances_2 G hQ  h_a0 h_a1 N (nI 0) M)
set_option maxHeartbeats 4000000 in
set_option maxRecDepth 100000 in
theorem cl_X8_link_15 {w : Wp} {X : Cx} {Q : State → Prop} {ρ : Mm} (G : Good w X cX8_link 3 RX8 none 1) (hQ : Q = MQ (xL X) (Qd w (encV ρ)) (xA X) (xS X) (xk X) (xs X) (Aw w)) {a0 : Nat} {N : Nat} {a1 : Nat} (h_a0 : lay a0 = (5, 8)) (h_a1 : lay a1 = (5, 1)) : ∀ (n : Nat) (l2_2 : Int32) (M2 : Mm), Cov w X Q ρ some 3 15 [(0, .ref (wB w + pz (a0))), (1, .ref (wB w + pz (a1))), (2, .int l2_2)] [] M2 (L_X8_link_15 a0 N a1 n l2_2 M2) := by
  intro n
  induction n with
  | zero => intro l2_2 M2; exact c_none
  | succ n ih =>
    intro l2_2 M2
    rw [L_X8_link_15]
    refine c_iload_n G dX8_link_15 rfl 2 rfl ?_
    refine c_if_lt (tgt := 91) G dX8_link_16 (by decide) (fun _ => ?_) (fun _ => ?_)
    · skip
      exact c_vret G hQ dX8_link_91
    · skip
      refine c_aload_n G dX8_link_19 rfl 0 rfl ?_
      refine c_getF G fl_X8_42 h_a0 rfl dX8_link_20 ?_
      refine c_iconst G (nI 4) dX8_link_23 kI_4 ?_
      refine c_iload_n G dX8_link_24 rfl 2 rfl ?_
      refine c_imul G dX8_link_25 ?_
      refine c_iload_n G dX8_link_26 rfl 2 rfl ?_
      refine c_iast G (lf h_a0 11 rfl) dX8_link_27 (fun M3 _ => ?_)
      refine c_aload_n G dX8_link_28 rfl 0 rfl ?_
      refine c_getF G fl_X8_18 h_a0 rfl dX8_link_29 ?_
      refine c_iload_n G dX8_link_32 rfl 2 rfl ?_
      refine c_iald G (lf h_a0 3 rfl) dX8_link_33 (fun v1 _ => ?_)
      refine c_iconst G m1 dX8_link_34 kI_m1 ?_
      refine c_icmp_eq (tgt := 79) G dX8_link_35 (by decide) (fun _ => ?_) (fun _ => ?_)
      · skip
        refine c_aload_n G dX8_link_79 rfl 0 rfl ?_
        refine c_aload_n G dX8_link_80 rfl 1 rfl ?_
        refine c_iload_n G dX8_link_81 rfl 2 rfl ?_
        refine c_callV_V (d := 0) (rest := []) G [.ref (wB w + pz (a1)), .int l2_2] yv_X8_linkInstances ml_X8_97 (by omega) (by decide) rfl rfl (Nat.le_of_ble_eq_true rfl) h_a0 (fun q hq => con_X8_linkInstances h_a0 h_a1 hq) dX8_link_82 (fun M4 _ => ?_)
        refine c_iinc G (fun y__ => [(2, .int y__), (0, .ref (wB w + pz (a0))), (1, .ref (wB w + pz (a1)))]) dX8_link_85 2 rfl kI_m1 (by decide) (fun _ => rfl) (fun l2_3 _ => ?_)
        refine c_goto (tgt := 15) G dX8_link_88 (by decide) ?_
        exact c_weak _ [1, 2, 0] rfl (ih l2_3 M4)
      · skip
        refine c_aload_n G dX8_link_38 rfl 0 rfl ?_
        refine c_getF G fl_X8_42 h_a0 rfl dX8_link_39 ?_
        refine c_iconst G (nI 4) dX8_link_42 kI_4 ?_
        refine c_aload_n G dX8_link_43 rfl 0 rfl ?_
        refine c_getF G fl_X8_18 h_a0 rfl dX8_link_44 ?_
        refine c_iload_n G dX8_link_47 rfl 2 rfl ?_
        refine c_iald G (lf h_a0 3 rfl) dX8_link_48 (fun v2 _ => ?_)
        refine c_imul G dX8_link_49 ?_
        refine c_aload_n G dX8_link_50 rfl 0 rfl ?_
        refine c_getF G fl_X8_21 h_a0 rfl dX8_link_51 ?_
        refine c_iload_n G dX8_link_54 rfl 2 rfl ?_
        refine c_iald G (lf h_a0 4 rfl) dX8_link_55 (fun v3 _ => ?_)
        refine c_iadd G dX8_link_56 ?_
        refine c_iload_n G dX8_link_57 rfl 2 rfl ?_
        refine c_iast G (lf h_a0 11 rfl) dX8_link_58 (fun M5 _ => ?_)
        refine c_aload_n G dX8_link_59 rfl 0 rfl ?_
        refine c_getF G fl_X8_27 h_a0 rfl dX8_link_60 ?_
        refine c_aload_n G dX8_link_63 rfl 0 rfl ?_
        refine c_getF G fl_X8_18 h_a0 rfl dX8_link_64 ?_
        refine c_iload_n G dX8_link_67 rfl 2 rfl ?_
        refine c_iald G (lf h_a0 3 rfl) dX8_link_68 (fun v4 _ => ?_)
        refine c_dup2 G dX8_link_69 rfl rfl ?_
        refine c_iald G (lf h_a0 6 rfl) dX8_link_70 (fun v5 _ => ?_)
        refine c_aload_n G dX8_link_71 rfl 0 rfl ?_
        refine c_getF G fl_X8_27 h_a0 rfl dX8_link_72 ?_
        refine c_iload_n G dX8_link_75 rfl 2 rfl ?_
        refine c_iald G (lf h_a0 6 rfl) dX8_link_76 (fun v6 _ => ?_)
        refine c_iadd G dX8_link_77 ?_
        refine c_iast G (lf h_a0 6 rfl) dX8_link_78 (fun M6 _ => ?_)
        refine c_aload_n G dX8_link_79 rfl 0 rfl ?_
        refine c_aload_n G dX8_link_80 rfl 1 rfl ?_
        refine c_iload_n G dX8_link_81 rfl 2 rfl ?_
        refine c_callV_V (d := 0) (rest := []) G [.ref (wB w + pz (a1)), .int l2_2] yv_X8_linkInstances ml_X8_97 (by omega) (by decide) rfl rfl (Nat.le_of_ble_eq_true rfl) h_a0 (fun q hq => con_X8_linkInstances h_a0 h_a1 hq) dX8_link_82 (fun M7 _ => ?_)
        refine c_iinc G (fun y__ => [(2, .int y__), (0, .ref (wB w + pz (a0))), (1, .ref (wB w + pz (a1)))]) dX8_link_85 2 rfl kI_m1 (by decide) (fun _ => rfl) (fun l2_4 _ => ?_)
        refine c_goto (tgt := 15) G dX8_link_88 (by decide) ?_
        exact c_weak _ [1, 2, 0] rfl (ih l2_4 M7)
set_option maxHeartbeats 4000000 in
set_option maxRecDepth 100000 in
theorem con_X8_link {w : Wp} {N : Nat} {a0 : Nat} {a1 : Nat} {M : Mm} {q : Mm} (h_a0 : lay a0 = (5, 8)) (h_a1 : lay a1 = (5, 1)) (hq : D_X8_link N a0 a1 M = some q) : Con w 1 yX8_link cX8_link 3 none [.ref (wB w + pz (a0)), .ref (wB w + pz (a1))] M (encV q) := by
  refine Con.of encV q _ hq (by decide) (Nat.le_of_ble_eq_true rfl) ?_
  intro X G Q hQ
  have G : Good w X cX8_link 3 RX8 none 1 := G
  refine c_weak [(0, .ref (wB w + pz (a0))), (1, .ref (wB w + pz (a1)))] [0, 1] rfl ?_
  rw [D_X8_link]
  refine c_aload_n G dX8_link_0 rfl 0 rfl ?_
  refine c_getF G fl_X8_27 h_a0 rfl dX8_link_1 ?_
  refine c_iconst G (nI 1) dX8_link_4 kI_1 ?_
  refine c_callS_V (d := 0) (rest := []) G [.ref (wB w + pz ((a0 + 6))), .int (nI 1)] ys_J7_fill_53178 ml_X8_68 (by omega) (by decide) rfl rfl (Nat.le_of_ble_eq_true rfl) (fun q hq => con_J7_fill_53178 (ll (lf h_a0 6 rfl)) hq) dX8_link_5 (fun M1 _ => ?_)
  refine c_aload_n G dX8_link_8 rfl 0 rfl ?_
  refine c_getI G fl_X8_64 h_a0 rfl dX8_link_9 ?_
  refine c_iconst G (nI 1) dX8_link_12 kI_1 ?_
  refine c_isub G dX8_link_13 ?_
  refine c_let (fun l2_1 _ => ?_)
  refine c_istore_n G [(2, .int l2_1), (0, .ref (wB w + pz (a0))), (1, .ref (wB w + pz (a1)))] dX8_link_14 rfl (by decide) rfl ?_
  refine c_weak _ [1, 2, 0] rfl (cl_X8_link_15 G hQ  h_a0 h_a1 N l2_1 M1)
set_option maxHeartbeats 4000000 in
set_option maxRecDepth 100000 in
theorem con_X11_swapWood {w : Wp} {N : Nat} {a0 : Nat} {M : Mm} {q : Mm} (h_a0 : lay a0 = (5, 11)) (hq : D_X11_swapWood N a0 M = some q) : Con w 0 yX11_swapWood cX11_swapWood 2 none [.ref (wB w + pz (a0))] M (encV q) := by
  refine Con.of encV q _ hq (by decide) (Nat.le_of_ble_eq_true rfl) ?_
  intro X G Q hQ
  have G : Good w X cX11_swapWood 2 RX11 none 0 := G
  refine c_weak [(0, .ref (wB w + pz (a0)))] [0] rfl ?_
  rw [D_X11_swapWood]
  refine c_aload_n G dX11_swapWood_0 rfl 0 rfl ?_
  refine c_getR (c' := 8) G fl_X11_89 h_a0 rfl dX11_swapWood_1 (fun r1 _ h_r1 => ?_)
  refine c_astore_n G [(1, .ref (wB w + pz (r1))), (0, .ref (wB w + pz (a0)))] dX11_swapWood_4 rfl (by decide) rfl ?_
  refine c_aload_n G dX11_swapWood_5 rfl 1 rfl ?_
  refine c_aload_n G dX11_swapWood_6 rfl 1 rfl ?_
  refine c_getR (c' := 8) G fl_X11_85 h_a0 rfl dX11_swapWood_7 (fun r2 _ h_r2 => ?_)
  refine c_putN G fp_X11_89 (Or.inl ⟨_, rfl⟩) h_a0 h_r2 (by decide) rfl dX11_swapWood_10 (fun M1 _ => ?_)
  refine c_aload_n G dX11_swapWood_13 rfl 1 rfl ?_
  refine c_aload_n G dX11_swapWood_14 rfl 0 rfl ?_
  refine c_putN G fp_X11_85 (Or.inl ⟨_, rfl⟩) h_a0 h_r1 (by decide) rfl dX11_swapWood_15 (fun M2 _ => ?_)
  exact c_vret G hQ dX11_swapWood_18
set_option maxHeartbeats 4000000 in
set_option maxRecDepth 100000 in
theorem con_X10_begin {w : Wp} {N : Nat} {a0 : Nat} {a1 : Nat} {a2 : Nat} {M : Mm} {q : Mm} (h_a0 : lay a0 = (5, 10)) (h_a1 : lay a1 = (5, 1)) (h_a2 : lay a2 = (5, 8)) (hq : D_X10_begin N a0 a1 a2 M = some q) : Con w 0 yX10_begin cX10_begin 3 none [.ref (wB w + pz (a0)), .ref (wB w + pz (a1)), .ref (wB w + pz (a2))] M (encV q) := by
  refine Con.of encV q _ hq (by decide) (Nat.le_of_ble_eq_true rfl) ?_
  intro X G Q hQ
  have G : Good w X cX10_begin 3 RX10 none 0 := G
  refine c_weak [(0, .ref (wB w + pz (a0))), (1, .ref (wB w + pz (a1))), (2, .ref (wB w + pz (a2)))] [0, 1, 2] rfl ?_
  rw [D_X10_begin]
  refine c_aload_n G dX10_begin_0 rfl 0 rfl ?_
  refine c_aload_n G dX10_begin_1 rfl 1 rfl ?_
  refine c_putN G fp_X10_32 (Or.inl ⟨_, rfl⟩) h_a0 h_a1 (by decide) rfl dX10_begin_2 (fun M1 _ => ?_)
  refine c_aload_n G dX10_begin_5 rfl 0 rfl ?_
  refine c_aload_n G dX10_begin_6 rfl 2 rfl ?_
  refine c_putN G fp_X10_36 (Or.inl ⟨_, rfl⟩) h_a0 h_a2 (by decide) rfl dX10_begin_7 (fun M2 _ => ?_)
  exact c_vret G hQ dX10_begin_10
set_option maxHeartbeats 4000000 in
set_option maxRecDepth 100000 in
theorem con_X8_hasInstance {w : Wp} {N : Nat} {a0 : Nat} {a1 : Int32} {a2 : Int32} {M : Mm} {q : Int32} (h_a0 : lay a0 = (5, 8)) (hq : D_X8_hasInstance N a0 a1 a2 M = some q) : Con w 0 yX8_hasInstance cX8_hasInstance 3 (some .boolean) [.ref (wB w + pz (a0)), .int a1, .int a2] M ((encPI M) q) := by
  refine Con.of (encPI M) q _ hq (by decide) (Nat.le_of_ble_eq_true rfl) ?_
  intro X G Q hQ
  have G : Good w X cX8_hasInstance 3 RX8 (some .boolean) 0 := G
  refine c_weak [(0, .ref (wB w + pz (a0))), (1, .int a1), (2, .int a2)] [0, 1, 2] rfl ?_
  rw [D_X8_hasInstance]
  refine c_iload_n G dX8_hasInstance_0 rfl 2 rfl ?_
  refine c_jn (ej := fun (p18 : Unit) => []) (sj := fun p18 => []) (mj := fun p18 => M) (pj := 18) (fun p18 => ?_) (fun J1 hJ18 => ?_)
  · skip
    refine c_iconst G (nI 0) dX8_hasInstance_18 kI_0 ?_
    exact c_zretP G hQ dX8_hasInstance_19
  · skip
    refine c_if_lt (tgt := 18) G dX8_hasInstance_1 (by decide) (fun _ => ?_) (fun _ => ?_)
    · skip
      exact c_weak _ [] rfl (hJ18 ())
    · skip
      refine c_iload_n G dX8_hasInstance_4 rfl 2 rfl ?_
      refine c_aload_n G dX8_hasInstance_5 rfl 0 rfl ?_
      refine c_getF G fl_X8_36 h_a0 rfl dX8_hasInstance_6 ?_
      refine c_iload_n G dX8_hasInstance_9 rfl 1 rfl ?_
      refine c_iald G (lf h_a0 9 rfl) dX8_hasInstance_10 (fun v1 _ => ?_)
      refine c_icmp_ge (tgt := 18) G dX8_hasInstance_11 (by decide) (fun _ => ?_) (fun _ => ?_)
      · skip
        exact c_weak _ [] rfl (hJ18 ())
      · skip
        refine c_iconst G (nI 1) dX8_hasInstance_14 kI_1 ?_
        refine c_goto (tgt := 19) G dX8_hasInstance_15 (by decide) ?_
        exact c_zretP G hQ dX8_hasInstance_19
set_option maxHeartbeats 4000000 in
set_option maxRecDepth 100000 in
theorem con_X4_enter {w : Wp} {N : Nat} {a0 : Nat} {a1 : Int32} {M : Mm} {q : Mm} (h_a0 : lay a0 = (5, 4)) (hq : D_X4_enter N a0 a1 M = some q) : Con w 0 yX4_enter cX4_enter 2 none [.ref (wB w + pz (a0)), .int a1] M (encV q) := by
  refine Con.of encV q _ hq (by decide) (Nat.le_of_ble_eq_true rfl) ?_
  intro X G Q hQ
  have G : Good w X cX4_enter 2 RX4 none 0 := G
  refine c_weak [(0, .ref (wB w + pz (a0))), (1, .int a1)] [0, 1] rfl ?_
  rw [D_X4_enter]
  refine c_aload_n G dX4_enter_0 rfl 0 rfl ?_
  refine c_dup G dX4_enter_1 rfl ?_
  refine c_getI G fl_X4_57 h_a0 rfl dX4_enter_2 ?_
  refine c_iconst G (nI 1) dX4_enter_5 kI_1 ?_
  refine c_iadd G dX4_enter_6 ?_
  refine c_putI G fp_X4_57 h_a0 rfl dX4_enter_7 (fun M1 _ => ?_)
  refine c_aload_n G dX4_enter_10 rfl 0 rfl ?_
  refine c_getF G fl_X4_25 h_a0 rfl dX4_enter_11 ?_
  refine c_iload_n G dX4_enter_14 rfl 1 rfl ?_
  refine c_aload_n G dX4_enter_15 rfl 0 rfl ?_
  refine c_getI G fl_X4_57 h_a0 rfl dX4_enter_16 ?_
  refine c_iast G (lf h_a0 7 rfl) dX4_enter_19 (fun M2 _ => ?_)
  refine c_aload_n G dX4_enter_20 rfl 0 rfl ?_
  refine c_getF G fl_X4_28 h_a0 rfl dX4_enter_21 ?_
  refine c_iload_n G dX4_enter_24 rfl 1 rfl ?_
  refine c_aload_n G dX4_enter_25 rfl 0 rfl ?_
  refine c_getI G fl_X4_57 h_a0 rfl dX4_enter_26 ?_
  refine c_iast G (lf h_a0 8 rfl) dX4_enter_29 (fun M3 _ => ?_)
  refine c_aload_n G dX4_enter_30 rfl 0 rfl ?_
  refine c_getF G fl_X4_31 h_a0 rfl dX4_enter_31 ?_
  refine c_aload_n G dX4_enter_34 rfl 0 rfl ?_
  refine c_getI G fl_X4_54 h_a0 rfl dX4_enter_35 ?_
  refine c_iload_n G dX4_enter_38 rfl 1 rfl ?_
  refine c_iast G (lf h_a0 9 rfl) dX4_enter_39 (fun M4 _ => ?_)
  refine c_aload_n G dX4_enter_40 rfl 0 rfl ?_
  refine c_dup G dX4_enter_41 rfl ?_
  refine c_getI G fl_X4_54 h_a0 rfl dX4_enter_42 ?_
  refine c_iconst G (nI 1) dX4_enter_45 kI_1 ?_
  refine c_iadd G dX4_enter_46 ?_
  refine c_putI G fp_X4_54 h_a0 rfl dX4_enter_47 (fun M5 _ => ?_)
  refine c_aload_n G dX4_enter_50 rfl 0 rfl ?_
  refine c_getF G fl_X4_34 h_a0 rfl dX4_enter_51 ?_
  refine c_aload_n G dX4_enter_54 rfl 0 rfl ?_
  refine c_getI G fl_X4_79 h_a0 rfl dX4_enter_55 ?_
  refine c_iload_n G dX4_enter_58 rfl 1 rfl ?_
  refine c_iast G (lf h_a0 11 rfl) dX4_enter_59 (fun M6 _ => ?_)
  refine c_aload_n G dX4_enter_60 rfl 0 rfl ?_
  refine c_getF G fl_X4_37 h_a0 rfl dX4_enter_61 ?_
  refine c_aload_n G dX4_enter_64 rfl 0 rfl ?_
  refine c_getI G fl_X4_79 h_a0 rfl dX4_enter_65 ?_
  refine c_aload_n G dX4_enter_68 rfl 0 rfl ?_
  refine c_getR (c' := 8) G fl_X4_43 h_a0 rfl dX4_enter_69 (fun r1 _ h_r1 => ?_)
  refine c_getF G fl_X4_105 h_r1 rfl dX4_enter_72 ?_
  refine c_iload_n G dX4_enter_75 rfl 1 rfl ?_
  refine c_iald G (lf h_r1 15 rfl) dX4_enter_76 (fun v1 _ => ?_)
  refine c_iast G (lf h_a0 12 rfl) dX4_enter_77 (fun M7 _ => ?_)
  refine c_aload_n G dX4_enter_78 rfl 0 rfl ?_
  refine c_dup G dX4_enter_79 rfl ?_
  refine c_getI G fl_X4_79 h_a0 rfl dX4_enter_80 ?_
  refine c_iconst G (nI 1) dX4_enter_83 kI_1 ?_
  refine c_iadd G dX4_enter_84 ?_
  refine c_putI G fp_X4_79 h_a0 rfl dX4_enter_85 (fun M8 _ => ?_)
  exact c_vret G hQ dX4_enter_88
set_option maxHeartbeats 4000000 in
set_option maxRecDepth 100000 in
theorem cl_X4_insert_3 {w : Wp} {X : Cx} {Q : State → Prop} {ρ : Mm} (G : Good w X cX4_insert 5 RX4 none 0) (hQ : Q = MQ (xL X) (Qd w (encV ρ)) (xA X) (xS X) (xk X) (xs X) (Aw w)) {a2 : Int32} {a0 : Nat} {a1 : Int32} (h_a0 : lay a0 = (5, 4)) : ∀ (n : Nat) (l4_1 : Int32) (M1 : Mm), Cov w X Q ρ some 5 3 [(0, .ref (wB w + pz (a0))), (1, .int a1), (2, .int a2), (4, .int l4_1)] [] M1 (L_X4_insert_3 a2 a0 a1 n l4_1 M1) := by
  intro n
  induction n with
  | zero => intro l4_1 M1; exact c_none
  | succ n ih =>
    intro l4_1 M1
    rw [L_X4_insert_3]
    refine c_iload G dX4_insert_3 3 rfl ?_
    refine c_iload_n G dX4_insert_5 rfl 2 rfl ?_
    refine c_icmp_le (tgt := 44) G dX4_insert_6 (by decide) (fun _ => ?_) (fun _ => ?_)
    · skip
      refine c_aload_n G dX4_insert_44 rfl 0 rfl ?_
      refine c_getF G fl_X4_9 h_a0 rfl dX4_insert_45 ?_
      refine c_iload G dX4_insert_48 3 rfl ?_
      refine c_iload_n G dX4_insert_50 rfl 1 rfl ?_
      refine c_iast G (lf h_a0 0 rfl) dX4_insert_51 (fun M2 _ => ?_)
      exact c_vret G hQ dX4_insert_52
    · skip
      refine c_aload_n G dX4_insert_9 rfl 0 rfl ?_
      refine c_getF G fl_X4_9 h_a0 rfl dX4_insert_10 ?_
      refine c_iload G dX4_insert_13 3 rfl ?_
      refine c_iconst G (nI 1) dX4_insert_15 kI_1 ?_
      refine c_isub G dX4_insert_16 ?_
      refine c_iald G (lf h_a0 0 rfl) dX4_insert_17 (fun v1 _ => ?_)
      refine c_iload_n G dX4_insert_18 rfl 1 rfl ?_
      refine c_icmp_le (tgt := 44) G dX4_insert_19 (by decide) (fun _ => ?_) (fun _ => ?_)
      · skip
        refine c_aload_n G dX4_insert_44 rfl 0 rfl ?_
        refine c_getF G fl_X4_9 h_a0 rfl dX4_insert_45 ?_
        refine c_iload G dX4_insert_48 3 rfl ?_
        refine c_iload_n G dX4_insert_50 rfl 1 rfl ?_
        refine c_iast G (lf h_a0 0 rfl) dX4_insert_51 (fun M3 _ => ?_)
        exact c_vret G hQ dX4_insert_52
      · skip
        refine c_aload_n G dX4_insert_22 rfl 0 rfl ?_
        refine c_getF G fl_X4_9 h_a0 rfl dX4_insert_23 ?_
        refine c_iload G dX4_insert_26 3 rfl ?_
        refine c_aload_n G dX4_insert_28 rfl 0 rfl ?_
        refine c_getF G fl_X4_9 h_a0 rfl dX4_insert_29 ?_
        refine c_iload G dX4_insert_32 3 rfl ?_
        refine c_iconst G (nI 1) dX4_insert_34 kI_1 ?_
        refine c_isub G dX4_insert_35 ?_
        refine c_iald G (lf h_a0 0 rfl) dX4_insert_36 (fun v2 _ => ?_)
        refine c_iast G (lf h_a0 0 rfl) dX4_insert_37 (fun M4 _ => ?_)
        refine c_iinc G (fun y__ => [(4, .int y__), (0, .ref (wB w + pz (a0))), (1, .int a1), (2, .int a2)]) dX4_insert_38 3 rfl kI_m1 (by decide) (fun _ => rfl) (fun l4_2 _ => ?_)
        refine c_goto (tgt := 3) G dX4_insert_41 (by decide) ?_
        exact c_weak _ [1, 2, 3, 0] rfl (ih l4_2 M4)
set_option maxHeartbeats 4000000 in
set_option maxRecDepth 100000 in
theorem con_X4_insert {w : Wp} {N : Nat} {a0 : Nat} {a1 : Int32} {a2 : Int32} {a3 : Int32} {M : Mm} {q : Mm} (h_a0 : lay a0 = (5, 4)) (hq : D_X4_insert N a0 a1 a2 a3 M = some q) : Con w 0 yX4_insert cX4_insert 5 none [.ref (wB w + pz (a0)), .int a1, .int a2, .int a3] M (encV q) := by
  refine Con.of encV q _ hq (by decide) (Nat.le_of_ble_eq_true rfl) ?_
  intro X G Q hQ
  have G : Good w X cX4_insert 5 RX4 none 0 := G
  refine c_weak [(0, .ref (wB w + pz (a0))), (1, .int a1), (2, .int a2), (3, .int a3)] [0, 1, 2, 3] rfl ?_
  rw [D_X4_insert]
  refine c_iload_n G dX4_insert_0 rfl 3 rfl ?_
  refine c_istore G [(4, .int a3), (0, .ref (wB w + pz (a0))), (1, .int a1), (2, .int a2), (3, .int a3)] dX4_insert_1 (by decide) rfl ?_
  refine c_weak _ [1, 2, 3, 0] rfl (cl_X4_insert_3 G hQ  h_a0 N a3 M)
set_option maxHeartbeats 4000000 in
set_option maxRecDepth 100000 in
theorem con_X4_hangsOnItself {w : Wp} {N : Nat} {a0 : Nat} {a1 : Int32} {M : Mm} {q : Int32} (h_a0 : lay a0 = (5, 4)) (hq : D_X4_hangsOnItself N a0 a1 M = some q) : Con w 0 yX4_hangsOnItself cX4_hangsOnItself 2 (some .boolean) [.ref (wB w + pz (a0)), .int a1] M ((encPI M) q) := by
  refine Con.of (encPI M) q _ hq (by decide) (Nat.le_of_ble_eq_true rfl) ?_
  intro X G Q hQ
  have G : Good w X cX4_hangsOnItself 2 RX4 (some .boolean) 0 := G
  refine c_weak [(0, .ref (wB w + pz (a0))), (1, .int a1)] [0, 1] rfl ?_
  rw [D_X4_hangsOnItself]
  refine c_aload_n G dX4_hangsOnItself_0 rfl 0 rfl ?_
  refine c_getR (c' := 8) G fl_X4_43 h_a0 rfl dX4_hangsOnItself_1 (fun r1 _ h_r1 => ?_)
  refine c_getF G fl_X4_105 h_r1 rfl dX4_hangsOnItself_4 ?_
  refine c_iload_n G dX4_hangsOnItself_7 rfl 1 rfl ?_
  refine c_iald G (lf h_r1 15 rfl) dX4_hangsOnItself_8 (fun v1 _ => ?_)
  refine c_aload_n G dX4_hangsOnItself_9 rfl 0 rfl ?_
  refine c_getR (c' := 8) G fl_X4_43 h_a0 rfl dX4_hangsOnItself_10 (fun r2 _ h_r2 => ?_)
  refine c_getF G fl_X4_124 h_r2 rfl dX4_hangsOnItself_13 ?_
  refine c_iload_n G dX4_hangsOnItself_16 rfl 1 rfl ?_
  refine c_iald G (lf h_r2 14 rfl) dX4_hangsOnItself_17 (fun v2 _ => ?_)
  refine c_iushr G dX4_hangsOnItself_18 ?_
  refine c_iconst G (nI 1) dX4_hangsOnItself_19 kI_1 ?_
  refine c_iand G dX4_hangsOnItself_20 ?_
  refine c_if_eq (tgt := 28) G dX4_hangsOnItself_21 (by decide) (fun _ => ?_) (fun _ => ?_)
  · skip
    refine c_iconst G (nI 0) dX4_hangsOnItself_28 kI_0 ?_
    exact c_zretP G hQ dX4_hangsOnItself_29
  · skip
    refine c_iconst G (nI 1) dX4_hangsOnItself_24 kI_1 ?_
    refine c_goto (tgt := 29) G dX4_hangsOnItself_25 (by decide) ?_
    exact c_zretP G hQ dX4_hangsOnItself_29
set_option maxHeartbeats 4000000 in
set_option maxRecDepth 100000 in
theorem cl_X4_bind_15 {w : Wp} {X : Cx} {Q : State → Prop} {ρ : Mm} (G : Good w X cX4_bind 6 RX4 none 1) (hQ : Q = MQ (xL X) (Qd w (encV ρ)) (xA X) (xS X) (xk X) (xs X) (Aw w)) (kE103 : Int32 → Mm → Option (Mm)) {a0 : Nat} {N : Nat} {a1 : Int32} (h_a0 : lay a0 = (5, 4)) (hE103 : ∀ (z2 : Int32), ∀ (Mz : Mm), Cov w X Q ρ some 6 103 [(0, .ref (wB w + pz (a0))), (1, .int a1), (2, .int z2)] [] Mz (kE103 z2 Mz)) : ∀ (n : Nat) (l2_1 : Int32) (l3_1 : Int32) (l4_1 : Int32) (M1 : Mm), Cov w X Q ρ some 6 15 [(0, .ref (wB w + pz (a0))), (1, .int a1), (2, .int l2_1), (3, .int l3_1), (4, .int l4_1)] [] M1 (L_X4_bind_15 kE103 a0 N a1 n l2_1 l3_1 l4_1 M1) := by
  intro n
  induction n with
  | zero => intro l2_1 l3_1 l4_1 M1; exact c_none
  | succ n ih =>
    intro l2_1 l3_1 l4_1 M1
    rw [L_X4_bind_15]
    refine c_iload G dX4_bind_15 4 rfl ?_
    refine c_sipush G (nI 320) dX4_bind_17 kS_320 ?_
    refine c_icmp_ge (tgt := 103) G dX4_bind_20 (by decide) (fun _ => ?_) (fun _ => ?_)
    · skip
      exact c_weak _ [0, 1, 2] rfl (hE103 l2_1 M1)
    · skip
      refine c_iload_n G dX4_bind_23 rfl 3 rfl ?_
      refine c_if_eq (tgt := 103) G dX4_bind_24 (by decide) (fun _ => ?_) (fun _ => ?_)
      · skip
        exact c_weak _ [0, 1, 2] rfl (hE103 l2_1 M1)
      · skip
        refine c_aload_n G dX4_bind_27 rfl 0 rfl ?_
        refine c_getI G fl_X4_54 h_a0 rfl dX4_bind_28 ?_
        refine c_if_le (tgt := 103) G dX4_bind_31 (by decide) (fun _ => ?_) (fun _ => ?_)
        · skip
          exact c_weak _ [0, 1, 2] rfl (hE103 l2_1 M1)
        · skip
          refine c_aload_n G dX4_bind_34 rfl 0 rfl ?_
          refine c_dup G dX4_bind_35 rfl ?_
          refine c_getI G fl_X4_54 h_a0 rfl dX4_bind_36 ?_
          refine c_iconst G (nI 1) dX4_bind_39 kI_1 ?_
          refine c_isub G dX4_bind_40 ?_
          refine c_putI G fp_X4_54 h_a0 rfl dX4_bind_41 (fun M2 _ => ?_)
          refine c_aload_n G dX4_bind_44 rfl 0 rfl ?_
          refine c_getF G fl_X4_31 h_a0 rfl dX4_bind_45 ?_
          refine c_aload_n G dX4_bind_48 rfl 0 rfl ?_
          refine c_getI G fl_X4_54 h_a0 rfl dX4_bind_49 ?_
          refine c_iald G (lf h_a0 9 rfl) dX4_bind_52 (fun v2 _ => ?_)
          refine c_istore G [(5, .int v2), (0, .ref (wB w + pz (a0))), (1, .int a1), (2, .int l2_1), (3, .int l3_1), (4, .int l4_1)] dX4_bind_53 (by decide) rfl ?_
          refine c_aload_n G dX4_bind_55 rfl 1 rfl ?_
          refine c_getF G fl_X4_18 h_a0 rfl dX4_bind_56 ?_
          refine c_iload G dX4_bind_59 0 rfl ?_
          refine c_aload_n G dX4_bind_61 rfl 1 rfl ?_
          refine c_getI G fl_X4_47 h_a0 rfl dX4_bind_62 ?_
          refine c_iast G (lf h_a0 2 rfl) dX4_bind_65 (fun M3 _ => ?_)
          refine c_aload_n G dX4_bind_66 rfl 1 rfl ?_
          refine c_iload G dX4_bind_67 0 rfl ?_
          refine c_aload_n G dX4_bind_69 rfl 1 rfl ?_
          refine c_getF G fl_X4_15 h_a0 rfl dX4_bind_70 ?_
          refine c_aload_n G dX4_bind_73 rfl 1 rfl ?_
          refine c_getI G fl_X4_47 h_a0 rfl dX4_bind_74 ?_
          refine c_iald G (lf h_a0 1 rfl) dX4_bind_77 (fun v3 _ => ?_)
          refine c_iload_n G dX4_bind_78 rfl 3 rfl ?_
          refine c_callV_V (d := 0) (rest := []) G [.int v2, .int v3, .int l2_1] yv_X4_insert ml_X4_116 (by omega) (by decide) rfl rfl (Nat.le_of_ble_eq_true rfl) h_a0 (fun q hq => con_X4_insert h_a0 hq) dX4_bind_79 (fun M4 _ => ?_)
          refine c_iinc G (fun y__ => [(2, .int y__), (5, .int v2), (0, .ref (wB w + pz (a0))), (1, .int a1), (3, .int l3_1), (4, .int l4_1)]) dX4_bind_82 3 rfl kI_1 (by decide) (fun _ => rfl) (fun l2_2 _ => ?_)
          refine c_iload G dX4_bind_85 1 rfl ?_
          refine c_iload_n G dX4_bind_87 rfl 3 rfl ?_
          refine c_icmp_eq (tgt := 95) G dX4_bind_88 (by decide) (fun _ => ?_) (fun _ => ?_)
          · skip
            refine c_iconst G (nI 0) dX4_bind_95 kI_0 ?_
            refine c_istore_n G [(3, .int (nI 0)), (2, .int l2_2), (5, .int v2), (0, .ref (wB w + pz (a0))), (1, .int a1), (4, .int l4_1)] dX4_bind_96 rfl (by decide) rfl ?_
            refine c_iinc G (fun y__ => [(4, .int y__), (3, .int (nI 0)), (2, .int l2_2), (5, .int v2), (0, .ref (wB w + pz (a0))), (1, .int a1)]) dX4_bind_97 5 rfl kI_1 (by decide) (fun _ => rfl) (fun l4_2 _ => ?_)
            refine c_goto (tgt := 15) G dX4_bind_100 (by decide) ?_
            exact c_weak _ [4, 5, 2, 1, 0] rfl (ih l2_2 (nI 0) l4_2 M4)
          · skip
            refine c_iconst G (nI 1) dX4_bind_91 kI_1 ?_
            refine c_goto (tgt := 96) G dX4_bind_92 (by decide) ?_
            refine c_istore_n G [(3, .int (nI 1)), (2, .int l2_2), (5, .int v2), (0, .ref (wB w + pz (a0))), (1, .int a1), (4, .int l4_1)] dX4_bind_96 rfl (by decide) rfl ?_
            refine c_iinc G (fun y__ => [(4, .int y__), (3, .int (nI 1)), (2, .int l2_2), (5, .int v2), (0, .ref (wB w + pz (a0))), (1, .int a1)]) dX4_bind_97 5 rfl kI_1 (by decide) (fun _ => rfl) (fun l4_3 _ => ?_)
            refine c_goto (tgt := 15) G dX4_bind_100 (by decide) ?_
            exact c_weak _ [4, 5, 2, 1, 0] rfl (ih l2_2 (nI 1) l4_3 M4)
set_option maxHeartbeats 4000000 in
set_option maxRecDepth 100000 in
theorem con_X4_bind {w : Wp} {N : Nat} {a0 : Nat} {a1 : Int32} {M : Mm} {q : Mm} (h_a0 : lay a0 = (5, 4)) (hq : D_X4_bind N a0 a1 M = some q) : Con w 1 yX4_bind cX4_bind 6 none [.ref (wB w + pz (a0)), .int a1] M (encV q) := by
  refine Con.of encV q _ hq (by decide) (Nat.le_of_ble_eq_true rfl) ?_
  intro X G Q hQ
  have G : Good w X cX4_bind 6 RX4 none 1 := G
  refine c_weak [(0, .ref (wB w + pz (a0))), (1, .int a1)] [0, 1] rfl ?_
  rw [D_X4_bind]
  refine c_aload_n G dX4_bind_0 rfl 0 rfl ?_
  refine c_getF G fl_X4_15 h_a0 rfl dX4_bind_1 ?_
  refine c_aload_n G dX4_bind_4 rfl 0 rfl ?_
  refine c_getI G fl_X4_47 h_a0 rfl dX4_bind_5 ?_
  refine c_iald G (lf h_a0 1 rfl) dX4_bind_8 (fun v1 _ => ?_)
  refine c_istore_n G [(2, .int v1), (0, .ref (wB w + pz (a0))), (1, .int a1)] dX4_bind_9 rfl (by decide) rfl ?_
  refine c_iconst G (nI 1) dX4_bind_10 kI_1 ?_
  refine c_istore_n G [(3, .int (nI 1)), (2, .int v1), (0, .ref (wB w + pz (a0))), (1, .int a1)] dX4_bind_11 rfl (by decide) rfl ?_
  refine c_iconst G (nI 0) dX4_bind_12 kI_0 ?_
  refine c_istore G [(4, .int (nI 0)), (3, .int (nI 1)), (2, .int v1), (0, .ref (wB w + pz (a0))), (1, .int a1)] dX4_bind_13 (by decide) rfl ?_
  refine c_weak _ [3, 4, 2, 1, 0] rfl (cl_X4_bind_15 G hQ _ h_a0 ?_ N v1 (nI 1) (nI 0) M)
  · intro l2_3 M5
    refine c_aload_n G dX4_bind_103 rfl 0 rfl ?_
    refine c_getF G fl_X4_21 h_a0 rfl dX4_bind_104 ?_
    refine c_aload_n G dX4_bind_107 rfl 0 rfl ?_
    refine c_getI G fl_X4_47 h_a0 rfl dX4_bind_108 ?_
    refine c_iload_n G dX4_bind_111 rfl 2 rfl ?_
    refine c_aload_n G dX4_bind_112 rfl 0 rfl ?_
    refine c_getF G fl_X4_15 h_a0 rfl dX4_bind_113 ?_
    refine c_aload_n G dX4_bind_116 rfl 0 rfl ?_
    refine c_getI G fl_X4_47 h_a0 rfl dX4_bind_117 ?_
    refine c_iald G (lf h_a0 1 rfl) dX4_bind_120 (fun v4 _ => ?_)
    refine c_isub G dX4_bind_121 ?_
    refine c_iconst G (nI 1) dX4_bind_122 kI_1 ?_
    refine c_bj (ej := fun (p139 : Int32) => [(0, .ref (wB w + pz (a0))), (2, .int l2_3)]) (sj := fun p139 => [.int p139, .int (M5.1 a0 4), .ref (wB w + pz ((a0 + 4)))]) (mj := fun p139 => M5) (pj := 139) (fun p139 => ?_) (fun F hJ139 => ?_)
    · skip
      refine c_zast G (lf h_a0 3 rfl) dX4_bind_139 (fun M6 _ => ?_)
      refine c_aload_n G dX4_bind_140 rfl 0 rfl ?_
      refine c_dup G dX4_bind_141 rfl ?_
      refine c_getI G fl_X4_51 h_a0 rfl dX4_bind_142 ?_
      refine c_aload_n G dX4_bind_145 rfl 0 rfl ?_
      refine c_getF G fl_X4_21 h_a0 rfl dX4_bind_146 ?_
      refine c_aload_n G dX4_bind_149 rfl 0 rfl ?_
      refine c_getI G fl_X4_47 h_a0 rfl dX4_bind_150 ?_
      refine c_zald G (lf h_a0 3 rfl) dX4_bind_153 (fun v5 _ => ?_)
      refine c_bj (ej := fun (p162 : Int32) => [(0, .ref (wB w + pz (a0))), (2, .int l2_3)]) (sj := fun p162 => [.int p162, .int (M6.1 a0 5), .ref (wB w + pz (a0))]) (mj := fun p162 => M6) (pj := 162) (fun p162 => ?_) (fun F hJ162 => ?_)
      · skip
        refine c_iadd G dX4_bind_162 ?_
        refine c_putI G fp_X4_51 h_a0 rfl dX4_bind_163 (fun M7 _ => ?_)
        refine c_aload_n G dX4_bind_166 rfl 0 rfl ?_
        refine c_dup G dX4_bind_167 rfl ?_
        refine c_getI G fl_X4_47 h_a0 rfl dX4_bind_168 ?_
        refine c_iconst G (nI 1) dX4_bind_171 kI_1 ?_
        refine c_iadd G dX4_bind_172 ?_
        refine c_putI G fp_X4_47 h_a0 rfl dX4_bind_173 (fun M8 _ => ?_)
        refine c_aload_n G dX4_bind_176 rfl 0 rfl ?_
        refine c_getF G fl_X4_15 h_a0 rfl dX4_bind_177 ?_
        refine c_aload_n G dX4_bind_180 rfl 0 rfl ?_
        refine c_getI G fl_X4_47 h_a0 rfl dX4_bind_181 ?_
        refine c_iload_n G dX4_bind_184 rfl 1 rfl ?_
        refine c_iast G (lf h_a0 1 rfl) dX4_bind_185 (fun M9 _ => ?_)
        exact c_vret G hQ dX4_bind_186
      · skip
        refine c_if_eq (tgt := 161) G dX4_bind_154 (by decide) (fun _ => ?_) (fun _ => ?_)
        · skip
          refine c_iconst G (nI 0) dX4_bind_161 kI_0 ?_
          exact c_weak _ [0, 1] rfl (hJ162 (nI 0))
        · skip
          refine c_iconst G (nI 1) dX4_bind_157 kI_1 ?_
          refine c_goto (tgt := 162) G dX4_bind_158 (by decide) ?_
          exact c_weak _ [0, 1] rfl (hJ162 (nI 1))
    · skip
      refine c_jn (ej := fun (p134 : Unit) => [(0, .ref (wB w + pz (a0))), (2, .int l2_3)]) (sj := fun p134 => [.int (M5.1 a0 4), .ref (wB w + pz ((a0 + 4)))]) (mj := fun p134 => M5) (pj := 134) (fun p134 => ?_) (fun J1 hJ134 => ?_)
      · skip
        refine c_iconst G (nI 1) dX4_bind_134 kI_1 ?_
        refine c_goto (tgt := 139) G dX4_bind_135 (by decide) ?_
        exact c_weak _ [0, 1] rfl (hJ139 (nI 1))
      · skip
        refine c_icmp_gt (tgt := 134) G dX4_bind_123 (by decide) (fun _ => ?_) (fun _ => ?_)
        · skip
          exact c_weak _ [0, 2] rfl (hJ134 ())
        · skip
          refine c_aload_n G dX4_bind_126 rfl 0 rfl ?_
          refine c_iload_n G dX4_bind_127 rfl 1 rfl ?_
          refine c_callV_PI (d := 0) (rest := [.int (M5.1 a0 4), .ref (wB w + pz ((a0 + 4)))]) G [.int a1] yv_X4_hangsOnItself ml_X4_120 (by omega) (by decide) rfl rfl (Nat.le_of_ble_eq_true rfl) h_a0 (fun q hq => con_X4_hangsOnItself h_a0 hq) dX4_bind_128 (fun q1 _ => ?_)
          refine c_if_eq (tgt := 138) G dX4_bind_131 (by decide) (fun _ => ?_) (fun _ => ?_)
          · skip
            refine c_iconst G (nI 0) dX4_bind_138 kI_0 ?_
            exact c_weak _ [0, 2] rfl (hJ139 (nI 0))
          · skip
            exact c_weak _ [0, 2] rfl (hJ134 ())
set_option maxHeartbeats 4000000 in
set_option maxRecDepth 100000 in
theorem con_X4_leave {w : Wp} {N : Nat} {a0 : Nat} {a1 : Int32} {M : Mm} {q : Mm} (h_a0 : lay a0 = (5, 4)) (hq : D_X4_leave N a0 a1 M = some q) : Con w 2 yX4_leave cX4_leave 2 none [.ref (wB w + pz (a0)), .int a1] M (encV q) := by
  refine Con.of encV q _ hq (by decide) (Nat.le_of_ble_eq_true rfl) ?_
  intro X G Q hQ
  have G : Good w X cX4_leave 2 RX4 none 2 := G
  refine c_weak [(0, .ref (wB w + pz (a0))), (1, .int a1)] [0, 1] rfl ?_
  rw [D_X4_leave]
  refine c_aload_n G dX4_leave_0 rfl 0 rfl ?_
  refine c_dup G dX4_leave_1 rfl ?_
  refine c_getI G fl_X4_79 h_a0 rfl dX4_leave_2 ?_
  refine c_iconst G (nI 1) dX4_leave_5 kI_1 ?_
  refine c_isub G dX4_leave_6 ?_
  refine c_putI G fp_X4_79 h_a0 rfl dX4_leave_7 (fun M1 _ => ?_)
  refine c_aload_n G dX4_leave_10 rfl 0 rfl ?_
  refine c_getI G fl_X4_79 h_a0 rfl dX4_leave_11 ?_
  refine c_bj (ej := fun (p58 : Mm) => [(0, .ref (wB w + pz (a0))), (1, .int a1)]) (sj := fun p58 => []) (mj := fun p58 => p58) (pj := 58) (fun p58 => ?_) (fun F hJ58 => ?_)
  · skip
    refine c_aload_n G dX4_leave_58 rfl 0 rfl ?_
    refine c_getF G fl_X4_28 h_a0 rfl dX4_leave_59 ?_
    refine c_iload_n G dX4_leave_62 rfl 1 rfl ?_
    refine c_iald G (lf h_a0 8 rfl) dX4_leave_63 (fun v1 _ => ?_)
    refine c_aload_n G dX4_leave_64 rfl 0 rfl ?_
    refine c_getF G fl_X4_25 h_a0 rfl dX4_leave_65 ?_
    refine c_iload_n G dX4_leave_68 rfl 1 rfl ?_
    refine c_iald G (lf h_a0 7 rfl) dX4_leave_69 (fun v2 _ => ?_)
    refine c_icmp_ne (tgt := 78) G dX4_leave_70 (by decide) (fun _ => ?_) (fun _ => ?_)
    · skip
      refine c_aload_n G dX4_leave_73 rfl 0 rfl ?_
      refine c_iload_n G dX4_leave_74 rfl 1 rfl ?_
      refine c_callV_V (d := 1) (rest := []) G [.int a1] yv_X4_bind ml_X4_113 (by omega) (by decide) rfl rfl (Nat.le_of_ble_eq_true rfl) h_a0 (fun q hq => con_X4_bind h_a0 hq) dX4_leave_75 (fun M3 _ => ?_)
      exact c_vret G hQ dX4_leave_78
    · skip
      exact c_vret G hQ dX4_leave_78
  · skip
    refine c_if_le (tgt := 58) G dX4_leave_14 (by decide) (fun _ => ?_) (fun _ => ?_)
    · skip
      exact c_weak _ [0, 1] rfl (hJ58 M1)
    · skip
      refine c_aload_n G dX4_leave_17 rfl 0 rfl ?_
      refine c_getF G fl_X4_28 h_a0 rfl dX4_leave_18 ?_
      refine c_aload_n G dX4_leave_21 rfl 0 rfl ?_
      refine c_getF G fl_X4_34 h_a0 rfl dX4_leave_22 ?_
      refine c_aload_n G dX4_leave_25 rfl 0 rfl ?_
      refine c_getI G fl_X4_79 h_a0 rfl dX4_leave_26 ?_
      refine c_iconst G (nI 1) dX4_leave_29 kI_1 ?_
      refine c_isub G dX4_leave_30 ?_
      refine c_iald G (lf h_a0 11 rfl) dX4_leave_31 (fun v3 _ => ?_)
      refine c_aload_n G dX4_leave_32 rfl 0 rfl ?_
      refine c_getF G fl_X4_28 h_a0 rfl dX4_leave_33 ?_
      refine c_aload_n G dX4_leave_36 rfl 0 rfl ?_
      refine c_getF G fl_X4_34 h_a0 rfl dX4_leave_37 ?_
      refine c_aload_n G dX4_leave_40 rfl 0 rfl ?_
      refine c_getI G fl_X4_79 h_a0 rfl dX4_leave_41 ?_
      refine c_iconst G (nI 1) dX4_leave_44 kI_1 ?_
      refine c_isub G dX4_leave_45 ?_
      refine c_iald G (lf h_a0 11 rfl) dX4_leave_46 (fun v4 _ => ?_)
      refine c_iald G (lf h_a0 8 rfl) dX4_leave_47 (fun v5 _ => ?_)
      refine c_aload_n G dX4_leave_48 rfl 0 rfl ?_
      refine c_getF G fl_X4_28 h_a0 rfl dX4_leave_49 ?_
      refine c_iload_n G dX4_leave_52 rfl 1 rfl ?_
      refine c_iald G (lf h_a0 8 rfl) dX4_leave_53 (fun v6 _ => ?_)
      refine c_mmin G ml_X4_108 ys_J9_min_7cf53 (by omega) (Nat.le_of_ble_eq_true rfl) dX4_leave_54 ?_
      refine c_iast G (lf h_a0 8 rfl) dX4_leave_57 (fun M4 _ => ?_)
      exact c_weak _ [0, 1] rfl (hJ58 M4)
set_option maxHeartbeats 4000000 in
set_option maxRecDepth 100000 in
theorem con_J6_numberOfTrailingZeros_0f7a4 {w : Wp} {N : Nat} {a0 : Int32} {M : Mm} {q : Int32} (hq : D_J6_numberOfTrailingZeros_0f7a4 N a0 M = some q) : Con w 0 yJ6_numberOfTrailingZeros_0f7a4 cJ6_numberOfTrailingZeros_0f7a4 2 (some .int) [.int a0] M ((encPI M) q) := by
  refine Con.of (encPI M) q _ hq (by decide) (Nat.le_of_ble_eq_true rfl) ?_
  intro X G Q hQ
  have G : Good w X cJ6_numberOfTrailingZeros_0f7a4 2 RJ6 (some .int) 0 := G
  refine c_weak [(0, .int a0)] [0] rfl ?_
  rw [D_J6_numberOfTrailingZeros_0f7a4]
  refine c_iload_n G dJ6_numberOfTrailingZeros_0f7a4_0 rfl 0 rfl ?_
  refine c_iconst G m1 dJ6_numberOfTrailingZeros_0f7a4_1 kI_m1 ?_
  refine c_ixor G dJ6_numberOfTrailingZeros_0f7a4_2 ?_
  refine c_iload_n G dJ6_numberOfTrailingZeros_0f7a4_3 rfl 0 rfl ?_
  refine c_iconst G (nI 1) dJ6_numberOfTrailingZeros_0f7a4_4 kI_1 ?_
  refine c_isub G dJ6_numberOfTrailingZeros_0f7a4_5 ?_
  refine c_iand G dJ6_numberOfTrailingZeros_0f7a4_6 ?_
  refine c_let (fun l0_1 _ => ?_)
  refine c_istore_n G [(0, .int l0_1)] dJ6_numberOfTrailingZeros_0f7a4_7 rfl (by decide) rfl ?_
  refine c_iload_n G dJ6_numberOfTrailingZeros_0f7a4_8 rfl 0 rfl ?_
  refine c_if_gt (tgt := 17) G dJ6_numberOfTrailingZeros_0f7a4_9 (by decide) (fun _ => ?_) (fun _ => ?_)
  · skip
    refine c_iconst G (nI 1) dJ6_numberOfTrailingZeros_0f7a4_17 kI_1 ?_
    refine c_istore_n G [(1, .int (nI 1)), (0, .int l0_1)] dJ6_numberOfTrailingZeros_0f7a4_18 rfl (by decide) rfl ?_
    refine c_iload_n G dJ6_numberOfTrailingZeros_0f7a4_19 rfl 1 rfl ?_
    refine c_ldcw G (nI 65536) kC_J6_264 kV_65536 dJ6_numberOfTrailingZeros_0f7a4_20 ?_
    refine c_bj (ej := fun (p34 : Int32 × Int32) => [(0, .int p34.1), (1, .int p34.2)]) (sj := fun p34 => []) (mj := fun p34 => M) (pj := 34) (fun p34 => ?_) (fun F hJ34 => ?_)
    · skip
      refine c_iload_n G dJ6_numberOfTrailingZeros_0f7a4_34 rfl 0 rfl ?_
      refine c_sipush G (nI 256) dJ6_numberOfTrailingZeros_0f7a4_35 kS_256 ?_
      refine c_bj (ej := fun (p49 : Int32 × Int32) => [(0, .int p49.1), (1, .int p49.2)]) (sj := fun p49 => []) (mj := fun p49 => M) (pj := 49) (fun p49 => ?_) (fun F hJ49 => ?_)
      · skip
        refine c_iload_n G dJ6_numberOfTrailingZeros_0f7a4_49 rfl 0 rfl ?_
        refine c_bipush G (nI 16) dJ6_numberOfTrailingZeros_0f7a4_50 kB_16 ?_
        refine c_bj (ej := fun (p62 : Int32 × Int32) => [(0, .int p62.1), (1, .int p62.2)]) (sj := fun p62 => []) (mj := fun p62 => M) (pj := 62) (fun p62 => ?_) (fun F hJ62 => ?_)
        · skip
          refine c_iload_n G dJ6_numberOfTrailingZeros_0f7a4_62 rfl 0 rfl ?_
          refine c_iconst G (nI 4) dJ6_numberOfTrailingZeros_0f7a4_63 kI_4 ?_
          refine c_icmp_le (tgt := 74) G dJ6_numberOfTrailingZeros_0f7a4_64 (by decide) (fun _ => ?_) (fun _ => ?_)
          · skip
            refine c_iload_n G dJ6_numberOfTrailingZeros_0f7a4_74 rfl 1 rfl ?_
            refine c_iload_n G dJ6_numberOfTrailingZeros_0f7a4_75 rfl 0 rfl ?_
            refine c_iconst G (nI 1) dJ6_numberOfTrailingZeros_0f7a4_76 kI_1 ?_
            refine c_iushr G dJ6_numberOfTrailingZeros_0f7a4_77 ?_
            refine c_iadd G dJ6_numberOfTrailingZeros_0f7a4_78 ?_
            exact c_iretP G hQ dJ6_numberOfTrailingZeros_0f7a4_79
          · skip
            refine c_iinc G (fun y__ => [(1, .int y__), (0, .int p62.1)]) dJ6_numberOfTrailingZeros_0f7a4_67 1 rfl kI_2 (by decide) (fun _ => rfl) (fun l1_4 _ => ?_)
            refine c_iload_n G dJ6_numberOfTrailingZeros_0f7a4_70 rfl 1 rfl ?_
            refine c_iconst G (nI 2) dJ6_numberOfTrailingZeros_0f7a4_71 kI_2 ?_
            refine c_iushr G dJ6_numberOfTrailingZeros_0f7a4_72 ?_
            refine c_let (fun l0_5 _ => ?_)
            refine c_istore_n G [(0, .int l0_5), (1, .int l1_4)] dJ6_numberOfTrailingZeros_0f7a4_73 rfl (by decide) rfl ?_
            refine c_iload_n G dJ6_numberOfTrailingZeros_0f7a4_74 rfl 1 rfl ?_
            refine c_iload_n G dJ6_numberOfTrailingZeros_0f7a4_75 rfl 0 rfl ?_
            refine c_iconst G (nI 1) dJ6_numberOfTrailingZeros_0f7a4_76 kI_1 ?_
            refine c_iushr G dJ6_numberOfTrailingZeros_0f7a4_77 ?_
            refine c_iadd G dJ6_numberOfTrailingZeros_0f7a4_78 ?_
            exact c_iretP G hQ dJ6_numberOfTrailingZeros_0f7a4_79
        · skip
          refine c_icmp_le (tgt := 62) G dJ6_numberOfTrailingZeros_0f7a4_52 (by decide) (fun _ => ?_) (fun _ => ?_)
          · skip
            exact c_weak _ [0, 1] rfl (hJ62 (p49.1, p49.2))
          · skip
            refine c_iinc G (fun y__ => [(1, .int y__), (0, .int p49.1)]) dJ6_numberOfTrailingZeros_0f7a4_55 1 rfl kI_4 (by decide) (fun _ => rfl) (fun l1_5 _ => ?_)
            refine c_iload_n G dJ6_numberOfTrailingZeros_0f7a4_58 rfl 1 rfl ?_
            refine c_iconst G (nI 4) dJ6_numberOfTrailingZeros_0f7a4_59 kI_4 ?_
            refine c_iushr G dJ6_numberOfTrailingZeros_0f7a4_60 ?_
            refine c_let (fun l0_6 _ => ?_)
            refine c_istore_n G [(0, .int l0_6), (1, .int l1_5)] dJ6_numberOfTrailingZeros_0f7a4_61 rfl (by decide) rfl ?_
            exact c_weak _ [0, 1] rfl (hJ62 (l0_6, l1_5))
      · skip
        refine c_icmp_le (tgt := 49) G dJ6_numberOfTrailingZeros_0f7a4_38 (by decide) (fun _ => ?_) (fun _ => ?_)
        · skip
          exact c_weak _ [0, 1] rfl (hJ49 (p34.1, p34.2))
        · skip
          refine c_iinc G (fun y__ => [(1, .int y__), (0, .int p34.1)]) dJ6_numberOfTrailingZeros_0f7a4_41 1 rfl kI_8 (by decide) (fun _ => rfl) (fun l1_6 _ => ?_)
          refine c_iload_n G dJ6_numberOfTrailingZeros_0f7a4_44 rfl 1 rfl ?_
          refine c_bipush G (nI 8) dJ6_numberOfTrailingZeros_0f7a4_45 kB_8 ?_
          refine c_iushr G dJ6_numberOfTrailingZeros_0f7a4_47 ?_
          refine c_let (fun l0_7 _ => ?_)
          refine c_istore_n G [(0, .int l0_7), (1, .int l1_6)] dJ6_numberOfTrailingZeros_0f7a4_48 rfl (by decide) rfl ?_
          exact c_weak _ [0, 1] rfl (hJ49 (l0_7, l1_6))
    · skip
      refine c_icmp_le (tgt := 34) G dJ6_numberOfTrailingZeros_0f7a4_23 (by decide) (fun _ => ?_) (fun _ => ?_)
      · skip
        exact c_weak _ [1, 0] rfl (hJ34 (l0_1, (nI 1)))
      · skip
        refine c_iinc G (fun y__ => [(1, .int y__), (0, .int l0_1)]) dJ6_numberOfTrailingZeros_0f7a4_26 0 rfl kI_16 (by decide) (fun _ => rfl) (fun l1_7 _ => ?_)
        refine c_iload_n G dJ6_numberOfTrailingZeros_0f7a4_29 rfl 1 rfl ?_
        refine c_bipush G (nI 16) dJ6_numberOfTrailingZeros_0f7a4_30 kB_16 ?_
        refine c_iushr G dJ6_numberOfTrailingZeros_0f7a4_32 ?_
        refine c_let (fun l0_8 _ => ?_)
        refine c_istore_n G [(0, .int l0_8), (1, .int l1_7)] dJ6_numberOfTrailingZeros_0f7a4_33 rfl (by decide) rfl ?_
        exact c_weak _ [0, 1] rfl (hJ34 (l0_8, l1_7))
  · skip
    refine c_iload_n G dJ6_numberOfTrailingZeros_0f7a4_12 rfl 0 rfl ?_
    refine c_bipush G (nI 32) dJ6_numberOfTrailingZeros_0f7a4_13 kB_32 ?_
    refine c_iand G dJ6_numberOfTrailingZeros_0f7a4_15 ?_
    exact c_iretP G hQ dJ6_numberOfTrailingZeros_0f7a4_16
set_option maxHeartbeats 4000000 in
set_option maxRecDepth 100000 in
theorem con_X8_instance {w : Wp} {N : Nat} {a0 : Nat} {a1 : Int32} {a2 : Int32} {M : Mm} {q : Int32} (h_a0 : lay a0 = (5, 8)) (hq : D_X8_instance N a0 a1 a2 M = some q) : Con w 0 yX8_instance cX8_instance 3 (some .int) [.ref (wB w + pz (a0)), .int a1, .int a2] M ((encPI M) q) := by
  refine Con.of (encPI M) q _ hq (by decide) (Nat.le_of_ble_eq_true rfl) ?_
  intro X G Q hQ
  have G : Good w X cX8_instance 3 RX8 (some .int) 0 := G
  refine c_weak [(0, .ref (wB w + pz (a0))), (1, .int a1), (2, .int a2)] [0, 1, 2] rfl ?_
  rw [D_X8_instance]
  refine c_bipush G (nI 8) dX8_instance_0 kB_8 ?_
  refine c_aload_n G dX8_instance_2 rfl 0 rfl ?_
  refine c_getF G fl_X8_42 h_a0 rfl dX8_instance_3 ?_
  refine c_iconst G (nI 4) dX8_instance_6 kI_4 ?_
  refine c_iload_n G dX8_instance_7 rfl 1 rfl ?_
  refine c_imul G dX8_instance_8 ?_
  refine c_iload_n G dX8_instance_9 rfl 2 rfl ?_
  refine c_bipush G (nI 8) dX8_instance_10 kB_8 ?_
  refine c_idiv G dX8_instance_12 (fun v1 _ => ?_)
  refine c_iadd G dX8_instance_13 ?_
  refine c_iald G (lf h_a0 11 rfl) dX8_instance_14 (fun v2 _ => ?_)
  refine c_imul G dX8_instance_15 ?_
  refine c_iload_n G dX8_instance_16 rfl 2 rfl ?_
  refine c_bipush G (nI 8) dX8_instance_17 kB_8 ?_
  refine c_irem G dX8_instance_19 (fun v3 _ => ?_)
  refine c_iadd G dX8_instance_20 ?_
  exact c_iretP G hQ dX8_instance_21
set_option maxHeartbeats 4000000 in
set_option maxRecDepth 100000 in
theorem con_X4_look {w : Wp} {N : Nat} {a0 : Nat} {a1 : Int32} {a2 : Int32} {M : Mm} {q : Mm} (h_a0 : lay a0 = (5, 4)) (hq : D_X4_look N a0 a1 a2 M = some q) : Con w 1 yX4_look cX4_look 3 none [.ref (wB w + pz (a0)), .int a1, .int a2] M (encV q) := by
  refine Con.of encV q _ hq (by decide) (Nat.le_of_ble_eq_true rfl) ?_
  intro X G Q hQ
  have G : Good w X cX4_look 3 RX4 none 1 := G
  refine c_weak [(0, .ref (wB w + pz (a0))), (1, .int a1), (2, .int a2)] [0, 1, 2] rfl ?_
  rw [D_X4_look]
  refine c_aload_n G dX4_look_0 rfl 0 rfl ?_
  refine c_getF G fl_X4_25 h_a0 rfl dX4_look_1 ?_
  refine c_iload_n G dX4_look_4 rfl 2 rfl ?_
  refine c_iald G (lf h_a0 7 rfl) dX4_look_5 (fun v1 _ => ?_)
  refine c_if_ne (tgt := 17) G dX4_look_6 (by decide) (fun _ => ?_) (fun _ => ?_)
  · skip
    refine c_aload_n G dX4_look_9 rfl 0 rfl ?_
    refine c_iload_n G dX4_look_10 rfl 2 rfl ?_
    refine c_callV_V (d := 0) (rest := []) G [.int a2] yv_X4_enter ml_X4_82 (by omega) (by decide) rfl rfl (Nat.le_of_ble_eq_true rfl) h_a0 (fun q hq => con_X4_enter h_a0 hq) dX4_look_11 (fun M1 _ => ?_)
    refine c_goto (tgt := 48) G dX4_look_14 (by decide) ?_
    exact c_vret G hQ dX4_look_48
  · skip
    refine c_aload_n G dX4_look_17 rfl 0 rfl ?_
    refine c_getF G fl_X4_18 h_a0 rfl dX4_look_18 ?_
    refine c_iload_n G dX4_look_21 rfl 2 rfl ?_
    refine c_iald G (lf h_a0 2 rfl) dX4_look_22 (fun v2 _ => ?_)
    refine c_iconst G m1 dX4_look_23 kI_m1 ?_
    refine c_icmp_ne (tgt := 48) G dX4_look_24 (by decide) (fun _ => ?_) (fun _ => ?_)
    · skip
      refine c_aload_n G dX4_look_27 rfl 0 rfl ?_
      refine c_getF G fl_X4_28 h_a0 rfl dX4_look_28 ?_
      refine c_iload_n G dX4_look_31 rfl 1 rfl ?_
      refine c_aload_n G dX4_look_32 rfl 0 rfl ?_
      refine c_getF G fl_X4_28 h_a0 rfl dX4_look_33 ?_
      refine c_iload_n G dX4_look_36 rfl 1 rfl ?_
      refine c_iald G (lf h_a0 8 rfl) dX4_look_37 (fun v3 _ => ?_)
      refine c_aload_n G dX4_look_38 rfl 0 rfl ?_
      refine c_getF G fl_X4_25 h_a0 rfl dX4_look_39 ?_
      refine c_iload_n G dX4_look_42 rfl 2 rfl ?_
      refine c_iald G (lf h_a0 7 rfl) dX4_look_43 (fun v4 _ => ?_)
      refine c_mmin G ml_X4_108 ys_J9_min_7cf53 (by omega) (Nat.le_of_ble_eq_true rfl) dX4_look_44 ?_
      refine c_iast G (lf h_a0 8 rfl) dX4_look_47 (fun M2 _ => ?_)
      exact c_vret G hQ dX4_look_48
    · skip
      exact c_vret G hQ dX4_look_48
set_option maxHeartbeats 4000000 in
set_option maxRecDepth 100000 in
theorem cl_X4_explore_12 {w : Wp} {X : Cx} {Q : State → Prop} {ρ : Mm} (G : Good w X cX4_explore 5 RX4 none 3) (hQ : Q = MQ (xL X) (Qd w (encV ρ)) (xA X) (xS X) (xk X) (xs X) (Aw w)) {a0 : Nat} {N : Nat} (h_a0 : lay a0 = (5, 4)) : ∀ (n : Nat) (l2_1 : Int32) (M3 : Mm), Cov w X Q ρ some 5 12 [(0, .ref (wB w + pz (a0))), (2, .int l2_1)] [] M3 (L_X4_explore_12 a0 N n l2_1 M3) := by
  intro n
  induction n with
  | zero => intro l2_1 M3; exact c_none
  | succ n ih =>
    intro l2_1 M3
    rw [L_X4_explore_12]
    refine c_iload_n G dX4_explore_12 rfl 1 rfl ?_
    refine c_sipush G (nI 10880) dX4_explore_13 kS_10880 ?_
    refine c_icmp_ge (tgt := 114) G dX4_explore_16 (by decide) (fun _ => ?_) (fun _ => ?_)
    · skip
      exact c_vret G hQ dX4_explore_114
    · skip
      refine c_aload_n G dX4_explore_19 rfl 0 rfl ?_
      refine c_getI G fl_X4_79 h_a0 rfl dX4_explore_20 ?_
      refine c_if_le (tgt := 114) G dX4_explore_23 (by decide) (fun _ => ?_) (fun _ => ?_)
      · skip
        exact c_vret G hQ dX4_explore_114
      · skip
        refine c_aload_n G dX4_explore_26 rfl 0 rfl ?_
        refine c_getF G fl_X4_34 h_a0 rfl dX4_explore_27 ?_
        refine c_aload_n G dX4_explore_30 rfl 0 rfl ?_
        refine c_getI G fl_X4_79 h_a0 rfl dX4_explore_31 ?_
        refine c_iconst G (nI 1) dX4_explore_34 kI_1 ?_
        refine c_isub G dX4_explore_35 ?_
        refine c_iald G (lf h_a0 11 rfl) dX4_explore_36 (fun v1 _ => ?_)
        refine c_istore_n G [(3, .int v1), (0, .ref (wB w + pz (a0))), (2, .int l2_1)] dX4_explore_37 rfl (by decide) rfl ?_
        refine c_aload_n G dX4_explore_38 rfl 1 rfl ?_
        refine c_getF G fl_X4_37 h_a0 rfl dX4_explore_39 ?_
        refine c_aload_n G dX4_explore_42 rfl 1 rfl ?_
        refine c_getI G fl_X4_79 h_a0 rfl dX4_explore_43 ?_
        refine c_iconst G (nI 1) dX4_explore_46 kI_1 ?_
        refine c_isub G dX4_explore_47 ?_
        refine c_iald G (lf h_a0 12 rfl) dX4_explore_48 (fun v2 _ => ?_)
        refine c_istore G [(4, .int v2), (3, .int v1), (0, .ref (wB w + pz (a0))), (2, .int l2_1)] dX4_explore_49 (by decide) rfl ?_
        refine c_iload G dX4_explore_51 0 rfl ?_
        refine c_if_ne (tgt := 64) G dX4_explore_53 (by decide) (fun _ => ?_) (fun _ => ?_)
        · skip
          refine c_aload_n G dX4_explore_56 rfl 2 rfl ?_
          refine c_iload_n G dX4_explore_57 rfl 1 rfl ?_
          refine c_callV_V (d := 2) (rest := []) G [.int v1] yv_X4_leave ml_X4_85 (by omega) (by decide) rfl rfl (Nat.le_of_ble_eq_true rfl) h_a0 (fun q hq => con_X4_leave h_a0 hq) dX4_explore_58 (fun M4 _ => ?_)
          refine c_goto (tgt := 108) G dX4_explore_61 (by decide) ?_
          refine c_iinc G (fun y__ => [(2, .int y__), (4, .int v2), (3, .int v1), (0, .ref (wB w + pz (a0)))]) dX4_explore_108 3 rfl kI_1 (by decide) (fun _ => rfl) (fun l2_2 _ => ?_)
          refine c_goto (tgt := 12) G dX4_explore_111 (by decide) ?_
          exact c_weak _ [3, 0] rfl (ih l2_2 M4)
        · skip
          refine c_aload_n G dX4_explore_64 rfl 2 rfl ?_
          refine c_getF G fl_X4_37 h_a0 rfl dX4_explore_65 ?_
          refine c_aload_n G dX4_explore_68 rfl 2 rfl ?_
          refine c_getI G fl_X4_79 h_a0 rfl dX4_explore_69 ?_
          refine c_iconst G (nI 1) dX4_explore_72 kI_1 ?_
          refine c_isub G dX4_explore_73 ?_
          refine c_iload G dX4_explore_74 0 rfl ?_
          refine c_iload G dX4_explore_76 0 rfl ?_
          refine c_iconst G (nI 1) dX4_explore_78 kI_1 ?_
          refine c_isub G dX4_explore_79 ?_
          refine c_iand G dX4_explore_80 ?_
          refine c_iast G (lf h_a0 12 rfl) dX4_explore_81 (fun M5 _ => ?_)
          refine c_aload_n G dX4_explore_82 rfl 2 rfl ?_
          refine c_iload_n G dX4_explore_83 rfl 1 rfl ?_
          refine c_aload_n G dX4_explore_84 rfl 2 rfl ?_
          refine c_getR (c' := 8) G fl_X4_43 h_a0 rfl dX4_explore_85 (fun r1 _ h_r1 => ?_)
          refine c_aload_n G dX4_explore_88 rfl 2 rfl ?_
          refine c_getR (c' := 8) G fl_X4_43 h_a0 rfl dX4_explore_89 (fun r2 _ h_r2 => ?_)
          refine c_getF G fl_X4_88 h_r2 rfl dX4_explore_92 ?_
          refine c_iload_n G dX4_explore_95 rfl 1 rfl ?_
          refine c_iald G (lf h_r2 13 rfl) dX4_explore_96 (fun v3 _ => ?_)
          refine c_iload G dX4_explore_97 0 rfl ?_
          refine c_callS_PI (d := 0) (rest := [.int v3, .ref (wB w + pz (r1)), .int v1, .ref (wB w + pz (a0))]) G [.int v2] ys_J6_numberOfTrailingZeros_0f7a4 ml_X4_91 (by omega) (by decide) rfl rfl (Nat.le_of_ble_eq_true rfl) (fun q hq => con_J6_numberOfTrailingZeros_0f7a4 hq) dX4_explore_99 (fun q1 _ => ?_)
          refine c_callV_PI (d := 0) (rest := [.int v1, .ref (wB w + pz (a0))]) G [.int v3, .int q1] yv_X8_instance ml_X4_97 (by omega) (by decide) rfl rfl (Nat.le_of_ble_eq_true rfl) h_r1 (fun q hq => con_X8_instance h_r1 hq) dX4_explore_102 (fun q2 _ => ?_)
          refine c_callV_V (d := 1) (rest := []) G [.int v1, .int q2] yv_X4_look ml_X4_101 (by omega) (by decide) rfl rfl (Nat.le_of_ble_eq_true rfl) h_a0 (fun q hq => con_X4_look h_a0 hq) dX4_explore_105 (fun M6 _ => ?_)
          refine c_iinc G (fun y__ => [(2, .int y__), (4, .int v2), (3, .int v1), (0, .ref (wB w + pz (a0)))]) dX4_explore_108 3 rfl kI_1 (by decide) (fun _ => rfl) (fun l2_3 _ => ?_)
          refine c_goto (tgt := 12) G dX4_explore_111 (by decide) ?_
          exact c_weak _ [3, 0] rfl (ih l2_3 M6)
set_option maxHeartbeats 4000000 in
set_option maxRecDepth 100000 in
theorem con_X4_explore {w : Wp} {N : Nat} {a0 : Nat} {a1 : Int32} {M : Mm} {q : Mm} (h_a0 : lay a0 = (5, 4)) (hq : D_X4_explore N a0 a1 M = some q) : Con w 3 yX4_explore cX4_explore 5 none [.ref (wB w + pz (a0)), .int a1] M (encV q) := by
  refine Con.of encV q _ hq (by decide) (Nat.le_of_ble_eq_true rfl) ?_
  intro X G Q hQ
  have G : Good w X cX4_explore 5 RX4 none 3 := G
  refine c_weak [(0, .ref (wB w + pz (a0))), (1, .int a1)] [0, 1] rfl ?_
  rw [D_X4_explore]
  refine c_aload_n G dX4_explore_0 rfl 0 rfl ?_
  refine c_iconst G (nI 0) dX4_explore_1 kI_0 ?_
  refine c_putI G fp_X4_79 h_a0 rfl dX4_explore_2 (fun M1 _ => ?_)
  refine c_aload_n G dX4_explore_5 rfl 0 rfl ?_
  refine c_iload_n G dX4_explore_6 rfl 1 rfl ?_
  refine c_callV_V (d := 0) (rest := []) G [.int a1] yv_X4_enter ml_X4_82 (by omega) (by decide) rfl rfl (Nat.le_of_ble_eq_true rfl) h_a0 (fun q hq => con_X4_enter h_a0 hq) dX4_explore_7 (fun M2 _ => ?_)
  refine c_iconst G (nI 0) dX4_explore_10 kI_0 ?_
  refine c_istore_n G [(2, .int (nI 0)), (0, .ref (wB w + pz (a0))), (1, .int a1)] dX4_explore_11 rfl (by decide) rfl ?_
  refine c_weak _ [1, 0] rfl (cl_X4_explore_12 G hQ  h_a0 N (nI 0) M2)
set_option maxHeartbeats 4000000 in
set_option maxRecDepth 100000 in
theorem cl_X4_find_50 {w : Wp} {X : Cx} {Q : State → Prop} {ρ : Mm} (G : Good w X cX4_find 3 RX4 none 4) (hQ : Q = MQ (xL X) (Qd w (encV ρ)) (xA X) (xS X) (xk X) (xs X) (Aw w)) {a0 : Nat} {N : Nat} (h_a0 : lay a0 = (5, 4)) : ∀ (n : Nat) (l2_1 : Int32) (M9 : Mm), Cov w X Q ρ some 3 50 [(0, .ref (wB w + pz (a0))), (2, .int l2_1)] [] M9 (L_X4_find_50 a0 N n l2_1 M9) := by
  intro n
  induction n with
  | zero => intro l2_1 M9; exact c_none
  | succ n ih =>
    intro l2_1 M9
    rw [L_X4_find_50]
    refine c_iload_n G dX4_find_50 rfl 1 rfl ?_
    refine c_bipush G (nI 8) dX4_find_51 kB_8 ?_
    refine c_aload_n G dX4_find_53 rfl 0 rfl ?_
    refine c_getR (c' := 8) G fl_X4_43 h_a0 rfl dX4_find_54 (fun r1 _ h_r1 => ?_)
    refine c_getI G fl_X4_66 h_r1 rfl dX4_find_57 ?_
    refine c_imul G dX4_find_60 ?_
    refine c_icmp_ge (tgt := 102) G dX4_find_61 (by decide) (fun _ => ?_) (fun _ => ?_)
    · skip
      exact c_vret G hQ dX4_find_102
    · skip
      refine c_aload_n G dX4_find_64 rfl 0 rfl ?_
      refine c_getR (c' := 8) G fl_X4_43 h_a0 rfl dX4_find_65 (fun r2 _ h_r2 => ?_)
      refine c_iload_n G dX4_find_68 rfl 1 rfl ?_
      refine c_bipush G (nI 8) dX4_find_69 kB_8 ?_
      refine c_idiv G dX4_find_71 (fun v1 _ => ?_)
      refine c_iload_n G dX4_find_72 rfl 1 rfl ?_
      refine c_bipush G (nI 8) dX4_find_73 kB_8 ?_
      refine c_irem G dX4_find_75 (fun v2 _ => ?_)
      refine c_callV_PI (d := 0) (rest := []) G [.int v1, .int v2] yv_X8_hasInstance ml_X4_71 (by omega) (by decide) rfl rfl (Nat.le_of_ble_eq_true rfl) h_r2 (fun q hq => con_X8_hasInstance h_r2 hq) dX4_find_76 (fun q1 _ => ?_)
      refine c_if_eq (tgt := 96) G dX4_find_79 (by decide) (fun _ => ?_) (fun _ => ?_)
      · skip
        refine c_iinc G (fun y__ => [(2, .int y__), (0, .ref (wB w + pz (a0)))]) dX4_find_96 1 rfl kI_1 (by decide) (fun _ => rfl) (fun l2_2 _ => ?_)
        refine c_goto (tgt := 50) G dX4_find_99 (by decide) ?_
        exact c_weak _ [1, 0] rfl (ih l2_2 M9)
      · skip
        refine c_aload_n G dX4_find_82 rfl 0 rfl ?_
        refine c_getF G fl_X4_25 h_a0 rfl dX4_find_83 ?_
        refine c_iload_n G dX4_find_86 rfl 1 rfl ?_
        refine c_iald G (lf h_a0 7 rfl) dX4_find_87 (fun v3 _ => ?_)
        refine c_if_ne (tgt := 96) G dX4_find_88 (by decide) (fun _ => ?_) (fun _ => ?_)
        · skip
          refine c_aload_n G dX4_find_91 rfl 0 rfl ?_
          refine c_iload_n G dX4_find_92 rfl 1 rfl ?_
          refine c_callV_V (d := 3) (rest := []) G [.int l2_1] yv_X4_explore ml_X4_75 (by omega) (by decide) rfl rfl (Nat.le_of_ble_eq_true rfl) h_a0 (fun q hq => con_X4_explore h_a0 hq) dX4_find_93 (fun M10 _ => ?_)
          refine c_iinc G (fun y__ => [(2, .int y__), (0, .ref (wB w + pz (a0)))]) dX4_find_96 1 rfl kI_1 (by decide) (fun _ => rfl) (fun l2_3 _ => ?_)
          refine c_goto (tgt := 50) G dX4_find_99 (by decide) ?_
          exact c_weak _ [1, 0] rfl (ih l2_3 M10)
        · skip
          refine c_iinc G (fun y__ => [(2, .int y__), (0, .ref (wB w + pz (a0)))]) dX4_find_96 1 rfl kI_1 (by decide) (fun _ => rfl) (fun l2_4 _ => ?_)
          refine c_goto (tgt := 50) G dX4_find_99 (by decide) ?_
          exact c_weak _ [1, 0] rfl (ih l2_4 M9)
set_option maxHeartbeats 4000000 in
set_option maxRecDepth 100000 in
theorem con_X4_find {w : Wp} {N : Nat} {a0 : Nat} {a1 : Nat} {M : Mm} {q : Mm} (h_a0 : lay a0 = (5, 4)) (h_a1 : lay a1 = (5, 8)) (hq : D_X4_find N a0 a1 M = some q) : Con w 4 yX4_find cX4_find 3 none [.ref (wB w + pz (a0)), .ref (wB w + pz (a1))] M (encV q) := by
  refine Con.of encV q _ hq (by decide) (Nat.le_of_ble_eq_true rfl) ?_
  intro X G Q hQ
  have G : Good w X cX4_find 3 RX4 none 4 := G
  refine c_weak [(0, .ref (wB w + pz (a0))), (1, .ref (wB w + pz (a1)))] [0, 1] rfl ?_
  rw [D_X4_find]
  refine c_aload_n G dX4_find_0 rfl 0 rfl ?_
  refine c_aload_n G dX4_find_1 rfl 1 rfl ?_
  refine c_putN G fp_X4_43 (Or.inl ⟨_, rfl⟩) h_a0 h_a1 (by decide) rfl dX4_find_2 (fun M1 _ => ?_)
  refine c_aload_n G dX4_find_5 rfl 0 rfl ?_
  refine c_iconst G (nI 0) dX4_find_6 kI_0 ?_
  refine c_putI G fp_X4_47 h_a0 rfl dX4_find_7 (fun M2 _ => ?_)
  refine c_aload_n G dX4_find_10 rfl 0 rfl ?_
  refine c_iconst G (nI 0) dX4_find_11 kI_0 ?_
  refine c_putI G fp_X4_51 h_a0 rfl dX4_find_12 (fun M3 _ => ?_)
  refine c_aload_n G dX4_find_15 rfl 0 rfl ?_
  refine c_iconst G (nI 0) dX4_find_16 kI_0 ?_
  refine c_putI G fp_X4_54 h_a0 rfl dX4_find_17 (fun M4 _ => ?_)
  refine c_aload_n G dX4_find_20 rfl 0 rfl ?_
  refine c_iconst G (nI 0) dX4_find_21 kI_0 ?_
  refine c_putI G fp_X4_57 h_a0 rfl dX4_find_22 (fun M5 _ => ?_)
  refine c_aload_n G dX4_find_25 rfl 0 rfl ?_
  refine c_getF G fl_X4_15 h_a0 rfl dX4_find_26 ?_
  refine c_iconst G (nI 0) dX4_find_29 kI_0 ?_
  refine c_iconst G (nI 0) dX4_find_30 kI_0 ?_
  refine c_iast G (lf h_a0 1 rfl) dX4_find_31 (fun M6 _ => ?_)
  refine c_aload_n G dX4_find_32 rfl 0 rfl ?_
  refine c_getF G fl_X4_25 h_a0 rfl dX4_find_33 ?_
  refine c_iconst G (nI 0) dX4_find_36 kI_0 ?_
  refine c_callS_V (d := 0) (rest := []) G [.ref (wB w + pz ((a0 + 5))), .int (nI 0)] ys_J7_fill_53178 ml_X4_60 (by omega) (by decide) rfl rfl (Nat.le_of_ble_eq_true rfl) (fun q hq => con_J7_fill_53178 (ll (lf h_a0 7 rfl)) hq) dX4_find_37 (fun M7 _ => ?_)
  refine c_aload_n G dX4_find_40 rfl 0 rfl ?_
  refine c_getF G fl_X4_18 h_a0 rfl dX4_find_41 ?_
  refine c_iconst G m1 dX4_find_44 kI_m1 ?_
  refine c_callS_V (d := 0) (rest := []) G [.ref (wB w + pz ((a0 + 3))), .int m1] ys_J7_fill_53178 ml_X4_60 (by omega) (by decide) rfl rfl (Nat.le_of_ble_eq_true rfl) (fun q hq => con_J7_fill_53178 (ll (lf h_a0 2 rfl)) hq) dX4_find_45 (fun M8 _ => ?_)
  refine c_iconst G (nI 0) dX4_find_48 kI_0 ?_
  refine c_istore_n G [(2, .int (nI 0)), (0, .ref (wB w + pz (a0))), (1, .ref (wB w + pz (a1)))] dX4_find_49 rfl (by decide) rfl ?_
  refine c_weak _ [1, 0] rfl (cl_X4_find_50 G hQ  h_a0 N (nI 0) M8)
set_option maxHeartbeats 4000000 in
set_option maxRecDepth 100000 in
theorem con_X4_first {w : Wp} {N : Nat} {a0 : Nat} {a1 : Int32} {M : Mm} {q : Int32} (h_a0 : lay a0 = (5, 4)) (hq : D_X4_first N a0 a1 M = some q) : Con w 0 yX4_first cX4_first 2 (some .int) [.ref (wB w + pz (a0)), .int a1] M ((encPI M) q) := by
  refine Con.of (encPI M) q _ hq (by decide) (Nat.le_of_ble_eq_true rfl) ?_
  intro X G Q hQ
  have G : Good w X cX4_first 2 RX4 (some .int) 0 := G
  refine c_weak [(0, .ref (wB w + pz (a0))), (1, .int a1)] [0, 1] rfl ?_
  rw [D_X4_first]
  refine c_aload_n G dX4_first_0 rfl 0 rfl ?_
  refine c_getF G fl_X4_9 h_a0 rfl dX4_first_1 ?_
  refine c_aload_n G dX4_first_4 rfl 0 rfl ?_
  refine c_getF G fl_X4_15 h_a0 rfl dX4_first_5 ?_
  refine c_iload_n G dX4_first_8 rfl 1 rfl ?_
  refine c_iald G (lf h_a0 1 rfl) dX4_first_9 (fun v1 _ => ?_)
  refine c_iald G (lf h_a0 0 rfl) dX4_first_10 (fun v2 _ => ?_)
  exact c_iretP G hQ dX4_first_11
set_option maxHeartbeats 4000000 in
set_option maxRecDepth 100000 in
theorem con_X10_load {w : Wp} {N : Nat} {a0 : Nat} {a1 : Int32} {a2 : Int32} {M : Mm} {q : Int32} (h_a0 : lay a0 = (5, 10)) (hq : D_X10_load N a0 a1 a2 M = some q) : Con w 1 yX10_load cX10_load 3 (some .int) [.ref (wB w + pz (a0)), .int a1, .int a2] M ((encPI M) q) := by
  refine Con.of (encPI M) q _ hq (by decide) (Nat.le_of_ble_eq_true rfl) ?_
  intro X G Q hQ
  have G : Good w X cX10_load 3 RX10 (some .int) 1 := G
  refine c_weak [(0, .ref (wB w + pz (a0))), (1, .int a1), (2, .int a2)] [0, 1, 2] rfl ?_
  rw [D_X10_load]
  refine c_iload_n G dX10_load_0 rfl 2 rfl ?_
  refine c_sipush G (nI 20000) dX10_load_1 kS_20000 ?_
  refine c_icmp_ne (tgt := 17) G dX10_load_4 (by decide) (fun _ => ?_) (fun _ => ?_)
  · skip
    refine c_aload_n G dX10_load_7 rfl 0 rfl ?_
    refine c_getR (c' := 8) G fl_X10_36 h_a0 rfl dX10_load_8 (fun r1 _ h_r1 => ?_)
    refine c_getF G fl_X10_98 h_r1 rfl dX10_load_11 ?_
    refine c_iload_n G dX10_load_14 rfl 1 rfl ?_
    refine c_iald G (lf h_r1 2 rfl) dX10_load_15 (fun v1 _ => ?_)
    exact c_iretP G hQ dX10_load_16
  · skip
    refine c_iload_n G dX10_load_17 rfl 2 rfl ?_
    refine c_sipush G (nI 10000) dX10_load_18 kS_10000 ?_
    refine c_icmp_ge (tgt := 28) G dX10_load_21 (by decide) (fun _ => ?_) (fun _ => ?_)
    · skip
      refine c_aload_n G dX10_load_28 rfl 0 rfl ?_
      refine c_getF G fl_X10_18 h_a0 rfl dX10_load_29 ?_
      refine c_aload_n G dX10_load_32 rfl 0 rfl ?_
      refine c_getR (c' := 8) G fl_X10_36 h_a0 rfl dX10_load_33 (fun r2 _ h_r2 => ?_)
      refine c_iload_n G dX10_load_36 rfl 1 rfl ?_
      refine c_iload_n G dX10_load_37 rfl 2 rfl ?_
      refine c_sipush G (nI 10000) dX10_load_38 kS_10000 ?_
      refine c_isub G dX10_load_41 ?_
      refine c_callV_PI (d := 0) (rest := [.ref (wB w + pz ((a0 + 12)))]) G [.int a1, .int (a2 - (nI 10000))] yv_X8_instance ml_X10_101 (by omega) (by decide) rfl rfl (Nat.le_of_ble_eq_true rfl) h_r2 (fun q hq => con_X8_instance h_r2 hq) dX10_load_42 (fun q1 _ => ?_)
      refine c_iald G (lf h_a0 1 rfl) dX10_load_45 (fun v2 _ => ?_)
      exact c_iretP G hQ dX10_load_46
    · skip
      refine c_iload_n G dX10_load_24 rfl 2 rfl ?_
      refine c_goto (tgt := 46) G dX10_load_25 (by decide) ?_
      exact c_iretP G hQ dX10_load_46
set_option maxHeartbeats 4000000 in
set_option maxRecDepth 100000 in
theorem con_X10_join {w : Wp} {N : Nat} {a0 : Int32} {a1 : Int32} {a2 : Int32} {M : Mm} {q : Int32} (hq : D_X10_join N a0 a1 a2 M = some q) : Con w 1 yX10_join cX10_join 3 (some .int) [.int a0, .int a1, .int a2] M ((encPI M) q) := by
  refine Con.of (encPI M) q _ hq (by decide) (Nat.le_of_ble_eq_true rfl) ?_
  intro X G Q hQ
  have G : Good w X cX10_join 3 RX10 (some .int) 1 := G
  refine c_weak [(0, .int a0), (1, .int a1), (2, .int a2)] [0, 1, 2] rfl ?_
  rw [D_X10_join]
  refine c_iload_n G dX10_join_0 rfl 0 rfl ?_
  refine c_tsw (tgt := 44) G (nI 0) 0 dX10_join_1 (by decide +kernel) (by decide +kernel) rfl (by decide) (fun _ => ?_) (fun hn0 => ?_)
  · skip
    refine c_iload_n G dX10_join_44 rfl 1 rfl ?_
    refine c_iload_n G dX10_join_45 rfl 2 rfl ?_
    refine c_iadd G dX10_join_46 ?_
    exact c_iretP G hQ dX10_join_47
  · skip
    refine c_tsw (tgt := 48) G (nI 1) 1 dX10_join_1 (by decide +kernel) (by decide +kernel) rfl (by decide) (fun _ => ?_) (fun hn1 => ?_)
    · skip
      refine c_iload_n G dX10_join_48 rfl 1 rfl ?_
      refine c_iload_n G dX10_join_49 rfl 2 rfl ?_
      refine c_isub G dX10_join_50 ?_
      exact c_iretP G hQ dX10_join_51
    · skip
      refine c_tsw (tgt := 52) G (nI 2) 2 dX10_join_1 (by decide +kernel) (by decide +kernel) rfl (by decide) (fun _ => ?_) (fun hn2 => ?_)
      · skip
        refine c_iload_n G dX10_join_52 rfl 1 rfl ?_
        refine c_iload_n G dX10_join_53 rfl 2 rfl ?_
        refine c_imul G dX10_join_54 ?_
        exact c_iretP G hQ dX10_join_55
      · skip
        refine c_tsw (tgt := 56) G (nI 3) 3 dX10_join_1 (by decide +kernel) (by decide +kernel) rfl (by decide) (fun _ => ?_) (fun hn3 => ?_)
        · skip
          refine c_iload_n G dX10_join_56 rfl 1 rfl ?_
          refine c_iload_n G dX10_join_57 rfl 2 rfl ?_
          refine c_ior G dX10_join_58 ?_
          exact c_iretP G hQ dX10_join_59
        · skip
          refine c_tsw (tgt := 60) G (nI 4) 4 dX10_join_1 (by decide +kernel) (by decide +kernel) rfl (by decide) (fun _ => ?_) (fun hn4 => ?_)
          · skip
            refine c_iload_n G dX10_join_60 rfl 1 rfl ?_
            refine c_iload_n G dX10_join_61 rfl 2 rfl ?_
            refine c_iand G dX10_join_62 ?_
            exact c_iretP G hQ dX10_join_63
          · skip
            refine c_tsw (tgt := 64) G (nI 5) 5 dX10_join_1 (by decide +kernel) (by decide +kernel) rfl (by decide) (fun _ => ?_) (fun hn5 => ?_)
            · skip
              refine c_iload_n G dX10_join_64 rfl 1 rfl ?_
              refine c_iload_n G dX10_join_65 rfl 2 rfl ?_
              refine c_icmp_ge (tgt := 73) G dX10_join_66 (by decide) (fun _ => ?_) (fun _ => ?_)
              · skip
                refine c_iconst G (nI 0) dX10_join_73 kI_0 ?_
                exact c_iretP G hQ dX10_join_74
              · skip
                refine c_iconst G (nI 1) dX10_join_69 kI_1 ?_
                refine c_goto (tgt := 74) G dX10_join_70 (by decide) ?_
                exact c_iretP G hQ dX10_join_74
            · skip
              refine c_tsw (tgt := 75) G (nI 6) 6 dX10_join_1 (by decide +kernel) (by decide +kernel) rfl (by decide) (fun _ => ?_) (fun hn6 => ?_)
              · skip
                refine c_iload_n G dX10_join_75 rfl 1 rfl ?_
                refine c_iload_n G dX10_join_76 rfl 2 rfl ?_
                refine c_mmax G ml_X10_104 ys_J9_max_7cf53 (by omega) (Nat.le_of_ble_eq_true rfl) dX10_join_77 ?_
                exact c_iretP G hQ dX10_join_80
              · skip
                have hm0 := lv_neT hn0 (show (nI 0).toInt = 0 by decide +kernel)
                have hm1 := lv_neT hn1 (show (nI 1).toInt = 1 by decide +kernel)
                have hm2 := lv_neT hn2 (show (nI 2).toInt = 2 by decide +kernel)
                have hm3 := lv_neT hn3 (show (nI 3).toInt = 3 by decide +kernel)
                have hm4 := lv_neT hn4 (show (nI 4).toInt = 4 by decide +kernel)
                have hm5 := lv_neT hn5 (show (nI 5).toInt = 5 by decide +kernel)
                have hm6 := lv_neT hn6 (show (nI 6).toInt = 6 by decide +kernel)
                refine c_tswD (tgt := 81) G dX10_join_1 (by omega) (by decide) ?_
                refine c_iload_n G dX10_join_81 rfl 1 rfl ?_
                refine c_iload_n G dX10_join_82 rfl 2 rfl ?_
                refine c_mmin G ml_X10_109 ys_J9_min_7cf53 (by omega) (Nat.le_of_ble_eq_true rfl) dX10_join_83 ?_
                exact c_iretP G hQ dX10_join_86
set_option maxHeartbeats 4000000 in
set_option maxRecDepth 100000 in
theorem cl_X10_reckon_72 {w : Wp} {X : Cx} {Q : State → Prop} {ρ : Int32 × Mm} (G : Good w X cX10_reckon 7 RX10 (some .int) 2) (hQ : Q = MQ (xL X) (Qd w (encI ρ)) (xA X) (xS X) (xk X) (xs X) (Aw w)) {a0 : Nat} {l3_1 : Int32} {N : Nat} {v1 : Int32} (h_a0 : lay a0 = (5, 10)) : ∀ (n : Nat) (l4_1 : Int32) (l5_1 : Int32) (M2 : Mm), Cov w X Q ρ some 7 72 [(0, .ref (wB w + pz (a0))), (2, .int v1), (3, .int l3_1), (4, .int l4_1), (5, .int l5_1)] [] M2 (L_X10_reckon_72 a0 l3_1 N v1 n l4_1 l5_1 M2) := by
  intro n
  induction n with
  | zero => intro l4_1 l5_1 M2; exact c_none
  | succ n ih =>
    intro l4_1 l5_1 M2
    rw [L_X10_reckon_72]
    refine c_iload G dX10_reckon_72 4 rfl ?_
    refine c_aload_n G dX10_reckon_74 rfl 0 rfl ?_
    refine c_getR (c' := 1) G fl_X10_32 h_a0 rfl dX10_reckon_75 (fun r6 _ h_r6 => ?_)
    refine c_getF G fl_X10_84 h_r6 rfl dX10_reckon_78 ?_
    refine c_iload_n G dX10_reckon_81 rfl 2 rfl ?_
    refine c_iald G (lf h_r6 17 rfl) dX10_reckon_82 (fun v7 _ => ?_)
    refine c_icmp_ge (tgt := 241) G dX10_reckon_83 (by decide) (fun _ => ?_) (fun _ => ?_)
    · skip
      refine c_aload_n G dX10_reckon_241 rfl 0 rfl ?_
      refine c_getF G fl_X10_29 h_a0 rfl dX10_reckon_242 ?_
      refine c_iconst G (nI 0) dX10_reckon_245 kI_0 ?_
      refine c_iald G (lf h_a0 4 rfl) dX10_reckon_246 (fun v8 _ => ?_)
      exact c_iret G hQ dX10_reckon_247
    · skip
      refine c_aload_n G dX10_reckon_86 rfl 0 rfl ?_
      refine c_getR (c' := 1) G fl_X10_32 h_a0 rfl dX10_reckon_87 (fun r7 _ h_r7 => ?_)
      refine c_getF G fl_X10_87 h_r7 rfl dX10_reckon_90 ?_
      refine c_iload G dX10_reckon_93 4 rfl ?_
      refine c_iald G (lf h_r7 18 rfl) dX10_reckon_95 (fun v9 _ => ?_)
      refine c_istore G [(6, .int v9), (0, .ref (wB w + pz (a0))), (2, .int v1), (3, .int l3_1), (4, .int l4_1), (5, .int l5_1)] dX10_reckon_96 (by decide) rfl ?_
      refine c_iload G dX10_reckon_98 0 rfl ?_
      refine c_sipush G (nI 30000) dX10_reckon_100 kS_30000 ?_
      refine c_jn (ej := fun (p133 : Unit) => [(0, .ref (wB w + pz (a0))), (2, .int v1), (3, .int l3_1), (4, .int l4_1), (5, .int l5_1), (6, .int v9)]) (sj := fun p133 => []) (mj := fun p133 => M2) (pj := 133) (fun p133 => ?_) (fun J2 hJ133 => ?_)
      · skip
        refine c_iload G dX10_reckon_133 5 rfl ?_
        refine c_ldc G (nI 40000) kC_X10_93 kV_40000 dX10_reckon_135 ?_
        refine c_jn (ej := fun (p192 : Unit) => [(0, .ref (wB w + pz (a0))), (2, .int v1), (3, .int l3_1), (4, .int l4_1), (5, .int l5_1), (6, .int v9)]) (sj := fun p192 => []) (mj := fun p192 => M2) (pj := 192) (fun p192 => ?_) (fun J1 hJ192 => ?_)
        · skip
          refine c_iload G dX10_reckon_192 3 rfl ?_
          refine c_iconst G (nI 2) dX10_reckon_194 kI_2 ?_
          refine c_icmp_lt (tgt := 235) G dX10_reckon_195 (by decide) (fun _ => ?_) (fun _ => ?_)
          · skip
            refine c_iinc G (fun y__ => [(5, .int y__), (0, .ref (wB w + pz (a0))), (2, .int v1), (3, .int l3_1), (4, .int l4_1), (6, .int v9)]) dX10_reckon_235 4 rfl kI_1 (by decide) (fun _ => rfl) (fun l5_2 _ => ?_)
            refine c_goto (tgt := 72) G dX10_reckon_238 (by decide) ?_
            exact c_weak _ [1, 2, 3, 4, 0] rfl (ih l4_1 l5_2 M2)
          · skip
            refine c_iinc G (fun y__ => [(4, .int y__), (0, .ref (wB w + pz (a0))), (2, .int v1), (3, .int l3_1), (5, .int l5_1), (6, .int v9)]) dX10_reckon_198 3 rfl kI_m1 (by decide) (fun _ => rfl) (fun l4_2 _ => ?_)
            refine c_aload_n G dX10_reckon_201 rfl 1 rfl ?_
            refine c_getF G fl_X10_29 h_a0 rfl dX10_reckon_202 ?_
            refine c_iload G dX10_reckon_205 0 rfl ?_
            refine c_iconst G (nI 1) dX10_reckon_207 kI_1 ?_
            refine c_isub G dX10_reckon_208 ?_
            refine c_iload G dX10_reckon_209 5 rfl ?_
            refine c_sipush G (nI 30000) dX10_reckon_211 kS_30000 ?_
            refine c_isub G dX10_reckon_214 ?_
            refine c_aload_n G dX10_reckon_215 rfl 1 rfl ?_
            refine c_getF G fl_X10_29 h_a0 rfl dX10_reckon_216 ?_
            refine c_iload G dX10_reckon_219 0 rfl ?_
            refine c_iconst G (nI 1) dX10_reckon_221 kI_1 ?_
            refine c_isub G dX10_reckon_222 ?_
            refine c_iald G (lf h_a0 4 rfl) dX10_reckon_223 (fun v10 _ => ?_)
            refine c_aload_n G dX10_reckon_224 rfl 1 rfl ?_
            refine c_getF G fl_X10_29 h_a0 rfl dX10_reckon_225 ?_
            refine c_iload G dX10_reckon_228 0 rfl ?_
            refine c_iald G (lf h_a0 4 rfl) dX10_reckon_230 (fun v11 _ => ?_)
            refine c_callS_PI (d := 1) (rest := [.int (l4_2 - (nI 1)), .ref (wB w + pz ((a0 + 15)))]) G [.int (v9 - (nI 30000)), .int v10, .int v11] ys_X10_join ml_X10_94 (by omega) (by decide) rfl rfl (Nat.le_of_ble_eq_true rfl) (fun q hq => con_X10_join hq) dX10_reckon_231 (fun q1 _ => ?_)
            refine c_iast G (lf h_a0 4 rfl) dX10_reckon_234 (fun M3 _ => ?_)
            refine c_iinc G (fun y__ => [(5, .int y__), (4, .int l4_2), (0, .ref (wB w + pz (a0))), (2, .int v1), (3, .int l3_1), (6, .int v9)]) dX10_reckon_235 4 rfl kI_1 (by decide) (fun _ => rfl) (fun l5_3 _ => ?_)
            refine c_goto (tgt := 72) G dX10_reckon_238 (by decide) ?_
            exact c_weak _ [2, 3, 4, 1, 0] rfl (ih l4_2 l5_3 M3)
        · skip
          refine c_icmp_ne (tgt := 192) G dX10_reckon_137 (by decide) (fun _ => ?_) (fun _ => ?_)
          · skip
            refine c_iload G dX10_reckon_140 3 rfl ?_
            refine c_iconst G (nI 3) dX10_reckon_142 kI_3 ?_
            refine c_icmp_lt (tgt := 192) G dX10_reckon_143 (by decide) (fun _ => ?_) (fun _ => ?_)
            · skip
              exact c_weak _ [0, 1, 2, 3, 4, 5] rfl (hJ192 ())
            · skip
              refine c_iinc G (fun y__ => [(4, .int y__), (0, .ref (wB w + pz (a0))), (2, .int v1), (3, .int l3_1), (5, .int l5_1), (6, .int v9)]) dX10_reckon_146 3 rfl kI_m2 (by decide) (fun _ => rfl) (fun l4_3 _ => ?_)
              refine c_aload_n G dX10_reckon_149 rfl 1 rfl ?_
              refine c_getF G fl_X10_29 h_a0 rfl dX10_reckon_150 ?_
              refine c_iload G dX10_reckon_153 0 rfl ?_
              refine c_iconst G (nI 1) dX10_reckon_155 kI_1 ?_
              refine c_isub G dX10_reckon_156 ?_
              refine c_aload_n G dX10_reckon_157 rfl 1 rfl ?_
              refine c_getF G fl_X10_29 h_a0 rfl dX10_reckon_158 ?_
              refine c_iload G dX10_reckon_161 0 rfl ?_
              refine c_iconst G (nI 1) dX10_reckon_163 kI_1 ?_
              refine c_isub G dX10_reckon_164 ?_
              refine c_iald G (lf h_a0 4 rfl) dX10_reckon_165 (fun v12 _ => ?_)
              refine c_bj (ej := fun (p188 : Int32) => [(0, .ref (wB w + pz (a0))), (2, .int v1), (3, .int l3_1), (4, .int l4_3), (5, .int l5_1)]) (sj := fun p188 => [.int p188, .int (l4_3 - (nI 1)), .ref (wB w + pz ((a0 + 15)))]) (mj := fun p188 => M2) (pj := 188) (fun p188 => ?_) (fun F hJ188 => ?_)
              · skip
                refine c_iast G (lf h_a0 4 rfl) dX10_reckon_188 (fun M4 _ => ?_)
                refine c_goto (tgt := 235) G dX10_reckon_189 (by decide) ?_
                refine c_iinc G (fun y__ => [(5, .int y__), (0, .ref (wB w + pz (a0))), (2, .int v1), (3, .int l3_1), (4, .int l4_3)]) dX10_reckon_235 4 rfl kI_1 (by decide) (fun _ => rfl) (fun l5_4 _ => ?_)
                refine c_goto (tgt := 72) G dX10_reckon_238 (by decide) ?_
                exact c_weak _ [1, 2, 3, 4, 0] rfl (ih l4_3 l5_4 M4)
              · skip
                refine c_if_eq (tgt := 179) G dX10_reckon_166 (by decide) (fun _ => ?_) (fun _ => ?_)
                · skip
                  refine c_aload_n G dX10_reckon_179 rfl 1 rfl ?_
                  refine c_getF G fl_X10_29 h_a0 rfl dX10_reckon_180 ?_
                  refine c_iload G dX10_reckon_183 0 rfl ?_
                  refine c_iconst G (nI 1) dX10_reckon_185 kI_1 ?_
                  refine c_iadd G dX10_reckon_186 ?_
                  refine c_iald G (lf h_a0 4 rfl) dX10_reckon_187 (fun v13 _ => ?_)
                  exact c_weak _ [1, 2, 3, 0, 4] rfl (hJ188 v13)
                · skip
                  refine c_aload_n G dX10_reckon_169 rfl 1 rfl ?_
                  refine c_getF G fl_X10_29 h_a0 rfl dX10_reckon_170 ?_
                  refine c_iload G dX10_reckon_173 0 rfl ?_
                  refine c_iald G (lf h_a0 4 rfl) dX10_reckon_175 (fun v14 _ => ?_)
                  refine c_goto (tgt := 188) G dX10_reckon_176 (by decide) ?_
                  exact c_weak _ [1, 2, 3, 0, 4] rfl (hJ188 v14)
          · skip
            exact c_weak _ [0, 1, 2, 3, 4, 5] rfl (hJ192 ())
      · skip
        refine c_icmp_ge (tgt := 133) G dX10_reckon_103 (by decide) (fun _ => ?_) (fun _ => ?_)
        · skip
          exact c_weak _ [1, 2, 3, 4, 5, 0] rfl (hJ133 ())
        · skip
          refine c_iload G dX10_reckon_106 4 rfl ?_
          refine c_bipush G (nI 20) dX10_reckon_108 kB_20 ?_
          refine c_icmp_ge (tgt := 133) G dX10_reckon_110 (by decide) (fun _ => ?_) (fun _ => ?_)
          · skip
            exact c_weak _ [1, 2, 3, 4, 5, 0] rfl (hJ133 ())
          · skip
            refine c_aload_n G dX10_reckon_113 rfl 1 rfl ?_
            refine c_getF G fl_X10_29 h_a0 rfl dX10_reckon_114 ?_
            refine c_iload G dX10_reckon_117 4 rfl ?_
            refine c_aload_n G dX10_reckon_119 rfl 1 rfl ?_
            refine c_iload_n G dX10_reckon_120 rfl 2 rfl ?_
            refine c_iload G dX10_reckon_121 0 rfl ?_
            refine c_callV_PI (d := 1) (rest := [.int l4_1, .ref (wB w + pz ((a0 + 15)))]) G [.int v1, .int v9] yv_X10_load ml_X10_90 (by omega) (by decide) rfl rfl (Nat.le_of_ble_eq_true rfl) h_a0 (fun q hq => con_X10_load h_a0 hq) dX10_reckon_123 (fun q2 _ => ?_)
            refine c_iast G (lf h_a0 4 rfl) dX10_reckon_126 (fun M5 _ => ?_)
            refine c_iinc G (fun y__ => [(4, .int y__), (6, .int v9), (0, .ref (wB w + pz (a0))), (2, .int v1), (3, .int l3_1), (5, .int l5_1)]) dX10_reckon_127 4 rfl kI_1 (by decide) (fun _ => rfl) (fun l4_4 _ => ?_)
            refine c_goto (tgt := 235) G dX10_reckon_130 (by decide) ?_
            refine c_iinc G (fun y__ => [(5, .int y__), (4, .int l4_4), (6, .int v9), (0, .ref (wB w + pz (a0))), (2, .int v1), (3, .int l3_1)]) dX10_reckon_235 5 rfl kI_1 (by decide) (fun _ => rfl) (fun l5_5 _ => ?_)
            refine c_goto (tgt := 72) G dX10_reckon_238 (by decide) ?_
            exact c_weak _ [3, 4, 5, 1, 0] rfl (ih l4_4 l5_5 M5)
set_option maxHeartbeats 4000000 in
set_option maxRecDepth 100000 in
theorem con_X10_reckon {w : Wp} {N : Nat} {a0 : Nat} {a1 : Int32} {M : Mm} {q : Int32 × Mm} (h_a0 : lay a0 = (5, 10)) (hq : D_X10_reckon N a0 a1 M = some q) : Con w 2 yX10_reckon cX10_reckon 7 (some .int) [.ref (wB w + pz (a0)), .int a1] M (encI q) := by
  refine Con.of encI q _ hq (by decide) (Nat.le_of_ble_eq_true rfl) ?_
  intro X G Q hQ
  have G : Good w X cX10_reckon 7 RX10 (some .int) 2 := G
  refine c_weak [(0, .ref (wB w + pz (a0))), (1, .int a1)] [0, 1] rfl ?_
  rw [D_X10_reckon]
  refine c_aload_n G dX10_reckon_0 rfl 0 rfl ?_
  refine c_getR (c' := 8) G fl_X10_36 h_a0 rfl dX10_reckon_1 (fun r1 _ h_r1 => ?_)
  refine c_getF G fl_X10_65 h_r1 rfl dX10_reckon_4 ?_
  refine c_iload_n G dX10_reckon_7 rfl 1 rfl ?_
  refine c_iald G (lf h_r1 13 rfl) dX10_reckon_8 (fun v1 _ => ?_)
  refine c_istore_n G [(2, .int v1), (0, .ref (wB w + pz (a0))), (1, .int a1)] dX10_reckon_9 rfl (by decide) rfl ?_
  refine c_iload_n G dX10_reckon_10 rfl 0 rfl ?_
  refine c_iconst G m1 dX10_reckon_11 kI_m1 ?_
  refine c_icmp_ne (tgt := 28) G dX10_reckon_12 (by decide) (fun _ => ?_) (fun _ => ?_)
  · skip
    refine c_aload_n G dX10_reckon_15 rfl 1 rfl ?_
    refine c_getR (c' := 8) G fl_X10_36 h_a0 rfl dX10_reckon_16 (fun r2 _ h_r2 => ?_)
    refine c_getF G fl_X10_70 h_r2 rfl dX10_reckon_19 ?_
    refine c_iload_n G dX10_reckon_22 rfl 2 rfl ?_
    refine c_bipush G (nI 8) dX10_reckon_23 kB_8 ?_
    refine c_irem G dX10_reckon_25 (fun v2 _ => ?_)
    refine c_iald G (lf h_r2 12 rfl) dX10_reckon_26 (fun v3 _ => ?_)
    exact c_iret G hQ dX10_reckon_27
  · skip
    refine c_bipush G (nI 32) dX10_reckon_28 kB_32 ?_
    refine c_aload_n G dX10_reckon_30 rfl 1 rfl ?_
    refine c_getR (c' := 8) G fl_X10_36 h_a0 rfl dX10_reckon_31 (fun r3 _ h_r3 => ?_)
    refine c_getF G fl_X10_73 h_r3 rfl dX10_reckon_34 ?_
    refine c_iload_n G dX10_reckon_37 rfl 0 rfl ?_
    refine c_iald G (lf h_r3 1 rfl) dX10_reckon_38 (fun v4 _ => ?_)
    refine c_imul G dX10_reckon_39 ?_
    refine c_aload_n G dX10_reckon_40 rfl 1 rfl ?_
    refine c_getR (c' := 8) G fl_X10_36 h_a0 rfl dX10_reckon_41 (fun r4 _ h_r4 => ?_)
    refine c_getF G fl_X10_76 h_r4 rfl dX10_reckon_44 ?_
    refine c_iload_n G dX10_reckon_47 rfl 2 rfl ?_
    refine c_iald G (lf h_r4 14 rfl) dX10_reckon_48 (fun v5 _ => ?_)
    refine c_iadd G dX10_reckon_49 ?_
    refine c_let (fun l3_1 _ => ?_)
    refine c_istore_n G [(3, .int l3_1), (2, .int v1), (0, .ref (wB w + pz (a0))), (1, .int a1)] dX10_reckon_50 rfl (by decide) rfl ?_
    refine c_iconst G (nI 0) dX10_reckon_51 kI_0 ?_
    refine c_istore G [(4, .int (nI 0)), (3, .int l3_1), (2, .int v1), (0, .ref (wB w + pz (a0))), (1, .int a1)] dX10_reckon_52 (by decide) rfl ?_
    refine c_aload_n G dX10_reckon_54 rfl 3 rfl ?_
    refine c_getF G fl_X10_29 h_a0 rfl dX10_reckon_55 ?_
    refine c_iconst G (nI 0) dX10_reckon_58 kI_0 ?_
    refine c_iconst G (nI 0) dX10_reckon_59 kI_0 ?_
    refine c_iast G (lf h_a0 4 rfl) dX10_reckon_60 (fun M1 _ => ?_)
    refine c_aload_n G dX10_reckon_61 rfl 3 rfl ?_
    refine c_getR (c' := 1) G fl_X10_32 h_a0 rfl dX10_reckon_62 (fun r5 _ h_r5 => ?_)
    refine c_getF G fl_X10_79 h_r5 rfl dX10_reckon_65 ?_
    refine c_iload_n G dX10_reckon_68 rfl 1 rfl ?_
    refine c_iald G (lf h_r5 16 rfl) dX10_reckon_69 (fun v6 _ => ?_)
    refine c_istore G [(5, .int v6), (4, .int (nI 0)), (3, .int l3_1), (2, .int v1), (0, .ref (wB w + pz (a0))), (1, .int a1)] dX10_reckon_70 (by decide) rfl ?_
    refine c_weak _ [4, 3, 2, 1, 0] rfl (cl_X10_reckon_72 G hQ  h_a0 N (nI 0) v6 M1)
set_option maxHeartbeats 4000000 in
set_option maxRecDepth 100000 in
theorem con_X4_size {w : Wp} {N : Nat} {a0 : Nat} {a1 : Int32} {M : Mm} {q : Int32} (h_a0 : lay a0 = (5, 4)) (hq : D_X4_size N a0 a1 M = some q) : Con w 0 yX4_size cX4_size 2 (some .int) [.ref (wB w + pz (a0)), .int a1] M ((encPI M) q) := by
  refine Con.of (encPI M) q _ hq (by decide) (Nat.le_of_ble_eq_true rfl) ?_
  intro X G Q hQ
  have G : Good w X cX4_size 2 RX4 (some .int) 0 := G
  refine c_weak [(0, .ref (wB w + pz (a0))), (1, .int a1)] [0, 1] rfl ?_
  rw [D_X4_size]
  refine c_aload_n G dX4_size_0 rfl 0 rfl ?_
  refine c_getF G fl_X4_15 h_a0 rfl dX4_size_1 ?_
  refine c_iload_n G dX4_size_4 rfl 1 rfl ?_
  refine c_iconst G (nI 1) dX4_size_5 kI_1 ?_
  refine c_iadd G dX4_size_6 ?_
  refine c_iald G (lf h_a0 1 rfl) dX4_size_7 (fun v1 _ => ?_)
  refine c_aload_n G dX4_size_8 rfl 0 rfl ?_
  refine c_getF G fl_X4_15 h_a0 rfl dX4_size_9 ?_
  refine c_iload_n G dX4_size_12 rfl 1 rfl ?_
  refine c_iald G (lf h_a0 1 rfl) dX4_size_13 (fun v2 _ => ?_)
  refine c_isub G dX4_size_14 ?_
  exact c_iretP G hQ dX4_size_15
set_option maxHeartbeats 4000000 in
set_option maxRecDepth 100000 in
theorem con_X4_member {w : Wp} {N : Nat} {a0 : Nat} {a1 : Int32} {a2 : Int32} {M : Mm} {q : Int32} (h_a0 : lay a0 = (5, 4)) (hq : D_X4_member N a0 a1 a2 M = some q) : Con w 0 yX4_member cX4_member 3 (some .int) [.ref (wB w + pz (a0)), .int a1, .int a2] M ((encPI M) q) := by
  refine Con.of (encPI M) q _ hq (by decide) (Nat.le_of_ble_eq_true rfl) ?_
  intro X G Q hQ
  have G : Good w X cX4_member 3 RX4 (some .int) 0 := G
  refine c_weak [(0, .ref (wB w + pz (a0))), (1, .int a1), (2, .int a2)] [0, 1, 2] rfl ?_
  rw [D_X4_member]
  refine c_aload_n G dX4_member_0 rfl 0 rfl ?_
  refine c_getF G fl_X4_9 h_a0 rfl dX4_member_1 ?_
  refine c_aload_n G dX4_member_4 rfl 0 rfl ?_
  refine c_getF G fl_X4_15 h_a0 rfl dX4_member_5 ?_
  refine c_iload_n G dX4_member_8 rfl 1 rfl ?_
  refine c_iald G (lf h_a0 1 rfl) dX4_member_9 (fun v1 _ => ?_)
  refine c_iload_n G dX4_member_10 rfl 2 rfl ?_
  refine c_iadd G dX4_member_11 ?_
  refine c_iald G (lf h_a0 0 rfl) dX4_member_12 (fun v2 _ => ?_)
  exact c_iretP G hQ dX4_member_13
set_option maxHeartbeats 4000000 in
set_option maxRecDepth 100000 in
theorem cl_X10_reckonGroup_44 {w : Wp} {X : Cx} {Q : State → Prop} {ρ : Mm} (G : Good w X cX10_reckonGroup 8 RX10 none 3) (hQ : Q = MQ (xL X) (Qd w (encV ρ)) (xA X) (xS X) (xk X) (xs X) (Aw w)) (kE70 : Mm → Option (Mm)) {q3 : Int32} {N : Nat} {a0 : Nat} {a1 : Int32} (h_a0 : lay a0 = (5, 10)) (hE70 : ∀ (Mz : Mm), Cov w X Q ρ some 8 70 [(0, .ref (wB w + pz (a0))), (1, .int a1), (2, .int q3)] [] Mz (kE70 Mz)) : ∀ (n : Nat) (l3_1 : Int32) (M2 : Mm), Cov w X Q ρ some 8 44 [(0, .ref (wB w + pz (a0))), (1, .int a1), (2, .int q3), (3, .int l3_1)] [] M2 (L_X10_reckonGroup_44 kE70 q3 N a0 a1 n l3_1 M2) := by
  intro n
  induction n with
  | zero => intro l3_1 M2; exact c_none
  | succ n ih =>
    intro l3_1 M2
    rw [L_X10_reckonGroup_44]
    refine c_iload_n G dX10_reckonGroup_44 rfl 3 rfl ?_
    refine c_iload_n G dX10_reckonGroup_45 rfl 2 rfl ?_
    refine c_icmp_ge (tgt := 70) G dX10_reckonGroup_46 (by decide) (fun _ => ?_) (fun _ => ?_)
    · skip
      exact c_weak _ [0, 1, 2] rfl (hE70 M2)
    · skip
      refine c_aload_n G dX10_reckonGroup_49 rfl 0 rfl ?_
      refine c_getF G fl_X10_18 h_a0 rfl dX10_reckonGroup_50 ?_
      refine c_aload_n G dX10_reckonGroup_53 rfl 0 rfl ?_
      refine c_getF G fl_X10_12 h_a0 rfl dX10_reckonGroup_54 ?_
      refine c_iload_n G dX10_reckonGroup_57 rfl 1 rfl ?_
      refine c_iload_n G dX10_reckonGroup_58 rfl 3 rfl ?_
      refine c_callV_PI (d := 0) (rest := [.ref (wB w + pz ((a0 + 12)))]) G [.int a1, .int l3_1] yv_X4_member ml_X10_61 (by omega) (by decide) rfl rfl (Nat.le_of_ble_eq_true rfl) (lf h_a0 0 rfl) (fun q hq => con_X4_member (lf h_a0 0 rfl) hq) dX10_reckonGroup_59 (fun q4 _ => ?_)
      refine c_iconst G (nI 0) dX10_reckonGroup_62 kI_0 ?_
      refine c_iast G (lf h_a0 1 rfl) dX10_reckonGroup_63 (fun M3 _ => ?_)
      refine c_iinc G (fun y__ => [(3, .int y__), (0, .ref (wB w + pz (a0))), (1, .int a1), (2, .int q3)]) dX10_reckonGroup_64 3 rfl kI_1 (by decide) (fun _ => rfl) (fun l3_2 _ => ?_)
      refine c_goto (tgt := 44) G dX10_reckonGroup_67 (by decide) ?_
      exact c_weak _ [1, 2, 3, 0] rfl (ih l3_2 M3)
set_option maxHeartbeats 4000000 in
set_option maxRecDepth 100000 in
theorem cl_X10_reckonGroup_91 {w : Wp} {X : Cx} {Q : State → Prop} {ρ : Mm} (G : Good w X cX10_reckonGroup 8 RX10 none 3) (hQ : Q = MQ (xL X) (Qd w (encV ρ)) (xA X) (xS X) (xk X) (xs X) (Aw w)) (kE157 : Int32 → Mm → Option (Mm)) {q3 : Int32} {N : Nat} {a0 : Nat} {a1 : Int32} {l4_1 : Int32} (h_a0 : lay a0 = (5, 10)) (hE157 : ∀ (z3 : Int32), ∀ (Mz : Mm), Cov w X Q ρ some 8 157 [(0, .ref (wB w + pz (a0))), (1, .int a1), (2, .int q3), (3, .int z3), (4, .int l4_1)] [] Mz (kE157 z3 Mz)) : ∀ (n : Nat) (l3_4 : Int32) (l5_1 : Int32) (M8 : Mm), Cov w X Q ρ some 8 91 [(0, .ref (wB w + pz (a0))), (1, .int a1), (2, .int q3), (3, .int l3_4), (4, .int l4_1), (5, .int l5_1)] [] M8 (L_X10_reckonGroup_91 kE157 q3 N a0 a1 n l3_4 l5_1 M8) := by
  intro n
  induction n with
  | zero => intro l3_4 l5_1 M8; exact c_none
  | succ n ih =>
    intro l3_4 l5_1 M8
    rw [L_X10_reckonGroup_91]
    refine c_iload G dX10_reckonGroup_91 5 rfl ?_
    refine c_iload_n G dX10_reckonGroup_93 rfl 2 rfl ?_
    refine c_icmp_ge (tgt := 157) G dX10_reckonGroup_94 (by decide) (fun _ => ?_) (fun _ => ?_)
    · skip
      exact c_weak _ [0, 1, 2, 3, 4] rfl (hE157 l3_4 M8)
    · skip
      refine c_aload_n G dX10_reckonGroup_97 rfl 0 rfl ?_
      refine c_getF G fl_X10_12 h_a0 rfl dX10_reckonGroup_98 ?_
      refine c_iload_n G dX10_reckonGroup_101 rfl 1 rfl ?_
      refine c_iload G dX10_reckonGroup_102 5 rfl ?_
      refine c_callV_PI (d := 0) (rest := []) G [.int a1, .int l5_1] yv_X4_member ml_X10_61 (by omega) (by decide) rfl rfl (Nat.le_of_ble_eq_true rfl) (lf h_a0 0 rfl) (fun q hq => con_X4_member (lf h_a0 0 rfl) hq) dX10_reckonGroup_104 (fun q5 _ => ?_)
      refine c_istore G [(6, .int q5), (0, .ref (wB w + pz (a0))), (1, .int a1), (2, .int q3), (3, .int l3_4), (4, .int l4_1), (5, .int l5_1)] dX10_reckonGroup_107 (by decide) rfl ?_
      refine c_aload_n G dX10_reckonGroup_109 rfl 1 rfl ?_
      refine c_getF G fl_X10_18 h_a0 rfl dX10_reckonGroup_110 ?_
      refine c_iload G dX10_reckonGroup_113 0 rfl ?_
      refine c_iald G (lf h_a0 1 rfl) dX10_reckonGroup_115 (fun v2 _ => ?_)
      refine c_istore G [(7, .int v2), (6, .int q5), (0, .ref (wB w + pz (a0))), (1, .int a1), (2, .int q3), (3, .int l3_4), (4, .int l4_1), (5, .int l5_1)] dX10_reckonGroup_116 (by decide) rfl ?_
      refine c_aload_n G dX10_reckonGroup_118 rfl 2 rfl ?_
      refine c_getF G fl_X10_18 h_a0 rfl dX10_reckonGroup_119 ?_
      refine c_iload G dX10_reckonGroup_122 1 rfl ?_
      refine c_aload_n G dX10_reckonGroup_124 rfl 2 rfl ?_
      refine c_iload G dX10_reckonGroup_125 1 rfl ?_
      refine c_callV_I (d := 2) (rest := [.int q5, .ref (wB w + pz ((a0 + 12)))]) G [.int q5] yv_X10_reckon ml_X10_55 (by omega) (by decide) rfl rfl (Nat.le_of_ble_eq_true rfl) h_a0 (fun q hq => con_X10_reckon h_a0 hq) dX10_reckonGroup_127 (fun q6 _ => ?_)
      refine c_iast G (lf h_a0 1 rfl) dX10_reckonGroup_130 (fun M9 _ => ?_)
      refine c_iload_n G dX10_reckonGroup_131 rfl 5 rfl ?_
      refine c_aload_n G dX10_reckonGroup_132 rfl 2 rfl ?_
      refine c_getF G fl_X10_18 h_a0 rfl dX10_reckonGroup_133 ?_
      refine c_iload G dX10_reckonGroup_136 1 rfl ?_
      refine c_iald G (lf h_a0 1 rfl) dX10_reckonGroup_138 (fun v3 _ => ?_)
      refine c_iload G dX10_reckonGroup_139 0 rfl ?_
      refine c_icmp_eq (tgt := 148) G dX10_reckonGroup_141 (by decide) (fun _ => ?_) (fun _ => ?_)
      · skip
        refine c_iconst G (nI 0) dX10_reckonGroup_148 kI_0 ?_
        refine c_ior G dX10_reckonGroup_149 ?_
        refine c_let (fun l3_5 _ => ?_)
        refine c_istore_n G [(3, .int l3_5), (7, .int v2), (6, .int q5), (0, .ref (wB w + pz (a0))), (1, .int a1), (2, .int q3), (4, .int l4_1), (5, .int l5_1)] dX10_reckonGroup_150 rfl (by decide) rfl ?_
        refine c_iinc G (fun y__ => [(5, .int y__), (3, .int l3_5), (7, .int v2), (6, .int q5), (0, .ref (wB w + pz (a0))), (1, .int a1), (2, .int q3), (4, .int l4_1)]) dX10_reckonGroup_151 7 rfl kI_1 (by decide) (fun _ => rfl) (fun l5_2 _ => ?_)
        refine c_goto (tgt := 91) G dX10_reckonGroup_154 (by decide) ?_
        exact c_weak _ [4, 5, 6, 1, 7, 0] rfl (ih l3_5 l5_2 M9)
      · skip
        refine c_iconst G (nI 1) dX10_reckonGroup_144 kI_1 ?_
        refine c_goto (tgt := 149) G dX10_reckonGroup_145 (by decide) ?_
        refine c_ior G dX10_reckonGroup_149 ?_
        refine c_let (fun l3_6 _ => ?_)
        refine c_istore_n G [(3, .int l3_6), (7, .int v2), (6, .int q5), (0, .ref (wB w + pz (a0))), (1, .int a1), (2, .int q3), (4, .int l4_1), (5, .int l5_1)] dX10_reckonGroup_150 rfl (by decide) rfl ?_
        refine c_iinc G (fun y__ => [(5, .int y__), (3, .int l3_6), (7, .int v2), (6, .int q5), (0, .ref (wB w + pz (a0))), (1, .int a1), (2, .int q3), (4, .int l4_1)]) dX10_reckonGroup_151 7 rfl kI_1 (by decide) (fun _ => rfl) (fun l5_3 _ => ?_)
        refine c_goto (tgt := 91) G dX10_reckonGroup_154 (by decide) ?_
        exact c_weak _ [4, 5, 6, 1, 7, 0] rfl (ih l3_6 l5_3 M9)
set_option maxHeartbeats 4000000 in
set_option maxRecDepth 100000 in
theorem cl_X10_reckonGroup_75 {w : Wp} {X : Cx} {Q : State → Prop} {ρ : Mm} (G : Good w X cX10_reckonGroup 8 RX10 none 3) (hQ : Q = MQ (xL X) (Qd w (encV ρ)) (xA X) (xS X) (xk X) (xs X) (Aw w)) {a0 : Nat} {a1 : Int32} {q3 : Int32} {N : Nat} (h_a0 : lay a0 = (5, 10)) : ∀ (n : Nat) (l3_3 : Int32) (l4_1 : Int32) (M5 : Mm), Cov w X Q ρ some 8 75 [(0, .ref (wB w + pz (a0))), (1, .int a1), (2, .int q3), (3, .int l3_3), (4, .int l4_1)] [] M5 (L_X10_reckonGroup_75 a0 a1 q3 N n l3_3 l4_1 M5) := by
  intro n
  induction n with
  | zero => intro l3_3 l4_1 M5; exact c_none
  | succ n ih =>
    intro l3_3 l4_1 M5
    rw [L_X10_reckonGroup_75]
    refine c_iload G dX10_reckonGroup_75 4 rfl ?_
    refine c_bipush G (nI 64) dX10_reckonGroup_77 kB_64 ?_
    refine c_icmp_gt (tgt := 171) G dX10_reckonGroup_79 (by decide) (fun _ => ?_) (fun _ => ?_)
    · skip
      refine c_aload_n G dX10_reckonGroup_171 rfl 0 rfl ?_
      refine c_getF G fl_X10_25 h_a0 rfl dX10_reckonGroup_172 ?_
      refine c_iload_n G dX10_reckonGroup_175 rfl 1 rfl ?_
      refine c_iload_n G dX10_reckonGroup_176 rfl 3 rfl ?_
      refine c_zast G (lf h_a0 3 rfl) dX10_reckonGroup_177 (fun M6 _ => ?_)
      exact c_vret G hQ dX10_reckonGroup_178
    · skip
      refine c_iload_n G dX10_reckonGroup_82 rfl 3 rfl ?_
      refine c_if_eq (tgt := 171) G dX10_reckonGroup_83 (by decide) (fun _ => ?_) (fun _ => ?_)
      · skip
        refine c_aload_n G dX10_reckonGroup_171 rfl 0 rfl ?_
        refine c_getF G fl_X10_25 h_a0 rfl dX10_reckonGroup_172 ?_
        refine c_iload_n G dX10_reckonGroup_175 rfl 1 rfl ?_
        refine c_iload_n G dX10_reckonGroup_176 rfl 3 rfl ?_
        refine c_zast G (lf h_a0 3 rfl) dX10_reckonGroup_177 (fun M7 _ => ?_)
        exact c_vret G hQ dX10_reckonGroup_178
      · skip
        refine c_iconst G (nI 0) dX10_reckonGroup_86 kI_0 ?_
        refine c_istore_n G [(3, .int (nI 0)), (0, .ref (wB w + pz (a0))), (1, .int a1), (2, .int q3), (4, .int l4_1)] dX10_reckonGroup_87 rfl (by decide) rfl ?_
        refine c_iconst G (nI 0) dX10_reckonGroup_88 kI_0 ?_
        refine c_istore G [(5, .int (nI 0)), (3, .int (nI 0)), (0, .ref (wB w + pz (a0))), (1, .int a1), (2, .int q3), (4, .int l4_1)] dX10_reckonGroup_89 (by decide) rfl ?_
        refine c_weak _ [2, 3, 4, 1, 5, 0] rfl (cl_X10_reckonGroup_91 G hQ _ h_a0 ?_ N (nI 0) (nI 0) M5)
        · intro l3_7 M10
          refine c_aload_n G dX10_reckonGroup_157 rfl 0 rfl ?_
          refine c_getF G fl_X10_22 h_a0 rfl dX10_reckonGroup_158 ?_
          refine c_iload_n G dX10_reckonGroup_161 rfl 1 rfl ?_
          refine c_iload G dX10_reckonGroup_162 4 rfl ?_
          refine c_iast G (lf h_a0 2 rfl) dX10_reckonGroup_164 (fun M11 _ => ?_)
          refine c_iinc G (fun y__ => [(4, .int y__), (0, .ref (wB w + pz (a0))), (1, .int a1), (2, .int q3), (3, .int l3_7)]) dX10_reckonGroup_165 4 rfl kI_1 (by decide) (fun _ => rfl) (fun l4_2 _ => ?_)
          refine c_goto (tgt := 75) G dX10_reckonGroup_168 (by decide) ?_
          exact c_weak _ [1, 2, 3, 4, 0] rfl (ih l3_7 l4_2 M11)
set_option maxHeartbeats 4000000 in
set_option maxRecDepth 100000 in
theorem con_X10_reckonGroup {w : Wp} {N : Nat} {a0 : Nat} {a1 : Int32} {M : Mm} {q : Mm} (h_a0 : lay a0 = (5, 10)) (hq : D_X10_reckonGroup N a0 a1 M = some q) : Con w 3 yX10_reckonGroup cX10_reckonGroup 8 none [.ref (wB w + pz (a0)), .int a1] M (encV q) := by
  refine Con.of encV q _ hq (by decide) (Nat.le_of_ble_eq_true rfl) ?_
  intro X G Q hQ
  have G : Good w X cX10_reckonGroup 8 RX10 none 3 := G
  refine c_weak [(0, .ref (wB w + pz (a0))), (1, .int a1)] [0, 1] rfl ?_
  rw [D_X10_reckonGroup]
  refine c_aload_n G dX10_reckonGroup_0 rfl 0 rfl ?_
  refine c_getF G fl_X10_12 h_a0 rfl dX10_reckonGroup_1 ?_
  refine c_getF G fl_X10_48 (lf h_a0 0 rfl) rfl dX10_reckonGroup_4 ?_
  refine c_iload_n G dX10_reckonGroup_7 rfl 1 rfl ?_
  refine c_zald G (lf (lf h_a0 0 rfl) 3 rfl) dX10_reckonGroup_8 (fun v1 _ => ?_)
  refine c_if_ne (tgt := 33) G dX10_reckonGroup_9 (by decide) (fun _ => ?_) (fun _ => ?_)
  · skip
    refine c_aload_n G dX10_reckonGroup_12 rfl 0 rfl ?_
    refine c_getF G fl_X10_12 h_a0 rfl dX10_reckonGroup_13 ?_
    refine c_iload_n G dX10_reckonGroup_16 rfl 1 rfl ?_
    refine c_callV_PI (d := 0) (rest := []) G [.int a1] yv_X4_first ml_X10_51 (by omega) (by decide) rfl rfl (Nat.le_of_ble_eq_true rfl) (lf h_a0 0 rfl) (fun q hq => con_X4_first (lf h_a0 0 rfl) hq) dX10_reckonGroup_17 (fun q1 _ => ?_)
    refine c_istore_n G [(2, .int q1), (0, .ref (wB w + pz (a0))), (1, .int a1)] dX10_reckonGroup_20 rfl (by decide) rfl ?_
    refine c_aload_n G dX10_reckonGroup_21 rfl 1 rfl ?_
    refine c_getF G fl_X10_18 h_a0 rfl dX10_reckonGroup_22 ?_
    refine c_iload_n G dX10_reckonGroup_25 rfl 0 rfl ?_
    refine c_aload_n G dX10_reckonGroup_26 rfl 1 rfl ?_
    refine c_iload_n G dX10_reckonGroup_27 rfl 0 rfl ?_
    refine c_callV_I (d := 2) (rest := [.int q1, .ref (wB w + pz ((a0 + 12)))]) G [.int q1] yv_X10_reckon ml_X10_55 (by omega) (by decide) rfl rfl (Nat.le_of_ble_eq_true rfl) h_a0 (fun q hq => con_X10_reckon h_a0 hq) dX10_reckonGroup_28 (fun q2 _ => ?_)
    refine c_iast G (lf h_a0 1 rfl) dX10_reckonGroup_31 (fun M1 _ => ?_)
    exact c_vret G hQ dX10_reckonGroup_32
  · skip
    refine c_aload_n G dX10_reckonGroup_33 rfl 0 rfl ?_
    refine c_getF G fl_X10_12 h_a0 rfl dX10_reckonGroup_34 ?_
    refine c_iload_n G dX10_reckonGroup_37 rfl 1 rfl ?_
    refine c_callV_PI (d := 0) (rest := []) G [.int a1] yv_X4_size ml_X10_58 (by omega) (by decide) rfl rfl (Nat.le_of_ble_eq_true rfl) (lf h_a0 0 rfl) (fun q hq => con_X4_size (lf h_a0 0 rfl) hq) dX10_reckonGroup_38 (fun q3 _ => ?_)
    refine c_istore_n G [(2, .int q3), (0, .ref (wB w + pz (a0))), (1, .int a1)] dX10_reckonGroup_41 rfl (by decide) rfl ?_
    refine c_iconst G (nI 0) dX10_reckonGroup_42 kI_0 ?_
    refine c_istore_n G [(3, .int (nI 0)), (2, .int q3), (0, .ref (wB w + pz (a0))), (1, .int a1)] dX10_reckonGroup_43 rfl (by decide) rfl ?_
    refine c_weak _ [2, 3, 1, 0] rfl (cl_X10_reckonGroup_44 G hQ _ h_a0 ?_ N (nI 0) M)
    · intro M4
      refine c_iconst G (nI 1) dX10_reckonGroup_70 kI_1 ?_
      refine c_istore_n G [(3, .int (nI 1)), (0, .ref (wB w + pz (a0))), (1, .int a1), (2, .int q3)] dX10_reckonGroup_71 rfl (by decide) rfl ?_
      refine c_iconst G (nI 1) dX10_reckonGroup_72 kI_1 ?_
      refine c_istore G [(4, .int (nI 1)), (3, .int (nI 1)), (0, .ref (wB w + pz (a0))), (1, .int a1), (2, .int q3)] dX10_reckonGroup_73 (by decide) rfl ?_
      refine c_weak _ [2, 3, 4, 1, 0] rfl (cl_X10_reckonGroup_75 G hQ  h_a0 N (nI 1) (nI 1) M4)
set_option maxHeartbeats 4000000 in
set_option maxRecDepth 100000 in
theorem cl_X10_reckonAll_2 {w : Wp} {X : Cx} {Q : State → Prop} {ρ : Mm} (G : Good w X cX10_reckonAll 2 RX10 none 4) (hQ : Q = MQ (xL X) (Qd w (encV ρ)) (xA X) (xS X) (xk X) (xs X) (Aw w)) {a0 : Nat} {N : Nat} (h_a0 : lay a0 = (5, 10)) : ∀ (n : Nat) (l1_1 : Int32) (M1 : Mm), Cov w X Q ρ some 2 2 [(0, .ref (wB w + pz (a0))), (1, .int l1_1)] [] M1 (L_X10_reckonAll_2 a0 N n l1_1 M1) := by
  intro n
  induction n with
  | zero => intro l1_1 M1; exact c_none
  | succ n ih =>
    intro l1_1 M1
    rw [L_X10_reckonAll_2]
    refine c_iload_n G dX10_reckonAll_2 rfl 1 rfl ?_
    refine c_aload_n G dX10_reckonAll_3 rfl 0 rfl ?_
    refine c_getF G fl_X10_12 h_a0 rfl dX10_reckonAll_4 ?_
    refine c_getI G fl_X10_40 (lf h_a0 0 rfl) rfl dX10_reckonAll_7 ?_
    refine c_icmp_ge (tgt := 24) G dX10_reckonAll_10 (by decide) (fun _ => ?_) (fun _ => ?_)
    · skip
      exact c_vret G hQ dX10_reckonAll_24
    · skip
      refine c_aload_n G dX10_reckonAll_13 rfl 0 rfl ?_
      refine c_iload_n G dX10_reckonAll_14 rfl 1 rfl ?_
      refine c_callV_V (d := 3) (rest := []) G [.int l1_1] yv_X10_reckonGroup ml_X10_44 (by omega) (by decide) rfl rfl (Nat.le_of_ble_eq_true rfl) h_a0 (fun q hq => con_X10_reckonGroup h_a0 hq) dX10_reckonAll_15 (fun M2 _ => ?_)
      refine c_iinc G (fun y__ => [(1, .int y__), (0, .ref (wB w + pz (a0)))]) dX10_reckonAll_18 1 rfl kI_1 (by decide) (fun _ => rfl) (fun l1_2 _ => ?_)
      refine c_goto (tgt := 2) G dX10_reckonAll_21 (by decide) ?_
      exact c_weak _ [1, 0] rfl (ih l1_2 M2)
set_option maxHeartbeats 4000000 in
set_option maxRecDepth 100000 in
theorem con_X10_reckonAll {w : Wp} {N : Nat} {a0 : Nat} {M : Mm} {q : Mm} (h_a0 : lay a0 = (5, 10)) (hq : D_X10_reckonAll N a0 M = some q) : Con w 4 yX10_reckonAll cX10_reckonAll 2 none [.ref (wB w + pz (a0))] M (encV q) := by
  refine Con.of encV q _ hq (by decide) (Nat.le_of_ble_eq_true rfl) ?_
  intro X G Q hQ
  have G : Good w X cX10_reckonAll 2 RX10 none 4 := G
  refine c_weak [(0, .ref (wB w + pz (a0)))] [0] rfl ?_
  rw [D_X10_reckonAll]
  refine c_iconst G (nI 0) dX10_reckonAll_0 kI_0 ?_
  refine c_istore_n G [(1, .int (nI 0)), (0, .ref (wB w + pz (a0)))] dX10_reckonAll_1 rfl (by decide) rfl ?_
  refine c_weak _ [1, 0] rfl (cl_X10_reckonAll_2 G hQ  h_a0 N (nI 0) M)
set_option maxHeartbeats 4000000 in
set_option maxRecDepth 100000 in
theorem con_X11_tree {w : Wp} {N : Nat} {a0 : Nat} {a1 : Int32} {M : Mm} {q : Int32 × Mm} (h_a0 : lay a0 = (5, 11)) (hq : D_X11_tree N a0 a1 M = some q) : Con w 6 yX11_tree cX11_tree 3 (some .int) [.ref (wB w + pz (a0)), .int a1] M (encI q) := by
  refine Con.of encI q _ hq (by decide) (Nat.le_of_ble_eq_true rfl) ?_
  intro X G Q hQ
  have G : Good w X cX11_tree 3 RX11 (some .int) 6 := G
  refine c_weak [(0, .ref (wB w + pz (a0))), (1, .int a1)] [0, 1] rfl ?_
  rw [D_X11_tree]
  refine c_aload_n G dX11_tree_0 rfl 0 rfl ?_
  refine c_getF G fl_X11_26 h_a0 rfl dX11_tree_1 ?_
  refine c_iload_n G dX11_tree_4 rfl 1 rfl ?_
  refine c_callV_PI (d := 0) (rest := []) G [.int a1] yv_X7_holds ml_X11_109 (by omega) (by decide) rfl rfl (Nat.le_of_ble_eq_true rfl) (lf h_a0 4 rfl) (fun q hq => con_X7_holds (lf h_a0 4 rfl) hq) dX11_tree_5 (fun q1 _ => ?_)
  refine c_if_ne (tgt := 17) G dX11_tree_8 (by decide) (fun _ => ?_) (fun _ => ?_)
  · skip
    refine c_aload_n G dX11_tree_11 rfl 0 rfl ?_
    refine c_iconst G (nI 1) dX11_tree_12 kI_1 ?_
    refine c_callV_I (d := 0) (rest := []) G [.int (nI 1)] yv_X11_refuse ml_X11_113 (by omega) (by decide) rfl rfl (Nat.le_of_ble_eq_true rfl) h_a0 (fun q hq => con_X11_refuse h_a0 hq) dX11_tree_13 (fun q2 _ => ?_)
    exact c_iret G hQ dX11_tree_16
  · skip
    refine c_aload_n G dX11_tree_17 rfl 0 rfl ?_
    refine c_getR (c' := 1) G fl_X11_75 h_a0 rfl dX11_tree_18 (fun r1 _ h_r1 => ?_)
    refine c_getI G fl_X11_153 h_r1 rfl dX11_tree_21 ?_
    refine c_if_ne (tgt := 33) G dX11_tree_24 (by decide) (fun _ => ?_) (fun _ => ?_)
    · skip
      refine c_aload_n G dX11_tree_27 rfl 0 rfl ?_
      refine c_iconst G (nI 2) dX11_tree_28 kI_2 ?_
      refine c_callV_I (d := 0) (rest := []) G [.int (nI 2)] yv_X11_refuse ml_X11_113 (by omega) (by decide) rfl rfl (Nat.le_of_ble_eq_true rfl) h_a0 (fun q hq => con_X11_refuse h_a0 hq) dX11_tree_29 (fun q3 _ => ?_)
      exact c_iret G hQ dX11_tree_32
    · skip
      refine c_aload_n G dX11_tree_33 rfl 0 rfl ?_
      refine c_getF G fl_X11_26 h_a0 rfl dX11_tree_34 ?_
      refine c_iload_n G dX11_tree_37 rfl 1 rfl ?_
      refine c_callV_V (d := 3) (rest := []) G [.int a1] yv_X7_begin ml_X11_117 (by omega) (by decide) rfl rfl (Nat.le_of_ble_eq_true rfl) (lf h_a0 4 rfl) (fun q hq => con_X7_begin (lf h_a0 4 rfl) hq) dX11_tree_38 (fun M1 _ => ?_)
      refine c_aload_n G dX11_tree_41 rfl 0 rfl ?_
      refine c_getR (c' := 8) G fl_X11_89 h_a0 rfl dX11_tree_42 (fun r2 _ h_r2 => ?_)
      refine c_callV_V (d := 1) (rest := []) G [] yv_X8_clear ml_X11_131 (by omega) (by decide) rfl rfl (Nat.le_of_ble_eq_true rfl) h_r2 (fun q hq => con_X8_clear h_r2 hq) dX11_tree_45 (fun M2 _ => ?_)
      refine c_aload_n G dX11_tree_48 rfl 0 rfl ?_
      refine c_getF G fl_X11_40 h_a0 rfl dX11_tree_49 ?_
      refine c_aload_n G dX11_tree_52 rfl 0 rfl ?_
      refine c_getF G fl_X11_26 h_a0 rfl dX11_tree_53 ?_
      refine c_aload_n G dX11_tree_56 rfl 0 rfl ?_
      refine c_getR (c' := 1) G fl_X11_75 h_a0 rfl dX11_tree_57 (fun r3 _ h_r3 => ?_)
      refine c_aload_n G dX11_tree_60 rfl 0 rfl ?_
      refine c_getR (c' := 8) G fl_X11_89 h_a0 rfl dX11_tree_61 (fun r4 _ h_r4 => ?_)
      refine c_iconst G m1 dX11_tree_64 kI_m1 ?_
      refine c_iconst G (nI 0) dX11_tree_65 kI_0 ?_
      refine c_iconst G m1 dX11_tree_66 kI_m1 ?_
      refine c_iconst G (nI 0) dX11_tree_67 kI_0 ?_
      refine c_callV_I (d := 5) (rest := []) G [.ref (wB w + pz ((a0 + 1))), .ref (wB w + pz (r3)), .ref (wB w + pz (r4)), .int m1, .int (nI 0), .int m1, .int (nI 0)] yv_X9_read ml_X11_265 (by omega) (by decide) rfl rfl (Nat.le_of_ble_eq_true rfl) (lf h_a0 6 rfl) (fun q hq => con_X9_read (lf h_a0 6 rfl) (lf h_a0 4 rfl) h_r3 h_r4 hq) dX11_tree_68 (fun q4 _ => ?_)
      refine c_istore_n G [(2, .int q4.1), (0, .ref (wB w + pz (a0))), (1, .int a1)] dX11_tree_71 rfl (by decide) rfl ?_
      refine c_aload_n G dX11_tree_72 rfl 1 rfl ?_
      refine c_iload_n G dX11_tree_73 rfl 0 rfl ?_
      refine c_callV_V (d := 0) (rest := []) G [.int q4.1] yv_X11_keepFault ml_X11_124 (by omega) (by decide) rfl rfl (Nat.le_of_ble_eq_true rfl) h_a0 (fun q hq => con_X11_keepFault h_a0 hq) dX11_tree_74 (fun M3 _ => ?_)
      refine c_iload_n G dX11_tree_77 rfl 0 rfl ?_
      refine c_if_ne (tgt := 88) G dX11_tree_78 (by decide) (fun _ => ?_) (fun _ => ?_)
      · skip
        refine c_aload_n G dX11_tree_81 rfl 1 rfl ?_
        refine c_bipush G (nI 9) dX11_tree_82 kB_9 ?_
        refine c_callV_I (d := 0) (rest := []) G [.int (nI 9)] yv_X11_refuse ml_X11_113 (by omega) (by decide) rfl rfl (Nat.le_of_ble_eq_true rfl) h_a0 (fun q hq => con_X11_refuse h_a0 hq) dX11_tree_84 (fun q5 _ => ?_)
        exact c_iret G hQ dX11_tree_87
      · skip
        refine c_aload_n G dX11_tree_88 rfl 1 rfl ?_
        refine c_getR (c' := 8) G fl_X11_89 h_a0 rfl dX11_tree_89 (fun r5 _ h_r5 => ?_)
        refine c_aload_n G dX11_tree_92 rfl 1 rfl ?_
        refine c_getR (c' := 1) G fl_X11_75 h_a0 rfl dX11_tree_93 (fun r6 _ h_r6 => ?_)
        refine c_callV_V (d := 1) (rest := []) G [.ref (wB w + pz (r6))] yv_X8_link ml_X11_268 (by omega) (by decide) rfl rfl (Nat.le_of_ble_eq_true rfl) h_r5 (fun q hq => con_X8_link h_r5 h_r6 hq) dX11_tree_96 (fun M4 _ => ?_)
        refine c_aload_n G dX11_tree_99 rfl 1 rfl ?_
        refine c_callV_V (d := 0) (rest := []) G [] yv_X11_swapWood ml_X11_271 (by omega) (by decide) rfl rfl (Nat.le_of_ble_eq_true rfl) h_a0 (fun q hq => con_X11_swapWood h_a0 hq) dX11_tree_100 (fun M5 _ => ?_)
        refine c_aload_n G dX11_tree_103 rfl 1 rfl ?_
        refine c_iconst G (nI 0) dX11_tree_104 kI_0 ?_
        refine c_putZ G fp_X11_19 h_a0 rfl dX11_tree_105 (fun M6 _ => ?_)
        refine c_aload_n G dX11_tree_108 rfl 1 rfl ?_
        refine c_getR (c' := 10) G fl_X11_95 h_a0 rfl dX11_tree_109 (fun r7 _ h_r7 => ?_)
        refine c_aload_n G dX11_tree_112 rfl 1 rfl ?_
        refine c_getR (c' := 1) G fl_X11_75 h_a0 rfl dX11_tree_113 (fun r8 _ h_r8 => ?_)
        refine c_aload_n G dX11_tree_116 rfl 1 rfl ?_
        refine c_getR (c' := 8) G fl_X11_85 h_a0 rfl dX11_tree_117 (fun r9 _ h_r9 => ?_)
        refine c_callV_V (d := 0) (rest := []) G [.ref (wB w + pz (r8)), .ref (wB w + pz (r9))] yv_X10_begin ml_X11_274 (by omega) (by decide) rfl rfl (Nat.le_of_ble_eq_true rfl) h_r7 (fun q hq => con_X10_begin h_r7 h_r8 h_r9 hq) dX11_tree_120 (fun M7 _ => ?_)
        refine c_aload_n G dX11_tree_123 rfl 1 rfl ?_
        refine c_getR (c' := 10) G fl_X11_95 h_a0 rfl dX11_tree_124 (fun r10 _ h_r10 => ?_)
        refine c_getF G fl_X11_160 h_r10 rfl dX11_tree_127 ?_
        refine c_aload_n G dX11_tree_130 rfl 1 rfl ?_
        refine c_getR (c' := 8) G fl_X11_85 h_a0 rfl dX11_tree_131 (fun r11 _ h_r11 => ?_)
        refine c_callV_V (d := 4) (rest := []) G [.ref (wB w + pz (r11))] yv_X4_find ml_X11_277 (by omega) (by decide) rfl rfl (Nat.le_of_ble_eq_true rfl) (lf h_r10 0 rfl) (fun q hq => con_X4_find (lf h_r10 0 rfl) h_r11 hq) dX11_tree_134 (fun M8 _ => ?_)
        refine c_aload_n G dX11_tree_137 rfl 1 rfl ?_
        refine c_getR (c' := 10) G fl_X11_95 h_a0 rfl dX11_tree_138 (fun r12 _ h_r12 => ?_)
        refine c_callV_V (d := 4) (rest := []) G [] yv_X10_reckonAll ml_X11_280 (by omega) (by decide) rfl rfl (Nat.le_of_ble_eq_true rfl) h_r12 (fun q hq => con_X10_reckonAll h_r12 hq) dX11_tree_141 (fun M9 _ => ?_)
        refine c_aload_n G dX11_tree_144 rfl 1 rfl ?_
        refine c_aload_n G dX11_tree_145 rfl 1 rfl ?_
        refine c_getR (c' := 8) G fl_X11_85 h_a0 rfl dX11_tree_146 (fun r13 _ h_r13 => ?_)
        refine c_getI G fl_X11_150 h_r13 rfl dX11_tree_149 ?_
        refine c_callV_I (d := 0) (rest := []) G [.int (M9.1 r13 0)] yv_X11_answer ml_X11_147 (by omega) (by decide) rfl rfl (Nat.le_of_ble_eq_true rfl) h_a0 (fun q hq => con_X11_answer h_a0 hq) dX11_tree_152 (fun q6 _ => ?_)
        exact c_iret G hQ dX11_tree_155
set_option maxHeartbeats 4000000 in
set_option maxRecDepth 100000 in
theorem con_X8_hasNode {w : Wp} {N : Nat} {a0 : Nat} {a1 : Int32} {M : Mm} {q : Int32} (h_a0 : lay a0 = (5, 8)) (hq : D_X8_hasNode N a0 a1 M = some q) : Con w 0 yX8_hasNode cX8_hasNode 2 (some .boolean) [.ref (wB w + pz (a0)), .int a1] M ((encPI M) q) := by
  refine Con.of (encPI M) q _ hq (by decide) (Nat.le_of_ble_eq_true rfl) ?_
  intro X G Q hQ
  have G : Good w X cX8_hasNode 2 RX8 (some .boolean) 0 := G
  refine c_weak [(0, .ref (wB w + pz (a0))), (1, .int a1)] [0, 1] rfl ?_
  rw [D_X8_hasNode]
  refine c_iload_n G dX8_hasNode_0 rfl 1 rfl ?_
  refine c_jn (ej := fun (p16 : Unit) => []) (sj := fun p16 => []) (mj := fun p16 => M) (pj := 16) (fun p16 => ?_) (fun J1 hJ16 => ?_)
  · skip
    refine c_iconst G (nI 0) dX8_hasNode_16 kI_0 ?_
    exact c_zretP G hQ dX8_hasNode_17
  · skip
    refine c_if_lt (tgt := 16) G dX8_hasNode_1 (by decide) (fun _ => ?_) (fun _ => ?_)
    · skip
      exact c_weak _ [] rfl (hJ16 ())
    · skip
      refine c_iload_n G dX8_hasNode_4 rfl 1 rfl ?_
      refine c_aload_n G dX8_hasNode_5 rfl 0 rfl ?_
      refine c_getI G fl_X8_64 h_a0 rfl dX8_hasNode_6 ?_
      refine c_icmp_ge (tgt := 16) G dX8_hasNode_9 (by decide) (fun _ => ?_) (fun _ => ?_)
      · skip
        exact c_weak _ [] rfl (hJ16 ())
      · skip
        refine c_iconst G (nI 1) dX8_hasNode_12 kI_1 ?_
        refine c_goto (tgt := 17) G dX8_hasNode_13 (by decide) ?_
        exact c_zretP G hQ dX8_hasNode_17
set_option maxHeartbeats 4000000 in
set_option maxRecDepth 100000 in
theorem con_X8_child {w : Wp} {N : Nat} {a0 : Nat} {a1 : Int32} {a2 : Int32} {M : Mm} {q : Int32} (h_a0 : lay a0 = (5, 8)) (hq : D_X8_child N a0 a1 a2 M = some q) : Con w 0 yX8_child cX8_child 3 (some .int) [.ref (wB w + pz (a0)), .int a1, .int a2] M ((encPI M) q) := by
  refine Con.of (encPI M) q _ hq (by decide) (Nat.le_of_ble_eq_true rfl) ?_
  intro X G Q hQ
  have G : Good w X cX8_child 3 RX8 (some .int) 0 := G
  refine c_weak [(0, .ref (wB w + pz (a0))), (1, .int a1), (2, .int a2)] [0, 1, 2] rfl ?_
  rw [D_X8_child]
  refine c_aload_n G dX8_child_0 rfl 0 rfl ?_
  refine c_getF G fl_X8_42 h_a0 rfl dX8_child_1 ?_
  refine c_iconst G (nI 4) dX8_child_4 kI_4 ?_
  refine c_iload_n G dX8_child_5 rfl 1 rfl ?_
  refine c_imul G dX8_child_6 ?_
  refine c_iload_n G dX8_child_7 rfl 2 rfl ?_
  refine c_iadd G dX8_child_8 ?_
  refine c_iald G (lf h_a0 11 rfl) dX8_child_9 (fun v1 _ => ?_)
  exact c_iretP G hQ dX8_child_10
set_option maxHeartbeats 4000000 in
set_option maxRecDepth 100000 in
theorem con_X11_node {w : Wp} {N : Nat} {a0 : Nat} {a1 : Int32} {a2 : Int32} {M : Mm} {q : Int32 × Mm} (h_a0 : lay a0 = (5, 11)) (hq : D_X11_node N a0 a1 a2 M = some q) : Con w 1 yX11_node cX11_node 4 (some .int) [.ref (wB w + pz (a0)), .int a1, .int a2] M (encI q) := by
  refine Con.of encI q _ hq (by decide) (Nat.le_of_ble_eq_true rfl) ?_
  intro X G Q hQ
  have G : Good w X cX11_node 4 RX11 (some .int) 1 := G
  refine c_weak [(0, .ref (wB w + pz (a0))), (1, .int a1), (2, .int a2)] [0, 1, 2] rfl ?_
  rw [D_X11_node]
  refine c_iload_n G dX11_node_0 rfl 2 rfl ?_
  refine c_if_lt (tgt := 10) G dX11_node_1 (by decide) (fun _ => ?_) (fun _ => ?_)
  · skip
    refine c_aload_n G dX11_node_10 rfl 0 rfl ?_
    refine c_iconst G (nI 1) dX11_node_11 kI_1 ?_
    refine c_callV_I (d := 0) (rest := []) G [.int (nI 1)] yv_X11_refuse ml_X11_113 (by omega) (by decide) rfl rfl (Nat.le_of_ble_eq_true rfl) h_a0 (fun q hq => con_X11_refuse h_a0 hq) dX11_node_12 (fun q1 _ => ?_)
    exact c_iret G hQ dX11_node_15
  · skip
    refine c_iload_n G dX11_node_4 rfl 2 rfl ?_
    refine c_bipush G (nI 8) dX11_node_5 kB_8 ?_
    refine c_icmp_le (tgt := 16) G dX11_node_7 (by decide) (fun _ => ?_) (fun _ => ?_)
    · skip
      refine c_aload_n G dX11_node_16 rfl 0 rfl ?_
      refine c_getR (c' := 8) G fl_X11_85 h_a0 rfl dX11_node_17 (fun r1 _ h_r1 => ?_)
      refine c_getI G fl_X11_150 h_r1 rfl dX11_node_20 ?_
      refine c_if_ne (tgt := 32) G dX11_node_23 (by decide) (fun _ => ?_) (fun _ => ?_)
      · skip
        refine c_aload_n G dX11_node_26 rfl 0 rfl ?_
        refine c_iconst G (nI 3) dX11_node_27 kI_3 ?_
        refine c_callV_I (d := 0) (rest := []) G [.int (nI 3)] yv_X11_refuse ml_X11_113 (by omega) (by decide) rfl rfl (Nat.le_of_ble_eq_true rfl) h_a0 (fun q hq => con_X11_refuse h_a0 hq) dX11_node_28 (fun q2 _ => ?_)
        exact c_iret G hQ dX11_node_31
      · skip
        refine c_aload_n G dX11_node_32 rfl 0 rfl ?_
        refine c_getR (c' := 8) G fl_X11_85 h_a0 rfl dX11_node_33 (fun r2 _ h_r2 => ?_)
        refine c_iload_n G dX11_node_36 rfl 1 rfl ?_
        refine c_callV_PI (d := 0) (rest := []) G [.int a1] yv_X8_hasNode ml_X11_283 (by omega) (by decide) rfl rfl (Nat.le_of_ble_eq_true rfl) h_r2 (fun q hq => con_X8_hasNode h_r2 hq) dX11_node_37 (fun q3 _ => ?_)
        refine c_if_ne (tgt := 49) G dX11_node_40 (by decide) (fun _ => ?_) (fun _ => ?_)
        · skip
          refine c_aload_n G dX11_node_43 rfl 0 rfl ?_
          refine c_iconst G (nI 4) dX11_node_44 kI_4 ?_
          refine c_callV_I (d := 0) (rest := []) G [.int (nI 4)] yv_X11_refuse ml_X11_113 (by omega) (by decide) rfl rfl (Nat.le_of_ble_eq_true rfl) h_a0 (fun q hq => con_X11_refuse h_a0 hq) dX11_node_45 (fun q4 _ => ?_)
          exact c_iret G hQ dX11_node_48
        · skip
          refine c_iload_n G dX11_node_49 rfl 2 rfl ?_
          refine c_tsw (tgt := 100) G (nI 0) 0 dX11_node_50 (by decide +kernel) (by decide +kernel) rfl (by decide) (fun _ => ?_) (fun hn0 => ?_)
          · skip
            refine c_aload_n G dX11_node_100 rfl 0 rfl ?_
            refine c_aload_n G dX11_node_101 rfl 0 rfl ?_
            refine c_getR (c' := 8) G fl_X11_85 h_a0 rfl dX11_node_102 (fun r3 _ h_r3 => ?_)
            refine c_getF G fl_X11_286 h_r3 rfl dX11_node_105 ?_
            refine c_iload_n G dX11_node_108 rfl 1 rfl ?_
            refine c_iald G (lf h_r3 1 rfl) dX11_node_109 (fun v1 _ => ?_)
            refine c_callV_I (d := 0) (rest := []) G [.int v1] yv_X11_answer ml_X11_147 (by omega) (by decide) rfl rfl (Nat.le_of_ble_eq_true rfl) h_a0 (fun q hq => con_X11_answer h_a0 hq) dX11_node_110 (fun q5 _ => ?_)
            exact c_iret G hQ dX11_node_113
          · skip
            refine c_tsw (tgt := 114) G (nI 1) 1 dX11_node_50 (by decide +kernel) (by decide +kernel) rfl (by decide) (fun _ => ?_) (fun hn1 => ?_)
            · skip
              refine c_aload_n G dX11_node_114 rfl 0 rfl ?_
              refine c_aload_n G dX11_node_115 rfl 0 rfl ?_
              refine c_getR (c' := 8) G fl_X11_85 h_a0 rfl dX11_node_116 (fun r4 _ h_r4 => ?_)
              refine c_getF G fl_X11_289 h_r4 rfl dX11_node_119 ?_
              refine c_iload_n G dX11_node_122 rfl 1 rfl ?_
              refine c_iald G (lf h_r4 2 rfl) dX11_node_123 (fun v2 _ => ?_)
              refine c_callV_I (d := 0) (rest := []) G [.int v2] yv_X11_answer ml_X11_147 (by omega) (by decide) rfl rfl (Nat.le_of_ble_eq_true rfl) h_a0 (fun q hq => con_X11_answer h_a0 hq) dX11_node_124 (fun q6 _ => ?_)
              exact c_iret G hQ dX11_node_127
            · skip
              refine c_tsw (tgt := 128) G (nI 2) 2 dX11_node_50 (by decide +kernel) (by decide +kernel) rfl (by decide) (fun _ => ?_) (fun hn2 => ?_)
              · skip
                refine c_aload_n G dX11_node_128 rfl 0 rfl ?_
                refine c_aload_n G dX11_node_129 rfl 0 rfl ?_
                refine c_getR (c' := 8) G fl_X11_85 h_a0 rfl dX11_node_130 (fun r5 _ h_r5 => ?_)
                refine c_getF G fl_X11_292 h_r5 rfl dX11_node_133 ?_
                refine c_iload_n G dX11_node_136 rfl 1 rfl ?_
                refine c_iald G (lf h_r5 3 rfl) dX11_node_137 (fun v3 _ => ?_)
                refine c_callV_I (d := 0) (rest := []) G [.int v3] yv_X11_answer ml_X11_147 (by omega) (by decide) rfl rfl (Nat.le_of_ble_eq_true rfl) h_a0 (fun q hq => con_X11_answer h_a0 hq) dX11_node_138 (fun q7 _ => ?_)
                exact c_iret G hQ dX11_node_141
              · skip
                refine c_tsw (tgt := 142) G (nI 3) 3 dX11_node_50 (by decide +kernel) (by decide +kernel) rfl (by decide) (fun _ => ?_) (fun hn3 => ?_)
                · skip
                  refine c_aload_n G dX11_node_142 rfl 0 rfl ?_
                  refine c_aload_n G dX11_node_143 rfl 0 rfl ?_
                  refine c_getR (c' := 8) G fl_X11_85 h_a0 rfl dX11_node_144 (fun r6 _ h_r6 => ?_)
                  refine c_getF G fl_X11_295 h_r6 rfl dX11_node_147 ?_
                  refine c_iload_n G dX11_node_150 rfl 1 rfl ?_
                  refine c_iald G (lf h_r6 10 rfl) dX11_node_151 (fun v4 _ => ?_)
                  refine c_callV_I (d := 0) (rest := []) G [.int v4] yv_X11_answer ml_X11_147 (by omega) (by decide) rfl rfl (Nat.le_of_ble_eq_true rfl) h_a0 (fun q hq => con_X11_answer h_a0 hq) dX11_node_152 (fun q8 _ => ?_)
                  exact c_iret G hQ dX11_node_155
                · skip
                  refine c_tsw (tgt := 184) G (nI 4) 4 dX11_node_50 (by decide +kernel) (by decide +kernel) rfl (by decide) (fun _ => ?_) (fun hn4 => ?_)
                  · skip
                    refine c_iload_n G dX11_node_184 rfl 2 rfl ?_
                    refine c_iconst G (nI 3) dX11_node_185 kI_3 ?_
                    refine c_isub G dX11_node_186 ?_
                    refine c_let (fun l3_1 _ => ?_)
                    refine c_istore_n G [(3, .int l3_1), (0, .ref (wB w + pz (a0))), (1, .int a1), (2, .int a2)] dX11_node_187 rfl (by decide) rfl ?_
                    refine c_iload_n G dX11_node_188 rfl 0 rfl ?_
                    refine c_aload_n G dX11_node_189 rfl 1 rfl ?_
                    refine c_getR (c' := 8) G fl_X11_85 h_a0 rfl dX11_node_190 (fun r7 _ h_r7 => ?_)
                    refine c_getF G fl_X11_295 h_r7 rfl dX11_node_193 ?_
                    refine c_iload_n G dX11_node_196 rfl 2 rfl ?_
                    refine c_iald G (lf h_r7 10 rfl) dX11_node_197 (fun v5 _ => ?_)
                    refine c_icmp_le (tgt := 210) G dX11_node_198 (by decide) (fun _ => ?_) (fun _ => ?_)
                    · skip
                      refine c_aload_n G dX11_node_210 rfl 1 rfl ?_
                      refine c_aload_n G dX11_node_211 rfl 1 rfl ?_
                      refine c_getR (c' := 8) G fl_X11_85 h_a0 rfl dX11_node_212 (fun r8 _ h_r8 => ?_)
                      refine c_iload_n G dX11_node_215 rfl 2 rfl ?_
                      refine c_iload_n G dX11_node_216 rfl 0 rfl ?_
                      refine c_callV_PI (d := 0) (rest := [.ref (wB w + pz (a0))]) G [.int a1, .int l3_1] yv_X8_child ml_X11_303 (by omega) (by decide) rfl rfl (Nat.le_of_ble_eq_true rfl) h_r8 (fun q hq => con_X8_child h_r8 hq) dX11_node_217 (fun q9 _ => ?_)
                      refine c_callV_I (d := 0) (rest := []) G [.int q9] yv_X11_answer ml_X11_147 (by omega) (by decide) rfl rfl (Nat.le_of_ble_eq_true rfl) h_a0 (fun q hq => con_X11_answer h_a0 hq) dX11_node_220 (fun q10 _ => ?_)
                      exact c_iret G hQ dX11_node_223
                    · skip
                      refine c_aload_n G dX11_node_201 rfl 1 rfl ?_
                      refine c_bipush G (nI 7) dX11_node_202 kB_7 ?_
                      refine c_callV_I (d := 0) (rest := []) G [.int (nI 7)] yv_X11_refuse ml_X11_113 (by omega) (by decide) rfl rfl (Nat.le_of_ble_eq_true rfl) h_a0 (fun q hq => con_X11_refuse h_a0 hq) dX11_node_204 (fun q11 _ => ?_)
                      refine c_goto (tgt := 223) G dX11_node_207 (by decide) ?_
                      exact c_iret G hQ dX11_node_223
                  · skip
                    refine c_tsw (tgt := 184) G (nI 5) 5 dX11_node_50 (by decide +kernel) (by decide +kernel) rfl (by decide) (fun _ => ?_) (fun hn5 => ?_)
                    · skip
                      refine c_iload_n G dX11_node_184 rfl 2 rfl ?_
                      refine c_iconst G (nI 3) dX11_node_185 kI_3 ?_
                      refine c_isub G dX11_node_186 ?_
                      refine c_let (fun l3_2 _ => ?_)
                      refine c_istore_n G [(3, .int l3_2), (0, .ref (wB w + pz (a0))), (1, .int a1), (2, .int a2)] dX11_node_187 rfl (by decide) rfl ?_
                      refine c_iload_n G dX11_node_188 rfl 0 rfl ?_
                      refine c_aload_n G dX11_node_189 rfl 1 rfl ?_
                      refine c_getR (c' := 8) G fl_X11_85 h_a0 rfl dX11_node_190 (fun r9 _ h_r9 => ?_)
                      refine c_getF G fl_X11_295 h_r9 rfl dX11_node_193 ?_
                      refine c_iload_n G dX11_node_196 rfl 2 rfl ?_
                      refine c_iald G (lf h_r9 10 rfl) dX11_node_197 (fun v6 _ => ?_)
                      refine c_icmp_le (tgt := 210) G dX11_node_198 (by decide) (fun _ => ?_) (fun _ => ?_)
                      · skip
                        refine c_aload_n G dX11_node_210 rfl 1 rfl ?_
                        refine c_aload_n G dX11_node_211 rfl 1 rfl ?_
                        refine c_getR (c' := 8) G fl_X11_85 h_a0 rfl dX11_node_212 (fun r10 _ h_r10 => ?_)
                        refine c_iload_n G dX11_node_215 rfl 2 rfl ?_
                        refine c_iload_n G dX11_node_216 rfl 0 rfl ?_
                        refine c_callV_PI (d := 0) (rest := [.ref (wB w + pz (a0))]) G [.int a1, .int l3_2] yv_X8_child ml_X11_303 (by omega) (by decide) rfl rfl (Nat.le_of_ble_eq_true rfl) h_r10 (fun q hq => con_X8_child h_r10 hq) dX11_node_217 (fun q12 _ => ?_)
                        refine c_callV_I (d := 0) (rest := []) G [.int q12] yv_X11_answer ml_X11_147 (by omega) (by decide) rfl rfl (Nat.le_of_ble_eq_true rfl) h_a0 (fun q hq => con_X11_answer h_a0 hq) dX11_node_220 (fun q13 _ => ?_)
                        exact c_iret G hQ dX11_node_223
                      · skip
                        refine c_aload_n G dX11_node_201 rfl 1 rfl ?_
                        refine c_bipush G (nI 7) dX11_node_202 kB_7 ?_
                        refine c_callV_I (d := 0) (rest := []) G [.int (nI 7)] yv_X11_refuse ml_X11_113 (by omega) (by decide) rfl rfl (Nat.le_of_ble_eq_true rfl) h_a0 (fun q hq => con_X11_refuse h_a0 hq) dX11_node_204 (fun q14 _ => ?_)
                        refine c_goto (tgt := 223) G dX11_node_207 (by decide) ?_
                        exact c_iret G hQ dX11_node_223
                    · skip
                      refine c_tsw (tgt := 184) G (nI 6) 6 dX11_node_50 (by decide +kernel) (by decide +kernel) rfl (by decide) (fun _ => ?_) (fun hn6 => ?_)
                      · skip
                        refine c_iload_n G dX11_node_184 rfl 2 rfl ?_
                        refine c_iconst G (nI 3) dX11_node_185 kI_3 ?_
                        refine c_isub G dX11_node_186 ?_
                        refine c_let (fun l3_3 _ => ?_)
                        refine c_istore_n G [(3, .int l3_3), (0, .ref (wB w + pz (a0))), (1, .int a1), (2, .int a2)] dX11_node_187 rfl (by decide) rfl ?_
                        refine c_iload_n G dX11_node_188 rfl 0 rfl ?_
                        refine c_aload_n G dX11_node_189 rfl 1 rfl ?_
                        refine c_getR (c' := 8) G fl_X11_85 h_a0 rfl dX11_node_190 (fun r11 _ h_r11 => ?_)
                        refine c_getF G fl_X11_295 h_r11 rfl dX11_node_193 ?_
                        refine c_iload_n G dX11_node_196 rfl 2 rfl ?_
                        refine c_iald G (lf h_r11 10 rfl) dX11_node_197 (fun v7 _ => ?_)
                        refine c_icmp_le (tgt := 210) G dX11_node_198 (by decide) (fun _ => ?_) (fun _ => ?_)
                        · skip
                          refine c_aload_n G dX11_node_210 rfl 1 rfl ?_
                          refine c_aload_n G dX11_node_211 rfl 1 rfl ?_
                          refine c_getR (c' := 8) G fl_X11_85 h_a0 rfl dX11_node_212 (fun r12 _ h_r12 => ?_)
                          refine c_iload_n G dX11_node_215 rfl 2 rfl ?_
                          refine c_iload_n G dX11_node_216 rfl 0 rfl ?_
                          refine c_callV_PI (d := 0) (rest := [.ref (wB w + pz (a0))]) G [.int a1, .int l3_3] yv_X8_child ml_X11_303 (by omega) (by decide) rfl rfl (Nat.le_of_ble_eq_true rfl) h_r12 (fun q hq => con_X8_child h_r12 hq) dX11_node_217 (fun q15 _ => ?_)
                          refine c_callV_I (d := 0) (rest := []) G [.int q15] yv_X11_answer ml_X11_147 (by omega) (by decide) rfl rfl (Nat.le_of_ble_eq_true rfl) h_a0 (fun q hq => con_X11_answer h_a0 hq) dX11_node_220 (fun q16 _ => ?_)
                          exact c_iret G hQ dX11_node_223
                        · skip
                          refine c_aload_n G dX11_node_201 rfl 1 rfl ?_
                          refine c_bipush G (nI 7) dX11_node_202 kB_7 ?_
                          refine c_callV_I (d := 0) (rest := []) G [.int (nI 7)] yv_X11_refuse ml_X11_113 (by omega) (by decide) rfl rfl (Nat.le_of_ble_eq_true rfl) h_a0 (fun q hq => con_X11_refuse h_a0 hq) dX11_node_204 (fun q17 _ => ?_)
                          refine c_goto (tgt := 223) G dX11_node_207 (by decide) ?_
                          exact c_iret G hQ dX11_node_223
                      · skip
                        refine c_tsw (tgt := 156) G (nI 7) 7 dX11_node_50 (by decide +kernel) (by decide +kernel) rfl (by decide) (fun _ => ?_) (fun hn7 => ?_)
                        · skip
                          refine c_aload_n G dX11_node_156 rfl 0 rfl ?_
                          refine c_aload_n G dX11_node_157 rfl 0 rfl ?_
                          refine c_getR (c' := 8) G fl_X11_85 h_a0 rfl dX11_node_158 (fun r13 _ h_r13 => ?_)
                          refine c_getF G fl_X11_297 h_r13 rfl dX11_node_161 ?_
                          refine c_iload_n G dX11_node_164 rfl 1 rfl ?_
                          refine c_iald G (lf h_r13 6 rfl) dX11_node_165 (fun v8 _ => ?_)
                          refine c_callV_I (d := 0) (rest := []) G [.int v8] yv_X11_answer ml_X11_147 (by omega) (by decide) rfl rfl (Nat.le_of_ble_eq_true rfl) h_a0 (fun q hq => con_X11_answer h_a0 hq) dX11_node_166 (fun q18 _ => ?_)
                          exact c_iret G hQ dX11_node_169
                        · skip
                          refine c_tsw (tgt := 170) G (nI 8) 8 dX11_node_50 (by decide +kernel) (by decide +kernel) rfl (by decide) (fun _ => ?_) (fun hn8 => ?_)
                          · skip
                            refine c_aload_n G dX11_node_170 rfl 0 rfl ?_
                            refine c_aload_n G dX11_node_171 rfl 0 rfl ?_
                            refine c_getR (c' := 8) G fl_X11_85 h_a0 rfl dX11_node_172 (fun r14 _ h_r14 => ?_)
                            refine c_getF G fl_X11_300 h_r14 rfl dX11_node_175 ?_
                            refine c_iload_n G dX11_node_178 rfl 1 rfl ?_
                            refine c_iald G (lf h_r14 5 rfl) dX11_node_179 (fun v9 _ => ?_)
                            refine c_callV_I (d := 0) (rest := []) G [.int v9] yv_X11_answer ml_X11_147 (by omega) (by decide) rfl rfl (Nat.le_of_ble_eq_true rfl) h_a0 (fun q hq => con_X11_answer h_a0 hq) dX11_node_180 (fun q19 _ => ?_)
                            exact c_iret G hQ dX11_node_183
                          · skip
                            have hm0 := lv_neT hn0 (show (nI 0).toInt = 0 by decide +kernel)
                            have hm1 := lv_neT hn1 (show (nI 1).toInt = 1 by decide +kernel)
                            have hm2 := lv_neT hn2 (show (nI 2).toInt = 2 by decide +kernel)
                            have hm3 := lv_neT hn3 (show (nI 3).toInt = 3 by decide +kernel)
                            have hm4 := lv_neT hn4 (show (nI 4).toInt = 4 by decide +kernel)
                            have hm5 := lv_neT hn5 (show (nI 5).toInt = 5 by decide +kernel)
                            have hm6 := lv_neT hn6 (show (nI 6).toInt = 6 by decide +kernel)
                            have hm7 := lv_neT hn7 (show (nI 7).toInt = 7 by decide +kernel)
                            have hm8 := lv_neT hn8 (show (nI 8).toInt = 8 by decide +kernel)
                            refine c_tswD (tgt := 184) G dX11_node_50 (by omega) (by decide) ?_
                            refine c_iload_n G dX11_node_184 rfl 2 rfl ?_
                            refine c_iconst G (nI 3) dX11_node_185 kI_3 ?_
                            refine c_isub G dX11_node_186 ?_
                            refine c_let (fun l3_4 _ => ?_)
                            refine c_istore_n G [(3, .int l3_4), (0, .ref (wB w + pz (a0))), (1, .int a1), (2, .int a2)] dX11_node_187 rfl (by decide) rfl ?_
                            refine c_iload_n G dX11_node_188 rfl 0 rfl ?_
                            refine c_aload_n G dX11_node_189 rfl 1 rfl ?_
                            refine c_getR (c' := 8) G fl_X11_85 h_a0 rfl dX11_node_190 (fun r15 _ h_r15 => ?_)
                            refine c_getF G fl_X11_295 h_r15 rfl dX11_node_193 ?_
                            refine c_iload_n G dX11_node_196 rfl 2 rfl ?_
                            refine c_iald G (lf h_r15 10 rfl) dX11_node_197 (fun v10 _ => ?_)
                            refine c_icmp_le (tgt := 210) G dX11_node_198 (by decide) (fun _ => ?_) (fun _ => ?_)
                            · skip
                              refine c_aload_n G dX11_node_210 rfl 1 rfl ?_
                              refine c_aload_n G dX11_node_211 rfl 1 rfl ?_
                              refine c_getR (c' := 8) G fl_X11_85 h_a0 rfl dX11_node_212 (fun r16 _ h_r16 => ?_)
                              refine c_iload_n G dX11_node_215 rfl 2 rfl ?_
                              refine c_iload_n G dX11_node_216 rfl 0 rfl ?_
                              refine c_callV_PI (d := 0) (rest := [.ref (wB w + pz (a0))]) G [.int a1, .int l3_4] yv_X8_child ml_X11_303 (by omega) (by decide) rfl rfl (Nat.le_of_ble_eq_true rfl) h_r16 (fun q hq => con_X8_child h_r16 hq) dX11_node_217 (fun q20 _ => ?_)
                              refine c_callV_I (d := 0) (rest := []) G [.int q20] yv_X11_answer ml_X11_147 (by omega) (by decide) rfl rfl (Nat.le_of_ble_eq_true rfl) h_a0 (fun q hq => con_X11_answer h_a0 hq) dX11_node_220 (fun q21 _ => ?_)
                              exact c_iret G hQ dX11_node_223
                            · skip
                              refine c_aload_n G dX11_node_201 rfl 1 rfl ?_
                              refine c_bipush G (nI 7) dX11_node_202 kB_7 ?_
                              refine c_callV_I (d := 0) (rest := []) G [.int (nI 7)] yv_X11_refuse ml_X11_113 (by omega) (by decide) rfl rfl (Nat.le_of_ble_eq_true rfl) h_a0 (fun q hq => con_X11_refuse h_a0 hq) dX11_node_204 (fun q22 _ => ?_)
                              refine c_goto (tgt := 223) G dX11_node_207 (by decide) ?_
                              exact c_iret G hQ dX11_node_223
    · skip
      refine c_aload_n G dX11_node_10 rfl 0 rfl ?_
      refine c_iconst G (nI 1) dX11_node_11 kI_1 ?_
      refine c_callV_I (d := 0) (rest := []) G [.int (nI 1)] yv_X11_refuse ml_X11_113 (by omega) (by decide) rfl rfl (Nat.le_of_ble_eq_true rfl) h_a0 (fun q hq => con_X11_refuse h_a0 hq) dX11_node_12 (fun q23 _ => ?_)
      exact c_iret G hQ dX11_node_15
set_option maxHeartbeats 4000000 in
set_option maxRecDepth 100000 in
theorem con_X11_noInstance {w : Wp} {N : Nat} {a0 : Nat} {a1 : Int32} {a2 : Int32} {M : Mm} {q : Int32} (h_a0 : lay a0 = (5, 11)) (hq : D_X11_noInstance N a0 a1 a2 M = some q) : Con w 1 yX11_noInstance cX11_noInstance 3 (some .int) [.ref (wB w + pz (a0)), .int a1, .int a2] M ((encPI M) q) := by
  refine Con.of (encPI M) q _ hq (by decide) (Nat.le_of_ble_eq_true rfl) ?_
  intro X G Q hQ
  have G : Good w X cX11_noInstance 3 RX11 (some .int) 1 := G
  refine c_weak [(0, .ref (wB w + pz (a0))), (1, .int a1), (2, .int a2)] [0, 1, 2] rfl ?_
  rw [D_X11_noInstance]
  refine c_aload_n G dX11_noInstance_0 rfl 0 rfl ?_
  refine c_getR (c' := 8) G fl_X11_85 h_a0 rfl dX11_noInstance_1 (fun r1 _ h_r1 => ?_)
  refine c_getI G fl_X11_150 h_r1 rfl dX11_noInstance_4 ?_
  refine c_if_ne (tgt := 12) G dX11_noInstance_7 (by decide) (fun _ => ?_) (fun _ => ?_)
  · skip
    refine c_iconst G (nI 3) dX11_noInstance_10 kI_3 ?_
    exact c_iretP G hQ dX11_noInstance_11
  · skip
    refine c_aload_n G dX11_noInstance_12 rfl 0 rfl ?_
    refine c_getR (c' := 8) G fl_X11_85 h_a0 rfl dX11_noInstance_13 (fun r2 _ h_r2 => ?_)
    refine c_iload_n G dX11_noInstance_16 rfl 1 rfl ?_
    refine c_callV_PI (d := 0) (rest := []) G [.int a1] yv_X8_hasNode ml_X11_283 (by omega) (by decide) rfl rfl (Nat.le_of_ble_eq_true rfl) h_r2 (fun q hq => con_X8_hasNode h_r2 hq) dX11_noInstance_17 (fun q1 _ => ?_)
    refine c_jn (ej := fun (p39 : Unit) => []) (sj := fun p39 => []) (mj := fun p39 => M) (pj := 39) (fun p39 => ?_) (fun J1 hJ39 => ?_)
    · skip
      refine c_iconst G (nI 4) dX11_noInstance_39 kI_4 ?_
      exact c_iretP G hQ dX11_noInstance_40
    · skip
      refine c_if_eq (tgt := 39) G dX11_noInstance_20 (by decide) (fun _ => ?_) (fun _ => ?_)
      · skip
        exact c_weak _ [] rfl (hJ39 ())
      · skip
        refine c_aload_n G dX11_noInstance_23 rfl 0 rfl ?_
        refine c_getR (c' := 8) G fl_X11_85 h_a0 rfl dX11_noInstance_24 (fun r3 _ h_r3 => ?_)
        refine c_iload_n G dX11_noInstance_27 rfl 1 rfl ?_
        refine c_iload_n G dX11_noInstance_28 rfl 2 rfl ?_
        refine c_callV_PI (d := 0) (rest := []) G [.int a1, .int a2] yv_X8_hasInstance ml_X11_388 (by omega) (by decide) rfl rfl (Nat.le_of_ble_eq_true rfl) h_r3 (fun q hq => con_X8_hasInstance h_r3 hq) dX11_noInstance_29 (fun q2 _ => ?_)
        refine c_if_eq (tgt := 39) G dX11_noInstance_32 (by decide) (fun _ => ?_) (fun _ => ?_)
        · skip
          exact c_weak _ [] rfl (hJ39 ())
        · skip
          refine c_iconst G (nI 0) dX11_noInstance_35 kI_0 ?_
          refine c_goto (tgt := 40) G dX11_noInstance_36 (by decide) ?_
          exact c_iretP G hQ dX11_noInstance_40
set_option maxHeartbeats 4000000 in
set_option maxRecDepth 100000 in
theorem con_X11_value {w : Wp} {N : Nat} {a0 : Nat} {a1 : Int32} {a2 : Int32} {M : Mm} {q : Int32 × Mm} (h_a0 : lay a0 = (5, 11)) (hq : D_X11_value N a0 a1 a2 M = some q) : Con w 2 yX11_value cX11_value 4 (some .int) [.ref (wB w + pz (a0)), .int a1, .int a2] M (encI q) := by
  refine Con.of encI q _ hq (by decide) (Nat.le_of_ble_eq_true rfl) ?_
  intro X G Q hQ
  have G : Good w X cX11_value 4 RX11 (some .int) 2 := G
  refine c_weak [(0, .ref (wB w + pz (a0))), (1, .int a1), (2, .int a2)] [0, 1, 2] rfl ?_
  rw [D_X11_value]
  refine c_aload_n G dX11_value_0 rfl 0 rfl ?_
  refine c_iload_n G dX11_value_1 rfl 1 rfl ?_
  refine c_iload_n G dX11_value_2 rfl 2 rfl ?_
  refine c_callV_PI (d := 1) (rest := []) G [.int a1, .int a2] yv_X11_noInstance ml_X11_306 (by omega) (by decide) rfl rfl (Nat.le_of_ble_eq_true rfl) h_a0 (fun q hq => con_X11_noInstance h_a0 hq) dX11_value_3 (fun q1 _ => ?_)
  refine c_istore_n G [(3, .int q1), (0, .ref (wB w + pz (a0))), (1, .int a1), (2, .int a2)] dX11_value_6 rfl (by decide) rfl ?_
  refine c_iload_n G dX11_value_7 rfl 0 rfl ?_
  refine c_if_eq (tgt := 19) G dX11_value_8 (by decide) (fun _ => ?_) (fun _ => ?_)
  · skip
    refine c_aload_n G dX11_value_19 rfl 1 rfl ?_
    refine c_aload_n G dX11_value_20 rfl 1 rfl ?_
    refine c_getR (c' := 10) G fl_X11_95 h_a0 rfl dX11_value_21 (fun r1 _ h_r1 => ?_)
    refine c_getF G fl_X11_309 h_r1 rfl dX11_value_24 ?_
    refine c_bipush G (nI 8) dX11_value_27 kB_8 ?_
    refine c_iload_n G dX11_value_29 rfl 2 rfl ?_
    refine c_imul G dX11_value_30 ?_
    refine c_iload_n G dX11_value_31 rfl 3 rfl ?_
    refine c_iadd G dX11_value_32 ?_
    refine c_iald G (lf h_r1 1 rfl) dX11_value_33 (fun v1 _ => ?_)
    refine c_callV_I (d := 0) (rest := []) G [.int v1] yv_X11_answer ml_X11_147 (by omega) (by decide) rfl rfl (Nat.le_of_ble_eq_true rfl) h_a0 (fun q hq => con_X11_answer h_a0 hq) dX11_value_34 (fun q2 _ => ?_)
    exact c_iret G hQ dX11_value_37
  · skip
    refine c_aload_n G dX11_value_11 rfl 1 rfl ?_
    refine c_iload_n G dX11_value_12 rfl 0 rfl ?_
    refine c_callV_I (d := 0) (rest := []) G [.int q1] yv_X11_refuse ml_X11_113 (by omega) (by decide) rfl rfl (Nat.le_of_ble_eq_true rfl) h_a0 (fun q hq => con_X11_refuse h_a0 hq) dX11_value_13 (fun q3 _ => ?_)
    refine c_goto (tgt := 37) G dX11_value_16 (by decide) ?_
    exact c_iret G hQ dX11_value_37
set_option maxHeartbeats 4000000 in
set_option maxRecDepth 100000 in
theorem con_X11_knot {w : Wp} {N : Nat} {a0 : Nat} {a1 : Int32} {a2 : Int32} {a3 : Int32} {M : Mm} {q : Int32 × Mm} (h_a0 : lay a0 = (5, 11)) (hq : D_X11_knot N a0 a1 a2 a3 M = some q) : Con w 2 yX11_knot cX11_knot 6 (some .int) [.ref (wB w + pz (a0)), .int a1, .int a2, .int a3] M (encI q) := by
  refine Con.of encI q _ hq (by decide) (Nat.le_of_ble_eq_true rfl) ?_
  intro X G Q hQ
  have G : Good w X cX11_knot 6 RX11 (some .int) 2 := G
  refine c_weak [(0, .ref (wB w + pz (a0))), (1, .int a1), (2, .int a2), (3, .int a3)] [0, 1, 2, 3] rfl ?_
  rw [D_X11_knot]
  refine c_iload_n G dX11_knot_0 rfl 3 rfl ?_
  refine c_if_lt (tgt := 9) G dX11_knot_1 (by decide) (fun _ => ?_) (fun _ => ?_)
  · skip
    refine c_aload_n G dX11_knot_9 rfl 0 rfl ?_
    refine c_iconst G (nI 1) dX11_knot_10 kI_1 ?_
    refine c_callV_I (d := 0) (rest := []) G [.int (nI 1)] yv_X11_refuse ml_X11_113 (by omega) (by decide) rfl rfl (Nat.le_of_ble_eq_true rfl) h_a0 (fun q hq => con_X11_refuse h_a0 hq) dX11_knot_11 (fun q1 _ => ?_)
    exact c_iret G hQ dX11_knot_14
  · skip
    refine c_iload_n G dX11_knot_4 rfl 3 rfl ?_
    refine c_iconst G (nI 4) dX11_knot_5 kI_4 ?_
    refine c_icmp_le (tgt := 15) G dX11_knot_6 (by decide) (fun _ => ?_) (fun _ => ?_)
    · skip
      refine c_aload_n G dX11_knot_15 rfl 0 rfl ?_
      refine c_iload_n G dX11_knot_16 rfl 1 rfl ?_
      refine c_iload_n G dX11_knot_17 rfl 2 rfl ?_
      refine c_callV_PI (d := 1) (rest := []) G [.int a1, .int a2] yv_X11_noInstance ml_X11_306 (by omega) (by decide) rfl rfl (Nat.le_of_ble_eq_true rfl) h_a0 (fun q hq => con_X11_noInstance h_a0 hq) dX11_knot_18 (fun q2 _ => ?_)
      refine c_istore G [(4, .int q2), (0, .ref (wB w + pz (a0))), (1, .int a1), (2, .int a2), (3, .int a3)] dX11_knot_21 (by decide) rfl ?_
      refine c_iload G dX11_knot_23 0 rfl ?_
      refine c_if_eq (tgt := 35) G dX11_knot_25 (by decide) (fun _ => ?_) (fun _ => ?_)
      · skip
        refine c_aload_n G dX11_knot_35 rfl 1 rfl ?_
        refine c_getR (c' := 10) G fl_X11_95 h_a0 rfl dX11_knot_36 (fun r1 _ h_r1 => ?_)
        refine c_getF G fl_X11_160 h_r1 rfl dX11_knot_39 ?_
        refine c_getF G fl_X11_312 (lf h_r1 0 rfl) rfl dX11_knot_42 ?_
        refine c_bipush G (nI 8) dX11_knot_45 kB_8 ?_
        refine c_iload_n G dX11_knot_47 rfl 2 rfl ?_
        refine c_imul G dX11_knot_48 ?_
        refine c_iload_n G dX11_knot_49 rfl 3 rfl ?_
        refine c_iadd G dX11_knot_50 ?_
        refine c_iald G (lf (lf h_r1 0 rfl) 2 rfl) dX11_knot_51 (fun v1 _ => ?_)
        refine c_istore G [(5, .int v1), (4, .int q2), (0, .ref (wB w + pz (a0))), (1, .int a1), (2, .int a2), (3, .int a3)] dX11_knot_52 (by decide) rfl ?_
        refine c_aload_n G dX11_knot_54 rfl 2 rfl ?_
        refine c_getR (c' := 10) G fl_X11_95 h_a0 rfl dX11_knot_55 (fun r2 _ h_r2 => ?_)
        refine c_getF G fl_X11_160 h_r2 rfl dX11_knot_58 ?_
        refine c_getF G fl_X11_315 (lf h_r2 0 rfl) rfl dX11_knot_61 ?_
        refine c_iload G dX11_knot_64 0 rfl ?_
        refine c_zald G (lf (lf h_r2 0 rfl) 3 rfl) dX11_knot_66 (fun v2 _ => ?_)
        refine c_if_ne (tgt := 77) G dX11_knot_67 (by decide) (fun _ => ?_) (fun _ => ?_)
        · skip
          refine c_aload_n G dX11_knot_70 rfl 2 rfl ?_
          refine c_bipush G (nI 7) dX11_knot_71 kB_7 ?_
          refine c_callV_I (d := 0) (rest := []) G [.int (nI 7)] yv_X11_refuse ml_X11_113 (by omega) (by decide) rfl rfl (Nat.le_of_ble_eq_true rfl) h_a0 (fun q hq => con_X11_refuse h_a0 hq) dX11_knot_73 (fun q3 _ => ?_)
          exact c_iret G hQ dX11_knot_76
        · skip
          refine c_iload_n G dX11_knot_77 rfl 5 rfl ?_
          refine c_tsw (tgt := 108) G (nI 0) 0 dX11_knot_78 (by decide +kernel) (by decide +kernel) rfl (by decide) (fun _ => ?_) (fun hn0 => ?_)
          · skip
            refine c_aload_n G dX11_knot_108 rfl 2 rfl ?_
            refine c_aload_n G dX11_knot_109 rfl 2 rfl ?_
            refine c_getR (c' := 10) G fl_X11_95 h_a0 rfl dX11_knot_110 (fun r3 _ h_r3 => ?_)
            refine c_getF G fl_X11_160 h_r3 rfl dX11_knot_113 ?_
            refine c_iload G dX11_knot_116 0 rfl ?_
            refine c_callV_PI (d := 0) (rest := [.ref (wB w + pz (a0))]) G [.int v1] yv_X4_size ml_X11_319 (by omega) (by decide) rfl rfl (Nat.le_of_ble_eq_true rfl) (lf h_r3 0 rfl) (fun q hq => con_X4_size (lf h_r3 0 rfl) hq) dX11_knot_118 (fun q4 _ => ?_)
            refine c_callV_I (d := 0) (rest := []) G [.int q4] yv_X11_answer ml_X11_147 (by omega) (by decide) rfl rfl (Nat.le_of_ble_eq_true rfl) h_a0 (fun q hq => con_X11_answer h_a0 hq) dX11_knot_121 (fun q5 _ => ?_)
            exact c_iret G hQ dX11_knot_124
          · skip
            refine c_tsw (tgt := 125) G (nI 1) 1 dX11_knot_78 (by decide +kernel) (by decide +kernel) rfl (by decide) (fun _ => ?_) (fun hn1 => ?_)
            · skip
              refine c_aload_n G dX11_knot_125 rfl 2 rfl ?_
              refine c_aload_n G dX11_knot_126 rfl 2 rfl ?_
              refine c_getR (c' := 10) G fl_X11_95 h_a0 rfl dX11_knot_127 (fun r4 _ h_r4 => ?_)
              refine c_getF G fl_X11_321 h_r4 rfl dX11_knot_130 ?_
              refine c_iload G dX11_knot_133 0 rfl ?_
              refine c_iald G (lf h_r4 2 rfl) dX11_knot_135 (fun v3 _ => ?_)
              refine c_callV_I (d := 0) (rest := []) G [.int v3] yv_X11_answer ml_X11_147 (by omega) (by decide) rfl rfl (Nat.le_of_ble_eq_true rfl) h_a0 (fun q hq => con_X11_answer h_a0 hq) dX11_knot_136 (fun q6 _ => ?_)
              exact c_iret G hQ dX11_knot_139
            · skip
              refine c_tsw (tgt := 140) G (nI 2) 2 dX11_knot_78 (by decide +kernel) (by decide +kernel) rfl (by decide) (fun _ => ?_) (fun hn2 => ?_)
              · skip
                refine c_aload_n G dX11_knot_140 rfl 2 rfl ?_
                refine c_aload_n G dX11_knot_141 rfl 2 rfl ?_
                refine c_getR (c' := 10) G fl_X11_95 h_a0 rfl dX11_knot_142 (fun r5 _ h_r5 => ?_)
                refine c_getF G fl_X11_324 h_r5 rfl dX11_knot_145 ?_
                refine c_iload G dX11_knot_148 0 rfl ?_
                refine c_zald G (lf h_r5 3 rfl) dX11_knot_150 (fun v4 _ => ?_)
                refine c_if_eq (tgt := 158) G dX11_knot_151 (by decide) (fun _ => ?_) (fun _ => ?_)
                · skip
                  refine c_iconst G (nI 0) dX11_knot_158 kI_0 ?_
                  refine c_callV_I (d := 0) (rest := []) G [.int (nI 0)] yv_X11_answer ml_X11_147 (by omega) (by decide) rfl rfl (Nat.le_of_ble_eq_true rfl) h_a0 (fun q hq => con_X11_answer h_a0 hq) dX11_knot_159 (fun q7 _ => ?_)
                  exact c_iret G hQ dX11_knot_162
                · skip
                  refine c_iconst G (nI 1) dX11_knot_154 kI_1 ?_
                  refine c_goto (tgt := 159) G dX11_knot_155 (by decide) ?_
                  refine c_callV_I (d := 0) (rest := []) G [.int (nI 1)] yv_X11_answer ml_X11_147 (by omega) (by decide) rfl rfl (Nat.le_of_ble_eq_true rfl) h_a0 (fun q hq => con_X11_answer h_a0 hq) dX11_knot_159 (fun q8 _ => ?_)
                  exact c_iret G hQ dX11_knot_162
              · skip
                refine c_tsw (tgt := 163) G (nI 3) 3 dX11_knot_78 (by decide +kernel) (by decide +kernel) rfl (by decide) (fun _ => ?_) (fun hn3 => ?_)
                · skip
                  refine c_aload_n G dX11_knot_163 rfl 2 rfl ?_
                  refine c_aload_n G dX11_knot_164 rfl 2 rfl ?_
                  refine c_getR (c' := 10) G fl_X11_95 h_a0 rfl dX11_knot_165 (fun r6 _ h_r6 => ?_)
                  refine c_getF G fl_X11_160 h_r6 rfl dX11_knot_168 ?_
                  refine c_iload G dX11_knot_171 0 rfl ?_
                  refine c_callV_PI (d := 0) (rest := [.ref (wB w + pz (a0))]) G [.int v1] yv_X4_first ml_X11_327 (by omega) (by decide) rfl rfl (Nat.le_of_ble_eq_true rfl) (lf h_r6 0 rfl) (fun q hq => con_X4_first (lf h_r6 0 rfl) hq) dX11_knot_173 (fun q9 _ => ?_)
                  refine c_bipush G (nI 8) dX11_knot_176 kB_8 ?_
                  refine c_idiv G dX11_knot_178 (fun v5 _ => ?_)
                  refine c_callV_I (d := 0) (rest := []) G [.int v5] yv_X11_answer ml_X11_147 (by omega) (by decide) rfl rfl (Nat.le_of_ble_eq_true rfl) h_a0 (fun q hq => con_X11_answer h_a0 hq) dX11_knot_179 (fun q10 _ => ?_)
                  exact c_iret G hQ dX11_knot_182
                · skip
                  have hm0 := lv_neT hn0 (show (nI 0).toInt = 0 by decide +kernel)
                  have hm1 := lv_neT hn1 (show (nI 1).toInt = 1 by decide +kernel)
                  have hm2 := lv_neT hn2 (show (nI 2).toInt = 2 by decide +kernel)
                  have hm3 := lv_neT hn3 (show (nI 3).toInt = 3 by decide +kernel)
                  refine c_tswD (tgt := 183) G dX11_knot_78 (by omega) (by decide) ?_
                  refine c_aload_n G dX11_knot_183 rfl 2 rfl ?_
                  refine c_aload_n G dX11_knot_184 rfl 2 rfl ?_
                  refine c_getR (c' := 10) G fl_X11_95 h_a0 rfl dX11_knot_185 (fun r7 _ h_r7 => ?_)
                  refine c_getF G fl_X11_160 h_r7 rfl dX11_knot_188 ?_
                  refine c_iload G dX11_knot_191 0 rfl ?_
                  refine c_callV_PI (d := 0) (rest := [.ref (wB w + pz (a0))]) G [.int v1] yv_X4_first ml_X11_327 (by omega) (by decide) rfl rfl (Nat.le_of_ble_eq_true rfl) (lf h_r7 0 rfl) (fun q hq => con_X4_first (lf h_r7 0 rfl) hq) dX11_knot_193 (fun q11 _ => ?_)
                  refine c_bipush G (nI 8) dX11_knot_196 kB_8 ?_
                  refine c_irem G dX11_knot_198 (fun v6 _ => ?_)
                  refine c_callV_I (d := 0) (rest := []) G [.int v6] yv_X11_answer ml_X11_147 (by omega) (by decide) rfl rfl (Nat.le_of_ble_eq_true rfl) h_a0 (fun q hq => con_X11_answer h_a0 hq) dX11_knot_199 (fun q12 _ => ?_)
                  exact c_iret G hQ dX11_knot_202
      · skip
        refine c_aload_n G dX11_knot_28 rfl 1 rfl ?_
        refine c_iload G dX11_knot_29 0 rfl ?_
        refine c_callV_I (d := 0) (rest := []) G [.int q2] yv_X11_refuse ml_X11_113 (by omega) (by decide) rfl rfl (Nat.le_of_ble_eq_true rfl) h_a0 (fun q hq => con_X11_refuse h_a0 hq) dX11_knot_31 (fun q13 _ => ?_)
        exact c_iret G hQ dX11_knot_34
    · skip
      refine c_aload_n G dX11_knot_9 rfl 0 rfl ?_
      refine c_iconst G (nI 1) dX11_knot_10 kI_1 ?_
      refine c_callV_I (d := 0) (rest := []) G [.int (nI 1)] yv_X11_refuse ml_X11_113 (by omega) (by decide) rfl rfl (Nat.le_of_ble_eq_true rfl) h_a0 (fun q hq => con_X11_refuse h_a0 hq) dX11_knot_11 (fun q14 _ => ?_)
      exact c_iret G hQ dX11_knot_14
set_option maxHeartbeats 4000000 in
set_option maxRecDepth 100000 in
theorem cl_X11_clearFlags_2 {w : Wp} {X : Cx} {Q : State → Prop} {ρ : Mm} (G : Good w X cX11_clearFlags 2 RX11 none 0) (hQ : Q = MQ (xL X) (Qd w (encV ρ)) (xA X) (xS X) (xk X) (xs X) (Aw w)) {a0 : Nat} (h_a0 : lay a0 = (3, len a0)) : ∀ (n : Nat) (l1_1 : Int32) (M1 : Mm), Cov w X Q ρ some 2 2 [(0, .ref (wB w + pz (a0))), (1, .int l1_1)] [] M1 (L_X11_clearFlags_2 a0 n l1_1 M1) := by
  intro n
  induction n with
  | zero => intro l1_1 M1; exact c_none
  | succ n ih =>
    intro l1_1 M1
    rw [L_X11_clearFlags_2]
    refine c_iload_n G dX11_clearFlags_2 rfl 1 rfl ?_
    refine c_aload_n G dX11_clearFlags_3 rfl 0 rfl ?_
    refine c_alenI G (Int32.ofNat (len a0)) h_a0 (by decide) rfl dX11_clearFlags_4 ?_
    refine c_icmp_ge (tgt := 18) G dX11_clearFlags_5 (by decide) (fun _ => ?_) (fun _ => ?_)
    · skip
      exact c_vret G hQ dX11_clearFlags_18
    · skip
      refine c_aload_n G dX11_clearFlags_8 rfl 0 rfl ?_
      refine c_iload_n G dX11_clearFlags_9 rfl 1 rfl ?_
      refine c_iconst G (nI 0) dX11_clearFlags_10 kI_0 ?_
      refine c_zast G h_a0 dX11_clearFlags_11 (fun M2 _ => ?_)
      refine c_iinc G (fun y__ => [(1, .int y__), (0, .ref (wB w + pz (a0)))]) dX11_clearFlags_12 1 rfl kI_1 (by decide) (fun _ => rfl) (fun l1_2 _ => ?_)
      refine c_goto (tgt := 2) G dX11_clearFlags_15 (by decide) ?_
      exact c_weak _ [1, 0] rfl (ih l1_2 M2)
set_option maxHeartbeats 4000000 in
set_option maxRecDepth 100000 in
theorem con_X11_clearFlags {w : Wp} {N : Nat} {a0 : Nat} {M : Mm} {q : Mm} (h_a0 : lay a0 = (3, len a0)) (hq : D_X11_clearFlags N a0 M = some q) : Con w 0 yX11_clearFlags cX11_clearFlags 2 none [.ref (wB w + pz (a0))] M (encV q) := by
  refine Con.of encV q _ hq (by decide) (Nat.le_of_ble_eq_true rfl) ?_
  intro X G Q hQ
  have G : Good w X cX11_clearFlags 2 RX11 none 0 := G
  refine c_weak [(0, .ref (wB w + pz (a0)))] [0] rfl ?_
  rw [D_X11_clearFlags]
  refine c_iconst G (nI 0) dX11_clearFlags_0 kI_0 ?_
  refine c_istore_n G [(1, .int (nI 0)), (0, .ref (wB w + pz (a0)))] dX11_clearFlags_1 rfl (by decide) rfl ?_
  refine c_weak _ [1, 0] rfl (cl_X11_clearFlags_2 G hQ  h_a0 N (nI 0) M)
set_option maxHeartbeats 4000000 in
set_option maxRecDepth 100000 in
theorem con_X8_begin {w : Wp} {N : Nat} {a0 : Nat} {a1 : Int32} {M : Mm} {q : Mm} (h_a0 : lay a0 = (5, 8)) (hq : D_X8_begin N a0 a1 M = some q) : Con w 1 yX8_begin cX8_begin 2 none [.ref (wB w + pz (a0)), .int a1] M (encV q) := by
  refine Con.of encV q _ hq (by decide) (Nat.le_of_ble_eq_true rfl) ?_
  intro X G Q hQ
  have G : Good w X cX8_begin 2 RX8 none 1 := G
  refine c_weak [(0, .ref (wB w + pz (a0))), (1, .int a1)] [0, 1] rfl ?_
  rw [D_X8_begin]
  refine c_aload_n G dX8_begin_0 rfl 0 rfl ?_
  refine c_getF G fl_X8_57 h_a0 rfl dX8_begin_1 ?_
  refine c_callN_V (d := 0) (rest := []) G [.ref (wB w + pz ((a0 + 16)))] ys_X11_clearFlags (nw_X8_116 (Good.nw G)) (by omega) (by decide) rfl rfl (Nat.le_of_ble_eq_true rfl) (fun q hq => con_X11_clearFlags (ll (lf h_a0 16 rfl)) hq) dX8_begin_4 (fun M1 _ => ?_)
  refine c_aload_n G dX8_begin_7 rfl 0 rfl ?_
  refine c_getF G fl_X8_57 h_a0 rfl dX8_begin_8 ?_
  refine c_iload_n G dX8_begin_11 rfl 1 rfl ?_
  refine c_iconst G (nI 1) dX8_begin_12 kI_1 ?_
  refine c_zast G (lf h_a0 16 rfl) dX8_begin_13 (fun M2 _ => ?_)
  refine c_aload_n G dX8_begin_14 rfl 0 rfl ?_
  refine c_getF G fl_X8_61 h_a0 rfl dX8_begin_15 ?_
  refine c_iconst G (nI 0) dX8_begin_18 kI_0 ?_
  refine c_iload_n G dX8_begin_19 rfl 1 rfl ?_
  refine c_iast G (lf h_a0 17 rfl) dX8_begin_20 (fun M3 _ => ?_)
  refine c_aload_n G dX8_begin_21 rfl 0 rfl ?_
  refine c_iconst G (nI 1) dX8_begin_22 kI_1 ?_
  refine c_putI G fp_X8_106 h_a0 rfl dX8_begin_23 (fun M4 _ => ?_)
  exact c_vret G hQ dX8_begin_26
set_option maxHeartbeats 4000000 in
set_option maxRecDepth 100000 in
theorem cl_X8_addAll_2 {w : Wp} {X : Cx} {Q : State → Prop} {ρ : Mm} (G : Good w X cX8_addAll 5 RX8 none 1) (hQ : Q = MQ (xL X) (Qd w (encV ρ)) (xA X) (xS X) (xk X) (xs X) (Aw w)) {a2 : Int32} {N : Nat} {a0 : Nat} {a1 : Int32} (h_a0 : lay a0 = (5, 8)) : ∀ (n : Nat) (l3_1 : Int32) (M1 : Mm), Cov w X Q ρ some 5 2 [(0, .ref (wB w + pz (a0))), (1, .int a1), (2, .int a2), (3, .int l3_1)] [] M1 (L_X8_addAll_2 a2 N a0 a1 n l3_1 M1) := by
  intro n
  induction n with
  | zero => intro l3_1 M1; exact c_none
  | succ n ih =>
    intro l3_1 M1
    rw [L_X8_addAll_2]
    refine c_iload_n G dX8_addAll_2 rfl 3 rfl ?_
    refine c_bipush G (nI 32) dX8_addAll_3 kB_32 ?_
    refine c_icmp_ge (tgt := 79) G dX8_addAll_5 (by decide) (fun _ => ?_) (fun _ => ?_)
    · skip
      exact c_vret G hQ dX8_addAll_79
    · skip
      refine c_iload_n G dX8_addAll_8 rfl 2 rfl ?_
      refine c_iload_n G dX8_addAll_9 rfl 3 rfl ?_
      refine c_iushr G dX8_addAll_10 ?_
      refine c_iconst G (nI 1) dX8_addAll_11 kI_1 ?_
      refine c_iand G dX8_addAll_12 ?_
      refine c_if_eq (tgt := 73) G dX8_addAll_13 (by decide) (fun _ => ?_) (fun _ => ?_)
      · skip
        refine c_iinc G (fun y__ => [(3, .int y__), (0, .ref (wB w + pz (a0))), (1, .int a1), (2, .int a2)]) dX8_addAll_73 3 rfl kI_1 (by decide) (fun _ => rfl) (fun l3_2 _ => ?_)
        refine c_goto (tgt := 2) G dX8_addAll_76 (by decide) ?_
        exact c_weak _ [1, 2, 3, 0] rfl (ih l3_2 M1)
      · skip
        refine c_aload_n G dX8_addAll_16 rfl 0 rfl ?_
        refine c_iload_n G dX8_addAll_17 rfl 1 rfl ?_
        refine c_iload_n G dX8_addAll_18 rfl 3 rfl ?_
        refine c_callV_PI (d := 0) (rest := []) G [.int a1, .int l3_1] yv_X8_instance ml_X8_120 (by omega) (by decide) rfl rfl (Nat.le_of_ble_eq_true rfl) h_a0 (fun q hq => con_X8_instance h_a0 hq) dX8_addAll_19 (fun q1 _ => ?_)
        refine c_istore G [(4, .int q1), (0, .ref (wB w + pz (a0))), (1, .int a1), (2, .int a2), (3, .int l3_1)] dX8_addAll_22 (by decide) rfl ?_
        refine c_aload_n G dX8_addAll_24 rfl 1 rfl ?_
        refine c_getF G fl_X8_57 h_a0 rfl dX8_addAll_25 ?_
        refine c_iload G dX8_addAll_28 0 rfl ?_
        refine c_zald G (lf h_a0 16 rfl) dX8_addAll_30 (fun v1 _ => ?_)
        refine c_if_ne (tgt := 73) G dX8_addAll_31 (by decide) (fun _ => ?_) (fun _ => ?_)
        · skip
          refine c_aload_n G dX8_addAll_34 rfl 1 rfl ?_
          refine c_getI G fl_X8_106 h_a0 rfl dX8_addAll_35 ?_
          refine c_sipush G (nI 320) dX8_addAll_38 kS_320 ?_
          refine c_icmp_ge (tgt := 73) G dX8_addAll_41 (by decide) (fun _ => ?_) (fun _ => ?_)
          · skip
            refine c_iinc G (fun y__ => [(3, .int y__), (4, .int q1), (0, .ref (wB w + pz (a0))), (1, .int a1), (2, .int a2)]) dX8_addAll_73 4 rfl kI_1 (by decide) (fun _ => rfl) (fun l3_3 _ => ?_)
            refine c_goto (tgt := 2) G dX8_addAll_76 (by decide) ?_
            exact c_weak _ [2, 3, 4, 0] rfl (ih l3_3 M1)
          · skip
            refine c_aload_n G dX8_addAll_44 rfl 1 rfl ?_
            refine c_getF G fl_X8_57 h_a0 rfl dX8_addAll_45 ?_
            refine c_iload G dX8_addAll_48 0 rfl ?_
            refine c_iconst G (nI 1) dX8_addAll_50 kI_1 ?_
            refine c_zast G (lf h_a0 16 rfl) dX8_addAll_51 (fun M2 _ => ?_)
            refine c_aload_n G dX8_addAll_52 rfl 1 rfl ?_
            refine c_getF G fl_X8_61 h_a0 rfl dX8_addAll_53 ?_
            refine c_aload_n G dX8_addAll_56 rfl 1 rfl ?_
            refine c_getI G fl_X8_106 h_a0 rfl dX8_addAll_57 ?_
            refine c_iload G dX8_addAll_60 0 rfl ?_
            refine c_iast G (lf h_a0 17 rfl) dX8_addAll_62 (fun M3 _ => ?_)
            refine c_aload_n G dX8_addAll_63 rfl 1 rfl ?_
            refine c_dup G dX8_addAll_64 rfl ?_
            refine c_getI G fl_X8_106 h_a0 rfl dX8_addAll_65 ?_
            refine c_iconst G (nI 1) dX8_addAll_68 kI_1 ?_
            refine c_iadd G dX8_addAll_69 ?_
            refine c_putI G fp_X8_106 h_a0 rfl dX8_addAll_70 (fun M4 _ => ?_)
            refine c_iinc G (fun y__ => [(3, .int y__), (4, .int q1), (0, .ref (wB w + pz (a0))), (1, .int a1), (2, .int a2)]) dX8_addAll_73 4 rfl kI_1 (by decide) (fun _ => rfl) (fun l3_4 _ => ?_)
            refine c_goto (tgt := 2) G dX8_addAll_76 (by decide) ?_
            exact c_weak _ [2, 3, 4, 0] rfl (ih l3_4 M4)
        · skip
          refine c_iinc G (fun y__ => [(3, .int y__), (4, .int q1), (0, .ref (wB w + pz (a0))), (1, .int a1), (2, .int a2)]) dX8_addAll_73 4 rfl kI_1 (by decide) (fun _ => rfl) (fun l3_5 _ => ?_)
          refine c_goto (tgt := 2) G dX8_addAll_76 (by decide) ?_
          exact c_weak _ [2, 3, 4, 0] rfl (ih l3_5 M1)
set_option maxHeartbeats 4000000 in
set_option maxRecDepth 100000 in
theorem con_X8_addAll {w : Wp} {N : Nat} {a0 : Nat} {a1 : Int32} {a2 : Int32} {M : Mm} {q : Mm} (h_a0 : lay a0 = (5, 8)) (hq : D_X8_addAll N a0 a1 a2 M = some q) : Con w 1 yX8_addAll cX8_addAll 5 none [.ref (wB w + pz (a0)), .int a1, .int a2] M (encV q) := by
  refine Con.of encV q _ hq (by decide) (Nat.le_of_ble_eq_true rfl) ?_
  intro X G Q hQ
  have G : Good w X cX8_addAll 5 RX8 none 1 := G
  refine c_weak [(0, .ref (wB w + pz (a0))), (1, .int a1), (2, .int a2)] [0, 1, 2] rfl ?_
  rw [D_X8_addAll]
  refine c_iconst G (nI 0) dX8_addAll_0 kI_0 ?_
  refine c_istore_n G [(3, .int (nI 0)), (0, .ref (wB w + pz (a0))), (1, .int a1), (2, .int a2)] dX8_addAll_1 rfl (by decide) rfl ?_
  refine c_weak _ [1, 2, 3, 0] rfl (cl_X8_addAll_2 G hQ  h_a0 N (nI 0) M)
set_option maxHeartbeats 4000000 in
set_option maxRecDepth 100000 in
theorem cl_X8_need_7 {w : Wp} {X : Cx} {Q : State → Prop} {ρ : Int32 × Mm} (G : Good w X cX8_need 3 RX8 (some .int) 2) (hQ : Q = MQ (xL X) (Qd w (encI ρ)) (xA X) (xS X) (xk X) (xs X) (Aw w)) {a0 : Nat} {N : Nat} (h_a0 : lay a0 = (5, 8)) : ∀ (n : Nat) (l2_1 : Int32) (M2 : Mm), Cov w X Q ρ some 3 7 [(0, .ref (wB w + pz (a0))), (2, .int l2_1)] [] M2 (L_X8_need_7 a0 N n l2_1 M2) := by
  intro n
  induction n with
  | zero => intro l2_1 M2; exact c_none
  | succ n ih =>
    intro l2_1 M2
    rw [L_X8_need_7]
    refine c_iload_n G dX8_need_7 rfl 1 rfl ?_
    refine c_aload_n G dX8_need_8 rfl 0 rfl ?_
    refine c_getI G fl_X8_106 h_a0 rfl dX8_need_9 ?_
    refine c_icmp_ge (tgt := 54) G dX8_need_12 (by decide) (fun _ => ?_) (fun _ => ?_)
    · skip
      refine c_aload_n G dX8_need_54 rfl 0 rfl ?_
      refine c_getI G fl_X8_106 h_a0 rfl dX8_need_55 ?_
      exact c_iret G hQ dX8_need_58
    · skip
      refine c_iload_n G dX8_need_15 rfl 1 rfl ?_
      refine c_sipush G (nI 320) dX8_need_16 kS_320 ?_
      refine c_icmp_ge (tgt := 54) G dX8_need_19 (by decide) (fun _ => ?_) (fun _ => ?_)
      · skip
        refine c_aload_n G dX8_need_54 rfl 0 rfl ?_
        refine c_getI G fl_X8_106 h_a0 rfl dX8_need_55 ?_
        exact c_iret G hQ dX8_need_58
      · skip
        refine c_aload_n G dX8_need_22 rfl 0 rfl ?_
        refine c_aload_n G dX8_need_23 rfl 0 rfl ?_
        refine c_getF G fl_X8_48 h_a0 rfl dX8_need_24 ?_
        refine c_aload_n G dX8_need_27 rfl 0 rfl ?_
        refine c_getF G fl_X8_61 h_a0 rfl dX8_need_28 ?_
        refine c_iload_n G dX8_need_31 rfl 1 rfl ?_
        refine c_iald G (lf h_a0 17 rfl) dX8_need_32 (fun v1 _ => ?_)
        refine c_iald G (lf h_a0 13 rfl) dX8_need_33 (fun v2 _ => ?_)
        refine c_aload_n G dX8_need_34 rfl 0 rfl ?_
        refine c_getF G fl_X8_54 h_a0 rfl dX8_need_35 ?_
        refine c_aload_n G dX8_need_38 rfl 0 rfl ?_
        refine c_getF G fl_X8_61 h_a0 rfl dX8_need_39 ?_
        refine c_iload_n G dX8_need_42 rfl 1 rfl ?_
        refine c_iald G (lf h_a0 17 rfl) dX8_need_43 (fun v3 _ => ?_)
        refine c_iald G (lf h_a0 15 rfl) dX8_need_44 (fun v4 _ => ?_)
        refine c_callV_V (d := 1) (rest := []) G [.int v2, .int v4] yv_X8_addAll ml_X8_109 (by omega) (by decide) rfl rfl (Nat.le_of_ble_eq_true rfl) h_a0 (fun q hq => con_X8_addAll h_a0 hq) dX8_need_45 (fun M3 _ => ?_)
        refine c_iinc G (fun y__ => [(2, .int y__), (0, .ref (wB w + pz (a0)))]) dX8_need_48 1 rfl kI_1 (by decide) (fun _ => rfl) (fun l2_2 _ => ?_)
        refine c_goto (tgt := 7) G dX8_need_51 (by decide) ?_
        exact c_weak _ [1, 0] rfl (ih l2_2 M3)
set_option maxHeartbeats 4000000 in
set_option maxRecDepth 100000 in
theorem con_X8_need {w : Wp} {N : Nat} {a0 : Nat} {a1 : Int32} {M : Mm} {q : Int32 × Mm} (h_a0 : lay a0 = (5, 8)) (hq : D_X8_need N a0 a1 M = some q) : Con w 2 yX8_need cX8_need 3 (some .int) [.ref (wB w + pz (a0)), .int a1] M (encI q) := by
  refine Con.of encI q _ hq (by decide) (Nat.le_of_ble_eq_true rfl) ?_
  intro X G Q hQ
  have G : Good w X cX8_need 3 RX8 (some .int) 2 := G
  refine c_weak [(0, .ref (wB w + pz (a0))), (1, .int a1)] [0, 1] rfl ?_
  rw [D_X8_need]
  refine c_aload_n G dX8_need_0 rfl 0 rfl ?_
  refine c_iload_n G dX8_need_1 rfl 1 rfl ?_
  refine c_callV_V (d := 1) (rest := []) G [.int a1] yv_X8_begin ml_X8_102 (by omega) (by decide) rfl rfl (Nat.le_of_ble_eq_true rfl) h_a0 (fun q hq => con_X8_begin h_a0 hq) dX8_need_2 (fun M1 _ => ?_)
  refine c_iconst G (nI 0) dX8_need_5 kI_0 ?_
  refine c_istore_n G [(2, .int (nI 0)), (0, .ref (wB w + pz (a0))), (1, .int a1)] dX8_need_6 rfl (by decide) rfl ?_
  refine c_weak _ [1, 0] rfl (cl_X8_need_7 G hQ  h_a0 N (nI 0) M1)
set_option maxHeartbeats 4000000 in
set_option maxRecDepth 100000 in
theorem cl_X8_reach_7 {w : Wp} {X : Cx} {Q : State → Prop} {ρ : Int32 × Mm} (G : Good w X cX8_reach 6 RX8 (some .int) 2) (hQ : Q = MQ (xL X) (Qd w (encI ρ)) (xA X) (xS X) (xk X) (xs X) (Aw w)) {a0 : Nat} {a1 : Nat} {N : Nat} (h_a0 : lay a0 = (5, 8)) (h_a1 : lay a1 = (5, 1)) : ∀ (n : Nat) (l3_1 : Int32) (M2 : Mm), Cov w X Q ρ some 6 7 [(0, .ref (wB w + pz (a0))), (1, .ref (wB w + pz (a1))), (3, .int l3_1)] [] M2 (L_X8_reach_7 a0 a1 N n l3_1 M2) := by
  intro n
  induction n with
  | zero => intro l3_1 M2; exact c_none
  | succ n ih =>
    intro l3_1 M2
    rw [L_X8_reach_7]
    refine c_iload_n G dX8_reach_7 rfl 2 rfl ?_
    refine c_aload_n G dX8_reach_8 rfl 0 rfl ?_
    refine c_getI G fl_X8_106 h_a0 rfl dX8_reach_9 ?_
    refine c_icmp_ge (tgt := 130) G dX8_reach_12 (by decide) (fun _ => ?_) (fun _ => ?_)
    · skip
      refine c_aload_n G dX8_reach_130 rfl 0 rfl ?_
      refine c_getI G fl_X8_106 h_a0 rfl dX8_reach_131 ?_
      exact c_iret G hQ dX8_reach_134
    · skip
      refine c_iload_n G dX8_reach_15 rfl 2 rfl ?_
      refine c_sipush G (nI 320) dX8_reach_16 kS_320 ?_
      refine c_icmp_ge (tgt := 130) G dX8_reach_19 (by decide) (fun _ => ?_) (fun _ => ?_)
      · skip
        refine c_aload_n G dX8_reach_130 rfl 0 rfl ?_
        refine c_getI G fl_X8_106 h_a0 rfl dX8_reach_131 ?_
        exact c_iret G hQ dX8_reach_134
      · skip
        refine c_aload_n G dX8_reach_22 rfl 0 rfl ?_
        refine c_getF G fl_X8_61 h_a0 rfl dX8_reach_23 ?_
        refine c_iload_n G dX8_reach_26 rfl 2 rfl ?_
        refine c_iald G (lf h_a0 17 rfl) dX8_reach_27 (fun v1 _ => ?_)
        refine c_bipush G (nI 8) dX8_reach_28 kB_8 ?_
        refine c_idiv G dX8_reach_30 (fun v2 _ => ?_)
        refine c_istore G [(4, .int v2), (0, .ref (wB w + pz (a0))), (1, .ref (wB w + pz (a1))), (3, .int l3_1)] dX8_reach_31 (by decide) rfl ?_
        refine c_aload_n G dX8_reach_33 rfl 1 rfl ?_
        refine c_getF G fl_X8_61 h_a0 rfl dX8_reach_34 ?_
        refine c_iload_n G dX8_reach_37 rfl 3 rfl ?_
        refine c_iald G (lf h_a0 17 rfl) dX8_reach_38 (fun v3 _ => ?_)
        refine c_bipush G (nI 8) dX8_reach_39 kB_8 ?_
        refine c_irem G dX8_reach_41 (fun v4 _ => ?_)
        refine c_istore G [(5, .int v4), (4, .int v2), (0, .ref (wB w + pz (a0))), (1, .ref (wB w + pz (a1))), (3, .int l3_1)] dX8_reach_42 (by decide) rfl ?_
        refine c_aload_n G dX8_reach_44 rfl 2 rfl ?_
        refine c_iload G dX8_reach_45 1 rfl ?_
        refine c_aload_n G dX8_reach_47 rfl 3 rfl ?_
        refine c_getF G fl_X8_113 h_a1 rfl dX8_reach_48 ?_
        refine c_bipush G (nI 32) dX8_reach_51 kB_32 ?_
        refine c_aload_n G dX8_reach_53 rfl 2 rfl ?_
        refine c_getF G fl_X8_9 h_a0 rfl dX8_reach_54 ?_
        refine c_iload G dX8_reach_57 1 rfl ?_
        refine c_iald G (lf h_a0 1 rfl) dX8_reach_59 (fun v5 _ => ?_)
        refine c_imul G dX8_reach_60 ?_
        refine c_iload G dX8_reach_61 0 rfl ?_
        refine c_iadd G dX8_reach_63 ?_
        refine c_iald G (lf h_a1 15 rfl) dX8_reach_64 (fun v6 _ => ?_)
        refine c_callV_V (d := 1) (rest := []) G [.int v2, .int v6] yv_X8_addAll ml_X8_109 (by omega) (by decide) rfl rfl (Nat.le_of_ble_eq_true rfl) h_a0 (fun q hq => con_X8_addAll h_a0 hq) dX8_reach_65 (fun M3 _ => ?_)
        refine c_aload_n G dX8_reach_68 rfl 2 rfl ?_
        refine c_getF G fl_X8_18 h_a0 rfl dX8_reach_69 ?_
        refine c_iload G dX8_reach_72 1 rfl ?_
        refine c_iald G (lf h_a0 3 rfl) dX8_reach_74 (fun v7 _ => ?_)
        refine c_iconst G m1 dX8_reach_75 kI_m1 ?_
        refine c_icmp_eq (tgt := 124) G dX8_reach_76 (by decide) (fun _ => ?_) (fun _ => ?_)
        · skip
          refine c_iinc G (fun y__ => [(3, .int y__), (5, .int v4), (4, .int v2), (0, .ref (wB w + pz (a0))), (1, .ref (wB w + pz (a1)))]) dX8_reach_124 4 rfl kI_1 (by decide) (fun _ => rfl) (fun l3_2 _ => ?_)
          refine c_goto (tgt := 7) G dX8_reach_127 (by decide) ?_
          exact c_weak _ [3, 4, 0] rfl (ih l3_2 M3)
        · skip
          refine c_aload_n G dX8_reach_79 rfl 2 rfl ?_
          refine c_aload_n G dX8_reach_80 rfl 2 rfl ?_
          refine c_getF G fl_X8_18 h_a0 rfl dX8_reach_81 ?_
          refine c_iload G dX8_reach_84 1 rfl ?_
          refine c_iald G (lf h_a0 3 rfl) dX8_reach_86 (fun v8 _ => ?_)
          refine c_aload_n G dX8_reach_87 rfl 3 rfl ?_
          refine c_getF G fl_X8_113 h_a1 rfl dX8_reach_88 ?_
          refine c_bipush G (nI 32) dX8_reach_91 kB_32 ?_
          refine c_aload_n G dX8_reach_93 rfl 2 rfl ?_
          refine c_getF G fl_X8_9 h_a0 rfl dX8_reach_94 ?_
          refine c_aload_n G dX8_reach_97 rfl 2 rfl ?_
          refine c_getF G fl_X8_18 h_a0 rfl dX8_reach_98 ?_
          refine c_iload G dX8_reach_101 1 rfl ?_
          refine c_iald G (lf h_a0 3 rfl) dX8_reach_103 (fun v9 _ => ?_)
          refine c_iald G (lf h_a0 1 rfl) dX8_reach_104 (fun v10 _ => ?_)
          refine c_imul G dX8_reach_105 ?_
          refine c_bipush G (nI 8) dX8_reach_106 kB_8 ?_
          refine c_aload_n G dX8_reach_108 rfl 2 rfl ?_
          refine c_getF G fl_X8_21 h_a0 rfl dX8_reach_109 ?_
          refine c_iload G dX8_reach_112 1 rfl ?_
          refine c_iald G (lf h_a0 4 rfl) dX8_reach_114 (fun v11 _ => ?_)
          refine c_imul G dX8_reach_115 ?_
          refine c_iadd G dX8_reach_116 ?_
          refine c_iload G dX8_reach_117 0 rfl ?_
          refine c_iadd G dX8_reach_119 ?_
          refine c_iald G (lf h_a1 15 rfl) dX8_reach_120 (fun v12 _ => ?_)
          refine c_callV_V (d := 1) (rest := []) G [.int v8, .int v12] yv_X8_addAll ml_X8_109 (by omega) (by decide) rfl rfl (Nat.le_of_ble_eq_true rfl) h_a0 (fun q hq => con_X8_addAll h_a0 hq) dX8_reach_121 (fun M4 _ => ?_)
          refine c_iinc G (fun y__ => [(3, .int y__), (5, .int v4), (4, .int v2), (0, .ref (wB w + pz (a0))), (1, .ref (wB w + pz (a1)))]) dX8_reach_124 4 rfl kI_1 (by decide) (fun _ => rfl) (fun l3_3 _ => ?_)
          refine c_goto (tgt := 7) G dX8_reach_127 (by decide) ?_
          exact c_weak _ [3, 4, 0] rfl (ih l3_3 M4)
set_option maxHeartbeats 4000000 in
set_option maxRecDepth 100000 in
theorem con_X8_reach {w : Wp} {N : Nat} {a0 : Nat} {a1 : Nat} {a2 : Int32} {M : Mm} {q : Int32 × Mm} (h_a0 : lay a0 = (5, 8)) (h_a1 : lay a1 = (5, 1)) (hq : D_X8_reach N a0 a1 a2 M = some q) : Con w 2 yX8_reach cX8_reach 6 (some .int) [.ref (wB w + pz (a0)), .ref (wB w + pz (a1)), .int a2] M (encI q) := by
  refine Con.of encI q _ hq (by decide) (Nat.le_of_ble_eq_true rfl) ?_
  intro X G Q hQ
  have G : Good w X cX8_reach 6 RX8 (some .int) 2 := G
  refine c_weak [(0, .ref (wB w + pz (a0))), (1, .ref (wB w + pz (a1))), (2, .int a2)] [0, 1, 2] rfl ?_
  rw [D_X8_reach]
  refine c_aload_n G dX8_reach_0 rfl 0 rfl ?_
  refine c_iload_n G dX8_reach_1 rfl 2 rfl ?_
  refine c_callV_V (d := 1) (rest := []) G [.int a2] yv_X8_begin ml_X8_102 (by omega) (by decide) rfl rfl (Nat.le_of_ble_eq_true rfl) h_a0 (fun q hq => con_X8_begin h_a0 hq) dX8_reach_2 (fun M1 _ => ?_)
  refine c_iconst G (nI 0) dX8_reach_5 kI_0 ?_
  refine c_istore_n G [(3, .int (nI 0)), (0, .ref (wB w + pz (a0))), (1, .ref (wB w + pz (a1))), (2, .int a2)] dX8_reach_6 rfl (by decide) rfl ?_
  refine c_weak _ [1, 2, 0] rfl (cl_X8_reach_7 G hQ  h_a0 h_a1 N (nI 0) M1)
set_option maxHeartbeats 4000000 in
set_option maxRecDepth 100000 in
theorem con_X11_span {w : Wp} {N : Nat} {a0 : Nat} {a1 : Int32} {a2 : Int32} {a3 : Int32} {M : Mm} {q : Int32 × Mm} (h_a0 : lay a0 = (5, 11)) (hq : D_X11_span N a0 a1 a2 a3 M = some q) : Con w 3 yX11_span cX11_span 6 (some .int) [.ref (wB w + pz (a0)), .int a1, .int a2, .int a3] M (encI q) := by
  refine Con.of encI q _ hq (by decide) (Nat.le_of_ble_eq_true rfl) ?_
  intro X G Q hQ
  have G : Good w X cX11_span 6 RX11 (some .int) 3 := G
  refine c_weak [(0, .ref (wB w + pz (a0))), (1, .int a1), (2, .int a2), (3, .int a3)] [0, 1, 2, 3] rfl ?_
  rw [D_X11_span]
  refine c_iload_n G dX11_span_0 rfl 3 rfl ?_
  refine c_if_lt (tgt := 9) G dX11_span_1 (by decide) (fun _ => ?_) (fun _ => ?_)
  · skip
    refine c_aload_n G dX11_span_9 rfl 0 rfl ?_
    refine c_iconst G (nI 1) dX11_span_10 kI_1 ?_
    refine c_callV_I (d := 0) (rest := []) G [.int (nI 1)] yv_X11_refuse ml_X11_113 (by omega) (by decide) rfl rfl (Nat.le_of_ble_eq_true rfl) h_a0 (fun q hq => con_X11_refuse h_a0 hq) dX11_span_11 (fun q1 _ => ?_)
    exact c_iret G hQ dX11_span_14
  · skip
    refine c_iload_n G dX11_span_4 rfl 3 rfl ?_
    refine c_iconst G (nI 1) dX11_span_5 kI_1 ?_
    refine c_icmp_le (tgt := 15) G dX11_span_6 (by decide) (fun _ => ?_) (fun _ => ?_)
    · skip
      refine c_aload_n G dX11_span_15 rfl 0 rfl ?_
      refine c_iload_n G dX11_span_16 rfl 1 rfl ?_
      refine c_iload_n G dX11_span_17 rfl 2 rfl ?_
      refine c_callV_PI (d := 1) (rest := []) G [.int a1, .int a2] yv_X11_noInstance ml_X11_306 (by omega) (by decide) rfl rfl (Nat.le_of_ble_eq_true rfl) h_a0 (fun q hq => con_X11_noInstance h_a0 hq) dX11_span_18 (fun q2 _ => ?_)
      refine c_istore G [(4, .int q2), (0, .ref (wB w + pz (a0))), (1, .int a1), (2, .int a2), (3, .int a3)] dX11_span_21 (by decide) rfl ?_
      refine c_iload G dX11_span_23 0 rfl ?_
      refine c_if_eq (tgt := 35) G dX11_span_25 (by decide) (fun _ => ?_) (fun _ => ?_)
      · skip
        refine c_bipush G (nI 8) dX11_span_35 kB_8 ?_
        refine c_iload_n G dX11_span_37 rfl 2 rfl ?_
        refine c_imul G dX11_span_38 ?_
        refine c_iload_n G dX11_span_39 rfl 3 rfl ?_
        refine c_iadd G dX11_span_40 ?_
        refine c_let (fun l5_1 _ => ?_)
        refine c_istore G [(5, .int l5_1), (4, .int q2), (0, .ref (wB w + pz (a0))), (1, .int a1), (2, .int a2), (3, .int a3)] dX11_span_41 (by decide) rfl ?_
        refine c_aload_n G dX11_span_43 rfl 2 rfl ?_
        refine c_iload_n G dX11_span_44 rfl 5 rfl ?_
        refine c_if_ne (tgt := 60) G dX11_span_45 (by decide) (fun _ => ?_) (fun _ => ?_)
        · skip
          refine c_aload_n G dX11_span_48 rfl 2 rfl ?_
          refine c_getR (c' := 8) G fl_X11_85 h_a0 rfl dX11_span_49 (fun r1 _ h_r1 => ?_)
          refine c_iload G dX11_span_52 0 rfl ?_
          refine c_callV_I (d := 2) (rest := [.ref (wB w + pz (a0))]) G [.int l5_1] yv_X8_need ml_X11_330 (by omega) (by decide) rfl rfl (Nat.le_of_ble_eq_true rfl) h_r1 (fun q hq => con_X8_need h_r1 hq) dX11_span_54 (fun q3 _ => ?_)
          refine c_goto (tgt := 73) G dX11_span_57 (by decide) ?_
          refine c_callV_I (d := 0) (rest := []) G [.int q3.1] yv_X11_answer ml_X11_147 (by omega) (by decide) rfl rfl (Nat.le_of_ble_eq_true rfl) h_a0 (fun q hq => con_X11_answer h_a0 hq) dX11_span_73 (fun q4 _ => ?_)
          exact c_iret G hQ dX11_span_76
        · skip
          refine c_aload_n G dX11_span_60 rfl 2 rfl ?_
          refine c_getR (c' := 8) G fl_X11_85 h_a0 rfl dX11_span_61 (fun r2 _ h_r2 => ?_)
          refine c_aload_n G dX11_span_64 rfl 2 rfl ?_
          refine c_getR (c' := 1) G fl_X11_75 h_a0 rfl dX11_span_65 (fun r3 _ h_r3 => ?_)
          refine c_iload G dX11_span_68 0 rfl ?_
          refine c_callV_I (d := 2) (rest := [.ref (wB w + pz (a0))]) G [.ref (wB w + pz (r3)), .int l5_1] yv_X8_reach ml_X11_333 (by omega) (by decide) rfl rfl (Nat.le_of_ble_eq_true rfl) h_r2 (fun q hq => con_X8_reach h_r2 h_r3 hq) dX11_span_70 (fun q5 _ => ?_)
          refine c_callV_I (d := 0) (rest := []) G [.int q5.1] yv_X11_answer ml_X11_147 (by omega) (by decide) rfl rfl (Nat.le_of_ble_eq_true rfl) h_a0 (fun q hq => con_X11_answer h_a0 hq) dX11_span_73 (fun q6 _ => ?_)
          exact c_iret G hQ dX11_span_76
      · skip
        refine c_aload_n G dX11_span_28 rfl 1 rfl ?_
        refine c_iload G dX11_span_29 0 rfl ?_
        refine c_callV_I (d := 0) (rest := []) G [.int q2] yv_X11_refuse ml_X11_113 (by omega) (by decide) rfl rfl (Nat.le_of_ble_eq_true rfl) h_a0 (fun q hq => con_X11_refuse h_a0 hq) dX11_span_31 (fun q7 _ => ?_)
        exact c_iret G hQ dX11_span_34
    · skip
      refine c_aload_n G dX11_span_9 rfl 0 rfl ?_
      refine c_iconst G (nI 1) dX11_span_10 kI_1 ?_
      refine c_callV_I (d := 0) (rest := []) G [.int (nI 1)] yv_X11_refuse ml_X11_113 (by omega) (by decide) rfl rfl (Nat.le_of_ble_eq_true rfl) h_a0 (fun q hq => con_X11_refuse h_a0 hq) dX11_span_11 (fun q8 _ => ?_)
      exact c_iret G hQ dX11_span_14
set_option maxHeartbeats 4000000 in
set_option maxRecDepth 100000 in
theorem cl_X11_run_76 {w : Wp} {X : Cx} {Q : State → Prop} {ρ : Int32 × Mm} (G : Good w X cX11_run 4 RX11 (some .int) 1) (hQ : Q = MQ (xL X) (Qd w (encI ρ)) (xA X) (xS X) (xk X) (xs X) (Aw w)) {M : Mm} {a0 : Nat} {N : Nat} {a1 : Int32} (h_a0 : lay a0 = (5, 11)) : ∀ (n : Nat) (l2_1 : Int32) (l3_1 : Int32), Cov w X Q ρ some 4 76 [(0, .ref (wB w + pz (a0))), (1, .int a1), (2, .int l2_1), (3, .int l3_1)] [] M (L_X11_run_76 M a0 N a1 n l2_1 l3_1) := by
  intro n
  induction n with
  | zero => intro l2_1 l3_1; exact c_none
  | succ n ih =>
    intro l2_1 l3_1
    rw [L_X11_run_76]
    refine c_iload_n G dX11_run_76 rfl 3 rfl ?_
    refine c_aload_n G dX11_run_77 rfl 0 rfl ?_
    refine c_getR (c' := 8) G fl_X11_85 h_a0 rfl dX11_run_78 (fun r2 _ h_r2 => ?_)
    refine c_getI G fl_X11_150 h_r2 rfl dX11_run_81 ?_
    refine c_icmp_ge (tgt := 137) G dX11_run_84 (by decide) (fun _ => ?_) (fun _ => ?_)
    · skip
      refine c_aload_n G dX11_run_137 rfl 0 rfl ?_
      refine c_iload_n G dX11_run_138 rfl 2 rfl ?_
      refine c_callV_I (d := 0) (rest := []) G [.int l2_1] yv_X11_answer ml_X11_147 (by omega) (by decide) rfl rfl (Nat.le_of_ble_eq_true rfl) h_a0 (fun q hq => con_X11_answer h_a0 hq) dX11_run_139 (fun q3 _ => ?_)
      exact c_iret G hQ dX11_run_142
    · skip
      refine c_iload_n G dX11_run_87 rfl 2 rfl ?_
      refine c_iload_n G dX11_run_88 rfl 1 rfl ?_
      refine c_if_ne (tgt := 112) G dX11_run_89 (by decide) (fun _ => ?_) (fun _ => ?_)
      · skip
        refine c_aload_n G dX11_run_92 rfl 0 rfl ?_
        refine c_getF G fl_X11_54 h_a0 rfl dX11_run_93 ?_
        refine c_getF G fl_X11_340 (lf h_a0 8 rfl) rfl dX11_run_96 ?_
        refine c_aload_n G dX11_run_99 rfl 0 rfl ?_
        refine c_getR (c' := 8) G fl_X11_85 h_a0 rfl dX11_run_100 (fun r3 _ h_r3 => ?_)
        refine c_getF G fl_X11_286 h_r3 rfl dX11_run_103 ?_
        refine c_iload_n G dX11_run_106 rfl 3 rfl ?_
        refine c_iald G (lf h_r3 1 rfl) dX11_run_107 (fun v1 _ => ?_)
        refine c_iald G (lf (lf h_a0 8 rfl) 8 rfl) dX11_run_108 (fun v2 _ => ?_)
        refine c_goto (tgt := 129) G dX11_run_109 (by decide) ?_
        refine c_iadd G dX11_run_129 ?_
        refine c_let (fun l2_2 _ => ?_)
        refine c_istore_n G [(2, .int l2_2), (0, .ref (wB w + pz (a0))), (1, .int a1), (3, .int l3_1)] dX11_run_130 rfl (by decide) rfl ?_
        refine c_iinc G (fun y__ => [(3, .int y__), (2, .int l2_2), (0, .ref (wB w + pz (a0))), (1, .int a1)]) dX11_run_131 3 rfl kI_1 (by decide) (fun _ => rfl) (fun l3_2 _ => ?_)
        refine c_goto (tgt := 76) G dX11_run_134 (by decide) ?_
        exact c_weak _ [2, 3, 1, 0] rfl (ih l2_2 l3_2)
      · skip
        refine c_aload_n G dX11_run_112 rfl 0 rfl ?_
        refine c_getF G fl_X11_54 h_a0 rfl dX11_run_113 ?_
        refine c_getF G fl_X11_343 (lf h_a0 8 rfl) rfl dX11_run_116 ?_
        refine c_aload_n G dX11_run_119 rfl 0 rfl ?_
        refine c_getR (c' := 8) G fl_X11_85 h_a0 rfl dX11_run_120 (fun r4 _ h_r4 => ?_)
        refine c_getF G fl_X11_286 h_r4 rfl dX11_run_123 ?_
        refine c_iload_n G dX11_run_126 rfl 3 rfl ?_
        refine c_iald G (lf h_r4 1 rfl) dX11_run_127 (fun v3 _ => ?_)
        refine c_iald G (lf (lf h_a0 8 rfl) 9 rfl) dX11_run_128 (fun v4 _ => ?_)
        refine c_iadd G dX11_run_129 ?_
        refine c_let (fun l2_3 _ => ?_)
        refine c_istore_n G [(2, .int l2_3), (0, .ref (wB w + pz (a0))), (1, .int a1), (3, .int l3_1)] dX11_run_130 rfl (by decide) rfl ?_
        refine c_iinc G (fun y__ => [(3, .int y__), (2, .int l2_3), (0, .ref (wB w + pz (a0))), (1, .int a1)]) dX11_run_131 3 rfl kI_1 (by decide) (fun _ => rfl) (fun l3_3 _ => ?_)
        refine c_goto (tgt := 76) G dX11_run_134 (by decide) ?_
        exact c_weak _ [2, 3, 1, 0] rfl (ih l2_3 l3_3)
set_option maxHeartbeats 4000000 in
set_option maxRecDepth 100000 in
theorem con_X11_run {w : Wp} {N : Nat} {a0 : Nat} {a1 : Int32} {M : Mm} {q : Int32 × Mm} (h_a0 : lay a0 = (5, 11)) (hq : D_X11_run N a0 a1 M = some q) : Con w 1 yX11_run cX11_run 4 (some .int) [.ref (wB w + pz (a0)), .int a1] M (encI q) := by
  refine Con.of encI q _ hq (by decide) (Nat.le_of_ble_eq_true rfl) ?_
  intro X G Q hQ
  have G : Good w X cX11_run 4 RX11 (some .int) 1 := G
  refine c_weak [(0, .ref (wB w + pz (a0))), (1, .int a1)] [0, 1] rfl ?_
  rw [D_X11_run]
  refine c_iload_n G dX11_run_0 rfl 1 rfl ?_
  refine c_if_lt (tgt := 9) G dX11_run_1 (by decide) (fun _ => ?_) (fun _ => ?_)
  · skip
    refine c_aload_n G dX11_run_9 rfl 0 rfl ?_
    refine c_iconst G (nI 1) dX11_run_10 kI_1 ?_
    refine c_callV_I (d := 0) (rest := []) G [.int (nI 1)] yv_X11_refuse ml_X11_113 (by omega) (by decide) rfl rfl (Nat.le_of_ble_eq_true rfl) h_a0 (fun q hq => con_X11_refuse h_a0 hq) dX11_run_11 (fun q1 _ => ?_)
    exact c_iret G hQ dX11_run_14
  · skip
    refine c_iload_n G dX11_run_4 rfl 1 rfl ?_
    refine c_iconst G (nI 1) dX11_run_5 kI_1 ?_
    refine c_icmp_le (tgt := 15) G dX11_run_6 (by decide) (fun _ => ?_) (fun _ => ?_)
    · skip
      refine c_aload_n G dX11_run_15 rfl 0 rfl ?_
      refine c_getR (c' := 8) G fl_X11_85 h_a0 rfl dX11_run_16 (fun r1 _ h_r1 => ?_)
      refine c_getI G fl_X11_150 h_r1 rfl dX11_run_19 ?_
      refine c_if_ne (tgt := 31) G dX11_run_22 (by decide) (fun _ => ?_) (fun _ => ?_)
      · skip
        refine c_aload_n G dX11_run_25 rfl 0 rfl ?_
        refine c_iconst G (nI 3) dX11_run_26 kI_3 ?_
        refine c_callV_I (d := 0) (rest := []) G [.int (nI 3)] yv_X11_refuse ml_X11_113 (by omega) (by decide) rfl rfl (Nat.le_of_ble_eq_true rfl) h_a0 (fun q hq => con_X11_refuse h_a0 hq) dX11_run_27 (fun q2 _ => ?_)
        exact c_iret G hQ dX11_run_30
      · skip
        refine c_aload_n G dX11_run_31 rfl 0 rfl ?_
        refine c_getF G fl_X11_54 h_a0 rfl dX11_run_32 ?_
        refine c_getI G fl_X11_234 (lf h_a0 8 rfl) rfl dX11_run_35 ?_
        refine c_iconst G m1 dX11_run_38 kI_m1 ?_
        refine c_icmp_eq (tgt := 48) G dX11_run_39 (by decide) (fun _ => ?_) (fun _ => ?_)
        · skip
          refine c_iload_n G dX11_run_48 rfl 1 rfl ?_
          refine c_bj (ej := fun (p73 : Int32) => [(0, .ref (wB w + pz (a0))), (1, .int a1)]) (sj := fun p73 => [.int p73]) (mj := fun p73 => M) (pj := 73) (fun p73 => ?_) (fun F hJ73 => ?_)
          · skip
            refine c_istore_n G [(2, .int p73), (0, .ref (wB w + pz (a0))), (1, .int a1)] dX11_run_73 rfl (by decide) rfl ?_
            refine c_iconst G (nI 0) dX11_run_74 kI_0 ?_
            refine c_istore_n G [(3, .int (nI 0)), (2, .int p73), (0, .ref (wB w + pz (a0))), (1, .int a1)] dX11_run_75 rfl (by decide) rfl ?_
            refine c_weak _ [2, 3, 1, 0] rfl (cl_X11_run_76 G hQ  h_a0 N p73 (nI 0))
          · skip
            refine c_if_ne (tgt := 72) G dX11_run_49 (by decide) (fun _ => ?_) (fun _ => ?_)
            · skip
              refine c_aload_n G dX11_run_52 rfl 0 rfl ?_
              refine c_getF G fl_X11_54 h_a0 rfl dX11_run_53 ?_
              refine c_getF G fl_X11_182 (lf h_a0 8 rfl) rfl dX11_run_56 ?_
              refine c_aload_n G dX11_run_59 rfl 0 rfl ?_
              refine c_getR (c' := 8) G fl_X11_85 h_a0 rfl dX11_run_60 (fun r5 _ h_r5 => ?_)
              refine c_getF G fl_X11_337 h_r5 rfl dX11_run_63 ?_
              refine c_iconst G (nI 0) dX11_run_66 kI_0 ?_
              refine c_iald G (lf h_r5 7 rfl) dX11_run_67 (fun v5 _ => ?_)
              refine c_iald G (lf (lf h_a0 8 rfl) 0 rfl) dX11_run_68 (fun v6 _ => ?_)
              refine c_goto (tgt := 73) G dX11_run_69 (by decide) ?_
              exact c_weak _ [0, 1] rfl (hJ73 v6)
            · skip
              refine c_iconst G (nI 0) dX11_run_72 kI_0 ?_
              exact c_weak _ [0, 1] rfl (hJ73 (nI 0))
        · skip
          refine c_aload_n G dX11_run_42 rfl 0 rfl ?_
          refine c_iconst G (nI 5) dX11_run_43 kI_5 ?_
          refine c_callV_I (d := 0) (rest := []) G [.int (nI 5)] yv_X11_refuse ml_X11_113 (by omega) (by decide) rfl rfl (Nat.le_of_ble_eq_true rfl) h_a0 (fun q hq => con_X11_refuse h_a0 hq) dX11_run_44 (fun q4 _ => ?_)
          exact c_iret G hQ dX11_run_47
    · skip
      refine c_aload_n G dX11_run_9 rfl 0 rfl ?_
      refine c_iconst G (nI 1) dX11_run_10 kI_1 ?_
      refine c_callV_I (d := 0) (rest := []) G [.int (nI 1)] yv_X11_refuse ml_X11_113 (by omega) (by decide) rfl rfl (Nat.le_of_ble_eq_true rfl) h_a0 (fun q hq => con_X11_refuse h_a0 hq) dX11_run_11 (fun q5 _ => ?_)
      exact c_iret G hQ dX11_run_14
set_option maxHeartbeats 4000000 in
set_option maxRecDepth 100000 in
theorem cl_X4_longestAhead_4 {w : Wp} {M : Mm} {X : Cx} {Q : State → Prop} {ρ : Int32} (G : Good w X cX4_longestAhead 5 RX4 (some .int) 1) (hQ : Q = MQ (xL X) (Qd w ((encPI M) ρ)) (xA X) (xS X) (xk X) (xs X) (Aw w)) {a0 : Nat} {a1 : Int32} {N : Nat} (h_a0 : lay a0 = (5, 4)) : ∀ (n : Nat) (l2_1 : Int32) (l3_1 : Int32), Cov w X Q ρ some 5 4 [(0, .ref (wB w + pz (a0))), (1, .int a1), (2, .int l2_1), (3, .int l3_1)] [] M (L_X4_longestAhead_4 M a0 a1 N n l2_1 l3_1) := by
  intro n
  induction n with
  | zero => intro l2_1 l3_1; exact c_none
  | succ n ih =>
    intro l2_1 l3_1
    rw [L_X4_longestAhead_4]
    refine c_iload_n G dX4_longestAhead_4 rfl 3 rfl ?_
    refine c_bipush G (nI 32) dX4_longestAhead_5 kB_32 ?_
    refine c_icmp_ge (tgt := 82) G dX4_longestAhead_7 (by decide) (fun _ => ?_) (fun _ => ?_)
    · skip
      refine c_iload_n G dX4_longestAhead_82 rfl 2 rfl ?_
      exact c_iretP G hQ dX4_longestAhead_83
    · skip
      refine c_aload_n G dX4_longestAhead_10 rfl 0 rfl ?_
      refine c_getR (c' := 8) G fl_X4_43 h_a0 rfl dX4_longestAhead_11 (fun r1 _ h_r1 => ?_)
      refine c_getF G fl_X4_105 h_r1 rfl dX4_longestAhead_14 ?_
      refine c_iload_n G dX4_longestAhead_17 rfl 1 rfl ?_
      refine c_iald G (lf h_r1 15 rfl) dX4_longestAhead_18 (fun v1 _ => ?_)
      refine c_iload_n G dX4_longestAhead_19 rfl 3 rfl ?_
      refine c_iushr G dX4_longestAhead_20 ?_
      refine c_iconst G (nI 1) dX4_longestAhead_21 kI_1 ?_
      refine c_iand G dX4_longestAhead_22 ?_
      refine c_if_eq (tgt := 76) G dX4_longestAhead_23 (by decide) (fun _ => ?_) (fun _ => ?_)
      · skip
        refine c_iinc G (fun y__ => [(3, .int y__), (0, .ref (wB w + pz (a0))), (1, .int a1), (2, .int l2_1)]) dX4_longestAhead_76 3 rfl kI_1 (by decide) (fun _ => rfl) (fun l3_2 _ => ?_)
        refine c_goto (tgt := 4) G dX4_longestAhead_79 (by decide) ?_
        exact c_weak _ [1, 2, 3, 0] rfl (ih l2_1 l3_2)
      · skip
        refine c_aload_n G dX4_longestAhead_26 rfl 0 rfl ?_
        refine c_getR (c' := 8) G fl_X4_43 h_a0 rfl dX4_longestAhead_27 (fun r2 _ h_r2 => ?_)
        refine c_aload_n G dX4_longestAhead_30 rfl 0 rfl ?_
        refine c_getR (c' := 8) G fl_X4_43 h_a0 rfl dX4_longestAhead_31 (fun r3 _ h_r3 => ?_)
        refine c_getF G fl_X4_88 h_r3 rfl dX4_longestAhead_34 ?_
        refine c_iload_n G dX4_longestAhead_37 rfl 1 rfl ?_
        refine c_iald G (lf h_r3 13 rfl) dX4_longestAhead_38 (fun v2 _ => ?_)
        refine c_iload_n G dX4_longestAhead_39 rfl 3 rfl ?_
        refine c_callV_PI (d := 0) (rest := []) G [.int v2, .int l3_1] yv_X8_instance ml_X4_97 (by omega) (by decide) rfl rfl (Nat.le_of_ble_eq_true rfl) h_r2 (fun q hq => con_X8_instance h_r2 hq) dX4_longestAhead_40 (fun q1 _ => ?_)
        refine c_istore G [(4, .int q1), (0, .ref (wB w + pz (a0))), (1, .int a1), (2, .int l2_1), (3, .int l3_1)] dX4_longestAhead_43 (by decide) rfl ?_
        refine c_iload_n G dX4_longestAhead_45 rfl 3 rfl ?_
        refine c_aload_n G dX4_longestAhead_46 rfl 1 rfl ?_
        refine c_getF G fl_X4_21 h_a0 rfl dX4_longestAhead_47 ?_
        refine c_aload_n G dX4_longestAhead_50 rfl 1 rfl ?_
        refine c_getF G fl_X4_18 h_a0 rfl dX4_longestAhead_51 ?_
        refine c_iload G dX4_longestAhead_54 0 rfl ?_
        refine c_iald G (lf h_a0 2 rfl) dX4_longestAhead_56 (fun v3 _ => ?_)
        refine c_zald G (lf h_a0 3 rfl) dX4_longestAhead_57 (fun v4 _ => ?_)
        refine c_bj (ej := fun (p72 : Int32) => [(0, .ref (wB w + pz (a0))), (1, .int a1), (3, .int l3_1)]) (sj := fun p72 => [.int p72, .int l2_1]) (mj := fun p72 => M) (pj := 72) (fun p72 => ?_) (fun F hJ72 => ?_)
        · skip
          refine c_mmax G ml_X4_133 ys_J9_max_7cf53 (by omega) (Nat.le_of_ble_eq_true rfl) dX4_longestAhead_72 ?_
          refine c_let (fun l2_2 _ => ?_)
          refine c_istore_n G [(2, .int l2_2), (0, .ref (wB w + pz (a0))), (1, .int a1), (3, .int l3_1)] dX4_longestAhead_75 rfl (by decide) rfl ?_
          refine c_iinc G (fun y__ => [(3, .int y__), (2, .int l2_2), (0, .ref (wB w + pz (a0))), (1, .int a1)]) dX4_longestAhead_76 3 rfl kI_1 (by decide) (fun _ => rfl) (fun l3_3 _ => ?_)
          refine c_goto (tgt := 4) G dX4_longestAhead_79 (by decide) ?_
          exact c_weak _ [2, 3, 1, 0] rfl (ih l2_2 l3_3)
        · skip
          refine c_if_eq (tgt := 65) G dX4_longestAhead_58 (by decide) (fun _ => ?_) (fun _ => ?_)
          · skip
            refine c_aload_n G dX4_longestAhead_65 rfl 1 rfl ?_
            refine c_getF G fl_X4_40 h_a0 rfl dX4_longestAhead_66 ?_
            refine c_iload G dX4_longestAhead_69 0 rfl ?_
            refine c_iald G (lf h_a0 15 rfl) dX4_longestAhead_71 (fun v5 _ => ?_)
            exact c_weak _ [1, 2, 4] rfl (hJ72 v5)
          · skip
            refine c_iconst G (nI 0) dX4_longestAhead_61 kI_0 ?_
            refine c_goto (tgt := 72) G dX4_longestAhead_62 (by decide) ?_
            exact c_weak _ [1, 2, 4] rfl (hJ72 (nI 0))
set_option maxHeartbeats 4000000 in
set_option maxRecDepth 100000 in
theorem con_X4_longestAhead {w : Wp} {N : Nat} {a0 : Nat} {a1 : Int32} {M : Mm} {q : Int32} (h_a0 : lay a0 = (5, 4)) (hq : D_X4_longestAhead N a0 a1 M = some q) : Con w 1 yX4_longestAhead cX4_longestAhead 5 (some .int) [.ref (wB w + pz (a0)), .int a1] M ((encPI M) q) := by
  refine Con.of (encPI M) q _ hq (by decide) (Nat.le_of_ble_eq_true rfl) ?_
  intro X G Q hQ
  have G : Good w X cX4_longestAhead 5 RX4 (some .int) 1 := G
  refine c_weak [(0, .ref (wB w + pz (a0))), (1, .int a1)] [0, 1] rfl ?_
  rw [D_X4_longestAhead]
  refine c_iconst G (nI 0) dX4_longestAhead_0 kI_0 ?_
  refine c_istore_n G [(2, .int (nI 0)), (0, .ref (wB w + pz (a0))), (1, .int a1)] dX4_longestAhead_1 rfl (by decide) rfl ?_
  refine c_iconst G (nI 0) dX4_longestAhead_2 kI_0 ?_
  refine c_istore_n G [(3, .int (nI 0)), (2, .int (nI 0)), (0, .ref (wB w + pz (a0))), (1, .int a1)] dX4_longestAhead_3 rfl (by decide) rfl ?_
  refine c_weak _ [2, 3, 1, 0] rfl (cl_X4_longestAhead_4 G hQ  h_a0 N (nI 0) (nI 0))
set_option maxHeartbeats 4000000 in
set_option maxRecDepth 100000 in
theorem cl_X4_longestRow_4 {w : Wp} {X : Cx} {Q : State → Prop} {ρ : Int32 × Mm} (G : Good w X cX4_longestRow 4 RX4 (some .int) 2) (hQ : Q = MQ (xL X) (Qd w (encI ρ)) (xA X) (xS X) (xk X) (xs X) (Aw w)) {a0 : Nat} {N : Nat} (h_a0 : lay a0 = (5, 4)) : ∀ (n : Nat) (l1_1 : Int32) (l2_1 : Int32) (M1 : Mm), Cov w X Q ρ some 4 4 [(0, .ref (wB w + pz (a0))), (1, .int l1_1), (2, .int l2_1)] [] M1 (L_X4_longestRow_4 a0 N n l1_1 l2_1 M1) := by
  intro n
  induction n with
  | zero => intro l1_1 l2_1 M1; exact c_none
  | succ n ih =>
    intro l1_1 l2_1 M1
    rw [L_X4_longestRow_4]
    refine c_iload_n G dX4_longestRow_4 rfl 2 rfl ?_
    refine c_aload_n G dX4_longestRow_5 rfl 0 rfl ?_
    refine c_getI G fl_X4_47 h_a0 rfl dX4_longestRow_6 ?_
    refine c_icmp_ge (tgt := 61) G dX4_longestRow_9 (by decide) (fun _ => ?_) (fun _ => ?_)
    · skip
      refine c_iload_n G dX4_longestRow_61 rfl 1 rfl ?_
      exact c_iret G hQ dX4_longestRow_62
    · skip
      refine c_aload_n G dX4_longestRow_12 rfl 0 rfl ?_
      refine c_iload_n G dX4_longestRow_13 rfl 2 rfl ?_
      refine c_callV_PI (d := 0) (rest := []) G [.int l2_1] yv_X4_first ml_X4_127 (by omega) (by decide) rfl rfl (Nat.le_of_ble_eq_true rfl) h_a0 (fun q hq => con_X4_first h_a0 hq) dX4_longestRow_14 (fun q1 _ => ?_)
      refine c_istore_n G [(3, .int q1), (0, .ref (wB w + pz (a0))), (1, .int l1_1), (2, .int l2_1)] dX4_longestRow_17 rfl (by decide) rfl ?_
      refine c_aload_n G dX4_longestRow_18 rfl 1 rfl ?_
      refine c_getF G fl_X4_40 h_a0 rfl dX4_longestRow_19 ?_
      refine c_iload_n G dX4_longestRow_22 rfl 0 rfl ?_
      refine c_aload_n G dX4_longestRow_23 rfl 1 rfl ?_
      refine c_getF G fl_X4_21 h_a0 rfl dX4_longestRow_24 ?_
      refine c_iload_n G dX4_longestRow_27 rfl 3 rfl ?_
      refine c_zald G (lf h_a0 3 rfl) dX4_longestRow_28 (fun v1 _ => ?_)
      refine c_bj (ej := fun (p43 : Int32) => [(0, .ref (wB w + pz (a0))), (1, .int l1_1), (2, .int l2_1), (3, .int q1)]) (sj := fun p43 => [.int p43, .int q1, .ref (wB w + pz ((a0 + 10)))]) (mj := fun p43 => M1) (pj := 43) (fun p43 => ?_) (fun F hJ43 => ?_)
      · skip
        refine c_iast G (lf h_a0 15 rfl) dX4_longestRow_43 (fun M2 _ => ?_)
        refine c_iload_n G dX4_longestRow_44 rfl 1 rfl ?_
        refine c_aload_n G dX4_longestRow_45 rfl 0 rfl ?_
        refine c_getF G fl_X4_40 h_a0 rfl dX4_longestRow_46 ?_
        refine c_iload_n G dX4_longestRow_49 rfl 3 rfl ?_
        refine c_iald G (lf h_a0 15 rfl) dX4_longestRow_50 (fun v2 _ => ?_)
        refine c_mmax G ml_X4_133 ys_J9_max_7cf53 (by omega) (Nat.le_of_ble_eq_true rfl) dX4_longestRow_51 ?_
        refine c_let (fun l1_2 _ => ?_)
        refine c_istore_n G [(1, .int l1_2), (0, .ref (wB w + pz (a0))), (2, .int l2_1), (3, .int q1)] dX4_longestRow_54 rfl (by decide) rfl ?_
        refine c_iinc G (fun y__ => [(2, .int y__), (1, .int l1_2), (0, .ref (wB w + pz (a0))), (3, .int q1)]) dX4_longestRow_55 2 rfl kI_1 (by decide) (fun _ => rfl) (fun l2_2 _ => ?_)
        refine c_goto (tgt := 4) G dX4_longestRow_58 (by decide) ?_
        exact c_weak _ [2, 1, 0] rfl (ih l1_2 l2_2 M2)
      · skip
        refine c_if_eq (tgt := 36) G dX4_longestRow_29 (by decide) (fun _ => ?_) (fun _ => ?_)
        · skip
          refine c_iconst G (nI 1) dX4_longestRow_36 kI_1 ?_
          refine c_aload_n G dX4_longestRow_37 rfl 1 rfl ?_
          refine c_iload_n G dX4_longestRow_38 rfl 0 rfl ?_
          refine c_callV_PI (d := 1) (rest := [.int (nI 1), .int q1, .ref (wB w + pz ((a0 + 10)))]) G [.int q1] yv_X4_longestAhead ml_X4_130 (by omega) (by decide) rfl rfl (Nat.le_of_ble_eq_true rfl) h_a0 (fun q hq => con_X4_longestAhead h_a0 hq) dX4_longestRow_39 (fun q2 _ => ?_)
          refine c_iadd G dX4_longestRow_42 ?_
          exact c_weak _ [1, 2, 3, 0] rfl (hJ43 ((nI 1) + q2))
        · skip
          refine c_iconst G (nI 0) dX4_longestRow_32 kI_0 ?_
          refine c_goto (tgt := 43) G dX4_longestRow_33 (by decide) ?_
          exact c_weak _ [1, 2, 3, 0] rfl (hJ43 (nI 0))
set_option maxHeartbeats 4000000 in
set_option maxRecDepth 100000 in
theorem con_X4_longestRow {w : Wp} {N : Nat} {a0 : Nat} {M : Mm} {q : Int32 × Mm} (h_a0 : lay a0 = (5, 4)) (hq : D_X4_longestRow N a0 M = some q) : Con w 2 yX4_longestRow cX4_longestRow 4 (some .int) [.ref (wB w + pz (a0))] M (encI q) := by
  refine Con.of encI q _ hq (by decide) (Nat.le_of_ble_eq_true rfl) ?_
  intro X G Q hQ
  have G : Good w X cX4_longestRow 4 RX4 (some .int) 2 := G
  refine c_weak [(0, .ref (wB w + pz (a0)))] [0] rfl ?_
  rw [D_X4_longestRow]
  refine c_iconst G (nI 0) dX4_longestRow_0 kI_0 ?_
  refine c_istore_n G [(1, .int (nI 0)), (0, .ref (wB w + pz (a0)))] dX4_longestRow_1 rfl (by decide) rfl ?_
  refine c_iconst G (nI 0) dX4_longestRow_2 kI_0 ?_
  refine c_istore_n G [(2, .int (nI 0)), (1, .int (nI 0)), (0, .ref (wB w + pz (a0)))] dX4_longestRow_3 rfl (by decide) rfl ?_
  refine c_weak _ [2, 1, 0] rfl (cl_X4_longestRow_4 G hQ  h_a0 N (nI 0) (nI 0) M)
set_option maxHeartbeats 4000000 in
set_option maxRecDepth 100000 in
theorem con_X11_longest {w : Wp} {N : Nat} {a0 : Nat} {M : Mm} {q : Int32 × Mm} (h_a0 : lay a0 = (5, 11)) (hq : D_X11_longest N a0 M = some q) : Con w 3 yX11_longest cX11_longest 1 (some .int) [.ref (wB w + pz (a0))] M (encI q) := by
  refine Con.of encI q _ hq (by decide) (Nat.le_of_ble_eq_true rfl) ?_
  intro X G Q hQ
  have G : Good w X cX11_longest 1 RX11 (some .int) 3 := G
  refine c_weak [(0, .ref (wB w + pz (a0)))] [0] rfl ?_
  rw [D_X11_longest]
  refine c_aload_n G dX11_longest_0 rfl 0 rfl ?_
  refine c_getR (c' := 8) G fl_X11_85 h_a0 rfl dX11_longest_1 (fun r1 _ h_r1 => ?_)
  refine c_getI G fl_X11_150 h_r1 rfl dX11_longest_4 ?_
  refine c_if_ne (tgt := 16) G dX11_longest_7 (by decide) (fun _ => ?_) (fun _ => ?_)
  · skip
    refine c_aload_n G dX11_longest_10 rfl 0 rfl ?_
    refine c_iconst G (nI 3) dX11_longest_11 kI_3 ?_
    refine c_callV_I (d := 0) (rest := []) G [.int (nI 3)] yv_X11_refuse ml_X11_113 (by omega) (by decide) rfl rfl (Nat.le_of_ble_eq_true rfl) h_a0 (fun q hq => con_X11_refuse h_a0 hq) dX11_longest_12 (fun q1 _ => ?_)
    exact c_iret G hQ dX11_longest_15
  · skip
    refine c_aload_n G dX11_longest_16 rfl 0 rfl ?_
    refine c_aload_n G dX11_longest_17 rfl 0 rfl ?_
    refine c_getR (c' := 10) G fl_X11_95 h_a0 rfl dX11_longest_18 (fun r2 _ h_r2 => ?_)
    refine c_getF G fl_X11_160 h_r2 rfl dX11_longest_21 ?_
    refine c_callV_I (d := 2) (rest := [.ref (wB w + pz (a0))]) G [] yv_X4_longestRow ml_X11_346 (by omega) (by decide) rfl rfl (Nat.le_of_ble_eq_true rfl) (lf h_r2 0 rfl) (fun q hq => con_X4_longestRow (lf h_r2 0 rfl) hq) dX11_longest_24 (fun q2 _ => ?_)
    refine c_callV_I (d := 0) (rest := []) G [.int q2.1] yv_X11_answer ml_X11_147 (by omega) (by decide) rfl rfl (Nat.le_of_ble_eq_true rfl) h_a0 (fun q hq => con_X11_answer h_a0 hq) dX11_longest_27 (fun q3 _ => ?_)
    exact c_iret G hQ dX11_longest_30
set_option maxHeartbeats 4000000 in
set_option maxRecDepth 100000 in
theorem cl_X0_begin_9 {w : Wp} {X : Cx} {Q : State → Prop} {ρ : Mm} (G : Good w X cX0_begin 3 RX0 none 1) (hQ : Q = MQ (xL X) (Qd w (encV ρ)) (xA X) (xS X) (xk X) (xs X) (Aw w)) {a1 : Int32} {a0 : Nat} (h_a0 : lay a0 = (5, 0)) : ∀ (n : Nat) (l2_1 : Int32) (M2 : Mm), Cov w X Q ρ some 3 9 [(0, .ref (wB w + pz (a0))), (1, .int a1), (2, .int l2_1)] [] M2 (L_X0_begin_9 a1 a0 n l2_1 M2) := by
  intro n
  induction n with
  | zero => intro l2_1 M2; exact c_none
  | succ n ih =>
    intro l2_1 M2
    rw [L_X0_begin_9]
    refine c_iload_n G dX0_begin_9 rfl 2 rfl ?_
    refine c_iload_n G dX0_begin_10 rfl 1 rfl ?_
    refine c_icmp_ge (tgt := 27) G dX0_begin_11 (by decide) (fun _ => ?_) (fun _ => ?_)
    · skip
      exact c_vret G hQ dX0_begin_27
    · skip
      refine c_aload_n G dX0_begin_14 rfl 0 rfl ?_
      refine c_getF G fl_X0_21 h_a0 rfl dX0_begin_15 ?_
      refine c_iload_n G dX0_begin_18 rfl 2 rfl ?_
      refine c_iload_n G dX0_begin_19 rfl 2 rfl ?_
      refine c_iast G (lf h_a0 3 rfl) dX0_begin_20 (fun M3 _ => ?_)
      refine c_iinc G (fun y__ => [(2, .int y__), (0, .ref (wB w + pz (a0))), (1, .int a1)]) dX0_begin_21 2 rfl kI_1 (by decide) (fun _ => rfl) (fun l2_2 _ => ?_)
      refine c_goto (tgt := 9) G dX0_begin_24 (by decide) ?_
      exact c_weak _ [1, 2, 0] rfl (ih l2_2 M3)
set_option maxHeartbeats 4000000 in
set_option maxRecDepth 100000 in
theorem con_X0_begin {w : Wp} {N : Nat} {a0 : Nat} {a1 : Int32} {M : Mm} {q : Mm} (h_a0 : lay a0 = (5, 0)) (hq : D_X0_begin N a0 a1 M = some q) : Con w 1 yX0_begin cX0_begin 3 none [.ref (wB w + pz (a0)), .int a1] M (encV q) := by
  refine Con.of encV q _ hq (by decide) (Nat.le_of_ble_eq_true rfl) ?_
  intro X G Q hQ
  have G : Good w X cX0_begin 3 RX0 none 1 := G
  refine c_weak [(0, .ref (wB w + pz (a0))), (1, .int a1)] [0, 1] rfl ?_
  rw [D_X0_begin]
  refine c_aload_n G dX0_begin_0 rfl 0 rfl ?_
  refine c_getF G fl_X0_9 h_a0 rfl dX0_begin_1 ?_
  refine c_callN_V (d := 0) (rest := []) G [.ref (wB w + pz ((a0 + 1)))] ys_X11_clearFlags (nw_X0_25 (Good.nw G)) (by omega) (by decide) rfl rfl (Nat.le_of_ble_eq_true rfl) (fun q hq => con_X11_clearFlags (ll (lf h_a0 0 rfl)) hq) dX0_begin_4 (fun M1 _ => ?_)
  refine c_iconst G (nI 0) dX0_begin_7 kI_0 ?_
  refine c_istore_n G [(2, .int (nI 0)), (0, .ref (wB w + pz (a0))), (1, .int a1)] dX0_begin_8 rfl (by decide) rfl ?_
  refine c_weak _ [1, 2, 0] rfl (cl_X0_begin_9 G hQ  h_a0 N (nI 0) M1)
set_option maxHeartbeats 4000000 in
set_option maxRecDepth 100000 in
theorem con_X0_mark {w : Wp} {N : Nat} {a0 : Nat} {a1 : Int32} {M : Mm} {q : Mm} (h_a0 : lay a0 = (5, 0)) (hq : D_X0_mark N a0 a1 M = some q) : Con w 0 yX0_mark cX0_mark 2 none [.ref (wB w + pz (a0)), .int a1] M (encV q) := by
  refine Con.of encV q _ hq (by decide) (Nat.le_of_ble_eq_true rfl) ?_
  intro X G Q hQ
  have G : Good w X cX0_mark 2 RX0 none 0 := G
  refine c_weak [(0, .ref (wB w + pz (a0))), (1, .int a1)] [0, 1] rfl ?_
  rw [D_X0_mark]
  refine c_aload_n G dX0_mark_0 rfl 0 rfl ?_
  refine c_getF G fl_X0_9 h_a0 rfl dX0_mark_1 ?_
  refine c_iload_n G dX0_mark_4 rfl 1 rfl ?_
  refine c_iconst G (nI 1) dX0_mark_5 kI_1 ?_
  refine c_zast G (lf h_a0 0 rfl) dX0_mark_6 (fun M1 _ => ?_)
  exact c_vret G hQ dX0_mark_7
set_option maxHeartbeats 4000000 in
set_option maxRecDepth 100000 in
theorem cl_X0_markAskingOwn_16 {w : Wp} {X : Cx} {Q : State → Prop} {ρ : Mm} (G : Good w X cX0_markAskingOwn 6 RX0 none 1) (hQ : Q = MQ (xL X) (Qd w (encV ρ)) (xA X) (xS X) (xk X) (xs X) (Aw w)) {v2 : Int32} {N : Nat} {a2 : Nat} {a3 : Int32} {a0 : Nat} (h_a2 : lay a2 = (5, 8)) (h_a0 : lay a0 = (5, 0)) : ∀ (n : Nat) (l5_1 : Int32) (M1 : Mm), Cov w X Q ρ some 6 16 [(0, .ref (wB w + pz (a0))), (2, .ref (wB w + pz (a2))), (3, .int a3), (4, .int v2), (5, .int l5_1)] [] M1 (L_X0_markAskingOwn_16 v2 N a2 a3 a0 n l5_1 M1) := by
  intro n
  induction n with
  | zero => intro l5_1 M1; exact c_none
  | succ n ih =>
    intro l5_1 M1
    rw [L_X0_markAskingOwn_16]
    refine c_iload G dX0_markAskingOwn_16 4 rfl ?_
    refine c_bipush G (nI 32) dX0_markAskingOwn_18 kB_32 ?_
    refine c_icmp_ge (tgt := 50) G dX0_markAskingOwn_20 (by decide) (fun _ => ?_) (fun _ => ?_)
    · skip
      exact c_vret G hQ dX0_markAskingOwn_50
    · skip
      refine c_iload G dX0_markAskingOwn_23 3 rfl ?_
      refine c_iload G dX0_markAskingOwn_25 4 rfl ?_
      refine c_iushr G dX0_markAskingOwn_27 ?_
      refine c_iconst G (nI 1) dX0_markAskingOwn_28 kI_1 ?_
      refine c_iand G dX0_markAskingOwn_29 ?_
      refine c_if_eq (tgt := 44) G dX0_markAskingOwn_30 (by decide) (fun _ => ?_) (fun _ => ?_)
      · skip
        refine c_iinc G (fun y__ => [(5, .int y__), (0, .ref (wB w + pz (a0))), (2, .ref (wB w + pz (a2))), (3, .int a3), (4, .int v2)]) dX0_markAskingOwn_44 4 rfl kI_1 (by decide) (fun _ => rfl) (fun l5_2 _ => ?_)
        refine c_goto (tgt := 16) G dX0_markAskingOwn_47 (by decide) ?_
        exact c_weak _ [1, 2, 3, 4, 0] rfl (ih l5_2 M1)
      · skip
        refine c_aload_n G dX0_markAskingOwn_33 rfl 0 rfl ?_
        refine c_aload_n G dX0_markAskingOwn_34 rfl 1 rfl ?_
        refine c_iload_n G dX0_markAskingOwn_35 rfl 2 rfl ?_
        refine c_iload G dX0_markAskingOwn_36 4 rfl ?_
        refine c_callV_PI (d := 0) (rest := [.ref (wB w + pz (a0))]) G [.int a3, .int l5_1] yv_X8_instance ml_X0_50 (by omega) (by decide) rfl rfl (Nat.le_of_ble_eq_true rfl) h_a2 (fun q hq => con_X8_instance h_a2 hq) dX0_markAskingOwn_38 (fun q1 _ => ?_)
        refine c_callV_V (d := 0) (rest := []) G [.int q1] yv_X0_mark ml_X0_54 (by omega) (by decide) rfl rfl (Nat.le_of_ble_eq_true rfl) h_a0 (fun q hq => con_X0_mark h_a0 hq) dX0_markAskingOwn_41 (fun M2 _ => ?_)
        refine c_iinc G (fun y__ => [(5, .int y__), (0, .ref (wB w + pz (a0))), (2, .ref (wB w + pz (a2))), (3, .int a3), (4, .int v2)]) dX0_markAskingOwn_44 4 rfl kI_1 (by decide) (fun _ => rfl) (fun l5_3 _ => ?_)
        refine c_goto (tgt := 16) G dX0_markAskingOwn_47 (by decide) ?_
        exact c_weak _ [1, 2, 3, 4, 0] rfl (ih l5_3 M2)
set_option maxHeartbeats 4000000 in
set_option maxRecDepth 100000 in
theorem con_X0_markAskingOwn {w : Wp} {N : Nat} {a0 : Nat} {a1 : Nat} {a2 : Nat} {a3 : Int32} {M : Mm} {q : Mm} (h_a0 : lay a0 = (5, 0)) (h_a1 : lay a1 = (5, 1)) (h_a2 : lay a2 = (5, 8)) (hq : D_X0_markAskingOwn N a0 a1 a2 a3 M = some q) : Con w 1 yX0_markAskingOwn cX0_markAskingOwn 6 none [.ref (wB w + pz (a0)), .ref (wB w + pz (a1)), .ref (wB w + pz (a2)), .int a3] M (encV q) := by
  refine Con.of encV q _ hq (by decide) (Nat.le_of_ble_eq_true rfl) ?_
  intro X G Q hQ
  have G : Good w X cX0_markAskingOwn 6 RX0 none 1 := G
  refine c_weak [(0, .ref (wB w + pz (a0))), (1, .ref (wB w + pz (a1))), (2, .ref (wB w + pz (a2))), (3, .int a3)] [0, 1, 2, 3] rfl ?_
  rw [D_X0_markAskingOwn]
  refine c_aload_n G dX0_markAskingOwn_0 rfl 1 rfl ?_
  refine c_getF G fl_X0_40 h_a1 rfl dX0_markAskingOwn_1 ?_
  refine c_aload_n G dX0_markAskingOwn_4 rfl 2 rfl ?_
  refine c_getF G fl_X0_45 h_a2 rfl dX0_markAskingOwn_5 ?_
  refine c_iload_n G dX0_markAskingOwn_8 rfl 3 rfl ?_
  refine c_iald G (lf h_a2 1 rfl) dX0_markAskingOwn_9 (fun v1 _ => ?_)
  refine c_iald G (lf h_a1 13 rfl) dX0_markAskingOwn_10 (fun v2 _ => ?_)
  refine c_istore G [(4, .int v2), (0, .ref (wB w + pz (a0))), (1, .ref (wB w + pz (a1))), (2, .ref (wB w + pz (a2))), (3, .int a3)] dX0_markAskingOwn_11 (by decide) rfl ?_
  refine c_iconst G (nI 0) dX0_markAskingOwn_13 kI_0 ?_
  refine c_istore G [(5, .int (nI 0)), (4, .int v2), (0, .ref (wB w + pz (a0))), (1, .ref (wB w + pz (a1))), (2, .ref (wB w + pz (a2))), (3, .int a3)] dX0_markAskingOwn_14 (by decide) rfl ?_
  refine c_weak _ [2, 4, 5, 1, 0] rfl (cl_X0_markAskingOwn_16 G hQ  h_a2 h_a0 N (nI 0) M)
set_option maxHeartbeats 4000000 in
set_option maxRecDepth 100000 in
theorem con_X0_isNew {w : Wp} {N : Nat} {a0 : Nat} {a1 : Int32} {M : Mm} {q : Int32} (h_a0 : lay a0 = (5, 0)) (hq : D_X0_isNew N a0 a1 M = some q) : Con w 0 yX0_isNew cX0_isNew 2 (some .boolean) [.ref (wB w + pz (a0)), .int a1] M ((encPI M) q) := by
  refine Con.of (encPI M) q _ hq (by decide) (Nat.le_of_ble_eq_true rfl) ?_
  intro X G Q hQ
  have G : Good w X cX0_isNew 2 RX0 (some .boolean) 0 := G
  refine c_weak [(0, .ref (wB w + pz (a0))), (1, .int a1)] [0, 1] rfl ?_
  rw [D_X0_isNew]
  refine c_aload_n G dX0_isNew_0 rfl 0 rfl ?_
  refine c_getF G fl_X0_21 h_a0 rfl dX0_isNew_1 ?_
  refine c_iload_n G dX0_isNew_4 rfl 1 rfl ?_
  refine c_iald G (lf h_a0 3 rfl) dX0_isNew_5 (fun v1 _ => ?_)
  refine c_iconst G m1 dX0_isNew_6 kI_m1 ?_
  refine c_icmp_ne (tgt := 14) G dX0_isNew_7 (by decide) (fun _ => ?_) (fun _ => ?_)
  · skip
    refine c_iconst G (nI 1) dX0_isNew_10 kI_1 ?_
    refine c_goto (tgt := 15) G dX0_isNew_11 (by decide) ?_
    exact c_zretP G hQ dX0_isNew_15
  · skip
    refine c_iconst G (nI 0) dX0_isNew_14 kI_0 ?_
    exact c_zretP G hQ dX0_isNew_15
set_option maxHeartbeats 4000000 in
set_option maxRecDepth 100000 in
theorem cl_X0_hangsOnOther_18 {w : Wp} {M : Mm} {X : Cx} {Q : State → Prop} {ρ : Int32} (G : Good w X cX0_hangsOnOther 6 RX0 (some .boolean) 1) (hQ : Q = MQ (xL X) (Qd w ((encPI M) ρ)) (xA X) (xS X) (xk X) (xs X) (Aw w)) {v2 : Int32} {N : Nat} {a1 : Nat} {v1 : Int32} {a0 : Nat} (h_a1 : lay a1 = (5, 8)) (h_a0 : lay a0 = (5, 0)) : ∀ (n : Nat) (l5_1 : Int32), Cov w X Q ρ some 6 18 [(0, .ref (wB w + pz (a0))), (1, .ref (wB w + pz (a1))), (3, .int v1), (4, .int v2), (5, .int l5_1)] [] M (L_X0_hangsOnOther_18 v2 N a1 v1 M a0 n l5_1) := by
  intro n
  induction n with
  | zero => intro l5_1; exact c_none
  | succ n ih =>
    intro l5_1
    rw [L_X0_hangsOnOther_18]
    refine c_iload G dX0_hangsOnOther_18 4 rfl ?_
    refine c_bipush G (nI 32) dX0_hangsOnOther_20 kB_32 ?_
    refine c_icmp_ge (tgt := 58) G dX0_hangsOnOther_22 (by decide) (fun _ => ?_) (fun _ => ?_)
    · skip
      refine c_iconst G (nI 0) dX0_hangsOnOther_58 kI_0 ?_
      exact c_zretP G hQ dX0_hangsOnOther_59
    · skip
      refine c_iload G dX0_hangsOnOther_25 3 rfl ?_
      refine c_iload G dX0_hangsOnOther_27 4 rfl ?_
      refine c_iushr G dX0_hangsOnOther_29 ?_
      refine c_iconst G (nI 1) dX0_hangsOnOther_30 kI_1 ?_
      refine c_iand G dX0_hangsOnOther_31 ?_
      refine c_if_eq (tgt := 52) G dX0_hangsOnOther_32 (by decide) (fun _ => ?_) (fun _ => ?_)
      · skip
        refine c_iinc G (fun y__ => [(5, .int y__), (0, .ref (wB w + pz (a0))), (1, .ref (wB w + pz (a1))), (3, .int v1), (4, .int v2)]) dX0_hangsOnOther_52 4 rfl kI_1 (by decide) (fun _ => rfl) (fun l5_2 _ => ?_)
        refine c_goto (tgt := 18) G dX0_hangsOnOther_55 (by decide) ?_
        exact c_weak _ [1, 2, 3, 4, 0] rfl (ih l5_2)
      · skip
        refine c_aload_n G dX0_hangsOnOther_35 rfl 0 rfl ?_
        refine c_getF G fl_X0_15 h_a0 rfl dX0_hangsOnOther_36 ?_
        refine c_aload_n G dX0_hangsOnOther_39 rfl 1 rfl ?_
        refine c_iload_n G dX0_hangsOnOther_40 rfl 2 rfl ?_
        refine c_iload G dX0_hangsOnOther_41 4 rfl ?_
        refine c_callV_PI (d := 0) (rest := [.ref (wB w + pz ((a0 + 2)))]) G [.int v1, .int l5_1] yv_X8_instance ml_X0_50 (by omega) (by decide) rfl rfl (Nat.le_of_ble_eq_true rfl) h_a1 (fun q hq => con_X8_instance h_a1 hq) dX0_hangsOnOther_43 (fun q1 _ => ?_)
        refine c_zald G (lf h_a0 1 rfl) dX0_hangsOnOther_46 (fun v3 _ => ?_)
        refine c_if_eq (tgt := 52) G dX0_hangsOnOther_47 (by decide) (fun _ => ?_) (fun _ => ?_)
        · skip
          refine c_iinc G (fun y__ => [(5, .int y__), (0, .ref (wB w + pz (a0))), (1, .ref (wB w + pz (a1))), (3, .int v1), (4, .int v2)]) dX0_hangsOnOther_52 4 rfl kI_1 (by decide) (fun _ => rfl) (fun l5_3 _ => ?_)
          refine c_goto (tgt := 18) G dX0_hangsOnOther_55 (by decide) ?_
          exact c_weak _ [1, 2, 3, 4, 0] rfl (ih l5_3)
        · skip
          refine c_iconst G (nI 1) dX0_hangsOnOther_50 kI_1 ?_
          exact c_zretP G hQ dX0_hangsOnOther_51
set_option maxHeartbeats 4000000 in
set_option maxRecDepth 100000 in
theorem con_X0_hangsOnOther {w : Wp} {N : Nat} {a0 : Nat} {a1 : Nat} {a2 : Int32} {M : Mm} {q : Int32} (h_a0 : lay a0 = (5, 0)) (h_a1 : lay a1 = (5, 8)) (hq : D_X0_hangsOnOther N a0 a1 a2 M = some q) : Con w 1 yX0_hangsOnOther cX0_hangsOnOther 6 (some .boolean) [.ref (wB w + pz (a0)), .ref (wB w + pz (a1)), .int a2] M ((encPI M) q) := by
  refine Con.of (encPI M) q _ hq (by decide) (Nat.le_of_ble_eq_true rfl) ?_
  intro X G Q hQ
  have G : Good w X cX0_hangsOnOther 6 RX0 (some .boolean) 1 := G
  refine c_weak [(0, .ref (wB w + pz (a0))), (1, .ref (wB w + pz (a1))), (2, .int a2)] [0, 1, 2] rfl ?_
  rw [D_X0_hangsOnOther]
  refine c_aload_n G dX0_hangsOnOther_0 rfl 1 rfl ?_
  refine c_getF G fl_X0_122 h_a1 rfl dX0_hangsOnOther_1 ?_
  refine c_iload_n G dX0_hangsOnOther_4 rfl 2 rfl ?_
  refine c_iald G (lf h_a1 13 rfl) dX0_hangsOnOther_5 (fun v1 _ => ?_)
  refine c_istore_n G [(3, .int v1), (0, .ref (wB w + pz (a0))), (1, .ref (wB w + pz (a1))), (2, .int a2)] dX0_hangsOnOther_6 rfl (by decide) rfl ?_
  refine c_aload_n G dX0_hangsOnOther_7 rfl 2 rfl ?_
  refine c_getF G fl_X0_125 h_a1 rfl dX0_hangsOnOther_8 ?_
  refine c_iload_n G dX0_hangsOnOther_11 rfl 3 rfl ?_
  refine c_iald G (lf h_a1 15 rfl) dX0_hangsOnOther_12 (fun v2 _ => ?_)
  refine c_istore G [(4, .int v2), (3, .int v1), (0, .ref (wB w + pz (a0))), (1, .ref (wB w + pz (a1))), (2, .int a2)] dX0_hangsOnOther_13 (by decide) rfl ?_
  refine c_iconst G (nI 0) dX0_hangsOnOther_15 kI_0 ?_
  refine c_istore G [(5, .int (nI 0)), (4, .int v2), (3, .int v1), (0, .ref (wB w + pz (a0))), (1, .ref (wB w + pz (a1))), (2, .int a2)] dX0_hangsOnOther_16 (by decide) rfl ?_
  refine c_weak _ [3, 4, 2, 1, 0] rfl (cl_X0_hangsOnOther_18 G hQ  h_a1 h_a0 N (nI 0))
set_option maxHeartbeats 4000000 in
set_option maxRecDepth 100000 in
theorem cl_X0_isAnew_3 {w : Wp} {M : Mm} {X : Cx} {Q : State → Prop} {ρ : Int32} (G : Good w X cX0_isAnew 6 RX0 (some .boolean) 2) (hQ : Q = MQ (xL X) (Qd w ((encPI M) ρ)) (xA X) (xS X) (xk X) (xs X) (Aw w)) {N : Nat} {a2 : Nat} {a3 : Int32} {a0 : Nat} {a1 : Nat} (h_a2 : lay a2 = (5, 4)) (h_a0 : lay a0 = (5, 0)) (h_a1 : lay a1 = (5, 8)) : ∀ (n : Nat) (l4_1 : Int32), Cov w X Q ρ some 6 3 [(0, .ref (wB w + pz (a0))), (1, .ref (wB w + pz (a1))), (2, .ref (wB w + pz (a2))), (3, .int a3), (4, .int l4_1)] [] M (L_X0_isAnew_3 N a2 a3 M a0 a1 n l4_1) := by
  intro n
  induction n with
  | zero => intro l4_1; exact c_none
  | succ n ih =>
    intro l4_1
    rw [L_X0_isAnew_3]
    refine c_iload G dX0_isAnew_3 4 rfl ?_
    refine c_aload_n G dX0_isAnew_5 rfl 2 rfl ?_
    refine c_iload_n G dX0_isAnew_6 rfl 3 rfl ?_
    refine c_callV_PI (d := 0) (rest := [.int l4_1]) G [.int a3] yv_X4_size ml_X0_111 (by omega) (by decide) rfl rfl (Nat.le_of_ble_eq_true rfl) h_a2 (fun q hq => con_X4_size h_a2 hq) dX0_isAnew_7 (fun q1 _ => ?_)
    refine c_icmp_ge (tgt := 62) G dX0_isAnew_10 (by decide) (fun _ => ?_) (fun _ => ?_)
    · skip
      refine c_iconst G (nI 0) dX0_isAnew_62 kI_0 ?_
      exact c_zretP G hQ dX0_isAnew_63
    · skip
      refine c_aload_n G dX0_isAnew_13 rfl 2 rfl ?_
      refine c_iload_n G dX0_isAnew_14 rfl 3 rfl ?_
      refine c_iload G dX0_isAnew_15 4 rfl ?_
      refine c_callV_PI (d := 0) (rest := []) G [.int a3, .int l4_1] yv_X4_member ml_X0_115 (by omega) (by decide) rfl rfl (Nat.le_of_ble_eq_true rfl) h_a2 (fun q hq => con_X4_member h_a2 hq) dX0_isAnew_17 (fun q2 _ => ?_)
      refine c_istore G [(5, .int q2), (0, .ref (wB w + pz (a0))), (1, .ref (wB w + pz (a1))), (2, .ref (wB w + pz (a2))), (3, .int a3), (4, .int l4_1)] dX0_isAnew_20 (by decide) rfl ?_
      refine c_aload_n G dX0_isAnew_22 rfl 1 rfl ?_
      refine c_getF G fl_X0_9 h_a0 rfl dX0_isAnew_23 ?_
      refine c_iload G dX0_isAnew_26 0 rfl ?_
      refine c_zald G (lf h_a0 0 rfl) dX0_isAnew_28 (fun v1 _ => ?_)
      refine c_if_ne (tgt := 54) G dX0_isAnew_29 (by decide) (fun _ => ?_) (fun _ => ?_)
      · skip
        refine c_aload_n G dX0_isAnew_32 rfl 1 rfl ?_
        refine c_iload G dX0_isAnew_33 0 rfl ?_
        refine c_bipush G (nI 8) dX0_isAnew_35 kB_8 ?_
        refine c_idiv G dX0_isAnew_37 (fun v2 _ => ?_)
        refine c_callV_PI (d := 0) (rest := []) G [.int v2] yv_X0_isNew ml_X0_68 (by omega) (by decide) rfl rfl (Nat.le_of_ble_eq_true rfl) h_a0 (fun q hq => con_X0_isNew h_a0 hq) dX0_isAnew_38 (fun q3 _ => ?_)
        refine c_if_ne (tgt := 54) G dX0_isAnew_41 (by decide) (fun _ => ?_) (fun _ => ?_)
        · skip
          refine c_aload_n G dX0_isAnew_44 rfl 1 rfl ?_
          refine c_aload_n G dX0_isAnew_45 rfl 2 rfl ?_
          refine c_iload G dX0_isAnew_46 0 rfl ?_
          refine c_callV_PI (d := 1) (rest := []) G [.ref (wB w + pz (a1)), .int q2] yv_X0_hangsOnOther ml_X0_118 (by omega) (by decide) rfl rfl (Nat.le_of_ble_eq_true rfl) h_a0 (fun q hq => con_X0_hangsOnOther h_a0 h_a1 hq) dX0_isAnew_48 (fun q4 _ => ?_)
          refine c_if_eq (tgt := 56) G dX0_isAnew_51 (by decide) (fun _ => ?_) (fun _ => ?_)
          · skip
            refine c_iinc G (fun y__ => [(4, .int y__), (5, .int q2), (0, .ref (wB w + pz (a0))), (1, .ref (wB w + pz (a1))), (2, .ref (wB w + pz (a2))), (3, .int a3)]) dX0_isAnew_56 5 rfl kI_1 (by decide) (fun _ => rfl) (fun l4_2 _ => ?_)
            refine c_goto (tgt := 3) G dX0_isAnew_59 (by decide) ?_
            exact c_weak _ [2, 3, 4, 5, 0] rfl (ih l4_2)
          · skip
            refine c_iconst G (nI 1) dX0_isAnew_54 kI_1 ?_
            exact c_zretP G hQ dX0_isAnew_55
        · skip
          refine c_iconst G (nI 1) dX0_isAnew_54 kI_1 ?_
          exact c_zretP G hQ dX0_isAnew_55
      · skip
        refine c_iconst G (nI 1) dX0_isAnew_54 kI_1 ?_
        exact c_zretP G hQ dX0_isAnew_55
set_option maxHeartbeats 4000000 in
set_option maxRecDepth 100000 in
theorem con_X0_isAnew {w : Wp} {N : Nat} {a0 : Nat} {a1 : Nat} {a2 : Nat} {a3 : Int32} {M : Mm} {q : Int32} (h_a0 : lay a0 = (5, 0)) (h_a1 : lay a1 = (5, 8)) (h_a2 : lay a2 = (5, 4)) (hq : D_X0_isAnew N a0 a1 a2 a3 M = some q) : Con w 2 yX0_isAnew cX0_isAnew 6 (some .boolean) [.ref (wB w + pz (a0)), .ref (wB w + pz (a1)), .ref (wB w + pz (a2)), .int a3] M ((encPI M) q) := by
  refine Con.of (encPI M) q _ hq (by decide) (Nat.le_of_ble_eq_true rfl) ?_
  intro X G Q hQ
  have G : Good w X cX0_isAnew 6 RX0 (some .boolean) 2 := G
  refine c_weak [(0, .ref (wB w + pz (a0))), (1, .ref (wB w + pz (a1))), (2, .ref (wB w + pz (a2))), (3, .int a3)] [0, 1, 2, 3] rfl ?_
  rw [D_X0_isAnew]
  refine c_iconst G (nI 0) dX0_isAnew_0 kI_0 ?_
  refine c_istore G [(4, .int (nI 0)), (0, .ref (wB w + pz (a0))), (1, .ref (wB w + pz (a1))), (2, .ref (wB w + pz (a2))), (3, .int a3)] dX0_isAnew_1 (by decide) rfl ?_
  refine c_weak _ [1, 2, 3, 4, 0] rfl (cl_X0_isAnew_3 G hQ  h_a2 h_a0 h_a1 N (nI 0))
set_option maxHeartbeats 4000000 in
set_option maxRecDepth 100000 in
theorem con_X0_stoodFor {w : Wp} {N : Nat} {a0 : Nat} {a1 : Int32} {M : Mm} {q : Int32} (h_a0 : lay a0 = (5, 0)) (hq : D_X0_stoodFor N a0 a1 M = some q) : Con w 0 yX0_stoodFor cX0_stoodFor 2 (some .int) [.ref (wB w + pz (a0)), .int a1] M ((encPI M) q) := by
  refine Con.of (encPI M) q _ hq (by decide) (Nat.le_of_ble_eq_true rfl) ?_
  intro X G Q hQ
  have G : Good w X cX0_stoodFor 2 RX0 (some .int) 0 := G
  refine c_weak [(0, .ref (wB w + pz (a0))), (1, .int a1)] [0, 1] rfl ?_
  rw [D_X0_stoodFor]
  refine c_bipush G (nI 8) dX0_stoodFor_0 kB_8 ?_
  refine c_aload_n G dX0_stoodFor_2 rfl 0 rfl ?_
  refine c_getF G fl_X0_21 h_a0 rfl dX0_stoodFor_3 ?_
  refine c_iload_n G dX0_stoodFor_6 rfl 1 rfl ?_
  refine c_bipush G (nI 8) dX0_stoodFor_7 kB_8 ?_
  refine c_idiv G dX0_stoodFor_9 (fun v1 _ => ?_)
  refine c_iald G (lf h_a0 3 rfl) dX0_stoodFor_10 (fun v2 _ => ?_)
  refine c_imul G dX0_stoodFor_11 ?_
  refine c_iload_n G dX0_stoodFor_12 rfl 1 rfl ?_
  refine c_bipush G (nI 8) dX0_stoodFor_13 kB_8 ?_
  refine c_irem G dX0_stoodFor_15 (fun v3 _ => ?_)
  refine c_iadd G dX0_stoodFor_16 ?_
  exact c_iretP G hQ dX0_stoodFor_17
set_option maxHeartbeats 4000000 in
set_option maxRecDepth 100000 in
theorem cl_X0_count_3 {w : Wp} {X : Cx} {Q : State → Prop} {ρ : Mm} (G : Good w X cX0_count 6 RX0 none 1) (hQ : Q = MQ (xL X) (Qd w (encV ρ)) (xA X) (xS X) (xk X) (xs X) (Aw w)) {N : Nat} {a2 : Nat} {a1 : Int32} {a0 : Nat} {a3 : Nat} (h_a2 : lay a2 = (5, 10)) (h_a0 : lay a0 = (5, 0)) (h_a3 : lay a3 = (5, 10)) : ∀ (n : Nat) (l4_1 : Int32) (M1 : Mm), Cov w X Q ρ some 6 3 [(0, .ref (wB w + pz (a0))), (1, .int a1), (2, .ref (wB w + pz (a2))), (3, .ref (wB w + pz (a3))), (4, .int l4_1)] [] M1 (L_X0_count_3 N a2 a1 a0 a3 n l4_1 M1) := by
  intro n
  induction n with
  | zero => intro l4_1 M1; exact c_none
  | succ n ih =>
    intro l4_1 M1
    rw [L_X0_count_3]
    refine c_iload G dX0_count_3 4 rfl ?_
    refine c_aload_n G dX0_count_5 rfl 2 rfl ?_
    refine c_getF G fl_X0_89 h_a2 rfl dX0_count_6 ?_
    refine c_iload_n G dX0_count_9 rfl 1 rfl ?_
    refine c_callV_PI (d := 0) (rest := [.int l4_1]) G [.int a1] yv_X4_size ml_X0_111 (by omega) (by decide) rfl rfl (Nat.le_of_ble_eq_true rfl) (lf h_a2 0 rfl) (fun q hq => con_X4_size (lf h_a2 0 rfl) hq) dX0_count_10 (fun q1 _ => ?_)
    refine c_icmp_ge (tgt := 113) G dX0_count_13 (by decide) (fun _ => ?_) (fun _ => ?_)
    · skip
      exact c_vret G hQ dX0_count_113
    · skip
      refine c_aload_n G dX0_count_16 rfl 2 rfl ?_
      refine c_getF G fl_X0_89 h_a2 rfl dX0_count_17 ?_
      refine c_iload_n G dX0_count_20 rfl 1 rfl ?_
      refine c_iload G dX0_count_21 4 rfl ?_
      refine c_callV_PI (d := 0) (rest := []) G [.int a1, .int l4_1] yv_X4_member ml_X0_115 (by omega) (by decide) rfl rfl (Nat.le_of_ble_eq_true rfl) (lf h_a2 0 rfl) (fun q hq => con_X4_member (lf h_a2 0 rfl) hq) dX0_count_23 (fun q2 _ => ?_)
      refine c_istore G [(5, .int q2), (0, .ref (wB w + pz (a0))), (1, .int a1), (2, .ref (wB w + pz (a2))), (3, .ref (wB w + pz (a3))), (4, .int l4_1)] dX0_count_26 (by decide) rfl ?_
      refine c_aload_n G dX0_count_28 rfl 1 rfl ?_
      refine c_dup G dX0_count_29 rfl ?_
      refine c_getI G fl_X0_83 h_a0 rfl dX0_count_30 ?_
      refine c_iconst G (nI 1) dX0_count_33 kI_1 ?_
      refine c_iadd G dX0_count_34 ?_
      refine c_putI G fp_X0_83 h_a0 rfl dX0_count_35 (fun M2 _ => ?_)
      refine c_aload_n G dX0_count_38 rfl 1 rfl ?_
      refine c_getF G fl_X0_15 h_a0 rfl dX0_count_39 ?_
      refine c_iload G dX0_count_42 0 rfl ?_
      refine c_aload_n G dX0_count_44 rfl 1 rfl ?_
      refine c_iload G dX0_count_45 0 rfl ?_
      refine c_bipush G (nI 8) dX0_count_47 kB_8 ?_
      refine c_idiv G dX0_count_49 (fun v1 _ => ?_)
      refine c_callV_PI (d := 0) (rest := [.int q2, .ref (wB w + pz ((a0 + 2)))]) G [.int v1] yv_X0_isNew ml_X0_68 (by omega) (by decide) rfl rfl (Nat.le_of_ble_eq_true rfl) h_a0 (fun q hq => con_X0_isNew h_a0 hq) dX0_count_50 (fun q3 _ => ?_)
      refine c_bj (ej := fun (p82 : Int32) => [(0, .ref (wB w + pz (a0))), (1, .int a1), (2, .ref (wB w + pz (a2))), (3, .ref (wB w + pz (a3))), (4, .int l4_1), (5, .int q2)]) (sj := fun p82 => [.int p82, .int q2, .ref (wB w + pz ((a0 + 2)))]) (mj := fun p82 => M2) (pj := 82) (fun p82 => ?_) (fun F hJ82 => ?_)
      · skip
        refine c_zast G (lf h_a0 1 rfl) dX0_count_82 (fun M3 _ => ?_)
        refine c_aload_n G dX0_count_83 rfl 0 rfl ?_
        refine c_dup G dX0_count_84 rfl ?_
        refine c_getI G fl_X0_86 h_a0 rfl dX0_count_85 ?_
        refine c_aload_n G dX0_count_88 rfl 0 rfl ?_
        refine c_getF G fl_X0_15 h_a0 rfl dX0_count_89 ?_
        refine c_iload G dX0_count_92 5 rfl ?_
        refine c_zald G (lf h_a0 1 rfl) dX0_count_94 (fun v2 _ => ?_)
        refine c_if_eq (tgt := 102) G dX0_count_95 (by decide) (fun _ => ?_) (fun _ => ?_)
        · skip
          refine c_iconst G (nI 0) dX0_count_102 kI_0 ?_
          refine c_iadd G dX0_count_103 ?_
          refine c_putI G fp_X0_86 h_a0 rfl dX0_count_104 (fun M4 _ => ?_)
          refine c_iinc G (fun y__ => [(4, .int y__), (0, .ref (wB w + pz (a0))), (1, .int a1), (2, .ref (wB w + pz (a2))), (3, .ref (wB w + pz (a3))), (5, .int q2)]) dX0_count_107 4 rfl kI_1 (by decide) (fun _ => rfl) (fun l4_2 _ => ?_)
          refine c_goto (tgt := 3) G dX0_count_110 (by decide) ?_
          exact c_weak _ [1, 2, 3, 4, 0] rfl (ih l4_2 M4)
        · skip
          refine c_iconst G (nI 1) dX0_count_98 kI_1 ?_
          refine c_goto (tgt := 103) G dX0_count_99 (by decide) ?_
          refine c_iadd G dX0_count_103 ?_
          refine c_putI G fp_X0_86 h_a0 rfl dX0_count_104 (fun M5 _ => ?_)
          refine c_iinc G (fun y__ => [(4, .int y__), (0, .ref (wB w + pz (a0))), (1, .int a1), (2, .ref (wB w + pz (a2))), (3, .ref (wB w + pz (a3))), (5, .int q2)]) dX0_count_107 4 rfl kI_1 (by decide) (fun _ => rfl) (fun l4_3 _ => ?_)
          refine c_goto (tgt := 3) G dX0_count_110 (by decide) ?_
          exact c_weak _ [1, 2, 3, 4, 0] rfl (ih l4_3 M5)
      · skip
        refine c_jn (ej := fun (p77 : Unit) => [(0, .ref (wB w + pz (a0))), (1, .int a1), (2, .ref (wB w + pz (a2))), (3, .ref (wB w + pz (a3))), (4, .int l4_1), (5, .int q2)]) (sj := fun p77 => [.int q2, .ref (wB w + pz ((a0 + 2)))]) (mj := fun p77 => M2) (pj := 77) (fun p77 => ?_) (fun J1 hJ77 => ?_)
        · skip
          refine c_iconst G (nI 1) dX0_count_77 kI_1 ?_
          refine c_goto (tgt := 82) G dX0_count_78 (by decide) ?_
          exact c_weak _ [0, 1, 2, 3, 4, 5] rfl (hJ82 (nI 1))
        · skip
          refine c_if_ne (tgt := 77) G dX0_count_53 (by decide) (fun _ => ?_) (fun _ => ?_)
          · skip
            refine c_aload_n G dX0_count_56 rfl 3 rfl ?_
            refine c_getF G fl_X0_128 h_a2 rfl dX0_count_57 ?_
            refine c_iload G dX0_count_60 0 rfl ?_
            refine c_iald G (lf h_a2 1 rfl) dX0_count_62 (fun v3 _ => ?_)
            refine c_aload_n G dX0_count_63 rfl 4 rfl ?_
            refine c_getF G fl_X0_128 h_a3 rfl dX0_count_64 ?_
            refine c_aload_n G dX0_count_67 rfl 1 rfl ?_
            refine c_iload G dX0_count_68 0 rfl ?_
            refine c_callV_PI (d := 0) (rest := [.ref (wB w + pz ((a3 + 12))), .int v3, .int q2, .ref (wB w + pz ((a0 + 2)))]) G [.int q2] yv_X0_stoodFor ml_X0_131 (by omega) (by decide) rfl rfl (Nat.le_of_ble_eq_true rfl) h_a0 (fun q hq => con_X0_stoodFor h_a0 hq) dX0_count_70 (fun q4 _ => ?_)
            refine c_iald G (lf h_a3 1 rfl) dX0_count_73 (fun v4 _ => ?_)
            refine c_icmp_eq (tgt := 81) G dX0_count_74 (by decide) (fun _ => ?_) (fun _ => ?_)
            · skip
              refine c_iconst G (nI 0) dX0_count_81 kI_0 ?_
              exact c_weak _ [1, 2, 3, 4, 5, 0] rfl (hJ82 (nI 0))
            · skip
              exact c_weak _ [1, 2, 3, 4, 5, 0] rfl (hJ77 ())
          · skip
            exact c_weak _ [1, 2, 3, 4, 5, 0] rfl (hJ77 ())
