set_option maxHeartbeats 4000000 in
set_option maxRecDepth 100000 in
theorem con_X11_status {w : Wp} {N : Nat} {a0 : Nat} {M : Mm} {q : Int32} (h_a0 : lay a0 = (5, 11)) (hq : D_X11_status N a0 M = some q) : Con w 0 yX11_status cX11_status 1 (some .int) [.ref (wB w + pz (a0))] M ((encPI M) q) := by
  refine Con.of (encPI M) q _ hq (by decide) (Nat.le_of_ble_eq_true rfl) ?_
  intro X G Q hQ
  have G : Good w X cX11_status 1 RX11 (some .int) 0 := G
  refine c_weak [(0, .ref (wB w + pz (a0)))] [0] rfl ?_
  rw [D_X11_status]
  refine c_aload_n G dX11_status_0 rfl 0 rfl ?_
  refine c_getI G fl_X11_9 h_a0 rfl dX11_status_1 ?_
  exact c_iretP G hQ dX11_status_4
set_option maxHeartbeats 4000000 in
set_option maxRecDepth 100000 in
theorem cl_X7_append_3 {w : Wp} {X : Cx} {Q : State → Prop} {ρ : Mm} (G : Good w X cX7_append 3 RX7 none 0) (hQ : Q = MQ (xL X) (Qd w (encV ρ)) (xA X) (xS X) (xk X) (xs X) (Aw w)) {a0 : Nat} {a1 : Int32} (h_a0 : lay a0 = (5, 7)) : ∀ (n : Nat) (l2_1 : Int32) (M1 : Mm), Cov w X Q ρ some 3 3 [(0, .ref (wB w + pz (a0))), (1, .int a1), (2, .int l2_1)] [] M1 (L_X7_append_3 a0 a1 n l2_1 M1) := by
  intro n
  induction n with
  | zero => intro l2_1 M1; exact c_none
  | succ n ih =>
    intro l2_1 M1
    rw [L_X7_append_3]
    refine c_iload_n G dX7_append_3 rfl 2 rfl ?_
    refine c_if_lt (tgt := 48) G dX7_append_4 (by decide) (fun _ => ?_) (fun _ => ?_)
    · skip
      exact c_vret G hQ dX7_append_48
    · skip
      refine c_aload_n G dX7_append_7 rfl 0 rfl ?_
      refine c_getI G fl_X7_26 h_a0 rfl dX7_append_8 ?_
      refine c_aload_n G dX7_append_11 rfl 0 rfl ?_
      refine c_getF G fl_X7_9 h_a0 rfl dX7_append_12 ?_
      refine c_alenI G (Int32.ofNat 1000) (lf h_a0 0 rfl) (by decide) rfl dX7_append_15 ?_
      refine c_icmp_ge (tgt := 42) G dX7_append_16 (by decide) (fun _ => ?_) (fun _ => ?_)
      · skip
        refine c_iinc G (fun y__ => [(2, .int y__), (0, .ref (wB w + pz (a0))), (1, .int a1)]) dX7_append_42 2 rfl kI_m8 (by decide) (fun _ => rfl) (fun l2_2 _ => ?_)
        refine c_goto (tgt := 3) G dX7_append_45 (by decide) ?_
        exact c_weak _ [1, 2, 0] rfl (ih l2_2 M1)
      · skip
        refine c_aload_n G dX7_append_19 rfl 0 rfl ?_
        refine c_getF G fl_X7_9 h_a0 rfl dX7_append_20 ?_
        refine c_aload_n G dX7_append_23 rfl 0 rfl ?_
        refine c_getI G fl_X7_26 h_a0 rfl dX7_append_24 ?_
        refine c_iload_n G dX7_append_27 rfl 1 rfl ?_
        refine c_iload_n G dX7_append_28 rfl 2 rfl ?_
        refine c_iushr G dX7_append_29 ?_
        refine c_i2b G dX7_append_30 ?_
        refine c_bast G (lf h_a0 0 rfl) dX7_append_31 (fun M2 _ => ?_)
        refine c_aload_n G dX7_append_32 rfl 0 rfl ?_
        refine c_dup G dX7_append_33 rfl ?_
        refine c_getI G fl_X7_26 h_a0 rfl dX7_append_34 ?_
        refine c_iconst G (nI 1) dX7_append_37 kI_1 ?_
        refine c_iadd G dX7_append_38 ?_
        refine c_putI G fp_X7_26 h_a0 rfl dX7_append_39 (fun M3 _ => ?_)
        refine c_iinc G (fun y__ => [(2, .int y__), (0, .ref (wB w + pz (a0))), (1, .int a1)]) dX7_append_42 2 rfl kI_m8 (by decide) (fun _ => rfl) (fun l2_3 _ => ?_)
        refine c_goto (tgt := 3) G dX7_append_45 (by decide) ?_
        exact c_weak _ [1, 2, 0] rfl (ih l2_3 M3)
set_option maxHeartbeats 4000000 in
set_option maxRecDepth 100000 in
theorem con_X7_append {w : Wp} {N : Nat} {a0 : Nat} {a1 : Int32} {M : Mm} {q : Mm} (h_a0 : lay a0 = (5, 7)) (hq : D_X7_append N a0 a1 M = some q) : Con w 0 yX7_append cX7_append 3 none [.ref (wB w + pz (a0)), .int a1] M (encV q) := by
  refine Con.of encV q _ hq (by decide) (Nat.le_of_ble_eq_true rfl) ?_
  intro X G Q hQ
  have G : Good w X cX7_append 3 RX7 none 0 := G
  refine c_weak [(0, .ref (wB w + pz (a0))), (1, .int a1)] [0, 1] rfl ?_
  rw [D_X7_append]
  refine c_bipush G (nI 24) dX7_append_0 kB_24 ?_
  refine c_istore_n G [(2, .int (nI 24)), (0, .ref (wB w + pz (a0))), (1, .int a1)] dX7_append_2 rfl (by decide) rfl ?_
  refine c_weak _ [1, 2, 0] rfl (cl_X7_append_3 G hQ  h_a0 N (nI 24) M)
set_option maxHeartbeats 4000000 in
set_option maxRecDepth 100000 in
theorem con_X11_feed {w : Wp} {N : Nat} {a0 : Nat} {a1 : Int32} {a2 : Int32} {a3 : Int32} {a4 : Int32} {a5 : Int32} {M : Mm} {q : Int32 × Mm} (h_a0 : lay a0 = (5, 11)) (hq : D_X11_feed N a0 a1 a2 a3 a4 a5 M = some q) : Con w 1 yX11_feed cX11_feed 6 (some .int) [.ref (wB w + pz (a0)), .int a1, .int a2, .int a3, .int a4, .int a5] M (encI q) := by
  refine Con.of encI q _ hq (by decide) (Nat.le_of_ble_eq_true rfl) ?_
  intro X G Q hQ
  have G : Good w X cX11_feed 6 RX11 (some .int) 1 := G
  refine c_weak [(0, .ref (wB w + pz (a0))), (1, .int a1), (2, .int a2), (3, .int a3), (4, .int a4), (5, .int a5)] [0, 1, 2, 3, 4, 5] rfl ?_
  rw [D_X11_feed]
  refine c_aload_n G dX11_feed_0 rfl 0 rfl ?_
  refine c_getF G fl_X11_26 h_a0 rfl dX11_feed_1 ?_
  refine c_getI G fl_X11_102 (lf h_a0 4 rfl) rfl dX11_feed_4 ?_
  refine c_bipush G (nI 20) dX11_feed_7 kB_20 ?_
  refine c_iadd G dX11_feed_9 ?_
  refine c_sipush G (nI 1000) dX11_feed_10 kS_1000 ?_
  refine c_icmp_le (tgt := 18) G dX11_feed_13 (by decide) (fun _ => ?_) (fun _ => ?_)
  · skip
    refine c_aload_n G dX11_feed_18 rfl 0 rfl ?_
    refine c_getF G fl_X11_26 h_a0 rfl dX11_feed_19 ?_
    refine c_iload_n G dX11_feed_22 rfl 1 rfl ?_
    refine c_callV_V (d := 0) (rest := []) G [.int a1] yv_X7_append ml_X11_105 (by omega) (by decide) rfl rfl (Nat.le_of_ble_eq_true rfl) (lf h_a0 4 rfl) (fun q hq => con_X7_append (lf h_a0 4 rfl) hq) dX11_feed_23 (fun M1 _ => ?_)
    refine c_aload_n G dX11_feed_26 rfl 0 rfl ?_
    refine c_getF G fl_X11_26 h_a0 rfl dX11_feed_27 ?_
    refine c_iload_n G dX11_feed_30 rfl 2 rfl ?_
    refine c_callV_V (d := 0) (rest := []) G [.int a2] yv_X7_append ml_X11_105 (by omega) (by decide) rfl rfl (Nat.le_of_ble_eq_true rfl) (lf h_a0 4 rfl) (fun q hq => con_X7_append (lf h_a0 4 rfl) hq) dX11_feed_31 (fun M2 _ => ?_)
    refine c_aload_n G dX11_feed_34 rfl 0 rfl ?_
    refine c_getF G fl_X11_26 h_a0 rfl dX11_feed_35 ?_
    refine c_iload_n G dX11_feed_38 rfl 3 rfl ?_
    refine c_callV_V (d := 0) (rest := []) G [.int a3] yv_X7_append ml_X11_105 (by omega) (by decide) rfl rfl (Nat.le_of_ble_eq_true rfl) (lf h_a0 4 rfl) (fun q hq => con_X7_append (lf h_a0 4 rfl) hq) dX11_feed_39 (fun M3 _ => ?_)
    refine c_aload_n G dX11_feed_42 rfl 0 rfl ?_
    refine c_getF G fl_X11_26 h_a0 rfl dX11_feed_43 ?_
    refine c_iload G dX11_feed_46 4 rfl ?_
    refine c_callV_V (d := 0) (rest := []) G [.int a4] yv_X7_append ml_X11_105 (by omega) (by decide) rfl rfl (Nat.le_of_ble_eq_true rfl) (lf h_a0 4 rfl) (fun q hq => con_X7_append (lf h_a0 4 rfl) hq) dX11_feed_48 (fun M4 _ => ?_)
    refine c_aload_n G dX11_feed_51 rfl 0 rfl ?_
    refine c_getF G fl_X11_26 h_a0 rfl dX11_feed_52 ?_
    refine c_iload G dX11_feed_55 5 rfl ?_
    refine c_callV_V (d := 0) (rest := []) G [.int a5] yv_X7_append ml_X11_105 (by omega) (by decide) rfl rfl (Nat.le_of_ble_eq_true rfl) (lf h_a0 4 rfl) (fun q hq => con_X7_append (lf h_a0 4 rfl) hq) dX11_feed_57 (fun M5 _ => ?_)
    refine c_aload_n G dX11_feed_60 rfl 0 rfl ?_
    refine c_getF G fl_X11_26 h_a0 rfl dX11_feed_61 ?_
    refine c_getI G fl_X11_102 (lf h_a0 4 rfl) rfl dX11_feed_64 ?_
    exact c_iret G hQ dX11_feed_67
  · skip
    refine c_iconst G m1 dX11_feed_16 kI_m1 ?_
    exact c_iret G hQ dX11_feed_17
set_option maxHeartbeats 4000000 in
set_option maxRecDepth 100000 in
theorem con_X7_holds {w : Wp} {N : Nat} {a0 : Nat} {a1 : Int32} {M : Mm} {q : Int32} (h_a0 : lay a0 = (5, 7)) (hq : D_X7_holds N a0 a1 M = some q) : Con w 0 yX7_holds cX7_holds 2 (some .boolean) [.ref (wB w + pz (a0)), .int a1] M ((encPI M) q) := by
  refine Con.of (encPI M) q _ hq (by decide) (Nat.le_of_ble_eq_true rfl) ?_
  intro X G Q hQ
  have G : Good w X cX7_holds 2 RX7 (some .boolean) 0 := G
  refine c_weak [(0, .ref (wB w + pz (a0))), (1, .int a1)] [0, 1] rfl ?_
  rw [D_X7_holds]
  refine c_iload_n G dX7_holds_0 rfl 1 rfl ?_
  refine c_jn (ej := fun (p16 : Unit) => []) (sj := fun p16 => []) (mj := fun p16 => M) (pj := 16) (fun p16 => ?_) (fun J1 hJ16 => ?_)
  · skip
    refine c_iconst G (nI 0) dX7_holds_16 kI_0 ?_
    exact c_zretP G hQ dX7_holds_17
  · skip
    refine c_if_lt (tgt := 16) G dX7_holds_1 (by decide) (fun _ => ?_) (fun _ => ?_)
    · skip
      exact c_weak _ [] rfl (hJ16 ())
    · skip
      refine c_iload_n G dX7_holds_4 rfl 1 rfl ?_
      refine c_aload_n G dX7_holds_5 rfl 0 rfl ?_
      refine c_getI G fl_X7_26 h_a0 rfl dX7_holds_6 ?_
      refine c_icmp_gt (tgt := 16) G dX7_holds_9 (by decide) (fun _ => ?_) (fun _ => ?_)
      · skip
        exact c_weak _ [] rfl (hJ16 ())
      · skip
        refine c_iconst G (nI 1) dX7_holds_12 kI_1 ?_
        refine c_goto (tgt := 17) G dX7_holds_13 (by decide) ?_
        exact c_zretP G hQ dX7_holds_17
set_option maxHeartbeats 4000000 in
set_option maxRecDepth 100000 in
theorem con_X11_refuse {w : Wp} {N : Nat} {a0 : Nat} {a1 : Int32} {M : Mm} {q : Int32 × Mm} (h_a0 : lay a0 = (5, 11)) (hq : D_X11_refuse N a0 a1 M = some q) : Con w 0 yX11_refuse cX11_refuse 2 (some .int) [.ref (wB w + pz (a0)), .int a1] M (encI q) := by
  refine Con.of encI q _ hq (by decide) (Nat.le_of_ble_eq_true rfl) ?_
  intro X G Q hQ
  have G : Good w X cX11_refuse 2 RX11 (some .int) 0 := G
  refine c_weak [(0, .ref (wB w + pz (a0))), (1, .int a1)] [0, 1] rfl ?_
  rw [D_X11_refuse]
  refine c_aload_n G dX11_refuse_0 rfl 0 rfl ?_
  refine c_iload_n G dX11_refuse_1 rfl 1 rfl ?_
  refine c_putI G fp_X11_9 h_a0 rfl dX11_refuse_2 (fun M1 _ => ?_)
  refine c_iconst G m1 dX11_refuse_5 kI_m1 ?_
  exact c_iret G hQ dX11_refuse_6
set_option maxHeartbeats 4000000 in
set_option maxRecDepth 100000 in
theorem con_X7_byteAt {w : Wp} {N : Nat} {a0 : Nat} {a1 : Int32} {M : Mm} {q : Int32} (h_a0 : lay a0 = (5, 7)) (hq : D_X7_byteAt N a0 a1 M = some q) : Con w 0 yX7_byteAt cX7_byteAt 2 (some .int) [.ref (wB w + pz (a0)), .int a1] M ((encPI M) q) := by
  refine Con.of (encPI M) q _ hq (by decide) (Nat.le_of_ble_eq_true rfl) ?_
  intro X G Q hQ
  have G : Good w X cX7_byteAt 2 RX7 (some .int) 0 := G
  refine c_weak [(0, .ref (wB w + pz (a0))), (1, .int a1)] [0, 1] rfl ?_
  rw [D_X7_byteAt]
  refine c_aload_n G dX7_byteAt_0 rfl 0 rfl ?_
  refine c_getF G fl_X7_9 h_a0 rfl dX7_byteAt_1 ?_
  refine c_iload_n G dX7_byteAt_4 rfl 1 rfl ?_
  refine c_bald G (lf h_a0 0 rfl) dX7_byteAt_5 (fun v1 _ => ?_)
  refine c_sipush G (nI 255) dX7_byteAt_6 kS_255 ?_
  refine c_iand G dX7_byteAt_9 ?_
  exact c_iretP G hQ dX7_byteAt_10
set_option maxHeartbeats 4000000 in
set_option maxRecDepth 100000 in
theorem con_X7_isBlank {w : Wp} {N : Nat} {a0 : Int32} {M : Mm} {q : Int32} (hq : D_X7_isBlank N a0 M = some q) : Con w 0 yX7_isBlank cX7_isBlank 1 (some .boolean) [.int a0] M ((encPI M) q) := by
  refine Con.of (encPI M) q _ hq (by decide) (Nat.le_of_ble_eq_true rfl) ?_
  intro X G Q hQ
  have G : Good w X cX7_isBlank 1 RX7 (some .boolean) 0 := G
  refine c_weak [(0, .int a0)] [0] rfl ?_
  rw [D_X7_isBlank]
  refine c_iload_n G dX7_isBlank_0 rfl 0 rfl ?_
  refine c_bipush G (nI 10) dX7_isBlank_1 kB_10 ?_
  refine c_jn (ej := fun (p12 : Unit) => []) (sj := fun p12 => []) (mj := fun p12 => M) (pj := 12) (fun p12 => ?_) (fun J1 hJ12 => ?_)
  · skip
    refine c_iconst G (nI 1) dX7_isBlank_12 kI_1 ?_
    refine c_goto (tgt := 17) G dX7_isBlank_13 (by decide) ?_
    exact c_zretP G hQ dX7_isBlank_17
  · skip
    refine c_icmp_eq (tgt := 12) G dX7_isBlank_3 (by decide) (fun _ => ?_) (fun _ => ?_)
    · skip
      exact c_weak _ [] rfl (hJ12 ())
    · skip
      refine c_iload_n G dX7_isBlank_6 rfl 0 rfl ?_
      refine c_bipush G (nI 32) dX7_isBlank_7 kB_32 ?_
      refine c_icmp_ne (tgt := 16) G dX7_isBlank_9 (by decide) (fun _ => ?_) (fun _ => ?_)
      · skip
        exact c_weak _ [] rfl (hJ12 ())
      · skip
        refine c_iconst G (nI 0) dX7_isBlank_16 kI_0 ?_
        exact c_zretP G hQ dX7_isBlank_17
set_option maxHeartbeats 4000000 in
set_option maxRecDepth 100000 in
theorem con_X7_isLetter {w : Wp} {N : Nat} {a0 : Int32} {M : Mm} {q : Int32} (hq : D_X7_isLetter N a0 M = some q) : Con w 0 yX7_isLetter cX7_isLetter 1 (some .boolean) [.int a0] M ((encPI M) q) := by
  refine Con.of (encPI M) q _ hq (by decide) (Nat.le_of_ble_eq_true rfl) ?_
  intro X G Q hQ
  have G : Good w X cX7_isLetter 1 RX7 (some .boolean) 0 := G
  refine c_weak [(0, .int a0)] [0] rfl ?_
  rw [D_X7_isLetter]
  refine c_iload_n G dX7_isLetter_0 rfl 0 rfl ?_
  refine c_bipush G (nI 97) dX7_isLetter_1 kB_97 ?_
  refine c_jn (ej := fun (p16 : Unit) => []) (sj := fun p16 => []) (mj := fun p16 => M) (pj := 16) (fun p16 => ?_) (fun J1 hJ16 => ?_)
  · skip
    refine c_iconst G (nI 0) dX7_isLetter_16 kI_0 ?_
    exact c_zretP G hQ dX7_isLetter_17
  · skip
    refine c_icmp_lt (tgt := 16) G dX7_isLetter_3 (by decide) (fun _ => ?_) (fun _ => ?_)
    · skip
      exact c_weak _ [] rfl (hJ16 ())
    · skip
      refine c_iload_n G dX7_isLetter_6 rfl 0 rfl ?_
      refine c_bipush G (nI 122) dX7_isLetter_7 kB_122 ?_
      refine c_icmp_gt (tgt := 16) G dX7_isLetter_9 (by decide) (fun _ => ?_) (fun _ => ?_)
      · skip
        exact c_weak _ [] rfl (hJ16 ())
      · skip
        refine c_iconst G (nI 1) dX7_isLetter_12 kI_1 ?_
        refine c_goto (tgt := 17) G dX7_isLetter_13 (by decide) ?_
        exact c_zretP G hQ dX7_isLetter_17
set_option maxHeartbeats 4000000 in
set_option maxRecDepth 100000 in
theorem con_X7_add {w : Wp} {N : Nat} {a0 : Nat} {a1 : Int32} {a2 : Int32} {a3 : Int64} {M : Mm} {q : Mm} (h_a0 : lay a0 = (5, 7)) (hq : D_X7_add N a0 a1 a2 a3 M = some q) : Con w 0 yX7_add cX7_add 5 none [.ref (wB w + pz (a0)), .int a1, .int a2, .long a3] M (encV q) := by
  refine Con.of encV q _ hq (by decide) (Nat.le_of_ble_eq_true rfl) ?_
  intro X G Q hQ
  have G : Good w X cX7_add 5 RX7 none 0 := G
  refine c_weak [(0, .ref (wB w + pz (a0))), (1, .int a1), (2, .int a2), (3, .long a3)] [0, 1, 2, 3] rfl ?_
  rw [D_X7_add]
  refine c_aload_n G dX7_add_0 rfl 0 rfl ?_
  refine c_getI G fl_X7_30 h_a0 rfl dX7_add_1 ?_
  refine c_aload_n G dX7_add_4 rfl 0 rfl ?_
  refine c_getF G fl_X7_15 h_a0 rfl dX7_add_5 ?_
  refine c_alenI G (Int32.ofNat 1001) (lf h_a0 1 rfl) (by decide) rfl dX7_add_8 ?_
  refine c_icmp_ge (tgt := 52) G dX7_add_9 (by decide) (fun _ => ?_) (fun _ => ?_)
  · skip
    exact c_vret G hQ dX7_add_52
  · skip
    refine c_aload_n G dX7_add_12 rfl 0 rfl ?_
    refine c_getF G fl_X7_15 h_a0 rfl dX7_add_13 ?_
    refine c_aload_n G dX7_add_16 rfl 0 rfl ?_
    refine c_getI G fl_X7_30 h_a0 rfl dX7_add_17 ?_
    refine c_iload_n G dX7_add_20 rfl 1 rfl ?_
    refine c_iast G (lf h_a0 1 rfl) dX7_add_21 (fun M1 _ => ?_)
    refine c_aload_n G dX7_add_22 rfl 0 rfl ?_
    refine c_getF G fl_X7_19 h_a0 rfl dX7_add_23 ?_
    refine c_aload_n G dX7_add_26 rfl 0 rfl ?_
    refine c_getI G fl_X7_30 h_a0 rfl dX7_add_27 ?_
    refine c_iload_n G dX7_add_30 rfl 2 rfl ?_
    refine c_iast G (lf h_a0 2 rfl) dX7_add_31 (fun M2 _ => ?_)
    refine c_aload_n G dX7_add_32 rfl 0 rfl ?_
    refine c_getF G fl_X7_22 h_a0 rfl dX7_add_33 ?_
    refine c_aload_n G dX7_add_36 rfl 0 rfl ?_
    refine c_getI G fl_X7_30 h_a0 rfl dX7_add_37 ?_
    refine c_lload_n G dX7_add_40 rfl 3 rfl ?_
    refine c_last G (lf h_a0 3 rfl) dX7_add_41 (fun M3 _ => ?_)
    refine c_aload_n G dX7_add_42 rfl 0 rfl ?_
    refine c_dup G dX7_add_43 rfl ?_
    refine c_getI G fl_X7_30 h_a0 rfl dX7_add_44 ?_
    refine c_iconst G (nI 1) dX7_add_47 kI_1 ?_
    refine c_iadd G dX7_add_48 ?_
    refine c_putI G fp_X7_30 h_a0 rfl dX7_add_49 (fun M4 _ => ?_)
    exact c_vret G hQ dX7_add_52
set_option maxHeartbeats 4000000 in
set_option maxRecDepth 100000 in
theorem cl_X7_cutWord_5 {w : Wp} {X : Cx} {Q : State → Prop} {ρ : Int32 × Mm} (G : Good w X cX7_cutWord 6 RX7 (some .int) 1) (hQ : Q = MQ (xL X) (Qd w (encI ρ)) (xA X) (xS X) (xk X) (xs X) (Aw w)) (kE48 : Int32 → Int64 → Option (Int32 × Mm)) {a2 : Int32} {N : Nat} {a0 : Nat} {M : Mm} {a1 : Int32} (h_a0 : lay a0 = (5, 7)) (hE48 : ∀ (z3 : Int32), ∀ (z4 : Int64), Cov w X Q ρ some 6 48 [(0, .ref (wB w + pz (a0))), (1, .int a1), (3, .int z3), (4, .long z4)] [] M (kE48 z3 z4)) : ∀ (n : Nat) (l3_1 : Int32) (l4_1 : Int64), Cov w X Q ρ some 6 5 [(0, .ref (wB w + pz (a0))), (1, .int a1), (2, .int a2), (3, .int l3_1), (4, .long l4_1)] [] M (L_X7_cutWord_5 kE48 a2 N a0 M n l3_1 l4_1) := by
  intro n
  induction n with
  | zero => intro l3_1 l4_1; exact c_none
  | succ n ih =>
    intro l3_1 l4_1
    rw [L_X7_cutWord_5]
    refine c_iload_n G dX7_cutWord_5 rfl 3 rfl ?_
    refine c_iload_n G dX7_cutWord_6 rfl 2 rfl ?_
    refine c_icmp_ge (tgt := 48) G dX7_cutWord_7 (by decide) (fun _ => ?_) (fun _ => ?_)
    · skip
      exact c_weak _ [0, 1, 3, 4] rfl (hE48 l3_1 l4_1)
    · skip
      refine c_aload_n G dX7_cutWord_10 rfl 0 rfl ?_
      refine c_iload_n G dX7_cutWord_11 rfl 3 rfl ?_
      refine c_callV_PI (d := 0) (rest := []) G [.int l3_1] yv_X7_byteAt ml_X7_39 (by omega) (by decide) rfl rfl (Nat.le_of_ble_eq_true rfl) h_a0 (fun q hq => con_X7_byteAt h_a0 hq) dX7_cutWord_12 (fun q1 _ => ?_)
      refine c_callS_PI (d := 0) (rest := []) G [.int q1] ys_X7_isLetter ml_X7_91 (by omega) (by decide) rfl rfl (Nat.le_of_ble_eq_true rfl) (fun q hq => con_X7_isLetter hq) dX7_cutWord_15 (fun q2 _ => ?_)
      refine c_if_eq (tgt := 48) G dX7_cutWord_18 (by decide) (fun _ => ?_) (fun _ => ?_)
      · skip
        exact c_weak _ [0, 1, 3, 4] rfl (hE48 l3_1 l4_1)
      · skip
        refine c_ldc2 G (lN 32) kC_X7_106 kW_32 dX7_cutWord_21 ?_
        refine c_lload G dX7_cutWord_24 4 rfl ?_
        refine c_lmul G dX7_cutWord_26 ?_
        refine c_aload_n G dX7_cutWord_27 rfl 0 rfl ?_
        refine c_iload_n G dX7_cutWord_28 rfl 3 rfl ?_
        refine c_callV_PI (d := 0) (rest := [.long ((lN 32) * l4_1)]) G [.int l3_1] yv_X7_byteAt ml_X7_39 (by omega) (by decide) rfl rfl (Nat.le_of_ble_eq_true rfl) h_a0 (fun q hq => con_X7_byteAt h_a0 hq) dX7_cutWord_29 (fun q3 _ => ?_)
        refine c_i2l G dX7_cutWord_32 ?_
        refine c_ladd G dX7_cutWord_33 ?_
        refine c_ldc2 G (lN 97) kC_X7_108 kW_97 dX7_cutWord_34 ?_
        refine c_lsub G dX7_cutWord_37 ?_
        refine c_lconst G (lN 1) dX7_cutWord_38 kL_1 ?_
        refine c_ladd G dX7_cutWord_39 ?_
        refine c_letl (fun l4_2 _ => ?_)
        refine c_lstore G [(4, .long l4_2), (0, .ref (wB w + pz (a0))), (1, .int a1), (2, .int a2), (3, .int l3_1)] dX7_cutWord_40 (by decide) rfl ?_
        refine c_iinc G (fun y__ => [(3, .int y__), (4, .long l4_2), (0, .ref (wB w + pz (a0))), (1, .int a1), (2, .int a2)]) dX7_cutWord_42 4 rfl kI_1 (by decide) (fun _ => rfl) (fun l3_2 _ => ?_)
        refine c_goto (tgt := 5) G dX7_cutWord_45 (by decide) ?_
        exact c_weak _ [2, 3, 4, 0, 1] rfl (ih l3_2 l4_2)
set_option maxHeartbeats 4000000 in
set_option maxRecDepth 100000 in
theorem con_X7_cutWord {w : Wp} {N : Nat} {a0 : Nat} {a1 : Int32} {a2 : Int32} {M : Mm} {q : Int32 × Mm} (h_a0 : lay a0 = (5, 7)) (hq : D_X7_cutWord N a0 a1 a2 M = some q) : Con w 1 yX7_cutWord cX7_cutWord 6 (some .int) [.ref (wB w + pz (a0)), .int a1, .int a2] M (encI q) := by
  refine Con.of encI q _ hq (by decide) (Nat.le_of_ble_eq_true rfl) ?_
  intro X G Q hQ
  have G : Good w X cX7_cutWord 6 RX7 (some .int) 1 := G
  refine c_weak [(0, .ref (wB w + pz (a0))), (1, .int a1), (2, .int a2)] [0, 1, 2] rfl ?_
  rw [D_X7_cutWord]
  refine c_iload_n G dX7_cutWord_0 rfl 1 rfl ?_
  refine c_istore_n G [(3, .int a1), (0, .ref (wB w + pz (a0))), (1, .int a1), (2, .int a2)] dX7_cutWord_1 rfl (by decide) rfl ?_
  refine c_lconst G (lN 0) dX7_cutWord_2 kL_0 ?_
  refine c_lstore G [(4, .long (lN 0)), (3, .int a1), (0, .ref (wB w + pz (a0))), (1, .int a1), (2, .int a2)] dX7_cutWord_3 (by decide) rfl ?_
  refine c_weak _ [2, 3, 4, 1, 0] rfl (cl_X7_cutWord_5 G hQ _ h_a0 ?_ N a1 (lN 0))
  · intro l3_3 l4_3
    refine c_aload_n G dX7_cutWord_48 rfl 0 rfl ?_
    refine c_iload_n G dX7_cutWord_49 rfl 2 rfl ?_
    refine c_iload_n G dX7_cutWord_50 rfl 1 rfl ?_
    refine c_isub G dX7_cutWord_51 ?_
    refine c_bipush G (nI 8) dX7_cutWord_52 kB_8 ?_
    refine c_icmp_le (tgt := 61) G dX7_cutWord_54 (by decide) (fun _ => ?_) (fun _ => ?_)
    · skip
      refine c_iconst G (nI 1) dX7_cutWord_61 kI_1 ?_
      refine c_iload_n G dX7_cutWord_62 rfl 1 rfl ?_
      refine c_lload G dX7_cutWord_63 3 rfl ?_
      refine c_callV_V (d := 0) (rest := []) G [.int (nI 1), .int a1, .long l4_3] yv_X7_add ml_X7_51 (by omega) (by decide) rfl rfl (Nat.le_of_ble_eq_true rfl) h_a0 (fun q hq => con_X7_add h_a0 hq) dX7_cutWord_65 (fun M1 _ => ?_)
      refine c_iload_n G dX7_cutWord_68 rfl 2 rfl ?_
      exact c_iret G hQ dX7_cutWord_69
    · skip
      refine c_iconst G (nI 4) dX7_cutWord_57 kI_4 ?_
      refine c_goto (tgt := 62) G dX7_cutWord_58 (by decide) ?_
      refine c_iload_n G dX7_cutWord_62 rfl 1 rfl ?_
      refine c_lload G dX7_cutWord_63 3 rfl ?_
      refine c_callV_V (d := 0) (rest := []) G [.int (nI 4), .int a1, .long l4_3] yv_X7_add ml_X7_51 (by omega) (by decide) rfl rfl (Nat.le_of_ble_eq_true rfl) h_a0 (fun q hq => con_X7_add h_a0 hq) dX7_cutWord_65 (fun M2 _ => ?_)
      refine c_iload_n G dX7_cutWord_68 rfl 2 rfl ?_
      exact c_iret G hQ dX7_cutWord_69
set_option maxHeartbeats 4000000 in
set_option maxRecDepth 100000 in
theorem con_X7_isDigit {w : Wp} {N : Nat} {a0 : Int32} {M : Mm} {q : Int32} (hq : D_X7_isDigit N a0 M = some q) : Con w 0 yX7_isDigit cX7_isDigit 1 (some .boolean) [.int a0] M ((encPI M) q) := by
  refine Con.of (encPI M) q _ hq (by decide) (Nat.le_of_ble_eq_true rfl) ?_
  intro X G Q hQ
  have G : Good w X cX7_isDigit 1 RX7 (some .boolean) 0 := G
  refine c_weak [(0, .int a0)] [0] rfl ?_
  rw [D_X7_isDigit]
  refine c_iload_n G dX7_isDigit_0 rfl 0 rfl ?_
  refine c_bipush G (nI 48) dX7_isDigit_1 kB_48 ?_
  refine c_jn (ej := fun (p16 : Unit) => []) (sj := fun p16 => []) (mj := fun p16 => M) (pj := 16) (fun p16 => ?_) (fun J1 hJ16 => ?_)
  · skip
    refine c_iconst G (nI 0) dX7_isDigit_16 kI_0 ?_
    exact c_zretP G hQ dX7_isDigit_17
  · skip
    refine c_icmp_lt (tgt := 16) G dX7_isDigit_3 (by decide) (fun _ => ?_) (fun _ => ?_)
    · skip
      exact c_weak _ [] rfl (hJ16 ())
    · skip
      refine c_iload_n G dX7_isDigit_6 rfl 0 rfl ?_
      refine c_bipush G (nI 57) dX7_isDigit_7 kB_57 ?_
      refine c_icmp_gt (tgt := 16) G dX7_isDigit_9 (by decide) (fun _ => ?_) (fun _ => ?_)
      · skip
        exact c_weak _ [] rfl (hJ16 ())
      · skip
        refine c_iconst G (nI 1) dX7_isDigit_12 kI_1 ?_
        refine c_goto (tgt := 17) G dX7_isDigit_13 (by decide) ?_
        exact c_zretP G hQ dX7_isDigit_17
set_option maxHeartbeats 4000000 in
set_option maxRecDepth 100000 in
theorem cl_X7_cutNumber_5 {w : Wp} {X : Cx} {Q : State → Prop} {ρ : Int32 × Mm} (G : Good w X cX7_cutNumber 6 RX7 (some .int) 1) (hQ : Q = MQ (xL X) (Qd w (encI ρ)) (xA X) (xS X) (xk X) (xs X) (Aw w)) (kE46 : Int32 → Int64 → Option (Int32 × Mm)) {a2 : Int32} {N : Nat} {a0 : Nat} {M : Mm} {a1 : Int32} (h_a0 : lay a0 = (5, 7)) (hE46 : ∀ (z3 : Int32), ∀ (z4 : Int64), Cov w X Q ρ some 6 46 [(0, .ref (wB w + pz (a0))), (1, .int a1), (3, .int z3), (4, .long z4)] [] M (kE46 z3 z4)) : ∀ (n : Nat) (l3_1 : Int32) (l4_1 : Int64), Cov w X Q ρ some 6 5 [(0, .ref (wB w + pz (a0))), (1, .int a1), (2, .int a2), (3, .int l3_1), (4, .long l4_1)] [] M (L_X7_cutNumber_5 kE46 a2 N a0 M n l3_1 l4_1) := by
  intro n
  induction n with
  | zero => intro l3_1 l4_1; exact c_none
  | succ n ih =>
    intro l3_1 l4_1
    rw [L_X7_cutNumber_5]
    refine c_iload_n G dX7_cutNumber_5 rfl 3 rfl ?_
    refine c_iload_n G dX7_cutNumber_6 rfl 2 rfl ?_
    refine c_icmp_ge (tgt := 46) G dX7_cutNumber_7 (by decide) (fun _ => ?_) (fun _ => ?_)
    · skip
      exact c_weak _ [0, 1, 3, 4] rfl (hE46 l3_1 l4_1)
    · skip
      refine c_aload_n G dX7_cutNumber_10 rfl 0 rfl ?_
      refine c_iload_n G dX7_cutNumber_11 rfl 3 rfl ?_
      refine c_callV_PI (d := 0) (rest := []) G [.int l3_1] yv_X7_byteAt ml_X7_39 (by omega) (by decide) rfl rfl (Nat.le_of_ble_eq_true rfl) h_a0 (fun q hq => con_X7_byteAt h_a0 hq) dX7_cutNumber_12 (fun q1 _ => ?_)
      refine c_callS_PI (d := 0) (rest := []) G [.int q1] ys_X7_isDigit ml_X7_97 (by omega) (by decide) rfl rfl (Nat.le_of_ble_eq_true rfl) (fun q hq => con_X7_isDigit hq) dX7_cutNumber_15 (fun q2 _ => ?_)
      refine c_if_eq (tgt := 46) G dX7_cutNumber_18 (by decide) (fun _ => ?_) (fun _ => ?_)
      · skip
        exact c_weak _ [0, 1, 3, 4] rfl (hE46 l3_1 l4_1)
      · skip
        refine c_ldc2 G (lN 10) kC_X7_110 kW_10 dX7_cutNumber_21 ?_
        refine c_lload G dX7_cutNumber_24 4 rfl ?_
        refine c_lmul G dX7_cutNumber_26 ?_
        refine c_aload_n G dX7_cutNumber_27 rfl 0 rfl ?_
        refine c_iload_n G dX7_cutNumber_28 rfl 3 rfl ?_
        refine c_callV_PI (d := 0) (rest := [.long ((lN 10) * l4_1)]) G [.int l3_1] yv_X7_byteAt ml_X7_39 (by omega) (by decide) rfl rfl (Nat.le_of_ble_eq_true rfl) h_a0 (fun q hq => con_X7_byteAt h_a0 hq) dX7_cutNumber_29 (fun q3 _ => ?_)
        refine c_i2l G dX7_cutNumber_32 ?_
        refine c_ladd G dX7_cutNumber_33 ?_
        refine c_ldc2 G (lN 48) kC_X7_112 kW_48 dX7_cutNumber_34 ?_
        refine c_lsub G dX7_cutNumber_37 ?_
        refine c_letl (fun l4_2 _ => ?_)
        refine c_lstore G [(4, .long l4_2), (0, .ref (wB w + pz (a0))), (1, .int a1), (2, .int a2), (3, .int l3_1)] dX7_cutNumber_38 (by decide) rfl ?_
        refine c_iinc G (fun y__ => [(3, .int y__), (4, .long l4_2), (0, .ref (wB w + pz (a0))), (1, .int a1), (2, .int a2)]) dX7_cutNumber_40 4 rfl kI_1 (by decide) (fun _ => rfl) (fun l3_2 _ => ?_)
        refine c_goto (tgt := 5) G dX7_cutNumber_43 (by decide) ?_
        exact c_weak _ [2, 3, 4, 0, 1] rfl (ih l3_2 l4_2)
set_option maxHeartbeats 4000000 in
set_option maxRecDepth 100000 in
theorem con_X7_cutNumber {w : Wp} {N : Nat} {a0 : Nat} {a1 : Int32} {a2 : Int32} {M : Mm} {q : Int32 × Mm} (h_a0 : lay a0 = (5, 7)) (hq : D_X7_cutNumber N a0 a1 a2 M = some q) : Con w 1 yX7_cutNumber cX7_cutNumber 6 (some .int) [.ref (wB w + pz (a0)), .int a1, .int a2] M (encI q) := by
  refine Con.of encI q _ hq (by decide) (Nat.le_of_ble_eq_true rfl) ?_
  intro X G Q hQ
  have G : Good w X cX7_cutNumber 6 RX7 (some .int) 1 := G
  refine c_weak [(0, .ref (wB w + pz (a0))), (1, .int a1), (2, .int a2)] [0, 1, 2] rfl ?_
  rw [D_X7_cutNumber]
  refine c_iload_n G dX7_cutNumber_0 rfl 1 rfl ?_
  refine c_istore_n G [(3, .int a1), (0, .ref (wB w + pz (a0))), (1, .int a1), (2, .int a2)] dX7_cutNumber_1 rfl (by decide) rfl ?_
  refine c_lconst G (lN 0) dX7_cutNumber_2 kL_0 ?_
  refine c_lstore G [(4, .long (lN 0)), (3, .int a1), (0, .ref (wB w + pz (a0))), (1, .int a1), (2, .int a2)] dX7_cutNumber_3 (by decide) rfl ?_
  refine c_weak _ [2, 3, 4, 1, 0] rfl (cl_X7_cutNumber_5 G hQ _ h_a0 ?_ N a1 (lN 0))
  · intro l3_3 l4_3
    refine c_aload_n G dX7_cutNumber_46 rfl 0 rfl ?_
    refine c_iload_n G dX7_cutNumber_47 rfl 2 rfl ?_
    refine c_iload_n G dX7_cutNumber_48 rfl 1 rfl ?_
    refine c_isub G dX7_cutNumber_49 ?_
    refine c_iconst G (nI 4) dX7_cutNumber_50 kI_4 ?_
    refine c_icmp_le (tgt := 58) G dX7_cutNumber_51 (by decide) (fun _ => ?_) (fun _ => ?_)
    · skip
      refine c_iconst G (nI 2) dX7_cutNumber_58 kI_2 ?_
      refine c_iload_n G dX7_cutNumber_59 rfl 1 rfl ?_
      refine c_lload G dX7_cutNumber_60 3 rfl ?_
      refine c_callV_V (d := 0) (rest := []) G [.int (nI 2), .int a1, .long l4_3] yv_X7_add ml_X7_51 (by omega) (by decide) rfl rfl (Nat.le_of_ble_eq_true rfl) h_a0 (fun q hq => con_X7_add h_a0 hq) dX7_cutNumber_62 (fun M1 _ => ?_)
      refine c_iload_n G dX7_cutNumber_65 rfl 2 rfl ?_
      exact c_iret G hQ dX7_cutNumber_66
    · skip
      refine c_iconst G (nI 4) dX7_cutNumber_54 kI_4 ?_
      refine c_goto (tgt := 59) G dX7_cutNumber_55 (by decide) ?_
      refine c_iload_n G dX7_cutNumber_59 rfl 1 rfl ?_
      refine c_lload G dX7_cutNumber_60 3 rfl ?_
      refine c_callV_V (d := 0) (rest := []) G [.int (nI 4), .int a1, .long l4_3] yv_X7_add ml_X7_51 (by omega) (by decide) rfl rfl (Nat.le_of_ble_eq_true rfl) h_a0 (fun q hq => con_X7_add h_a0 hq) dX7_cutNumber_62 (fun M2 _ => ?_)
      refine c_iload_n G dX7_cutNumber_65 rfl 2 rfl ?_
      exact c_iret G hQ dX7_cutNumber_66
set_option maxHeartbeats 4000000 in
set_option maxRecDepth 100000 in
theorem con_X7_isSign {w : Wp} {N : Nat} {a0 : Int32} {M : Mm} {q : Int32} (hq : D_X7_isSign N a0 M = some q) : Con w 0 yX7_isSign cX7_isSign 1 (some .boolean) [.int a0] M ((encPI M) q) := by
  refine Con.of (encPI M) q _ hq (by decide) (Nat.le_of_ble_eq_true rfl) ?_
  intro X G Q hQ
  have G : Good w X cX7_isSign 1 RX7 (some .boolean) 0 := G
  refine c_weak [(0, .int a0)] [0] rfl ?_
  rw [D_X7_isSign]
  refine c_iload_n G dX7_isSign_0 rfl 0 rfl ?_
  refine c_lsw (off := 115) (tgt := 116) G (nI 38) dX7_isSign_1 (by decide +kernel) (by decide +kernel) (by decide) (fun _ => ?_) (fun hn38 => ?_)
  · skip
    refine c_iconst G (nI 1) dX7_isSign_116 kI_1 ?_
    exact c_zretP G hQ dX7_isSign_117
  · skip
    refine c_lsw (off := 115) (tgt := 116) G (nI 40) dX7_isSign_1 (by decide +kernel) (by decide +kernel) (by decide) (fun _ => ?_) (fun hn40 => ?_)
    · skip
      refine c_iconst G (nI 1) dX7_isSign_116 kI_1 ?_
      exact c_zretP G hQ dX7_isSign_117
    · skip
      refine c_lsw (off := 115) (tgt := 116) G (nI 41) dX7_isSign_1 (by decide +kernel) (by decide +kernel) (by decide) (fun _ => ?_) (fun hn41 => ?_)
      · skip
        refine c_iconst G (nI 1) dX7_isSign_116 kI_1 ?_
        exact c_zretP G hQ dX7_isSign_117
      · skip
        refine c_lsw (off := 115) (tgt := 116) G (nI 42) dX7_isSign_1 (by decide +kernel) (by decide +kernel) (by decide) (fun _ => ?_) (fun hn42 => ?_)
        · skip
          refine c_iconst G (nI 1) dX7_isSign_116 kI_1 ?_
          exact c_zretP G hQ dX7_isSign_117
        · skip
          refine c_lsw (off := 115) (tgt := 116) G (nI 43) dX7_isSign_1 (by decide +kernel) (by decide +kernel) (by decide) (fun _ => ?_) (fun hn43 => ?_)
          · skip
            refine c_iconst G (nI 1) dX7_isSign_116 kI_1 ?_
            exact c_zretP G hQ dX7_isSign_117
          · skip
            refine c_lsw (off := 115) (tgt := 116) G (nI 44) dX7_isSign_1 (by decide +kernel) (by decide +kernel) (by decide) (fun _ => ?_) (fun hn44 => ?_)
            · skip
              refine c_iconst G (nI 1) dX7_isSign_116 kI_1 ?_
              exact c_zretP G hQ dX7_isSign_117
            · skip
              refine c_lsw (off := 115) (tgt := 116) G (nI 45) dX7_isSign_1 (by decide +kernel) (by decide +kernel) (by decide) (fun _ => ?_) (fun hn45 => ?_)
              · skip
                refine c_iconst G (nI 1) dX7_isSign_116 kI_1 ?_
                exact c_zretP G hQ dX7_isSign_117
              · skip
                refine c_lsw (off := 115) (tgt := 116) G (nI 46) dX7_isSign_1 (by decide +kernel) (by decide +kernel) (by decide) (fun _ => ?_) (fun hn46 => ?_)
                · skip
                  refine c_iconst G (nI 1) dX7_isSign_116 kI_1 ?_
                  exact c_zretP G hQ dX7_isSign_117
                · skip
                  refine c_lsw (off := 115) (tgt := 116) G (nI 58) dX7_isSign_1 (by decide +kernel) (by decide +kernel) (by decide) (fun _ => ?_) (fun hn58 => ?_)
                  · skip
                    refine c_iconst G (nI 1) dX7_isSign_116 kI_1 ?_
                    exact c_zretP G hQ dX7_isSign_117
                  · skip
                    refine c_lsw (off := 115) (tgt := 116) G (nI 59) dX7_isSign_1 (by decide +kernel) (by decide +kernel) (by decide) (fun _ => ?_) (fun hn59 => ?_)
                    · skip
                      refine c_iconst G (nI 1) dX7_isSign_116 kI_1 ?_
                      exact c_zretP G hQ dX7_isSign_117
                    · skip
                      refine c_lsw (off := 115) (tgt := 116) G (nI 60) dX7_isSign_1 (by decide +kernel) (by decide +kernel) (by decide) (fun _ => ?_) (fun hn60 => ?_)
                      · skip
                        refine c_iconst G (nI 1) dX7_isSign_116 kI_1 ?_
                        exact c_zretP G hQ dX7_isSign_117
                      · skip
                        refine c_lsw (off := 115) (tgt := 116) G (nI 61) dX7_isSign_1 (by decide +kernel) (by decide +kernel) (by decide) (fun _ => ?_) (fun hn61 => ?_)
                        · skip
                          refine c_iconst G (nI 1) dX7_isSign_116 kI_1 ?_
                          exact c_zretP G hQ dX7_isSign_117
                        · skip
                          refine c_lsw (off := 115) (tgt := 116) G (nI 124) dX7_isSign_1 (by decide +kernel) (by decide +kernel) (by decide) (fun _ => ?_) (fun hn124 => ?_)
                          · skip
                            refine c_iconst G (nI 1) dX7_isSign_116 kI_1 ?_
                            exact c_zretP G hQ dX7_isSign_117
                          · skip
                            refine c_lswD (tgt := 118) G dX7_isSign_1 (by decide +kernel) (by show Op.lookupswitch.offset [(38, 115), (40, 115), (41, 115), (42, 115), (43, 115), (44, 115), (45, 115), (46, 115), (58, 115), (59, 115), (60, 115), (61, 115), (124, 115)] _ _ = _; rw [lv_osw hn38 (show (nI 38).toInt = 38 by decide +kernel), lv_osw hn40 (show (nI 40).toInt = 40 by decide +kernel), lv_osw hn41 (show (nI 41).toInt = 41 by decide +kernel), lv_osw hn42 (show (nI 42).toInt = 42 by decide +kernel), lv_osw hn43 (show (nI 43).toInt = 43 by decide +kernel), lv_osw hn44 (show (nI 44).toInt = 44 by decide +kernel), lv_osw hn45 (show (nI 45).toInt = 45 by decide +kernel), lv_osw hn46 (show (nI 46).toInt = 46 by decide +kernel), lv_osw hn58 (show (nI 58).toInt = 58 by decide +kernel), lv_osw hn59 (show (nI 59).toInt = 59 by decide +kernel), lv_osw hn60 (show (nI 60).toInt = 60 by decide +kernel), lv_osw hn61 (show (nI 61).toInt = 61 by decide +kernel), lv_osw hn124 (show (nI 124).toInt = 124 by decide +kernel)]; rfl) (by decide) ?_
                            refine c_iconst G (nI 0) dX7_isSign_118 kI_0 ?_
                            exact c_zretP G hQ dX7_isSign_119
set_option maxHeartbeats 4000000 in
set_option maxRecDepth 100000 in
theorem con_X7_cut {w : Wp} {N : Nat} {a0 : Nat} {a1 : Int32} {a2 : Int32} {M : Mm} {q : Int32 × Mm} (h_a0 : lay a0 = (5, 7)) (hq : D_X7_cut N a0 a1 a2 M = some q) : Con w 2 yX7_cut cX7_cut 4 (some .int) [.ref (wB w + pz (a0)), .int a1, .int a2] M (encI q) := by
  refine Con.of encI q _ hq (by decide) (Nat.le_of_ble_eq_true rfl) ?_
  intro X G Q hQ
  have G : Good w X cX7_cut 4 RX7 (some .int) 2 := G
  refine c_weak [(0, .ref (wB w + pz (a0))), (1, .int a1), (2, .int a2)] [0, 1, 2] rfl ?_
  rw [D_X7_cut]
  refine c_aload_n G dX7_cut_0 rfl 0 rfl ?_
  refine c_iload_n G dX7_cut_1 rfl 1 rfl ?_
  refine c_callV_PI (d := 0) (rest := []) G [.int a1] yv_X7_byteAt ml_X7_39 (by omega) (by decide) rfl rfl (Nat.le_of_ble_eq_true rfl) h_a0 (fun q hq => con_X7_byteAt h_a0 hq) dX7_cut_2 (fun q1 _ => ?_)
  refine c_istore_n G [(3, .int q1), (0, .ref (wB w + pz (a0))), (1, .int a1), (2, .int a2)] dX7_cut_5 rfl (by decide) rfl ?_
  refine c_iload_n G dX7_cut_6 rfl 0 rfl ?_
  refine c_callS_PI (d := 0) (rest := []) G [.int q1] ys_X7_isLetter ml_X7_91 (by omega) (by decide) rfl rfl (Nat.le_of_ble_eq_true rfl) (fun q hq => con_X7_isLetter hq) dX7_cut_7 (fun q2 _ => ?_)
  refine c_if_eq (tgt := 20) G dX7_cut_10 (by decide) (fun _ => ?_) (fun _ => ?_)
  · skip
    refine c_iload_n G dX7_cut_20 rfl 0 rfl ?_
    refine c_callS_PI (d := 0) (rest := []) G [.int q1] ys_X7_isDigit ml_X7_97 (by omega) (by decide) rfl rfl (Nat.le_of_ble_eq_true rfl) (fun q hq => con_X7_isDigit hq) dX7_cut_21 (fun q3 _ => ?_)
    refine c_if_eq (tgt := 34) G dX7_cut_24 (by decide) (fun _ => ?_) (fun _ => ?_)
    · skip
      refine c_aload_n G dX7_cut_34 rfl 1 rfl ?_
      refine c_iload_n G dX7_cut_35 rfl 0 rfl ?_
      refine c_callS_PI (d := 0) (rest := [.ref (wB w + pz (a0))]) G [.int q1] ys_X7_isSign ml_X7_103 (by omega) (by decide) rfl rfl (Nat.le_of_ble_eq_true rfl) (fun q hq => con_X7_isSign hq) dX7_cut_36 (fun q4 _ => ?_)
      refine c_bj (ej := fun (p47 : Int32) => [(1, .int a1), (3, .int q1)]) (sj := fun p47 => [.int p47, .ref (wB w + pz (a0))]) (mj := fun p47 => M) (pj := 47) (fun p47 => ?_) (fun F hJ47 => ?_)
      · skip
        refine c_iload_n G dX7_cut_47 rfl 0 rfl ?_
        refine c_iload_n G dX7_cut_48 rfl 1 rfl ?_
        refine c_i2l G dX7_cut_49 ?_
        refine c_callV_V (d := 0) (rest := []) G [.int p47, .int a1, .long ((q1).toInt64)] yv_X7_add ml_X7_51 (by omega) (by decide) rfl rfl (Nat.le_of_ble_eq_true rfl) h_a0 (fun q hq => con_X7_add h_a0 hq) dX7_cut_50 (fun M1 _ => ?_)
        refine c_iload_n G dX7_cut_53 rfl 0 rfl ?_
        refine c_iconst G (nI 1) dX7_cut_54 kI_1 ?_
        refine c_iadd G dX7_cut_55 ?_
        exact c_iret G hQ dX7_cut_56
      · skip
        refine c_if_eq (tgt := 46) G dX7_cut_39 (by decide) (fun _ => ?_) (fun _ => ?_)
        · skip
          refine c_iconst G (nI 4) dX7_cut_46 kI_4 ?_
          exact c_weak _ [2, 0] rfl (hJ47 (nI 4))
        · skip
          refine c_iconst G (nI 3) dX7_cut_42 kI_3 ?_
          refine c_goto (tgt := 47) G dX7_cut_43 (by decide) ?_
          exact c_weak _ [2, 0] rfl (hJ47 (nI 3))
    · skip
      refine c_aload_n G dX7_cut_27 rfl 1 rfl ?_
      refine c_iload_n G dX7_cut_28 rfl 2 rfl ?_
      refine c_iload_n G dX7_cut_29 rfl 3 rfl ?_
      refine c_callV_I (d := 1) (rest := []) G [.int a1, .int a2] yv_X7_cutNumber ml_X7_100 (by omega) (by decide) rfl rfl (Nat.le_of_ble_eq_true rfl) h_a0 (fun q hq => con_X7_cutNumber h_a0 hq) dX7_cut_30 (fun q5 _ => ?_)
      exact c_iret G hQ dX7_cut_33
  · skip
    refine c_aload_n G dX7_cut_13 rfl 1 rfl ?_
    refine c_iload_n G dX7_cut_14 rfl 2 rfl ?_
    refine c_iload_n G dX7_cut_15 rfl 3 rfl ?_
    refine c_callV_I (d := 1) (rest := []) G [.int a1, .int a2] yv_X7_cutWord ml_X7_94 (by omega) (by decide) rfl rfl (Nat.le_of_ble_eq_true rfl) h_a0 (fun q hq => con_X7_cutWord h_a0 hq) dX7_cut_16 (fun q6 _ => ?_)
    exact c_iret G hQ dX7_cut_19
set_option maxHeartbeats 4000000 in
set_option maxRecDepth 100000 in
theorem con_X7_advance {w : Wp} {N : Nat} {a0 : Nat} {M : Mm} {q : Mm} (h_a0 : lay a0 = (5, 7)) (hq : D_X7_advance N a0 M = some q) : Con w 0 yX7_advance cX7_advance 1 none [.ref (wB w + pz (a0))] M (encV q) := by
  refine Con.of encV q _ hq (by decide) (Nat.le_of_ble_eq_true rfl) ?_
  intro X G Q hQ
  have G : Good w X cX7_advance 1 RX7 none 0 := G
  refine c_weak [(0, .ref (wB w + pz (a0)))] [0] rfl ?_
  rw [D_X7_advance]
  refine c_aload_n G dX7_advance_0 rfl 0 rfl ?_
  refine c_getI G fl_X7_55 h_a0 rfl dX7_advance_1 ?_
  refine c_iconst G (nI 1) dX7_advance_4 kI_1 ?_
  refine c_iadd G dX7_advance_5 ?_
  refine c_aload_n G dX7_advance_6 rfl 0 rfl ?_
  refine c_getI G fl_X7_30 h_a0 rfl dX7_advance_7 ?_
  refine c_bj (ej := fun (p23 : Mm) => [(0, .ref (wB w + pz (a0)))]) (sj := fun p23 => []) (mj := fun p23 => p23) (pj := 23) (fun p23 => ?_) (fun F hJ23 => ?_)
  · skip
    refine c_aload_n G dX7_advance_23 rfl 0 rfl ?_
    refine c_aload_n G dX7_advance_24 rfl 0 rfl ?_
    refine c_getF G fl_X7_15 h_a0 rfl dX7_advance_25 ?_
    refine c_aload_n G dX7_advance_28 rfl 0 rfl ?_
    refine c_getI G fl_X7_55 h_a0 rfl dX7_advance_29 ?_
    refine c_iald G (lf h_a0 1 rfl) dX7_advance_32 (fun v1 _ => ?_)
    refine c_putI G fp_X7_61 h_a0 rfl dX7_advance_33 (fun M2 _ => ?_)
    refine c_aload_n G dX7_advance_36 rfl 0 rfl ?_
    refine c_aload_n G dX7_advance_37 rfl 0 rfl ?_
    refine c_getF G fl_X7_22 h_a0 rfl dX7_advance_38 ?_
    refine c_aload_n G dX7_advance_41 rfl 0 rfl ?_
    refine c_getI G fl_X7_55 h_a0 rfl dX7_advance_42 ?_
    refine c_lald G (lf h_a0 3 rfl) dX7_advance_45 (fun v2 _ => ?_)
    refine c_putJ G fp_X7_64 h_a0 rfl dX7_advance_46 (fun M3 _ => ?_)
    exact c_vret G hQ dX7_advance_49
  · skip
    refine c_icmp_ge (tgt := 23) G dX7_advance_10 (by decide) (fun _ => ?_) (fun _ => ?_)
    · skip
      exact c_weak _ [0] rfl (hJ23 M)
    · skip
      refine c_aload_n G dX7_advance_13 rfl 0 rfl ?_
      refine c_dup G dX7_advance_14 rfl ?_
      refine c_getI G fl_X7_55 h_a0 rfl dX7_advance_15 ?_
      refine c_iconst G (nI 1) dX7_advance_18 kI_1 ?_
      refine c_iadd G dX7_advance_19 ?_
      refine c_putI G fp_X7_55 h_a0 rfl dX7_advance_20 (fun M4 _ => ?_)
      exact c_weak _ [0] rfl (hJ23 M4)
set_option maxHeartbeats 4000000 in
set_option maxRecDepth 100000 in
theorem cl_X7_begin_24 {w : Wp} {X : Cx} {Q : State → Prop} {ρ : Mm} (G : Good w X cX7_begin 4 RX7 none 3) (hQ : Q = MQ (xL X) (Qd w (encV ρ)) (xA X) (xS X) (xk X) (xs X) (Aw w)) (kE58 : Mm → Option (Mm)) {a1 : Int32} {N : Nat} {a0 : Nat} (h_a0 : lay a0 = (5, 7)) (hE58 : ∀ (Mz : Mm), Cov w X Q ρ some 4 58 [(0, .ref (wB w + pz (a0))), (1, .int a1)] [] Mz (kE58 Mz)) : ∀ (n : Nat) (l2_1 : Int32) (l3_1 : Int32) (M5 : Mm), Cov w X Q ρ some 4 24 [(0, .ref (wB w + pz (a0))), (1, .int a1), (2, .int l2_1), (3, .int l3_1)] [] M5 (L_X7_begin_24 kE58 a1 N a0 n l2_1 l3_1 M5) := by
  intro n
  induction n with
  | zero => intro l2_1 l3_1 M5; exact c_none
  | succ n ih =>
    intro l2_1 l3_1 M5
    rw [L_X7_begin_24]
    refine c_iload_n G dX7_begin_24 rfl 3 rfl ?_
    refine c_iload_n G dX7_begin_25 rfl 1 rfl ?_
    refine c_icmp_ge (tgt := 58) G dX7_begin_26 (by decide) (fun _ => ?_) (fun _ => ?_)
    · skip
      exact c_weak _ [0, 1] rfl (hE58 M5)
    · skip
      refine c_iload_n G dX7_begin_29 rfl 3 rfl ?_
      refine c_iload_n G dX7_begin_30 rfl 2 rfl ?_
      refine c_icmp_lt (tgt := 52) G dX7_begin_31 (by decide) (fun _ => ?_) (fun _ => ?_)
      · skip
        refine c_iinc G (fun y__ => [(3, .int y__), (0, .ref (wB w + pz (a0))), (1, .int a1), (2, .int l2_1)]) dX7_begin_52 3 rfl kI_1 (by decide) (fun _ => rfl) (fun l3_2 _ => ?_)
        refine c_goto (tgt := 24) G dX7_begin_55 (by decide) ?_
        exact c_weak _ [1, 2, 3, 0] rfl (ih l2_1 l3_2 M5)
      · skip
        refine c_aload_n G dX7_begin_34 rfl 0 rfl ?_
        refine c_iload_n G dX7_begin_35 rfl 3 rfl ?_
        refine c_callV_PI (d := 0) (rest := []) G [.int l3_1] yv_X7_byteAt ml_X7_39 (by omega) (by decide) rfl rfl (Nat.le_of_ble_eq_true rfl) h_a0 (fun q hq => con_X7_byteAt h_a0 hq) dX7_begin_36 (fun q1 _ => ?_)
        refine c_callS_PI (d := 0) (rest := []) G [.int q1] ys_X7_isBlank ml_X7_43 (by omega) (by decide) rfl rfl (Nat.le_of_ble_eq_true rfl) (fun q hq => con_X7_isBlank hq) dX7_begin_39 (fun q2 _ => ?_)
        refine c_if_ne (tgt := 52) G dX7_begin_42 (by decide) (fun _ => ?_) (fun _ => ?_)
        · skip
          refine c_aload_n G dX7_begin_45 rfl 0 rfl ?_
          refine c_iload_n G dX7_begin_46 rfl 3 rfl ?_
          refine c_iload_n G dX7_begin_47 rfl 1 rfl ?_
          refine c_callV_I (d := 2) (rest := []) G [.int l3_1, .int a1] yv_X7_cut ml_X7_47 (by omega) (by decide) rfl rfl (Nat.le_of_ble_eq_true rfl) h_a0 (fun q hq => con_X7_cut h_a0 hq) dX7_begin_48 (fun q3 _ => ?_)
          refine c_istore_n G [(2, .int q3.1), (0, .ref (wB w + pz (a0))), (1, .int a1), (3, .int l3_1)] dX7_begin_51 rfl (by decide) rfl ?_
          refine c_iinc G (fun y__ => [(3, .int y__), (2, .int q3.1), (0, .ref (wB w + pz (a0))), (1, .int a1)]) dX7_begin_52 3 rfl kI_1 (by decide) (fun _ => rfl) (fun l3_3 _ => ?_)
          refine c_goto (tgt := 24) G dX7_begin_55 (by decide) ?_
          exact c_weak _ [2, 3, 1, 0] rfl (ih q3.1 l3_3 q3.2)
        · skip
          refine c_iinc G (fun y__ => [(3, .int y__), (0, .ref (wB w + pz (a0))), (1, .int a1), (2, .int l2_1)]) dX7_begin_52 3 rfl kI_1 (by decide) (fun _ => rfl) (fun l3_4 _ => ?_)
          refine c_goto (tgt := 24) G dX7_begin_55 (by decide) ?_
          exact c_weak _ [1, 2, 3, 0] rfl (ih l2_1 l3_4 M5)
set_option maxHeartbeats 4000000 in
set_option maxRecDepth 100000 in
theorem con_X7_begin {w : Wp} {N : Nat} {a0 : Nat} {a1 : Int32} {M : Mm} {q : Mm} (h_a0 : lay a0 = (5, 7)) (hq : D_X7_begin N a0 a1 M = some q) : Con w 3 yX7_begin cX7_begin 4 none [.ref (wB w + pz (a0)), .int a1] M (encV q) := by
  refine Con.of encV q _ hq (by decide) (Nat.le_of_ble_eq_true rfl) ?_
  intro X G Q hQ
  have G : Good w X cX7_begin 4 RX7 none 3 := G
  refine c_weak [(0, .ref (wB w + pz (a0))), (1, .int a1)] [0, 1] rfl ?_
  rw [D_X7_begin]
  refine c_aload_n G dX7_begin_0 rfl 0 rfl ?_
  refine c_iconst G (nI 0) dX7_begin_1 kI_0 ?_
  refine c_putI G fp_X7_26 h_a0 rfl dX7_begin_2 (fun M1 _ => ?_)
  refine c_aload_n G dX7_begin_5 rfl 0 rfl ?_
  refine c_iconst G (nI 0) dX7_begin_6 kI_0 ?_
  refine c_putI G fp_X7_30 h_a0 rfl dX7_begin_7 (fun M2 _ => ?_)
  refine c_aload_n G dX7_begin_10 rfl 0 rfl ?_
  refine c_iconst G (nI 0) dX7_begin_11 kI_0 ?_
  refine c_putI G fp_X7_33 h_a0 rfl dX7_begin_12 (fun M3 _ => ?_)
  refine c_aload_n G dX7_begin_15 rfl 0 rfl ?_
  refine c_iconst G m1 dX7_begin_16 kI_m1 ?_
  refine c_putI G fp_X7_36 h_a0 rfl dX7_begin_17 (fun M4 _ => ?_)
  refine c_iconst G (nI 0) dX7_begin_20 kI_0 ?_
  refine c_istore_n G [(2, .int (nI 0)), (0, .ref (wB w + pz (a0))), (1, .int a1)] dX7_begin_21 rfl (by decide) rfl ?_
  refine c_iconst G (nI 0) dX7_begin_22 kI_0 ?_
  refine c_istore_n G [(3, .int (nI 0)), (2, .int (nI 0)), (0, .ref (wB w + pz (a0))), (1, .int a1)] dX7_begin_23 rfl (by decide) rfl ?_
  refine c_weak _ [2, 3, 1, 0] rfl (cl_X7_begin_24 G hQ _ h_a0 ?_ N (nI 0) (nI 0) M4)
  · intro M6
    refine c_aload_n G dX7_begin_58 rfl 0 rfl ?_
    refine c_iconst G (nI 0) dX7_begin_59 kI_0 ?_
    refine c_iload_n G dX7_begin_60 rfl 1 rfl ?_
    refine c_lconst G (lN 0) dX7_begin_61 kL_0 ?_
    refine c_callV_V (d := 0) (rest := []) G [.int (nI 0), .int a1, .long (lN 0)] yv_X7_add ml_X7_51 (by omega) (by decide) rfl rfl (Nat.le_of_ble_eq_true rfl) h_a0 (fun q hq => con_X7_add h_a0 hq) dX7_begin_62 (fun M7 _ => ?_)
    refine c_aload_n G dX7_begin_65 rfl 0 rfl ?_
    refine c_iconst G m1 dX7_begin_66 kI_m1 ?_
    refine c_putI G fp_X7_55 h_a0 rfl dX7_begin_67 (fun M8 _ => ?_)
    refine c_aload_n G dX7_begin_70 rfl 0 rfl ?_
    refine c_callV_V (d := 0) (rest := []) G [] yv_X7_advance ml_X7_58 (by omega) (by decide) rfl rfl (Nat.le_of_ble_eq_true rfl) h_a0 (fun q hq => con_X7_advance h_a0 hq) dX7_begin_71 (fun M9 _ => ?_)
    exact c_vret G hQ dX7_begin_74
set_option maxHeartbeats 4000000 in
set_option maxRecDepth 100000 in
theorem cl_J7_fill_53178_5 {w : Wp} {X : Cx} {Q : State → Prop} {ρ : Mm} (G : Good w X cJ7_fill_53178 4 RJ7 none 0) (hQ : Q = MQ (xL X) (Qd w (encV ρ)) (xA X) (xS X) (xk X) (xs X) (Aw w)) {l3_1 : Int32} {a0 : Nat} {a1 : Int32} (h_a0 : lay a0 = (1, len a0)) : ∀ (n : Nat) (l2_1 : Int32) (M1 : Mm), Cov w X Q ρ some 4 5 [(0, .ref (wB w + pz (a0))), (1, .int a1), (2, .int l2_1), (3, .int l3_1)] [] M1 (L_J7_fill_53178_5 l3_1 a0 a1 n l2_1 M1) := by
  intro n
  induction n with
  | zero => intro l2_1 M1; exact c_none
  | succ n ih =>
    intro l2_1 M1
    rw [L_J7_fill_53178_5]
    refine c_iload_n G dJ7_fill_53178_5 rfl 2 rfl ?_
    refine c_iload_n G dJ7_fill_53178_6 rfl 3 rfl ?_
    refine c_icmp_ge (tgt := 20) G dJ7_fill_53178_7 (by decide) (fun _ => ?_) (fun _ => ?_)
    · skip
      exact c_vret G hQ dJ7_fill_53178_20
    · skip
      refine c_aload_n G dJ7_fill_53178_10 rfl 0 rfl ?_
      refine c_iload_n G dJ7_fill_53178_11 rfl 2 rfl ?_
      refine c_iload_n G dJ7_fill_53178_12 rfl 1 rfl ?_
      refine c_iast G h_a0 dJ7_fill_53178_13 (fun M2 _ => ?_)
      refine c_iinc G (fun y__ => [(2, .int y__), (0, .ref (wB w + pz (a0))), (1, .int a1), (3, .int l3_1)]) dJ7_fill_53178_14 2 rfl kI_1 (by decide) (fun _ => rfl) (fun l2_2 _ => ?_)
      refine c_goto (tgt := 5) G dJ7_fill_53178_17 (by decide) ?_
      exact c_weak _ [1, 2, 0, 3] rfl (ih l2_2 M2)
set_option maxHeartbeats 4000000 in
set_option maxRecDepth 100000 in
theorem con_J7_fill_53178 {w : Wp} {N : Nat} {a0 : Nat} {a1 : Int32} {M : Mm} {q : Mm} (h_a0 : lay a0 = (1, len a0)) (hq : D_J7_fill_53178 N a0 a1 M = some q) : Con w 0 yJ7_fill_53178 cJ7_fill_53178 4 none [.ref (wB w + pz (a0)), .int a1] M (encV q) := by
  refine Con.of encV q _ hq (by decide) (Nat.le_of_ble_eq_true rfl) ?_
  intro X G Q hQ
  have G : Good w X cJ7_fill_53178 4 RJ7 none 0 := G
  refine c_weak [(0, .ref (wB w + pz (a0))), (1, .int a1)] [0, 1] rfl ?_
  rw [D_J7_fill_53178]
  refine c_iconst G (nI 0) dJ7_fill_53178_0 kI_0 ?_
  refine c_istore_n G [(2, .int (nI 0)), (0, .ref (wB w + pz (a0))), (1, .int a1)] dJ7_fill_53178_1 rfl (by decide) rfl ?_
  refine c_aload_n G dJ7_fill_53178_2 rfl 1 rfl ?_
  refine c_alenI G (Int32.ofNat (len a0)) h_a0 (by decide) rfl dJ7_fill_53178_3 ?_
  refine c_let (fun l3_1 _ => ?_)
  refine c_istore_n G [(3, .int l3_1), (2, .int (nI 0)), (0, .ref (wB w + pz (a0))), (1, .int a1)] dJ7_fill_53178_4 rfl (by decide) rfl ?_
  refine c_weak _ [2, 3, 1, 0] rfl (cl_J7_fill_53178_5 G hQ  h_a0 N (nI 0) M)
set_option maxHeartbeats 4000000 in
set_option maxRecDepth 100000 in
theorem con_X1_clear {w : Wp} {N : Nat} {a0 : Nat} {M : Mm} {q : Mm} (h_a0 : lay a0 = (5, 1)) (hq : D_X1_clear N a0 M = some q) : Con w 1 yX1_clear cX1_clear 1 none [.ref (wB w + pz (a0))] M (encV q) := by
  refine Con.of encV q _ hq (by decide) (Nat.le_of_ble_eq_true rfl) ?_
  intro X G Q hQ
  have G : Good w X cX1_clear 1 RX1 none 1 := G
  refine c_weak [(0, .ref (wB w + pz (a0)))] [0] rfl ?_
  rw [D_X1_clear]
  refine c_aload_n G dX1_clear_0 rfl 0 rfl ?_
  refine c_iconst G (nI 0) dX1_clear_1 kI_0 ?_
  refine c_putI G fp_X1_61 h_a0 rfl dX1_clear_2 (fun M1 _ => ?_)
  refine c_aload_n G dX1_clear_5 rfl 0 rfl ?_
  refine c_iconst G (nI 0) dX1_clear_6 kI_0 ?_
  refine c_putI G fp_X1_65 h_a0 rfl dX1_clear_7 (fun M2 _ => ?_)
  refine c_aload_n G dX1_clear_10 rfl 0 rfl ?_
  refine c_iconst G (nI 0) dX1_clear_11 kI_0 ?_
  refine c_putI G fp_X1_68 h_a0 rfl dX1_clear_12 (fun M3 _ => ?_)
  refine c_aload_n G dX1_clear_15 rfl 0 rfl ?_
  refine c_getF G fl_X1_46 h_a0 rfl dX1_clear_16 ?_
  refine c_iconst G (nI 0) dX1_clear_19 kI_0 ?_
  refine c_callS_V (d := 0) (rest := []) G [.ref (wB w + pz ((a0 + 12))), .int (nI 0)] ys_J7_fill_53178 ml_X1_71 (by omega) (by decide) rfl rfl (Nat.le_of_ble_eq_true rfl) (fun q hq => con_J7_fill_53178 (ll (lf h_a0 14 rfl)) hq) dX1_clear_20 (fun M4 _ => ?_)
  refine c_aload_n G dX1_clear_23 rfl 0 rfl ?_
  refine c_getF G fl_X1_49 h_a0 rfl dX1_clear_24 ?_
  refine c_iconst G (nI 0) dX1_clear_27 kI_0 ?_
  refine c_callS_V (d := 0) (rest := []) G [.ref (wB w + pz ((a0 + 13))), .int (nI 0)] ys_J7_fill_53178 ml_X1_71 (by omega) (by decide) rfl rfl (Nat.le_of_ble_eq_true rfl) (fun q hq => con_J7_fill_53178 (ll (lf h_a0 15 rfl)) hq) dX1_clear_28 (fun M5 _ => ?_)
  refine c_aload_n G dX1_clear_31 rfl 0 rfl ?_
  refine c_getF G fl_X1_52 h_a0 rfl dX1_clear_32 ?_
  refine c_iconst G (nI 0) dX1_clear_35 kI_0 ?_
  refine c_callS_V (d := 0) (rest := []) G [.ref (wB w + pz ((a0 + 14))), .int (nI 0)] ys_J7_fill_53178 ml_X1_71 (by omega) (by decide) rfl rfl (Nat.le_of_ble_eq_true rfl) (fun q hq => con_J7_fill_53178 (ll (lf h_a0 16 rfl)) hq) dX1_clear_36 (fun M6 _ => ?_)
  refine c_aload_n G dX1_clear_39 rfl 0 rfl ?_
  refine c_getF G fl_X1_55 h_a0 rfl dX1_clear_40 ?_
  refine c_iconst G (nI 0) dX1_clear_43 kI_0 ?_
  refine c_callS_V (d := 0) (rest := []) G [.ref (wB w + pz ((a0 + 15))), .int (nI 0)] ys_J7_fill_53178 ml_X1_71 (by omega) (by decide) rfl rfl (Nat.le_of_ble_eq_true rfl) (fun q hq => con_J7_fill_53178 (ll (lf h_a0 17 rfl)) hq) dX1_clear_44 (fun M7 _ => ?_)
  exact c_vret G hQ dX1_clear_47
set_option maxHeartbeats 4000000 in
set_option maxRecDepth 100000 in
theorem con_X7_isWordOf {w : Wp} {N : Nat} {a0 : Nat} {a1 : Int64} {M : Mm} {q : Int32} (h_a0 : lay a0 = (5, 7)) (hq : D_X7_isWordOf N a0 a1 M = some q) : Con w 0 yX7_isWordOf cX7_isWordOf 3 (some .boolean) [.ref (wB w + pz (a0)), .long a1] M ((encPI M) q) := by
  refine Con.of (encPI M) q _ hq (by decide) (Nat.le_of_ble_eq_true rfl) ?_
  intro X G Q hQ
  have G : Good w X cX7_isWordOf 3 RX7 (some .boolean) 0 := G
  refine c_weak [(0, .ref (wB w + pz (a0))), (1, .long a1)] [0, 1] rfl ?_
  rw [D_X7_isWordOf]
  refine c_aload_n G dX7_isWordOf_0 rfl 0 rfl ?_
  refine c_getI G fl_X7_61 h_a0 rfl dX7_isWordOf_1 ?_
  refine c_iconst G (nI 1) dX7_isWordOf_4 kI_1 ?_
  refine c_jn (ej := fun (p21 : Unit) => []) (sj := fun p21 => []) (mj := fun p21 => M) (pj := 21) (fun p21 => ?_) (fun J1 hJ21 => ?_)
  · skip
    refine c_iconst G (nI 0) dX7_isWordOf_21 kI_0 ?_
    exact c_zretP G hQ dX7_isWordOf_22
  · skip
    refine c_icmp_ne (tgt := 21) G dX7_isWordOf_5 (by decide) (fun _ => ?_) (fun _ => ?_)
    · skip
      refine c_aload_n G dX7_isWordOf_8 rfl 0 rfl ?_
      refine c_getJ G fl_X7_64 h_a0 rfl dX7_isWordOf_9 ?_
      refine c_lload_n G dX7_isWordOf_12 rfl 1 rfl ?_
      refine c_lcmp G dX7_isWordOf_13 ?_
      refine c_if_ne (tgt := 21) G dX7_isWordOf_14 (by decide) (fun _ => ?_) (fun _ => ?_)
      · skip
        refine c_iconst G (nI 1) dX7_isWordOf_17 kI_1 ?_
        refine c_goto (tgt := 22) G dX7_isWordOf_18 (by decide) ?_
        exact c_zretP G hQ dX7_isWordOf_22
      · skip
        exact c_weak _ [] rfl (hJ21 ())
    · skip
      exact c_weak _ [] rfl (hJ21 ())
set_option maxHeartbeats 4000000 in
set_option maxRecDepth 100000 in
theorem con_X7_fail {w : Wp} {N : Nat} {a0 : Nat} {a1 : Int32} {M : Mm} {q : Int32 × Mm} (h_a0 : lay a0 = (5, 7)) (hq : D_X7_fail N a0 a1 M = some q) : Con w 0 yX7_fail cX7_fail 2 (some .boolean) [.ref (wB w + pz (a0)), .int a1] M (encI q) := by
  refine Con.of encI q _ hq (by decide) (Nat.le_of_ble_eq_true rfl) ?_
  intro X G Q hQ
  have G : Good w X cX7_fail 2 RX7 (some .boolean) 0 := G
  refine c_weak [(0, .ref (wB w + pz (a0))), (1, .int a1)] [0, 1] rfl ?_
  rw [D_X7_fail]
  refine c_aload_n G dX7_fail_0 rfl 0 rfl ?_
  refine c_aload_n G dX7_fail_1 rfl 0 rfl ?_
  refine c_getI G fl_X7_61 h_a0 rfl dX7_fail_2 ?_
  refine c_iconst G (nI 4) dX7_fail_5 kI_4 ?_
  refine c_bj (ej := fun (p14 : Int32) => [(0, .ref (wB w + pz (a0)))]) (sj := fun p14 => [.int p14, .ref (wB w + pz (a0))]) (mj := fun p14 => M) (pj := 14) (fun p14 => ?_) (fun F hJ14 => ?_)
  · skip
    refine c_putI G fp_X7_33 h_a0 rfl dX7_fail_14 (fun M1 _ => ?_)
    refine c_aload_n G dX7_fail_17 rfl 0 rfl ?_
    refine c_aload_n G dX7_fail_18 rfl 0 rfl ?_
    refine c_getF G fl_X7_19 h_a0 rfl dX7_fail_19 ?_
    refine c_aload_n G dX7_fail_22 rfl 0 rfl ?_
    refine c_getI G fl_X7_55 h_a0 rfl dX7_fail_23 ?_
    refine c_iald G (lf h_a0 2 rfl) dX7_fail_26 (fun v1 _ => ?_)
    refine c_putI G fp_X7_36 h_a0 rfl dX7_fail_27 (fun M2 _ => ?_)
    refine c_iconst G (nI 0) dX7_fail_30 kI_0 ?_
    exact c_zret G hQ dX7_fail_31
  · skip
    refine c_icmp_ne (tgt := 13) G dX7_fail_6 (by decide) (fun _ => ?_) (fun _ => ?_)
    · skip
      refine c_iconst G (nI 1) dX7_fail_9 kI_1 ?_
      refine c_goto (tgt := 14) G dX7_fail_10 (by decide) ?_
      exact c_weak _ [0] rfl (hJ14 (nI 1))
    · skip
      refine c_iload_n G dX7_fail_13 rfl 1 rfl ?_
      exact c_weak _ [0] rfl (hJ14 a1)
set_option maxHeartbeats 4000000 in
set_option maxRecDepth 100000 in
theorem con_X7_isName {w : Wp} {N : Nat} {a0 : Nat} {M : Mm} {q : Int32} (h_a0 : lay a0 = (5, 7)) (hq : D_X7_isName N a0 M = some q) : Con w 0 yX7_isName cX7_isName 1 (some .boolean) [.ref (wB w + pz (a0))] M ((encPI M) q) := by
  refine Con.of (encPI M) q _ hq (by decide) (Nat.le_of_ble_eq_true rfl) ?_
  intro X G Q hQ
  have G : Good w X cX7_isName 1 RX7 (some .boolean) 0 := G
  refine c_weak [(0, .ref (wB w + pz (a0)))] [0] rfl ?_
  rw [D_X7_isName]
  refine c_aload_n G dX7_isName_0 rfl 0 rfl ?_
  refine c_getI G fl_X7_61 h_a0 rfl dX7_isName_1 ?_
  refine c_iconst G (nI 1) dX7_isName_4 kI_1 ?_
  refine c_jn (ej := fun (p111 : Unit) => []) (sj := fun p111 => []) (mj := fun p111 => M) (pj := 111) (fun p111 => ?_) (fun J1 hJ111 => ?_)
  · skip
    refine c_iconst G (nI 0) dX7_isName_111 kI_0 ?_
    exact c_zretP G hQ dX7_isName_112
  · skip
    refine c_icmp_ne (tgt := 111) G dX7_isName_5 (by decide) (fun _ => ?_) (fun _ => ?_)
    · skip
      refine c_aload_n G dX7_isName_8 rfl 0 rfl ?_
      refine c_getJ G fl_X7_64 h_a0 rfl dX7_isName_9 ?_
      refine c_ldc2 G (lN 664177132) kC_X7_68 kW_664177132 dX7_isName_12 ?_
      refine c_lcmp G dX7_isName_15 ?_
      refine c_if_eq (tgt := 111) G dX7_isName_16 (by decide) (fun _ => ?_) (fun _ => ?_)
      · skip
        exact c_weak _ [] rfl (hJ111 ())
      · skip
        refine c_aload_n G dX7_isName_19 rfl 0 rfl ?_
        refine c_getJ G fl_X7_64 h_a0 rfl dX7_isName_20 ?_
        refine c_ldc2 G (lN 543204) kC_X7_70 kW_543204 dX7_isName_23 ?_
        refine c_lcmp G dX7_isName_26 ?_
        refine c_if_eq (tgt := 111) G dX7_isName_27 (by decide) (fun _ => ?_) (fun _ => ?_)
        · skip
          exact c_weak _ [] rfl (hJ111 ())
        · skip
          refine c_aload_n G dX7_isName_30 rfl 0 rfl ?_
          refine c_getJ G fl_X7_64 h_a0 rfl dX7_isName_31 ?_
          refine c_ldc2 G (lN 611717) kC_X7_72 kW_611717 dX7_isName_34 ?_
          refine c_lcmp G dX7_isName_37 ?_
          refine c_if_eq (tgt := 111) G dX7_isName_38 (by decide) (fun _ => ?_) (fun _ => ?_)
          · skip
            exact c_weak _ [] rfl (hJ111 ())
          · skip
            refine c_aload_n G dX7_isName_41 rfl 0 rfl ?_
            refine c_getJ G fl_X7_64 h_a0 rfl dX7_isName_42 ?_
            refine c_ldc2 G (lN 302) kC_X7_74 kW_302 dX7_isName_45 ?_
            refine c_lcmp G dX7_isName_48 ?_
            refine c_if_eq (tgt := 111) G dX7_isName_49 (by decide) (fun _ => ?_) (fun _ => ?_)
            · skip
              exact c_weak _ [] rfl (hJ111 ())
            · skip
              refine c_aload_n G dX7_isName_52 rfl 0 rfl ?_
              refine c_getJ G fl_X7_64 h_a0 rfl dX7_isName_53 ?_
              refine c_ldc2 G (lN 16052) kC_X7_76 kW_16052 dX7_isName_56 ?_
              refine c_lcmp G dX7_isName_59 ?_
              refine c_if_eq (tgt := 111) G dX7_isName_60 (by decide) (fun _ => ?_) (fun _ => ?_)
              · skip
                exact c_weak _ [] rfl (hJ111 ())
              · skip
                refine c_aload_n G dX7_isName_63 rfl 0 rfl ?_
                refine c_getJ G fl_X7_64 h_a0 rfl dX7_isName_64 ?_
                refine c_ldc2 G (lN 15021) kC_X7_78 kW_15021 dX7_isName_67 ?_
                refine c_lcmp G dX7_isName_70 ?_
                refine c_if_eq (tgt := 111) G dX7_isName_71 (by decide) (fun _ => ?_) (fun _ => ?_)
                · skip
                  exact c_weak _ [] rfl (hJ111 ())
                · skip
                  refine c_aload_n G dX7_isName_74 rfl 0 rfl ?_
                  refine c_getJ G fl_X7_64 h_a0 rfl dX7_isName_75 ?_
                  refine c_ldc2 G (lN 13368) kC_X7_80 kW_13368 dX7_isName_78 ?_
                  refine c_lcmp G dX7_isName_81 ?_
                  refine c_if_eq (tgt := 111) G dX7_isName_82 (by decide) (fun _ => ?_) (fun _ => ?_)
                  · skip
                    exact c_weak _ [] rfl (hJ111 ())
                  · skip
                    refine c_aload_n G dX7_isName_85 rfl 0 rfl ?_
                    refine c_getJ G fl_X7_64 h_a0 rfl dX7_isName_86 ?_
                    refine c_ldc2 G (lN 13614) kC_X7_82 kW_13614 dX7_isName_89 ?_
                    refine c_lcmp G dX7_isName_92 ?_
                    refine c_if_eq (tgt := 111) G dX7_isName_93 (by decide) (fun _ => ?_) (fun _ => ?_)
                    · skip
                      exact c_weak _ [] rfl (hJ111 ())
                    · skip
                      refine c_aload_n G dX7_isName_96 rfl 0 rfl ?_
                      refine c_getJ G fl_X7_64 h_a0 rfl dX7_isName_97 ?_
                      refine c_ldc2 G (lN 294) kC_X7_84 kW_294 dX7_isName_100 ?_
                      refine c_lcmp G dX7_isName_103 ?_
                      refine c_if_eq (tgt := 111) G dX7_isName_104 (by decide) (fun _ => ?_) (fun _ => ?_)
                      · skip
                        exact c_weak _ [] rfl (hJ111 ())
                      · skip
                        refine c_iconst G (nI 1) dX7_isName_107 kI_1 ?_
                        refine c_goto (tgt := 112) G dX7_isName_108 (by decide) ?_
                        exact c_zretP G hQ dX7_isName_112
    · skip
      exact c_weak _ [] rfl (hJ111 ())
set_option maxHeartbeats 4000000 in
set_option maxRecDepth 100000 in
theorem cl_X1_findSymbol_2 {w : Wp} {M : Mm} {X : Cx} {Q : State → Prop} {ρ : Int32} (G : Good w X cX1_findSymbol 4 RX1 (some .int) 0) (hQ : Q = MQ (xL X) (Qd w ((encPI M) ρ)) (xA X) (xS X) (xk X) (xs X) (Aw w)) {a0 : Nat} {a1 : Int64} (h_a0 : lay a0 = (5, 1)) : ∀ (n : Nat) (l3_1 : Int32), Cov w X Q ρ some 4 2 [(0, .ref (wB w + pz (a0))), (1, .long a1), (3, .int l3_1)] [] M (L_X1_findSymbol_2 M a0 a1 n l3_1) := by
  intro n
  induction n with
  | zero => intro l3_1; exact c_none
  | succ n ih =>
    intro l3_1
    rw [L_X1_findSymbol_2]
    refine c_iload_n G dX1_findSymbol_2 rfl 2 rfl ?_
    refine c_aload_n G dX1_findSymbol_3 rfl 0 rfl ?_
    refine c_getI G fl_X1_61 h_a0 rfl dX1_findSymbol_4 ?_
    refine c_icmp_ge (tgt := 29) G dX1_findSymbol_7 (by decide) (fun _ => ?_) (fun _ => ?_)
    · skip
      refine c_iconst G m1 dX1_findSymbol_29 kI_m1 ?_
      exact c_iretP G hQ dX1_findSymbol_30
    · skip
      refine c_aload_n G dX1_findSymbol_10 rfl 0 rfl ?_
      refine c_getF G fl_X1_9 h_a0 rfl dX1_findSymbol_11 ?_
      refine c_iload_n G dX1_findSymbol_14 rfl 2 rfl ?_
      refine c_lald G (lf h_a0 3 rfl) dX1_findSymbol_15 (fun v1 _ => ?_)
      refine c_lload_n G dX1_findSymbol_16 rfl 1 rfl ?_
      refine c_lcmp G dX1_findSymbol_17 ?_
      refine c_if_ne (tgt := 23) G dX1_findSymbol_18 (by decide) (fun _ => ?_) (fun _ => ?_)
      · skip
        refine c_iload_n G dX1_findSymbol_21 rfl 2 rfl ?_
        exact c_iretP G hQ dX1_findSymbol_22
      · skip
        refine c_iinc G (fun y__ => [(3, .int y__), (0, .ref (wB w + pz (a0))), (1, .long a1)]) dX1_findSymbol_23 2 rfl kI_1 (by decide) (fun _ => rfl) (fun l3_2 _ => ?_)
        refine c_goto (tgt := 2) G dX1_findSymbol_26 (by decide) ?_
        exact c_weak _ [1, 2, 0] rfl (ih l3_2)
set_option maxHeartbeats 4000000 in
set_option maxRecDepth 100000 in
theorem con_X1_findSymbol {w : Wp} {N : Nat} {a0 : Nat} {a1 : Int64} {M : Mm} {q : Int32} (h_a0 : lay a0 = (5, 1)) (hq : D_X1_findSymbol N a0 a1 M = some q) : Con w 0 yX1_findSymbol cX1_findSymbol 4 (some .int) [.ref (wB w + pz (a0)), .long a1] M ((encPI M) q) := by
  refine Con.of (encPI M) q _ hq (by decide) (Nat.le_of_ble_eq_true rfl) ?_
  intro X G Q hQ
  have G : Good w X cX1_findSymbol 4 RX1 (some .int) 0 := G
  refine c_weak [(0, .ref (wB w + pz (a0))), (1, .long a1)] [0, 1] rfl ?_
  rw [D_X1_findSymbol]
  refine c_iconst G (nI 0) dX1_findSymbol_0 kI_0 ?_
  refine c_istore_n G [(3, .int (nI 0)), (0, .ref (wB w + pz (a0))), (1, .long a1)] dX1_findSymbol_1 rfl (by decide) rfl ?_
  refine c_weak _ [1, 2, 0] rfl (cl_X1_findSymbol_2 G hQ  h_a0 N (nI 0))
set_option maxHeartbeats 4000000 in
set_option maxRecDepth 100000 in
theorem con_X1_addSymbol {w : Wp} {N : Nat} {a0 : Nat} {a1 : Int64} {M : Mm} {q : Mm} (h_a0 : lay a0 = (5, 1)) (hq : D_X1_addSymbol N a0 a1 M = some q) : Con w 0 yX1_addSymbol cX1_addSymbol 3 none [.ref (wB w + pz (a0)), .long a1] M (encV q) := by
  refine Con.of encV q _ hq (by decide) (Nat.le_of_ble_eq_true rfl) ?_
  intro X G Q hQ
  have G : Good w X cX1_addSymbol 3 RX1 none 0 := G
  refine c_weak [(0, .ref (wB w + pz (a0))), (1, .long a1)] [0, 1] rfl ?_
  rw [D_X1_addSymbol]
  refine c_aload_n G dX1_addSymbol_0 rfl 0 rfl ?_
  refine c_getF G fl_X1_9 h_a0 rfl dX1_addSymbol_1 ?_
  refine c_aload_n G dX1_addSymbol_4 rfl 0 rfl ?_
  refine c_getI G fl_X1_61 h_a0 rfl dX1_addSymbol_5 ?_
  refine c_lload_n G dX1_addSymbol_8 rfl 1 rfl ?_
  refine c_last G (lf h_a0 3 rfl) dX1_addSymbol_9 (fun M1 _ => ?_)
  refine c_aload_n G dX1_addSymbol_10 rfl 0 rfl ?_
  refine c_getF G fl_X1_21 h_a0 rfl dX1_addSymbol_11 ?_
  refine c_aload_n G dX1_addSymbol_14 rfl 0 rfl ?_
  refine c_getI G fl_X1_61 h_a0 rfl dX1_addSymbol_15 ?_
  refine c_iconst G (nI 0) dX1_addSymbol_18 kI_0 ?_
  refine c_iast G (lf h_a0 6 rfl) dX1_addSymbol_19 (fun M2 _ => ?_)
  refine c_aload_n G dX1_addSymbol_20 rfl 0 rfl ?_
  refine c_getF G fl_X1_25 h_a0 rfl dX1_addSymbol_21 ?_
  refine c_aload_n G dX1_addSymbol_24 rfl 0 rfl ?_
  refine c_getI G fl_X1_61 h_a0 rfl dX1_addSymbol_25 ?_
  refine c_iconst G (nI 0) dX1_addSymbol_28 kI_0 ?_
  refine c_iast G (lf h_a0 7 rfl) dX1_addSymbol_29 (fun M3 _ => ?_)
  refine c_aload_n G dX1_addSymbol_30 rfl 0 rfl ?_
  refine c_dup G dX1_addSymbol_31 rfl ?_
  refine c_getI G fl_X1_61 h_a0 rfl dX1_addSymbol_32 ?_
  refine c_iconst G (nI 1) dX1_addSymbol_35 kI_1 ?_
  refine c_iadd G dX1_addSymbol_36 ?_
  refine c_putI G fp_X1_61 h_a0 rfl dX1_addSymbol_37 (fun M4 _ => ?_)
  exact c_vret G hQ dX1_addSymbol_40
set_option maxHeartbeats 4000000 in
set_option maxRecDepth 100000 in
theorem cl_X1_findAttribute_3 {w : Wp} {M : Mm} {X : Cx} {Q : State → Prop} {ρ : Int32} (G : Good w X cX1_findAttribute 5 RX1 (some .int) 0) (hQ : Q = MQ (xL X) (Qd w ((encPI M) ρ)) (xA X) (xS X) (xk X) (xs X) (Aw w)) {a0 : Nat} {a1 : Int32} {a2 : Int64} (h_a0 : lay a0 = (5, 1)) : ∀ (n : Nat) (l4_1 : Int32), Cov w X Q ρ some 5 3 [(0, .ref (wB w + pz (a0))), (1, .int a1), (2, .long a2), (4, .int l4_1)] [] M (L_X1_findAttribute_3 a0 a1 M a2 n l4_1) := by
  intro n
  induction n with
  | zero => intro l4_1; exact c_none
  | succ n ih =>
    intro l4_1
    rw [L_X1_findAttribute_3]
    refine c_iload G dX1_findAttribute_3 3 rfl ?_
    refine c_aload_n G dX1_findAttribute_5 rfl 0 rfl ?_
    refine c_getF G fl_X1_21 h_a0 rfl dX1_findAttribute_6 ?_
    refine c_iload_n G dX1_findAttribute_9 rfl 1 rfl ?_
    refine c_iald G (lf h_a0 6 rfl) dX1_findAttribute_10 (fun v1 _ => ?_)
    refine c_aload_n G dX1_findAttribute_11 rfl 0 rfl ?_
    refine c_getF G fl_X1_25 h_a0 rfl dX1_findAttribute_12 ?_
    refine c_iload_n G dX1_findAttribute_15 rfl 1 rfl ?_
    refine c_iald G (lf h_a0 7 rfl) dX1_findAttribute_16 (fun v2 _ => ?_)
    refine c_iadd G dX1_findAttribute_17 ?_
    refine c_icmp_ge (tgt := 47) G dX1_findAttribute_18 (by decide) (fun _ => ?_) (fun _ => ?_)
    · skip
      refine c_iconst G m1 dX1_findAttribute_47 kI_m1 ?_
      exact c_iretP G hQ dX1_findAttribute_48
    · skip
      refine c_aload_n G dX1_findAttribute_21 rfl 0 rfl ?_
      refine c_getF G fl_X1_15 h_a0 rfl dX1_findAttribute_22 ?_
      refine c_bipush G (nI 8) dX1_findAttribute_25 kB_8 ?_
      refine c_iload_n G dX1_findAttribute_27 rfl 1 rfl ?_
      refine c_imul G dX1_findAttribute_28 ?_
      refine c_iload G dX1_findAttribute_29 3 rfl ?_
      refine c_iadd G dX1_findAttribute_31 ?_
      refine c_lald G (lf h_a0 4 rfl) dX1_findAttribute_32 (fun v3 _ => ?_)
      refine c_lload_n G dX1_findAttribute_33 rfl 2 rfl ?_
      refine c_lcmp G dX1_findAttribute_34 ?_
      refine c_if_ne (tgt := 41) G dX1_findAttribute_35 (by decide) (fun _ => ?_) (fun _ => ?_)
      · skip
        refine c_iload G dX1_findAttribute_38 3 rfl ?_
        exact c_iretP G hQ dX1_findAttribute_40
      · skip
        refine c_iinc G (fun y__ => [(4, .int y__), (0, .ref (wB w + pz (a0))), (1, .int a1), (2, .long a2)]) dX1_findAttribute_41 3 rfl kI_1 (by decide) (fun _ => rfl) (fun l4_2 _ => ?_)
        refine c_goto (tgt := 3) G dX1_findAttribute_44 (by decide) ?_
        exact c_weak _ [1, 2, 3, 0] rfl (ih l4_2)
set_option maxHeartbeats 4000000 in
set_option maxRecDepth 100000 in
theorem con_X1_findAttribute {w : Wp} {N : Nat} {a0 : Nat} {a1 : Int32} {a2 : Int64} {M : Mm} {q : Int32} (h_a0 : lay a0 = (5, 1)) (hq : D_X1_findAttribute N a0 a1 a2 M = some q) : Con w 0 yX1_findAttribute cX1_findAttribute 5 (some .int) [.ref (wB w + pz (a0)), .int a1, .long a2] M ((encPI M) q) := by
  refine Con.of (encPI M) q _ hq (by decide) (Nat.le_of_ble_eq_true rfl) ?_
  intro X G Q hQ
  have G : Good w X cX1_findAttribute 5 RX1 (some .int) 0 := G
  refine c_weak [(0, .ref (wB w + pz (a0))), (1, .int a1), (2, .long a2)] [0, 1, 2] rfl ?_
  rw [D_X1_findAttribute]
  refine c_iconst G (nI 0) dX1_findAttribute_0 kI_0 ?_
  refine c_istore G [(4, .int (nI 0)), (0, .ref (wB w + pz (a0))), (1, .int a1), (2, .long a2)] dX1_findAttribute_1 (by decide) rfl ?_
  refine c_weak _ [1, 2, 3, 0] rfl (cl_X1_findAttribute_3 G hQ  h_a0 N (nI 0))
set_option maxHeartbeats 4000000 in
set_option maxRecDepth 100000 in
theorem con_X1_addAttribute {w : Wp} {N : Nat} {a0 : Nat} {a1 : Int32} {a2 : Int64} {a4 : Int32} {M : Mm} {q : Mm} (h_a0 : lay a0 = (5, 1)) (hq : D_X1_addAttribute N a0 a1 a2 a4 M = some q) : Con w 0 yX1_addAttribute cX1_addAttribute 5 none [.ref (wB w + pz (a0)), .int a1, .long a2, .int a4] M (encV q) := by
  refine Con.of encV q _ hq (by decide) (Nat.le_of_ble_eq_true rfl) ?_
  intro X G Q hQ
  have G : Good w X cX1_addAttribute 5 RX1 none 0 := G
  refine c_weak [(0, .ref (wB w + pz (a0))), (1, .int a1), (2, .long a2), (4, .int a4)] [0, 1, 2, 3] rfl ?_
  rw [D_X1_addAttribute]
  refine c_aload_n G dX1_addAttribute_0 rfl 0 rfl ?_
  refine c_getF G fl_X1_15 h_a0 rfl dX1_addAttribute_1 ?_
  refine c_bipush G (nI 8) dX1_addAttribute_4 kB_8 ?_
  refine c_iload_n G dX1_addAttribute_6 rfl 1 rfl ?_
  refine c_imul G dX1_addAttribute_7 ?_
  refine c_aload_n G dX1_addAttribute_8 rfl 0 rfl ?_
  refine c_getF G fl_X1_21 h_a0 rfl dX1_addAttribute_9 ?_
  refine c_iload_n G dX1_addAttribute_12 rfl 1 rfl ?_
  refine c_iald G (lf h_a0 6 rfl) dX1_addAttribute_13 (fun v1 _ => ?_)
  refine c_iadd G dX1_addAttribute_14 ?_
  refine c_aload_n G dX1_addAttribute_15 rfl 0 rfl ?_
  refine c_getF G fl_X1_25 h_a0 rfl dX1_addAttribute_16 ?_
  refine c_iload_n G dX1_addAttribute_19 rfl 1 rfl ?_
  refine c_iald G (lf h_a0 7 rfl) dX1_addAttribute_20 (fun v2 _ => ?_)
  refine c_iadd G dX1_addAttribute_21 ?_
  refine c_lload_n G dX1_addAttribute_22 rfl 2 rfl ?_
  refine c_last G (lf h_a0 4 rfl) dX1_addAttribute_23 (fun M1 _ => ?_)
  refine c_iload G dX1_addAttribute_24 3 rfl ?_
  refine c_if_eq (tgt := 42) G dX1_addAttribute_26 (by decide) (fun _ => ?_) (fun _ => ?_)
  · skip
    refine c_aload_n G dX1_addAttribute_42 rfl 0 rfl ?_
    refine c_getF G fl_X1_25 h_a0 rfl dX1_addAttribute_43 ?_
    refine c_iload_n G dX1_addAttribute_46 rfl 1 rfl ?_
    refine c_dup2 G dX1_addAttribute_47 rfl rfl ?_
    refine c_iald G (lf h_a0 7 rfl) dX1_addAttribute_48 (fun v3 _ => ?_)
    refine c_iconst G (nI 1) dX1_addAttribute_49 kI_1 ?_
    refine c_iadd G dX1_addAttribute_50 ?_
    refine c_iast G (lf h_a0 7 rfl) dX1_addAttribute_51 (fun M2 _ => ?_)
    exact c_vret G hQ dX1_addAttribute_52
  · skip
    refine c_aload_n G dX1_addAttribute_29 rfl 0 rfl ?_
    refine c_getF G fl_X1_21 h_a0 rfl dX1_addAttribute_30 ?_
    refine c_iload_n G dX1_addAttribute_33 rfl 1 rfl ?_
    refine c_dup2 G dX1_addAttribute_34 rfl rfl ?_
    refine c_iald G (lf h_a0 6 rfl) dX1_addAttribute_35 (fun v4 _ => ?_)
    refine c_iconst G (nI 1) dX1_addAttribute_36 kI_1 ?_
    refine c_iadd G dX1_addAttribute_37 ?_
    refine c_iast G (lf h_a0 6 rfl) dX1_addAttribute_38 (fun M3 _ => ?_)
    refine c_goto (tgt := 52) G dX1_addAttribute_39 (by decide) ?_
    exact c_vret G hQ dX1_addAttribute_52
set_option maxHeartbeats 4000000 in
set_option maxRecDepth 100000 in
theorem con_X2_readAttribute {w : Wp} {N : Nat} {a0 : Nat} {a1 : Int32} {M : Mm} {q : Int32 × Mm} (h_a0 : lay a0 = (5, 2)) (hq : D_X2_readAttribute N a0 a1 M = some q) : Con w 1 yX2_readAttribute cX2_readAttribute 3 (some .boolean) [.ref (wB w + pz (a0)), .int a1] M (encI q) := by
  refine Con.of encI q _ hq (by decide) (Nat.le_of_ble_eq_true rfl) ?_
  intro X G Q hQ
  have G : Good w X cX2_readAttribute 3 RX2 (some .boolean) 1 := G
  refine c_weak [(0, .ref (wB w + pz (a0))), (1, .int a1)] [0, 1] rfl ?_
  rw [D_X2_readAttribute]
  refine c_aload_n G dX2_readAttribute_0 rfl 0 rfl ?_
  refine c_getR (c' := 1) G fl_X2_15 h_a0 rfl dX2_readAttribute_1 (fun r1 _ h_r1 => ?_)
  refine c_getI G fl_X2_57 h_r1 rfl dX2_readAttribute_4 ?_
  refine c_iconst G (nI 1) dX2_readAttribute_7 kI_1 ?_
  refine c_isub G dX2_readAttribute_8 ?_
  refine c_let (fun l2_1 _ => ?_)
  refine c_istore_n G [(2, .int l2_1), (0, .ref (wB w + pz (a0))), (1, .int a1)] dX2_readAttribute_9 rfl (by decide) rfl ?_
  refine c_aload_n G dX2_readAttribute_10 rfl 1 rfl ?_
  refine c_getR (c' := 7) G fl_X2_9 h_a0 rfl dX2_readAttribute_11 (fun r2 _ h_r2 => ?_)
  refine c_callV_PI (d := 0) (rest := []) G [] yv_X7_isName ml_X2_63 (by omega) (by decide) rfl rfl (Nat.le_of_ble_eq_true rfl) h_r2 (fun q hq => con_X7_isName h_r2 hq) dX2_readAttribute_14 (fun q1 _ => ?_)
  refine c_if_ne (tgt := 29) G dX2_readAttribute_17 (by decide) (fun _ => ?_) (fun _ => ?_)
  · skip
    refine c_aload_n G dX2_readAttribute_20 rfl 1 rfl ?_
    refine c_getR (c' := 7) G fl_X2_9 h_a0 rfl dX2_readAttribute_21 (fun r3 _ h_r3 => ?_)
    refine c_iconst G (nI 2) dX2_readAttribute_24 kI_2 ?_
    refine c_callV_I (d := 0) (rest := []) G [.int (nI 2)] yv_X7_fail ml_X2_54 (by omega) (by decide) rfl rfl (Nat.le_of_ble_eq_true rfl) h_r3 (fun q hq => con_X7_fail h_r3 hq) dX2_readAttribute_25 (fun q2 _ => ?_)
    exact c_zret G hQ dX2_readAttribute_28
  · skip
    refine c_aload_n G dX2_readAttribute_29 rfl 1 rfl ?_
    refine c_getR (c' := 1) G fl_X2_15 h_a0 rfl dX2_readAttribute_30 (fun r4 _ h_r4 => ?_)
    refine c_iload_n G dX2_readAttribute_33 rfl 0 rfl ?_
    refine c_aload_n G dX2_readAttribute_34 rfl 1 rfl ?_
    refine c_getR (c' := 7) G fl_X2_9 h_a0 rfl dX2_readAttribute_35 (fun r5 _ h_r5 => ?_)
    refine c_getJ G fl_X2_66 h_r5 rfl dX2_readAttribute_38 ?_
    refine c_callV_PI (d := 0) (rest := []) G [.int l2_1, .long (M.2.1 r5 8)] yv_X1_findAttribute ml_X2_89 (by omega) (by decide) rfl rfl (Nat.le_of_ble_eq_true rfl) h_r4 (fun q hq => con_X1_findAttribute h_r4 hq) dX2_readAttribute_41 (fun q3 _ => ?_)
    refine c_iconst G m1 dX2_readAttribute_44 kI_m1 ?_
    refine c_icmp_eq (tgt := 57) G dX2_readAttribute_45 (by decide) (fun _ => ?_) (fun _ => ?_)
    · skip
      refine c_iload_n G dX2_readAttribute_57 rfl 2 rfl ?_
      refine c_bj (ej := fun (p82 : Int32) => [(0, .ref (wB w + pz (a0))), (1, .int a1), (2, .int l2_1)]) (sj := fun p82 => [.int p82]) (mj := fun p82 => M) (pj := 82) (fun p82 => ?_) (fun F hJ82 => ?_)
      · skip
        refine c_iconst G (nI 4) dX2_readAttribute_82 kI_4 ?_
        refine c_icmp_lt (tgt := 96) G dX2_readAttribute_83 (by decide) (fun _ => ?_) (fun _ => ?_)
        · skip
          refine c_aload_n G dX2_readAttribute_96 rfl 0 rfl ?_
          refine c_getR (c' := 1) G fl_X2_15 h_a0 rfl dX2_readAttribute_97 (fun r6 _ h_r6 => ?_)
          refine c_iload_n G dX2_readAttribute_100 rfl 2 rfl ?_
          refine c_aload_n G dX2_readAttribute_101 rfl 0 rfl ?_
          refine c_getR (c' := 7) G fl_X2_9 h_a0 rfl dX2_readAttribute_102 (fun r7 _ h_r7 => ?_)
          refine c_getJ G fl_X2_66 h_r7 rfl dX2_readAttribute_105 ?_
          refine c_iload_n G dX2_readAttribute_108 rfl 1 rfl ?_
          refine c_callV_V (d := 0) (rest := []) G [.int l2_1, .long (M.2.1 r7 8), .int a1] yv_X1_addAttribute ml_X2_100 (by omega) (by decide) rfl rfl (Nat.le_of_ble_eq_true rfl) h_r6 (fun q hq => con_X1_addAttribute h_r6 hq) dX2_readAttribute_109 (fun M1 _ => ?_)
          refine c_aload_n G dX2_readAttribute_112 rfl 0 rfl ?_
          refine c_getR (c' := 7) G fl_X2_9 h_a0 rfl dX2_readAttribute_113 (fun r8 _ h_r8 => ?_)
          refine c_callV_V (d := 0) (rest := []) G [] yv_X7_advance ml_X2_60 (by omega) (by decide) rfl rfl (Nat.le_of_ble_eq_true rfl) h_r8 (fun q hq => con_X7_advance h_r8 hq) dX2_readAttribute_116 (fun M2 _ => ?_)
          refine c_iconst G (nI 1) dX2_readAttribute_119 kI_1 ?_
          exact c_zret G hQ dX2_readAttribute_120
        · skip
          refine c_aload_n G dX2_readAttribute_86 rfl 0 rfl ?_
          refine c_getR (c' := 7) G fl_X2_9 h_a0 rfl dX2_readAttribute_87 (fun r9 _ h_r9 => ?_)
          refine c_bipush G (nI 6) dX2_readAttribute_90 kB_6 ?_
          refine c_callV_I (d := 0) (rest := []) G [.int (nI 6)] yv_X7_fail ml_X2_54 (by omega) (by decide) rfl rfl (Nat.le_of_ble_eq_true rfl) h_r9 (fun q hq => con_X7_fail h_r9 hq) dX2_readAttribute_92 (fun q4 _ => ?_)
          exact c_zret G hQ dX2_readAttribute_95
      · skip
        refine c_if_eq (tgt := 73) G dX2_readAttribute_58 (by decide) (fun _ => ?_) (fun _ => ?_)
        · skip
          refine c_aload_n G dX2_readAttribute_73 rfl 1 rfl ?_
          refine c_getR (c' := 1) G fl_X2_15 h_a0 rfl dX2_readAttribute_74 (fun r10 _ h_r10 => ?_)
          refine c_getF G fl_X2_97 h_r10 rfl dX2_readAttribute_77 ?_
          refine c_iload_n G dX2_readAttribute_80 rfl 0 rfl ?_
          refine c_iald G (lf h_r10 7 rfl) dX2_readAttribute_81 (fun v1 _ => ?_)
          exact c_weak _ [1, 2, 0] rfl (hJ82 v1)
        · skip
          refine c_aload_n G dX2_readAttribute_61 rfl 1 rfl ?_
          refine c_getR (c' := 1) G fl_X2_15 h_a0 rfl dX2_readAttribute_62 (fun r11 _ h_r11 => ?_)
          refine c_getF G fl_X2_93 h_r11 rfl dX2_readAttribute_65 ?_
          refine c_iload_n G dX2_readAttribute_68 rfl 0 rfl ?_
          refine c_iald G (lf h_r11 6 rfl) dX2_readAttribute_69 (fun v2 _ => ?_)
          refine c_goto (tgt := 82) G dX2_readAttribute_70 (by decide) ?_
          exact c_weak _ [1, 2, 0] rfl (hJ82 v2)
    · skip
      refine c_aload_n G dX2_readAttribute_48 rfl 1 rfl ?_
      refine c_getR (c' := 7) G fl_X2_9 h_a0 rfl dX2_readAttribute_49 (fun r12 _ h_r12 => ?_)
      refine c_iconst G (nI 4) dX2_readAttribute_52 kI_4 ?_
      refine c_callV_I (d := 0) (rest := []) G [.int (nI 4)] yv_X7_fail ml_X2_54 (by omega) (by decide) rfl rfl (Nat.le_of_ble_eq_true rfl) h_r12 (fun q hq => con_X7_fail h_r12 hq) dX2_readAttribute_53 (fun q5 _ => ?_)
      exact c_zret G hQ dX2_readAttribute_56
set_option maxHeartbeats 4000000 in
set_option maxRecDepth 100000 in
theorem cl_X2_readAttributes_15 {w : Wp} {X : Cx} {Q : State → Prop} {ρ : Int32 × Mm} (G : Good w X cX2_readAttributes 4 RX2 (some .boolean) 2) (hQ : Q = MQ (xL X) (Qd w (encI ρ)) (xA X) (xS X) (xk X) (xs X) (Aw w)) {a0 : Nat} {N : Nat} {a1 : Int32} (h_a0 : lay a0 = (5, 2)) : ∀ (n : Nat) (l2_1 : Int32) (l3_1 : Int32) (M2 : Mm), Cov w X Q ρ some 4 15 [(0, .ref (wB w + pz (a0))), (1, .int a1), (2, .int l2_1), (3, .int l3_1)] [] M2 (L_X2_readAttributes_15 a0 N a1 n l2_1 l3_1 M2) := by
  intro n
  induction n with
  | zero => intro l2_1 l3_1 M2; exact c_none
  | succ n ih =>
    intro l2_1 l3_1 M2
    rw [L_X2_readAttributes_15]
    refine c_iload_n G dX2_readAttributes_15 rfl 3 rfl ?_
    refine c_bipush G (nI 8) dX2_readAttributes_16 kB_8 ?_
    refine c_icmp_ge (tgt := 47) G dX2_readAttributes_18 (by decide) (fun _ => ?_) (fun _ => ?_)
    · skip
      refine c_iload_n G dX2_readAttributes_47 rfl 2 rfl ?_
      exact c_zret G hQ dX2_readAttributes_48
    · skip
      refine c_iload_n G dX2_readAttributes_21 rfl 2 rfl ?_
      refine c_if_eq (tgt := 47) G dX2_readAttributes_22 (by decide) (fun _ => ?_) (fun _ => ?_)
      · skip
        refine c_iload_n G dX2_readAttributes_47 rfl 2 rfl ?_
        exact c_zret G hQ dX2_readAttributes_48
      · skip
        refine c_aload_n G dX2_readAttributes_25 rfl 0 rfl ?_
        refine c_getR (c' := 7) G fl_X2_9 h_a0 rfl dX2_readAttributes_26 (fun r2 _ h_r2 => ?_)
        refine c_callV_PI (d := 0) (rest := []) G [] yv_X7_isName ml_X2_63 (by omega) (by decide) rfl rfl (Nat.le_of_ble_eq_true rfl) h_r2 (fun q hq => con_X7_isName h_r2 hq) dX2_readAttributes_29 (fun q2 _ => ?_)
        refine c_if_eq (tgt := 47) G dX2_readAttributes_32 (by decide) (fun _ => ?_) (fun _ => ?_)
        · skip
          refine c_iload_n G dX2_readAttributes_47 rfl 2 rfl ?_
          exact c_zret G hQ dX2_readAttributes_48
        · skip
          refine c_aload_n G dX2_readAttributes_35 rfl 0 rfl ?_
          refine c_iload_n G dX2_readAttributes_36 rfl 1 rfl ?_
          refine c_callV_I (d := 1) (rest := []) G [.int a1] yv_X2_readAttribute ml_X2_86 (by omega) (by decide) rfl rfl (Nat.le_of_ble_eq_true rfl) h_a0 (fun q hq => con_X2_readAttribute h_a0 hq) dX2_readAttributes_37 (fun q3 _ => ?_)
          refine c_istore_n G [(2, .int q3.1), (0, .ref (wB w + pz (a0))), (1, .int a1), (3, .int l3_1)] dX2_readAttributes_40 rfl (by decide) rfl ?_
          refine c_iinc G (fun y__ => [(3, .int y__), (2, .int q3.1), (0, .ref (wB w + pz (a0))), (1, .int a1)]) dX2_readAttributes_41 3 rfl kI_1 (by decide) (fun _ => rfl) (fun l3_2 _ => ?_)
          refine c_goto (tgt := 15) G dX2_readAttributes_44 (by decide) ?_
          exact c_weak _ [2, 3, 1, 0] rfl (ih q3.1 l3_2 q3.2)
set_option maxHeartbeats 4000000 in
set_option maxRecDepth 100000 in
theorem con_X2_readAttributes {w : Wp} {N : Nat} {a0 : Nat} {a1 : Int32} {M : Mm} {q : Int32 × Mm} (h_a0 : lay a0 = (5, 2)) (hq : D_X2_readAttributes N a0 a1 M = some q) : Con w 2 yX2_readAttributes cX2_readAttributes 4 (some .boolean) [.ref (wB w + pz (a0)), .int a1] M (encI q) := by
  refine Con.of encI q _ hq (by decide) (Nat.le_of_ble_eq_true rfl) ?_
  intro X G Q hQ
  have G : Good w X cX2_readAttributes 4 RX2 (some .boolean) 2 := G
  refine c_weak [(0, .ref (wB w + pz (a0))), (1, .int a1)] [0, 1] rfl ?_
  rw [D_X2_readAttributes]
  refine c_aload_n G dX2_readAttributes_0 rfl 0 rfl ?_
  refine c_getR (c' := 7) G fl_X2_9 h_a0 rfl dX2_readAttributes_1 (fun r1 _ h_r1 => ?_)
  refine c_callV_V (d := 0) (rest := []) G [] yv_X7_advance ml_X2_60 (by omega) (by decide) rfl rfl (Nat.le_of_ble_eq_true rfl) h_r1 (fun q hq => con_X7_advance h_r1 hq) dX2_readAttributes_4 (fun M1 _ => ?_)
  refine c_aload_n G dX2_readAttributes_7 rfl 0 rfl ?_
  refine c_iload_n G dX2_readAttributes_8 rfl 1 rfl ?_
  refine c_callV_I (d := 1) (rest := []) G [.int a1] yv_X2_readAttribute ml_X2_86 (by omega) (by decide) rfl rfl (Nat.le_of_ble_eq_true rfl) h_a0 (fun q hq => con_X2_readAttribute h_a0 hq) dX2_readAttributes_9 (fun q1 _ => ?_)
  refine c_istore_n G [(2, .int q1.1), (0, .ref (wB w + pz (a0))), (1, .int a1)] dX2_readAttributes_12 rfl (by decide) rfl ?_
  refine c_iconst G (nI 0) dX2_readAttributes_13 kI_0 ?_
  refine c_istore_n G [(3, .int (nI 0)), (2, .int q1.1), (0, .ref (wB w + pz (a0))), (1, .int a1)] dX2_readAttributes_14 rfl (by decide) rfl ?_
  refine c_weak _ [2, 3, 1, 0] rfl (cl_X2_readAttributes_15 G hQ  h_a0 N q1.1 (nI 0) q1.2)
set_option maxHeartbeats 4000000 in
set_option maxRecDepth 100000 in
theorem con_X2_readSymbol {w : Wp} {N : Nat} {a0 : Nat} {M : Mm} {q : Int32 × Mm} (h_a0 : lay a0 = (5, 2)) (hq : D_X2_readSymbol N a0 M = some q) : Con w 3 yX2_readSymbol cX2_readSymbol 1 (some .boolean) [.ref (wB w + pz (a0))] M (encI q) := by
  refine Con.of encI q _ hq (by decide) (Nat.le_of_ble_eq_true rfl) ?_
  intro X G Q hQ
  have G : Good w X cX2_readSymbol 1 RX2 (some .boolean) 3 := G
  refine c_weak [(0, .ref (wB w + pz (a0)))] [0] rfl ?_
  rw [D_X2_readSymbol]
  refine c_aload_n G dX2_readSymbol_0 rfl 0 rfl ?_
  refine c_getR (c' := 1) G fl_X2_15 h_a0 rfl dX2_readSymbol_1 (fun r1 _ h_r1 => ?_)
  refine c_getI G fl_X2_57 h_r1 rfl dX2_readSymbol_4 ?_
  refine c_bipush G (nI 8) dX2_readSymbol_7 kB_8 ?_
  refine c_icmp_lt (tgt := 22) G dX2_readSymbol_9 (by decide) (fun _ => ?_) (fun _ => ?_)
  · skip
    refine c_aload_n G dX2_readSymbol_22 rfl 0 rfl ?_
    refine c_getR (c' := 7) G fl_X2_9 h_a0 rfl dX2_readSymbol_23 (fun r2 _ h_r2 => ?_)
    refine c_callV_V (d := 0) (rest := []) G [] yv_X7_advance ml_X2_60 (by omega) (by decide) rfl rfl (Nat.le_of_ble_eq_true rfl) h_r2 (fun q hq => con_X7_advance h_r2 hq) dX2_readSymbol_26 (fun M1 _ => ?_)
    refine c_aload_n G dX2_readSymbol_29 rfl 0 rfl ?_
    refine c_getR (c' := 7) G fl_X2_9 h_a0 rfl dX2_readSymbol_30 (fun r3 _ h_r3 => ?_)
    refine c_callV_PI (d := 0) (rest := []) G [] yv_X7_isName ml_X2_63 (by omega) (by decide) rfl rfl (Nat.le_of_ble_eq_true rfl) h_r3 (fun q hq => con_X7_isName h_r3 hq) dX2_readSymbol_33 (fun q1 _ => ?_)
    refine c_if_ne (tgt := 48) G dX2_readSymbol_36 (by decide) (fun _ => ?_) (fun _ => ?_)
    · skip
      refine c_aload_n G dX2_readSymbol_39 rfl 0 rfl ?_
      refine c_getR (c' := 7) G fl_X2_9 h_a0 rfl dX2_readSymbol_40 (fun r4 _ h_r4 => ?_)
      refine c_iconst G (nI 2) dX2_readSymbol_43 kI_2 ?_
      refine c_callV_I (d := 0) (rest := []) G [.int (nI 2)] yv_X7_fail ml_X2_54 (by omega) (by decide) rfl rfl (Nat.le_of_ble_eq_true rfl) h_r4 (fun q hq => con_X7_fail h_r4 hq) dX2_readSymbol_44 (fun q2 _ => ?_)
      exact c_zret G hQ dX2_readSymbol_47
    · skip
      refine c_aload_n G dX2_readSymbol_48 rfl 0 rfl ?_
      refine c_getR (c' := 1) G fl_X2_15 h_a0 rfl dX2_readSymbol_49 (fun r5 _ h_r5 => ?_)
      refine c_aload_n G dX2_readSymbol_52 rfl 0 rfl ?_
      refine c_getR (c' := 7) G fl_X2_9 h_a0 rfl dX2_readSymbol_53 (fun r6 _ h_r6 => ?_)
      refine c_getJ G fl_X2_66 h_r6 rfl dX2_readSymbol_56 ?_
      refine c_callV_PI (d := 0) (rest := []) G [.long (M1.2.1 r6 8)] yv_X1_findSymbol ml_X2_70 (by omega) (by decide) rfl rfl (Nat.le_of_ble_eq_true rfl) h_r5 (fun q hq => con_X1_findSymbol h_r5 hq) dX2_readSymbol_59 (fun q3 _ => ?_)
      refine c_iconst G m1 dX2_readSymbol_62 kI_m1 ?_
      refine c_icmp_eq (tgt := 75) G dX2_readSymbol_63 (by decide) (fun _ => ?_) (fun _ => ?_)
      · skip
        refine c_aload_n G dX2_readSymbol_75 rfl 0 rfl ?_
        refine c_getR (c' := 1) G fl_X2_15 h_a0 rfl dX2_readSymbol_76 (fun r7 _ h_r7 => ?_)
        refine c_aload_n G dX2_readSymbol_79 rfl 0 rfl ?_
        refine c_getR (c' := 7) G fl_X2_9 h_a0 rfl dX2_readSymbol_80 (fun r8 _ h_r8 => ?_)
        refine c_getJ G fl_X2_66 h_r8 rfl dX2_readSymbol_83 ?_
        refine c_callV_V (d := 0) (rest := []) G [.long (M1.2.1 r8 8)] yv_X1_addSymbol ml_X2_74 (by omega) (by decide) rfl rfl (Nat.le_of_ble_eq_true rfl) h_r7 (fun q hq => con_X1_addSymbol h_r7 hq) dX2_readSymbol_86 (fun M2 _ => ?_)
        refine c_aload_n G dX2_readSymbol_89 rfl 0 rfl ?_
        refine c_getR (c' := 7) G fl_X2_9 h_a0 rfl dX2_readSymbol_90 (fun r9 _ h_r9 => ?_)
        refine c_callV_V (d := 0) (rest := []) G [] yv_X7_advance ml_X2_60 (by omega) (by decide) rfl rfl (Nat.le_of_ble_eq_true rfl) h_r9 (fun q hq => con_X7_advance h_r9 hq) dX2_readSymbol_93 (fun M3 _ => ?_)
        refine c_aload_n G dX2_readSymbol_96 rfl 0 rfl ?_
        refine c_getR (c' := 7) G fl_X2_9 h_a0 rfl dX2_readSymbol_97 (fun r10 _ h_r10 => ?_)
        refine c_ldc2 G (lN 302) kC_X2_78 kW_302 dX2_readSymbol_100 ?_
        refine c_callV_PI (d := 0) (rest := []) G [.long (lN 302)] yv_X7_isWordOf ml_X2_32 (by omega) (by decide) rfl rfl (Nat.le_of_ble_eq_true rfl) h_r10 (fun q hq => con_X7_isWordOf h_r10 hq) dX2_readSymbol_103 (fun q4 _ => ?_)
        refine c_jn (ej := fun (p119 : Mm) => [(0, .ref (wB w + pz (a0)))]) (sj := fun p119 => []) (mj := fun p119 => p119) (pj := 119) (fun p119 => ?_) (fun J2 hJ119 => ?_)
        · skip
          refine c_aload_n G dX2_readSymbol_119 rfl 0 rfl ?_
          refine c_getR (c' := 7) G fl_X2_9 h_a0 rfl dX2_readSymbol_120 (fun r11 _ h_r11 => ?_)
          refine c_ldc2 G (lN 16052) kC_X2_84 kW_16052 dX2_readSymbol_123 ?_
          refine c_callV_PI (d := 0) (rest := []) G [.long (lN 16052)] yv_X7_isWordOf ml_X2_32 (by omega) (by decide) rfl rfl (Nat.le_of_ble_eq_true rfl) h_r11 (fun q hq => con_X7_isWordOf h_r11 hq) dX2_readSymbol_126 (fun q5 _ => ?_)
          refine c_jn (ej := fun (p140 : Mm) => []) (sj := fun p140 => []) (mj := fun p140 => p140) (pj := 140) (fun p140 => ?_) (fun J1 hJ140 => ?_)
          · skip
            refine c_iconst G (nI 1) dX2_readSymbol_140 kI_1 ?_
            refine c_goto (tgt := 145) G dX2_readSymbol_141 (by decide) ?_
            exact c_zret G hQ dX2_readSymbol_145
          · skip
            refine c_if_eq (tgt := 140) G dX2_readSymbol_129 (by decide) (fun _ => ?_) (fun _ => ?_)
            · skip
              exact c_weak _ [] rfl (hJ140 p119)
            · skip
              refine c_aload_n G dX2_readSymbol_132 rfl 0 rfl ?_
              refine c_iconst G (nI 0) dX2_readSymbol_133 kI_0 ?_
              refine c_callV_I (d := 2) (rest := []) G [.int (nI 0)] yv_X2_readAttributes ml_X2_80 (by omega) (by decide) rfl rfl (Nat.le_of_ble_eq_true rfl) h_a0 (fun q hq => con_X2_readAttributes h_a0 hq) dX2_readSymbol_134 (fun q6 _ => ?_)
              refine c_if_eq (tgt := 144) G dX2_readSymbol_137 (by decide) (fun _ => ?_) (fun _ => ?_)
              · skip
                refine c_iconst G (nI 0) dX2_readSymbol_144 kI_0 ?_
                exact c_zret G hQ dX2_readSymbol_145
              · skip
                exact c_weak _ [] rfl (hJ140 q6.2)
        · skip
          refine c_if_eq (tgt := 119) G dX2_readSymbol_106 (by decide) (fun _ => ?_) (fun _ => ?_)
          · skip
            exact c_weak _ [0] rfl (hJ119 M3)
          · skip
            refine c_aload_n G dX2_readSymbol_109 rfl 0 rfl ?_
            refine c_iconst G (nI 1) dX2_readSymbol_110 kI_1 ?_
            refine c_callV_I (d := 2) (rest := []) G [.int (nI 1)] yv_X2_readAttributes ml_X2_80 (by omega) (by decide) rfl rfl (Nat.le_of_ble_eq_true rfl) h_a0 (fun q hq => con_X2_readAttributes h_a0 hq) dX2_readSymbol_111 (fun q7 _ => ?_)
            refine c_if_ne (tgt := 119) G dX2_readSymbol_114 (by decide) (fun _ => ?_) (fun _ => ?_)
            · skip
              refine c_iconst G (nI 0) dX2_readSymbol_117 kI_0 ?_
              exact c_zret G hQ dX2_readSymbol_118
            · skip
              exact c_weak _ [0] rfl (hJ119 q7.2)
      · skip
        refine c_aload_n G dX2_readSymbol_66 rfl 0 rfl ?_
        refine c_getR (c' := 7) G fl_X2_9 h_a0 rfl dX2_readSymbol_67 (fun r12 _ h_r12 => ?_)
        refine c_iconst G (nI 4) dX2_readSymbol_70 kI_4 ?_
        refine c_callV_I (d := 0) (rest := []) G [.int (nI 4)] yv_X7_fail ml_X2_54 (by omega) (by decide) rfl rfl (Nat.le_of_ble_eq_true rfl) h_r12 (fun q hq => con_X7_fail h_r12 hq) dX2_readSymbol_71 (fun q8 _ => ?_)
        exact c_zret G hQ dX2_readSymbol_74
  · skip
    refine c_aload_n G dX2_readSymbol_12 rfl 0 rfl ?_
    refine c_getR (c' := 7) G fl_X2_9 h_a0 rfl dX2_readSymbol_13 (fun r13 _ h_r13 => ?_)
    refine c_bipush G (nI 6) dX2_readSymbol_16 kB_6 ?_
    refine c_callV_I (d := 0) (rest := []) G [.int (nI 6)] yv_X7_fail ml_X2_54 (by omega) (by decide) rfl rfl (Nat.le_of_ble_eq_true rfl) h_r13 (fun q hq => con_X7_fail h_r13 hq) dX2_readSymbol_18 (fun q9 _ => ?_)
    exact c_zret G hQ dX2_readSymbol_21
set_option maxHeartbeats 4000000 in
set_option maxRecDepth 100000 in
theorem con_X7_takeSign {w : Wp} {N : Nat} {a0 : Nat} {a1 : Int32} {M : Mm} {q : Int32 × Mm} (h_a0 : lay a0 = (5, 7)) (hq : D_X7_takeSign N a0 a1 M = some q) : Con w 1 yX7_takeSign cX7_takeSign 2 (some .boolean) [.ref (wB w + pz (a0)), .int a1] M (encI q) := by
  refine Con.of encI q _ hq (by decide) (Nat.le_of_ble_eq_true rfl) ?_
  intro X G Q hQ
  have G : Good w X cX7_takeSign 2 RX7 (some .boolean) 1 := G
  refine c_weak [(0, .ref (wB w + pz (a0))), (1, .int a1)] [0, 1] rfl ?_
  rw [D_X7_takeSign]
  refine c_aload_n G dX7_takeSign_0 rfl 0 rfl ?_
  refine c_getI G fl_X7_61 h_a0 rfl dX7_takeSign_1 ?_
  refine c_iconst G (nI 3) dX7_takeSign_4 kI_3 ?_
  refine c_icmp_ne (tgt := 18) G dX7_takeSign_5 (by decide) (fun _ => ?_) (fun _ => ?_)
  · skip
    refine c_aload_n G dX7_takeSign_8 rfl 0 rfl ?_
    refine c_getJ G fl_X7_64 h_a0 rfl dX7_takeSign_9 ?_
    refine c_iload_n G dX7_takeSign_12 rfl 1 rfl ?_
    refine c_i2l G dX7_takeSign_13 ?_
    refine c_lcmp G dX7_takeSign_14 ?_
    refine c_if_eq (tgt := 24) G dX7_takeSign_15 (by decide) (fun _ => ?_) (fun _ => ?_)
    · skip
      refine c_aload_n G dX7_takeSign_24 rfl 0 rfl ?_
      refine c_callV_V (d := 0) (rest := []) G [] yv_X7_advance ml_X7_58 (by omega) (by decide) rfl rfl (Nat.le_of_ble_eq_true rfl) h_a0 (fun q hq => con_X7_advance h_a0 hq) dX7_takeSign_25 (fun M1 _ => ?_)
      refine c_iconst G (nI 1) dX7_takeSign_28 kI_1 ?_
      exact c_zret G hQ dX7_takeSign_29
    · skip
      refine c_aload_n G dX7_takeSign_18 rfl 0 rfl ?_
      refine c_iconst G (nI 2) dX7_takeSign_19 kI_2 ?_
      refine c_callV_I (d := 0) (rest := []) G [.int (nI 2)] yv_X7_fail ml_X7_88 (by omega) (by decide) rfl rfl (Nat.le_of_ble_eq_true rfl) h_a0 (fun q hq => con_X7_fail h_a0 hq) dX7_takeSign_20 (fun q1 _ => ?_)
      exact c_zret G hQ dX7_takeSign_23
  · skip
    refine c_aload_n G dX7_takeSign_18 rfl 0 rfl ?_
    refine c_iconst G (nI 2) dX7_takeSign_19 kI_2 ?_
    refine c_callV_I (d := 0) (rest := []) G [.int (nI 2)] yv_X7_fail ml_X7_88 (by omega) (by decide) rfl rfl (Nat.le_of_ble_eq_true rfl) h_a0 (fun q hq => con_X7_fail h_a0 hq) dX7_takeSign_20 (fun q2 _ => ?_)
    exact c_zret G hQ dX7_takeSign_23
set_option maxHeartbeats 4000000 in
set_option maxRecDepth 100000 in
theorem cl_X1_findProduction_2 {w : Wp} {M : Mm} {X : Cx} {Q : State → Prop} {ρ : Int32} (G : Good w X cX1_findProduction 4 RX1 (some .int) 0) (hQ : Q = MQ (xL X) (Qd w ((encPI M) ρ)) (xA X) (xS X) (xk X) (xs X) (Aw w)) {a0 : Nat} {a1 : Int64} (h_a0 : lay a0 = (5, 1)) : ∀ (n : Nat) (l3_1 : Int32), Cov w X Q ρ some 4 2 [(0, .ref (wB w + pz (a0))), (1, .long a1), (3, .int l3_1)] [] M (L_X1_findProduction_2 M a0 a1 n l3_1) := by
  intro n
  induction n with
  | zero => intro l3_1; exact c_none
  | succ n ih =>
    intro l3_1
    rw [L_X1_findProduction_2]
    refine c_iload_n G dX1_findProduction_2 rfl 2 rfl ?_
    refine c_aload_n G dX1_findProduction_3 rfl 0 rfl ?_
    refine c_getI G fl_X1_65 h_a0 rfl dX1_findProduction_4 ?_
    refine c_icmp_ge (tgt := 29) G dX1_findProduction_7 (by decide) (fun _ => ?_) (fun _ => ?_)
    · skip
      refine c_iconst G m1 dX1_findProduction_29 kI_m1 ?_
      exact c_iretP G hQ dX1_findProduction_30
    · skip
      refine c_aload_n G dX1_findProduction_10 rfl 0 rfl ?_
      refine c_getF G fl_X1_18 h_a0 rfl dX1_findProduction_11 ?_
      refine c_iload_n G dX1_findProduction_14 rfl 2 rfl ?_
      refine c_lald G (lf h_a0 5 rfl) dX1_findProduction_15 (fun v1 _ => ?_)
      refine c_lload_n G dX1_findProduction_16 rfl 1 rfl ?_
      refine c_lcmp G dX1_findProduction_17 ?_
      refine c_if_ne (tgt := 23) G dX1_findProduction_18 (by decide) (fun _ => ?_) (fun _ => ?_)
      · skip
        refine c_iload_n G dX1_findProduction_21 rfl 2 rfl ?_
        exact c_iretP G hQ dX1_findProduction_22
      · skip
        refine c_iinc G (fun y__ => [(3, .int y__), (0, .ref (wB w + pz (a0))), (1, .long a1)]) dX1_findProduction_23 2 rfl kI_1 (by decide) (fun _ => rfl) (fun l3_2 _ => ?_)
        refine c_goto (tgt := 2) G dX1_findProduction_26 (by decide) ?_
        exact c_weak _ [1, 2, 0] rfl (ih l3_2)
set_option maxHeartbeats 4000000 in
set_option maxRecDepth 100000 in
theorem con_X1_findProduction {w : Wp} {N : Nat} {a0 : Nat} {a1 : Int64} {M : Mm} {q : Int32} (h_a0 : lay a0 = (5, 1)) (hq : D_X1_findProduction N a0 a1 M = some q) : Con w 0 yX1_findProduction cX1_findProduction 4 (some .int) [.ref (wB w + pz (a0)), .long a1] M ((encPI M) q) := by
  refine Con.of (encPI M) q _ hq (by decide) (Nat.le_of_ble_eq_true rfl) ?_
  intro X G Q hQ
  have G : Good w X cX1_findProduction 4 RX1 (some .int) 0 := G
  refine c_weak [(0, .ref (wB w + pz (a0))), (1, .long a1)] [0, 1] rfl ?_
  rw [D_X1_findProduction]
  refine c_iconst G (nI 0) dX1_findProduction_0 kI_0 ?_
  refine c_istore_n G [(3, .int (nI 0)), (0, .ref (wB w + pz (a0))), (1, .long a1)] dX1_findProduction_1 rfl (by decide) rfl ?_
  refine c_weak _ [1, 2, 0] rfl (cl_X1_findProduction_2 G hQ  h_a0 N (nI 0))
set_option maxHeartbeats 4000000 in
set_option maxRecDepth 100000 in
theorem con_X1_addProduction {w : Wp} {N : Nat} {a0 : Nat} {a1 : Int64} {M : Mm} {q : Mm} (h_a0 : lay a0 = (5, 1)) (hq : D_X1_addProduction N a0 a1 M = some q) : Con w 0 yX1_addProduction cX1_addProduction 3 none [.ref (wB w + pz (a0)), .long a1] M (encV q) := by
  refine Con.of encV q _ hq (by decide) (Nat.le_of_ble_eq_true rfl) ?_
  intro X G Q hQ
  have G : Good w X cX1_addProduction 3 RX1 none 0 := G
  refine c_weak [(0, .ref (wB w + pz (a0))), (1, .long a1)] [0, 1] rfl ?_
  rw [D_X1_addProduction]
  refine c_aload_n G dX1_addProduction_0 rfl 0 rfl ?_
  refine c_getF G fl_X1_18 h_a0 rfl dX1_addProduction_1 ?_
  refine c_aload_n G dX1_addProduction_4 rfl 0 rfl ?_
  refine c_getI G fl_X1_65 h_a0 rfl dX1_addProduction_5 ?_
  refine c_lload_n G dX1_addProduction_8 rfl 1 rfl ?_
  refine c_last G (lf h_a0 5 rfl) dX1_addProduction_9 (fun M1 _ => ?_)
  refine c_aload_n G dX1_addProduction_10 rfl 0 rfl ?_
  refine c_getF G fl_X1_28 h_a0 rfl dX1_addProduction_11 ?_
  refine c_aload_n G dX1_addProduction_14 rfl 0 rfl ?_
  refine c_getI G fl_X1_65 h_a0 rfl dX1_addProduction_15 ?_
  refine c_iconst G (nI 0) dX1_addProduction_18 kI_0 ?_
  refine c_iast G (lf h_a0 8 rfl) dX1_addProduction_19 (fun M2 _ => ?_)
  refine c_aload_n G dX1_addProduction_20 rfl 0 rfl ?_
  refine c_getF G fl_X1_34 h_a0 rfl dX1_addProduction_21 ?_
  refine c_aload_n G dX1_addProduction_24 rfl 0 rfl ?_
  refine c_getI G fl_X1_65 h_a0 rfl dX1_addProduction_25 ?_
  refine c_iconst G (nI 0) dX1_addProduction_28 kI_0 ?_
  refine c_iast G (lf h_a0 10 rfl) dX1_addProduction_29 (fun M3 _ => ?_)
  refine c_aload_n G dX1_addProduction_30 rfl 0 rfl ?_
  refine c_getF G fl_X1_37 h_a0 rfl dX1_addProduction_31 ?_
  refine c_aload_n G dX1_addProduction_34 rfl 0 rfl ?_
  refine c_getI G fl_X1_65 h_a0 rfl dX1_addProduction_35 ?_
  refine c_iconst G (nI 0) dX1_addProduction_38 kI_0 ?_
  refine c_iast G (lf h_a0 11 rfl) dX1_addProduction_39 (fun M4 _ => ?_)
  refine c_aload_n G dX1_addProduction_40 rfl 0 rfl ?_
  refine c_getF G fl_X1_40 h_a0 rfl dX1_addProduction_41 ?_
  refine c_aload_n G dX1_addProduction_44 rfl 0 rfl ?_
  refine c_getI G fl_X1_65 h_a0 rfl dX1_addProduction_45 ?_
  refine c_iconst G (nI 0) dX1_addProduction_48 kI_0 ?_
  refine c_iast G (lf h_a0 12 rfl) dX1_addProduction_49 (fun M5 _ => ?_)
  refine c_aload_n G dX1_addProduction_50 rfl 0 rfl ?_
  refine c_getF G fl_X1_43 h_a0 rfl dX1_addProduction_51 ?_
  refine c_aload_n G dX1_addProduction_54 rfl 0 rfl ?_
  refine c_getI G fl_X1_65 h_a0 rfl dX1_addProduction_55 ?_
  refine c_iconst G (nI 0) dX1_addProduction_58 kI_0 ?_
  refine c_iast G (lf h_a0 13 rfl) dX1_addProduction_59 (fun M6 _ => ?_)
  refine c_aload_n G dX1_addProduction_60 rfl 0 rfl ?_
  refine c_dup G dX1_addProduction_61 rfl ?_
  refine c_getI G fl_X1_65 h_a0 rfl dX1_addProduction_62 ?_
  refine c_iconst G (nI 1) dX1_addProduction_65 kI_1 ?_
  refine c_iadd G dX1_addProduction_66 ?_
  refine c_putI G fp_X1_65 h_a0 rfl dX1_addProduction_67 (fun M7 _ => ?_)
  exact c_vret G hQ dX1_addProduction_70
set_option maxHeartbeats 4000000 in
set_option maxRecDepth 100000 in
theorem con_X1_insOf {w : Wp} {N : Nat} {a0 : Nat} {a1 : Int32} {M : Mm} {q : Int32} (h_a0 : lay a0 = (5, 1)) (hq : D_X1_insOf N a0 a1 M = some q) : Con w 0 yX1_insOf cX1_insOf 2 (some .int) [.ref (wB w + pz (a0)), .int a1] M ((encPI M) q) := by
  refine Con.of (encPI M) q _ hq (by decide) (Nat.le_of_ble_eq_true rfl) ?_
  intro X G Q hQ
  have G : Good w X cX1_insOf 2 RX1 (some .int) 0 := G
  refine c_weak [(0, .ref (wB w + pz (a0))), (1, .int a1)] [0, 1] rfl ?_
  rw [D_X1_insOf]
  refine c_iconst G (nI 1) dX1_insOf_0 kI_1 ?_
  refine c_aload_n G dX1_insOf_1 rfl 0 rfl ?_
  refine c_getF G fl_X1_21 h_a0 rfl dX1_insOf_2 ?_
  refine c_iload_n G dX1_insOf_5 rfl 1 rfl ?_
  refine c_iald G (lf h_a0 6 rfl) dX1_insOf_6 (fun v1 _ => ?_)
  refine c_ishl G dX1_insOf_7 ?_
  refine c_iconst G (nI 1) dX1_insOf_8 kI_1 ?_
  refine c_isub G dX1_insOf_9 ?_
  exact c_iretP G hQ dX1_insOf_10
set_option maxHeartbeats 4000000 in
set_option maxRecDepth 100000 in
theorem con_X1_outsOf {w : Wp} {N : Nat} {a0 : Nat} {a1 : Int32} {M : Mm} {q : Int32} (h_a0 : lay a0 = (5, 1)) (hq : D_X1_outsOf N a0 a1 M = some q) : Con w 0 yX1_outsOf cX1_outsOf 2 (some .int) [.ref (wB w + pz (a0)), .int a1] M ((encPI M) q) := by
  refine Con.of (encPI M) q _ hq (by decide) (Nat.le_of_ble_eq_true rfl) ?_
  intro X G Q hQ
  have G : Good w X cX1_outsOf 2 RX1 (some .int) 0 := G
  refine c_weak [(0, .ref (wB w + pz (a0))), (1, .int a1)] [0, 1] rfl ?_
  rw [D_X1_outsOf]
  refine c_iconst G (nI 1) dX1_outsOf_0 kI_1 ?_
  refine c_aload_n G dX1_outsOf_1 rfl 0 rfl ?_
  refine c_getF G fl_X1_25 h_a0 rfl dX1_outsOf_2 ?_
  refine c_iload_n G dX1_outsOf_5 rfl 1 rfl ?_
  refine c_iald G (lf h_a0 7 rfl) dX1_outsOf_6 (fun v1 _ => ?_)
  refine c_ishl G dX1_outsOf_7 ?_
  refine c_iconst G (nI 1) dX1_outsOf_8 kI_1 ?_
  refine c_isub G dX1_outsOf_9 ?_
  refine c_aload_n G dX1_outsOf_10 rfl 0 rfl ?_
  refine c_getF G fl_X1_21 h_a0 rfl dX1_outsOf_11 ?_
  refine c_iload_n G dX1_outsOf_14 rfl 1 rfl ?_
  refine c_iald G (lf h_a0 6 rfl) dX1_outsOf_15 (fun v2 _ => ?_)
  refine c_ishl G dX1_outsOf_16 ?_
  exact c_iretP G hQ dX1_outsOf_17
set_option maxHeartbeats 4000000 in
set_option maxRecDepth 100000 in
theorem con_X1_addSide {w : Wp} {N : Nat} {a0 : Nat} {a1 : Int32} {a2 : Int32} {M : Mm} {q : Mm} (h_a0 : lay a0 = (5, 1)) (hq : D_X1_addSide N a0 a1 a2 M = some q) : Con w 1 yX1_addSide cX1_addSide 4 none [.ref (wB w + pz (a0)), .int a1, .int a2] M (encV q) := by
  refine Con.of encV q _ hq (by decide) (Nat.le_of_ble_eq_true rfl) ?_
  intro X G Q hQ
  have G : Good w X cX1_addSide 4 RX1 none 1 := G
  refine c_weak [(0, .ref (wB w + pz (a0))), (1, .int a1), (2, .int a2)] [0, 1, 2] rfl ?_
  rw [D_X1_addSide]
  refine c_aload_n G dX1_addSide_0 rfl 0 rfl ?_
  refine c_getF G fl_X1_28 h_a0 rfl dX1_addSide_1 ?_
  refine c_iload_n G dX1_addSide_4 rfl 1 rfl ?_
  refine c_iald G (lf h_a0 8 rfl) dX1_addSide_5 (fun v1 _ => ?_)
  refine c_istore_n G [(3, .int v1), (0, .ref (wB w + pz (a0))), (1, .int a1), (2, .int a2)] dX1_addSide_6 rfl (by decide) rfl ?_
  refine c_aload_n G dX1_addSide_7 rfl 1 rfl ?_
  refine c_getF G fl_X1_31 h_a0 rfl dX1_addSide_8 ?_
  refine c_iconst G (nI 4) dX1_addSide_11 kI_4 ?_
  refine c_iload_n G dX1_addSide_12 rfl 2 rfl ?_
  refine c_imul G dX1_addSide_13 ?_
  refine c_iload_n G dX1_addSide_14 rfl 0 rfl ?_
  refine c_iadd G dX1_addSide_15 ?_
  refine c_iload_n G dX1_addSide_16 rfl 3 rfl ?_
  refine c_iast G (lf h_a0 9 rfl) dX1_addSide_17 (fun M1 _ => ?_)
  refine c_aload_n G dX1_addSide_18 rfl 1 rfl ?_
  refine c_getF G fl_X1_34 h_a0 rfl dX1_addSide_19 ?_
  refine c_iload_n G dX1_addSide_22 rfl 2 rfl ?_
  refine c_dup2 G dX1_addSide_23 rfl rfl ?_
  refine c_iald G (lf h_a0 10 rfl) dX1_addSide_24 (fun v2 _ => ?_)
  refine c_aload_n G dX1_addSide_25 rfl 1 rfl ?_
  refine c_iload_n G dX1_addSide_26 rfl 3 rfl ?_
  refine c_callV_PI (d := 0) (rest := [.int v2, .int a1, .ref (wB w + pz ((a0 + 8)))]) G [.int a2] yv_X1_insOf ml_X1_91 (by omega) (by decide) rfl rfl (Nat.le_of_ble_eq_true rfl) h_a0 (fun q hq => con_X1_insOf h_a0 hq) dX1_addSide_27 (fun q1 _ => ?_)
  refine c_aload_n G dX1_addSide_30 rfl 1 rfl ?_
  refine c_iload_n G dX1_addSide_31 rfl 3 rfl ?_
  refine c_callV_PI (d := 0) (rest := [.int q1, .int v2, .int a1, .ref (wB w + pz ((a0 + 8)))]) G [.int a2] yv_X1_outsOf ml_X1_94 (by omega) (by decide) rfl rfl (Nat.le_of_ble_eq_true rfl) h_a0 (fun q hq => con_X1_outsOf h_a0 hq) dX1_addSide_32 (fun q2 _ => ?_)
  refine c_ior G dX1_addSide_35 ?_
  refine c_bipush G (nI 8) dX1_addSide_36 kB_8 ?_
  refine c_iload_n G dX1_addSide_38 rfl 0 rfl ?_
  refine c_imul G dX1_addSide_39 ?_
  refine c_ishl G dX1_addSide_40 ?_
  refine c_ior G dX1_addSide_41 ?_
  refine c_iast G (lf h_a0 10 rfl) dX1_addSide_42 (fun M2 _ => ?_)
  refine c_aload_n G dX1_addSide_43 rfl 1 rfl ?_
  refine c_getF G fl_X1_37 h_a0 rfl dX1_addSide_44 ?_
  refine c_iload_n G dX1_addSide_47 rfl 2 rfl ?_
  refine c_dup2 G dX1_addSide_48 rfl rfl ?_
  refine c_iald G (lf h_a0 11 rfl) dX1_addSide_49 (fun v3 _ => ?_)
  refine c_iload_n G dX1_addSide_50 rfl 0 rfl ?_
  refine c_bj (ej := fun (p67 : Int32) => [(0, .ref (wB w + pz (a0))), (1, .int a1), (3, .int v1)]) (sj := fun p67 => [.int p67, .int v3, .int a1, .ref (wB w + pz ((a0 + 9)))]) (mj := fun p67 => M2) (pj := 67) (fun p67 => ?_) (fun F hJ67 => ?_)
  · skip
    refine c_bipush G (nI 8) dX1_addSide_67 kB_8 ?_
    refine c_iload_n G dX1_addSide_69 rfl 2 rfl ?_
    refine c_imul G dX1_addSide_70 ?_
    refine c_ishl G dX1_addSide_71 ?_
    refine c_ior G dX1_addSide_72 ?_
    refine c_iast G (lf h_a0 11 rfl) dX1_addSide_73 (fun M3 _ => ?_)
    refine c_aload_n G dX1_addSide_74 rfl 0 rfl ?_
    refine c_getF G fl_X1_28 h_a0 rfl dX1_addSide_75 ?_
    refine c_iload_n G dX1_addSide_78 rfl 1 rfl ?_
    refine c_dup2 G dX1_addSide_79 rfl rfl ?_
    refine c_iald G (lf h_a0 8 rfl) dX1_addSide_80 (fun v4 _ => ?_)
    refine c_iconst G (nI 1) dX1_addSide_81 kI_1 ?_
    refine c_iadd G dX1_addSide_82 ?_
    refine c_iast G (lf h_a0 8 rfl) dX1_addSide_83 (fun M4 _ => ?_)
    exact c_vret G hQ dX1_addSide_84
  · skip
    refine c_if_ne (tgt := 62) G dX1_addSide_51 (by decide) (fun _ => ?_) (fun _ => ?_)
    · skip
      refine c_aload_n G dX1_addSide_54 rfl 1 rfl ?_
      refine c_iload_n G dX1_addSide_55 rfl 3 rfl ?_
      refine c_callV_PI (d := 0) (rest := [.int v3, .int a1, .ref (wB w + pz ((a0 + 9)))]) G [.int a2] yv_X1_outsOf ml_X1_94 (by omega) (by decide) rfl rfl (Nat.le_of_ble_eq_true rfl) h_a0 (fun q hq => con_X1_outsOf h_a0 hq) dX1_addSide_56 (fun q3 _ => ?_)
      refine c_goto (tgt := 67) G dX1_addSide_59 (by decide) ?_
      exact c_weak _ [1, 2, 0] rfl (hJ67 q3)
    · skip
      refine c_aload_n G dX1_addSide_62 rfl 1 rfl ?_
      refine c_iload_n G dX1_addSide_63 rfl 3 rfl ?_
      refine c_callV_PI (d := 0) (rest := [.int v3, .int a1, .ref (wB w + pz ((a0 + 9)))]) G [.int a2] yv_X1_insOf ml_X1_91 (by omega) (by decide) rfl rfl (Nat.le_of_ble_eq_true rfl) h_a0 (fun q hq => con_X1_insOf h_a0 hq) dX1_addSide_64 (fun q4 _ => ?_)
      exact c_weak _ [1, 2, 0] rfl (hJ67 q4)
set_option maxHeartbeats 4000000 in
set_option maxRecDepth 100000 in
theorem con_X2_readSide {w : Wp} {N : Nat} {a0 : Nat} {M : Mm} {q : Int32 × Mm} (h_a0 : lay a0 = (5, 2)) (hq : D_X2_readSide N a0 M = some q) : Con w 2 yX2_readSide cX2_readSide 2 (some .boolean) [.ref (wB w + pz (a0))] M (encI q) := by
  refine Con.of encI q _ hq (by decide) (Nat.le_of_ble_eq_true rfl) ?_
  intro X G Q hQ
  have G : Good w X cX2_readSide 2 RX2 (some .boolean) 2 := G
  refine c_weak [(0, .ref (wB w + pz (a0)))] [0] rfl ?_
  rw [D_X2_readSide]
  refine c_aload_n G dX2_readSide_0 rfl 0 rfl ?_
  refine c_getR (c' := 7) G fl_X2_9 h_a0 rfl dX2_readSide_1 (fun r1 _ h_r1 => ?_)
  refine c_callV_PI (d := 0) (rest := []) G [] yv_X7_isName ml_X2_63 (by omega) (by decide) rfl rfl (Nat.le_of_ble_eq_true rfl) h_r1 (fun q hq => con_X7_isName h_r1 hq) dX2_readSide_4 (fun q1 _ => ?_)
  refine c_if_ne (tgt := 19) G dX2_readSide_7 (by decide) (fun _ => ?_) (fun _ => ?_)
  · skip
    refine c_aload_n G dX2_readSide_10 rfl 0 rfl ?_
    refine c_getR (c' := 7) G fl_X2_9 h_a0 rfl dX2_readSide_11 (fun r2 _ h_r2 => ?_)
    refine c_iconst G (nI 2) dX2_readSide_14 kI_2 ?_
    refine c_callV_I (d := 0) (rest := []) G [.int (nI 2)] yv_X7_fail ml_X2_54 (by omega) (by decide) rfl rfl (Nat.le_of_ble_eq_true rfl) h_r2 (fun q hq => con_X7_fail h_r2 hq) dX2_readSide_15 (fun q2 _ => ?_)
    exact c_zret G hQ dX2_readSide_18
  · skip
    refine c_aload_n G dX2_readSide_19 rfl 0 rfl ?_
    refine c_getR (c' := 1) G fl_X2_15 h_a0 rfl dX2_readSide_20 (fun r3 _ h_r3 => ?_)
    refine c_aload_n G dX2_readSide_23 rfl 0 rfl ?_
    refine c_getR (c' := 7) G fl_X2_9 h_a0 rfl dX2_readSide_24 (fun r4 _ h_r4 => ?_)
    refine c_getJ G fl_X2_66 h_r4 rfl dX2_readSide_27 ?_
    refine c_callV_PI (d := 0) (rest := []) G [.long (M.2.1 r4 8)] yv_X1_findSymbol ml_X2_70 (by omega) (by decide) rfl rfl (Nat.le_of_ble_eq_true rfl) h_r3 (fun q hq => con_X1_findSymbol h_r3 hq) dX2_readSide_30 (fun q3 _ => ?_)
    refine c_istore_n G [(1, .int q3), (0, .ref (wB w + pz (a0)))] dX2_readSide_33 rfl (by decide) rfl ?_
    refine c_iload_n G dX2_readSide_34 rfl 0 rfl ?_
    refine c_iconst G m1 dX2_readSide_35 kI_m1 ?_
    refine c_icmp_ne (tgt := 48) G dX2_readSide_36 (by decide) (fun _ => ?_) (fun _ => ?_)
    · skip
      refine c_aload_n G dX2_readSide_39 rfl 1 rfl ?_
      refine c_getR (c' := 7) G fl_X2_9 h_a0 rfl dX2_readSide_40 (fun r5 _ h_r5 => ?_)
      refine c_iconst G (nI 3) dX2_readSide_43 kI_3 ?_
      refine c_callV_I (d := 0) (rest := []) G [.int (nI 3)] yv_X7_fail ml_X2_54 (by omega) (by decide) rfl rfl (Nat.le_of_ble_eq_true rfl) h_r5 (fun q hq => con_X7_fail h_r5 hq) dX2_readSide_44 (fun q4 _ => ?_)
      exact c_zret G hQ dX2_readSide_47
    · skip
      refine c_aload_n G dX2_readSide_48 rfl 1 rfl ?_
      refine c_getR (c' := 1) G fl_X2_15 h_a0 rfl dX2_readSide_49 (fun r6 _ h_r6 => ?_)
      refine c_getF G fl_X2_116 h_r6 rfl dX2_readSide_52 ?_
      refine c_aload_n G dX2_readSide_55 rfl 1 rfl ?_
      refine c_getR (c' := 1) G fl_X2_15 h_a0 rfl dX2_readSide_56 (fun r7 _ h_r7 => ?_)
      refine c_getI G fl_X2_104 h_r7 rfl dX2_readSide_59 ?_
      refine c_iconst G (nI 1) dX2_readSide_62 kI_1 ?_
      refine c_isub G dX2_readSide_63 ?_
      refine c_iald G (lf h_r6 8 rfl) dX2_readSide_64 (fun v1 _ => ?_)
      refine c_iconst G (nI 4) dX2_readSide_65 kI_4 ?_
      refine c_icmp_lt (tgt := 79) G dX2_readSide_66 (by decide) (fun _ => ?_) (fun _ => ?_)
      · skip
        refine c_aload_n G dX2_readSide_79 rfl 1 rfl ?_
        refine c_getR (c' := 1) G fl_X2_15 h_a0 rfl dX2_readSide_80 (fun r8 _ h_r8 => ?_)
        refine c_aload_n G dX2_readSide_83 rfl 1 rfl ?_
        refine c_getR (c' := 1) G fl_X2_15 h_a0 rfl dX2_readSide_84 (fun r9 _ h_r9 => ?_)
        refine c_getI G fl_X2_104 h_r9 rfl dX2_readSide_87 ?_
        refine c_iconst G (nI 1) dX2_readSide_90 kI_1 ?_
        refine c_isub G dX2_readSide_91 ?_
        refine c_iload_n G dX2_readSide_92 rfl 0 rfl ?_
        refine c_callV_V (d := 1) (rest := []) G [.int ((M.1 r9 1) - (nI 1)), .int q3] yv_X1_addSide ml_X2_119 (by omega) (by decide) rfl rfl (Nat.le_of_ble_eq_true rfl) h_r8 (fun q hq => con_X1_addSide h_r8 hq) dX2_readSide_93 (fun M1 _ => ?_)
        refine c_aload_n G dX2_readSide_96 rfl 1 rfl ?_
        refine c_getR (c' := 7) G fl_X2_9 h_a0 rfl dX2_readSide_97 (fun r10 _ h_r10 => ?_)
        refine c_callV_V (d := 0) (rest := []) G [] yv_X7_advance ml_X2_60 (by omega) (by decide) rfl rfl (Nat.le_of_ble_eq_true rfl) h_r10 (fun q hq => con_X7_advance h_r10 hq) dX2_readSide_100 (fun M2 _ => ?_)
        refine c_iconst G (nI 1) dX2_readSide_103 kI_1 ?_
        exact c_zret G hQ dX2_readSide_104
      · skip
        refine c_aload_n G dX2_readSide_69 rfl 1 rfl ?_
        refine c_getR (c' := 7) G fl_X2_9 h_a0 rfl dX2_readSide_70 (fun r11 _ h_r11 => ?_)
        refine c_bipush G (nI 6) dX2_readSide_73 kB_6 ?_
        refine c_callV_I (d := 0) (rest := []) G [.int (nI 6)] yv_X7_fail ml_X2_54 (by omega) (by decide) rfl rfl (Nat.le_of_ble_eq_true rfl) h_r11 (fun q hq => con_X7_fail h_r11 hq) dX2_readSide_75 (fun q5 _ => ?_)
        exact c_zret G hQ dX2_readSide_78
set_option maxHeartbeats 4000000 in
set_option maxRecDepth 100000 in
theorem cl_X2_readProduction_123 {w : Wp} {X : Cx} {Q : State → Prop} {ρ : Int32 × Mm} (G : Good w X cX2_readProduction 3 RX2 (some .boolean) 3) (hQ : Q = MQ (xL X) (Qd w (encI ρ)) (xA X) (xS X) (xk X) (xs X) (Aw w)) {a0 : Nat} {N : Nat} (h_a0 : lay a0 = (5, 2)) : ∀ (n : Nat) (l1_1 : Int32) (l2_1 : Int32) (M5 : Mm), Cov w X Q ρ some 3 123 [(0, .ref (wB w + pz (a0))), (1, .int l1_1), (2, .int l2_1)] [] M5 (L_X2_readProduction_123 a0 N n l1_1 l2_1 M5) := by
  intro n
  induction n with
  | zero => intro l1_1 l2_1 M5; exact c_none
  | succ n ih =>
    intro l1_1 l2_1 M5
    rw [L_X2_readProduction_123]
    refine c_iload_n G dX2_readProduction_123 rfl 2 rfl ?_
    refine c_bipush G (nI 8) dX2_readProduction_124 kB_8 ?_
    refine c_icmp_ge (tgt := 154) G dX2_readProduction_126 (by decide) (fun _ => ?_) (fun _ => ?_)
    · skip
      refine c_iload_n G dX2_readProduction_154 rfl 1 rfl ?_
      exact c_zret G hQ dX2_readProduction_155
    · skip
      refine c_iload_n G dX2_readProduction_129 rfl 1 rfl ?_
      refine c_if_eq (tgt := 154) G dX2_readProduction_130 (by decide) (fun _ => ?_) (fun _ => ?_)
      · skip
        refine c_iload_n G dX2_readProduction_154 rfl 1 rfl ?_
        exact c_zret G hQ dX2_readProduction_155
      · skip
        refine c_aload_n G dX2_readProduction_133 rfl 0 rfl ?_
        refine c_getR (c' := 7) G fl_X2_9 h_a0 rfl dX2_readProduction_134 (fun r11 _ h_r11 => ?_)
        refine c_callV_PI (d := 0) (rest := []) G [] yv_X7_isName ml_X2_63 (by omega) (by decide) rfl rfl (Nat.le_of_ble_eq_true rfl) h_r11 (fun q hq => con_X7_isName h_r11 hq) dX2_readProduction_137 (fun q5 _ => ?_)
        refine c_if_eq (tgt := 154) G dX2_readProduction_140 (by decide) (fun _ => ?_) (fun _ => ?_)
        · skip
          refine c_iload_n G dX2_readProduction_154 rfl 1 rfl ?_
          exact c_zret G hQ dX2_readProduction_155
        · skip
          refine c_aload_n G dX2_readProduction_143 rfl 0 rfl ?_
          refine c_callV_I (d := 2) (rest := []) G [] yv_X2_readSide ml_X2_113 (by omega) (by decide) rfl rfl (Nat.le_of_ble_eq_true rfl) h_a0 (fun q hq => con_X2_readSide h_a0 hq) dX2_readProduction_144 (fun q6 _ => ?_)
          refine c_istore_n G [(1, .int q6.1), (0, .ref (wB w + pz (a0))), (2, .int l2_1)] dX2_readProduction_147 rfl (by decide) rfl ?_
          refine c_iinc G (fun y__ => [(2, .int y__), (1, .int q6.1), (0, .ref (wB w + pz (a0)))]) dX2_readProduction_148 2 rfl kI_1 (by decide) (fun _ => rfl) (fun l2_2 _ => ?_)
          refine c_goto (tgt := 123) G dX2_readProduction_151 (by decide) ?_
          exact c_weak _ [2, 1, 0] rfl (ih q6.1 l2_2 q6.2)
set_option maxHeartbeats 4000000 in
set_option maxRecDepth 100000 in
theorem con_X2_readProduction {w : Wp} {N : Nat} {a0 : Nat} {M : Mm} {q : Int32 × Mm} (h_a0 : lay a0 = (5, 2)) (hq : D_X2_readProduction N a0 M = some q) : Con w 3 yX2_readProduction cX2_readProduction 3 (some .boolean) [.ref (wB w + pz (a0))] M (encI q) := by
  refine Con.of encI q _ hq (by decide) (Nat.le_of_ble_eq_true rfl) ?_
  intro X G Q hQ
  have G : Good w X cX2_readProduction 3 RX2 (some .boolean) 3 := G
  refine c_weak [(0, .ref (wB w + pz (a0)))] [0] rfl ?_
  rw [D_X2_readProduction]
  refine c_aload_n G dX2_readProduction_0 rfl 0 rfl ?_
  refine c_getR (c' := 1) G fl_X2_15 h_a0 rfl dX2_readProduction_1 (fun r1 _ h_r1 => ?_)
  refine c_getI G fl_X2_104 h_r1 rfl dX2_readProduction_4 ?_
  refine c_bipush G (nI 12) dX2_readProduction_7 kB_12 ?_
  refine c_icmp_lt (tgt := 22) G dX2_readProduction_9 (by decide) (fun _ => ?_) (fun _ => ?_)
  · skip
    refine c_aload_n G dX2_readProduction_22 rfl 0 rfl ?_
    refine c_getR (c' := 7) G fl_X2_9 h_a0 rfl dX2_readProduction_23 (fun r2 _ h_r2 => ?_)
    refine c_callV_V (d := 0) (rest := []) G [] yv_X7_advance ml_X2_60 (by omega) (by decide) rfl rfl (Nat.le_of_ble_eq_true rfl) h_r2 (fun q hq => con_X7_advance h_r2 hq) dX2_readProduction_26 (fun M1 _ => ?_)
    refine c_aload_n G dX2_readProduction_29 rfl 0 rfl ?_
    refine c_getR (c' := 7) G fl_X2_9 h_a0 rfl dX2_readProduction_30 (fun r3 _ h_r3 => ?_)
    refine c_callV_PI (d := 0) (rest := []) G [] yv_X7_isName ml_X2_63 (by omega) (by decide) rfl rfl (Nat.le_of_ble_eq_true rfl) h_r3 (fun q hq => con_X7_isName h_r3 hq) dX2_readProduction_33 (fun q1 _ => ?_)
    refine c_if_ne (tgt := 48) G dX2_readProduction_36 (by decide) (fun _ => ?_) (fun _ => ?_)
    · skip
      refine c_aload_n G dX2_readProduction_39 rfl 0 rfl ?_
      refine c_getR (c' := 7) G fl_X2_9 h_a0 rfl dX2_readProduction_40 (fun r4 _ h_r4 => ?_)
      refine c_iconst G (nI 2) dX2_readProduction_43 kI_2 ?_
      refine c_callV_I (d := 0) (rest := []) G [.int (nI 2)] yv_X7_fail ml_X2_54 (by omega) (by decide) rfl rfl (Nat.le_of_ble_eq_true rfl) h_r4 (fun q hq => con_X7_fail h_r4 hq) dX2_readProduction_44 (fun q2 _ => ?_)
      exact c_zret G hQ dX2_readProduction_47
    · skip
      refine c_aload_n G dX2_readProduction_48 rfl 0 rfl ?_
      refine c_getR (c' := 1) G fl_X2_15 h_a0 rfl dX2_readProduction_49 (fun r5 _ h_r5 => ?_)
      refine c_aload_n G dX2_readProduction_52 rfl 0 rfl ?_
      refine c_getR (c' := 7) G fl_X2_9 h_a0 rfl dX2_readProduction_53 (fun r6 _ h_r6 => ?_)
      refine c_getJ G fl_X2_66 h_r6 rfl dX2_readProduction_56 ?_
      refine c_callV_PI (d := 0) (rest := []) G [.long (M1.2.1 r6 8)] yv_X1_findProduction ml_X2_107 (by omega) (by decide) rfl rfl (Nat.le_of_ble_eq_true rfl) h_r5 (fun q hq => con_X1_findProduction h_r5 hq) dX2_readProduction_59 (fun q3 _ => ?_)
      refine c_iconst G m1 dX2_readProduction_62 kI_m1 ?_
      refine c_icmp_eq (tgt := 75) G dX2_readProduction_63 (by decide) (fun _ => ?_) (fun _ => ?_)
      · skip
        refine c_aload_n G dX2_readProduction_75 rfl 0 rfl ?_
        refine c_getR (c' := 1) G fl_X2_15 h_a0 rfl dX2_readProduction_76 (fun r7 _ h_r7 => ?_)
        refine c_aload_n G dX2_readProduction_79 rfl 0 rfl ?_
        refine c_getR (c' := 7) G fl_X2_9 h_a0 rfl dX2_readProduction_80 (fun r8 _ h_r8 => ?_)
        refine c_getJ G fl_X2_66 h_r8 rfl dX2_readProduction_83 ?_
        refine c_callV_V (d := 0) (rest := []) G [.long (M1.2.1 r8 8)] yv_X1_addProduction ml_X2_110 (by omega) (by decide) rfl rfl (Nat.le_of_ble_eq_true rfl) h_r7 (fun q hq => con_X1_addProduction h_r7 hq) dX2_readProduction_86 (fun M2 _ => ?_)
        refine c_aload_n G dX2_readProduction_89 rfl 0 rfl ?_
        refine c_getR (c' := 7) G fl_X2_9 h_a0 rfl dX2_readProduction_90 (fun r9 _ h_r9 => ?_)
        refine c_callV_V (d := 0) (rest := []) G [] yv_X7_advance ml_X2_60 (by omega) (by decide) rfl rfl (Nat.le_of_ble_eq_true rfl) h_r9 (fun q hq => con_X7_advance h_r9 hq) dX2_readProduction_93 (fun M3 _ => ?_)
        refine c_aload_n G dX2_readProduction_96 rfl 0 rfl ?_
        refine c_getR (c' := 7) G fl_X2_9 h_a0 rfl dX2_readProduction_97 (fun r10 _ h_r10 => ?_)
        refine c_bipush G (nI 58) dX2_readProduction_100 kB_58 ?_
        refine c_callV_I (d := 1) (rest := []) G [.int (nI 58)] yv_X7_takeSign ml_X2_40 (by omega) (by decide) rfl rfl (Nat.le_of_ble_eq_true rfl) h_r10 (fun q hq => con_X7_takeSign h_r10 hq) dX2_readProduction_102 (fun q4 _ => ?_)
        refine c_bj (ej := fun (p120 : Int32 × Mm) => [(0, .ref (wB w + pz (a0)))]) (sj := fun p120 => [.int p120.1]) (mj := fun p120 => p120.2) (pj := 120) (fun p120 => ?_) (fun F hJ120 => ?_)
        · skip
          refine c_istore_n G [(1, .int p120.1), (0, .ref (wB w + pz (a0)))] dX2_readProduction_120 rfl (by decide) rfl ?_
          refine c_iconst G (nI 0) dX2_readProduction_121 kI_0 ?_
          refine c_istore_n G [(2, .int (nI 0)), (1, .int p120.1), (0, .ref (wB w + pz (a0)))] dX2_readProduction_122 rfl (by decide) rfl ?_
          refine c_weak _ [2, 1, 0] rfl (cl_X2_readProduction_123 G hQ  h_a0 N p120.1 (nI 0) p120.2)
        · skip
          refine c_jn (ej := fun (p119 : Mm) => [(0, .ref (wB w + pz (a0)))]) (sj := fun p119 => []) (mj := fun p119 => p119) (pj := 119) (fun p119 => ?_) (fun J1 hJ119 => ?_)
          · skip
            refine c_iconst G (nI 0) dX2_readProduction_119 kI_0 ?_
            exact c_weak _ [0] rfl (hJ120 ((nI 0), p119))
          · skip
            refine c_if_eq (tgt := 119) G dX2_readProduction_105 (by decide) (fun _ => ?_) (fun _ => ?_)
            · skip
              exact c_weak _ [0] rfl (hJ119 q4.2)
            · skip
              refine c_aload_n G dX2_readProduction_108 rfl 0 rfl ?_
              refine c_callV_I (d := 2) (rest := []) G [] yv_X2_readSide ml_X2_113 (by omega) (by decide) rfl rfl (Nat.le_of_ble_eq_true rfl) h_a0 (fun q hq => con_X2_readSide h_a0 hq) dX2_readProduction_109 (fun q7 _ => ?_)
              refine c_if_eq (tgt := 119) G dX2_readProduction_112 (by decide) (fun _ => ?_) (fun _ => ?_)
              · skip
                exact c_weak _ [0] rfl (hJ119 q7.2)
              · skip
                refine c_iconst G (nI 1) dX2_readProduction_115 kI_1 ?_
                refine c_goto (tgt := 120) G dX2_readProduction_116 (by decide) ?_
                exact c_weak _ [0] rfl (hJ120 ((nI 1), q7.2))
      · skip
        refine c_aload_n G dX2_readProduction_66 rfl 0 rfl ?_
        refine c_getR (c' := 7) G fl_X2_9 h_a0 rfl dX2_readProduction_67 (fun r12 _ h_r12 => ?_)
        refine c_iconst G (nI 4) dX2_readProduction_70 kI_4 ?_
        refine c_callV_I (d := 0) (rest := []) G [.int (nI 4)] yv_X7_fail ml_X2_54 (by omega) (by decide) rfl rfl (Nat.le_of_ble_eq_true rfl) h_r12 (fun q hq => con_X7_fail h_r12 hq) dX2_readProduction_71 (fun q8 _ => ?_)
        exact c_zret G hQ dX2_readProduction_74
  · skip
    refine c_aload_n G dX2_readProduction_12 rfl 0 rfl ?_
    refine c_getR (c' := 7) G fl_X2_9 h_a0 rfl dX2_readProduction_13 (fun r13 _ h_r13 => ?_)
    refine c_bipush G (nI 6) dX2_readProduction_16 kB_6 ?_
    refine c_callV_I (d := 0) (rest := []) G [.int (nI 6)] yv_X7_fail ml_X2_54 (by omega) (by decide) rfl rfl (Nat.le_of_ble_eq_true rfl) h_r13 (fun q hq => con_X7_fail h_r13 hq) dX2_readProduction_18 (fun q9 _ => ?_)
    exact c_zret G hQ dX2_readProduction_21
set_option maxHeartbeats 4000000 in
set_option maxRecDepth 100000 in
theorem con_X2_positionStands {w : Wp} {N : Nat} {a0 : Nat} {M : Mm} {q : Int32 × Mm} (h_a0 : lay a0 = (5, 2)) (hq : D_X2_positionStands N a0 M = some q) : Con w 1 yX2_positionStands cX2_positionStands 1 (some .boolean) [.ref (wB w + pz (a0))] M (encI q) := by
  refine Con.of encI q _ hq (by decide) (Nat.le_of_ble_eq_true rfl) ?_
  intro X G Q hQ
  have G : Good w X cX2_positionStands 1 RX2 (some .boolean) 1 := G
  refine c_weak [(0, .ref (wB w + pz (a0)))] [0] rfl ?_
  rw [D_X2_positionStands]
  refine c_aload_n G dX2_positionStands_0 rfl 0 rfl ?_
  refine c_getR (c' := 7) G fl_X2_9 h_a0 rfl dX2_positionStands_1 (fun r1 _ h_r1 => ?_)
  refine c_getI G fl_X2_24 h_r1 rfl dX2_positionStands_4 ?_
  refine c_iconst G (nI 2) dX2_positionStands_7 kI_2 ?_
  refine c_icmp_eq (tgt := 20) G dX2_positionStands_8 (by decide) (fun _ => ?_) (fun _ => ?_)
  · skip
    refine c_aload_n G dX2_positionStands_20 rfl 0 rfl ?_
    refine c_getR (c' := 7) G fl_X2_9 h_a0 rfl dX2_positionStands_21 (fun r2 _ h_r2 => ?_)
    refine c_getJ G fl_X2_66 h_r2 rfl dX2_positionStands_24 ?_
    refine c_aload_n G dX2_positionStands_27 rfl 0 rfl ?_
    refine c_getR (c' := 1) G fl_X2_15 h_a0 rfl dX2_positionStands_28 (fun r3 _ h_r3 => ?_)
    refine c_getF G fl_X2_116 h_r3 rfl dX2_positionStands_31 ?_
    refine c_aload_n G dX2_positionStands_34 rfl 0 rfl ?_
    refine c_getI G fl_X2_123 h_a0 rfl dX2_positionStands_35 ?_
    refine c_iald G (lf h_r3 8 rfl) dX2_positionStands_38 (fun v1 _ => ?_)
    refine c_i2l G dX2_positionStands_39 ?_
    refine c_lcmp G dX2_positionStands_40 ?_
    refine c_jn (ej := fun (p55 : Mm) => []) (sj := fun p55 => []) (mj := fun p55 => p55) (pj := 55) (fun p55 => ?_) (fun J1 hJ55 => ?_)
    · skip
      refine c_iconst G (nI 1) dX2_positionStands_55 kI_1 ?_
      refine c_goto (tgt := 60) G dX2_positionStands_56 (by decide) ?_
      exact c_zret G hQ dX2_positionStands_60
    · skip
      refine c_if_lt (tgt := 55) G dX2_positionStands_41 (by decide) (fun _ => ?_) (fun _ => ?_)
      · skip
        exact c_weak _ [] rfl (hJ55 M)
      · skip
        refine c_aload_n G dX2_positionStands_44 rfl 0 rfl ?_
        refine c_getR (c' := 7) G fl_X2_9 h_a0 rfl dX2_positionStands_45 (fun r4 _ h_r4 => ?_)
        refine c_iconst G (nI 3) dX2_positionStands_48 kI_3 ?_
        refine c_callV_I (d := 0) (rest := []) G [.int (nI 3)] yv_X7_fail ml_X2_54 (by omega) (by decide) rfl rfl (Nat.le_of_ble_eq_true rfl) h_r4 (fun q hq => con_X7_fail h_r4 hq) dX2_positionStands_49 (fun q1 _ => ?_)
        refine c_if_eq (tgt := 59) G dX2_positionStands_52 (by decide) (fun _ => ?_) (fun _ => ?_)
        · skip
          refine c_iconst G (nI 0) dX2_positionStands_59 kI_0 ?_
          exact c_zret G hQ dX2_positionStands_60
        · skip
          exact c_weak _ [] rfl (hJ55 q1.2)
  · skip
    refine c_aload_n G dX2_positionStands_11 rfl 0 rfl ?_
    refine c_getR (c' := 7) G fl_X2_9 h_a0 rfl dX2_positionStands_12 (fun r5 _ h_r5 => ?_)
    refine c_iconst G (nI 2) dX2_positionStands_15 kI_2 ?_
    refine c_callV_I (d := 0) (rest := []) G [.int (nI 2)] yv_X7_fail ml_X2_54 (by omega) (by decide) rfl rfl (Nat.le_of_ble_eq_true rfl) h_r5 (fun q hq => con_X7_fail h_r5 hq) dX2_positionStands_16 (fun q2 _ => ?_)
    exact c_zret G hQ dX2_positionStands_19
set_option maxHeartbeats 4000000 in
set_option maxRecDepth 100000 in
theorem con_X7_isSignOf {w : Wp} {N : Nat} {a0 : Nat} {a1 : Int32} {M : Mm} {q : Int32} (h_a0 : lay a0 = (5, 7)) (hq : D_X7_isSignOf N a0 a1 M = some q) : Con w 0 yX7_isSignOf cX7_isSignOf 2 (some .boolean) [.ref (wB w + pz (a0)), .int a1] M ((encPI M) q) := by
  refine Con.of (encPI M) q _ hq (by decide) (Nat.le_of_ble_eq_true rfl) ?_
  intro X G Q hQ
  have G : Good w X cX7_isSignOf 2 RX7 (some .boolean) 0 := G
  refine c_weak [(0, .ref (wB w + pz (a0))), (1, .int a1)] [0, 1] rfl ?_
  rw [D_X7_isSignOf]
  refine c_aload_n G dX7_isSignOf_0 rfl 0 rfl ?_
  refine c_getI G fl_X7_61 h_a0 rfl dX7_isSignOf_1 ?_
  refine c_iconst G (nI 3) dX7_isSignOf_4 kI_3 ?_
  refine c_jn (ej := fun (p22 : Unit) => []) (sj := fun p22 => []) (mj := fun p22 => M) (pj := 22) (fun p22 => ?_) (fun J1 hJ22 => ?_)
  · skip
    refine c_iconst G (nI 0) dX7_isSignOf_22 kI_0 ?_
    exact c_zretP G hQ dX7_isSignOf_23
  · skip
    refine c_icmp_ne (tgt := 22) G dX7_isSignOf_5 (by decide) (fun _ => ?_) (fun _ => ?_)
    · skip
      refine c_aload_n G dX7_isSignOf_8 rfl 0 rfl ?_
      refine c_getJ G fl_X7_64 h_a0 rfl dX7_isSignOf_9 ?_
      refine c_iload_n G dX7_isSignOf_12 rfl 1 rfl ?_
      refine c_i2l G dX7_isSignOf_13 ?_
      refine c_lcmp G dX7_isSignOf_14 ?_
      refine c_if_ne (tgt := 22) G dX7_isSignOf_15 (by decide) (fun _ => ?_) (fun _ => ?_)
      · skip
        refine c_iconst G (nI 1) dX7_isSignOf_18 kI_1 ?_
        refine c_goto (tgt := 23) G dX7_isSignOf_19 (by decide) ?_
        exact c_zretP G hQ dX7_isSignOf_23
      · skip
        exact c_weak _ [] rfl (hJ22 ())
    · skip
      exact c_weak _ [] rfl (hJ22 ())
set_option maxHeartbeats 4000000 in
set_option maxRecDepth 100000 in
theorem con_X1_side {w : Wp} {N : Nat} {a0 : Nat} {a1 : Int32} {a2 : Int32} {M : Mm} {q : Int32} (h_a0 : lay a0 = (5, 1)) (hq : D_X1_side N a0 a1 a2 M = some q) : Con w 0 yX1_side cX1_side 3 (some .int) [.ref (wB w + pz (a0)), .int a1, .int a2] M ((encPI M) q) := by
  refine Con.of (encPI M) q _ hq (by decide) (Nat.le_of_ble_eq_true rfl) ?_
  intro X G Q hQ
  have G : Good w X cX1_side 3 RX1 (some .int) 0 := G
  refine c_weak [(0, .ref (wB w + pz (a0))), (1, .int a1), (2, .int a2)] [0, 1, 2] rfl ?_
  rw [D_X1_side]
  refine c_aload_n G dX1_side_0 rfl 0 rfl ?_
  refine c_getF G fl_X1_31 h_a0 rfl dX1_side_1 ?_
  refine c_iconst G (nI 4) dX1_side_4 kI_4 ?_
  refine c_iload_n G dX1_side_5 rfl 1 rfl ?_
  refine c_imul G dX1_side_6 ?_
  refine c_iload_n G dX1_side_7 rfl 2 rfl ?_
  refine c_iadd G dX1_side_8 ?_
  refine c_iald G (lf h_a0 9 rfl) dX1_side_9 (fun v1 _ => ?_)
  exact c_iretP G hQ dX1_side_10
set_option maxHeartbeats 4000000 in
set_option maxRecDepth 100000 in
theorem con_X2_seekOcc {w : Wp} {N : Nat} {a0 : Nat} {M : Mm} {q : Int32 × Mm} (h_a0 : lay a0 = (5, 2)) (hq : D_X2_seekOcc N a0 M = some q) : Con w 1 yX2_seekOcc cX2_seekOcc 3 (some .int) [.ref (wB w + pz (a0))] M (encI q) := by
  refine Con.of encI q _ hq (by decide) (Nat.le_of_ble_eq_true rfl) ?_
  intro X G Q hQ
  have G : Good w X cX2_seekOcc 3 RX2 (some .int) 1 := G
  refine c_weak [(0, .ref (wB w + pz (a0)))] [0] rfl ?_
  rw [D_X2_seekOcc]
  refine c_aload_n G dX2_seekOcc_0 rfl 0 rfl ?_
  refine c_getR (c' := 7) G fl_X2_9 h_a0 rfl dX2_seekOcc_1 (fun r1 _ h_r1 => ?_)
  refine c_getJ G fl_X2_66 h_r1 rfl dX2_seekOcc_4 ?_
  refine c_l2i G dX2_seekOcc_7 ?_
  refine c_let (fun l1_1 _ => ?_)
  refine c_istore_n G [(1, .int l1_1), (0, .ref (wB w + pz (a0)))] dX2_seekOcc_8 rfl (by decide) rfl ?_
  refine c_aload_n G dX2_seekOcc_9 rfl 1 rfl ?_
  refine c_getR (c' := 7) G fl_X2_9 h_a0 rfl dX2_seekOcc_10 (fun r2 _ h_r2 => ?_)
  refine c_callV_V (d := 0) (rest := []) G [] yv_X7_advance ml_X2_60 (by omega) (by decide) rfl rfl (Nat.le_of_ble_eq_true rfl) h_r2 (fun q hq => con_X7_advance h_r2 hq) dX2_seekOcc_13 (fun M1 _ => ?_)
  refine c_aload_n G dX2_seekOcc_16 rfl 1 rfl ?_
  refine c_getR (c' := 7) G fl_X2_9 h_a0 rfl dX2_seekOcc_17 (fun r3 _ h_r3 => ?_)
  refine c_bipush G (nI 46) dX2_seekOcc_20 kB_46 ?_
  refine c_callV_PI (d := 0) (rest := []) G [.int (nI 46)] yv_X7_isSignOf ml_X2_154 (by omega) (by decide) rfl rfl (Nat.le_of_ble_eq_true rfl) h_r3 (fun q hq => con_X7_isSignOf h_r3 hq) dX2_seekOcc_22 (fun q1 _ => ?_)
  refine c_if_ne (tgt := 39) G dX2_seekOcc_25 (by decide) (fun _ => ?_) (fun _ => ?_)
  · skip
    refine c_aload_n G dX2_seekOcc_28 rfl 1 rfl ?_
    refine c_getR (c' := 7) G fl_X2_9 h_a0 rfl dX2_seekOcc_29 (fun r4 _ h_r4 => ?_)
    refine c_iconst G (nI 2) dX2_seekOcc_32 kI_2 ?_
    refine c_callV_I (d := 0) (rest := []) G [.int (nI 2)] yv_X7_fail ml_X2_54 (by omega) (by decide) rfl rfl (Nat.le_of_ble_eq_true rfl) h_r4 (fun q hq => con_X7_fail h_r4 hq) dX2_seekOcc_33 (fun q2 _ => ?_)
    refine c_pop G dX2_seekOcc_36 rfl ?_
    refine c_iconst G m1 dX2_seekOcc_37 kI_m1 ?_
    exact c_iret G hQ dX2_seekOcc_38
  · skip
    refine c_aload_n G dX2_seekOcc_39 rfl 1 rfl ?_
    refine c_getR (c' := 7) G fl_X2_9 h_a0 rfl dX2_seekOcc_40 (fun r5 _ h_r5 => ?_)
    refine c_callV_V (d := 0) (rest := []) G [] yv_X7_advance ml_X2_60 (by omega) (by decide) rfl rfl (Nat.le_of_ble_eq_true rfl) h_r5 (fun q hq => con_X7_advance h_r5 hq) dX2_seekOcc_43 (fun M2 _ => ?_)
    refine c_aload_n G dX2_seekOcc_46 rfl 1 rfl ?_
    refine c_getR (c' := 7) G fl_X2_9 h_a0 rfl dX2_seekOcc_47 (fun r6 _ h_r6 => ?_)
    refine c_callV_PI (d := 0) (rest := []) G [] yv_X7_isName ml_X2_63 (by omega) (by decide) rfl rfl (Nat.le_of_ble_eq_true rfl) h_r6 (fun q hq => con_X7_isName h_r6 hq) dX2_seekOcc_50 (fun q3 _ => ?_)
    refine c_if_ne (tgt := 67) G dX2_seekOcc_53 (by decide) (fun _ => ?_) (fun _ => ?_)
    · skip
      refine c_aload_n G dX2_seekOcc_56 rfl 1 rfl ?_
      refine c_getR (c' := 7) G fl_X2_9 h_a0 rfl dX2_seekOcc_57 (fun r7 _ h_r7 => ?_)
      refine c_iconst G (nI 2) dX2_seekOcc_60 kI_2 ?_
      refine c_callV_I (d := 0) (rest := []) G [.int (nI 2)] yv_X7_fail ml_X2_54 (by omega) (by decide) rfl rfl (Nat.le_of_ble_eq_true rfl) h_r7 (fun q hq => con_X7_fail h_r7 hq) dX2_seekOcc_61 (fun q4 _ => ?_)
      refine c_pop G dX2_seekOcc_64 rfl ?_
      refine c_iconst G m1 dX2_seekOcc_65 kI_m1 ?_
      exact c_iret G hQ dX2_seekOcc_66
    · skip
      refine c_aload_n G dX2_seekOcc_67 rfl 1 rfl ?_
      refine c_getR (c' := 1) G fl_X2_15 h_a0 rfl dX2_seekOcc_68 (fun r8 _ h_r8 => ?_)
      refine c_aload_n G dX2_seekOcc_71 rfl 1 rfl ?_
      refine c_getR (c' := 1) G fl_X2_15 h_a0 rfl dX2_seekOcc_72 (fun r9 _ h_r9 => ?_)
      refine c_aload_n G dX2_seekOcc_75 rfl 1 rfl ?_
      refine c_getI G fl_X2_123 h_a0 rfl dX2_seekOcc_76 ?_
      refine c_iload_n G dX2_seekOcc_79 rfl 0 rfl ?_
      refine c_callV_PI (d := 0) (rest := [.ref (wB w + pz (r8))]) G [.int (M2.1 a0 2), .int l1_1] yv_X1_side ml_X2_157 (by omega) (by decide) rfl rfl (Nat.le_of_ble_eq_true rfl) h_r9 (fun q hq => con_X1_side h_r9 hq) dX2_seekOcc_80 (fun q5 _ => ?_)
      refine c_aload_n G dX2_seekOcc_83 rfl 1 rfl ?_
      refine c_getR (c' := 7) G fl_X2_9 h_a0 rfl dX2_seekOcc_84 (fun r10 _ h_r10 => ?_)
      refine c_getJ G fl_X2_66 h_r10 rfl dX2_seekOcc_87 ?_
      refine c_callV_PI (d := 0) (rest := []) G [.int q5, .long (M2.2.1 r10 8)] yv_X1_findAttribute ml_X2_89 (by omega) (by decide) rfl rfl (Nat.le_of_ble_eq_true rfl) h_r8 (fun q hq => con_X1_findAttribute h_r8 hq) dX2_seekOcc_90 (fun q6 _ => ?_)
      refine c_istore_n G [(2, .int q6), (1, .int l1_1), (0, .ref (wB w + pz (a0)))] dX2_seekOcc_93 rfl (by decide) rfl ?_
      refine c_iload_n G dX2_seekOcc_94 rfl 0 rfl ?_
      refine c_iconst G m1 dX2_seekOcc_95 kI_m1 ?_
      refine c_icmp_ne (tgt := 110) G dX2_seekOcc_96 (by decide) (fun _ => ?_) (fun _ => ?_)
      · skip
        refine c_aload_n G dX2_seekOcc_99 rfl 2 rfl ?_
        refine c_getR (c' := 7) G fl_X2_9 h_a0 rfl dX2_seekOcc_100 (fun r11 _ h_r11 => ?_)
        refine c_iconst G (nI 3) dX2_seekOcc_103 kI_3 ?_
        refine c_callV_I (d := 0) (rest := []) G [.int (nI 3)] yv_X7_fail ml_X2_54 (by omega) (by decide) rfl rfl (Nat.le_of_ble_eq_true rfl) h_r11 (fun q hq => con_X7_fail h_r11 hq) dX2_seekOcc_104 (fun q7 _ => ?_)
        refine c_pop G dX2_seekOcc_107 rfl ?_
        refine c_iconst G m1 dX2_seekOcc_108 kI_m1 ?_
        exact c_iret G hQ dX2_seekOcc_109
      · skip
        refine c_bipush G (nI 8) dX2_seekOcc_110 kB_8 ?_
        refine c_iload_n G dX2_seekOcc_112 rfl 1 rfl ?_
        refine c_imul G dX2_seekOcc_113 ?_
        refine c_iload_n G dX2_seekOcc_114 rfl 0 rfl ?_
        refine c_iadd G dX2_seekOcc_115 ?_
        exact c_iret G hQ dX2_seekOcc_116
set_option maxHeartbeats 4000000 in
set_option maxRecDepth 100000 in
theorem con_X1_beginCode {w : Wp} {N : Nat} {a0 : Nat} {a1 : Int32} {a2 : Int32} {M : Mm} {q : Mm} (h_a0 : lay a0 = (5, 1)) (hq : D_X1_beginCode N a0 a1 a2 M = some q) : Con w 0 yX1_beginCode cX1_beginCode 3 none [.ref (wB w + pz (a0)), .int a1, .int a2] M (encV q) := by
  refine Con.of encV q _ hq (by decide) (Nat.le_of_ble_eq_true rfl) ?_
  intro X G Q hQ
  have G : Good w X cX1_beginCode 3 RX1 none 0 := G
  refine c_weak [(0, .ref (wB w + pz (a0))), (1, .int a1), (2, .int a2)] [0, 1, 2] rfl ?_
  rw [D_X1_beginCode]
  refine c_aload_n G dX1_beginCode_0 rfl 0 rfl ?_
  refine c_getF G fl_X1_40 h_a0 rfl dX1_beginCode_1 ?_
  refine c_iload_n G dX1_beginCode_4 rfl 1 rfl ?_
  refine c_dup2 G dX1_beginCode_5 rfl rfl ?_
  refine c_iald G (lf h_a0 12 rfl) dX1_beginCode_6 (fun v1 _ => ?_)
  refine c_iconst G (nI 1) dX1_beginCode_7 kI_1 ?_
  refine c_iload_n G dX1_beginCode_8 rfl 2 rfl ?_
  refine c_ishl G dX1_beginCode_9 ?_
  refine c_ior G dX1_beginCode_10 ?_
  refine c_iast G (lf h_a0 12 rfl) dX1_beginCode_11 (fun M1 _ => ?_)
  refine c_aload_n G dX1_beginCode_12 rfl 0 rfl ?_
  refine c_getF G fl_X1_52 h_a0 rfl dX1_beginCode_13 ?_
  refine c_bipush G (nI 32) dX1_beginCode_16 kB_32 ?_
  refine c_iload_n G dX1_beginCode_18 rfl 1 rfl ?_
  refine c_imul G dX1_beginCode_19 ?_
  refine c_iload_n G dX1_beginCode_20 rfl 2 rfl ?_
  refine c_iadd G dX1_beginCode_21 ?_
  refine c_aload_n G dX1_beginCode_22 rfl 0 rfl ?_
  refine c_getI G fl_X1_68 h_a0 rfl dX1_beginCode_23 ?_
  refine c_iast G (lf h_a0 16 rfl) dX1_beginCode_26 (fun M2 _ => ?_)
  exact c_vret G hQ dX1_beginCode_27
set_option maxHeartbeats 4000000 in
set_option maxRecDepth 100000 in
theorem cl_X2_readBracket_55 {w : Wp} {rc : Nat → Int32 → Mm → Option (Int32 × Mm)} {X : Cx} {Q : State → Prop} {ρ : Int32 × Mm} {dd : Nat} (G : Good w X cX2_readBracket 5 RX2 (some .boolean) (dd + 1)) (hQ : Q = MQ (xL X) (Qd w (encI ρ)) (xA X) (xS X) (xk X) (xs X) (Aw w)) (hdd : 3 ≤ dd) (hrc : ∀ (b0 : Nat) (b1 : Int32) (M : Mm) (q : Int32 × Mm), lay b0 = (5, 2) → rc b0 b1 M = some q → Con w dd yX2_readE cX2_readE 5 (some .boolean) [.ref (wB w + pz (b0)), .int b1] M (encI q)) (kE99 : Int32 → Mm → Option (Int32 × Mm)) {a2 : Int32} {a0 : Nat} {N : Nat} {a1 : Int32} (h_a0 : lay a0 = (5, 2)) (hE99 : ∀ (z3 : Int32), ∀ (Mz : Mm), Cov w X Q ρ some 5 99 [(0, .ref (wB w + pz (a0))), (3, .int z3)] [] Mz (kE99 z3 Mz)) : ∀ (n : Nat) (l3_1 : Int32) (l4_1 : Int32) (M2 : Mm), Cov w X Q ρ some 5 55 [(0, .ref (wB w + pz (a0))), (1, .int a1), (2, .int a2), (3, .int l3_1), (4, .int l4_1)] [] M2 (L_X2_readBracket_55 kE99 a2 a0 N rc a1 n l3_1 l4_1 M2) := by
  intro n
  induction n with
  | zero => intro l3_1 l4_1 M2; exact c_none
  | succ n ih =>
    intro l3_1 l4_1 M2
    rw [L_X2_readBracket_55]
    refine c_iload G dX2_readBracket_55 4 rfl ?_
    refine c_iload_n G dX2_readBracket_57 rfl 2 rfl ?_
    refine c_icmp_ge (tgt := 99) G dX2_readBracket_58 (by decide) (fun _ => ?_) (fun _ => ?_)
    · skip
      exact c_weak _ [0, 3] rfl (hE99 l3_1 M2)
    · skip
      refine c_iload_n G dX2_readBracket_61 rfl 3 rfl ?_
      refine c_if_eq (tgt := 99) G dX2_readBracket_62 (by decide) (fun _ => ?_) (fun _ => ?_)
      · skip
        exact c_weak _ [0, 3] rfl (hE99 l3_1 M2)
      · skip
        refine c_aload_n G dX2_readBracket_65 rfl 0 rfl ?_
        refine c_getR (c' := 7) G fl_X2_9 h_a0 rfl dX2_readBracket_66 (fun r4 _ h_r4 => ?_)
        refine c_bipush G (nI 44) dX2_readBracket_69 kB_44 ?_
        refine c_callV_I (d := 1) (rest := []) G [.int (nI 44)] yv_X7_takeSign ml_X2_40 (by omega) (by decide) rfl rfl (Nat.le_of_ble_eq_true rfl) h_r4 (fun q hq => con_X7_takeSign h_r4 hq) dX2_readBracket_71 (fun q4 _ => ?_)
        refine c_jn (ej := fun (p91 : Mm) => [(0, .ref (wB w + pz (a0))), (1, .int a1), (2, .int a2), (4, .int l4_1)]) (sj := fun p91 => []) (mj := fun p91 => p91) (pj := 91) (fun p91 => ?_) (fun J1 hJ91 => ?_)
        · skip
          refine c_iconst G (nI 0) dX2_readBracket_91 kI_0 ?_
          refine c_istore_n G [(3, .int (nI 0)), (0, .ref (wB w + pz (a0))), (1, .int a1), (2, .int a2), (4, .int l4_1)] dX2_readBracket_92 rfl (by decide) rfl ?_
          refine c_iinc G (fun y__ => [(4, .int y__), (3, .int (nI 0)), (0, .ref (wB w + pz (a0))), (1, .int a1), (2, .int a2)]) dX2_readBracket_93 4 rfl kI_1 (by decide) (fun _ => rfl) (fun l4_2 _ => ?_)
          refine c_goto (tgt := 55) G dX2_readBracket_96 (by decide) ?_
          exact c_weak _ [2, 3, 4, 1, 0] rfl (ih (nI 0) l4_2 p91)
        · skip
          refine c_if_eq (tgt := 91) G dX2_readBracket_74 (by decide) (fun _ => ?_) (fun _ => ?_)
          · skip
            exact c_weak _ [0, 1, 2, 4] rfl (hJ91 q4.2)
          · skip
            refine c_aload_n G dX2_readBracket_77 rfl 0 rfl ?_
            refine c_iload_n G dX2_readBracket_78 rfl 1 rfl ?_
            refine c_iconst G (nI 1) dX2_readBracket_79 kI_1 ?_
            refine c_iadd G dX2_readBracket_80 ?_
            refine c_callV_I (d := dd) (rest := []) G [.int (a1 + (nI 1))] yv_X2_readE ml_X2_148 (by omega) (by decide) rfl rfl (Nat.le_of_ble_eq_true rfl) h_a0 (fun q hq => hrc a0 (a1 + (nI 1)) q4.2 q h_a0 hq) dX2_readBracket_81 (fun q5 _ => ?_)
            refine c_if_eq (tgt := 91) G dX2_readBracket_84 (by decide) (fun _ => ?_) (fun _ => ?_)
            · skip
              exact c_weak _ [0, 1, 2, 4] rfl (hJ91 q5.2)
            · skip
              refine c_iconst G (nI 1) dX2_readBracket_87 kI_1 ?_
              refine c_goto (tgt := 92) G dX2_readBracket_88 (by decide) ?_
              refine c_istore_n G [(3, .int (nI 1)), (0, .ref (wB w + pz (a0))), (1, .int a1), (2, .int a2), (4, .int l4_1)] dX2_readBracket_92 rfl (by decide) rfl ?_
              refine c_iinc G (fun y__ => [(4, .int y__), (3, .int (nI 1)), (0, .ref (wB w + pz (a0))), (1, .int a1), (2, .int a2)]) dX2_readBracket_93 4 rfl kI_1 (by decide) (fun _ => rfl) (fun l4_3 _ => ?_)
              refine c_goto (tgt := 55) G dX2_readBracket_96 (by decide) ?_
              exact c_weak _ [2, 3, 4, 1, 0] rfl (ih (nI 1) l4_3 q5.2)
set_option maxHeartbeats 4000000 in
set_option maxRecDepth 100000 in
theorem con_X2_readBracket {w : Wp} {N : Nat} {dd : Nat} {rc : Nat → Int32 → Mm → Option (Int32 × Mm)} {a0 : Nat} {a1 : Int32} {a2 : Int32} {M : Mm} {q : Int32 × Mm} (hdd : 3 ≤ dd) (hrc : ∀ (b0 : Nat) (b1 : Int32) (M : Mm) (q : Int32 × Mm), lay b0 = (5, 2) → rc b0 b1 M = some q → Con w dd yX2_readE cX2_readE 5 (some .boolean) [.ref (wB w + pz (b0)), .int b1] M (encI q)) (h_a0 : lay a0 = (5, 2)) (hq : D_X2_readBracket N rc a0 a1 a2 M = some q) : Con w (dd + 1) yX2_readBracket cX2_readBracket 5 (some .boolean) [.ref (wB w + pz (a0)), .int a1, .int a2] M (encI q) := by
  refine Con.of encI q _ hq (by decide) (Nat.le_of_ble_eq_true rfl) ?_
  intro X G Q hQ
  have G : Good w X cX2_readBracket 5 RX2 (some .boolean) (dd + 1) := G
  refine c_weak [(0, .ref (wB w + pz (a0))), (1, .int a1), (2, .int a2)] [0, 1, 2] rfl ?_
  rw [D_X2_readBracket]
  refine c_aload_n G dX2_readBracket_0 rfl 0 rfl ?_
  refine c_getR (c' := 7) G fl_X2_9 h_a0 rfl dX2_readBracket_1 (fun r1 _ h_r1 => ?_)
  refine c_bipush G (nI 40) dX2_readBracket_4 kB_40 ?_
  refine c_callV_PI (d := 0) (rest := []) G [.int (nI 40)] yv_X7_isSignOf ml_X2_154 (by omega) (by decide) rfl rfl (Nat.le_of_ble_eq_true rfl) h_r1 (fun q hq => con_X7_isSignOf h_r1 hq) dX2_readBracket_6 (fun q1 _ => ?_)
  refine c_if_ne (tgt := 21) G dX2_readBracket_9 (by decide) (fun _ => ?_) (fun _ => ?_)
  · skip
    refine c_aload_n G dX2_readBracket_12 rfl 0 rfl ?_
    refine c_getR (c' := 7) G fl_X2_9 h_a0 rfl dX2_readBracket_13 (fun r2 _ h_r2 => ?_)
    refine c_iconst G (nI 2) dX2_readBracket_16 kI_2 ?_
    refine c_callV_I (d := 0) (rest := []) G [.int (nI 2)] yv_X7_fail ml_X2_54 (by omega) (by decide) rfl rfl (Nat.le_of_ble_eq_true rfl) h_r2 (fun q hq => con_X7_fail h_r2 hq) dX2_readBracket_17 (fun q2 _ => ?_)
    exact c_zret G hQ dX2_readBracket_20
  · skip
    refine c_iload_n G dX2_readBracket_21 rfl 1 rfl ?_
    refine c_bipush G (nI 6) dX2_readBracket_22 kB_6 ?_
    refine c_icmp_lt (tgt := 37) G dX2_readBracket_24 (by decide) (fun _ => ?_) (fun _ => ?_)
    · skip
      refine c_aload_n G dX2_readBracket_37 rfl 0 rfl ?_
      refine c_getR (c' := 7) G fl_X2_9 h_a0 rfl dX2_readBracket_38 (fun r3 _ h_r3 => ?_)
      refine c_callV_V (d := 0) (rest := []) G [] yv_X7_advance ml_X2_60 (by omega) (by decide) rfl rfl (Nat.le_of_ble_eq_true rfl) h_r3 (fun q hq => con_X7_advance h_r3 hq) dX2_readBracket_41 (fun M1 _ => ?_)
      refine c_aload_n G dX2_readBracket_44 rfl 0 rfl ?_
      refine c_iload_n G dX2_readBracket_45 rfl 1 rfl ?_
      refine c_iconst G (nI 1) dX2_readBracket_46 kI_1 ?_
      refine c_iadd G dX2_readBracket_47 ?_
      refine c_callV_I (d := dd) (rest := []) G [.int (a1 + (nI 1))] yv_X2_readE ml_X2_148 (by omega) (by decide) rfl rfl (Nat.le_of_ble_eq_true rfl) h_a0 (fun q hq => hrc a0 (a1 + (nI 1)) M1 q h_a0 hq) dX2_readBracket_48 (fun q3 _ => ?_)
      refine c_istore_n G [(3, .int q3.1), (0, .ref (wB w + pz (a0))), (1, .int a1), (2, .int a2)] dX2_readBracket_51 rfl (by decide) rfl ?_
      refine c_iconst G (nI 1) dX2_readBracket_52 kI_1 ?_
      refine c_istore G [(4, .int (nI 1)), (3, .int q3.1), (0, .ref (wB w + pz (a0))), (1, .int a1), (2, .int a2)] dX2_readBracket_53 (by decide) rfl ?_
      refine c_weak _ [2, 3, 4, 1, 0] rfl (cl_X2_readBracket_55 G hQ hdd hrc _ h_a0 ?_ N q3.1 (nI 1) q3.2)
      · intro l3_2 M4
        refine c_iload_n G dX2_readBracket_99 rfl 1 rfl ?_
        refine c_jn (ej := fun (p119 : Mm) => []) (sj := fun p119 => []) (mj := fun p119 => p119) (pj := 119) (fun p119 => ?_) (fun J2 hJ119 => ?_)
        · skip
          refine c_iconst G (nI 0) dX2_readBracket_119 kI_0 ?_
          exact c_zret G hQ dX2_readBracket_120
        · skip
          refine c_if_eq (tgt := 119) G dX2_readBracket_100 (by decide) (fun _ => ?_) (fun _ => ?_)
          · skip
            exact c_weak _ [] rfl (hJ119 M4)
          · skip
            refine c_aload_n G dX2_readBracket_103 rfl 0 rfl ?_
            refine c_getR (c' := 7) G fl_X2_9 h_a0 rfl dX2_readBracket_104 (fun r5 _ h_r5 => ?_)
            refine c_bipush G (nI 41) dX2_readBracket_107 kB_41 ?_
            refine c_callV_I (d := 1) (rest := []) G [.int (nI 41)] yv_X7_takeSign ml_X2_40 (by omega) (by decide) rfl rfl (Nat.le_of_ble_eq_true rfl) h_r5 (fun q hq => con_X7_takeSign h_r5 hq) dX2_readBracket_109 (fun q6 _ => ?_)
            refine c_if_eq (tgt := 119) G dX2_readBracket_112 (by decide) (fun _ => ?_) (fun _ => ?_)
            · skip
              exact c_weak _ [] rfl (hJ119 q6.2)
            · skip
              refine c_iconst G (nI 1) dX2_readBracket_115 kI_1 ?_
              refine c_goto (tgt := 120) G dX2_readBracket_116 (by decide) ?_
              exact c_zret G hQ dX2_readBracket_120
    · skip
      refine c_aload_n G dX2_readBracket_27 rfl 0 rfl ?_
      refine c_getR (c' := 7) G fl_X2_9 h_a0 rfl dX2_readBracket_28 (fun r6 _ h_r6 => ?_)
      refine c_bipush G (nI 6) dX2_readBracket_31 kB_6 ?_
      refine c_callV_I (d := 0) (rest := []) G [.int (nI 6)] yv_X7_fail ml_X2_54 (by omega) (by decide) rfl rfl (Nat.le_of_ble_eq_true rfl) h_r6 (fun q hq => con_X7_fail h_r6 hq) dX2_readBracket_33 (fun q7 _ => ?_)
      exact c_zret G hQ dX2_readBracket_36
set_option maxHeartbeats 4000000 in
set_option maxRecDepth 100000 in
theorem con_X1_addCode {w : Wp} {N : Nat} {a0 : Nat} {a1 : Int32} {M : Mm} {q : Mm} (h_a0 : lay a0 = (5, 1)) (hq : D_X1_addCode N a0 a1 M = some q) : Con w 0 yX1_addCode cX1_addCode 2 none [.ref (wB w + pz (a0)), .int a1] M (encV q) := by
  refine Con.of encV q _ hq (by decide) (Nat.le_of_ble_eq_true rfl) ?_
  intro X G Q hQ
  have G : Good w X cX1_addCode 2 RX1 none 0 := G
  refine c_weak [(0, .ref (wB w + pz (a0))), (1, .int a1)] [0, 1] rfl ?_
  rw [D_X1_addCode]
  refine c_aload_n G dX1_addCode_0 rfl 0 rfl ?_
  refine c_getI G fl_X1_68 h_a0 rfl dX1_addCode_1 ?_
  refine c_aload_n G dX1_addCode_4 rfl 0 rfl ?_
  refine c_getF G fl_X1_58 h_a0 rfl dX1_addCode_5 ?_
  refine c_alenI G (Int32.ofNat 1000) (lf h_a0 18 rfl) (by decide) rfl dX1_addCode_8 ?_
  refine c_icmp_ge (tgt := 32) G dX1_addCode_9 (by decide) (fun _ => ?_) (fun _ => ?_)
  · skip
    exact c_vret G hQ dX1_addCode_32
  · skip
    refine c_aload_n G dX1_addCode_12 rfl 0 rfl ?_
    refine c_getF G fl_X1_58 h_a0 rfl dX1_addCode_13 ?_
    refine c_aload_n G dX1_addCode_16 rfl 0 rfl ?_
    refine c_getI G fl_X1_68 h_a0 rfl dX1_addCode_17 ?_
    refine c_iload_n G dX1_addCode_20 rfl 1 rfl ?_
    refine c_iast G (lf h_a0 18 rfl) dX1_addCode_21 (fun M1 _ => ?_)
    refine c_aload_n G dX1_addCode_22 rfl 0 rfl ?_
    refine c_dup G dX1_addCode_23 rfl ?_
    refine c_getI G fl_X1_68 h_a0 rfl dX1_addCode_24 ?_
    refine c_iconst G (nI 1) dX1_addCode_27 kI_1 ?_
    refine c_iadd G dX1_addCode_28 ?_
    refine c_putI G fp_X1_68 h_a0 rfl dX1_addCode_29 (fun M2 _ => ?_)
    exact c_vret G hQ dX1_addCode_32
set_option maxHeartbeats 4000000 in
set_option maxRecDepth 100000 in
theorem con_X7_pointFollows {w : Wp} {N : Nat} {a0 : Nat} {M : Mm} {q : Int32} (h_a0 : lay a0 = (5, 7)) (hq : D_X7_pointFollows N a0 M = some q) : Con w 0 yX7_pointFollows cX7_pointFollows 1 (some .boolean) [.ref (wB w + pz (a0))] M ((encPI M) q) := by
  refine Con.of (encPI M) q _ hq (by decide) (Nat.le_of_ble_eq_true rfl) ?_
  intro X G Q hQ
  have G : Good w X cX7_pointFollows 1 RX7 (some .boolean) 0 := G
  refine c_weak [(0, .ref (wB w + pz (a0)))] [0] rfl ?_
  rw [D_X7_pointFollows]
  refine c_aload_n G dX7_pointFollows_0 rfl 0 rfl ?_
  refine c_getI G fl_X7_55 h_a0 rfl dX7_pointFollows_1 ?_
  refine c_iconst G (nI 1) dX7_pointFollows_4 kI_1 ?_
  refine c_iadd G dX7_pointFollows_5 ?_
  refine c_aload_n G dX7_pointFollows_6 rfl 0 rfl ?_
  refine c_getI G fl_X7_30 h_a0 rfl dX7_pointFollows_7 ?_
  refine c_jn (ej := fun (p50 : Unit) => []) (sj := fun p50 => []) (mj := fun p50 => M) (pj := 50) (fun p50 => ?_) (fun J1 hJ50 => ?_)
  · skip
    refine c_iconst G (nI 0) dX7_pointFollows_50 kI_0 ?_
    exact c_zretP G hQ dX7_pointFollows_51
  · skip
    refine c_icmp_ge (tgt := 50) G dX7_pointFollows_10 (by decide) (fun _ => ?_) (fun _ => ?_)
    · skip
      exact c_weak _ [] rfl (hJ50 ())
    · skip
      refine c_aload_n G dX7_pointFollows_13 rfl 0 rfl ?_
      refine c_getF G fl_X7_15 h_a0 rfl dX7_pointFollows_14 ?_
      refine c_aload_n G dX7_pointFollows_17 rfl 0 rfl ?_
      refine c_getI G fl_X7_55 h_a0 rfl dX7_pointFollows_18 ?_
      refine c_iconst G (nI 1) dX7_pointFollows_21 kI_1 ?_
      refine c_iadd G dX7_pointFollows_22 ?_
      refine c_iald G (lf h_a0 1 rfl) dX7_pointFollows_23 (fun v1 _ => ?_)
      refine c_iconst G (nI 3) dX7_pointFollows_24 kI_3 ?_
      refine c_icmp_ne (tgt := 50) G dX7_pointFollows_25 (by decide) (fun _ => ?_) (fun _ => ?_)
      · skip
        refine c_aload_n G dX7_pointFollows_28 rfl 0 rfl ?_
        refine c_getF G fl_X7_22 h_a0 rfl dX7_pointFollows_29 ?_
        refine c_aload_n G dX7_pointFollows_32 rfl 0 rfl ?_
        refine c_getI G fl_X7_55 h_a0 rfl dX7_pointFollows_33 ?_
        refine c_iconst G (nI 1) dX7_pointFollows_36 kI_1 ?_
        refine c_iadd G dX7_pointFollows_37 ?_
        refine c_lald G (lf h_a0 3 rfl) dX7_pointFollows_38 (fun v2 _ => ?_)
        refine c_ldc2 G (lN 46) kC_X7_86 kW_46 dX7_pointFollows_39 ?_
        refine c_lcmp G dX7_pointFollows_42 ?_
        refine c_if_ne (tgt := 50) G dX7_pointFollows_43 (by decide) (fun _ => ?_) (fun _ => ?_)
        · skip
          refine c_iconst G (nI 1) dX7_pointFollows_46 kI_1 ?_
          refine c_goto (tgt := 51) G dX7_pointFollows_47 (by decide) ?_
          exact c_zretP G hQ dX7_pointFollows_51
        · skip
          exact c_weak _ [] rfl (hJ50 ())
      · skip
        exact c_weak _ [] rfl (hJ50 ())
set_option maxHeartbeats 4000000 in
set_option maxRecDepth 100000 in
theorem con_X1_addAsk {w : Wp} {N : Nat} {a0 : Nat} {a1 : Int32} {a2 : Int32} {a3 : Int32} {M : Mm} {q : Mm} (h_a0 : lay a0 = (5, 1)) (hq : D_X1_addAsk N a0 a1 a2 a3 M = some q) : Con w 0 yX1_addAsk cX1_addAsk 4 none [.ref (wB w + pz (a0)), .int a1, .int a2, .int a3] M (encV q) := by
  refine Con.of encV q _ hq (by decide) (Nat.le_of_ble_eq_true rfl) ?_
  intro X G Q hQ
  have G : Good w X cX1_addAsk 4 RX1 none 0 := G
  refine c_weak [(0, .ref (wB w + pz (a0))), (1, .int a1), (2, .int a2), (3, .int a3)] [0, 1, 2, 3] rfl ?_
  rw [D_X1_addAsk]
  refine c_aload_n G dX1_addAsk_0 rfl 0 rfl ?_
  refine c_getF G fl_X1_46 h_a0 rfl dX1_addAsk_1 ?_
  refine c_bipush G (nI 32) dX1_addAsk_4 kB_32 ?_
  refine c_iload_n G dX1_addAsk_6 rfl 1 rfl ?_
  refine c_imul G dX1_addAsk_7 ?_
  refine c_iload_n G dX1_addAsk_8 rfl 2 rfl ?_
  refine c_iadd G dX1_addAsk_9 ?_
  refine c_dup2 G dX1_addAsk_10 rfl rfl ?_
  refine c_iald G (lf h_a0 14 rfl) dX1_addAsk_11 (fun v1 _ => ?_)
  refine c_iconst G (nI 1) dX1_addAsk_12 kI_1 ?_
  refine c_iload_n G dX1_addAsk_13 rfl 3 rfl ?_
  refine c_ishl G dX1_addAsk_14 ?_
  refine c_ior G dX1_addAsk_15 ?_
  refine c_iast G (lf h_a0 14 rfl) dX1_addAsk_16 (fun M1 _ => ?_)
  refine c_aload_n G dX1_addAsk_17 rfl 0 rfl ?_
  refine c_getF G fl_X1_49 h_a0 rfl dX1_addAsk_18 ?_
  refine c_bipush G (nI 32) dX1_addAsk_21 kB_32 ?_
  refine c_iload_n G dX1_addAsk_23 rfl 1 rfl ?_
  refine c_imul G dX1_addAsk_24 ?_
  refine c_iload_n G dX1_addAsk_25 rfl 3 rfl ?_
  refine c_iadd G dX1_addAsk_26 ?_
  refine c_dup2 G dX1_addAsk_27 rfl rfl ?_
  refine c_iald G (lf h_a0 15 rfl) dX1_addAsk_28 (fun v2 _ => ?_)
  refine c_iconst G (nI 1) dX1_addAsk_29 kI_1 ?_
  refine c_iload_n G dX1_addAsk_30 rfl 2 rfl ?_
  refine c_ishl G dX1_addAsk_31 ?_
  refine c_ior G dX1_addAsk_32 ?_
  refine c_iast G (lf h_a0 15 rfl) dX1_addAsk_33 (fun M2 _ => ?_)
  exact c_vret G hQ dX1_addAsk_34
set_option maxHeartbeats 4000000 in
set_option maxRecDepth 100000 in
theorem con_X2_readLeaf {w : Wp} {N : Nat} {a0 : Nat} {M : Mm} {q : Int32 × Mm} (h_a0 : lay a0 = (5, 2)) (hq : D_X2_readLeaf N a0 M = some q) : Con w 2 yX2_readLeaf cX2_readLeaf 5 (some .boolean) [.ref (wB w + pz (a0))] M (encI q) := by
  refine Con.of encI q _ hq (by decide) (Nat.le_of_ble_eq_true rfl) ?_
  intro X G Q hQ
  have G : Good w X cX2_readLeaf 5 RX2 (some .boolean) 2 := G
  refine c_weak [(0, .ref (wB w + pz (a0)))] [0] rfl ?_
  rw [D_X2_readLeaf]
  refine c_aload_n G dX2_readLeaf_0 rfl 0 rfl ?_
  refine c_getR (c' := 7) G fl_X2_9 h_a0 rfl dX2_readLeaf_1 (fun r1 _ h_r1 => ?_)
  refine c_ldc2 G (lN 15021) kC_X2_181 kW_15021 dX2_readLeaf_4 ?_
  refine c_callV_PI (d := 0) (rest := []) G [.long (lN 15021)] yv_X7_isWordOf ml_X2_32 (by omega) (by decide) rfl rfl (Nat.le_of_ble_eq_true rfl) h_r1 (fun q hq => con_X7_isWordOf h_r1 hq) dX2_readLeaf_7 (fun q1 _ => ?_)
  refine c_istore_n G [(1, .int q1), (0, .ref (wB w + pz (a0)))] dX2_readLeaf_10 rfl (by decide) rfl ?_
  refine c_iload_n G dX2_readLeaf_11 rfl 0 rfl ?_
  refine c_jn (ej := fun (p35 : Unit) => [(0, .ref (wB w + pz (a0))), (1, .int q1)]) (sj := fun p35 => []) (mj := fun p35 => M) (pj := 35) (fun p35 => ?_) (fun J4 hJ35 => ?_)
  · skip
    refine c_iload_n G dX2_readLeaf_35 rfl 1 rfl ?_
    refine c_bj (ej := fun (p54 : Int32) => [(0, .ref (wB w + pz (a0))), (1, .int q1)]) (sj := fun p54 => [.int p54]) (mj := fun p54 => M) (pj := 54) (fun p54 => ?_) (fun F hJ54 => ?_)
    · skip
      refine c_istore_n G [(2, .int p54), (0, .ref (wB w + pz (a0))), (1, .int q1)] dX2_readLeaf_54 rfl (by decide) rfl ?_
      refine c_iload_n G dX2_readLeaf_55 rfl 0 rfl ?_
      refine c_jn (ej := fun (p68 : Mm) => [(0, .ref (wB w + pz (a0))), (1, .int q1), (2, .int p54)]) (sj := fun p68 => []) (mj := fun p68 => p68) (pj := 68) (fun p68 => ?_) (fun J2 hJ68 => ?_)
      · skip
        refine c_aload_n G dX2_readLeaf_68 rfl 0 rfl ?_
        refine c_getI G fl_X2_145 h_a0 rfl dX2_readLeaf_69 ?_
        refine c_bipush G (nI 24) dX2_readLeaf_72 kB_24 ?_
        refine c_icmp_lt (tgt := 87) G dX2_readLeaf_74 (by decide) (fun _ => ?_) (fun _ => ?_)
        · skip
          refine c_aload_n G dX2_readLeaf_87 rfl 0 rfl ?_
          refine c_dup G dX2_readLeaf_88 rfl ?_
          refine c_getI G fl_X2_145 h_a0 rfl dX2_readLeaf_89 ?_
          refine c_iconst G (nI 1) dX2_readLeaf_92 kI_1 ?_
          refine c_iadd G dX2_readLeaf_93 ?_
          refine c_putI G fp_X2_145 h_a0 rfl dX2_readLeaf_94 (fun M2 _ => ?_)
          refine c_iload_n G dX2_readLeaf_97 rfl 1 rfl ?_
          refine c_bj (ej := fun (p115 : Int32) => [(0, .ref (wB w + pz (a0))), (1, .int q1), (2, .int p54)]) (sj := fun p115 => [.int p115]) (mj := fun p115 => M2) (pj := 115) (fun p115 => ?_) (fun F hJ115 => ?_)
          · skip
            refine c_istore_n G [(3, .int p115), (0, .ref (wB w + pz (a0))), (1, .int q1), (2, .int p54)] dX2_readLeaf_115 rfl (by decide) rfl ?_
            refine c_iload_n G dX2_readLeaf_116 rfl 3 rfl ?_
            refine c_jn (ej := fun (p158 : Int32 × Mm) => [(0, .ref (wB w + pz (a0))), (1, .int q1), (3, .int p158.1)]) (sj := fun p158 => []) (mj := fun p158 => p158.2) (pj := 158) (fun p158 => ?_) (fun J1 hJ158 => ?_)
            · skip
              refine c_iload_n G dX2_readLeaf_158 rfl 1 rfl ?_
              refine c_bj (ej := fun (p183 : Mm) => [(0, .ref (wB w + pz (a0))), (3, .int p158.1)]) (sj := fun p183 => []) (mj := fun p183 => p183) (pj := 183) (fun p183 => ?_) (fun F hJ183 => ?_)
              · skip
                refine c_aload_n G dX2_readLeaf_183 rfl 0 rfl ?_
                refine c_getR (c' := 1) G fl_X2_15 h_a0 rfl dX2_readLeaf_184 (fun r2 _ h_r2 => ?_)
                refine c_iload_n G dX2_readLeaf_187 rfl 1 rfl ?_
                refine c_callV_V (d := 0) (rest := []) G [.int p158.1] yv_X1_addCode ml_X2_167 (by omega) (by decide) rfl rfl (Nat.le_of_ble_eq_true rfl) h_r2 (fun q hq => con_X1_addCode h_r2 hq) dX2_readLeaf_188 (fun M5 _ => ?_)
                refine c_aload_n G dX2_readLeaf_191 rfl 0 rfl ?_
                refine c_getR (c' := 7) G fl_X2_9 h_a0 rfl dX2_readLeaf_192 (fun r3 _ h_r3 => ?_)
                refine c_callV_V (d := 0) (rest := []) G [] yv_X7_advance ml_X2_60 (by omega) (by decide) rfl rfl (Nat.le_of_ble_eq_true rfl) h_r3 (fun q hq => con_X7_advance h_r3 hq) dX2_readLeaf_195 (fun M6 _ => ?_)
                refine c_iconst G (nI 1) dX2_readLeaf_198 kI_1 ?_
                exact c_zret G hQ dX2_readLeaf_199
              · skip
                refine c_if_eq (tgt := 183) G dX2_readLeaf_159 (by decide) (fun _ => ?_) (fun _ => ?_)
                · skip
                  exact c_weak _ [0, 2] rfl (hJ183 p158.2)
                · skip
                  refine c_aload_n G dX2_readLeaf_162 rfl 0 rfl ?_
                  refine c_getR (c' := 1) G fl_X2_15 h_a0 rfl dX2_readLeaf_163 (fun r4 _ h_r4 => ?_)
                  refine c_getF G fl_X2_190 h_r4 rfl dX2_readLeaf_166 ?_
                  refine c_aload_n G dX2_readLeaf_169 rfl 0 rfl ?_
                  refine c_getI G fl_X2_123 h_a0 rfl dX2_readLeaf_170 ?_
                  refine c_dup2 G dX2_readLeaf_173 rfl rfl ?_
                  refine c_iald G (lf h_r4 13 rfl) dX2_readLeaf_174 (fun v1 _ => ?_)
                  refine c_iconst G (nI 1) dX2_readLeaf_175 kI_1 ?_
                  refine c_aload_n G dX2_readLeaf_176 rfl 0 rfl ?_
                  refine c_getI G fl_X2_133 h_a0 rfl dX2_readLeaf_177 ?_
                  refine c_ishl G dX2_readLeaf_180 ?_
                  refine c_ior G dX2_readLeaf_181 ?_
                  refine c_iast G (lf h_r4 13 rfl) dX2_readLeaf_182 (fun M7 _ => ?_)
                  exact c_weak _ [0, 2] rfl (hJ183 M7)
            · skip
              refine c_if_eq (tgt := 158) G dX2_readLeaf_117 (by decide) (fun _ => ?_) (fun _ => ?_)
              · skip
                exact c_weak _ [1, 2, 0] rfl (hJ158 (p115, M2))
              · skip
                refine c_aload_n G dX2_readLeaf_120 rfl 1 rfl ?_
                refine c_callV_I (d := 1) (rest := []) G [] yv_X2_seekOcc ml_X2_129 (by omega) (by decide) rfl rfl (Nat.le_of_ble_eq_true rfl) h_a0 (fun q hq => con_X2_seekOcc h_a0 hq) dX2_readLeaf_121 (fun q2 _ => ?_)
                refine c_istore G [(4, .int q2.1), (3, .int p115), (0, .ref (wB w + pz (a0))), (1, .int q1), (2, .int p54)] dX2_readLeaf_124 (by decide) rfl ?_
                refine c_iload G dX2_readLeaf_126 0 rfl ?_
                refine c_iconst G m1 dX2_readLeaf_128 kI_m1 ?_
                refine c_icmp_ne (tgt := 134) G dX2_readLeaf_129 (by decide) (fun _ => ?_) (fun _ => ?_)
                · skip
                  refine c_iconst G (nI 0) dX2_readLeaf_132 kI_0 ?_
                  exact c_zret G hQ dX2_readLeaf_133
                · skip
                  refine c_aload_n G dX2_readLeaf_134 rfl 2 rfl ?_
                  refine c_getR (c' := 1) G fl_X2_15 h_a0 rfl dX2_readLeaf_135 (fun r5 _ h_r5 => ?_)
                  refine c_aload_n G dX2_readLeaf_138 rfl 2 rfl ?_
                  refine c_getI G fl_X2_123 h_a0 rfl dX2_readLeaf_139 ?_
                  refine c_aload_n G dX2_readLeaf_142 rfl 2 rfl ?_
                  refine c_getI G fl_X2_133 h_a0 rfl dX2_readLeaf_143 ?_
                  refine c_iload G dX2_readLeaf_146 0 rfl ?_
                  refine c_callV_V (d := 0) (rest := []) G [.int (q2.2.1 a0 2), .int (q2.2.1 a0 3), .int q2.1] yv_X1_addAsk ml_X2_186 (by omega) (by decide) rfl rfl (Nat.le_of_ble_eq_true rfl) h_r5 (fun q hq => con_X1_addAsk h_r5 hq) dX2_readLeaf_148 (fun M8 _ => ?_)
                  refine c_sipush G (nI 10000) dX2_readLeaf_151 kS_10000 ?_
                  refine c_iload G dX2_readLeaf_154 0 rfl ?_
                  refine c_iadd G dX2_readLeaf_156 ?_
                  refine c_let (fun l3_2 _ => ?_)
                  refine c_istore_n G [(3, .int l3_2), (4, .int q2.1), (0, .ref (wB w + pz (a0))), (1, .int q1), (2, .int p54)] dX2_readLeaf_157 rfl (by decide) rfl ?_
                  exact c_weak _ [2, 3, 0] rfl (hJ158 (l3_2, M8))
          · skip
            refine c_if_eq (tgt := 107) G dX2_readLeaf_98 (by decide) (fun _ => ?_) (fun _ => ?_)
            · skip
              refine c_aload_n G dX2_readLeaf_107 rfl 0 rfl ?_
              refine c_getR (c' := 7) G fl_X2_9 h_a0 rfl dX2_readLeaf_108 (fun r6 _ h_r6 => ?_)
              refine c_getJ G fl_X2_66 h_r6 rfl dX2_readLeaf_111 ?_
              refine c_l2i G dX2_readLeaf_114 ?_
              exact c_weak _ [0, 1, 2] rfl (hJ115 (((M2.2.1 r6 8)).toInt32))
            · skip
              refine c_sipush G (nI 20000) dX2_readLeaf_101 kS_20000 ?_
              refine c_goto (tgt := 115) G dX2_readLeaf_104 (by decide) ?_
              exact c_weak _ [0, 1, 2] rfl (hJ115 (nI 20000))
        · skip
          refine c_aload_n G dX2_readLeaf_77 rfl 0 rfl ?_
          refine c_getR (c' := 7) G fl_X2_9 h_a0 rfl dX2_readLeaf_78 (fun r7 _ h_r7 => ?_)
          refine c_bipush G (nI 6) dX2_readLeaf_81 kB_6 ?_
          refine c_callV_I (d := 0) (rest := []) G [.int (nI 6)] yv_X7_fail ml_X2_54 (by omega) (by decide) rfl rfl (Nat.le_of_ble_eq_true rfl) h_r7 (fun q hq => con_X7_fail h_r7 hq) dX2_readLeaf_83 (fun q3 _ => ?_)
          exact c_zret G hQ dX2_readLeaf_86
      · skip
        refine c_if_eq (tgt := 68) G dX2_readLeaf_56 (by decide) (fun _ => ?_) (fun _ => ?_)
        · skip
          exact c_weak _ [1, 2, 0] rfl (hJ68 M)
        · skip
          refine c_aload_n G dX2_readLeaf_59 rfl 1 rfl ?_
          refine c_callV_I (d := 1) (rest := []) G [] yv_X2_positionStands ml_X2_126 (by omega) (by decide) rfl rfl (Nat.le_of_ble_eq_true rfl) h_a0 (fun q hq => con_X2_positionStands h_a0 hq) dX2_readLeaf_60 (fun q4 _ => ?_)
          refine c_if_ne (tgt := 68) G dX2_readLeaf_63 (by decide) (fun _ => ?_) (fun _ => ?_)
          · skip
            refine c_iconst G (nI 0) dX2_readLeaf_66 kI_0 ?_
            exact c_zret G hQ dX2_readLeaf_67
          · skip
            exact c_weak _ [1, 2, 0] rfl (hJ68 q4.2)
    · skip
      refine c_jn (ej := fun (p53 : Unit) => [(0, .ref (wB w + pz (a0))), (1, .int q1)]) (sj := fun p53 => []) (mj := fun p53 => M) (pj := 53) (fun p53 => ?_) (fun J3 hJ53 => ?_)
      · skip
        refine c_iconst G (nI 0) dX2_readLeaf_53 kI_0 ?_
        exact c_weak _ [0, 1] rfl (hJ54 (nI 0))
      · skip
        refine c_if_ne (tgt := 53) G dX2_readLeaf_36 (by decide) (fun _ => ?_) (fun _ => ?_)
        · skip
          refine c_aload_n G dX2_readLeaf_39 rfl 0 rfl ?_
          refine c_getR (c' := 7) G fl_X2_9 h_a0 rfl dX2_readLeaf_40 (fun r8 _ h_r8 => ?_)
          refine c_callV_PI (d := 0) (rest := []) G [] yv_X7_pointFollows ml_X2_183 (by omega) (by decide) rfl rfl (Nat.le_of_ble_eq_true rfl) h_r8 (fun q hq => con_X7_pointFollows h_r8 hq) dX2_readLeaf_43 (fun q5 _ => ?_)
          refine c_if_eq (tgt := 53) G dX2_readLeaf_46 (by decide) (fun _ => ?_) (fun _ => ?_)
          · skip
            exact c_weak _ [0, 1] rfl (hJ53 ())
          · skip
            refine c_iconst G (nI 1) dX2_readLeaf_49 kI_1 ?_
            refine c_goto (tgt := 54) G dX2_readLeaf_50 (by decide) ?_
            exact c_weak _ [0, 1] rfl (hJ54 (nI 1))
        · skip
          exact c_weak _ [0, 1] rfl (hJ53 ())
  · skip
    refine c_if_ne (tgt := 35) G dX2_readLeaf_12 (by decide) (fun _ => ?_) (fun _ => ?_)
    · skip
      refine c_aload_n G dX2_readLeaf_15 rfl 1 rfl ?_
      refine c_getR (c' := 7) G fl_X2_9 h_a0 rfl dX2_readLeaf_16 (fun r9 _ h_r9 => ?_)
      refine c_getI G fl_X2_24 h_r9 rfl dX2_readLeaf_19 ?_
      refine c_iconst G (nI 2) dX2_readLeaf_22 kI_2 ?_
      refine c_icmp_eq (tgt := 35) G dX2_readLeaf_23 (by decide) (fun _ => ?_) (fun _ => ?_)
      · skip
        exact c_weak _ [1, 0] rfl (hJ35 ())
      · skip
        refine c_aload_n G dX2_readLeaf_26 rfl 1 rfl ?_
        refine c_getR (c' := 7) G fl_X2_9 h_a0 rfl dX2_readLeaf_27 (fun r10 _ h_r10 => ?_)
        refine c_iconst G (nI 2) dX2_readLeaf_30 kI_2 ?_
        refine c_callV_I (d := 0) (rest := []) G [.int (nI 2)] yv_X7_fail ml_X2_54 (by omega) (by decide) rfl rfl (Nat.le_of_ble_eq_true rfl) h_r10 (fun q hq => con_X7_fail h_r10 hq) dX2_readLeaf_31 (fun q6 _ => ?_)
        exact c_zret G hQ dX2_readLeaf_34
    · skip
      exact c_weak _ [1, 0] rfl (hJ35 ())
set_option maxHeartbeats 4000000 in
set_option maxRecDepth 100000 in
theorem con_X2_readPart {w : Wp} {N : Nat} {dd : Nat} {rc : Nat → Int32 → Mm → Option (Int32 × Mm)} {a0 : Nat} {a1 : Int32} {M : Mm} {q : Int32 × Mm} (hdd : 3 ≤ dd) (hrc : ∀ (b0 : Nat) (b1 : Int32) (M : Mm) (q : Int32 × Mm), lay b0 = (5, 2) → rc b0 b1 M = some q → Con w dd yX2_readE cX2_readE 5 (some .boolean) [.ref (wB w + pz (b0)), .int b1] M (encI q)) (h_a0 : lay a0 = (5, 2)) (hq : D_X2_readPart N rc a0 a1 M = some q) : Con w (dd + 2) yX2_readPart cX2_readPart 3 (some .boolean) [.ref (wB w + pz (a0)), .int a1] M (encI q) := by
  refine Con.of encI q _ hq (by decide) (Nat.le_of_ble_eq_true rfl) ?_
  intro X G Q hQ
  have G : Good w X cX2_readPart 3 RX2 (some .boolean) (dd + 2) := G
  refine c_weak [(0, .ref (wB w + pz (a0))), (1, .int a1)] [0, 1] rfl ?_
  rw [D_X2_readPart]
  refine c_aload_n G dX2_readPart_0 rfl 0 rfl ?_
  refine c_getR (c' := 7) G fl_X2_9 h_a0 rfl dX2_readPart_1 (fun r1 _ h_r1 => ?_)
  refine c_bipush G (nI 40) dX2_readPart_4 kB_40 ?_
  refine c_callV_PI (d := 0) (rest := []) G [.int (nI 40)] yv_X7_isSignOf ml_X2_154 (by omega) (by decide) rfl rfl (Nat.le_of_ble_eq_true rfl) h_r1 (fun q hq => con_X7_isSignOf h_r1 hq) dX2_readPart_6 (fun q1 _ => ?_)
  refine c_if_eq (tgt := 19) G dX2_readPart_9 (by decide) (fun _ => ?_) (fun _ => ?_)
  · skip
    refine c_aload_n G dX2_readPart_19 rfl 0 rfl ?_
    refine c_getR (c' := 7) G fl_X2_9 h_a0 rfl dX2_readPart_20 (fun r2 _ h_r2 => ?_)
    refine c_ldc2 G (lN 294) kC_X2_175 kW_294 dX2_readPart_23 ?_
    refine c_callV_PI (d := 0) (rest := []) G [.long (lN 294)] yv_X7_isWordOf ml_X2_32 (by omega) (by decide) rfl rfl (Nat.le_of_ble_eq_true rfl) h_r2 (fun q hq => con_X7_isWordOf h_r2 hq) dX2_readPart_26 (fun q2 _ => ?_)
    refine c_if_eq (tgt := 57) G dX2_readPart_29 (by decide) (fun _ => ?_) (fun _ => ?_)
    · skip
      refine c_aload_n G dX2_readPart_57 rfl 0 rfl ?_
      refine c_callV_I (d := 2) (rest := []) G [] yv_X2_readLeaf ml_X2_178 (by omega) (by decide) rfl rfl (Nat.le_of_ble_eq_true rfl) h_a0 (fun q hq => con_X2_readLeaf h_a0 hq) dX2_readPart_58 (fun q3 _ => ?_)
      exact c_zret G hQ dX2_readPart_61
    · skip
      refine c_aload_n G dX2_readPart_32 rfl 0 rfl ?_
      refine c_getR (c' := 7) G fl_X2_9 h_a0 rfl dX2_readPart_33 (fun r3 _ h_r3 => ?_)
      refine c_callV_V (d := 0) (rest := []) G [] yv_X7_advance ml_X2_60 (by omega) (by decide) rfl rfl (Nat.le_of_ble_eq_true rfl) h_r3 (fun q hq => con_X7_advance h_r3 hq) dX2_readPart_36 (fun M1 _ => ?_)
      refine c_aload_n G dX2_readPart_39 rfl 0 rfl ?_
      refine c_iload_n G dX2_readPart_40 rfl 1 rfl ?_
      refine c_iconst G (nI 3) dX2_readPart_41 kI_3 ?_
      refine c_callV_I (d := (dd + 1)) (rest := []) G [.int a1, .int (nI 3)] yv_X2_readBracket ml_X2_171 (by omega) (by decide) rfl rfl (Nat.le_of_ble_eq_true rfl) h_a0 (fun q hq => con_X2_readBracket hdd hrc h_a0 hq) dX2_readPart_42 (fun q4 _ => ?_)
      refine c_istore_n G [(2, .int q4.1), (0, .ref (wB w + pz (a0))), (1, .int a1)] dX2_readPart_45 rfl (by decide) rfl ?_
      refine c_aload_n G dX2_readPart_46 rfl 1 rfl ?_
      refine c_getR (c' := 1) G fl_X2_15 h_a0 rfl dX2_readPart_47 (fun r4 _ h_r4 => ?_)
      refine c_ldc G (nI 40000) kC_X2_177 kV_40000 dX2_readPart_50 ?_
      refine c_callV_V (d := 0) (rest := []) G [.int (nI 40000)] yv_X1_addCode ml_X2_167 (by omega) (by decide) rfl rfl (Nat.le_of_ble_eq_true rfl) h_r4 (fun q hq => con_X1_addCode h_r4 hq) dX2_readPart_52 (fun M2 _ => ?_)
      refine c_iload_n G dX2_readPart_55 rfl 0 rfl ?_
      exact c_zret G hQ dX2_readPart_56
  · skip
    refine c_aload_n G dX2_readPart_12 rfl 0 rfl ?_
    refine c_iload_n G dX2_readPart_13 rfl 1 rfl ?_
    refine c_iconst G (nI 1) dX2_readPart_14 kI_1 ?_
    refine c_callV_I (d := (dd + 1)) (rest := []) G [.int a1, .int (nI 1)] yv_X2_readBracket ml_X2_171 (by omega) (by decide) rfl rfl (Nat.le_of_ble_eq_true rfl) h_a0 (fun q hq => con_X2_readBracket hdd hrc h_a0 hq) dX2_readPart_15 (fun q5 _ => ?_)
    exact c_zret G hQ dX2_readPart_18
set_option maxHeartbeats 4000000 in
set_option maxRecDepth 100000 in
theorem con_X2_operatorHere {w : Wp} {N : Nat} {a0 : Nat} {M : Mm} {q : Int32} (h_a0 : lay a0 = (5, 2)) (hq : D_X2_operatorHere N a0 M = some q) : Con w 0 yX2_operatorHere cX2_operatorHere 1 (some .int) [.ref (wB w + pz (a0))] M ((encPI M) q) := by
  refine Con.of (encPI M) q _ hq (by decide) (Nat.le_of_ble_eq_true rfl) ?_
  intro X G Q hQ
  have G : Good w X cX2_operatorHere 1 RX2 (some .int) 0 := G
  refine c_weak [(0, .ref (wB w + pz (a0)))] [0] rfl ?_
  rw [D_X2_operatorHere]
  refine c_aload_n G dX2_operatorHere_0 rfl 0 rfl ?_
  refine c_getR (c' := 7) G fl_X2_9 h_a0 rfl dX2_operatorHere_1 (fun r1 _ h_r1 => ?_)
  refine c_getI G fl_X2_24 h_r1 rfl dX2_operatorHere_4 ?_
  refine c_iconst G (nI 1) dX2_operatorHere_7 kI_1 ?_
  refine c_icmp_ne (tgt := 51) G dX2_operatorHere_8 (by decide) (fun _ => ?_) (fun _ => ?_)
  · skip
    refine c_aload_n G dX2_operatorHere_11 rfl 0 rfl ?_
    refine c_getR (c' := 7) G fl_X2_9 h_a0 rfl dX2_operatorHere_12 (fun r2 _ h_r2 => ?_)
    refine c_getJ G fl_X2_66 h_r2 rfl dX2_operatorHere_15 ?_
    refine c_ldc2 G (lN 13368) kC_X2_193 kW_13368 dX2_operatorHere_18 ?_
    refine c_lcmp G dX2_operatorHere_21 ?_
    refine c_if_ne (tgt := 30) G dX2_operatorHere_22 (by decide) (fun _ => ?_) (fun _ => ?_)
    · skip
      refine c_bipush G (nI 6) dX2_operatorHere_25 kB_6 ?_
      refine c_goto (tgt := 50) G dX2_operatorHere_27 (by decide) ?_
      exact c_iretP G hQ dX2_operatorHere_50
    · skip
      refine c_aload_n G dX2_operatorHere_30 rfl 0 rfl ?_
      refine c_getR (c' := 7) G fl_X2_9 h_a0 rfl dX2_operatorHere_31 (fun r3 _ h_r3 => ?_)
      refine c_getJ G fl_X2_66 h_r3 rfl dX2_operatorHere_34 ?_
      refine c_ldc2 G (lN 13614) kC_X2_195 kW_13614 dX2_operatorHere_37 ?_
      refine c_lcmp G dX2_operatorHere_40 ?_
      refine c_if_ne (tgt := 49) G dX2_operatorHere_41 (by decide) (fun _ => ?_) (fun _ => ?_)
      · skip
        refine c_bipush G (nI 7) dX2_operatorHere_44 kB_7 ?_
        refine c_goto (tgt := 50) G dX2_operatorHere_46 (by decide) ?_
        exact c_iretP G hQ dX2_operatorHere_50
      · skip
        refine c_iconst G m1 dX2_operatorHere_49 kI_m1 ?_
        exact c_iretP G hQ dX2_operatorHere_50
  · skip
    refine c_aload_n G dX2_operatorHere_51 rfl 0 rfl ?_
    refine c_getR (c' := 7) G fl_X2_9 h_a0 rfl dX2_operatorHere_52 (fun r4 _ h_r4 => ?_)
    refine c_getI G fl_X2_24 h_r4 rfl dX2_operatorHere_55 ?_
    refine c_iconst G (nI 3) dX2_operatorHere_58 kI_3 ?_
    refine c_icmp_eq (tgt := 64) G dX2_operatorHere_59 (by decide) (fun _ => ?_) (fun _ => ?_)
    · skip
      refine c_aload_n G dX2_operatorHere_64 rfl 0 rfl ?_
      refine c_getR (c' := 7) G fl_X2_9 h_a0 rfl dX2_operatorHere_65 (fun r5 _ h_r5 => ?_)
      refine c_getJ G fl_X2_66 h_r5 rfl dX2_operatorHere_68 ?_
      refine c_l2i G dX2_operatorHere_71 ?_
      refine c_lsw (off := 68) (tgt := 140) G (nI 38) dX2_operatorHere_72 (by decide +kernel) (by decide +kernel) (by decide) (fun _ => ?_) (fun hn38 => ?_)
      · skip
        refine c_iconst G (nI 4) dX2_operatorHere_140 kI_4 ?_
        exact c_iretP G hQ dX2_operatorHere_141
      · skip
        refine c_lsw (off := 64) (tgt := 136) G (nI 42) dX2_operatorHere_72 (by decide +kernel) (by decide +kernel) (by decide) (fun _ => ?_) (fun hn42 => ?_)
        · skip
          refine c_iconst G (nI 2) dX2_operatorHere_136 kI_2 ?_
          exact c_iretP G hQ dX2_operatorHere_137
        · skip
          refine c_lsw (off := 60) (tgt := 132) G (nI 43) dX2_operatorHere_72 (by decide +kernel) (by decide +kernel) (by decide) (fun _ => ?_) (fun hn43 => ?_)
          · skip
            refine c_iconst G (nI 0) dX2_operatorHere_132 kI_0 ?_
            exact c_iretP G hQ dX2_operatorHere_133
          · skip
            refine c_lsw (off := 62) (tgt := 134) G (nI 45) dX2_operatorHere_72 (by decide +kernel) (by decide +kernel) (by decide) (fun _ => ?_) (fun hn45 => ?_)
            · skip
              refine c_iconst G (nI 1) dX2_operatorHere_134 kI_1 ?_
              exact c_iretP G hQ dX2_operatorHere_135
            · skip
              refine c_lsw (off := 70) (tgt := 142) G (nI 60) dX2_operatorHere_72 (by decide +kernel) (by decide +kernel) (by decide) (fun _ => ?_) (fun hn60 => ?_)
              · skip
                refine c_iconst G (nI 5) dX2_operatorHere_142 kI_5 ?_
                exact c_iretP G hQ dX2_operatorHere_143
              · skip
                refine c_lsw (off := 66) (tgt := 138) G (nI 124) dX2_operatorHere_72 (by decide +kernel) (by decide +kernel) (by decide) (fun _ => ?_) (fun hn124 => ?_)
                · skip
                  refine c_iconst G (nI 3) dX2_operatorHere_138 kI_3 ?_
                  exact c_iretP G hQ dX2_operatorHere_139
                · skip
                  refine c_lswD (tgt := 144) G dX2_operatorHere_72 (by decide +kernel) (by show Op.lookupswitch.offset [(38, 68), (42, 64), (43, 60), (45, 62), (60, 70), (124, 66)] _ _ = _; rw [lv_osw hn38 (show (nI 38).toInt = 38 by decide +kernel), lv_osw hn42 (show (nI 42).toInt = 42 by decide +kernel), lv_osw hn43 (show (nI 43).toInt = 43 by decide +kernel), lv_osw hn45 (show (nI 45).toInt = 45 by decide +kernel), lv_osw hn60 (show (nI 60).toInt = 60 by decide +kernel), lv_osw hn124 (show (nI 124).toInt = 124 by decide +kernel)]; rfl) (by decide) ?_
                  refine c_iconst G m1 dX2_operatorHere_144 kI_m1 ?_
                  exact c_iretP G hQ dX2_operatorHere_145
    · skip
      refine c_iconst G m1 dX2_operatorHere_62 kI_m1 ?_
      exact c_iretP G hQ dX2_operatorHere_63
set_option maxHeartbeats 4000000 in
set_option maxRecDepth 100000 in
theorem cl_X2_readE_8 {w : Wp} {rc : Nat → Int32 → Mm → Option (Int32 × Mm)} {X : Cx} {Q : State → Prop} {ρ : Int32 × Mm} {dd : Nat} (G : Good w X cX2_readE 5 RX2 (some .boolean) (dd + 3)) (hQ : Q = MQ (xL X) (Qd w (encI ρ)) (xA X) (xS X) (xk X) (xs X) (Aw w)) (hdd : 3 ≤ dd) (hrc : ∀ (b0 : Nat) (b1 : Int32) (M : Mm) (q : Int32 × Mm), lay b0 = (5, 2) → rc b0 b1 M = some q → Con w dd yX2_readE cX2_readE 5 (some .boolean) [.ref (wB w + pz (b0)), .int b1] M (encI q)) {N : Nat} {a0 : Nat} {a1 : Int32} (h_a0 : lay a0 = (5, 2)) : ∀ (n : Nat) (l2_1 : Int32) (l3_1 : Int32) (M1 : Mm), Cov w X Q ρ some 5 8 [(0, .ref (wB w + pz (a0))), (1, .int a1), (2, .int l2_1), (3, .int l3_1)] [] M1 (L_X2_readE_8 N a0 rc a1 n l2_1 l3_1 M1) := by
  intro n
  induction n with
  | zero => intro l2_1 l3_1 M1; exact c_none
  | succ n ih =>
    intro l2_1 l3_1 M1
    rw [L_X2_readE_8]
    refine c_iload_n G dX2_readE_8 rfl 3 rfl ?_
    refine c_sipush G (nI 1000) dX2_readE_9 kS_1000 ?_
    refine c_icmp_ge (tgt := 65) G dX2_readE_12 (by decide) (fun _ => ?_) (fun _ => ?_)
    · skip
      refine c_iload_n G dX2_readE_65 rfl 2 rfl ?_
      exact c_zret G hQ dX2_readE_66
    · skip
      refine c_iload_n G dX2_readE_15 rfl 2 rfl ?_
      refine c_if_eq (tgt := 65) G dX2_readE_16 (by decide) (fun _ => ?_) (fun _ => ?_)
      · skip
        refine c_iload_n G dX2_readE_65 rfl 2 rfl ?_
        exact c_zret G hQ dX2_readE_66
      · skip
        refine c_aload_n G dX2_readE_19 rfl 0 rfl ?_
        refine c_callV_PI (d := 0) (rest := []) G [] yv_X2_operatorHere ml_X2_164 (by omega) (by decide) rfl rfl (Nat.le_of_ble_eq_true rfl) h_a0 (fun q hq => con_X2_operatorHere h_a0 hq) dX2_readE_20 (fun q2 _ => ?_)
        refine c_istore G [(4, .int q2), (0, .ref (wB w + pz (a0))), (1, .int a1), (2, .int l2_1), (3, .int l3_1)] dX2_readE_23 (by decide) rfl ?_
        refine c_iload G dX2_readE_25 0 rfl ?_
        refine c_iconst G m1 dX2_readE_27 kI_m1 ?_
        refine c_icmp_ne (tgt := 33) G dX2_readE_28 (by decide) (fun _ => ?_) (fun _ => ?_)
        · skip
          refine c_iconst G (nI 1) dX2_readE_31 kI_1 ?_
          exact c_zret G hQ dX2_readE_32
        · skip
          refine c_aload_n G dX2_readE_33 rfl 1 rfl ?_
          refine c_getR (c' := 7) G fl_X2_9 h_a0 rfl dX2_readE_34 (fun r1 _ h_r1 => ?_)
          refine c_callV_V (d := 0) (rest := []) G [] yv_X7_advance ml_X2_60 (by omega) (by decide) rfl rfl (Nat.le_of_ble_eq_true rfl) h_r1 (fun q hq => con_X7_advance h_r1 hq) dX2_readE_37 (fun M2 _ => ?_)
          refine c_aload_n G dX2_readE_40 rfl 1 rfl ?_
          refine c_iload_n G dX2_readE_41 rfl 2 rfl ?_
          refine c_callV_I (d := (dd + 2)) (rest := []) G [.int a1] yv_X2_readPart ml_X2_161 (by omega) (by decide) rfl rfl (Nat.le_of_ble_eq_true rfl) h_a0 (fun q hq => con_X2_readPart hdd hrc h_a0 hq) dX2_readE_42 (fun q3 _ => ?_)
          refine c_istore_n G [(2, .int q3.1), (4, .int q2), (0, .ref (wB w + pz (a0))), (1, .int a1), (3, .int l3_1)] dX2_readE_45 rfl (by decide) rfl ?_
          refine c_aload_n G dX2_readE_46 rfl 2 rfl ?_
          refine c_getR (c' := 1) G fl_X2_15 h_a0 rfl dX2_readE_47 (fun r2 _ h_r2 => ?_)
          refine c_sipush G (nI 30000) dX2_readE_50 kS_30000 ?_
          refine c_iload G dX2_readE_53 1 rfl ?_
          refine c_iadd G dX2_readE_55 ?_
          refine c_callV_V (d := 0) (rest := []) G [.int ((nI 30000) + q2)] yv_X1_addCode ml_X2_167 (by omega) (by decide) rfl rfl (Nat.le_of_ble_eq_true rfl) h_r2 (fun q hq => con_X1_addCode h_r2 hq) dX2_readE_56 (fun M3 _ => ?_)
          refine c_iinc G (fun y__ => [(3, .int y__), (2, .int q3.1), (4, .int q2), (0, .ref (wB w + pz (a0))), (1, .int a1)]) dX2_readE_59 4 rfl kI_1 (by decide) (fun _ => rfl) (fun l3_2 _ => ?_)
          refine c_goto (tgt := 8) G dX2_readE_62 (by decide) ?_
          exact c_weak _ [3, 4, 1, 0] rfl (ih q3.1 l3_2 M3)
set_option maxHeartbeats 4000000 in
set_option maxRecDepth 100000 in
theorem conB_X2_readE {w : Wp} {N : Nat} {dd : Nat} {rc : Nat → Int32 → Mm → Option (Int32 × Mm)} {a0 : Nat} {a1 : Int32} {M : Mm} {q : Int32 × Mm} (hdd : 3 ≤ dd) (hrc : ∀ (b0 : Nat) (b1 : Int32) (M : Mm) (q : Int32 × Mm), lay b0 = (5, 2) → rc b0 b1 M = some q → Con w dd yX2_readE cX2_readE 5 (some .boolean) [.ref (wB w + pz (b0)), .int b1] M (encI q)) (h_a0 : lay a0 = (5, 2)) (hq : DB_X2_readE N rc a0 a1 M = some q) : Con w (dd + 3) yX2_readE cX2_readE 5 (some .boolean) [.ref (wB w + pz (a0)), .int a1] M (encI q) := by
  refine Con.of encI q _ hq (by decide) (Nat.le_of_ble_eq_true rfl) ?_
  intro X G Q hQ
  have G : Good w X cX2_readE 5 RX2 (some .boolean) (dd + 3) := G
  refine c_weak [(0, .ref (wB w + pz (a0))), (1, .int a1)] [0, 1] rfl ?_
  rw [DB_X2_readE]
  refine c_aload_n G dX2_readE_0 rfl 0 rfl ?_
  refine c_iload_n G dX2_readE_1 rfl 1 rfl ?_
  refine c_callV_I (d := (dd + 2)) (rest := []) G [.int a1] yv_X2_readPart ml_X2_161 (by omega) (by decide) rfl rfl (Nat.le_of_ble_eq_true rfl) h_a0 (fun q hq => con_X2_readPart hdd hrc h_a0 hq) dX2_readE_2 (fun q1 _ => ?_)
  refine c_istore_n G [(2, .int q1.1), (0, .ref (wB w + pz (a0))), (1, .int a1)] dX2_readE_5 rfl (by decide) rfl ?_
  refine c_iconst G (nI 0) dX2_readE_6 kI_0 ?_
  refine c_istore_n G [(3, .int (nI 0)), (2, .int q1.1), (0, .ref (wB w + pz (a0))), (1, .int a1)] dX2_readE_7 rfl (by decide) rfl ?_
  refine c_weak _ [2, 3, 1, 0] rfl (cl_X2_readE_8 G hQ hdd hrc  h_a0 N q1.1 (nI 0) q1.2)
theorem con_X2_readE_f {w : Wp} {N : Nat} : ∀ (fu : Nat) (a0 : Nat) (a1 : Int32) (M : Mm) (q : Int32 × Mm), lay a0 = (5, 2) → D_X2_readE N fu a0 a1 M = some q → Con w (3 + 3 * fu) yX2_readE cX2_readE 5 (some .boolean) [.ref (wB w + pz (a0)), .int a1] M (encI q) := by
  intro fu
  induction fu with
  | zero => intro a0 a1 M q h_a0 h; cases h
  | succ fu ih =>
    intro a0 a1 M q h_a0 h
    exact conB_X2_readE (dd := 3 + 3 * fu) (by omega) (fun a0 a1 M q h_a0 h => ih a0 a1 M q h_a0 h) h_a0 h
theorem con_X2_readE {w : Wp} {N : Nat} {a0 : Nat} {a1 : Int32} {M : Mm} {q : Int32 × Mm} (h_a0 : lay a0 = (5, 2)) (hq : D_X2_readE N 8 a0 a1 M = some q) : Con w 27 yX2_readE cX2_readE 5 (some .boolean) [.ref (wB w + pz (a0)), .int a1] M (encI q) := con_X2_readE_f 8 a0 a1 M q h_a0 hq
set_option maxHeartbeats 4000000 in
set_option maxRecDepth 100000 in
theorem con_X1_endCode {w : Wp} {N : Nat} {a0 : Nat} {a1 : Int32} {a2 : Int32} {M : Mm} {q : Mm} (h_a0 : lay a0 = (5, 1)) (hq : D_X1_endCode N a0 a1 a2 M = some q) : Con w 0 yX1_endCode cX1_endCode 3 none [.ref (wB w + pz (a0)), .int a1, .int a2] M (encV q) := by
  refine Con.of encV q _ hq (by decide) (Nat.le_of_ble_eq_true rfl) ?_
  intro X G Q hQ
  have G : Good w X cX1_endCode 3 RX1 none 0 := G
  refine c_weak [(0, .ref (wB w + pz (a0))), (1, .int a1), (2, .int a2)] [0, 1, 2] rfl ?_
  rw [D_X1_endCode]
  refine c_aload_n G dX1_endCode_0 rfl 0 rfl ?_
  refine c_getF G fl_X1_55 h_a0 rfl dX1_endCode_1 ?_
  refine c_bipush G (nI 32) dX1_endCode_4 kB_32 ?_
  refine c_iload_n G dX1_endCode_6 rfl 1 rfl ?_
  refine c_imul G dX1_endCode_7 ?_
  refine c_iload_n G dX1_endCode_8 rfl 2 rfl ?_
  refine c_iadd G dX1_endCode_9 ?_
  refine c_aload_n G dX1_endCode_10 rfl 0 rfl ?_
  refine c_getI G fl_X1_68 h_a0 rfl dX1_endCode_11 ?_
  refine c_iast G (lf h_a0 17 rfl) dX1_endCode_14 (fun M1 _ => ?_)
  exact c_vret G hQ dX1_endCode_15
set_option maxHeartbeats 4000000 in
set_option maxRecDepth 100000 in
theorem con_X2_readRule {w : Wp} {N : Nat} {a0 : Nat} {M : Mm} {q : Int32 × Mm} (h_a0 : lay a0 = (5, 2)) (hq : D_X2_readRule N a0 M = some q) : Con w 28 yX2_readRule cX2_readRule 2 (some .boolean) [.ref (wB w + pz (a0))] M (encI q) := by
  refine Con.of encI q _ hq (by decide) (Nat.le_of_ble_eq_true rfl) ?_
  intro X G Q hQ
  have G : Good w X cX2_readRule 2 RX2 (some .boolean) 28 := G
  refine c_weak [(0, .ref (wB w + pz (a0)))] [0] rfl ?_
  rw [D_X2_readRule]
  refine c_aload_n G dX2_readRule_0 rfl 0 rfl ?_
  refine c_getR (c' := 7) G fl_X2_9 h_a0 rfl dX2_readRule_1 (fun r1 _ h_r1 => ?_)
  refine c_callV_V (d := 0) (rest := []) G [] yv_X7_advance ml_X2_60 (by omega) (by decide) rfl rfl (Nat.le_of_ble_eq_true rfl) h_r1 (fun q hq => con_X7_advance h_r1 hq) dX2_readRule_4 (fun M1 _ => ?_)
  refine c_aload_n G dX2_readRule_7 rfl 0 rfl ?_
  refine c_getR (c' := 7) G fl_X2_9 h_a0 rfl dX2_readRule_8 (fun r2 _ h_r2 => ?_)
  refine c_callV_PI (d := 0) (rest := []) G [] yv_X7_isName ml_X2_63 (by omega) (by decide) rfl rfl (Nat.le_of_ble_eq_true rfl) h_r2 (fun q hq => con_X7_isName h_r2 hq) dX2_readRule_11 (fun q1 _ => ?_)
  refine c_if_ne (tgt := 26) G dX2_readRule_14 (by decide) (fun _ => ?_) (fun _ => ?_)
  · skip
    refine c_aload_n G dX2_readRule_17 rfl 0 rfl ?_
    refine c_getR (c' := 7) G fl_X2_9 h_a0 rfl dX2_readRule_18 (fun r3 _ h_r3 => ?_)
    refine c_iconst G (nI 2) dX2_readRule_21 kI_2 ?_
    refine c_callV_I (d := 0) (rest := []) G [.int (nI 2)] yv_X7_fail ml_X2_54 (by omega) (by decide) rfl rfl (Nat.le_of_ble_eq_true rfl) h_r3 (fun q hq => con_X7_fail h_r3 hq) dX2_readRule_22 (fun q2 _ => ?_)
    exact c_zret G hQ dX2_readRule_25
  · skip
    refine c_aload_n G dX2_readRule_26 rfl 0 rfl ?_
    refine c_aload_n G dX2_readRule_27 rfl 0 rfl ?_
    refine c_getR (c' := 1) G fl_X2_15 h_a0 rfl dX2_readRule_28 (fun r4 _ h_r4 => ?_)
    refine c_aload_n G dX2_readRule_31 rfl 0 rfl ?_
    refine c_getR (c' := 7) G fl_X2_9 h_a0 rfl dX2_readRule_32 (fun r5 _ h_r5 => ?_)
    refine c_getJ G fl_X2_66 h_r5 rfl dX2_readRule_35 ?_
    refine c_callV_PI (d := 0) (rest := [.ref (wB w + pz (a0))]) G [.long (M1.2.1 r5 8)] yv_X1_findProduction ml_X2_107 (by omega) (by decide) rfl rfl (Nat.le_of_ble_eq_true rfl) h_r4 (fun q hq => con_X1_findProduction h_r4 hq) dX2_readRule_38 (fun q3 _ => ?_)
    refine c_putI G fp_X2_123 h_a0 rfl dX2_readRule_41 (fun M2 _ => ?_)
    refine c_aload_n G dX2_readRule_44 rfl 0 rfl ?_
    refine c_getI G fl_X2_123 h_a0 rfl dX2_readRule_45 ?_
    refine c_iconst G m1 dX2_readRule_48 kI_m1 ?_
    refine c_icmp_ne (tgt := 61) G dX2_readRule_49 (by decide) (fun _ => ?_) (fun _ => ?_)
    · skip
      refine c_aload_n G dX2_readRule_52 rfl 0 rfl ?_
      refine c_getR (c' := 7) G fl_X2_9 h_a0 rfl dX2_readRule_53 (fun r6 _ h_r6 => ?_)
      refine c_iconst G (nI 3) dX2_readRule_56 kI_3 ?_
      refine c_callV_I (d := 0) (rest := []) G [.int (nI 3)] yv_X7_fail ml_X2_54 (by omega) (by decide) rfl rfl (Nat.le_of_ble_eq_true rfl) h_r6 (fun q hq => con_X7_fail h_r6 hq) dX2_readRule_57 (fun q4 _ => ?_)
      exact c_zret G hQ dX2_readRule_60
    · skip
      refine c_aload_n G dX2_readRule_61 rfl 0 rfl ?_
      refine c_getR (c' := 7) G fl_X2_9 h_a0 rfl dX2_readRule_62 (fun r7 _ h_r7 => ?_)
      refine c_callV_V (d := 0) (rest := []) G [] yv_X7_advance ml_X2_60 (by omega) (by decide) rfl rfl (Nat.le_of_ble_eq_true rfl) h_r7 (fun q hq => con_X7_advance h_r7 hq) dX2_readRule_65 (fun M3 _ => ?_)
      refine c_aload_n G dX2_readRule_68 rfl 0 rfl ?_
      refine c_callV_I (d := 1) (rest := []) G [] yv_X2_positionStands ml_X2_126 (by omega) (by decide) rfl rfl (Nat.le_of_ble_eq_true rfl) h_a0 (fun q hq => con_X2_positionStands h_a0 hq) dX2_readRule_69 (fun q5 _ => ?_)
      refine c_if_ne (tgt := 77) G dX2_readRule_72 (by decide) (fun _ => ?_) (fun _ => ?_)
      · skip
        refine c_iconst G (nI 0) dX2_readRule_75 kI_0 ?_
        exact c_zret G hQ dX2_readRule_76
      · skip
        refine c_aload_n G dX2_readRule_77 rfl 0 rfl ?_
        refine c_aload_n G dX2_readRule_78 rfl 0 rfl ?_
        refine c_callV_I (d := 1) (rest := [.ref (wB w + pz (a0))]) G [] yv_X2_seekOcc ml_X2_129 (by omega) (by decide) rfl rfl (Nat.le_of_ble_eq_true rfl) h_a0 (fun q hq => con_X2_seekOcc h_a0 hq) dX2_readRule_79 (fun q6 _ => ?_)
        refine c_putI G fp_X2_133 h_a0 rfl dX2_readRule_82 (fun M4 _ => ?_)
        refine c_aload_n G dX2_readRule_85 rfl 0 rfl ?_
        refine c_getI G fl_X2_133 h_a0 rfl dX2_readRule_86 ?_
        refine c_iconst G m1 dX2_readRule_89 kI_m1 ?_
        refine c_icmp_ne (tgt := 95) G dX2_readRule_90 (by decide) (fun _ => ?_) (fun _ => ?_)
        · skip
          refine c_iconst G (nI 0) dX2_readRule_93 kI_0 ?_
          exact c_zret G hQ dX2_readRule_94
        · skip
          refine c_aload_n G dX2_readRule_95 rfl 0 rfl ?_
          refine c_getR (c' := 1) G fl_X2_15 h_a0 rfl dX2_readRule_96 (fun r8 _ h_r8 => ?_)
          refine c_getF G fl_X2_136 h_r8 rfl dX2_readRule_99 ?_
          refine c_aload_n G dX2_readRule_102 rfl 0 rfl ?_
          refine c_getI G fl_X2_123 h_a0 rfl dX2_readRule_103 ?_
          refine c_iald G (lf h_r8 11 rfl) dX2_readRule_106 (fun v1 _ => ?_)
          refine c_aload_n G dX2_readRule_107 rfl 0 rfl ?_
          refine c_getR (c' := 1) G fl_X2_15 h_a0 rfl dX2_readRule_108 (fun r9 _ h_r9 => ?_)
          refine c_getF G fl_X2_139 h_r9 rfl dX2_readRule_111 ?_
          refine c_aload_n G dX2_readRule_114 rfl 0 rfl ?_
          refine c_getI G fl_X2_123 h_a0 rfl dX2_readRule_115 ?_
          refine c_iald G (lf h_r9 12 rfl) dX2_readRule_118 (fun v2 _ => ?_)
          refine c_iconst G m1 dX2_readRule_119 kI_m1 ?_
          refine c_ixor G dX2_readRule_120 ?_
          refine c_iand G dX2_readRule_121 ?_
          refine c_aload_n G dX2_readRule_122 rfl 0 rfl ?_
          refine c_getI G fl_X2_133 h_a0 rfl dX2_readRule_123 ?_
          refine c_iushr G dX2_readRule_126 ?_
          refine c_iconst G (nI 1) dX2_readRule_127 kI_1 ?_
          refine c_iand G dX2_readRule_128 ?_
          refine c_if_ne (tgt := 141) G dX2_readRule_129 (by decide) (fun _ => ?_) (fun _ => ?_)
          · skip
            refine c_aload_n G dX2_readRule_132 rfl 0 rfl ?_
            refine c_getR (c' := 7) G fl_X2_9 h_a0 rfl dX2_readRule_133 (fun r10 _ h_r10 => ?_)
            refine c_iconst G (nI 5) dX2_readRule_136 kI_5 ?_
            refine c_callV_I (d := 0) (rest := []) G [.int (nI 5)] yv_X7_fail ml_X2_54 (by omega) (by decide) rfl rfl (Nat.le_of_ble_eq_true rfl) h_r10 (fun q hq => con_X7_fail h_r10 hq) dX2_readRule_137 (fun q7 _ => ?_)
            exact c_zret G hQ dX2_readRule_140
          · skip
            refine c_aload_n G dX2_readRule_141 rfl 0 rfl ?_
            refine c_getR (c' := 1) G fl_X2_15 h_a0 rfl dX2_readRule_142 (fun r11 _ h_r11 => ?_)
            refine c_aload_n G dX2_readRule_145 rfl 0 rfl ?_
            refine c_getI G fl_X2_123 h_a0 rfl dX2_readRule_146 ?_
            refine c_aload_n G dX2_readRule_149 rfl 0 rfl ?_
            refine c_getI G fl_X2_133 h_a0 rfl dX2_readRule_150 ?_
            refine c_callV_V (d := 0) (rest := []) G [.int (M4.1 a0 2), .int (M4.1 a0 3)] yv_X1_beginCode ml_X2_142 (by omega) (by decide) rfl rfl (Nat.le_of_ble_eq_true rfl) h_r11 (fun q hq => con_X1_beginCode h_r11 hq) dX2_readRule_153 (fun M5 _ => ?_)
            refine c_aload_n G dX2_readRule_156 rfl 0 rfl ?_
            refine c_iconst G (nI 0) dX2_readRule_157 kI_0 ?_
            refine c_putI G fp_X2_145 h_a0 rfl dX2_readRule_158 (fun M6 _ => ?_)
            refine c_aload_n G dX2_readRule_161 rfl 0 rfl ?_
            refine c_getR (c' := 7) G fl_X2_9 h_a0 rfl dX2_readRule_162 (fun r12 _ h_r12 => ?_)
            refine c_callV_V (d := 0) (rest := []) G [] yv_X7_advance ml_X2_60 (by omega) (by decide) rfl rfl (Nat.le_of_ble_eq_true rfl) h_r12 (fun q hq => con_X7_advance h_r12 hq) dX2_readRule_165 (fun M7 _ => ?_)
            refine c_aload_n G dX2_readRule_168 rfl 0 rfl ?_
            refine c_getR (c' := 7) G fl_X2_9 h_a0 rfl dX2_readRule_169 (fun r13 _ h_r13 => ?_)
            refine c_bipush G (nI 61) dX2_readRule_172 kB_61 ?_
            refine c_callV_I (d := 1) (rest := []) G [.int (nI 61)] yv_X7_takeSign ml_X2_40 (by omega) (by decide) rfl rfl (Nat.le_of_ble_eq_true rfl) h_r13 (fun q hq => con_X7_takeSign h_r13 hq) dX2_readRule_174 (fun q8 _ => ?_)
            refine c_bj (ej := fun (p193 : Int32 × Mm) => [(0, .ref (wB w + pz (a0)))]) (sj := fun p193 => [.int p193.1]) (mj := fun p193 => p193.2) (pj := 193) (fun p193 => ?_) (fun F hJ193 => ?_)
            · skip
              refine c_istore_n G [(1, .int p193.1), (0, .ref (wB w + pz (a0)))] dX2_readRule_193 rfl (by decide) rfl ?_
              refine c_aload_n G dX2_readRule_194 rfl 1 rfl ?_
              refine c_getR (c' := 1) G fl_X2_15 h_a0 rfl dX2_readRule_195 (fun r14 _ h_r14 => ?_)
              refine c_aload_n G dX2_readRule_198 rfl 1 rfl ?_
              refine c_getI G fl_X2_123 h_a0 rfl dX2_readRule_199 ?_
              refine c_aload_n G dX2_readRule_202 rfl 1 rfl ?_
              refine c_getI G fl_X2_133 h_a0 rfl dX2_readRule_203 ?_
              refine c_callV_V (d := 0) (rest := []) G [.int (p193.2.1 a0 2), .int (p193.2.1 a0 3)] yv_X1_endCode ml_X2_151 (by omega) (by decide) rfl rfl (Nat.le_of_ble_eq_true rfl) h_r14 (fun q hq => con_X1_endCode h_r14 hq) dX2_readRule_206 (fun M9 _ => ?_)
              refine c_iload_n G dX2_readRule_209 rfl 0 rfl ?_
              exact c_zret G hQ dX2_readRule_210
            · skip
              refine c_jn (ej := fun (p192 : Mm) => [(0, .ref (wB w + pz (a0)))]) (sj := fun p192 => []) (mj := fun p192 => p192) (pj := 192) (fun p192 => ?_) (fun J1 hJ192 => ?_)
              · skip
                refine c_iconst G (nI 0) dX2_readRule_192 kI_0 ?_
                exact c_weak _ [0] rfl (hJ193 ((nI 0), p192))
              · skip
                refine c_if_eq (tgt := 192) G dX2_readRule_177 (by decide) (fun _ => ?_) (fun _ => ?_)
                · skip
                  exact c_weak _ [0] rfl (hJ192 q8.2)
                · skip
                  refine c_aload_n G dX2_readRule_180 rfl 0 rfl ?_
                  refine c_iconst G (nI 0) dX2_readRule_181 kI_0 ?_
                  refine c_callV_I (d := 27) (rest := []) G [.int (nI 0)] yv_X2_readE ml_X2_148 (by omega) (by decide) rfl rfl (Nat.le_of_ble_eq_true rfl) h_a0 (fun q hq => con_X2_readE h_a0 hq) dX2_readRule_182 (fun q9 _ => ?_)
                  refine c_if_eq (tgt := 192) G dX2_readRule_185 (by decide) (fun _ => ?_) (fun _ => ?_)
                  · skip
                    exact c_weak _ [0] rfl (hJ192 q9.2)
                  · skip
                    refine c_iconst G (nI 1) dX2_readRule_188 kI_1 ?_
                    refine c_goto (tgt := 193) G dX2_readRule_189 (by decide) ?_
                    exact c_weak _ [0] rfl (hJ193 ((nI 1), q9.2))
set_option maxHeartbeats 4000000 in
set_option maxRecDepth 100000 in
theorem cl_X2_read_22 {w : Wp} {X : Cx} {Q : State → Prop} {ρ : Int32 × Mm} (G : Good w X cX2_read 5 RX2 (some .boolean) 29) (hQ : Q = MQ (xL X) (Qd w (encI ρ)) (xA X) (xS X) (xk X) (xs X) (Aw w)) {a0 : Nat} {N : Nat} (h_a0 : lay a0 = (5, 2)) : ∀ (n : Nat) (l3_1 : Int32) (l4_1 : Int32) (M4 : Mm), Cov w X Q ρ some 5 22 [(0, .ref (wB w + pz (a0))), (3, .int l3_1), (4, .int l4_1)] [] M4 (L_X2_read_22 a0 N n l3_1 l4_1 M4) := by
  intro n
  induction n with
  | zero => intro l3_1 l4_1 M4; exact c_none
  | succ n ih =>
    intro l3_1 l4_1 M4
    rw [L_X2_read_22]
    refine c_iload G dX2_read_22 2 rfl ?_
    refine c_sipush G (nI 1000) dX2_read_24 kS_1000 ?_
    refine c_icmp_ge (tgt := 187) G dX2_read_27 (by decide) (fun _ => ?_) (fun _ => ?_)
    · skip
      refine c_iload_n G dX2_read_187 rfl 1 rfl ?_
      exact c_zret G hQ dX2_read_188
    · skip
      refine c_iload_n G dX2_read_30 rfl 1 rfl ?_
      refine c_if_eq (tgt := 187) G dX2_read_31 (by decide) (fun _ => ?_) (fun _ => ?_)
      · skip
        refine c_iload_n G dX2_read_187 rfl 1 rfl ?_
        exact c_zret G hQ dX2_read_188
      · skip
        refine c_iload G dX2_read_34 2 rfl ?_
        refine c_jn (ej := fun (p49 : Unit) => [(0, .ref (wB w + pz (a0))), (4, .int l4_1)]) (sj := fun p49 => []) (mj := fun p49 => M4) (pj := 49) (fun p49 => ?_) (fun J4 hJ49 => ?_)
        · skip
          refine c_aload_n G dX2_read_49 rfl 0 rfl ?_
          refine c_getR (c' := 7) G fl_X2_9 h_a0 rfl dX2_read_50 (fun r2 _ h_r2 => ?_)
          refine c_ldc2 G (lN 664177132) kC_X2_30 kW_664177132 dX2_read_53 ?_
          refine c_callV_PI (d := 0) (rest := []) G [.long (lN 664177132)] yv_X7_isWordOf ml_X2_32 (by omega) (by decide) rfl rfl (Nat.le_of_ble_eq_true rfl) h_r2 (fun q hq => con_X7_isWordOf h_r2 hq) dX2_read_56 (fun q1 _ => ?_)
          refine c_if_eq (tgt := 90) G dX2_read_59 (by decide) (fun _ => ?_) (fun _ => ?_)
          · skip
            refine c_aload_n G dX2_read_90 rfl 0 rfl ?_
            refine c_getR (c' := 7) G fl_X2_9 h_a0 rfl dX2_read_91 (fun r3 _ h_r3 => ?_)
            refine c_ldc2 G (lN 543204) kC_X2_44 kW_543204 dX2_read_94 ?_
            refine c_callV_PI (d := 0) (rest := []) G [.long (lN 543204)] yv_X7_isWordOf ml_X2_32 (by omega) (by decide) rfl rfl (Nat.le_of_ble_eq_true rfl) h_r3 (fun q hq => con_X7_isWordOf h_r3 hq) dX2_read_97 (fun q2 _ => ?_)
            refine c_if_eq (tgt := 131) G dX2_read_100 (by decide) (fun _ => ?_) (fun _ => ?_)
            · skip
              refine c_aload_n G dX2_read_131 rfl 0 rfl ?_
              refine c_getR (c' := 7) G fl_X2_9 h_a0 rfl dX2_read_132 (fun r4 _ h_r4 => ?_)
              refine c_ldc2 G (lN 611717) kC_X2_49 kW_611717 dX2_read_135 ?_
              refine c_callV_PI (d := 0) (rest := []) G [.long (lN 611717)] yv_X7_isWordOf ml_X2_32 (by omega) (by decide) rfl rfl (Nat.le_of_ble_eq_true rfl) h_r4 (fun q hq => con_X7_isWordOf h_r4 hq) dX2_read_138 (fun q3 _ => ?_)
              refine c_if_eq (tgt := 172) G dX2_read_141 (by decide) (fun _ => ?_) (fun _ => ?_)
              · skip
                refine c_aload_n G dX2_read_172 rfl 0 rfl ?_
                refine c_getR (c' := 7) G fl_X2_9 h_a0 rfl dX2_read_173 (fun r5 _ h_r5 => ?_)
                refine c_iconst G (nI 2) dX2_read_176 kI_2 ?_
                refine c_callV_I (d := 0) (rest := []) G [.int (nI 2)] yv_X7_fail ml_X2_54 (by omega) (by decide) rfl rfl (Nat.le_of_ble_eq_true rfl) h_r5 (fun q hq => con_X7_fail h_r5 hq) dX2_read_177 (fun q4 _ => ?_)
                refine c_istore_n G [(3, .int q4.1), (0, .ref (wB w + pz (a0))), (4, .int l4_1)] dX2_read_180 rfl (by decide) rfl ?_
                refine c_iinc G (fun y__ => [(4, .int y__), (3, .int q4.1), (0, .ref (wB w + pz (a0)))]) dX2_read_181 2 rfl kI_1 (by decide) (fun _ => rfl) (fun l4_2 _ => ?_)
                refine c_goto (tgt := 22) G dX2_read_184 (by decide) ?_
                exact c_weak _ [2, 1, 0] rfl (ih q4.1 l4_2 q4.2)
              · skip
                refine c_aload_n G dX2_read_144 rfl 0 rfl ?_
                refine c_callV_I (d := 28) (rest := []) G [] yv_X2_readRule ml_X2_51 (by omega) (by decide) rfl rfl (Nat.le_of_ble_eq_true rfl) h_a0 (fun q hq => con_X2_readRule h_a0 hq) dX2_read_145 (fun q5 _ => ?_)
                refine c_bj (ej := fun (p168 : Int32 × Mm) => [(0, .ref (wB w + pz (a0))), (4, .int l4_1)]) (sj := fun p168 => [.int p168.1]) (mj := fun p168 => p168.2) (pj := 168) (fun p168 => ?_) (fun F hJ168 => ?_)
                · skip
                  refine c_istore_n G [(3, .int p168.1), (0, .ref (wB w + pz (a0))), (4, .int l4_1)] dX2_read_168 rfl (by decide) rfl ?_
                  refine c_goto (tgt := 181) G dX2_read_169 (by decide) ?_
                  refine c_iinc G (fun y__ => [(4, .int y__), (3, .int p168.1), (0, .ref (wB w + pz (a0)))]) dX2_read_181 2 rfl kI_1 (by decide) (fun _ => rfl) (fun l4_3 _ => ?_)
                  refine c_goto (tgt := 22) G dX2_read_184 (by decide) ?_
                  exact c_weak _ [2, 1, 0] rfl (ih p168.1 l4_3 p168.2)
                · skip
                  refine c_jn (ej := fun (p167 : Mm) => [(0, .ref (wB w + pz (a0))), (4, .int l4_1)]) (sj := fun p167 => []) (mj := fun p167 => p167) (pj := 167) (fun p167 => ?_) (fun J1 hJ167 => ?_)
                  · skip
                    refine c_iconst G (nI 0) dX2_read_167 kI_0 ?_
                    exact c_weak _ [0, 1] rfl (hJ168 ((nI 0), p167))
                  · skip
                    refine c_if_eq (tgt := 167) G dX2_read_148 (by decide) (fun _ => ?_) (fun _ => ?_)
                    · skip
                      exact c_weak _ [0, 1] rfl (hJ167 q5.2)
                    · skip
                      refine c_aload_n G dX2_read_151 rfl 0 rfl ?_
                      refine c_getR (c' := 7) G fl_X2_9 h_a0 rfl dX2_read_152 (fun r6 _ h_r6 => ?_)
                      refine c_bipush G (nI 59) dX2_read_155 kB_59 ?_
                      refine c_callV_I (d := 1) (rest := []) G [.int (nI 59)] yv_X7_takeSign ml_X2_40 (by omega) (by decide) rfl rfl (Nat.le_of_ble_eq_true rfl) h_r6 (fun q hq => con_X7_takeSign h_r6 hq) dX2_read_157 (fun q6 _ => ?_)
                      refine c_if_eq (tgt := 167) G dX2_read_160 (by decide) (fun _ => ?_) (fun _ => ?_)
                      · skip
                        exact c_weak _ [0, 1] rfl (hJ167 q6.2)
                      · skip
                        refine c_iconst G (nI 1) dX2_read_163 kI_1 ?_
                        refine c_goto (tgt := 168) G dX2_read_164 (by decide) ?_
                        exact c_weak _ [0, 1] rfl (hJ168 ((nI 1), q6.2))
            · skip
              refine c_aload_n G dX2_read_103 rfl 0 rfl ?_
              refine c_callV_I (d := 3) (rest := []) G [] yv_X2_readProduction ml_X2_46 (by omega) (by decide) rfl rfl (Nat.le_of_ble_eq_true rfl) h_a0 (fun q hq => con_X2_readProduction h_a0 hq) dX2_read_104 (fun q7 _ => ?_)
              refine c_bj (ej := fun (p127 : Int32 × Mm) => [(0, .ref (wB w + pz (a0))), (4, .int l4_1)]) (sj := fun p127 => [.int p127.1]) (mj := fun p127 => p127.2) (pj := 127) (fun p127 => ?_) (fun F hJ127 => ?_)
              · skip
                refine c_istore_n G [(3, .int p127.1), (0, .ref (wB w + pz (a0))), (4, .int l4_1)] dX2_read_127 rfl (by decide) rfl ?_
                refine c_goto (tgt := 181) G dX2_read_128 (by decide) ?_
                refine c_iinc G (fun y__ => [(4, .int y__), (3, .int p127.1), (0, .ref (wB w + pz (a0)))]) dX2_read_181 2 rfl kI_1 (by decide) (fun _ => rfl) (fun l4_4 _ => ?_)
                refine c_goto (tgt := 22) G dX2_read_184 (by decide) ?_
                exact c_weak _ [2, 1, 0] rfl (ih p127.1 l4_4 p127.2)
              · skip
                refine c_jn (ej := fun (p126 : Mm) => [(0, .ref (wB w + pz (a0))), (4, .int l4_1)]) (sj := fun p126 => []) (mj := fun p126 => p126) (pj := 126) (fun p126 => ?_) (fun J2 hJ126 => ?_)
                · skip
                  refine c_iconst G (nI 0) dX2_read_126 kI_0 ?_
                  exact c_weak _ [0, 1] rfl (hJ127 ((nI 0), p126))
                · skip
                  refine c_if_eq (tgt := 126) G dX2_read_107 (by decide) (fun _ => ?_) (fun _ => ?_)
                  · skip
                    exact c_weak _ [0, 1] rfl (hJ126 q7.2)
                  · skip
                    refine c_aload_n G dX2_read_110 rfl 0 rfl ?_
                    refine c_getR (c' := 7) G fl_X2_9 h_a0 rfl dX2_read_111 (fun r7 _ h_r7 => ?_)
                    refine c_bipush G (nI 59) dX2_read_114 kB_59 ?_
                    refine c_callV_I (d := 1) (rest := []) G [.int (nI 59)] yv_X7_takeSign ml_X2_40 (by omega) (by decide) rfl rfl (Nat.le_of_ble_eq_true rfl) h_r7 (fun q hq => con_X7_takeSign h_r7 hq) dX2_read_116 (fun q8 _ => ?_)
                    refine c_if_eq (tgt := 126) G dX2_read_119 (by decide) (fun _ => ?_) (fun _ => ?_)
                    · skip
                      exact c_weak _ [0, 1] rfl (hJ126 q8.2)
                    · skip
                      refine c_iconst G (nI 1) dX2_read_122 kI_1 ?_
                      refine c_goto (tgt := 127) G dX2_read_123 (by decide) ?_
                      exact c_weak _ [0, 1] rfl (hJ127 ((nI 1), q8.2))
          · skip
            refine c_aload_n G dX2_read_62 rfl 0 rfl ?_
            refine c_callV_I (d := 3) (rest := []) G [] yv_X2_readSymbol ml_X2_36 (by omega) (by decide) rfl rfl (Nat.le_of_ble_eq_true rfl) h_a0 (fun q hq => con_X2_readSymbol h_a0 hq) dX2_read_63 (fun q9 _ => ?_)
            refine c_bj (ej := fun (p86 : Int32 × Mm) => [(0, .ref (wB w + pz (a0))), (4, .int l4_1)]) (sj := fun p86 => [.int p86.1]) (mj := fun p86 => p86.2) (pj := 86) (fun p86 => ?_) (fun F hJ86 => ?_)
            · skip
              refine c_istore_n G [(3, .int p86.1), (0, .ref (wB w + pz (a0))), (4, .int l4_1)] dX2_read_86 rfl (by decide) rfl ?_
              refine c_goto (tgt := 181) G dX2_read_87 (by decide) ?_
              refine c_iinc G (fun y__ => [(4, .int y__), (3, .int p86.1), (0, .ref (wB w + pz (a0)))]) dX2_read_181 2 rfl kI_1 (by decide) (fun _ => rfl) (fun l4_5 _ => ?_)
              refine c_goto (tgt := 22) G dX2_read_184 (by decide) ?_
              exact c_weak _ [2, 1, 0] rfl (ih p86.1 l4_5 p86.2)
            · skip
              refine c_jn (ej := fun (p85 : Mm) => [(0, .ref (wB w + pz (a0))), (4, .int l4_1)]) (sj := fun p85 => []) (mj := fun p85 => p85) (pj := 85) (fun p85 => ?_) (fun J3 hJ85 => ?_)
              · skip
                refine c_iconst G (nI 0) dX2_read_85 kI_0 ?_
                exact c_weak _ [0, 1] rfl (hJ86 ((nI 0), p85))
              · skip
                refine c_if_eq (tgt := 85) G dX2_read_66 (by decide) (fun _ => ?_) (fun _ => ?_)
                · skip
                  exact c_weak _ [0, 1] rfl (hJ85 q9.2)
                · skip
                  refine c_aload_n G dX2_read_69 rfl 0 rfl ?_
                  refine c_getR (c' := 7) G fl_X2_9 h_a0 rfl dX2_read_70 (fun r8 _ h_r8 => ?_)
                  refine c_bipush G (nI 59) dX2_read_73 kB_59 ?_
                  refine c_callV_I (d := 1) (rest := []) G [.int (nI 59)] yv_X7_takeSign ml_X2_40 (by omega) (by decide) rfl rfl (Nat.le_of_ble_eq_true rfl) h_r8 (fun q hq => con_X7_takeSign h_r8 hq) dX2_read_75 (fun q10 _ => ?_)
                  refine c_if_eq (tgt := 85) G dX2_read_78 (by decide) (fun _ => ?_) (fun _ => ?_)
                  · skip
                    exact c_weak _ [0, 1] rfl (hJ85 q10.2)
                  · skip
                    refine c_iconst G (nI 1) dX2_read_81 kI_1 ?_
                    refine c_goto (tgt := 86) G dX2_read_82 (by decide) ?_
                    exact c_weak _ [0, 1] rfl (hJ86 ((nI 1), q10.2))
        · skip
          refine c_if_eq (tgt := 49) G dX2_read_36 (by decide) (fun _ => ?_) (fun _ => ?_)
          · skip
            exact c_weak _ [0, 2] rfl (hJ49 ())
          · skip
            refine c_aload_n G dX2_read_39 rfl 0 rfl ?_
            refine c_getR (c' := 7) G fl_X2_9 h_a0 rfl dX2_read_40 (fun r9 _ h_r9 => ?_)
            refine c_getI G fl_X2_24 h_r9 rfl dX2_read_43 ?_
            refine c_if_eq (tgt := 187) G dX2_read_46 (by decide) (fun _ => ?_) (fun _ => ?_)
            · skip
              refine c_iload_n G dX2_read_187 rfl 1 rfl ?_
              exact c_zret G hQ dX2_read_188
            · skip
              exact c_weak _ [0, 2] rfl (hJ49 ())
set_option maxHeartbeats 4000000 in
set_option maxRecDepth 100000 in
theorem con_X2_read {w : Wp} {N : Nat} {a0 : Nat} {a1 : Nat} {a2 : Nat} {M : Mm} {q : Int32 × Mm} (h_a0 : lay a0 = (5, 2)) (h_a1 : lay a1 = (5, 7)) (h_a2 : lay a2 = (5, 1)) (hq : D_X2_read N a0 a1 a2 M = some q) : Con w 29 yX2_read cX2_read 5 (some .boolean) [.ref (wB w + pz (a0)), .ref (wB w + pz (a1)), .ref (wB w + pz (a2))] M (encI q) := by
  refine Con.of encI q _ hq (by decide) (Nat.le_of_ble_eq_true rfl) ?_
  intro X G Q hQ
  have G : Good w X cX2_read 5 RX2 (some .boolean) 29 := G
  refine c_weak [(0, .ref (wB w + pz (a0))), (1, .ref (wB w + pz (a1))), (2, .ref (wB w + pz (a2)))] [0, 1, 2] rfl ?_
  rw [D_X2_read]
  refine c_aload_n G dX2_read_0 rfl 0 rfl ?_
  refine c_aload_n G dX2_read_1 rfl 1 rfl ?_
  refine c_putN G fp_X2_9 (Or.inl ⟨_, rfl⟩) h_a0 h_a1 (by decide) rfl dX2_read_2 (fun M1 _ => ?_)
  refine c_aload_n G dX2_read_5 rfl 0 rfl ?_
  refine c_aload_n G dX2_read_6 rfl 2 rfl ?_
  refine c_putN G fp_X2_15 (Or.inl ⟨_, rfl⟩) h_a0 h_a2 (by decide) rfl dX2_read_7 (fun M2 _ => ?_)
  refine c_aload_n G dX2_read_10 rfl 0 rfl ?_
  refine c_getR (c' := 1) G fl_X2_15 h_a0 rfl dX2_read_11 (fun r1 _ h_r1 => ?_)
  refine c_callV_V (d := 1) (rest := []) G [] yv_X1_clear ml_X2_19 (by omega) (by decide) rfl rfl (Nat.le_of_ble_eq_true rfl) h_r1 (fun q hq => con_X1_clear h_r1 hq) dX2_read_14 (fun M3 _ => ?_)
  refine c_iconst G (nI 1) dX2_read_17 kI_1 ?_
  refine c_istore_n G [(3, .int (nI 1)), (0, .ref (wB w + pz (a0))), (1, .ref (wB w + pz (a1))), (2, .ref (wB w + pz (a2)))] dX2_read_18 rfl (by decide) rfl ?_
  refine c_iconst G (nI 0) dX2_read_19 kI_0 ?_
  refine c_istore G [(4, .int (nI 0)), (3, .int (nI 1)), (0, .ref (wB w + pz (a0))), (1, .ref (wB w + pz (a1))), (2, .ref (wB w + pz (a2)))] dX2_read_20 (by decide) rfl ?_
  refine c_weak _ [2, 1, 0] rfl (cl_X2_read_22 G hQ  h_a0 N (nI 1) (nI 0) M3)
set_option maxHeartbeats 4000000 in
set_option maxRecDepth 100000 in
theorem con_X11_keepFault {w : Wp} {N : Nat} {a0 : Nat} {a1 : Int32} {M : Mm} {q : Mm} (h_a0 : lay a0 = (5, 11)) (hq : D_X11_keepFault N a0 a1 M = some q) : Con w 0 yX11_keepFault cX11_keepFault 2 none [.ref (wB w + pz (a0)), .int a1] M (encV q) := by
  refine Con.of encV q _ hq (by decide) (Nat.le_of_ble_eq_true rfl) ?_
  intro X G Q hQ
  have G : Good w X cX11_keepFault 2 RX11 none 0 := G
  refine c_weak [(0, .ref (wB w + pz (a0))), (1, .int a1)] [0, 1] rfl ?_
  rw [D_X11_keepFault]
  refine c_aload_n G dX11_keepFault_0 rfl 0 rfl ?_
  refine c_iload_n G dX11_keepFault_1 rfl 1 rfl ?_
  refine c_bj (ej := fun (p16 : Int32) => [(0, .ref (wB w + pz (a0))), (1, .int a1)]) (sj := fun p16 => [.int p16, .ref (wB w + pz (a0))]) (mj := fun p16 => M) (pj := 16) (fun p16 => ?_) (fun F hJ16 => ?_)
  · skip
    refine c_putI G fp_X11_13 h_a0 rfl dX11_keepFault_16 (fun M1 _ => ?_)
    refine c_aload_n G dX11_keepFault_19 rfl 0 rfl ?_
    refine c_iload_n G dX11_keepFault_20 rfl 1 rfl ?_
    refine c_if_eq (tgt := 28) G dX11_keepFault_21 (by decide) (fun _ => ?_) (fun _ => ?_)
    · skip
      refine c_aload_n G dX11_keepFault_28 rfl 0 rfl ?_
      refine c_getF G fl_X11_26 h_a0 rfl dX11_keepFault_29 ?_
      refine c_getI G fl_X11_394 (lf h_a0 4 rfl) rfl dX11_keepFault_32 ?_
      refine c_putI G fp_X11_16 h_a0 rfl dX11_keepFault_35 (fun M2 _ => ?_)
      exact c_vret G hQ dX11_keepFault_38
    · skip
      refine c_iconst G m1 dX11_keepFault_24 kI_m1 ?_
      refine c_goto (tgt := 35) G dX11_keepFault_25 (by decide) ?_
      refine c_putI G fp_X11_16 h_a0 rfl dX11_keepFault_35 (fun M3 _ => ?_)
      exact c_vret G hQ dX11_keepFault_38
  · skip
    refine c_if_eq (tgt := 9) G dX11_keepFault_2 (by decide) (fun _ => ?_) (fun _ => ?_)
    · skip
      refine c_aload_n G dX11_keepFault_9 rfl 0 rfl ?_
      refine c_getF G fl_X11_26 h_a0 rfl dX11_keepFault_10 ?_
      refine c_getI G fl_X11_391 (lf h_a0 4 rfl) rfl dX11_keepFault_13 ?_
      exact c_weak _ [0, 1] rfl (hJ16 (M.1 (a0 + 1) 9))
    · skip
      refine c_iconst G (nI 0) dX11_keepFault_5 kI_0 ?_
      refine c_goto (tgt := 16) G dX11_keepFault_6 (by decide) ?_
      exact c_weak _ [0, 1] rfl (hJ16 (nI 0))
set_option maxHeartbeats 4000000 in
set_option maxRecDepth 100000 in
theorem con_X11_swapRules {w : Wp} {N : Nat} {a0 : Nat} {M : Mm} {q : Mm} (h_a0 : lay a0 = (5, 11)) (hq : D_X11_swapRules N a0 M = some q) : Con w 0 yX11_swapRules cX11_swapRules 2 none [.ref (wB w + pz (a0))] M (encV q) := by
  refine Con.of encV q _ hq (by decide) (Nat.le_of_ble_eq_true rfl) ?_
  intro X G Q hQ
  have G : Good w X cX11_swapRules 2 RX11 none 0 := G
  refine c_weak [(0, .ref (wB w + pz (a0)))] [0] rfl ?_
  rw [D_X11_swapRules]
  refine c_aload_n G dX11_swapRules_0 rfl 0 rfl ?_
  refine c_getR (c' := 1) G fl_X11_79 h_a0 rfl dX11_swapRules_1 (fun r1 _ h_r1 => ?_)
  refine c_astore_n G [(1, .ref (wB w + pz (r1))), (0, .ref (wB w + pz (a0)))] dX11_swapRules_4 rfl (by decide) rfl ?_
  refine c_aload_n G dX11_swapRules_5 rfl 1 rfl ?_
  refine c_aload_n G dX11_swapRules_6 rfl 1 rfl ?_
  refine c_getR (c' := 1) G fl_X11_75 h_a0 rfl dX11_swapRules_7 (fun r2 _ h_r2 => ?_)
  refine c_putN G fp_X11_79 (Or.inl ⟨_, rfl⟩) h_a0 h_r2 (by decide) rfl dX11_swapRules_10 (fun M1 _ => ?_)
  refine c_aload_n G dX11_swapRules_13 rfl 1 rfl ?_
  refine c_aload_n G dX11_swapRules_14 rfl 0 rfl ?_
  refine c_putN G fp_X11_75 (Or.inl ⟨_, rfl⟩) h_a0 h_r1 (by decide) rfl dX11_swapRules_15 (fun M2 _ => ?_)
  exact c_vret G hQ dX11_swapRules_18
set_option maxHeartbeats 4000000 in
set_option maxRecDepth 100000 in
theorem con_X8_clear {w : Wp} {N : Nat} {a0 : Nat} {M : Mm} {q : Mm} (h_a0 : lay a0 = (5, 8)) (hq : D_X8_clear N a0 M = some q) : Con w 1 yX8_clear cX8_clear 1 none [.ref (wB w + pz (a0))] M (encV q) := by
  refine Con.of encV q _ hq (by decide) (Nat.le_of_ble_eq_true rfl) ?_
  intro X G Q hQ
  have G : Good w X cX8_clear 1 RX8 none 1 := G
  refine c_weak [(0, .ref (wB w + pz (a0)))] [0] rfl ?_
  rw [D_X8_clear]
  refine c_aload_n G dX8_clear_0 rfl 0 rfl ?_
  refine c_iconst G (nI 0) dX8_clear_1 kI_0 ?_
  refine c_putI G fp_X8_64 h_a0 rfl dX8_clear_2 (fun M1 _ => ?_)
  refine c_aload_n G dX8_clear_5 rfl 0 rfl ?_
  refine c_getF G fl_X8_45 h_a0 rfl dX8_clear_6 ?_
  refine c_iconst G (nI 0) dX8_clear_9 kI_0 ?_
  refine c_callS_V (d := 0) (rest := []) G [.ref (wB w + pz ((a0 + 12))), .int (nI 0)] ys_J7_fill_53178 ml_X8_68 (by omega) (by decide) rfl rfl (Nat.le_of_ble_eq_true rfl) (fun q hq => con_J7_fill_53178 (ll (lf h_a0 12 rfl)) hq) dX8_clear_10 (fun M2 _ => ?_)
  exact c_vret G hQ dX8_clear_13
set_option maxHeartbeats 4000000 in
set_option maxRecDepth 100000 in
theorem cl_X3_layRows_2 {w : Wp} {X : Cx} {Q : State → Prop} {ρ : Mm} (G : Good w X cX3_layRows 6 RX3 none 1) (hQ : Q = MQ (xL X) (Qd w (encV ρ)) (xA X) (xS X) (xk X) (xs X) (Aw w)) {a1 : Nat} {a2 : Int32} {N : Nat} {a0 : Nat} (h_a1 : lay a1 = (5, 1)) (h_a0 : lay a0 = (5, 3)) : ∀ (n : Nat) (l3_1 : Int32) (M1 : Mm), Cov w X Q ρ some 6 2 [(0, .ref (wB w + pz (a0))), (1, .ref (wB w + pz (a1))), (2, .int a2), (3, .int l3_1)] [] M1 (L_X3_layRows_2 a1 a2 N a0 n l3_1 M1) := by
  intro n
  induction n with
  | zero => intro l3_1 M1; exact c_none
  | succ n ih =>
    intro l3_1 M1
    rw [L_X3_layRows_2]
    refine c_iload_n G dX3_layRows_2 rfl 3 rfl ?_
    refine c_bipush G (nI 8) dX3_layRows_3 kB_8 ?_
    refine c_aload_n G dX3_layRows_5 rfl 1 rfl ?_
    refine c_getF G fl_X3_34 h_a1 rfl dX3_layRows_6 ?_
    refine c_iload_n G dX3_layRows_9 rfl 2 rfl ?_
    refine c_iald G (lf h_a1 8 rfl) dX3_layRows_10 (fun v1 _ => ?_)
    refine c_imul G dX3_layRows_11 ?_
    refine c_icmp_ge (tgt := 80) G dX3_layRows_12 (by decide) (fun _ => ?_) (fun _ => ?_)
    · skip
      exact c_vret G hQ dX3_layRows_80
    · skip
      refine c_iload_n G dX3_layRows_15 rfl 3 rfl ?_
      refine c_bipush G (nI 8) dX3_layRows_16 kB_8 ?_
      refine c_idiv G dX3_layRows_18 (fun v2 _ => ?_)
      refine c_istore G [(4, .int v2), (0, .ref (wB w + pz (a0))), (1, .ref (wB w + pz (a1))), (2, .int a2), (3, .int l3_1)] dX3_layRows_19 (by decide) rfl ?_
      refine c_aload_n G dX3_layRows_21 rfl 1 rfl ?_
      refine c_getF G fl_X3_9 h_a0 rfl dX3_layRows_22 ?_
      refine c_bipush G (nI 8) dX3_layRows_25 kB_8 ?_
      refine c_aload_n G dX3_layRows_27 rfl 2 rfl ?_
      refine c_iload_n G dX3_layRows_28 rfl 3 rfl ?_
      refine c_iload G dX3_layRows_29 0 rfl ?_
      refine c_callV_PI (d := 0) (rest := [.int (nI 8), .ref (wB w + pz ((a0 + 1)))]) G [.int a2, .int v2] yv_X1_side ml_X3_49 (by omega) (by decide) rfl rfl (Nat.le_of_ble_eq_true rfl) h_a1 (fun q hq => con_X1_side h_a1 hq) dX3_layRows_31 (fun q1 _ => ?_)
      refine c_imul G dX3_layRows_34 ?_
      refine c_iload_n G dX3_layRows_35 rfl 4 rfl ?_
      refine c_bipush G (nI 8) dX3_layRows_36 kB_8 ?_
      refine c_irem G dX3_layRows_38 (fun v3 _ => ?_)
      refine c_iadd G dX3_layRows_39 ?_
      refine c_iald G (lf h_a0 0 rfl) dX3_layRows_40 (fun v4 _ => ?_)
      refine c_istore G [(5, .int v4), (4, .int v2), (0, .ref (wB w + pz (a0))), (1, .ref (wB w + pz (a1))), (2, .int a2), (3, .int l3_1)] dX3_layRows_41 (by decide) rfl ?_
      refine c_aload_n G dX3_layRows_43 rfl 2 rfl ?_
      refine c_getF G fl_X3_15 h_a0 rfl dX3_layRows_44 ?_
      refine c_bipush G (nI 32) dX3_layRows_47 kB_32 ?_
      refine c_iload_n G dX3_layRows_49 rfl 4 rfl ?_
      refine c_imul G dX3_layRows_50 ?_
      refine c_iload_n G dX3_layRows_51 rfl 5 rfl ?_
      refine c_iadd G dX3_layRows_52 ?_
      refine c_aload_n G dX3_layRows_53 rfl 3 rfl ?_
      refine c_getF G fl_X3_53 h_a1 rfl dX3_layRows_54 ?_
      refine c_bipush G (nI 32) dX3_layRows_57 kB_32 ?_
      refine c_iload_n G dX3_layRows_59 rfl 4 rfl ?_
      refine c_imul G dX3_layRows_60 ?_
      refine c_iload_n G dX3_layRows_61 rfl 5 rfl ?_
      refine c_iadd G dX3_layRows_62 ?_
      refine c_iald G (lf h_a1 14 rfl) dX3_layRows_63 (fun v5 _ => ?_)
      refine c_iload G dX3_layRows_64 0 rfl ?_
      refine c_bipush G (nI 8) dX3_layRows_66 kB_8 ?_
      refine c_iload G dX3_layRows_68 1 rfl ?_
      refine c_imul G dX3_layRows_70 ?_
      refine c_ishl G dX3_layRows_71 ?_
      refine c_ior G dX3_layRows_72 ?_
      refine c_iast G (lf h_a0 1 rfl) dX3_layRows_73 (fun M2 _ => ?_)
      refine c_iinc G (fun y__ => [(3, .int y__), (5, .int v4), (4, .int v2), (0, .ref (wB w + pz (a0))), (1, .ref (wB w + pz (a1))), (2, .int a2)]) dX3_layRows_74 5 rfl kI_1 (by decide) (fun _ => rfl) (fun l3_2 _ => ?_)
      refine c_goto (tgt := 2) G dX3_layRows_77 (by decide) ?_
      exact c_weak _ [3, 4, 5, 0] rfl (ih l3_2 M2)
set_option maxHeartbeats 4000000 in
set_option maxRecDepth 100000 in
theorem con_X3_layRows {w : Wp} {N : Nat} {a0 : Nat} {a1 : Nat} {a2 : Int32} {M : Mm} {q : Mm} (h_a0 : lay a0 = (5, 3)) (h_a1 : lay a1 = (5, 1)) (hq : D_X3_layRows N a0 a1 a2 M = some q) : Con w 1 yX3_layRows cX3_layRows 6 none [.ref (wB w + pz (a0)), .ref (wB w + pz (a1)), .int a2] M (encV q) := by
  refine Con.of encV q _ hq (by decide) (Nat.le_of_ble_eq_true rfl) ?_
  intro X G Q hQ
  have G : Good w X cX3_layRows 6 RX3 none 1 := G
  refine c_weak [(0, .ref (wB w + pz (a0))), (1, .ref (wB w + pz (a1))), (2, .int a2)] [0, 1, 2] rfl ?_
  rw [D_X3_layRows]
  refine c_iconst G (nI 0) dX3_layRows_0 kI_0 ?_
  refine c_istore_n G [(3, .int (nI 0)), (0, .ref (wB w + pz (a0))), (1, .ref (wB w + pz (a1))), (2, .int a2)] dX3_layRows_1 rfl (by decide) rfl ?_
  refine c_weak _ [1, 2, 3, 0] rfl (cl_X3_layRows_2 G hQ  h_a1 h_a0 N (nI 0) M)
set_option maxHeartbeats 4000000 in
set_option maxRecDepth 100000 in
theorem cl_X3_close_17 {w : Wp} {X : Cx} {Q : State → Prop} {ρ : Mm} (G : Good w X cX3_close 6 RX3 none 0) (hQ : Q = MQ (xL X) (Qd w (encV ρ)) (xA X) (xS X) (xk X) (xs X) (Aw w)) (kE58 : Mm → Option (Mm)) {a2 : Int32} {v1 : Int32} {a0 : Nat} {a1 : Int32} {l3_1 : Int32} (h_a0 : lay a0 = (1, len a0)) (hE58 : ∀ (Mz : Mm), Cov w X Q ρ some 6 58 [(0, .ref (wB w + pz (a0))), (1, .int a1), (2, .int a2), (3, .int l3_1)] [] Mz (kE58 Mz)) : ∀ (n : Nat) (l5_1 : Int32) (M2 : Mm), Cov w X Q ρ some 6 17 [(0, .ref (wB w + pz (a0))), (1, .int a1), (2, .int a2), (3, .int l3_1), (4, .int v1), (5, .int l5_1)] [] M2 (L_X3_close_17 kE58 a2 v1 a0 a1 l3_1 n l5_1 M2) := by
  intro n
  induction n with
  | zero => intro l5_1 M2; exact c_none
  | succ n ih =>
    intro l5_1 M2
    rw [L_X3_close_17]
    refine c_iload G dX3_close_17 5 rfl ?_
    refine c_iload_n G dX3_close_19 rfl 2 rfl ?_
    refine c_icmp_ge (tgt := 58) G dX3_close_20 (by decide) (fun _ => ?_) (fun _ => ?_)
    · skip
      exact c_weak _ [0, 1, 2, 3] rfl (hE58 M2)
    · skip
      refine c_iload G dX3_close_23 4 rfl ?_
      refine c_if_eq (tgt := 58) G dX3_close_25 (by decide) (fun _ => ?_) (fun _ => ?_)
      · skip
        exact c_weak _ [0, 1, 2, 3] rfl (hE58 M2)
      · skip
        refine c_aload_n G dX3_close_28 rfl 0 rfl ?_
        refine c_iload_n G dX3_close_29 rfl 1 rfl ?_
        refine c_iload G dX3_close_30 5 rfl ?_
        refine c_iadd G dX3_close_32 ?_
        refine c_iald G h_a0 dX3_close_33 (fun v2 _ => ?_)
        refine c_iload_n G dX3_close_34 rfl 3 rfl ?_
        refine c_iushr G dX3_close_35 ?_
        refine c_iconst G (nI 1) dX3_close_36 kI_1 ?_
        refine c_iand G dX3_close_37 ?_
        refine c_if_eq (tgt := 52) G dX3_close_38 (by decide) (fun _ => ?_) (fun _ => ?_)
        · skip
          refine c_iinc G (fun y__ => [(5, .int y__), (0, .ref (wB w + pz (a0))), (1, .int a1), (2, .int a2), (3, .int l3_1), (4, .int v1)]) dX3_close_52 5 rfl kI_1 (by decide) (fun _ => rfl) (fun l5_2 _ => ?_)
          refine c_goto (tgt := 17) G dX3_close_55 (by decide) ?_
          exact c_weak _ [1, 2, 3, 4, 5, 0] rfl (ih l5_2 M2)
        · skip
          refine c_aload_n G dX3_close_41 rfl 0 rfl ?_
          refine c_iload_n G dX3_close_42 rfl 1 rfl ?_
          refine c_iload G dX3_close_43 5 rfl ?_
          refine c_iadd G dX3_close_45 ?_
          refine c_dup2 G dX3_close_46 rfl rfl ?_
          refine c_iald G h_a0 dX3_close_47 (fun v3 _ => ?_)
          refine c_iload G dX3_close_48 4 rfl ?_
          refine c_ior G dX3_close_50 ?_
          refine c_iast G h_a0 dX3_close_51 (fun M3 _ => ?_)
          refine c_iinc G (fun y__ => [(5, .int y__), (0, .ref (wB w + pz (a0))), (1, .int a1), (2, .int a2), (3, .int l3_1), (4, .int v1)]) dX3_close_52 5 rfl kI_1 (by decide) (fun _ => rfl) (fun l5_3 _ => ?_)
          refine c_goto (tgt := 17) G dX3_close_55 (by decide) ?_
          exact c_weak _ [1, 2, 3, 4, 5, 0] rfl (ih l5_3 M3)
set_option maxHeartbeats 4000000 in
set_option maxRecDepth 100000 in
theorem cl_X3_close_2 {w : Wp} {X : Cx} {Q : State → Prop} {ρ : Mm} (G : Good w X cX3_close 6 RX3 none 0) (hQ : Q = MQ (xL X) (Qd w (encV ρ)) (xA X) (xS X) (xk X) (xs X) (Aw w)) {a2 : Int32} {a0 : Nat} {a1 : Int32} {N : Nat} (h_a0 : lay a0 = (1, len a0)) : ∀ (n : Nat) (l3_1 : Int32) (M1 : Mm), Cov w X Q ρ some 6 2 [(0, .ref (wB w + pz (a0))), (1, .int a1), (2, .int a2), (3, .int l3_1)] [] M1 (L_X3_close_2 a2 a0 a1 N n l3_1 M1) := by
  intro n
  induction n with
  | zero => intro l3_1 M1; exact c_none
  | succ n ih =>
    intro l3_1 M1
    rw [L_X3_close_2]
    refine c_iload_n G dX3_close_2 rfl 3 rfl ?_
    refine c_iload_n G dX3_close_3 rfl 2 rfl ?_
    refine c_icmp_ge (tgt := 64) G dX3_close_4 (by decide) (fun _ => ?_) (fun _ => ?_)
    · skip
      exact c_vret G hQ dX3_close_64
    · skip
      refine c_aload_n G dX3_close_7 rfl 0 rfl ?_
      refine c_iload_n G dX3_close_8 rfl 1 rfl ?_
      refine c_iload_n G dX3_close_9 rfl 3 rfl ?_
      refine c_iadd G dX3_close_10 ?_
      refine c_iald G h_a0 dX3_close_11 (fun v1 _ => ?_)
      refine c_istore G [(4, .int v1), (0, .ref (wB w + pz (a0))), (1, .int a1), (2, .int a2), (3, .int l3_1)] dX3_close_12 (by decide) rfl ?_
      refine c_iconst G (nI 0) dX3_close_14 kI_0 ?_
      refine c_istore G [(5, .int (nI 0)), (4, .int v1), (0, .ref (wB w + pz (a0))), (1, .int a1), (2, .int a2), (3, .int l3_1)] dX3_close_15 (by decide) rfl ?_
      refine c_weak _ [2, 3, 4, 5, 1, 0] rfl (cl_X3_close_17 G hQ _ h_a0 ?_ N (nI 0) M1)
      · intro M4
        refine c_iinc G (fun y__ => [(3, .int y__), (0, .ref (wB w + pz (a0))), (1, .int a1), (2, .int a2)]) dX3_close_58 3 rfl kI_1 (by decide) (fun _ => rfl) (fun l3_2 _ => ?_)
        refine c_goto (tgt := 2) G dX3_close_61 (by decide) ?_
        exact c_weak _ [1, 2, 3, 0] rfl (ih l3_2 M4)
set_option maxHeartbeats 4000000 in
set_option maxRecDepth 100000 in
theorem con_X3_close {w : Wp} {N : Nat} {a0 : Nat} {a1 : Int32} {a2 : Int32} {M : Mm} {q : Mm} (h_a0 : lay a0 = (1, len a0)) (hq : D_X3_close N a0 a1 a2 M = some q) : Con w 0 yX3_close cX3_close 6 none [.ref (wB w + pz (a0)), .int a1, .int a2] M (encV q) := by
  refine Con.of encV q _ hq (by decide) (Nat.le_of_ble_eq_true rfl) ?_
  intro X G Q hQ
  have G : Good w X cX3_close 6 RX3 none 0 := G
  refine c_weak [(0, .ref (wB w + pz (a0))), (1, .int a1), (2, .int a2)] [0, 1, 2] rfl ?_
  rw [D_X3_close]
  refine c_iconst G (nI 0) dX3_close_0 kI_0 ?_
  refine c_istore_n G [(3, .int (nI 0)), (0, .ref (wB w + pz (a0))), (1, .int a1), (2, .int a2)] dX3_close_1 rfl (by decide) rfl ?_
  refine c_weak _ [1, 2, 3, 0] rfl (cl_X3_close_2 G hQ  h_a0 N (nI 0) M)
set_option maxHeartbeats 4000000 in
set_option maxRecDepth 100000 in
theorem cl_X3_gather_5 {w : Wp} {X : Cx} {Q : State → Prop} {ρ : Int32 × Mm} (G : Good w X cX3_gather 8 RX3 (some .boolean) 1) (hQ : Q = MQ (xL X) (Qd w (encI ρ)) (xA X) (xS X) (xk X) (xs X) (Aw w)) {a1 : Nat} {a2 : Int32} {N : Nat} {a0 : Nat} (h_a1 : lay a1 = (5, 1)) (h_a0 : lay a0 = (5, 3)) : ∀ (n : Nat) (l3_1 : Int32) (l4_1 : Int32) (M1 : Mm), Cov w X Q ρ some 8 5 [(0, .ref (wB w + pz (a0))), (1, .ref (wB w + pz (a1))), (2, .int a2), (3, .int l3_1), (4, .int l4_1)] [] M1 (L_X3_gather_5 a1 a2 N a0 n l3_1 l4_1 M1) := by
  intro n
  induction n with
  | zero => intro l3_1 l4_1 M1; exact c_none
  | succ n ih =>
    intro l3_1 l4_1 M1
    rw [L_X3_gather_5]
    refine c_iload G dX3_gather_5 4 rfl ?_
    refine c_bipush G (nI 8) dX3_gather_7 kB_8 ?_
    refine c_aload_n G dX3_gather_9 rfl 1 rfl ?_
    refine c_getF G fl_X3_34 h_a1 rfl dX3_gather_10 ?_
    refine c_iload_n G dX3_gather_13 rfl 2 rfl ?_
    refine c_iald G (lf h_a1 8 rfl) dX3_gather_14 (fun v1 _ => ?_)
    refine c_imul G dX3_gather_15 ?_
    refine c_icmp_ge (tgt := 111) G dX3_gather_16 (by decide) (fun _ => ?_) (fun _ => ?_)
    · skip
      refine c_iload_n G dX3_gather_111 rfl 3 rfl ?_
      exact c_zret G hQ dX3_gather_112
    · skip
      refine c_iload G dX3_gather_19 4 rfl ?_
      refine c_bipush G (nI 8) dX3_gather_21 kB_8 ?_
      refine c_idiv G dX3_gather_23 (fun v2 _ => ?_)
      refine c_istore G [(5, .int v2), (0, .ref (wB w + pz (a0))), (1, .ref (wB w + pz (a1))), (2, .int a2), (3, .int l3_1), (4, .int l4_1)] dX3_gather_24 (by decide) rfl ?_
      refine c_bipush G (nI 8) dX3_gather_26 kB_8 ?_
      refine c_aload_n G dX3_gather_28 rfl 2 rfl ?_
      refine c_iload_n G dX3_gather_29 rfl 3 rfl ?_
      refine c_iload G dX3_gather_30 0 rfl ?_
      refine c_callV_PI (d := 0) (rest := [.int (nI 8)]) G [.int a2, .int v2] yv_X1_side ml_X3_49 (by omega) (by decide) rfl rfl (Nat.le_of_ble_eq_true rfl) h_a1 (fun q hq => con_X1_side h_a1 hq) dX3_gather_32 (fun q1 _ => ?_)
      refine c_imul G dX3_gather_35 ?_
      refine c_iload G dX3_gather_36 5 rfl ?_
      refine c_bipush G (nI 8) dX3_gather_38 kB_8 ?_
      refine c_irem G dX3_gather_40 (fun v3 _ => ?_)
      refine c_iadd G dX3_gather_41 ?_
      refine c_let (fun l6_1 _ => ?_)
      refine c_istore G [(6, .int l6_1), (5, .int v2), (0, .ref (wB w + pz (a0))), (1, .ref (wB w + pz (a1))), (2, .int a2), (3, .int l3_1), (4, .int l4_1)] dX3_gather_42 (by decide) rfl ?_
      refine c_aload_n G dX3_gather_44 rfl 2 rfl ?_
      refine c_getF G fl_X3_9 h_a0 rfl dX3_gather_45 ?_
      refine c_iload G dX3_gather_48 0 rfl ?_
      refine c_iald G (lf h_a0 0 rfl) dX3_gather_50 (fun v4 _ => ?_)
      refine c_aload_n G dX3_gather_51 rfl 2 rfl ?_
      refine c_getF G fl_X3_15 h_a0 rfl dX3_gather_52 ?_
      refine c_bipush G (nI 32) dX3_gather_55 kB_32 ?_
      refine c_iload_n G dX3_gather_57 rfl 4 rfl ?_
      refine c_imul G dX3_gather_58 ?_
      refine c_iload G dX3_gather_59 6 rfl ?_
      refine c_iadd G dX3_gather_61 ?_
      refine c_iald G (lf h_a0 1 rfl) dX3_gather_62 (fun v5 _ => ?_)
      refine c_bipush G (nI 8) dX3_gather_63 kB_8 ?_
      refine c_iload G dX3_gather_65 1 rfl ?_
      refine c_imul G dX3_gather_67 ?_
      refine c_iushr G dX3_gather_68 ?_
      refine c_sipush G (nI 255) dX3_gather_69 kS_255 ?_
      refine c_iand G dX3_gather_72 ?_
      refine c_ior G dX3_gather_73 ?_
      refine c_let (fun l7_1 _ => ?_)
      refine c_istore G [(7, .int l7_1), (6, .int l6_1), (5, .int v2), (0, .ref (wB w + pz (a0))), (1, .ref (wB w + pz (a1))), (2, .int a2), (3, .int l3_1), (4, .int l4_1)] dX3_gather_74 (by decide) rfl ?_
      refine c_iload_n G dX3_gather_76 rfl 6 rfl ?_
      refine c_iload G dX3_gather_77 0 rfl ?_
      refine c_aload_n G dX3_gather_79 rfl 3 rfl ?_
      refine c_getF G fl_X3_9 h_a0 rfl dX3_gather_80 ?_
      refine c_iload G dX3_gather_83 1 rfl ?_
      refine c_iald G (lf h_a0 0 rfl) dX3_gather_85 (fun v6 _ => ?_)
      refine c_bj (ej := fun (p94 : Int32) => [(0, .ref (wB w + pz (a0))), (1, .ref (wB w + pz (a1))), (2, .int a2), (4, .int l4_1), (6, .int l6_1), (7, .int l7_1)]) (sj := fun p94 => [.int p94, .int l3_1]) (mj := fun p94 => M1) (pj := 94) (fun p94 => ?_) (fun F hJ94 => ?_)
      · skip
        refine c_ior G dX3_gather_94 ?_
        refine c_let (fun l3_2 _ => ?_)
        refine c_istore_n G [(3, .int l3_2), (0, .ref (wB w + pz (a0))), (1, .ref (wB w + pz (a1))), (2, .int a2), (4, .int l4_1), (6, .int l6_1), (7, .int l7_1)] dX3_gather_95 rfl (by decide) rfl ?_
        refine c_aload_n G dX3_gather_96 rfl 1 rfl ?_
        refine c_getF G fl_X3_9 h_a0 rfl dX3_gather_97 ?_
        refine c_iload G dX3_gather_100 5 rfl ?_
        refine c_iload G dX3_gather_102 6 rfl ?_
        refine c_iast G (lf h_a0 0 rfl) dX3_gather_104 (fun M2 _ => ?_)
        refine c_iinc G (fun y__ => [(4, .int y__), (3, .int l3_2), (0, .ref (wB w + pz (a0))), (1, .ref (wB w + pz (a1))), (2, .int a2), (6, .int l6_1), (7, .int l7_1)]) dX3_gather_105 4 rfl kI_1 (by decide) (fun _ => rfl) (fun l4_2 _ => ?_)
        refine c_goto (tgt := 5) G dX3_gather_108 (by decide) ?_
        exact c_weak _ [2, 3, 4, 1, 0] rfl (ih l3_2 l4_2 M2)
      · skip
        refine c_icmp_eq (tgt := 93) G dX3_gather_86 (by decide) (fun _ => ?_) (fun _ => ?_)
        · skip
          refine c_iconst G (nI 0) dX3_gather_93 kI_0 ?_
          exact c_weak _ [3, 4, 5, 7, 1, 0] rfl (hJ94 (nI 0))
        · skip
          refine c_iconst G (nI 1) dX3_gather_89 kI_1 ?_
          refine c_goto (tgt := 94) G dX3_gather_90 (by decide) ?_
          exact c_weak _ [3, 4, 5, 7, 1, 0] rfl (hJ94 (nI 1))
set_option maxHeartbeats 4000000 in
set_option maxRecDepth 100000 in
theorem con_X3_gather {w : Wp} {N : Nat} {a0 : Nat} {a1 : Nat} {a2 : Int32} {M : Mm} {q : Int32 × Mm} (h_a0 : lay a0 = (5, 3)) (h_a1 : lay a1 = (5, 1)) (hq : D_X3_gather N a0 a1 a2 M = some q) : Con w 1 yX3_gather cX3_gather 8 (some .boolean) [.ref (wB w + pz (a0)), .ref (wB w + pz (a1)), .int a2] M (encI q) := by
  refine Con.of encI q _ hq (by decide) (Nat.le_of_ble_eq_true rfl) ?_
  intro X G Q hQ
  have G : Good w X cX3_gather 8 RX3 (some .boolean) 1 := G
  refine c_weak [(0, .ref (wB w + pz (a0))), (1, .ref (wB w + pz (a1))), (2, .int a2)] [0, 1, 2] rfl ?_
  rw [D_X3_gather]
  refine c_iconst G (nI 0) dX3_gather_0 kI_0 ?_
  refine c_istore_n G [(3, .int (nI 0)), (0, .ref (wB w + pz (a0))), (1, .ref (wB w + pz (a1))), (2, .int a2)] dX3_gather_1 rfl (by decide) rfl ?_
  refine c_iconst G (nI 0) dX3_gather_2 kI_0 ?_
  refine c_istore G [(4, .int (nI 0)), (3, .int (nI 0)), (0, .ref (wB w + pz (a0))), (1, .ref (wB w + pz (a1))), (2, .int a2)] dX3_gather_3 (by decide) rfl ?_
  refine c_weak _ [2, 3, 4, 1, 0] rfl (cl_X3_gather_5 G hQ  h_a1 h_a0 N (nI 0) (nI 0) M)
set_option maxHeartbeats 4000000 in
set_option maxRecDepth 100000 in
theorem cl_X3_firstRound_2 {w : Wp} {M : Mm} {X : Cx} {Q : State → Prop} {ρ : Int32} (G : Good w X cX3_firstRound 4 RX3 (some .int) 0) (hQ : Q = MQ (xL X) (Qd w ((encPI M) ρ)) (xA X) (xS X) (xk X) (xs X) (Aw w)) {a2 : Int32} {a0 : Nat} {a1 : Int32} (h_a0 : lay a0 = (1, len a0)) : ∀ (n : Nat) (l3_1 : Int32), Cov w X Q ρ some 4 2 [(0, .ref (wB w + pz (a0))), (1, .int a1), (2, .int a2), (3, .int l3_1)] [] M (L_X3_firstRound_2 a2 a0 a1 M n l3_1) := by
  intro n
  induction n with
  | zero => intro l3_1; exact c_none
  | succ n ih =>
    intro l3_1
    rw [L_X3_firstRound_2]
    refine c_iload_n G dX3_firstRound_2 rfl 3 rfl ?_
    refine c_iload_n G dX3_firstRound_3 rfl 2 rfl ?_
    refine c_icmp_ge (tgt := 27) G dX3_firstRound_4 (by decide) (fun _ => ?_) (fun _ => ?_)
    · skip
      refine c_iconst G m1 dX3_firstRound_27 kI_m1 ?_
      exact c_iretP G hQ dX3_firstRound_28
    · skip
      refine c_aload_n G dX3_firstRound_7 rfl 0 rfl ?_
      refine c_iload_n G dX3_firstRound_8 rfl 1 rfl ?_
      refine c_iload_n G dX3_firstRound_9 rfl 3 rfl ?_
      refine c_iadd G dX3_firstRound_10 ?_
      refine c_iald G h_a0 dX3_firstRound_11 (fun v1 _ => ?_)
      refine c_iload_n G dX3_firstRound_12 rfl 3 rfl ?_
      refine c_iushr G dX3_firstRound_13 ?_
      refine c_iconst G (nI 1) dX3_firstRound_14 kI_1 ?_
      refine c_iand G dX3_firstRound_15 ?_
      refine c_if_eq (tgt := 21) G dX3_firstRound_16 (by decide) (fun _ => ?_) (fun _ => ?_)
      · skip
        refine c_iinc G (fun y__ => [(3, .int y__), (0, .ref (wB w + pz (a0))), (1, .int a1), (2, .int a2)]) dX3_firstRound_21 3 rfl kI_1 (by decide) (fun _ => rfl) (fun l3_2 _ => ?_)
        refine c_goto (tgt := 2) G dX3_firstRound_24 (by decide) ?_
        exact c_weak _ [1, 2, 3, 0] rfl (ih l3_2)
      · skip
        refine c_iload_n G dX3_firstRound_19 rfl 3 rfl ?_
        exact c_iretP G hQ dX3_firstRound_20
set_option maxHeartbeats 4000000 in
set_option maxRecDepth 100000 in
theorem con_X3_firstRound {w : Wp} {N : Nat} {a0 : Nat} {a1 : Int32} {a2 : Int32} {M : Mm} {q : Int32} (h_a0 : lay a0 = (1, len a0)) (hq : D_X3_firstRound N a0 a1 a2 M = some q) : Con w 0 yX3_firstRound cX3_firstRound 4 (some .int) [.ref (wB w + pz (a0)), .int a1, .int a2] M ((encPI M) q) := by
  refine Con.of (encPI M) q _ hq (by decide) (Nat.le_of_ble_eq_true rfl) ?_
  intro X G Q hQ
  have G : Good w X cX3_firstRound 4 RX3 (some .int) 0 := G
  refine c_weak [(0, .ref (wB w + pz (a0))), (1, .int a1), (2, .int a2)] [0, 1, 2] rfl ?_
  rw [D_X3_firstRound]
  refine c_iconst G (nI 0) dX3_firstRound_0 kI_0 ?_
  refine c_istore_n G [(3, .int (nI 0)), (0, .ref (wB w + pz (a0))), (1, .int a1), (2, .int a2)] dX3_firstRound_1 rfl (by decide) rfl ?_
  refine c_weak _ [1, 2, 3, 0] rfl (cl_X3_firstRound_2 G hQ  h_a0 N (nI 0))
set_option maxHeartbeats 4000000 in
set_option maxRecDepth 100000 in
theorem cl_X3_findCircle_7 {w : Wp} {X : Cx} {Q : State → Prop} {ρ : Mm} (G : Good w X cX3_findCircle 3 RX3 none 1) (hQ : Q = MQ (xL X) (Qd w (encV ρ)) (xA X) (xS X) (xk X) (xs X) (Aw w)) {a1 : Nat} {a0 : Nat} {N : Nat} (h_a1 : lay a1 = (5, 1)) (h_a0 : lay a0 = (5, 3)) : ∀ (n : Nat) (l2_1 : Int32) (M2 : Mm), Cov w X Q ρ some 3 7 [(0, .ref (wB w + pz (a0))), (1, .ref (wB w + pz (a1))), (2, .int l2_1)] [] M2 (L_X3_findCircle_7 a1 a0 N n l2_1 M2) := by
  intro n
  induction n with
  | zero => intro l2_1 M2; exact c_none
  | succ n ih =>
    intro l2_1 M2
    rw [L_X3_findCircle_7]
    refine c_iload_n G dX3_findCircle_7 rfl 2 rfl ?_
    refine c_aload_n G dX3_findCircle_8 rfl 1 rfl ?_
    refine c_getI G fl_X3_24 h_a1 rfl dX3_findCircle_9 ?_
    refine c_icmp_ge (tgt := 58) G dX3_findCircle_12 (by decide) (fun _ => ?_) (fun _ => ?_)
    · skip
      exact c_vret G hQ dX3_findCircle_58
    · skip
      refine c_aload_n G dX3_findCircle_15 rfl 0 rfl ?_
      refine c_getI G fl_X3_56 h_a0 rfl dX3_findCircle_16 ?_
      refine c_iconst G m1 dX3_findCircle_19 kI_m1 ?_
      refine c_icmp_ne (tgt := 58) G dX3_findCircle_20 (by decide) (fun _ => ?_) (fun _ => ?_)
      · skip
        refine c_aload_n G dX3_findCircle_23 rfl 0 rfl ?_
        refine c_iload_n G dX3_findCircle_24 rfl 2 rfl ?_
        refine c_putI G fp_X3_59 h_a0 rfl dX3_findCircle_25 (fun M3 _ => ?_)
        refine c_aload_n G dX3_findCircle_28 rfl 0 rfl ?_
        refine c_aload_n G dX3_findCircle_29 rfl 0 rfl ?_
        refine c_getF G fl_X3_15 h_a0 rfl dX3_findCircle_30 ?_
        refine c_bipush G (nI 32) dX3_findCircle_33 kB_32 ?_
        refine c_iload_n G dX3_findCircle_35 rfl 2 rfl ?_
        refine c_imul G dX3_findCircle_36 ?_
        refine c_bipush G (nI 8) dX3_findCircle_37 kB_8 ?_
        refine c_aload_n G dX3_findCircle_39 rfl 1 rfl ?_
        refine c_getF G fl_X3_34 h_a1 rfl dX3_findCircle_40 ?_
        refine c_iload_n G dX3_findCircle_43 rfl 2 rfl ?_
        refine c_iald G (lf h_a1 8 rfl) dX3_findCircle_44 (fun v1 _ => ?_)
        refine c_imul G dX3_findCircle_45 ?_
        refine c_callS_PI (d := 0) (rest := [.ref (wB w + pz (a0))]) G [.ref (wB w + pz ((a0 + 2))), .int ((nI 32) * l2_1), .int ((nI 8) * v1)] ys_X3_firstRound ml_X3_62 (by omega) (by decide) rfl rfl (Nat.le_of_ble_eq_true rfl) (fun q hq => con_X3_firstRound (ll (lf h_a0 1 rfl)) hq) dX3_findCircle_46 (fun q1 _ => ?_)
        refine c_putI G fp_X3_56 h_a0 rfl dX3_findCircle_49 (fun M4 _ => ?_)
        refine c_iinc G (fun y__ => [(2, .int y__), (0, .ref (wB w + pz (a0))), (1, .ref (wB w + pz (a1)))]) dX3_findCircle_52 2 rfl kI_1 (by decide) (fun _ => rfl) (fun l2_2 _ => ?_)
        refine c_goto (tgt := 7) G dX3_findCircle_55 (by decide) ?_
        exact c_weak _ [1, 2, 0] rfl (ih l2_2 M4)
      · skip
        exact c_vret G hQ dX3_findCircle_58
set_option maxHeartbeats 4000000 in
set_option maxRecDepth 100000 in
theorem con_X3_findCircle {w : Wp} {N : Nat} {a0 : Nat} {a1 : Nat} {M : Mm} {q : Mm} (h_a0 : lay a0 = (5, 3)) (h_a1 : lay a1 = (5, 1)) (hq : D_X3_findCircle N a0 a1 M = some q) : Con w 1 yX3_findCircle cX3_findCircle 3 none [.ref (wB w + pz (a0)), .ref (wB w + pz (a1))] M (encV q) := by
  refine Con.of encV q _ hq (by decide) (Nat.le_of_ble_eq_true rfl) ?_
  intro X G Q hQ
  have G : Good w X cX3_findCircle 3 RX3 none 1 := G
  refine c_weak [(0, .ref (wB w + pz (a0))), (1, .ref (wB w + pz (a1)))] [0, 1] rfl ?_
  rw [D_X3_findCircle]
  refine c_aload_n G dX3_findCircle_0 rfl 0 rfl ?_
  refine c_iconst G m1 dX3_findCircle_1 kI_m1 ?_
  refine c_putI G fp_X3_56 h_a0 rfl dX3_findCircle_2 (fun M1 _ => ?_)
  refine c_iconst G (nI 0) dX3_findCircle_5 kI_0 ?_
  refine c_istore_n G [(2, .int (nI 0)), (0, .ref (wB w + pz (a0))), (1, .ref (wB w + pz (a1)))] dX3_findCircle_6 rfl (by decide) rfl ?_
  refine c_weak _ [1, 2, 0] rfl (cl_X3_findCircle_7 G hQ  h_a1 h_a0 N (nI 0) M1)
set_option maxHeartbeats 4000000 in
set_option maxRecDepth 100000 in
theorem cl_X3_find_28 {w : Wp} {X : Cx} {Q : State → Prop} {ρ : Mm} (G : Good w X cX3_find 5 RX3 none 2) (hQ : Q = MQ (xL X) (Qd w (encV ρ)) (xA X) (xS X) (xk X) (xs X) (Aw w)) (kE82 : Int32 → Mm → Option (Mm)) {a1 : Nat} {N : Nat} {a0 : Nat} {l3_1 : Int32} (h_a1 : lay a1 = (5, 1)) (h_a0 : lay a0 = (5, 3)) (hE82 : ∀ (z2 : Int32), ∀ (Mz : Mm), Cov w X Q ρ some 5 82 [(0, .ref (wB w + pz (a0))), (1, .ref (wB w + pz (a1))), (2, .int z2), (3, .int l3_1)] [] Mz (kE82 z2 Mz)) : ∀ (n : Nat) (l2_2 : Int32) (l4_1 : Int32) (M5 : Mm), Cov w X Q ρ some 5 28 [(0, .ref (wB w + pz (a0))), (1, .ref (wB w + pz (a1))), (2, .int l2_2), (3, .int l3_1), (4, .int l4_1)] [] M5 (L_X3_find_28 kE82 a1 N a0 n l2_2 l4_1 M5) := by
  intro n
  induction n with
  | zero => intro l2_2 l4_1 M5; exact c_none
  | succ n ih =>
    intro l2_2 l4_1 M5
    rw [L_X3_find_28]
    refine c_iload G dX3_find_28 4 rfl ?_
    refine c_aload_n G dX3_find_30 rfl 1 rfl ?_
    refine c_getI G fl_X3_24 h_a1 rfl dX3_find_31 ?_
    refine c_icmp_ge (tgt := 82) G dX3_find_34 (by decide) (fun _ => ?_) (fun _ => ?_)
    · skip
      exact c_weak _ [0, 1, 2, 3] rfl (hE82 l2_2 M5)
    · skip
      refine c_aload_n G dX3_find_37 rfl 0 rfl ?_
      refine c_aload_n G dX3_find_38 rfl 1 rfl ?_
      refine c_iload G dX3_find_39 4 rfl ?_
      refine c_callV_V (d := 1) (rest := []) G [.ref (wB w + pz (a1)), .int l4_1] yv_X3_layRows ml_X3_30 (by omega) (by decide) rfl rfl (Nat.le_of_ble_eq_true rfl) h_a0 (fun q hq => con_X3_layRows h_a0 h_a1 hq) dX3_find_41 (fun M6 _ => ?_)
      refine c_aload_n G dX3_find_44 rfl 0 rfl ?_
      refine c_getF G fl_X3_15 h_a0 rfl dX3_find_45 ?_
      refine c_bipush G (nI 32) dX3_find_48 kB_32 ?_
      refine c_iload G dX3_find_50 4 rfl ?_
      refine c_imul G dX3_find_52 ?_
      refine c_bipush G (nI 8) dX3_find_53 kB_8 ?_
      refine c_aload_n G dX3_find_55 rfl 1 rfl ?_
      refine c_getF G fl_X3_34 h_a1 rfl dX3_find_56 ?_
      refine c_iload G dX3_find_59 4 rfl ?_
      refine c_iald G (lf h_a1 8 rfl) dX3_find_61 (fun v1 _ => ?_)
      refine c_imul G dX3_find_62 ?_
      refine c_callS_V (d := 0) (rest := []) G [.ref (wB w + pz ((a0 + 2))), .int ((nI 32) * l4_1), .int ((nI 8) * v1)] ys_X3_close ml_X3_37 (by omega) (by decide) rfl rfl (Nat.le_of_ble_eq_true rfl) (fun q hq => con_X3_close (ll (lf h_a0 1 rfl)) hq) dX3_find_63 (fun M7 _ => ?_)
      refine c_iload_n G dX3_find_66 rfl 2 rfl ?_
      refine c_aload_n G dX3_find_67 rfl 0 rfl ?_
      refine c_aload_n G dX3_find_68 rfl 1 rfl ?_
      refine c_iload G dX3_find_69 4 rfl ?_
      refine c_callV_I (d := 1) (rest := [.int l2_2]) G [.ref (wB w + pz (a1)), .int l4_1] yv_X3_gather ml_X3_41 (by omega) (by decide) rfl rfl (Nat.le_of_ble_eq_true rfl) h_a0 (fun q hq => con_X3_gather h_a0 h_a1 hq) dX3_find_71 (fun q1 _ => ?_)
      refine c_ior G dX3_find_74 ?_
      refine c_let (fun l2_3 _ => ?_)
      refine c_istore_n G [(2, .int l2_3), (0, .ref (wB w + pz (a0))), (1, .ref (wB w + pz (a1))), (3, .int l3_1), (4, .int l4_1)] dX3_find_75 rfl (by decide) rfl ?_
      refine c_iinc G (fun y__ => [(4, .int y__), (2, .int l2_3), (0, .ref (wB w + pz (a0))), (1, .ref (wB w + pz (a1))), (3, .int l3_1)]) dX3_find_76 4 rfl kI_1 (by decide) (fun _ => rfl) (fun l4_2 _ => ?_)
      refine c_goto (tgt := 28) G dX3_find_79 (by decide) ?_
      exact c_weak _ [2, 3, 1, 4, 0] rfl (ih l2_3 l4_2 q1.2)
set_option maxHeartbeats 4000000 in
set_option maxRecDepth 100000 in
theorem cl_X3_find_12 {w : Wp} {X : Cx} {Q : State → Prop} {ρ : Mm} (G : Good w X cX3_find 5 RX3 none 2) (hQ : Q = MQ (xL X) (Qd w (encV ρ)) (xA X) (xS X) (xk X) (xs X) (Aw w)) {N : Nat} {a0 : Nat} {a1 : Nat} (h_a0 : lay a0 = (5, 3)) (h_a1 : lay a1 = (5, 1)) : ∀ (n : Nat) (l2_1 : Int32) (l3_1 : Int32) (M2 : Mm), Cov w X Q ρ some 5 12 [(0, .ref (wB w + pz (a0))), (1, .ref (wB w + pz (a1))), (2, .int l2_1), (3, .int l3_1)] [] M2 (L_X3_find_12 N a0 a1 n l2_1 l3_1 M2) := by
  intro n
  induction n with
  | zero => intro l2_1 l3_1 M2; exact c_none
  | succ n ih =>
    intro l2_1 l3_1 M2
    rw [L_X3_find_12]
    refine c_iload_n G dX3_find_12 rfl 3 rfl ?_
    refine c_sipush G (nI 512) dX3_find_13 kS_512 ?_
    refine c_icmp_gt (tgt := 88) G dX3_find_16 (by decide) (fun _ => ?_) (fun _ => ?_)
    · skip
      refine c_aload_n G dX3_find_88 rfl 0 rfl ?_
      refine c_aload_n G dX3_find_89 rfl 1 rfl ?_
      refine c_callV_V (d := 1) (rest := []) G [.ref (wB w + pz (a1))] yv_X3_findCircle ml_X3_45 (by omega) (by decide) rfl rfl (Nat.le_of_ble_eq_true rfl) h_a0 (fun q hq => con_X3_findCircle h_a0 h_a1 hq) dX3_find_90 (fun M3 _ => ?_)
      exact c_vret G hQ dX3_find_93
    · skip
      refine c_iload_n G dX3_find_19 rfl 2 rfl ?_
      refine c_if_eq (tgt := 88) G dX3_find_20 (by decide) (fun _ => ?_) (fun _ => ?_)
      · skip
        refine c_aload_n G dX3_find_88 rfl 0 rfl ?_
        refine c_aload_n G dX3_find_89 rfl 1 rfl ?_
        refine c_callV_V (d := 1) (rest := []) G [.ref (wB w + pz (a1))] yv_X3_findCircle ml_X3_45 (by omega) (by decide) rfl rfl (Nat.le_of_ble_eq_true rfl) h_a0 (fun q hq => con_X3_findCircle h_a0 h_a1 hq) dX3_find_90 (fun M4 _ => ?_)
        exact c_vret G hQ dX3_find_93
      · skip
        refine c_iconst G (nI 0) dX3_find_23 kI_0 ?_
        refine c_istore_n G [(2, .int (nI 0)), (0, .ref (wB w + pz (a0))), (1, .ref (wB w + pz (a1))), (3, .int l3_1)] dX3_find_24 rfl (by decide) rfl ?_
        refine c_iconst G (nI 0) dX3_find_25 kI_0 ?_
        refine c_istore G [(4, .int (nI 0)), (2, .int (nI 0)), (0, .ref (wB w + pz (a0))), (1, .ref (wB w + pz (a1))), (3, .int l3_1)] dX3_find_26 (by decide) rfl ?_
        refine c_weak _ [2, 3, 1, 4, 0] rfl (cl_X3_find_28 G hQ _ h_a1 h_a0 ?_ N (nI 0) (nI 0) M2)
        · intro l2_4 M8
          refine c_iinc G (fun y__ => [(3, .int y__), (0, .ref (wB w + pz (a0))), (1, .ref (wB w + pz (a1))), (2, .int l2_4)]) dX3_find_82 3 rfl kI_1 (by decide) (fun _ => rfl) (fun l3_2 _ => ?_)
          refine c_goto (tgt := 12) G dX3_find_85 (by decide) ?_
          exact c_weak _ [1, 2, 3, 0] rfl (ih l2_4 l3_2 M8)
set_option maxHeartbeats 4000000 in
set_option maxRecDepth 100000 in
theorem con_X3_find {w : Wp} {N : Nat} {a0 : Nat} {a1 : Nat} {M : Mm} {q : Mm} (h_a0 : lay a0 = (5, 3)) (h_a1 : lay a1 = (5, 1)) (hq : D_X3_find N a0 a1 M = some q) : Con w 2 yX3_find cX3_find 5 none [.ref (wB w + pz (a0)), .ref (wB w + pz (a1))] M (encV q) := by
  refine Con.of encV q _ hq (by decide) (Nat.le_of_ble_eq_true rfl) ?_
  intro X G Q hQ
  have G : Good w X cX3_find 5 RX3 none 2 := G
  refine c_weak [(0, .ref (wB w + pz (a0))), (1, .ref (wB w + pz (a1)))] [0, 1] rfl ?_
  rw [D_X3_find]
  refine c_aload_n G dX3_find_0 rfl 0 rfl ?_
  refine c_getF G fl_X3_9 h_a0 rfl dX3_find_1 ?_
  refine c_iconst G (nI 0) dX3_find_4 kI_0 ?_
  refine c_callS_V (d := 0) (rest := []) G [.ref (wB w + pz ((a0 + 1))), .int (nI 0)] ys_J7_fill_53178 ml_X3_18 (by omega) (by decide) rfl rfl (Nat.le_of_ble_eq_true rfl) (fun q hq => con_J7_fill_53178 (ll (lf h_a0 0 rfl)) hq) dX3_find_5 (fun M1 _ => ?_)
  refine c_iconst G (nI 1) dX3_find_8 kI_1 ?_
  refine c_istore_n G [(2, .int (nI 1)), (0, .ref (wB w + pz (a0))), (1, .ref (wB w + pz (a1)))] dX3_find_9 rfl (by decide) rfl ?_
  refine c_iconst G (nI 0) dX3_find_10 kI_0 ?_
  refine c_istore_n G [(3, .int (nI 0)), (2, .int (nI 1)), (0, .ref (wB w + pz (a0))), (1, .ref (wB w + pz (a1)))] dX3_find_11 rfl (by decide) rfl ?_
  refine c_weak _ [2, 3, 1, 0] rfl (cl_X3_find_12 G hQ  h_a0 h_a1 N (nI 1) (nI 0) M1)
set_option maxHeartbeats 4000000 in
set_option maxRecDepth 100000 in
theorem cl_X5_isAwaited_3 {w : Wp} {M : Mm} {X : Cx} {Q : State → Prop} {ρ : Int32} (G : Good w X cX5_isAwaited 6 RX5 (some .boolean) 0) (hQ : Q = MQ (xL X) (Qd w ((encPI M) ρ)) (xA X) (xS X) (xk X) (xs X) (Aw w)) {a3 : Int32} {a1 : Nat} {a2 : Int32} {a4 : Int32} (h_a1 : lay a1 = (5, 3)) : ∀ (n : Nat) (l5_1 : Int32), Cov w X Q ρ some 6 3 [(1, .ref (wB w + pz (a1))), (2, .int a2), (3, .int a3), (4, .int a4), (5, .int l5_1)] [] M (L_X5_isAwaited_3 a3 a1 a2 M a4 n l5_1) := by
  intro n
  induction n with
  | zero => intro l5_1; exact c_none
  | succ n ih =>
    intro l5_1
    rw [L_X5_isAwaited_3]
    refine c_iload G dX5_isAwaited_3 4 rfl ?_
    refine c_bipush G (nI 8) dX5_isAwaited_5 kB_8 ?_
    refine c_icmp_ge (tgt := 47) G dX5_isAwaited_7 (by decide) (fun _ => ?_) (fun _ => ?_)
    · skip
      refine c_iconst G (nI 0) dX5_isAwaited_47 kI_0 ?_
      exact c_zretP G hQ dX5_isAwaited_48
    · skip
      refine c_iload_n G dX5_isAwaited_10 rfl 2 rfl ?_
      refine c_iload G dX5_isAwaited_11 4 rfl ?_
      refine c_iushr G dX5_isAwaited_13 ?_
      refine c_iconst G (nI 1) dX5_isAwaited_14 kI_1 ?_
      refine c_iand G dX5_isAwaited_15 ?_
      refine c_if_eq (tgt := 41) G dX5_isAwaited_16 (by decide) (fun _ => ?_) (fun _ => ?_)
      · skip
        refine c_iinc G (fun y__ => [(5, .int y__), (1, .ref (wB w + pz (a1))), (2, .int a2), (3, .int a3), (4, .int a4)]) dX5_isAwaited_41 4 rfl kI_1 (by decide) (fun _ => rfl) (fun l5_2 _ => ?_)
        refine c_goto (tgt := 3) G dX5_isAwaited_44 (by decide) ?_
        exact c_weak _ [1, 2, 3, 4, 0] rfl (ih l5_2)
      · skip
        refine c_aload_n G dX5_isAwaited_19 rfl 0 rfl ?_
        refine c_getF G fl_X5_42 h_a1 rfl dX5_isAwaited_20 ?_
        refine c_bipush G (nI 8) dX5_isAwaited_23 kB_8 ?_
        refine c_iload_n G dX5_isAwaited_25 rfl 1 rfl ?_
        refine c_imul G dX5_isAwaited_26 ?_
        refine c_iload G dX5_isAwaited_27 4 rfl ?_
        refine c_iadd G dX5_isAwaited_29 ?_
        refine c_iald G (lf h_a1 0 rfl) dX5_isAwaited_30 (fun v1 _ => ?_)
        refine c_iload G dX5_isAwaited_31 3 rfl ?_
        refine c_iushr G dX5_isAwaited_33 ?_
        refine c_iconst G (nI 1) dX5_isAwaited_34 kI_1 ?_
        refine c_iand G dX5_isAwaited_35 ?_
        refine c_if_eq (tgt := 41) G dX5_isAwaited_36 (by decide) (fun _ => ?_) (fun _ => ?_)
        · skip
          refine c_iinc G (fun y__ => [(5, .int y__), (1, .ref (wB w + pz (a1))), (2, .int a2), (3, .int a3), (4, .int a4)]) dX5_isAwaited_41 4 rfl kI_1 (by decide) (fun _ => rfl) (fun l5_3 _ => ?_)
          refine c_goto (tgt := 3) G dX5_isAwaited_44 (by decide) ?_
          exact c_weak _ [1, 2, 3, 4, 0] rfl (ih l5_3)
        · skip
          refine c_iconst G (nI 1) dX5_isAwaited_39 kI_1 ?_
          exact c_zretP G hQ dX5_isAwaited_40
set_option maxHeartbeats 4000000 in
set_option maxRecDepth 100000 in
theorem con_X5_isAwaited {w : Wp} {N : Nat} {a0 : Nat} {a1 : Nat} {a2 : Int32} {a3 : Int32} {a4 : Int32} {M : Mm} {q : Int32} (h_a0 : lay a0 = (5, 5)) (h_a1 : lay a1 = (5, 3)) (hq : D_X5_isAwaited N a0 a1 a2 a3 a4 M = some q) : Con w 0 yX5_isAwaited cX5_isAwaited 6 (some .boolean) [.ref (wB w + pz (a0)), .ref (wB w + pz (a1)), .int a2, .int a3, .int a4] M ((encPI M) q) := by
  refine Con.of (encPI M) q _ hq (by decide) (Nat.le_of_ble_eq_true rfl) ?_
  intro X G Q hQ
  have G : Good w X cX5_isAwaited 6 RX5 (some .boolean) 0 := G
  refine c_weak [(0, .ref (wB w + pz (a0))), (1, .ref (wB w + pz (a1))), (2, .int a2), (3, .int a3), (4, .int a4)] [0, 1, 2, 3, 4] rfl ?_
  rw [D_X5_isAwaited]
  refine c_iconst G (nI 0) dX5_isAwaited_0 kI_0 ?_
  refine c_istore G [(5, .int (nI 0)), (0, .ref (wB w + pz (a0))), (1, .ref (wB w + pz (a1))), (2, .int a2), (3, .int a3), (4, .int a4)] dX5_isAwaited_1 (by decide) rfl ?_
  refine c_weak _ [2, 3, 4, 5, 0] rfl (cl_X5_isAwaited_3 G hQ  h_a1 N (nI 0))
set_option maxHeartbeats 4000000 in
set_option maxRecDepth 100000 in
theorem cl_X5_fill_27 {w : Wp} {X : Cx} {Q : State → Prop} {ρ : Int32 × Mm} (G : Good w X cX5_fill 10 RX5 (some .int) 1) (hQ : Q = MQ (xL X) (Qd w (encI ρ)) (xA X) (xS X) (xk X) (xs X) (Aw w)) (kE94 : Int32 → Int32 → Mm → Option (Int32 × Mm)) {a4 : Int32} {N : Nat} {a0 : Nat} {a1 : Nat} {a2 : Int32} {a5 : Int32} {l8_1 : Int32} (h_a0 : lay a0 = (5, 5)) (h_a1 : lay a1 = (5, 3)) (hE94 : ∀ (z6 : Int32), ∀ (z7 : Int32), ∀ (Mz : Mm), Cov w X Q ρ some 10 94 [(0, .ref (wB w + pz (a0))), (1, .ref (wB w + pz (a1))), (2, .int a2), (4, .int a4), (5, .int a5), (6, .int z6), (7, .int z7), (8, .int l8_1)] [] Mz (kE94 z6 z7 Mz)) : ∀ (n : Nat) (l6_2 : Int32) (l7_2 : Int32) (l9_1 : Int32) (M2 : Mm), Cov w X Q ρ some 10 27 [(0, .ref (wB w + pz (a0))), (1, .ref (wB w + pz (a1))), (2, .int a2), (4, .int a4), (5, .int a5), (6, .int l6_2), (7, .int l7_2), (8, .int l8_1), (9, .int l9_1)] [] M2 (L_X5_fill_27 kE94 a4 N a0 a1 a2 a5 n l6_2 l7_2 l9_1 M2) := by
  intro n
  induction n with
  | zero => intro l6_2 l7_2 l9_1 M2; exact c_none
  | succ n ih =>
    intro l6_2 l7_2 l9_1 M2
    rw [L_X5_fill_27]
    refine c_iload G dX5_fill_27 8 rfl ?_
    refine c_bipush G (nI 8) dX5_fill_29 kB_8 ?_
    refine c_icmp_ge (tgt := 94) G dX5_fill_31 (by decide) (fun _ => ?_) (fun _ => ?_)
    · skip
      exact c_weak _ [0, 1, 2, 3, 4, 5, 6, 7] rfl (hE94 l6_2 l7_2 M2)
    · skip
      refine c_iload G dX5_fill_34 5 rfl ?_
      refine c_iload G dX5_fill_36 3 rfl ?_
      refine c_iand G dX5_fill_38 ?_
      refine c_iload G dX5_fill_39 8 rfl ?_
      refine c_iushr G dX5_fill_41 ?_
      refine c_iconst G (nI 1) dX5_fill_42 kI_1 ?_
      refine c_iand G dX5_fill_43 ?_
      refine c_if_eq (tgt := 88) G dX5_fill_44 (by decide) (fun _ => ?_) (fun _ => ?_)
      · skip
        refine c_iinc G (fun y__ => [(9, .int y__), (0, .ref (wB w + pz (a0))), (1, .ref (wB w + pz (a1))), (2, .int a2), (4, .int a4), (5, .int a5), (6, .int l6_2), (7, .int l7_2), (8, .int l8_1)]) dX5_fill_88 8 rfl kI_1 (by decide) (fun _ => rfl) (fun l9_2 _ => ?_)
        refine c_goto (tgt := 27) G dX5_fill_91 (by decide) ?_
        exact c_weak _ [1, 2, 3, 4, 5, 6, 7, 8, 0] rfl (ih l6_2 l7_2 l9_2 M2)
      · skip
        refine c_aload_n G dX5_fill_47 rfl 0 rfl ?_
        refine c_aload_n G dX5_fill_48 rfl 1 rfl ?_
        refine c_iload_n G dX5_fill_49 rfl 2 rfl ?_
        refine c_iload G dX5_fill_50 5 rfl ?_
        refine c_iload G dX5_fill_52 8 rfl ?_
        refine c_callV_PI (d := 0) (rest := []) G [.ref (wB w + pz (a1)), .int a2, .int l6_2, .int l9_1] yv_X5_isAwaited ml_X5_98 (by omega) (by decide) rfl rfl (Nat.le_of_ble_eq_true rfl) h_a0 (fun q hq => con_X5_isAwaited h_a0 h_a1 hq) dX5_fill_54 (fun q1 _ => ?_)
        refine c_if_ne (tgt := 88) G dX5_fill_57 (by decide) (fun _ => ?_) (fun _ => ?_)
        · skip
          refine c_aload_n G dX5_fill_60 rfl 0 rfl ?_
          refine c_getF G fl_X5_15 h_a0 rfl dX5_fill_61 ?_
          refine c_bipush G (nI 8) dX5_fill_64 kB_8 ?_
          refine c_iload_n G dX5_fill_66 rfl 2 rfl ?_
          refine c_imul G dX5_fill_67 ?_
          refine c_iload G dX5_fill_68 8 rfl ?_
          refine c_iadd G dX5_fill_70 ?_
          refine c_iload G dX5_fill_71 4 rfl ?_
          refine c_iast G (lf h_a0 1 rfl) dX5_fill_73 (fun M3 _ => ?_)
          refine c_iload G dX5_fill_74 5 rfl ?_
          refine c_iconst G (nI 1) dX5_fill_76 kI_1 ?_
          refine c_iload G dX5_fill_77 8 rfl ?_
          refine c_ishl G dX5_fill_79 ?_
          refine c_iconst G m1 dX5_fill_80 kI_m1 ?_
          refine c_ixor G dX5_fill_81 ?_
          refine c_iand G dX5_fill_82 ?_
          refine c_let (fun l6_3 _ => ?_)
          refine c_istore G [(6, .int l6_3), (0, .ref (wB w + pz (a0))), (1, .ref (wB w + pz (a1))), (2, .int a2), (4, .int a4), (5, .int a5), (7, .int l7_2), (8, .int l8_1), (9, .int l9_1)] dX5_fill_83 (by decide) rfl ?_
          refine c_iconst G (nI 1) dX5_fill_85 kI_1 ?_
          refine c_istore G [(7, .int (nI 1)), (6, .int l6_3), (0, .ref (wB w + pz (a0))), (1, .ref (wB w + pz (a1))), (2, .int a2), (4, .int a4), (5, .int a5), (8, .int l8_1), (9, .int l9_1)] dX5_fill_86 (by decide) rfl ?_
          refine c_iinc G (fun y__ => [(9, .int y__), (7, .int (nI 1)), (6, .int l6_3), (0, .ref (wB w + pz (a0))), (1, .ref (wB w + pz (a1))), (2, .int a2), (4, .int a4), (5, .int a5), (8, .int l8_1)]) dX5_fill_88 8 rfl kI_1 (by decide) (fun _ => rfl) (fun l9_3 _ => ?_)
          refine c_goto (tgt := 27) G dX5_fill_91 (by decide) ?_
          exact c_weak _ [3, 4, 5, 6, 7, 2, 1, 8, 0] rfl (ih l6_3 (nI 1) l9_3 M3)
        · skip
          refine c_iinc G (fun y__ => [(9, .int y__), (0, .ref (wB w + pz (a0))), (1, .ref (wB w + pz (a1))), (2, .int a2), (4, .int a4), (5, .int a5), (6, .int l6_2), (7, .int l7_2), (8, .int l8_1)]) dX5_fill_88 8 rfl kI_1 (by decide) (fun _ => rfl) (fun l9_4 _ => ?_)
          refine c_goto (tgt := 27) G dX5_fill_91 (by decide) ?_
          exact c_weak _ [1, 2, 3, 4, 5, 6, 7, 8, 0] rfl (ih l6_2 l7_2 l9_4 M2)
